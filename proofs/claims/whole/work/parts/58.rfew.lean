section RW
variable {m : Nat} {A : Int → Int} {Q : Int → List zKl} {a t : Int}
theorem MR_cg {h : zH} {Y : Nat → Nat → Int32} {A A' : Int → Int} (hM : MR h m A Y) (hj : ∀ j : Nat, j < 530 → A' j = A j) : MR h m A' Y := ⟨hM.1, fun j h => by rw [hj j h]; exact hM.2 j h⟩
theorem Ma4 {h : zH} {Y : Nat → Nat → Int32} (hM : MAt h m Y) {e : Int} (h1 : 0 ≤ e) (h2 : e < 530) : z_aI h (some (m + 4)) (iI e) = some (Y 4 e.toNat) := z_aI_k (hM 4 (by omega)) (Or.inl rfl) h1 (by simpa using h2) (by decide)
theorem mix_step (A0 A1 : Int → Int) (i : Nat) : uI (fun j => if 0 ≤ j ∧ j < (i : Int) then A0 j else A1 j) (i : Int) (A0 (i : Int)) = fun j => if 0 ≤ j ∧ j < ((i + 1 : Nat) : Int) then A0 j else A1 j := by
  funext j
  by_cases e : j = (i : Int)
  · subst e; rw [uI_s, if_pos (by omega)]
  · rw [uI_n _ _ e]
    by_cases q : 0 ≤ j ∧ j < (i : Int)
    · rw [if_pos q, if_pos (by omega)]
    · rw [if_neg q, if_neg (by omega)]
theorem R_back {A1 : Int → Int} {h : zH} {Y : Nat → Nat → Int32} (hM : MR h m A1 Y) (hB : ∀ j : Nat, j < 530 → Y 4 j = iI (A j)) (P : Prop) : ∃ h', f_X11_eats_b93 (some m) (tb P) h = some (tb P, h') ∧ go1 m h Y A h' := by
  have key := z_forI (body := fun s : (Option Nat) × Int32 × Int32 × zH => f_X11_eats_c96 s.1 s.2.1 s.2.2.1 s.2.2.2) (Q := fun r => r.1 = tb P ∧ go1 m h Y A r.2)
    (fun i s => ∃ h', s = (some m, tb P, iI (i : Int), h') ∧ go1 m h Y (fun j => if 0 ≤ j ∧ j < (i : Int) then A j else A1 j) h') 530 ?_ ?_ 530 0 (some m, tb P, iI 0, h) (by omega) ⟨h, rfl, Y, MR_cg hM (fun j hj => by rw [if_neg (by omega)]), o1_rf Y, fr_rf _ _ _⟩
  · obtain ⟨r, k1, k2, k3⟩ := key
    refine ⟨r.2, ?_, k3⟩
    unfold f_X11_eats_b93 f_X11_eats_b96
    rw [iI_lit]
    have e : r = (tb P, r.2) := by rw [← k2]
    rw [← e]; exact k1
  · rintro i s hi ⟨h1, rfl, Y1, k1, k2, k3⟩
    have e4 : Y1 4 i = iI (A (i : Int)) := by rw [k2 4 (by omega)]; exact hB i hi
    have g := go1_ms k1 (e := (i : Int)) (v := A (i : Int)) (by omega) (by omega)
    rw [mix_step] at g
    refine Or.inl ⟨_, ?_, _, rfl, go1_tr ⟨k1, k2, k3⟩ g⟩
    show f_X11_eats_c96 (some m) (tb P) (iI (i : Int)) h1 = _
    unfold f_X11_eats_c96
    simp only [iI_lit, iI_add, iI_sub, iI_mul, iI_neg]
    rw [if_neg (nLe (by omega)), Mg0 k1.1, Option.bind_some, Mg3 k1.1, Option.bind_some, Ma4 k1.1 (by omega) (by omega), Option.bind_some, show (i : Int).toNat = i by omega, e4, M_set k1 (by omega) (by omega), Option.bind_some]
    rfl
  · rintro s ⟨h1, rfl, Y1, k1, k2, k3⟩
    refine ⟨(tb P, h1), ?_, rfl, Y1, MR_cg k1 (fun j hj => by rw [if_pos (by omega)]), k2, k3⟩
    show f_X11_eats_c96 (some m) (tb P) (iI ((530 : Nat) : Int)) h1 = _
    unfold f_X11_eats_c96
    simp only [iI_lit, iI_add, iI_sub, iI_mul, iI_neg]
    rw [if_pos (cLe (by omega))]
    have : tb P = iI 0 ∨ tb P = iI 1 := tb_01 P
    rw [if_pos this]; rfl
theorem R_eatsL {h0 : zH} {Y0 : Nat → Nat → Int32} (hg : good A Q A) (ha : 0 ≤ a ∧ a < A 64) (ht : 0 ≤ t ∧ t < A 65) {n c r : Nat} (hn : n ≤ 20) (hc : 1 ≤ c ∧ c ≤ 4) (hr : r < 4 ^ c) (hB : ∀ j : Nat, j < 530 → Y0 4 j = iI (A j)) : ∀ (d k : Nat) (h : zH) (Y : Nat → Nat → Int32), k + d = n → MR h m (XW A Q a (wdk c r) k) Y → ky Y0 Y → fr m 19 h0 h → (∀ j, j ≤ k → XW A Q a (wdk c r) j (490 + 4 * t) ≠ 2) →
    ∃ h' Y', f_X11_eats_b6 (some m) (iI a) (iI t) (iI (n : Int)) (iI (c : Int)) (iI (r : Int)) (iI 0) (iI (k : Int)) h = some (tb (EV A Q a t n c r), h') ∧ MR h' m A Y' ∧ ky Y0 Y' ∧ fr m 19 h0 h' := by
  have hN := hg.1.n
  have r256 : r < 256 := Nat.lt_of_lt_of_le hr (by
    rcases (show c = 1 ∨ c = 2 ∨ c = 3 ∨ c = 4 by omega) with e | e | e | e <;> subst e <;> decide)
  intro d
  induction d with
  | zero =>
    intro k h Y hk hM hY hF hno
    have hB' : ∀ j : Nat, j < 530 → Y 4 j = iI (A j) := fun j hj => by rw [hY.1 4 (by omega) (by omega) (by omega) (by omega) (by omega) (by omega)]; exact hB j hj
    have hE : ¬ EV A Q a t n c r := by
      rintro ⟨j, q1, q2⟩
      exact hno j (by omega) q2
    obtain ⟨h1, k1, Y1, k2, k3, k4⟩ := R_back hM hB' (EV A Q a t n c r)
    refine ⟨h1, Y1, ?_, k2, ky_tr hY (ky_o1 k3), fr_tr hF k4⟩
    unfold f_X11_eats_b6
    refine z_it_done ?_
    show f_X11_eats_c6 (some m) (iI a) (iI t) (iI (n : Int)) (iI (c : Int)) (iI (r : Int)) (iI 0) (iI (k : Int)) h = _
    unfold f_X11_eats_c6
    rw [if_pos (cLe (by omega))]
    rw [tb_f hE] at k1 ⊢
    rw [k1]; rfl
  | succ d ih =>
    intro k h Y hk hM hY hF hno
    have hB' : ∀ j : Nat, j < 530 → Y 4 j = iI (A j) := fun j hj => by rw [hY.1 4 (by omega) (by omega) (by omega) (by omega) (by omega) (by omega)]; exact hB j hj
    have gk := good_XW (a := a) hg (by omega) (wdk_rg c r) k
    have gh := good_hd gk (show 0 ≤ a ∧ a ≤ 2 by omega) (wdk_rg c r k)
    obtain ⟨Y1, k1, k2, k3⟩ := go1_ms hM (e := 72 + 40 * a) (v := wdk c r k) (by omega) (by omega)
    obtain ⟨h2, Y2, u1, u2, u3, u4⟩ := R_tick (Q := Q) (A := hd (XW A Q a (wdk c r) k) a (wdk c r k)) k1 gh.1 (fun a' g1 g2 => gh.2.2.2 a' g1 (by rw [← gh.2.1]; exact g2))
    have gt := (good_tick gh).1
    have rgt := (gt.1.t (t := t) (by rw [gt.2.2.1]; exact ht)).1
    have b37 : ∀ i : Nat, i = (if k / 2 < c then k / 2 else c - 1) → f_X11_eats_b37 (some m) (iI a) (iI t) (iI (n : Int)) (iI (c : Int)) (iI (r : Int)) (iI (k : Int)) (iI (i : Int)) h = some (.inl (some m, iI a, iI t, iI (n : Int), iI (c : Int), iI (r : Int), tb (XW A Q a (wdk c r) (k + 1) (490 + 4 * t) = 2), iI ((k + 1 : Nat) : Int), h2)) := by
      intro i hi
      have ic : i ≤ c - 1 := by rw [hi]; split <;> omega
      have hw : (iI (r : Int) >>> (iI (2 * ((c : Int) - 1 - (i : Int))) &&& iI 31)) &&& iI 3 = iI (wdk c r k) := by
        rw [show (2 * ((c : Int) - 1 - (i : Int))) = 2 * ((c - 1 - i : Nat) : Int) by omega, dg4 (by omega) (by omega)]
        unfold wdk dgt
        rw [hi]
      unfold f_X11_eats_b37
      simp only [iI_lit, iI_add, iI_sub, iI_mul, iI_neg]
      rw [Mg0 hM.1, Option.bind_some, R_of, z_b2_some, hw, show 70 + 40 * a + 2 = 72 + 40 * a by omega, M_set hM (by omega) (by omega), Option.bind_some, Mck k1.1, Option.bind_some, u1, Option.bind_some, Mg0 u2.1, Option.bind_some, R_thingAt, z_b2_some, M_all u2 (by omega) (by omega), Option.bind_some, iteEq (by omega)]
      simp only [f_X11_eats_b85, iI_lit, iI_add, iI_sub, iI_mul, iI_neg]
      have eX : XW A Q a (wdk c r) (k + 1) = tickA (hd (XW A Q a (wdk c r) k) a (wdk c r k)) Q := rfl
      rw [eX]
      split
      · rename_i e; rw [tb_t e]; rfl
      · rename_i e; rw [tb_f e]; rfl
    have step : f_X11_eats_c6 (some m) (iI a) (iI t) (iI (n : Int)) (iI (c : Int)) (iI (r : Int)) (iI 0) (iI (k : Int)) h = some (.inl (some m, iI a, iI t, iI (n : Int), iI (c : Int), iI (r : Int), tb (XW A Q a (wdk c r) (k + 1) (490 + 4 * t) = 2), iI ((k + 1 : Nat) : Int), h2)) := by
      unfold f_X11_eats_c6
      simp only [iI_lit, iI_add, iI_sub, iI_mul, iI_neg]
      rw [if_neg (nLe (by omega)), if_pos trivial, iI_div (by omega) (by omega) (by omega) (by omega), show (k : Int) / 2 = ((k / 2 : Nat) : Int) by omega, iteLe (by omega), show (c : Int) - 1 = ((c - 1 : Nat) : Int) by omega]
      split
      · exact b37 (c - 1) (by rw [if_neg (by omega)])
      · exact b37 (k / 2) (by rw [if_pos (by omega)])
    have nxt : f_X11_eats_b6 (some m) (iI a) (iI t) (iI (n : Int)) (iI (c : Int)) (iI (r : Int)) (iI 0) (iI (k : Int)) h = f_X11_eats_b6 (some m) (iI a) (iI t) (iI (n : Int)) (iI (c : Int)) (iI (r : Int)) (tb (XW A Q a (wdk c r) (k + 1) (490 + 4 * t) = 2)) (iI ((k + 1 : Nat) : Int)) h2 := by
      unfold f_X11_eats_b6
      exact z_it_next (s := (some m, iI a, iI t, iI (n : Int), iI (c : Int), iI (r : Int), iI 0, iI (k : Int), h)) step
    rw [nxt]
    have hY2 : ky Y0 Y2 := ky_tr hY (ky_tr (ky_o1 k2) u3)
    have hF2 : fr m 19 h0 h2 := fr_tr hF (fr_tr k3 u4)
    by_cases e : XW A Q a (wdk c r) (k + 1) (490 + 4 * t) = 2
    · have hE : EV A Q a t n c r := ⟨k + 1, by omega, e⟩
      have hB2 : ∀ j : Nat, j < 530 → Y2 4 j = iI (A j) := fun j hj => by rw [hY2.1 4 (by omega) (by omega) (by omega) (by omega) (by omega) (by omega)]; exact hB j hj
      obtain ⟨h3, v1, Y3, v2, v3, v4⟩ := R_back u2 hB2 (EV A Q a t n c r)
      refine ⟨h3, Y3, ?_, v2, ky_tr hY2 (ky_o1 v3), fr_tr hF2 v4⟩
      rw [tb_t e]
      rw [tb_t hE] at v1 ⊢
      unfold f_X11_eats_b6
      refine z_it_done ?_
      show f_X11_eats_c6 (some m) (iI a) (iI t) (iI (n : Int)) (iI (c : Int)) (iI (r : Int)) (iI 1) (iI ((k + 1 : Nat) : Int)) h2 = _
      unfold f_X11_eats_c6
      simp only [iI_lit, iI_add, iI_sub, iI_mul, iI_neg]
      rw [iteLe (by omega)]
      split
      · rw [v1]; rfl
      · rw [if_neg iI_01, v1]; rfl
    · rw [tb_f e]
      refine ih (k + 1) h2 Y2 (by omega) u2 hY2 hF2 (fun j hj => ?_)
      by_cases q : j = k + 1
      · subst q; exact e
      · exact hno j (by omega)
theorem R_eats {h : zH} {Y : Nat → Nat → Int32} (hM : MR h m A Y) (hg : good A Q A) (ha : 0 ≤ a ∧ a < A 64) (ht : 0 ≤ t ∧ t < A 65) (h0 : A (490 + 4 * t) ≠ 2) {n c r : Nat} (hn : n ≤ 20) (hc : 1 ≤ c ∧ c ≤ 4) (hr : r < 4 ^ c) (hB : ∀ j : Nat, j < 530 → Y 4 j = iI (A j)) :
    ∃ h' Y', f_X11_eats (some m) (iI a) (iI t) (iI (n : Int)) (iI (c : Int)) (iI (r : Int)) h = some (tb (EV A Q a t n c r), h') ∧ MR h' m A Y' ∧ ky Y Y' ∧ fr m 19 h h' := by
  unfold f_X11_eats
  simp only [iI_lit, iI_add, iI_sub, iI_mul, iI_neg]
  exact R_eatsL (m := m) hg ha ht hn hc hr hB n 0 h Y (by omega) hM (ky_rf Y) (fr_rf _ _ _) (fun j hj => by
    have : j = 0 := by omega
    subst this; exact h0)
/-- the fewest words, and of as many the least row -/
def FW (A : Int → Int) (Q : Int → List zKl) (a t : Int) (n c r : Nat) : Prop := (1 ≤ c ∧ c ≤ 4 ∧ r < 4 ^ c) ∧ EV A Q a t n c r ∧ (∀ r', r' < r → ¬ EV A Q a t n c r') ∧ ∀ c', 1 ≤ c' → c' < c → ∀ r', r' < 4 ^ c' → ¬ EV A Q a t n c' r'
def FN (A : Int → Int) (Q : Int → List zKl) (a t : Int) (n : Nat) : Prop := ∀ c', 1 ≤ c' → c' ≤ 4 → ∀ r', r' < 4 ^ c' → ¬ EV A Q a t n c' r'
theorem FW_un {n c r c' r' : Nat} (h : FW A Q a t n c r) (h' : FW A Q a t n c' r') : c = c' ∧ r = r' := by
  have e : c = c' := by
    rcases Nat.lt_trichotomy c c' with q | q | q
    · exact absurd h.2.1 (h'.2.2.2 c h.1.1 q r h.1.2.2)
    · exact q
    · exact absurd h'.2.1 (h.2.2.2 c' h'.1.1 q r' h'.1.2.2)
  subst e
  refine ⟨rfl, ?_⟩
  rcases Nat.lt_trichotomy r r' with q | q | q
  · exact absurd h.2.1 (h'.2.2.1 r q)
  · exact q
  · exact absurd h'.2.1 (h.2.2.1 r' q)
def fwA (w : Int) (c r : Nat) : Int := if w = 0 then (c : Int) else if w ≤ (c : Int) then ((dgt c r (w.toNat - 1) : Nat) : Int) else -1
/-- what a search leaves of the reference's other rows -/
def k4 (Y Y' : Nat → Nat → Int32) : Prop := (∀ j, j ≠ 0 → j ≠ 1 → j ≠ 4 → j ≠ 10 → j ≠ 11 → j ≠ 12 → j ≠ 13 → Y' j = Y j) ∧ ∀ j, j ≠ 14 → Y' 0 j = Y 0 j
theorem k4_ky {Y Y' : Nat → Nat → Int32} (h : ky Y Y') : k4 Y Y' := ⟨fun j h0 h1 _ h2 h3 h4 h5 => h.1 j h0 h1 h2 h3 h4 h5, h.2⟩
theorem k4_tr {Y Y1 Y2 : Nat → Nat → Int32} (p : k4 Y Y1) (q : k4 Y1 Y2) : k4 Y Y2 := ⟨fun j h0 h1 h2 h3 h4 h5 h6 => (q.1 j h0 h1 h2 h3 h4 h5 h6).trans (p.1 j h0 h1 h2 h3 h4 h5 h6), fun j hj => (q.2 j hj).trans (p.2 j hj)⟩
theorem R_fewR {h0 : zH} {Y0 : Nat → Nat → Int32} (hg : good A Q A) (ha : 0 ≤ a ∧ a < A 64) (ht : 0 ≤ t ∧ t < A 65) (h2 : A (490 + 4 * t) ≠ 2) {n c : Nat} (hn : n ≤ 20) (hc : 1 ≤ c ∧ c ≤ 4) {w : Int} (hw : 0 ≤ w ∧ w ≤ 4) (hB : ∀ j : Nat, j < 530 → Y0 4 j = iI (A j)) (hsh : ∀ c', 1 ≤ c' → c' < c → ∀ r', r' < 4 ^ c' → ¬ EV A Q a t n c' r') : ∀ (d r : Nat) (h : zH) (Y : Nat → Nat → Int32), r + d = 4 ^ c → MR h m A Y → ky Y0 Y → fr m 19 h0 h → (∀ r', r' < r → ¬ EV A Q a t n c r') →
    ∃ x h' Y', f_X11_fewest_b97 (some m) (iI a) (iI t) (iI (n : Int)) (iI w) (iI (c : Int)) (iI (r : Int)) h = some x ∧ MR h' m A Y' ∧ ky Y0 Y' ∧ fr m 19 h0 h' ∧ ((x = .inl (some m, iI a, iI t, iI (n : Int), iI w, iI ((c : Int) + 1), h') ∧ ∀ r', r' < 4 ^ c → ¬ EV A Q a t n c r') ∨ ∃ r', FW A Q a t n c r' ∧ x = .inr (iI (fwA w c r'), h')) := by
  have p256 : 4 ^ c ≤ 256 := by rcases (show c = 1 ∨ c = 2 ∨ c = 3 ∨ c = 4 by omega) with e | e | e | e <;> subst e <;> decide
  have hpw : ∀ g : zH, f_X11_power (iI (c : Int)) g = some (iI ((4 ^ c : Nat) : Int), g) := by
    intro g
    unfold f_X11_power
    simp only [iI_lit, iI_add, iI_sub, iI_mul, iI_neg]
    rw [pow4 (by omega)]
  intro d
  induction d with
  | zero =>
    intro r h Y hr hM hY hF hno
    refine ⟨_, h, Y, ?_, hM, hY, hF, Or.inl ⟨rfl, fun r' q => hno r' (by omega)⟩⟩
    unfold f_X11_fewest_b97
    refine z_it_done ?_
    show f_X11_fewest_c97 (some m) (iI a) (iI t) (iI (n : Int)) (iI w) (iI (c : Int)) (iI (r : Int)) h = _
    unfold f_X11_fewest_c97
    rw [hpw, z_b2_some, if_pos (cLe (by omega)), iI_lit, iI_add]
    rfl
  | succ d ih =>
    intro r h Y hr hM hY hF hno
    have hB' : ∀ j : Nat, j < 530 → Y 4 j = iI (A j) := fun j hj => by rw [hY.1 4 (by omega) (by omega) (by omega) (by omega) (by omega) (by omega)]; exact hB j hj
    obtain ⟨h1, Y1, k1, k2, k3, k4'⟩ := R_eats hM hg ha ht h2 hn hc (show r < 4 ^ c by omega) hB'
    have pre : f_X11_fewest_c97 (some m) (iI a) (iI t) (iI (n : Int)) (iI w) (iI (c : Int)) (iI (r : Int)) h = @ite _ (EV A Q a t n c r) (Classical.propDecidable _) (some (.inr (.inr (iI (fwA w c r), h1)))) (some (.inl (some m, iI a, iI t, iI (n : Int), iI w, iI (c : Int), iI ((r + 1 : Nat) : Int), h1))) := by
      unfold f_X11_fewest_c97
      rw [hpw, z_b2_some, if_neg (nLe (by omega)), Mck hM.1, Option.bind_some, k1, z_b2_some]
      simp only [iI_lit, iI_add, iI_sub, iI_mul, iI_neg]
      rw [ite_tb]
      by_cases e : EV A Q a t n c r
      · rw [if_pos e, if_pos e, iteEq (by omega), iteLe (by omega)]
        unfold fwA
        by_cases w0 : w = 0
        · rw [if_pos w0, if_pos w0]; rfl
        · rw [if_neg w0, if_neg w0]
          by_cases w1 : w ≤ (c : Int)
          · rw [if_pos w1, if_pos w1, show 2 * ((c : Int) - w) = 2 * ((c - 1 - (w.toNat - 1) : Nat) : Int) by omega, dg4 (by omega) (by omega)]
            rfl
          · rw [if_neg w1, if_neg w1]; rfl
      · rw [if_neg e, if_neg e]; rfl
    by_cases e : EV A Q a t n c r
    · rw [if_pos e] at pre
      refine ⟨_, h1, Y1, ?_, k2, ky_tr hY k3, fr_tr hF k4', Or.inr ⟨r, ⟨⟨hc.1, hc.2, by omega⟩, e, hno, hsh⟩, rfl⟩⟩
      unfold f_X11_fewest_b97
      exact z_it_done (s := (some m, iI a, iI t, iI (n : Int), iI w, iI (c : Int), iI (r : Int), h)) pre
    · rw [if_neg e] at pre
      obtain ⟨x, h', Y', y1, y2⟩ := ih (r + 1) h1 Y1 (by omega) k2 (ky_tr hY k3) (fr_tr hF k4') (fun r' q => by
        by_cases q2 : r' = r
        · subst q2; exact e
        · exact hno r' (by omega))
      refine ⟨x, h', Y', ?_, y2⟩
      rw [← y1]
      unfold f_X11_fewest_b97
      exact z_it_next (s := (some m, iI a, iI t, iI (n : Int), iI w, iI (c : Int), iI (r : Int), h)) pre
theorem R_fewC {h0 : zH} {Y0 : Nat → Nat → Int32} (hg : good A Q A) (ha : 0 ≤ a ∧ a < A 64) (ht : 0 ≤ t ∧ t < A 65) (h2 : A (490 + 4 * t) ≠ 2) {n : Nat} (hn : n ≤ 20) {w : Int} (hw : 0 ≤ w ∧ w ≤ 4) (hB : ∀ j : Nat, j < 530 → Y0 4 j = iI (A j)) : ∀ (d c : Nat) (h : zH) (Y : Nat → Nat → Int32), c + d = 5 → 1 ≤ c → MR h m A Y → ky Y0 Y → fr m 19 h0 h → (∀ c', 1 ≤ c' → c' < c → ∀ r', r' < 4 ^ c' → ¬ EV A Q a t n c' r') →
    ∃ x h' Y', f_X11_fewest_b88 (some m) (iI a) (iI t) (iI (n : Int)) (iI w) (iI (c : Int)) h = some (x, h') ∧ MR h' m A Y' ∧ ky Y0 Y' ∧ fr m 19 h0 h' ∧ ((x = iI (-4) ∧ FN A Q a t n) ∨ ∃ c' r', FW A Q a t n c' r' ∧ x = iI (fwA w c' r')) := by
  intro d
  induction d with
  | zero =>
    intro c h Y hc _ hM hY hF hsh
    refine ⟨_, h, Y, ?_, hM, hY, hF, Or.inl ⟨rfl, fun c' q1 q2 => hsh c' q1 (by omega)⟩⟩
    unfold f_X11_fewest_b88
    refine z_it_done ?_
    show f_X11_fewest_c88 (some m) (iI a) (iI t) (iI (n : Int)) (iI w) (iI (c : Int)) h = _
    unfold f_X11_fewest_c88
    simp only [iI_lit, iI_add, iI_sub, iI_mul, iI_neg]
    rw [if_pos (cLe (by omega))]
    rfl
  | succ d ih =>
    intro c h Y hc hc1 hM hY hF hsh
    have hB' : ∀ j : Nat, j < 530 → Y 4 j = iI (A j) := fun j hj => by rw [hY.1 4 (by omega) (by omega) (by omega) (by omega) (by omega) (by omega)]; exact hB j hj
    obtain ⟨x, h1, Y1, k1, k2, k3, k4', k5⟩ := R_fewR (h0 := h) (Y0 := Y) hg ha ht h2 hn (c := c) (by omega) hw hB' hsh (4 ^ c) 0 h Y (by omega) hM (ky_rf Y) (fr_rf _ _ _) (fun r' q => absurd q (by omega))
    have step : f_X11_fewest_c88 (some m) (iI a) (iI t) (iI (n : Int)) (iI w) (iI (c : Int)) h = some x := by
      unfold f_X11_fewest_c88
      simp only [iI_lit, iI_add, iI_sub, iI_mul, iI_neg]
      rw [if_neg (nLe (by omega))]
      exact k1
    rcases k5 with ⟨rfl, e2⟩ | ⟨r', e1, rfl⟩
    · obtain ⟨x, h', Y', y1, y2⟩ := ih (c + 1) h1 Y1 (by omega) (by omega) k2 (ky_tr hY k3) (fr_tr hF k4') (fun c' q1 q2 => by
        by_cases q3 : c' = c
        · subst q3; exact e2
        · exact hsh c' q1 (by omega))
      refine ⟨x, h', Y', ?_, y2⟩
      rw [← y1]
      unfold f_X11_fewest_b88
      exact z_it_next (s := (some m, iI a, iI t, iI (n : Int), iI w, iI (c : Int), h)) step
    · refine ⟨_, h1, Y1, ?_, k2, ky_tr hY k3, fr_tr hF k4', Or.inr ⟨c, r', e1, rfl⟩⟩
      unfold f_X11_fewest_b88
      exact z_it_done (s := (some m, iI a, iI t, iI (n : Int), iI w, iI (c : Int), h)) step
theorem R_few {h : zH} {Y : Nat → Nat → Int32} (hM : MR h m A Y) (hg : good A Q A) (ha : 0 ≤ a ∧ a < A 64) (ht : 0 ≤ t ∧ t < A 65) (h2 : A (490 + 4 * t) ≠ 2) {n : Nat} (hn : n ≤ 20) {w : Int} (hw : 0 ≤ w ∧ w ≤ 4) :
    ∃ x h' Y', f_X11_fewest_b57 (some m) (iI a) (iI t) (iI (n : Int)) (iI w) (iI 0) h = some (x, h') ∧ MR h' m A Y' ∧ k4 Y Y' ∧ fr m 19 h h' ∧ ((x = iI (-4) ∧ FN A Q a t n) ∨ ∃ c' r', FW A Q a t n c' r' ∧ x = iI (fwA w c' r')) := by
  have key := z_forI (body := fun s : (Option Nat) × Int32 × Int32 × Int32 × Int32 × Int32 × zH => f_X11_fewest_c57 s.1 s.2.1 s.2.2.1 s.2.2.2.1 s.2.2.2.2.1 s.2.2.2.2.2.1 s.2.2.2.2.2.2) (Q := fun r => ∃ Y', MR r.2 m A Y' ∧ k4 Y Y' ∧ fr m 19 h r.2 ∧ ((r.1 = iI (-4) ∧ FN A Q a t n) ∨ ∃ c' r', FW A Q a t n c' r' ∧ r.1 = iI (fwA w c' r')))
    (fun i s => ∃ h1 Y1, s = (some m, iI a, iI t, iI (n : Int), iI w, iI (i : Int), h1) ∧ MR h1 m A Y1 ∧ (∀ j, j ≠ 4 → Y1 j = Y j) ∧ fr m 19 h h1 ∧ ∀ j : Nat, j < i → Y1 4 j = iI (A j)) 530 ?_ ?_ 530 0 (some m, iI a, iI t, iI (n : Int), iI w, iI 0, h) (by omega) ⟨h, Y, rfl, hM, fun _ _ => rfl, fr_rf _ _ _, fun j hj => absurd hj (by omega)⟩
  · obtain ⟨r, k1, Y', k2⟩ := key
    exact ⟨r.1, r.2, Y', k1, k2⟩
  · rintro i s hi ⟨h1, Y1, rfl, k1, k2, k3, k4'⟩
    refine Or.inl ⟨_, ?_, _, _, rfl, MR_up k1 (k := 4) (by omega) (by omega) (upd (Y1 4) i (iI (A (i : Int)))), fun j hj => by rw [updR_n _ _ hj]; exact k2 j hj, fr_tr k3 (fr_up (by omega) (by omega)), fun j hj => ?_⟩
    · show f_X11_fewest_c57 (some m) (iI a) (iI t) (iI (n : Int)) (iI w) (iI (i : Int)) h1 = _
      unfold f_X11_fewest_c57
      simp only [iI_lit, iI_add, iI_sub, iI_mul, iI_neg]
      rw [if_neg (nLe (by omega)), Mg3 k1.1, Option.bind_some, Mg0 k1.1, Option.bind_some, M_all k1 (by omega) (by omega), Option.bind_some, z_sI_k (k1.1 4 (by omega)) (by omega) (by omega) (by decide), Option.bind_some, show (i : Int).toNat = i by omega]
      rfl
    · rw [updR_s]
      by_cases e : j = i
      · subst e; rw [pk_us]
      · rw [pk_un e]; exact k4' j (by omega)
  · rintro s ⟨h1, Y1, rfl, k1, k2, k3, k4'⟩
    obtain ⟨x, h', Y', y1, y2, y3, y4, y5⟩ := R_fewC (m := m) (h0 := h1) (Y0 := Y1) hg ha ht h2 hn hw k4' 4 1 h1 Y1 (by omega) (by omega) k1 (ky_rf Y1) (fr_rf _ _ _) (fun c' q1 q2 => absurd q2 (by omega))
    refine ⟨(x, h'), ?_, Y', y2, k4_tr ⟨fun j h0 h1 h2 _ _ _ _ => k2 j h2, fun j _ => by rw [k2 0 (by omega)]⟩ (k4_ky y3), fr_tr k3 y4, y5⟩
    show f_X11_fewest_c57 (some m) (iI a) (iI t) (iI (n : Int)) (iI w) (iI ((530 : Nat) : Int)) h1 = _
    unfold f_X11_fewest_c57
    simp only [iI_lit, iI_add, iI_sub, iI_mul, iI_neg]
    rw [if_pos (cLe (by omega))]
    have y1' : f_X11_fewest_b88 (some m) (iI a) (iI t) (iI (n : Int)) (iI w) (iI 1) h1 = some (x, h') := y1
    rw [y1']; rfl
end RW
