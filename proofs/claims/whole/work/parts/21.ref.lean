/-! THE REFERENCE's cells -/
def fr (m n : Nat) (h h' : zH) : Prop := ∀ a : Nat, (a < m ∨ m + n ≤ a) → h' a = h a
theorem fr_rf (m n : Nat) (h : zH) : fr m n h h := fun _ _ => rfl
theorem fr_tr {m n : Nat} {h h1 h2 : zH} (f1 : fr m n h h1) (f2 : fr m n h1 h2) : fr m n h h2 := fun a ha => (f2 a ha).trans (f1 a ha)
theorem fr_up {m n a : Nat} {h : zH} {c : zMC} (h1 : m ≤ a) (h2 : a < m + n) : fr m n h (z_up h a c) := fun q hq => z_up_n h c (by omega)
def updR {α : Type} (Y : Nat → α) (k : Nat) (r : α) : Nat → α := fun j => if j = k then r else Y j
theorem updR_s {α : Type} (Y : Nat → α) (k : Nat) (r : α) : updR Y k r k = r := if_pos rfl
theorem updR_n {α : Type} (Y : Nat → α) {k j : Nat} (r : α) (h : j ≠ k) : updR Y k r j = Y j := if_neg h
def uI (A : Int → Int) (e v : Int) : Int → Int := fun j => if j = e then v else A j
theorem uI_s (A : Int → Int) (e v : Int) : uI A e v e = v := if_pos rfl
theorem uI_n (A : Int → Int) {e j : Int} (v : Int) (h : j ≠ e) : uI A e v j = A j := if_neg h
theorem uI_is (A : Int → Int) {e j : Int} (v : Int) (h : j = e) : uI A e v j = v := if_pos h
def mL (m k : Nat) (r : Nat → Int32) : zMC := match k with
  | 0 => .inr (11, [tA (some (m + 1)), tA (some (m + 2)), tA (some (m + 3)), tA (some (m + 4)), tI (r 4), tA (some (m + 5)), tA (some (m + 6)), tA (some (m + 7)), tA (some (m + 8)), tA (some (m + 9)), tI (r 10), tA (some (m + 10)), tA (some (m + 11)), tA (some (m + 12)), tI (r 14), tA (some (m + 13)), tA (some (m + 14)), tA (some (m + 15)), tA (some (m + 16)), tI (r 19), tA (some (m + 17)), tA (some (m + 18))])
  | 1 => .inl (0, 530, .inl r)
  | 2 => .inl (0, 1060, .inl r)
  | 3 => .inl (2, 2, .inl r)
  | 4 => .inl (0, 530, .inl r)
  | 5 => .inl (0, 100, .inl r)
  | 6 => .inl (0, 4, .inl r)
  | 7 => .inl (0, 4, .inl r)
  | 8 => .inl (0, 256, .inl r)
  | 9 => .inl (0, 7, .inl r)
  | 10 => .inl (2, 6, .inl r)
  | 11 => .inl (2, 6, .inl r)
  | 12 => .inl (2, 6, .inl r)
  | 13 => .inl (0, 21, .inl r)
  | 14 => .inl (0, 4096, .inl r)
  | 15 => .inl (0, 4096, .inl r)
  | 16 => .inl (0, 64, .inl r)
  | 17 => .inl (0, 7, .inl r)
  | _ => .inl (0, 64, .inl r)
def MAt (h : zH) (m : Nat) (Y : Nat → Nat → Int32) : Prop := ∀ k : Nat, k < 19 → h (m + k) = mL m k (Y k)
theorem MAt_up {h : zH} {m : Nat} {Y : Nat → Nat → Int32} (hM : MAt h m Y) {k : Nat} (hk : k < 19) (r : Nat → Int32) : MAt (z_up h (m + k) (mL m k r)) m (updR Y k r) := by
  intro j hj
  by_cases e : j = k
  · subst e; rw [z_up_s, updR_s]
  · rw [z_up_n h _ (by omega), updR_n Y r e]; exact hM j hj
theorem MAt_fr {h h' : zH} {m : Nat} {Y : Nat → Nat → Int32} (hM : MAt h m Y) (hf : ∀ a : Nat, m ≤ a → a < m + 19 → h' a = h a) : MAt h' m Y := fun k hk => by rw [hf (m + k) (by omega) (by omega)]; exact hM k hk
def MR (h : zH) (m : Nat) (A : Int → Int) (Y : Nat → Nat → Int32) : Prop := MAt h m Y ∧ ∀ j : Nat, j < 530 → Y 1 j = iI (A j)
section MG
variable {h : zH} {m : Nat} {Y : Nat → Nat → Int32} {A : Int → Int}
theorem M0 (hM : MAt h m Y) : h m = mL m 0 (Y 0) := hM 0 (by omega)
theorem Mck (hM : MAt h m Y) : z_ck h 11 (some m) = some m := z_ck_k (M0 hM)
theorem Mg0 (hM : MAt h m Y) : z_gA h 11 0 (some m) = some (some (m + 1)) := z_gA_k (M0 hM) rfl
theorem Mg1 (hM : MAt h m Y) : z_gA h 11 1 (some m) = some (some (m + 2)) := z_gA_k (M0 hM) rfl
theorem Mg2 (hM : MAt h m Y) : z_gA h 11 2 (some m) = some (some (m + 3)) := z_gA_k (M0 hM) rfl
theorem Mg3 (hM : MAt h m Y) : z_gA h 11 3 (some m) = some (some (m + 4)) := z_gA_k (M0 hM) rfl
theorem Mg5 (hM : MAt h m Y) : z_gA h 11 5 (some m) = some (some (m + 5)) := z_gA_k (M0 hM) rfl
theorem Mg6 (hM : MAt h m Y) : z_gA h 11 6 (some m) = some (some (m + 6)) := z_gA_k (M0 hM) rfl
theorem Mg7 (hM : MAt h m Y) : z_gA h 11 7 (some m) = some (some (m + 7)) := z_gA_k (M0 hM) rfl
theorem Mg8 (hM : MAt h m Y) : z_gA h 11 8 (some m) = some (some (m + 8)) := z_gA_k (M0 hM) rfl
theorem Mg9 (hM : MAt h m Y) : z_gA h 11 9 (some m) = some (some (m + 9)) := z_gA_k (M0 hM) rfl
theorem Mg11 (hM : MAt h m Y) : z_gA h 11 11 (some m) = some (some (m + 10)) := z_gA_k (M0 hM) rfl
theorem Mg12 (hM : MAt h m Y) : z_gA h 11 12 (some m) = some (some (m + 11)) := z_gA_k (M0 hM) rfl
theorem Mg13 (hM : MAt h m Y) : z_gA h 11 13 (some m) = some (some (m + 12)) := z_gA_k (M0 hM) rfl
theorem Mg15 (hM : MAt h m Y) : z_gA h 11 15 (some m) = some (some (m + 13)) := z_gA_k (M0 hM) rfl
theorem Mg16 (hM : MAt h m Y) : z_gA h 11 16 (some m) = some (some (m + 14)) := z_gA_k (M0 hM) rfl
theorem Mg17 (hM : MAt h m Y) : z_gA h 11 17 (some m) = some (some (m + 15)) := z_gA_k (M0 hM) rfl
theorem Mg18 (hM : MAt h m Y) : z_gA h 11 18 (some m) = some (some (m + 16)) := z_gA_k (M0 hM) rfl
theorem Mg20 (hM : MAt h m Y) : z_gA h 11 20 (some m) = some (some (m + 17)) := z_gA_k (M0 hM) rfl
theorem Mg21 (hM : MAt h m Y) : z_gA h 11 21 (some m) = some (some (m + 18)) := z_gA_k (M0 hM) rfl
theorem Mi4 (hM : MAt h m Y) : z_gI h 11 4 (some m) = some (Y 0 4) := z_gI_k (M0 hM) rfl
theorem Mi10 (hM : MAt h m Y) : z_gI h 11 10 (some m) = some (Y 0 10) := z_gI_k (M0 hM) rfl
theorem Mi14 (hM : MAt h m Y) : z_gI h 11 14 (some m) = some (Y 0 14) := z_gI_k (M0 hM) rfl
theorem Mi19 (hM : MAt h m Y) : z_gI h 11 19 (some m) = some (Y 0 19) := z_gI_k (M0 hM) rfl
theorem Mp4 (hM : MAt h m Y) (x : Int32) : z_pF h 11 4 (some m) (tI x) = some (z_up h m (mL m 0 (upd (Y 0) 4 x))) := z_pF_k (M0 hM) (Nat.le_of_ble_eq_true rfl)
theorem Mp10 (hM : MAt h m Y) (x : Int32) : z_pF h 11 10 (some m) (tI x) = some (z_up h m (mL m 0 (upd (Y 0) 10 x))) := z_pF_k (M0 hM) (Nat.le_of_ble_eq_true rfl)
theorem Mp14 (hM : MAt h m Y) (x : Int32) : z_pF h 11 14 (some m) (tI x) = some (z_up h m (mL m 0 (upd (Y 0) 14 x))) := z_pF_k (M0 hM) (Nat.le_of_ble_eq_true rfl)
theorem Mp19 (hM : MAt h m Y) (x : Int32) : z_pF h 11 19 (some m) (tI x) = some (z_up h m (mL m 0 (upd (Y 0) 19 x))) := z_pF_k (M0 hM) (Nat.le_of_ble_eq_true rfl)
theorem M_all (hM : MR h m A Y) {e : Int} (h1 : 0 ≤ e) (h2 : e < 530) : z_aI h (some (m + 1)) (iI e) = some (iI (A e)) := by
  rw [z_aI_k (hM.1 1 (by omega)) (Or.inl rfl) h1 (by simpa using h2) (by decide), hM.2 _ (by omega)]
  rw [Int.toNat_of_nonneg h1]
/-- the row with one number changed -/
def ms (h : zH) (m : Nat) (e v : Int) : zH := match h (m + 1) with
  | .inl (k, n, .inl f) => z_up h (m + 1) (.inl (k, n, .inl (upd f e.toNat (iI v))))
  | _ => h
def msY (Y : Nat → Nat → Int32) (e v : Int) : Nat → Nat → Int32 := updR Y 1 (upd (Y 1) e.toNat (iI v))
theorem ms_eq (hM : MR h m A Y) (e v : Int) : ms h m e v = z_up h (m + 1) (mL m 1 (upd (Y 1) e.toNat (iI v))) := by
  unfold ms
  rw [hM.1 1 (by omega)]
  rfl
theorem M_set (hM : MR h m A Y) {e v : Int} (h1 : 0 ≤ e) (h2 : e < 530) : z_sI h (some (m + 1)) (iI e) (iI v) = some (ms h m e v) := by
  rw [ms_eq hM, z_sI_k (hM.1 1 (by omega)) h1 (by simpa using h2) (by decide)]
  rfl
theorem M_ms (hM : MR h m A Y) (e v : Int) (h1 : 0 ≤ e) (h2 : e < 530) : MR (ms h m e v) m (uI A e v) (msY Y e v) := by
  rw [ms_eq hM]
  refine ⟨MAt_up hM.1 (k := 1) (by omega) _, fun j hj => ?_⟩
  unfold msY
  rw [updR_s]
  by_cases e1 : j = e.toNat
  · subst e1
    rw [pk_us, uI_is A v (Int.toNat_of_nonneg h1)]
  · rw [pk_un e1, uI_n A v (by omega), hM.2 j hj]
theorem ms_fr (hM : MR h m A Y) (e v : Int) : fr m 19 h (ms h m e v) := by
  rw [ms_eq hM]
  exact fr_up (by omega) (by omega)
/-- only the row has changed -/
def o1 (Y Y' : Nat → Nat → Int32) : Prop := ∀ k, k ≠ 1 → Y' k = Y k
theorem o1_rf (Y : Nat → Nat → Int32) : o1 Y Y := fun _ _ => rfl
theorem o1_tr {Y Y1 Y2 : Nat → Nat → Int32} (f1 : o1 Y Y1) (f2 : o1 Y1 Y2) : o1 Y Y2 := fun k hk => (f2 k hk).trans (f1 k hk)
theorem o1_ms (Y : Nat → Nat → Int32) (e v : Int) : o1 Y (msY Y e v) := fun k hk => updR_n Y _ hk
/-- a step of the reference that changes its row of numbers alone -/
def go1 (m : Nat) (h : zH) (Y : Nat → Nat → Int32) (A' : Int → Int) (h' : zH) : Prop := ∃ Y', MR h' m A' Y' ∧ o1 Y Y' ∧ fr m 19 h h'
theorem go1_ms (hM : MR h m A Y) {e v : Int} (h1 : 0 ≤ e) (h2 : e < 530) : go1 m h Y (uI A e v) (ms h m e v) := ⟨_, M_ms hM e v h1 h2, o1_ms Y e v, ms_fr hM e v⟩
theorem go1_rf (hM : MR h m A Y) : go1 m h Y A h := ⟨Y, hM, o1_rf Y, fr_rf m 19 h⟩
theorem go1_tr {A1 A2 : Int → Int} {h1 h2 : zH} {Y1 : Nat → Nat → Int32} (g1 : MR h1 m A1 Y1 ∧ o1 Y Y1 ∧ fr m 19 h h1) (g2 : go1 m h1 Y1 A2 h2) : go1 m h Y A2 h2 := by
  obtain ⟨Y2, a, b, c⟩ := g2
  exact ⟨Y2, a, o1_tr g1.2.1 b, fr_tr g1.2.2 c⟩
/-! small ones -/
theorem R_in (v lo hi : Int32) : f_X11_in v lo hi h = some (tb (lo ≤ v ∧ v ≤ hi), h) := by
  unfold f_X11_in
  by_cases h1 : v < lo
  · rw [if_pos h1, tb_f]
    · rfl
    · intro q; exact absurd h1 (Int32.not_lt.mpr q.1)
  · rw [if_neg h1]
    by_cases h2 : hi < v
    · rw [if_pos h2, tb_f]
      · rfl
      · intro q; exact absurd h2 (Int32.not_lt.mpr q.2)
    · rw [if_neg h2, tb_t ⟨Int32.not_lt.mp h1, Int32.not_lt.mp h2⟩]; rfl
theorem R_isCell {x y : Int} (hx : -2147483648 ≤ x ∧ x < 2147483648) (hy : -2147483648 ≤ y ∧ y < 2147483648) : f_X11_isCell (iI x) (iI y) h = some (tb ((0 ≤ x ∧ x ≤ 7) ∧ 0 ≤ y ∧ y ≤ 7), h) := by
  unfold f_X11_isCell
  simp (disch := omega) only [R_in, z_b2_some, iI_lit, iI_le, tb_eq0]
  by_cases h1 : 0 ≤ x ∧ x ≤ 7 <;> by_cases h2 : 0 ≤ y ∧ y ≤ 7 <;> simp [h1, h2, tb]
theorem R_of (a w : Int) : f_X11_of (iI a) (iI w) h = some (iI (70 + 40 * a + w), h) := by
  simp only [f_X11_of, iI_lit, iI_add, iI_sub, iI_mul, iI_neg]
theorem R_thingAt (t : Int) : f_X11_thingAt (iI t) h = some (iI (490 + 4 * t), h) := by
  simp only [f_X11_thingAt, iI_lit, iI_add, iI_sub, iI_mul, iI_neg]
theorem R_isArm (hM : MR h m A Y) {a : Int} (ha : -2147483648 ≤ a ∧ a < 2147483648) (h64 : 0 ≤ A 64 ∧ A 64 ≤ 3) : f_X11_isArm (some m) (iI a) h = some (tb (0 ≤ a ∧ a < A 64), h) := by
  simp (disch := omega) only [f_X11_isArm, Mg0 hM.1, Option.bind_some, z_b2_some, z_i1_some, iI_lit, M_all hM, iI_sub, R_in, iI_le, tb_or, if_true]
  congr 2
  exact tb_cg (by omega)
theorem R_isThing (hM : MR h m A Y) {t : Int} (ha : -2147483648 ≤ t ∧ t < 2147483648) (h65 : 0 ≤ A 65 ∧ A 65 ≤ 8) : f_X11_isThing (some m) (iI t) h = some (tb (0 ≤ t ∧ t < A 65), h) := by
  simp (disch := omega) only [f_X11_isThing, Mg0 hM.1, Option.bind_some, z_b2_some, z_i1_some, iI_lit, M_all hM, iI_sub, R_in, iI_le, tb_or, if_true]
  congr 2
  exact tb_cg (by omega)
theorem R_pieces (hM : MR h m A Y) {a : Int} (ha : 0 ≤ a ∧ a ≤ 2) : f_X11_pieces (some m) (iI a) h = some (iI (A (70 + 40 * a)), h) := by
  simp (disch := omega) only [f_X11_pieces, Mg0 hM.1, Option.bind_some, z_b2_some, z_i1_some, iI_lit, R_of, M_all hM]
  congr 4; omega
theorem R_cell (hM : MR h m A Y) {a p : Int} (ha : 0 ≤ a ∧ a ≤ 2) (hp : -5 ≤ p ∧ p ≤ 10) : f_X11_cell (some m) (iI a) (iI p) h = some (iI (A (75 + 40 * a + p)), h) := by
  simp (disch := omega) only [f_X11_cell, Mg0 hM.1, Option.bind_some, z_b2_some, z_i1_some, iI_lit, R_of, iI_add, M_all hM]
  congr 4; omega
end MG
