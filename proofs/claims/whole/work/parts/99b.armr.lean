section AS
variable {A : Int → Int} {m : Nat}
/-- the numbers of a new arm, laid one by one -/
def az1 (A : Int → Int) (i : Int) : Int → Int := fun j => if 70 + 40 * A 64 ≤ j ∧ j < 70 + 40 * A 64 + i then 0 else A j
def az2 (A : Int → Int) (N c : Int) (f : Nat) (i : Int) : Int → Int := fun j => if 75 + 40 * A 64 ≤ j ∧ j < 75 + 40 * A 64 + i then (if j - (75 + 40 * A 64) < N then pth c f (j - (75 + 40 * A 64)).toNat else 0) else if 89 + 40 * A 64 ≤ j ∧ j < 89 + 40 * A 64 + i then -4 else if j = 71 + 40 * A 64 then -4 else if j = 70 + 40 * A 64 then N else az1 A 40 j
theorem az1_s (A : Int → Int) (i : Nat) : uI (az1 A (i : Int)) (70 + 40 * A 64 + (i : Int)) 0 = az1 A ((i + 1 : Nat) : Int) := by
  funext j
  unfold uI az1
  by_cases e : j = 70 + 40 * A 64 + (i : Int)
  · rw [if_pos e, if_pos (by omega)]
  · rw [if_neg e]
    by_cases q : 70 + 40 * A 64 ≤ j ∧ j < 70 + 40 * A 64 + (i : Int)
    · rw [if_pos q, if_pos (by omega)]
    · rw [if_neg q, if_neg (by omega)]
theorem az2_s (A : Int → Int) (N c : Int) (f : Nat) {i : Nat} (hi : i < 7) : uI (uI (az2 A N c f (i : Int)) (75 + 40 * A 64 + (i : Int)) (if (i : Int) < N then pth c f i else 0)) (89 + 40 * A 64 + (i : Int)) (-4) = az2 A N c f ((i + 1 : Nat) : Int) := by
  funext j
  unfold uI az2
  by_cases e : j = 89 + 40 * A 64 + (i : Int)
  · rw [if_pos e, if_neg (by omega), if_pos (by omega)]
  · rw [if_neg e]
    by_cases e2 : j = 75 + 40 * A 64 + (i : Int)
    · rw [if_pos e2, if_pos (show 75 + 40 * A 64 ≤ j ∧ j < 75 + 40 * A 64 + ((i + 1 : Nat) : Int) by omega), show j - (75 + 40 * A 64) = (i : Int) by omega]
      rfl
    · rw [if_neg e2]
      by_cases q : 75 + 40 * A 64 ≤ j ∧ j < 75 + 40 * A 64 + (i : Int)
      · rw [if_pos q, if_pos (show 75 + 40 * A 64 ≤ j ∧ j < 75 + 40 * A 64 + ((i + 1 : Nat) : Int) by omega)]
      · rw [if_neg q, if_neg (show ¬ (75 + 40 * A 64 ≤ j ∧ j < 75 + 40 * A 64 + ((i + 1 : Nat) : Int)) by omega)]
        by_cases q2 : 89 + 40 * A 64 ≤ j ∧ j < 89 + 40 * A 64 + (i : Int)
        · rw [if_pos q2, if_pos (by omega)]
        · rw [if_neg q2, if_neg (show ¬ (89 + 40 * A 64 ≤ j ∧ j < 89 + 40 * A 64 + ((i + 1 : Nat) : Int)) by omega)]
theorem az2_0 (A : Int → Int) (N c : Int) (f : Nat) : uI (uI (az1 A 40) (70 + 40 * A 64) N) (71 + 40 * A 64) (-4) = az2 A N c f 0 := by
  funext j
  unfold uI az2
  rw [if_neg (show ¬ (75 + 40 * A 64 ≤ j ∧ j < 75 + 40 * A 64 + 0) by omega), if_neg (show ¬ (89 + 40 * A 64 ≤ j ∧ j < 89 + 40 * A 64 + 0) by omega)]
theorem az2_7 (A : Int → Int) (N c : Int) (f : Nat) (h : 0 ≤ A 64) : uI (az2 A N c f 7) 64 (A 64 + 1) = arA A N c f := by
  funext j
  unfold uI az2 az1 arA
  by_cases e : j = 64
  · rw [if_pos e, if_pos e]
  · rw [if_neg e, if_neg e]
    by_cases q : 70 + 40 * A 64 ≤ j ∧ j < 110 + 40 * A 64
    · rw [if_pos q, if_pos (show 70 + 40 * A 64 ≤ j ∧ j < 70 + 40 * A 64 + 40 by omega)]
      by_cases q1 : j = 70 + 40 * A 64
      · rw [if_neg (by omega), if_neg (by omega), if_neg (by omega), if_pos q1, if_pos q1]
      · rw [if_neg q1, if_neg q1]
        by_cases q2 : j = 71 + 40 * A 64
        · rw [if_neg (by omega), if_neg (by omega), if_pos q2, if_pos q2]
        · rw [if_neg q2, if_neg q2]
          by_cases q3 : 75 + 40 * A 64 ≤ j ∧ j < 82 + 40 * A 64
          · rw [if_pos (by omega), if_pos q3]
          · rw [if_neg (by omega), if_neg q3]
            by_cases q4 : 89 + 40 * A 64 ≤ j ∧ j < 96 + 40 * A 64
            · rw [if_pos (by omega), if_pos q4]
            · rw [if_neg (by omega), if_neg q4]
    · rw [if_neg q, if_neg (by omega), if_neg (by omega), if_neg (by omega), if_neg (by omega), if_neg (by omega)]
theorem az2_64 (A : Int → Int) (N c : Int) (f : Nat) (i : Int) (h : 0 ≤ A 64) : az2 A N c f i 64 = A 64 := by
  unfold az2 az1
  rw [if_neg (by omega), if_neg (by omega), if_neg (by omega), if_neg (by omega), if_neg (by omega)]
/-- an arm's numbers, the reference's -/
theorem R_arm2 {h : zH} {Y : Nat → Nat → Int32} {N f : Nat} {c : Int} (hN : 2 ≤ N ∧ N ≤ 7) (h3 : 0 ≤ A 64 ∧ A 64 < 3) (hY : ∀ j, j < N → Y 9 j = iI (pth c f j)) (hM : MR h m (az2 A (N : Int) c f 0) Y) : ∃ h', f_X11_arm_b228 (some m) (iI (N : Int)) (iI (A 64)) (iI 0) h = some (iI (A 64), h') ∧ go1 m h Y (arA A (N : Int) c f) h' := by
  have key := z_forI (body := fun s : (Option Nat) × Int32 × Int32 × Int32 × zH => f_X11_arm_c228 s.1 s.2.1 s.2.2.1 s.2.2.2.1 s.2.2.2.2) (Q := fun r => r.1 = iI (A 64) ∧ go1 m h Y (arA A (N : Int) c f) r.2)
    (fun i s => ∃ h', s = (some m, iI (N : Int), iI (A 64), iI (i : Int), h') ∧ go1 m h Y (az2 A (N : Int) c f (i : Int)) h') 7 ?_ ?_ 7 0 (some m, iI (N : Int), iI (A 64), iI 0, h) (by omega) ⟨h, rfl, go1_rf hM⟩
  · obtain ⟨r, k1, k2, k3⟩ := key
    refine ⟨r.2, ?_, k3⟩
    have er : r = (iI (A 64), r.2) := by rw [← k2]
    rw [← er]
    exact k1
  · rintro i s hi ⟨h1, rfl, Y1, k1, k2, k3⟩
    obtain ⟨Y2, a1, a2, a3⟩ := go1_ms k1 (e := 75 + 40 * A 64 + (i : Int)) (v := if (i : Int) < (N : Int) then pth c f i else 0) (by omega) (by omega)
    obtain ⟨Y3, b1, b2, b3⟩ := go1_ms a1 (e := 89 + 40 * A 64 + (i : Int)) (v := -4) (by omega) (by omega)
    rw [az2_s A (N : Int) c f hi] at b1
    refine Or.inl ⟨_, ?_, _, rfl, Y3, b1, o1_tr k2 (o1_tr a2 b2), fr_tr k3 (fr_tr a3 b3)⟩
    have e : f_X11_arm_c228 (some m) (iI (N : Int)) (iI (A 64)) (iI (i : Int)) h1 = f_X11_arm_b265 (some m) (iI (N : Int)) (iI (A 64)) (iI (i : Int)) (some (m + 1)) (iI (75 + 40 * A 64 + (i : Int))) (iI (if (i : Int) < (N : Int) then pth c f i else 0)) h1 := by
      unfold f_X11_arm_c228
      simp only [iI_lit]
      rw [if_neg (nLe (by omega)), Mg0 k1.1, Option.bind_some, R_of, z_b2_some, iI_add, show 70 + 40 * A 64 + 5 + (i : Int) = 75 + 40 * A 64 + (i : Int) by omega, iteLe (by omega)]
      by_cases q : (i : Int) < (N : Int)
      · rw [if_neg (by omega), if_pos q, Mg9 k1.1, Option.bind_some, z_aI_k (k1.1 9 (by omega)) (Or.inl rfl) (by omega) (by omega) (by decide), Option.bind_some, show ((i : Int)).toNat = i by omega, k2 9 (by omega), hY i (by omega)]
      · rw [if_pos (by omega), if_neg q]
    show f_X11_arm_c228 (some m) (iI (N : Int)) (iI (A 64)) (iI (i : Int)) h1 = _
    rw [e]
    unfold f_X11_arm_b265
    simp only [iI_lit, iI_add, iI_sub, iI_mul, iI_neg]
    rw [M_set k1 (by omega) (by omega), Option.bind_some, Mg0 a1.1, Option.bind_some, R_of, z_b2_some, iI_add, show 70 + 40 * A 64 + 19 + (i : Int) = 89 + 40 * A 64 + (i : Int) by omega, M_set a1 (by omega) (by omega), Option.bind_some]
    rfl
  · rintro s ⟨h1, rfl, Y1, k1, k2, k3⟩
    have k1' : MR h1 m (az2 A (N : Int) c f 7) Y1 := k1
    obtain ⟨Y2, a1, a2, a3⟩ := go1_ms k1' (e := 64) (v := A 64 + 1) (by omega) (by omega)
    rw [az2_7 A (N : Int) c f h3.1] at a1
    refine ⟨(iI (A 64), _), ?_, rfl, Y2, a1, o1_tr k2 a2, fr_tr k3 a3⟩
    show f_X11_arm_c228 (some m) (iI (N : Int)) (iI (A 64)) (iI ((7 : Nat) : Int)) h1 = _
    unfold f_X11_arm_c228
    simp only [iI_lit]
    rw [if_pos (cLe (by omega)), Mg0 k1.1, Option.bind_some, M_all k1' (by omega) (by omega), az2_64 A (N : Int) c f 7 h3.1, Option.bind_some, iI_add, M_set k1' (by omega) (by omega), Option.bind_some]
    rfl
theorem R_arm1 {h : zH} {Y : Nat → Nat → Int32} {N f : Nat} {c : Int} (hN : 2 ≤ N ∧ N ≤ 7) (h3 : 0 ≤ A 64 ∧ A 64 < 3) (hY : ∀ j, j < N → Y 9 j = iI (pth c f j)) (hM : MR h m A Y) : ∃ h', f_X11_arm_b174 (some m) (iI (N : Int)) (iI (A 64)) (iI 0) h = some (iI (A 64), h') ∧ go1 m h Y (arA A (N : Int) c f) h' := by
  have key := z_forI (body := fun s : (Option Nat) × Int32 × Int32 × Int32 × zH => f_X11_arm_c174 s.1 s.2.1 s.2.2.1 s.2.2.2.1 s.2.2.2.2) (Q := fun r => r.1 = iI (A 64) ∧ go1 m h Y (arA A (N : Int) c f) r.2)
    (fun i s => ∃ h', s = (some m, iI (N : Int), iI (A 64), iI (i : Int), h') ∧ go1 m h Y (az1 A (i : Int)) h') 40 ?_ ?_ 40 0 (some m, iI (N : Int), iI (A 64), iI 0, h) (by omega) ⟨h, rfl, go1_rf (MR_cg hM (fun j hj => by unfold az1; rw [if_neg (by omega)]))⟩
  · obtain ⟨r, k1, k2, k3⟩ := key
    refine ⟨r.2, ?_, k3⟩
    have er : r = (iI (A 64), r.2) := by rw [← k2]
    rw [← er]
    exact k1
  · rintro i s hi ⟨h1, rfl, Y1, k1, k2, k3⟩
    obtain ⟨Y2, a1, a2, a3⟩ := go1_ms k1 (e := 70 + 40 * A 64 + (i : Int)) (v := 0) (by omega) (by omega)
    rw [az1_s A i] at a1
    refine Or.inl ⟨_, ?_, _, rfl, Y2, a1, o1_tr k2 a2, fr_tr k3 a3⟩
    show f_X11_arm_c174 (some m) (iI (N : Int)) (iI (A 64)) (iI (i : Int)) h1 = _
    unfold f_X11_arm_c174
    simp only [iI_lit]
    rw [if_neg (nLe (by omega)), Mg0 k1.1, Option.bind_some, R_of, z_b2_some, M_set k1 (by omega) (by omega), Option.bind_some, iI_add]
    rfl
  · rintro s ⟨h1, rfl, Y1, k1, k2, k3⟩
    have k1' : MR h1 m (az1 A 40) Y1 := k1
    obtain ⟨Y2, a1, a2, a3⟩ := go1_ms k1' (e := 70 + 40 * A 64) (v := (N : Int)) (by omega) (by omega)
    obtain ⟨Y3, b1, b2, b3⟩ := go1_ms a1 (e := 71 + 40 * A 64) (v := -4) (by omega) (by omega)
    have b1' := b1
    rw [az2_0 A (N : Int) c f] at b1'
    obtain ⟨h4, d1, Y4, d2, d3, d4⟩ := R_arm2 hN h3 (fun j hj => by rw [b2 9 (by omega), a2 9 (by omega), k2 9 (by omega)]; exact hY j hj) b1'
    refine ⟨(iI (A 64), h4), ?_, rfl, Y4, d2, o1_tr k2 (o1_tr a2 (o1_tr b2 d3)), fr_tr k3 (fr_tr a3 (fr_tr b3 d4))⟩
    show f_X11_arm_c174 (some m) (iI (N : Int)) (iI (A 64)) (iI ((40 : Nat) : Int)) h1 = _
    unfold f_X11_arm_c174
    simp only [iI_lit, iI_add, iI_sub, iI_mul, iI_neg]
    rw [if_pos (cLe (by omega)), Mg0 k1.1, Option.bind_some, R_of, z_b2_some, show 70 + 40 * A 64 + 0 = 70 + 40 * A 64 by omega, M_set k1' (by omega) (by omega), Option.bind_some, Mg0 a1.1, Option.bind_some, R_of, z_b2_some, show 70 + 40 * A 64 + 1 = 71 + 40 * A 64 by omega, M_set a1 (by omega) (by omega), Option.bind_some, d1]
    rfl
/-- no cell twice -/
theorem R_arm0 {h : zH} {Y : Nat → Nat → Int32} {i : Nat} {g : Nat → Int} {d : Int} (hM : MR h m A Y) (hi : i ≤ 7) (hg : ∀ j, j < i → Y 9 j = iI (g j) ∧ -10 ≤ g j ∧ g j < 64) (hd : -10 ≤ d ∧ d < 64) (x3 x4 : Int32) (P : Prop) :
    f_X11_arm_b93 (some m) x3 x4 (iI d) (iI (i : Int)) (tb P) (iI 0) h = f_X11_arm_b130 (some m) x3 x4 (iI d) (iI (i : Int)) (tb (P ∧ ∀ j, j < i → g j ≠ d)) h := by
  have key : ∀ (k j : Nat), j + k = i → ∀ R : Prop, (R ↔ (P ∧ ∀ q, q < j → g q ≠ d)) → z_it (fun s : (Option Nat) × Int32 × Int32 × Int32 × Int32 × Int32 × Int32 × zH => f_X11_arm_c93 s.1 s.2.1 s.2.2.1 s.2.2.2.1 s.2.2.2.2.1 s.2.2.2.2.2.1 s.2.2.2.2.2.2.1 s.2.2.2.2.2.2.2) (some m, x3, x4, iI d, iI (i : Int), tb R, iI (j : Int), h) = f_X11_arm_b130 (some m) x3 x4 (iI d) (iI (i : Int)) (tb (P ∧ ∀ j, j < i → g j ≠ d)) h := by
    intro k
    induction k with
    | zero =>
      intro j hj R hR
      have e : j = i := by omega
      subst e
      rw [z_it_eq]
      show (match f_X11_arm_c93 (some m) x3 x4 (iI d) (iI (j : Int)) (tb R) (iI (j : Int)) h with | _ => _) = _
      unfold f_X11_arm_c93
      rw [if_pos (Int32.le_refl _), tb_cg hR]
      cases f_X11_arm_b130 (some m) x3 x4 (iI d) (iI (j : Int)) (tb (P ∧ ∀ q, q < j → g q ≠ d)) h <;> rfl
    | succ k ih =>
      intro j hj R hR
      obtain ⟨y1, y2⟩ := hg j (by omega)
      by_cases q : R
      · have st : f_X11_arm_c93 (some m) x3 x4 (iI d) (iI (i : Int)) (tb R) (iI (j : Int)) h = some (.inl (some m, x3, x4, iI d, iI (i : Int), tb (g j ≠ d), iI ((j + 1 : Nat) : Int), h)) := by
          unfold f_X11_arm_c93 f_X11_arm_b122
          simp only [iI_lit]
          rw [if_neg (nLe (by omega)), if_neg (by rw [tb_eq0]; exact fun e => e q), Mg9 hM.1, Option.bind_some, z_aI_k (hM.1 9 (by omega)) (Or.inl rfl) (by omega) (by omega) (by decide), Option.bind_some, show ((j : Int)).toNat = j by omega, y1, iteEq (by omega), iI_add]
          by_cases e : g j = d
          · rw [if_pos e, tb_f (fun w => w e)]; rfl
          · rw [if_neg e, tb_t e]; rfl
        refine (z_it_next (body := fun s : (Option Nat) × Int32 × Int32 × Int32 × Int32 × Int32 × Int32 × zH => f_X11_arm_c93 s.1 s.2.1 s.2.2.1 s.2.2.2.1 s.2.2.2.2.1 s.2.2.2.2.2.1 s.2.2.2.2.2.2.1 s.2.2.2.2.2.2.2) (s := (some m, x3, x4, iI d, iI (i : Int), tb R, iI (j : Int), h)) (s' := (some m, x3, x4, iI d, iI (i : Int), tb (g j ≠ d), iI ((j + 1 : Nat) : Int), h)) st).trans ?_
        refine ih (j + 1) (by omega) _ ?_
        have hR' := hR.mp q
        constructor
        · intro w
          refine ⟨hR'.1, fun r hr => ?_⟩
          by_cases e : r = j
          · subst e; exact w
          · exact hR'.2 r (by omega)
        · intro w; exact w.2 j (by omega)
      · rw [z_it_eq]
        show (match f_X11_arm_c93 (some m) x3 x4 (iI d) (iI (i : Int)) (tb R) (iI (j : Int)) h with | _ => _) = _
        unfold f_X11_arm_c93
        simp only [iI_lit]
        have nR : ¬ (P ∧ ∀ j, j < i → g j ≠ d) := fun w => q (hR.mpr ⟨w.1, fun r hr => w.2 r (by omega)⟩)
        rw [if_neg (nLe (by omega)), if_pos (by rw [tb_eq0]; exact q), tb_f q, tb_f nR]
        cases f_X11_arm_b130 (some m) x3 x4 (iI d) (iI (i : Int)) (iI 0) h <;> rfl
  exact key i 0 (by omega) P ⟨fun p => ⟨p, fun q hq => absurd hq (by omega)⟩, fun p => p.1⟩
end AS
