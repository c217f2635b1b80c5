/-! CLAUSES -/
abbrev zKl : Type := List (Bool × Bool × ((Int × Int) ⊕ zE 4)) × List (Int × Int)
def vAct (y : Int × Int) : Prop := ((y.1 = 102 ∨ y.1 = 103 ∨ y.1 = 112 ∨ y.1 = 100) ∧ y.2 = 0) ∨ ((y.1 = 115 ∨ y.1 = 111) ∧ 0 ≤ y.2 ∧ y.2 ≤ 3)
def prAct (y : Int × Int) : List Int := if y.1 = 115 ∨ y.1 = 111 then [y.1, 48 + y.2] else [y.1]
def prActs : List (Int × Int) → List Int
  | [] => []
  | y :: l => prAct y ++ prActs l
def prK (c : zKl) : List Int := prT (prX 4) c.1 ++ ([58] ++ prActs c.2)
def prQr : List zKl → List Int
  | [] => []
  | c :: l => [59] ++ (prK c ++ prQr l)
def prQ : List zKl → List Int
  | [] => []
  | c :: l => prK c ++ prQr l
def vK (c : zKl) : Prop := vT (vX 4) c.1 ∧ (1 ≤ c.2.length ∧ c.2.length ≤ 4) ∧ ∀ y, y ∈ c.2 → vAct y
def vQ (q : List zKl) : Prop := q.length ≤ 6 ∧ (∀ c, c ∈ q → vK c) ∧ (prQ q).length ≤ 100
def TX (A : Int → Int) (a : Int) (q : List zKl) : Prop := vQ q ∧ A (74 + 40 * a) = q.length ∧ (q ≠ [] → A (73 + 40 * a) = (prQ q).length ∧ tx A (190 + 100 * a) (prQ q))
noncomputable def fndx (A : Int → Int) (a p : Int) : List zKl → Int → Int
  | [], _ => -4
  | c :: l, k => @ite _ (evL (evX (sn A a p) 4) c.1 True) (Classical.propDecidable _) k (fndx A a p l (k + 1))
noncomputable def fndC (A : Int → Int) (a p : Int) : List zKl → Option (List (Int × Int))
  | [] => none
  | c :: l => @ite _ (evL (evX (sn A a p) 4) c.1 True) (Classical.propDecidable _) (some c.2) (fndC A a p l)
/-- the acts' text at a place -/
def actAt (A : Int → Int) (a i : Int) (l : List (Int × Int)) : Prop := tx A (190 + 100 * a + i) (prActs l) ∧ (0 ≤ i ∧ i + (prActs l).length ≤ A (73 + 40 * a) ∧ A (73 + 40 * a) ≤ 100) ∧ (i + (prActs l).length = A (73 + 40 * a) ∨ A (190 + 100 * a + (i + (prActs l).length)) = 59) ∧ ∀ y, y ∈ l → vAct y
theorem prActs_ne {l : List (Int × Int)} (hl : ∀ y, y ∈ l → vAct y) : ∀ c, c ∈ prActs l → c ≠ 59 ∧ (0 ≤ c ∧ c ≤ 200) := by
  induction l with
  | nil => intro c hc; cases hc
  | cons y l ih =>
    intro c hc
    simp only [prActs, List.mem_append] at hc
    rcases hc with hc | hc
    · have hy := hl y (List.mem_cons_self ..)
      unfold vAct at hy
      unfold prAct at hc
      split at hc
      · simp only [List.mem_cons, List.not_mem_nil, or_false] at hc
        omega
      · simp only [List.mem_cons, List.not_mem_nil, or_false] at hc
        omega
    · exact ih (fun y hy => hl y (List.mem_cons_of_mem _ hy)) c hc
section FI
variable {m : Nat} {A : Int → Int} {a p : Int}
noncomputable def FLp (m : Nat) (a p k : Int) (h : zH) : Option (Int32 × zH) := f_X11_findsOf_b17 (some m) (iI a) (iI p) (iI (190 + 100 * a)) (iI k) h
/-- over the acts -/
theorem R_skip (ha : 0 ≤ a ∧ a ≤ 2) (k : Int) (N : Int) (hN : A (73 + 40 * a) = N ∧ N ≤ 100) : ∀ (L : List Int) (h : zH) (Y : Nat → Nat → Int32) (i : Int), MR h m A Y → Y 0 14 = iI i → (0 ≤ i ∧ i + L.length ≤ N) → (∀ c, c ∈ L → c ≠ 59 ∧ (0 ≤ c ∧ c ≤ 200)) → tx A (190 + 100 * a + i) L → (i + L.length = N ∨ A (190 + 100 * a + (i + L.length)) = 59) →
    ∃ h' Y', f_X11_findsOf_b44 (some m) (iI a) (iI p) (iI (190 + 100 * a)) (iI k) h = some (.inl (some m, iI a, iI p, iI (190 + 100 * a), iI (k + 1), h')) ∧ MR h' m A Y' ∧ Y' 0 14 = iI (i + L.length + 1) ∧ sm 0 Y Y' ∧ fr m 19 h h'
  | [], h, Y, i, hM, hY, hi, hL, ht, he => by
    simp only [List.length_nil] at hi he
    have e73 : 70 + 40 * a + 3 = 73 + 40 * a := by omega
    have b90 : f_X11_findsOf_b90 (some m) (iI a) (iI p) (iI (190 + 100 * a)) (iI k) h = some (.inl (some m, iI a, iI p, iI (190 + 100 * a), iI (k + 1), hat h m Y (i + 1))) := by
      simp (disch := omega) only [f_X11_findsOf_b90, Mi14 hM.1, hY, Option.bind_some, z_b2_some, z_i1_some, iI_lit, iI_add, iI_sub, iI_mul, iI_neg, M_at hM]
    refine ⟨hat h m Y (i + 1), _, ?_, MR_at hM (i + 1), ?_, sm_at _ _ _, hat_fr _ _ _ _⟩
    · unfold f_X11_findsOf_b44
      refine z_it_done ?_
      show f_X11_findsOf_c44 (some m) (iI a) (iI p) (iI (190 + 100 * a)) (iI k) h = _
      by_cases q : N ≤ i
      · simp (disch := omega) only [f_X11_findsOf_c44, Mi14 hM.1, hY, Mg0 hM.1, R_of, Option.bind_some, z_b2_some, z_i1_some, iI_lit, iI_add, iI_sub, iI_mul, iI_neg, e73, M_all hM, hN.1, iI_le, if_pos, b90]
      · have hc : A (190 + 100 * a + i) = 59 := by
          rcases he with e | e
          · omega
          · rw [show i + ((0 : Nat) : Int) = i by omega] at e; exact e
        simp (disch := omega) only [f_X11_findsOf_c44, Mi14 hM.1, hY, Mg0 hM.1, R_of, Option.bind_some, z_b2_some, z_i1_some, iI_lit, iI_add, iI_sub, iI_mul, iI_neg, e73, M_all hM, hN.1, iI_le, if_neg, hc, if_true, b90]
    · rw [uat_s]; simp
  | c :: L, h, Y, i, hM, hY, hi, hL, ht, he => by
    simp only [List.length_cons] at hi he ⊢
    have e73 : 70 + 40 * a + 3 = 73 + 40 * a := by omega
    have hc := hL c (List.mem_cons_self ..)
    have t1 := ht.1
    have t2 := ht.2
    rw [show 190 + 100 * a + i + 1 = 190 + 100 * a + (i + 1) by omega] at t2
    obtain ⟨h1, Y1, k1, k2, k3, k4, k5⟩ := R_skip ha k N hN L (hat h m Y (i + 1)) (uat Y (i + 1)) (i + 1) (MR_at hM (i + 1)) (uat_s _ _) (by omega) (fun x hx => hL x (List.mem_cons_of_mem _ hx)) t2 (by
      rcases he with e | e
      · left; omega
      · right; rw [show i + 1 + (L.length : Int) = i + ((L.length + 1 : Nat) : Int) by omega]; exact e)
    refine ⟨h1, Y1, ?_, k2, ?_, sm_tr (sm_at _ _ _) k4, fr_tr (hat_fr _ _ _ _) k5⟩
    · rw [← k1]
      unfold f_X11_findsOf_b44
      refine z_it_next ?_
      show f_X11_findsOf_c44 (some m) (iI a) (iI p) (iI (190 + 100 * a)) (iI k) h = _
      simp (disch := omega) only [f_X11_findsOf_c44, Mi14 hM.1, hY, Mg0 hM.1, R_of, Option.bind_some, z_b2_some, z_i1_some, iI_lit, iI_add, iI_sub, iI_mul, iI_neg, e73, M_all hM, hN.1, iI_le, if_neg, t1, iI_eq, M_at hM]
    · rw [k3]; congr 1; omega
theorem R_findL (hW : WF A) (hv : vP A a p) (hp : 1 ≤ p) (N C : Int) (hN : A (73 + 40 * a) = N ∧ N ≤ 100) (hC : A (74 + 40 * a) = C ∧ C ≤ 6) : ∀ (l : List zKl) (c : zKl) (h : zH) (Y : Nat → Nat → Int32) (i k : Int), MR h m A Y → Y 0 14 = iI i → 0 ≤ i → i + (prK c ++ prQr l).length = N → 0 ≤ k → k + 1 + l.length = C → (∀ x, x ∈ c :: l → vK x) → tx A (190 + 100 * a + i) (prK c ++ prQr l) →
    ∃ h' Y', FLp m a p k h = some (iI (fndx A a p (c :: l) k), h') ∧ MR h' m A Y' ∧ sm 0 Y Y' ∧ fr m 19 h h' ∧ (∀ y, fndC A a p (c :: l) = some y → ∃ i', Y' 0 14 = iI i' ∧ actAt A a i' y) := by
  intro l
  induction l with
  | nil =>
    intro c h Y i k hM hY hi hlen hk hkC hvk ht
    have ha : 0 ≤ a ∧ a ≤ 2 := (hW.vp hv).1
    have vk := hvk c (List.mem_cons_self ..)
    have e74 : 70 + 40 * a + 4 = 74 + 40 * a := by omega
    simp only [prQr, List.append_nil] at hlen ht
    unfold prK at hlen ht
    rw [← List.append_assoc, tx_app] at ht
    simp only [List.length_append, List.length_cons, List.length_nil] at hlen ht hkC
    obtain ⟨t1, t2⟩ := ht
    obtain ⟨h1, Y1, q1, q2, q3, q4, q5⟩ := R_holdsTest hM hW hv hp vk.1 (by omega) hY t1
    rw [show 190 + 100 * a + i + (((prT (prX 4) c.1).length + (0 + 1) : Nat) : Int) = 190 + 100 * a + (i + (prT (prX 4) c.1).length + 1) by omega] at t2
    have pre : f_X11_findsOf_c17 (some m) (iI a) (iI p) (iI (190 + 100 * a)) (iI k) h = @ite _ (evL (evX (sn A a p) 4) c.1 True) (Classical.propDecidable _) (some (.inr (iI k, h1))) (f_X11_findsOf_b44 (some m) (iI a) (iI p) (iI (190 + 100 * a)) (iI k) h1) := by
      simp (disch := omega) only [f_X11_findsOf_c17, Mg0 hM.1, R_of, Option.bind_some, z_b2_some, z_i1_some, iI_lit, iI_add, iI_sub, iI_mul, iI_neg, e74, M_all hM, hC.1, iI_le, if_neg, Mck hM.1, q1, ite_tb]
    by_cases ev : evL (evX (sn A a p) 4) c.1 True
    · refine ⟨h1, Y1, ?_, q2, q4, q5, fun y hy => ?_⟩
      · unfold FLp f_X11_findsOf_b17
        refine (z_it_done (s := (some m, iI a, iI p, iI (190 + 100 * a), iI k, h)) (a := (iI k, h1)) ?_).trans ?_
        · rw [pre, if_pos ev]
        · simp only [fndx, if_pos ev]
      · simp only [fndC, if_pos ev] at hy
        cases hy
        exact ⟨_, q3, t2, ⟨by omega, by omega, by omega⟩, Or.inl (by omega), vk.2.2⟩
    · obtain ⟨h2, Y2, r1, r2, r3, r4, r5⟩ := R_skip (p := p) ha k N hN (prActs c.2) h1 Y1 _ q2 q3 (by omega) (prActs_ne vk.2.2) t2 (Or.inl (by omega))
      refine ⟨h2, Y2, ?_, r2, sm_tr q4 r4, fr_tr q5 r5, fun y hy => ?_⟩
      · unfold FLp f_X11_findsOf_b17
        refine (z_it_next (s := (some m, iI a, iI p, iI (190 + 100 * a), iI k, h)) (s' := (some m, iI a, iI p, iI (190 + 100 * a), iI (k + 1), h2)) ?_).trans ?_
        · rw [pre, if_neg ev]; exact r1
        · refine z_it_done ?_
          simp (disch := omega) only [f_X11_findsOf_c17, Mg0 r2.1, R_of, Option.bind_some, z_b2_some, z_i1_some, iI_lit, iI_add, iI_sub, iI_mul, iI_neg, e74, M_all r2, hC.1, iI_le, if_pos, fndx]
          rw [if_neg ev]
      · simp only [fndC, if_neg ev] at hy
        cases hy
  | cons c2 l ih =>
    intro c h Y i k hM hY hi hlen hk hkC hvk ht
    have ha : 0 ≤ a ∧ a ≤ 2 := (hW.vp hv).1
    have vk := hvk c (List.mem_cons_self ..)
    have e74 : 70 + 40 * a + 4 = 74 + 40 * a := by omega
    have hs : prK c ++ prQr (c2 :: l) = (prT (prX 4) c.1 ++ [58]) ++ (prActs c.2 ++ ([59] ++ (prK c2 ++ prQr l))) := by
      simp only [prQr, prK, List.append_assoc]
    rw [hs] at hlen ht
    obtain ⟨t1, ht⟩ := (tx_app _ _ _ _).mp ht
    obtain ⟨t2, ht⟩ := (tx_app _ _ _ _).mp ht
    obtain ⟨t3, t4⟩ := (tx_app _ _ _ _).mp ht
    simp only [List.length_append, List.length_cons, List.length_nil] at hlen t2 t3 t4 hkC
    obtain ⟨h1, Y1, q1, q2, q3, q4, q5⟩ := R_holdsTest hM hW hv hp vk.1 (by omega) hY t1
    rw [show 190 + 100 * a + i + (((prT (prX 4) c.1).length + (0 + 1) : Nat) : Int) = 190 + 100 * a + (i + (prT (prX 4) c.1).length + 1) by omega] at t2 t3 t4
    rw [show 190 + 100 * a + (i + ((prT (prX 4) c.1).length : Int) + 1) + ((prActs c.2).length : Int) = 190 + 100 * a + (i + (prT (prX 4) c.1).length + 1 + (prActs c.2).length) by omega] at t3 t4
    have pre : f_X11_findsOf_c17 (some m) (iI a) (iI p) (iI (190 + 100 * a)) (iI k) h = @ite _ (evL (evX (sn A a p) 4) c.1 True) (Classical.propDecidable _) (some (.inr (iI k, h1))) (f_X11_findsOf_b44 (some m) (iI a) (iI p) (iI (190 + 100 * a)) (iI k) h1) := by
      simp (disch := omega) only [f_X11_findsOf_c17, Mg0 hM.1, R_of, Option.bind_some, z_b2_some, z_i1_some, iI_lit, iI_add, iI_sub, iI_mul, iI_neg, e74, M_all hM, hC.1, iI_le, if_neg, Mck hM.1, q1, ite_tb]
    by_cases ev : evL (evX (sn A a p) 4) c.1 True
    · refine ⟨h1, Y1, ?_, q2, q4, q5, fun y hy => ?_⟩
      · unfold FLp f_X11_findsOf_b17
        refine (z_it_done (s := (some m, iI a, iI p, iI (190 + 100 * a), iI k, h)) (a := (iI k, h1)) ?_).trans ?_
        · rw [pre, if_pos ev]
        · simp only [fndx, if_pos ev]
      · simp only [fndC, if_pos ev] at hy
        cases hy
        exact ⟨_, q3, t2, ⟨by omega, by omega, by omega⟩, Or.inr t3.1, vk.2.2⟩
    · obtain ⟨h2, Y2, r1, r2, r3, r4, r5⟩ := R_skip (p := p) ha k N hN (prActs c.2) h1 Y1 _ q2 q3 (by omega) (prActs_ne vk.2.2) t2 (Or.inr t3.1)
      rw [show 190 + 100 * a + (i + ((prT (prX 4) c.1).length : Int) + 1 + ((prActs c.2).length : Int)) + ((0 + 1 : Nat) : Int) = 190 + 100 * a + (i + (prT (prX 4) c.1).length + 1 + (prActs c.2).length + 1) by omega] at t4
      obtain ⟨h3, Y3, s1, s2, s3, s4, s5⟩ := ih c2 h2 Y2 _ (k + 1) r2 r3 (by omega) (by simp only [List.length_append]; omega) (by omega) (by omega) (fun x hx => hvk x (List.mem_cons_of_mem _ hx)) t4
      refine ⟨h3, Y3, ?_, s2, sm_tr (sm_tr q4 r4) s3, fr_tr (fr_tr q5 r5) s4, fun y hy => ?_⟩
      · have e : fndx A a p (c :: c2 :: l) k = fndx A a p (c2 :: l) (k + 1) := by rw [fndx, if_neg ev]
        rw [e, ← s1]
        unfold FLp f_X11_findsOf_b17
        refine z_it_next (s := (some m, iI a, iI p, iI (190 + 100 * a), iI k, h)) (s' := (some m, iI a, iI p, iI (190 + 100 * a), iI (k + 1), h2)) ?_
        rw [pre, if_neg ev]; exact r1
      · have e : fndC A a p (c :: c2 :: l) = fndC A a p (c2 :: l) := by rw [fndC, if_neg ev]
        rw [e] at hy
        exact s5 y hy
theorem R_findsOf {h : zH} {Y : Nat → Nat → Int32} (hM : MR h m A Y) (hW : WF A) (hv : vP A a p) (hp : 1 ≤ p) {q : List zKl} (hT : TX A a q) : ∃ h' Y', f_X11_findsOf (some m) (iI a) (iI p) h = some (iI (fndx A a p q 0), h') ∧ MR h' m A Y' ∧ sm 0 Y Y' ∧ fr m 19 h h' ∧ (∀ y, fndC A a p q = some y → ∃ i', Y' 0 14 = iI i' ∧ actAt A a i' y) := by
  have ha : 0 ≤ a ∧ a ≤ 2 := (hW.vp hv).1
  have e74 : 70 + 40 * a + 4 = 74 + 40 * a := by omega
  have go : f_X11_findsOf (some m) (iI a) (iI p) h = FLp m a p 0 (hat h m Y 0) := by
    unfold f_X11_findsOf FLp
    simp only [iI_lit, iI_add, iI_sub, iI_mul, iI_neg, M_at hM, Option.bind_some, z_b2_some, z_i1_some]
  rw [go]
  have M1 := MR_at hM 0
  obtain ⟨⟨hq1, hq2, hq4⟩, hq3, hT⟩ := hT
  match q, hq1, hq2, hq3, hT, hq4 with
  | [], _, _, hq3, _, _ =>
    refine ⟨hat h m Y 0, _, ?_, M1, sm_at _ _ _, hat_fr _ _ _ _, fun y hy => by cases hy⟩
    unfold FLp f_X11_findsOf_b17
    refine z_it_done ?_
    have hq3 : A (74 + 40 * a) = 0 := hq3
    simp (disch := omega) only [f_X11_findsOf_c17, Mg0 M1.1, R_of, Option.bind_some, z_b2_some, z_i1_some, iI_lit, iI_add, iI_sub, iI_mul, iI_neg, e74, M_all M1, hq3, iI_le, if_pos, fndx]
  | c :: l, hq1, hq2, hq3, hT, hq4 =>
    obtain ⟨hT1, hT2⟩ := hT (by simp)
    simp only [List.length_cons] at hq1 hq3
    have hT2' : tx A (190 + 100 * a + 0) (prK c ++ prQr l) := by rw [Int.add_zero]; exact hT2
    obtain ⟨h3, Y3, s1, s2, s3, s4, s5⟩ := R_findL hW hv hp ((prQ (c :: l)).length : Int) ((l.length + 1 : Nat) : Int) ⟨hT1, by omega⟩ ⟨hq3, by omega⟩ l c (hat h m Y 0) (uat Y 0) 0 0 M1 (uat_s _ _) (by omega) (by simp only [prQ]; omega) (by omega) (by omega) hq2 hT2'
    exact ⟨h3, Y3, s1, s2, sm_tr (sm_at _ _ _) s3, fr_tr (hat_fr _ _ _ _) s4, s5⟩
end FI
