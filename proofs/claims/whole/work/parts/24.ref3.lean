section R4
variable {h : zH} {m : Nat} {Y : Nat → Nat → Int32} {A : Int → Int}
/-- the cell itself (side -1), or the one to a side -/
def atS (c s : Int) : Int := if s < 0 then c else bes c s
theorem atS_rg {c s : Int} (hc : 0 ≤ c ∧ c < 64) : -4 ≤ atS c s ∧ atS c s < 64 := by
  unfold atS
  split
  · omega
  · rcases bes_rg (s := s) hc.1 hc.2 with q | q <;> omega
/-- a thing of a taste lies there -/
def lyT (A : Int → Int) (c t : Int) : Prop := 0 ≤ c ∧ ∃ u, ly A u c ∧ A (492 + 4 * u) = t
def near (A : Int → Int) (c t : Int) : Prop := ∃ s, (-1 ≤ s ∧ s ≤ 3) ∧ lyT A (atS c s) t
theorem R_isNear (hM : MR h m A Y) (hW : WF A) {c t : Int} (hc : 0 ≤ c ∧ c < 64) (ht : 0 ≤ t ∧ t ≤ 3) : f_X11_isNear (some m) (iI c) (iI t) h = some (tb (near A c t), h) := by
  have hn := hW.n
  have b76 : ∀ (P : Prop) (s v : Int), f_X11_isNear_b76 (some m) (iI c) (iI t) (iI s) (iI v) h = some (.inl (some m, iI c, iI t, iI v, iI (s + 1), h)) := by
    intro P s v
    simp only [f_X11_isNear_b76, iI_lit, iI_add, iI_sub, iI_mul, iI_neg]
  have b44 : ∀ (P : Prop) (s w e : Int), (-4 ≤ w ∧ w < 64) → e = (if 0 ≤ w then lyAt A w else -4) → f_X11_isNear_b44 (some m) (iI c) (iI t) (tb P) (iI s) (iI e) h = some (.inl (some m, iI c, iI t, tb (P ∨ lyT A w t), iI (s + 1), h)) := by
    intro P s w e hw he
    simp (disch := omega) only [f_X11_isNear_b44, iI_lit, iI_add, iI_sub, iI_mul, iI_neg, ite_tb]
    refine ite_c (fun q => ?_) (fun q => ?_)
    · rw [tb_t (Or.inl q), f_X11_isNear_b71, iI_lit, b76 P]
    · by_cases hw0 : 0 ≤ w
      · rw [if_pos hw0] at he
        rcases ly_cs hW w with ⟨g1, g2⟩ | ⟨u, g1, g2, g3⟩
        · rw [he, g1]
          simp (disch := omega) only [iI_lt, if_pos, f_X11_isNear_b75, iI_lit, iI_add, iI_sub, iI_mul, iI_neg]
          rw [b76 P, tb_f]
          rintro (z | ⟨z1, u, z2, z3⟩)
          · exact q z
          · exact g2 ⟨u, z2⟩
        · rw [he, g1]
          have hu := hW.t g2.1
          have ht2 := hu.2.2.1
          have e2 : 490 + 4 * u + 2 = 492 + 4 * u := by omega
          simp (disch := omega) only [iI_lt, if_neg, Mg0 hM.1, R_thingAt, Option.bind_some, z_b2_some, z_i1_some, iI_add, M_all hM, e2, iI_eq]
          refine ite_c (fun q2 => ?_) (fun q2 => ?_)
          · rw [f_X11_isNear_b71, iI_lit, b76 P, tb_t (Or.inr ⟨hw0, u, g2, q2⟩)]
          · rw [f_X11_isNear_b75, iI_lit, b76 P, tb_f]
            rintro (z | ⟨z1, u', z2, z3⟩)
            · exact q z
            · rw [hW.l z2 g2] at z3; exact q2 z3
      · rw [if_neg hw0] at he
        rw [he]
        simp (disch := omega) only [iI_lt, if_pos, f_X11_isNear_b75, iI_lit, iI_add, iI_sub, iI_mul, iI_neg]
        rw [b76 P, tb_f]
        rintro (z | ⟨z1, z2⟩)
        · exact q z
        · exact hw0 z1
  have b26 : ∀ (P : Prop) (s w : Int), (-4 ≤ w ∧ w < 64) → f_X11_isNear_b26 (some m) (iI c) (iI t) (tb P) (iI s) (iI w) h = some (.inl (some m, iI c, iI t, tb (P ∨ lyT A w t), iI (s + 1), h)) := by
    intro P s w hw
    simp (disch := omega) only [f_X11_isNear_b26, iI_lit, iI_add, iI_sub, iI_mul, iI_neg, iI_le]
    refine ite_c (fun q => ?_) (fun q => ?_)
    · simp (disch := omega) only [Mck hM.1, R_lyingAt hM hW, Option.bind_some, z_b2_some, z_i1_some]
      exact b44 P s w _ hw (by rw [if_pos q])
    · exact b44 P s w _ hw (by rw [if_neg q])
  rw [f_X11_isNear]
  simp only [iI_lit, iI_add, iI_sub, iI_mul, iI_neg]
  have h0 : iI 0 = tb (∃ s, (-1 ≤ s ∧ s < ((0 : Nat) : Int) - 1) ∧ lyT A (atS c s) t) := by
    rw [tb_f]; rintro ⟨s, z, -⟩; omega
  rw [h0]
  refine z_for0 (fun i : Nat => ((some m, iI c, iI t, tb (∃ s, (-1 ≤ s ∧ s < (i : Int) - 1) ∧ lyT A (atS c s) t), iI ((i : Int) - 1), h) : Option Nat × Int32 × Int32 × Int32 × Int32 × zH)) 5 (fun i hi => ?_) ?_
  · have key : f_X11_isNear_c5 (some m) (iI c) (iI t) (tb (∃ s, (-1 ≤ s ∧ s < (i : Int) - 1) ∧ lyT A (atS c s) t)) (iI ((i : Int) - 1)) h = some (.inl (some m, iI c, iI t, tb ((∃ s, (-1 ≤ s ∧ s < (i : Int) - 1) ∧ lyT A (atS c s) t) ∨ lyT A (atS c ((i : Int) - 1)) t), iI ((i : Int) - 1 + 1), h)) := by
      simp (disch := omega) only [f_X11_isNear_c5, iI_lit, iI_add, iI_sub, iI_mul, iI_neg, iI_le, if_neg]
      refine ite_c (fun q => ?_) (fun q => ?_)
      · simp (disch := omega) only [R_beside hc.1 hc.2, Option.bind_some, z_b2_some, z_i1_some]
        have := bes_rg (s := (i : Int) - 1) hc.1 hc.2
        rw [b26 _ _ _ (by omega)]
        unfold atS
        rw [if_neg (show ¬ ((i : Int) - 1 < 0) by omega)]
      · rw [b26 _ _ _ (by omega)]
        unfold atS
        rw [if_pos (show (i : Int) - 1 < 0 by omega)]
    refine key.trans ?_
    have ee : (i : Int) - 1 + 1 = ((i + 1 : Nat) : Int) - 1 := by omega
    have ep : ((∃ s, (-1 ≤ s ∧ s < (i : Int) - 1) ∧ lyT A (atS c s) t) ∨ lyT A (atS c ((i : Int) - 1)) t) = (∃ s, (-1 ≤ s ∧ s < ((i + 1 : Nat) : Int) - 1) ∧ lyT A (atS c s) t) := by
      refine propext ⟨?_, ?_⟩
      · rintro (⟨s, z1, z2⟩ | z)
        · exact ⟨s, by omega, z2⟩
        · exact ⟨(i : Int) - 1, by omega, z⟩
      · rintro ⟨s, z1, z2⟩
        by_cases g : s = (i : Int) - 1
        · subst g; exact Or.inr z2
        · exact Or.inl ⟨s, by omega, z2⟩
    rw [ee, ep]
  · have e5 : ((5 : Nat) : Int) - 1 = 4 := by omega
    simp (disch := omega) only [f_X11_isNear_c5, iI_lit, iI_add, iI_sub, iI_mul, iI_neg, iI_le, e5, if_pos, tb_or, if_true, Option.bind_some, z_b2_some, z_i1_some]
    congr 3
    refine tb_cg ⟨?_, ?_⟩
    · rintro ⟨s, z1, z2⟩; exact ⟨s, by omega, z2⟩
    · rintro ⟨s, z1, z2⟩; exact ⟨s, by omega, z2⟩
theorem R_things (hM : MR h m A Y) (hW : WF A) {w : Int} (hw : 0 ≤ w ∧ w ≤ 2) : ∃ n : Nat, f_X11_things (some m) (iI w) h = some (iI n, h) ∧ n = ((List.range (A 65).toNat).filter (fun t : Nat => decide (A (490 + 4 * (t : Int)) = w))).length := by
  have hn := hW.n
  refine ⟨_, ?_, rfl⟩
  rw [f_X11_things]
  simp only [iI_lit, iI_add, iI_sub, iI_mul, iI_neg]
  refine z_for0 (fun i : Nat => ((some m, iI w, iI (((List.range i).filter (fun t : Nat => decide (A (490 + 4 * (t : Int)) = w))).length : Nat), iI i, h) : Option Nat × Int32 × Int32 × Int32 × zH)) (A 65).toNat (fun i hi => ?_) ?_
  · have ht := (hW.t (t := i) (by omega)).1
    rw [List.range_succ, List.filter_append, List.length_append]
    simp (disch := omega) only [f_X11_things_c4, f_X11_things_b34, Mg0 hM.1, M_all hM, R_thingAt, Option.bind_some, z_b2_some, z_i1_some, iI_lit, iI_add, iI_sub, iI_mul, iI_neg, iI_lt, iI_le, iI_eq, if_neg]
    refine ite_c (fun q => ?_) (fun q => ?_)
    · simp only [List.filter_cons, List.filter_nil, q, decide_true, if_true, List.length_cons, List.length_nil]
      rfl
    · simp only [List.filter_cons, List.filter_nil, q, decide_false, List.length_nil, if_neg, Bool.false_eq_true, if_false]
      rw [Int.add_zero]
      rfl
  · rw [Int.toNat_of_nonneg hn.2.1.1]
    simp (disch := omega) only [f_X11_things_c4, Mg0 hM.1, M_all hM, Option.bind_some, z_b2_some, z_i1_some, iI_lit, iI_add, iI_sub, iI_mul, iI_neg, iI_lt, iI_le, iI_eq, if_pos]
/-! the acts -/
noncomputable def cand (A : Int → Int) (c : Int) : Int := if c < 0 then -4 else if lyAt A c < 0 then -4 else if A (492 + 4 * lyAt A c) = A 66 then -4 else lyAt A c
noncomputable def gfind (A : Int → Int) (c : Int) : Int :=
  if 0 ≤ cand A c then cand A c else if 0 ≤ cand A (bes c 0) then cand A (bes c 0) else if 0 ≤ cand A (bes c 1) then cand A (bes c 1) else if 0 ≤ cand A (bes c 2) then cand A (bes c 2) else cand A (bes c 3)
noncomputable def sGive (A : Int → Int) (a p t : Int) : Int → Int := uI (uI (uI A (490 + 4 * t) 1) (493 + 4 * t) (10 * a + p)) (89 + 40 * a + p) t
noncomputable def sGrab (A : Int → Int) (a p : Int) : Int → Int :=
  if A (89 + 40 * a + p) < 0 then (if 0 ≤ gfind A (A (75 + 40 * a + p)) then sGive A a p (gfind A (A (75 + 40 * a + p))) else A) else A
theorem cand_cs (hW : WF A) (c : Int) : cand A c = -4 ∨ (0 ≤ c ∧ ly A (cand A c) c ∧ A (492 + 4 * cand A c) ≠ A 66 ∧ 0 ≤ cand A c ∧ cand A c ≤ 7) := by
  unfold cand
  split
  · exact Or.inl rfl
  · split
    · exact Or.inl rfl
    · split
      · exact Or.inl rfl
      · rename_i h1 h2 h3
        rcases ly_cs hW c with ⟨g1, g2⟩ | ⟨t, g1, g2, g3⟩
        · omega
        · rw [g1]; rw [g1] at h3; exact Or.inr ⟨by omega, g2, h3, g3.1, g3.2⟩
theorem gfind_cs (hW : WF A) (c : Int) : (gfind A c = -4) ∨ ∃ s, (-1 ≤ s ∧ s ≤ 3) ∧ gfind A c = cand A (atS c s) ∧ 0 ≤ gfind A c ∧ gfind A c ≤ 7 := by
  have k := fun c => cand_cs hW c
  unfold gfind
  split
  · right; exact ⟨-1, by omega, by unfold atS; rw [if_pos (by omega)], by rcases k c with q | q <;> omega, by rcases k c with q | q <;> omega⟩
  · split
    · right; exact ⟨0, by omega, by unfold atS; rw [if_neg (by omega)], by rcases k (bes c 0) with q | q <;> omega, by rcases k (bes c 0) with q | q <;> omega⟩
    · split
      · right; exact ⟨1, by omega, by unfold atS; rw [if_neg (by omega)], by rcases k (bes c 1) with q | q <;> omega, by rcases k (bes c 1) with q | q <;> omega⟩
      · split
        · right; exact ⟨2, by omega, by unfold atS; rw [if_neg (by omega)], by rcases k (bes c 2) with q | q <;> omega, by rcases k (bes c 2) with q | q <;> omega⟩
        · rcases k (bes c 3) with q | q
          · left; exact q
          · right; exact ⟨3, by omega, by unfold atS; rw [if_neg (by omega)], by omega, by omega⟩
theorem R_grab (hM : MR h m A Y) (hW : WF A) {a p : Int} (hv : vP A a p) : ∃ h', f_X11_grab (some m) (iI a) (iI p) h = some h' ∧ go1 m h Y (sGrab A a p) h' := by
  have hn := hW.n
  have h1 := hW.vp hv
  have hh := hW.ho hv
  have hc := hW.ce hv
  have e89 : 70 + 40 * a + 19 + p = 89 + 40 * a + p := by omega
  unfold sGrab
  by_cases q0 : A (89 + 40 * a + p) < 0
  · rw [if_pos q0]
    have go : f_X11_grab (some m) (iI a) (iI p) h = f_X11_grab_b19 (some m) (iI a) (iI p) (iI (-1)) h := by
      simp (disch := omega) only [f_X11_grab, Mg0 hM.1, R_of, Option.bind_some, z_b2_some, z_i1_some, iI_lit, iI_add, iI_sub, iI_mul, iI_neg, e89, M_all hM, iI_lt, if_pos]
    rw [go]
    generalize hcc : A (75 + 40 * a + p) = c at *
    -- one side: nothing there
    have b65n : ∀ (s e : Int), e < 0 → -4 ≤ e → f_X11_grab_b65 (some m) (iI a) (iI p) (iI s) (iI e) h = some (.inl (some m, iI a, iI p, iI (s + 1), h)) := by
      intro s e h1 h2
      simp (disch := omega) only [f_X11_grab_b65, f_X11_grab_b139, iI_lit, iI_add, iI_sub, iI_mul, iI_neg, iI_lt, if_pos]
    have b47n : ∀ (s w : Int), (-4 ≤ w ∧ w < 64) → ¬ 0 ≤ cand A w → f_X11_grab_b47 (some m) (iI a) (iI p) (iI s) (iI w) h = some (.inl (some m, iI a, iI p, iI (s + 1), h)) := by
      intro s w hw hno
      simp (disch := omega) only [f_X11_grab_b47, iI_lit, iI_add, iI_sub, iI_mul, iI_neg, iI_le]
      refine ite_c (fun q => ?_) (fun q => b65n s (-4) (by omega) (by omega))
      simp (disch := omega) only [Mck hM.1, R_lyingAt hM hW, Option.bind_some, z_b2_some, z_i1_some]
      rcases ly_cs hW w with ⟨g1, g2⟩ | ⟨u, g1, g2, g3⟩
      · rw [g1]; exact b65n s _ (by omega) (by omega)
      · have hu := hW.t g2.1
        have ht2 := hu.2.2.1
        have e2 : 490 + 4 * u + 2 = 492 + 4 * u := by omega
        have heq : A (492 + 4 * u) = A 66 := by
          apply Classical.byContradiction; intro hne
          apply hno
          unfold cand
          rw [if_neg (by omega), g1, if_neg (by omega), if_neg hne]
          exact g3.1
        rw [g1]
        simp (disch := omega) only [f_X11_grab_b65, f_X11_grab_b139, Mg0 hM.1, R_thingAt, Option.bind_some, z_b2_some, z_i1_some, iI_lit, iI_add, iI_sub, iI_mul, iI_neg, M_all hM, e2, iI_eq, iI_lt, if_neg, if_pos]
    have b47y : ∀ (s w : Int), (-4 ≤ w ∧ w < 64) → 0 ≤ cand A w → ∃ h', f_X11_grab_b47 (some m) (iI a) (iI p) (iI s) (iI w) h = some (.inr h') ∧ go1 m h Y (sGive A a p (cand A w)) h' := by
      intro s w hw hy
      rcases cand_cs hW w with g | ⟨g0, g1, g2, g3, g4⟩
      · omega
      · have hla : lyAt A w = cand A w := ly_at hW g1
        generalize cand A w = u at *
        have hu := hW.t g1.1
        have ht2 := hu.2.2.1
        have e2 : 490 + 4 * u + 2 = 492 + 4 * u := by omega
        have e3 : 490 + 4 * u + 3 = 493 + 4 * u := by omega
        have M1 := M_ms hM (490 + 4 * u) 1 (by omega) (by omega)
        have M2 := M_ms M1 (493 + 4 * u) (10 * a + p) (by omega) (by omega)
        have M3 := M_ms M2 (89 + 40 * a + p) u (by omega) (by omega)
        refine ⟨_, ?_, _, M3, o1_tr (o1_tr (o1_ms _ _ _) (o1_ms _ _ _)) (o1_ms _ _ _), fr_tr (fr_tr (ms_fr hM _ _) (ms_fr M1 _ _)) (ms_fr M2 _ _)⟩
        simp (disch := omega) only [f_X11_grab_b47, f_X11_grab_b65, Mck hM.1, R_lyingAt hM hW, hla, Mg0 hM.1, Mg0 M1.1, Mg0 M2.1, R_thingAt, R_of, Option.bind_some, z_b2_some, z_i1_some, iI_lit, iI_add, iI_sub, iI_mul, iI_neg, M_all hM, e2, e3, e89, iI_eq, iI_lt, iI_le, if_neg, if_pos, M_set hM, M_set M1, M_set M2]
    have c19n : ∀ s : Int, (-1 ≤ s ∧ s ≤ 3) → ¬ 0 ≤ cand A (atS c s) → f_X11_grab_c19 (some m) (iI a) (iI p) (iI s) h = some (.inl (some m, iI a, iI p, iI (s + 1), h)) := by
      intro s hs hno
      have hr := atS_rg (s := s) hc
      simp (disch := omega) only [f_X11_grab_c19, iI_lit, iI_add, iI_sub, iI_mul, iI_neg, iI_le, if_neg, Mck hM.1, R_cell hM, hcc, Option.bind_some, z_b2_some, z_i1_some]
      unfold atS at hno hr
      refine ite_c (fun q => ?_) (fun q => ?_)
      · simp (disch := omega) only [R_beside hc.1 hc.2, Option.bind_some, z_b2_some, z_i1_some]
        rw [if_neg (by omega)] at hno hr
        exact b47n s _ hr hno
      · rw [if_pos (by omega)] at hno hr
        exact b47n s _ hr hno
    have c19y : ∀ s : Int, (-1 ≤ s ∧ s ≤ 3) → 0 ≤ cand A (atS c s) → ∃ h', f_X11_grab_c19 (some m) (iI a) (iI p) (iI s) h = some (.inr h') ∧ go1 m h Y (sGive A a p (cand A (atS c s))) h' := by
      intro s hs hy
      have hr := atS_rg (s := s) hc
      simp (disch := omega) only [f_X11_grab_c19, iI_lit, iI_add, iI_sub, iI_mul, iI_neg, iI_le, if_neg, Mck hM.1, R_cell hM, hcc, Option.bind_some, z_b2_some, z_i1_some]
      unfold atS at hy hr ⊢
      by_cases q : 0 ≤ s
      · rw [if_pos q]
        simp (disch := omega) only [R_beside hc.1 hc.2, Option.bind_some, z_b2_some, z_i1_some]
        rw [if_neg (by omega)] at hy hr ⊢
        exact b47y s _ hr hy
      · rw [if_neg q]
        rw [if_pos (by omega)] at hy hr ⊢
        exact b47y s _ hr hy
    -- the loop
    have run : ∀ (n : Nat), n ≤ 5 → (∀ i : Nat, i < n → ¬ 0 ≤ cand A (atS c ((i : Int) - 1))) → ∀ r, f_X11_grab_c19 (some m) (iI a) (iI p) (iI ((n : Int) - 1)) h = some (.inr r) → f_X11_grab_b19 (some m) (iI a) (iI p) (iI (-1)) h = some r := by
      intro n hn5 hno r hr
      refine z_for0 (fun i : Nat => ((some m, iI a, iI p, iI ((i : Int) - 1), h) : Option Nat × Int32 × Int32 × Int32 × zH)) n (fun i hi => ?_) ?_
      · refine (c19n ((i : Int) - 1) (by omega) (hno i hi)).trans ?_
        rw [show (i : Int) - 1 + 1 = ((i + 1 : Nat) : Int) - 1 by omega]
      · exact hr
    have at0 : atS c (((0 : Nat) : Int) - 1) = c := by unfold atS; rw [if_pos (by omega)]
    have at1 : atS c (((1 : Nat) : Int) - 1) = bes c 0 := by unfold atS; rw [if_neg (by omega)]; rfl
    have at2 : atS c (((2 : Nat) : Int) - 1) = bes c 1 := by unfold atS; rw [if_neg (by omega)]; rfl
    have at3 : atS c (((3 : Nat) : Int) - 1) = bes c 2 := by unfold atS; rw [if_neg (by omega)]; rfl
    have at4 : atS c (((4 : Nat) : Int) - 1) = bes c 3 := by unfold atS; rw [if_neg (by omega)]; rfl
    have fin : ∀ n : Nat, n < 5 → (∀ i : Nat, i < n → ¬ 0 ≤ cand A (atS c ((i : Int) - 1))) → 0 ≤ cand A (atS c ((n : Int) - 1)) → ∃ h', f_X11_grab_b19 (some m) (iI a) (iI p) (iI (-1)) h = some h' ∧ go1 m h Y (sGive A a p (cand A (atS c ((n : Int) - 1)))) h' := by
      intro n hn5 hno hy
      obtain ⟨h', g1, g2⟩ := c19y ((n : Int) - 1) (by omega) hy
      exact ⟨h', run n (by omega) hno h' g1, g2⟩
    unfold gfind
    by_cases k0 : 0 ≤ cand A c
    · rw [if_pos k0, if_pos k0]
      have := fin 0 (by omega) (fun i hi => absurd hi (by omega)) (by rw [at0]; exact k0)
      rwa [at0] at this
    · rw [if_neg k0]
      by_cases k1 : 0 ≤ cand A (bes c 0)
      · rw [if_pos k1, if_pos k1]
        have := fin 1 (by omega) (fun i hi => by rw [show i = 0 by omega, at0]; exact k0) (by rw [at1]; exact k1)
        rwa [at1] at this
      · rw [if_neg k1]
        by_cases k2 : 0 ≤ cand A (bes c 1)
        · rw [if_pos k2, if_pos k2]
          have := fin 2 (by omega) (fun i hi => by rcases (show i = 0 ∨ i = 1 by omega) with rfl | rfl; rw [at0]; exact k0; rw [at1]; exact k1) (by rw [at2]; exact k2)
          rwa [at2] at this
        · rw [if_neg k2]
          by_cases k3 : 0 ≤ cand A (bes c 2)
          · rw [if_pos k3, if_pos k3]
            have := fin 3 (by omega) (fun i hi => by rcases (show i = 0 ∨ i = 1 ∨ i = 2 by omega) with rfl | rfl | rfl; rw [at0]; exact k0; rw [at1]; exact k1; rw [at2]; exact k2) (by rw [at3]; exact k3)
            rwa [at3] at this
          · rw [if_neg k3]
            by_cases k4 : 0 ≤ cand A (bes c 3)
            · rw [if_pos k4]
              have := fin 4 (by omega) (fun i hi => by rcases (show i = 0 ∨ i = 1 ∨ i = 2 ∨ i = 3 by omega) with rfl | rfl | rfl | rfl; rw [at0]; exact k0; rw [at1]; exact k1; rw [at2]; exact k2; rw [at3]; exact k3) (by rw [at4]; exact k4)
              rwa [at4] at this
            · rw [if_neg k4]
              refine ⟨h, run 5 (by omega) (fun i hi => by rcases (show i = 0 ∨ i = 1 ∨ i = 2 ∨ i = 3 ∨ i = 4 by omega) with rfl | rfl | rfl | rfl | rfl; rw [at0]; exact k0; rw [at1]; exact k1; rw [at2]; exact k2; rw [at3]; exact k3; rw [at4]; exact k4) h ?_, go1_rf hM⟩
              have e5 : ((5 : Nat) : Int) - 1 = 4 := by omega
              simp (disch := omega) only [f_X11_grab_c19, iI_lit, iI_add, iI_sub, iI_mul, iI_neg, iI_le, e5, if_pos, Option.bind_some, z_b2_some, z_i1_some]
  · rw [if_neg q0]
    refine ⟨h, ?_, go1_rf hM⟩
    simp (disch := omega) only [f_X11_grab, Mg0 hM.1, R_of, Option.bind_some, z_b2_some, z_i1_some, iI_lit, iI_add, iI_sub, iI_mul, iI_neg, e89, M_all hM, iI_lt, if_neg]
end R4
