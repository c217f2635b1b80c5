section R3
variable {h : zH} {m : Nat} {Y : Nat → Nat → Int32} {A : Int → Int}
theorem R_isPiece (hM : MR h m A Y) (hW : WF A) {a p : Int} (ha : -2147483648 ≤ a ∧ a < 2147483648) (hp : -2147483648 ≤ p ∧ p < 2147483648) : f_X11_isPiece (some m) (iI a) (iI p) h = some (tb (vP A a p), h) := by
  have hn := hW.n
  simp (disch := omega) only [f_X11_isPiece, Mck hM.1, Option.bind_some, z_b2_some, z_i1_some, iI_lit, R_isArm hM ha hn.1, ite_tb]
  refine ite_c (fun h1 => ?_) (fun h1 => ?_)
  · have hpc := hW.pc h1
    simp (disch := omega) only [R_pieces hM, Option.bind_some, z_b2_some, z_i1_some, iI_sub, R_in, iI_le, ite_tb]
    refine ite_c (fun h2 => ?_) (fun h2 => ?_)
    · rw [tb_t (show vP A a p from ⟨h1, h2.1, by omega⟩)]
    · rw [tb_f (fun q => h2 ⟨q.2.1, by have := q.2.2; omega⟩)]
  · rw [tb_f (fun q => h1 q.1)]
theorem R_cutOf (hM : MR h m A Y) {a : Int} (ha : 0 ≤ a ∧ a ≤ 2) : f_X11_cutOf (some m) (iI a) h = some (iI (A (71 + 40 * a)), h) := by
  simp (disch := omega) only [f_X11_cutOf, Mg0 hM.1, Option.bind_some, z_b2_some, z_i1_some, iI_lit, R_of, M_all hM]
  congr 4; omega
def isTip (A : Int → Int) (a p : Int) : Prop := p = A (70 + 40 * a) - 1 ∨ A (71 + 40 * a) = p + 1
theorem R_isTip (hM : MR h m A Y) (hW : WF A) {a p : Int} (hv : vP A a p) : f_X11_isTip (some m) (iI a) (iI p) h = some (tb (isTip A a p), h) := by
  have hn := hW.n
  have h1 := hW.vp hv
  have h2 := hW.pc hv.1
  have h3 := hW.cu hv.1
  simp (disch := omega) only [f_X11_isTip, Mck hM.1, Option.bind_some, z_b2_some, z_i1_some, iI_lit, R_pieces hM, R_cutOf hM, iI_sub, iI_add, iI_eq]
  refine ite_c (fun q => ?_) (fun q => ite_c (fun q2 => ?_) (fun q2 => ?_))
  · rw [tb_t (show isTip A a p from Or.inl q)]
  · rw [tb_t (show isTip A a p from Or.inr q2)]
  · rw [tb_f (fun e => e.elim q q2)]
theorem R_isFree (hM : MR h m A Y) (hW : WF A) {c : Int} (hc : -4 ≤ c ∧ c < 64) : f_X11_isFree (some m) (iI c) h = some (tb (free A c), h) := by
  simp (disch := omega) only [f_X11_isFree, iI_lit, iI_add, iI_sub, iI_mul, iI_neg, iI_lt]
  refine ite_c (fun q => ?_) (fun q => ?_)
  · rw [tb_f (fun e => absurd e.1 (by omega))]
  · have hw := hW.w (c := c) (by omega) (by omega)
    simp (disch := omega) only [Mg0 hM.1, Mck hM.1, Option.bind_some, z_b2_some, z_i1_some, M_all hM, R_hasPiece hM hW hc, iI_eq, ite_tb]
    refine ite_c (fun q1 => ite_c (fun q2 => ?_) (fun q2 => ?_)) (fun q1 => ?_)
    · rw [tb_f (fun e => e.2.2 q2)]
    · rw [tb_t (show free A c from ⟨by omega, q1, q2⟩)]
    · rw [tb_f (fun e => q1 e.2.1)]
def sideTo (a b : Int) : Int := if bes a 0 = b then 0 else if bes a 1 = b then 1 else if bes a 2 = b then 2 else if bes a 3 = b then 3 else 4
theorem sideTo_rg (a b : Int) : 0 ≤ sideTo a b ∧ sideTo a b ≤ 4 := by unfold sideTo; repeat' split <;> omega
theorem R_sideTo {a b : Int} (ha : 0 ≤ a ∧ a < 64) (hb : -4 ≤ b ∧ b < 64) : f_X11_sideTo (iI a) (iI b) h = some (iI (sideTo a b), h) := by
  rw [f_X11_sideTo, iI_lit]
  have hr : ∀ s, -4 ≤ bes a s ∧ bes a s < 64 := fun s => by rcases bes_rg (s := s) ha.1 ha.2 with q | q <;> omega
  have nx : ∀ s : Nat, s < 4 → bes a s ≠ b → f_X11_sideTo_c2 (iI a) (iI b) (iI s) h = some (.inl (iI a, iI b, iI (s + 1 : Nat), h)) := by
    intro s hs hne
    have := hr s
    simp (disch := omega) only [f_X11_sideTo_c2, R_beside ha.1 ha.2, Option.bind_some, z_b2_some, z_i1_some, iI_lit, iI_le, iI_eq, iI_add, if_neg]
    rfl
  have dn : ∀ s : Nat, s < 4 → bes a s = b → f_X11_sideTo_c2 (iI a) (iI b) (iI s) h = some (.inr (iI s, h)) := by
    intro s hs he
    have := hr s
    simp (disch := omega) only [f_X11_sideTo_c2, R_beside ha.1 ha.2, Option.bind_some, z_b2_some, z_i1_some, iI_lit, iI_le, iI_eq, iI_add, if_neg, if_pos]
  have stf : ∀ n : Nat, n ≤ 4 → (∀ s : Nat, s < n → bes a s ≠ b) → (n = 4 ∨ bes a n = b) → f_X11_sideTo_b2 (iI a) (iI b) (iI 0) h = some (iI n, h) := by
    intro n hn h1 h2
    refine z_for0 (fun i : Nat => ((iI a, iI b, iI i, h) : Int32 × Int32 × Int32 × zH)) n (fun i hi => nx i (by omega) (h1 i hi)) ?_
    by_cases q : n = 4
    · subst q
      simp (disch := omega) only [f_X11_sideTo_c2, Option.bind_some, z_b2_some, z_i1_some, iI_lit, iI_le, if_pos]
    · exact dn n (by omega) (h2.resolve_left q)
  unfold sideTo
  by_cases q0 : bes a 0 = b
  · rw [if_pos q0]; exact stf 0 (by omega) (fun s hs => absurd hs (by omega)) (Or.inr q0)
  · by_cases q1 : bes a 1 = b
    · rw [if_neg q0, if_pos q1]
      exact stf 1 (by omega) (fun s hs => by rw [show s = 0 by omega]; exact q0) (Or.inr q1)
    · by_cases q2 : bes a 2 = b
      · rw [if_neg q0, if_neg q1, if_pos q2]
        exact stf 2 (by omega) (fun s hs => by rcases (show s = 0 ∨ s = 1 by omega) with rfl | rfl; exact q0; exact q1) (Or.inr q2)
      · by_cases q3 : bes a 3 = b
        · rw [if_neg q0, if_neg q1, if_neg q2, if_pos q3]
          exact stf 3 (by omega) (fun s hs => by rcases (show s = 0 ∨ s = 1 ∨ s = 2 by omega) with rfl | rfl | rfl; exact q0; exact q1; exact q2) (Or.inr q3)
        · rw [if_neg q0, if_neg q1, if_neg q2, if_neg q3]
          exact stf 4 (by omega) (fun s hs => by rcases (show s = 0 ∨ s = 1 ∨ s = 2 ∨ s = 3 by omega) with rfl | rfl | rfl | rfl; exact q0; exact q1; exact q2; exact q3) (Or.inl rfl)
/-- the form, piece by piece -/
noncomputable def fmK (A : Int → Int) (a : Int) : Nat → Int32
  | 0 => iI 0
  | k + 1 => fmK A a k ||| (iI (sideTo (A (75 + 40 * a + k)) (A (75 + 40 * a + (k + 1)))) <<< (iI (2 * k) &&& iI 31))
noncomputable def fmO (A : Int → Int) (a : Int) : Int32 := fmK A a (A (70 + 40 * a) - 1).toNat
theorem R_formOf (hM : MR h m A Y) {a : Int} (ha : 0 ≤ a ∧ a ≤ 2) (hpc : 2 ≤ A (70 + 40 * a) ∧ A (70 + 40 * a) ≤ 7) (hce : ∀ p, 0 ≤ p → p < A (70 + 40 * a) → 0 ≤ A (75 + 40 * a + p) ∧ A (75 + 40 * a + p) < 64) : f_X11_formOf (some m) (iI a) h = some (fmO A a, h) := by
  rw [f_X11_formOf, iI_lit, iI_lit]
  refine z_for0 (fun i : Nat => ((some m, iI a, fmK A a i, iI (i + 1), h) : Option Nat × Int32 × Int32 × Int32 × zH)) (A (70 + 40 * a) - 1).toNat (fun i hi => ?_) ?_
  · have c1 := hce i (by omega) (by omega)
    have c2 := hce (i + 1) (by omega) (by omega)
    have e1 : (i : Int) + 1 - 1 = i := by omega
    simp (disch := omega) only [f_X11_formOf_c4, Mck hM.1, R_pieces hM, R_cell hM, Option.bind_some, z_b2_some, z_i1_some, iI_lit, iI_le, iI_sub, iI_add, e1, R_sideTo, if_neg, iI_mul]
    rfl
  · simp (disch := omega) only [f_X11_formOf_c4, Mck hM.1, R_pieces hM, Option.bind_some, z_b2_some, z_i1_some, iI_lit, iI_le, if_pos]
    rfl
/-! where a piece goes -/
noncomputable def pick (A : Int → Int) (c : Int) : Int := @ite _ (free A c) (Classical.propDecidable _) c (-4)
theorem pick_t {c : Int} (hf : free A c) : pick A c = c := if_pos hf
theorem pick_f {c : Int} (hf : ¬ free A c) : pick A c = -4 := if_neg hf
theorem pick_rg {c : Int} (hc : -4 ≤ c ∧ c < 64) : -4 ≤ pick A c ∧ pick A c < 64 := by
  by_cases hf : free A c
  · rw [pick_t hf]; exact hc
  · rw [pick_f hf]; omega
noncomputable def flp (A : Int → Int) (one two c : Int) : Int :=
  if (one % 8 - two % 8) * (one % 8 - two % 8) = 1 ∧ (one / 8 - two / 8) * (one / 8 - two / 8) = 1 then
    pick A (if 8 * (one / 8) + two % 8 = c then 8 * (two / 8) + one % 8 else 8 * (one / 8) + two % 8) else -4
theorem R_flipped (hM : MR h m A Y) (hW : WF A) {a p : Int} (ha : 0 ≤ a ∧ a ≤ 2) (hp : 1 ≤ p ∧ p ≤ 5) (h1 : 0 ≤ A (75 + 40 * a + (p - 1)) ∧ A (75 + 40 * a + (p - 1)) < 64) (h2 : 0 ≤ A (75 + 40 * a + (p + 1)) ∧ A (75 + 40 * a + (p + 1)) < 64) (h3 : 0 ≤ A (75 + 40 * a + p) ∧ A (75 + 40 * a + p) < 64) :
    f_X11_flipped (some m) (iI a) (iI p) h = some (iI (flp A (A (75 + 40 * a + (p - 1))) (A (75 + 40 * a + (p + 1))) (A (75 + 40 * a + p))), h) := by
  have b108 : ∀ c, 0 ≤ c ∧ c < 64 → f_X11_flipped_b108 (some m) (iI c) h = some (iI (pick A c), h) := by
    intro c hc
    simp (disch := omega) only [f_X11_flipped_b108, Mck hM.1, R_isFree hM hW, Option.bind_some, z_b2_some, z_i1_some, iI_lit, iI_add, iI_sub, iI_mul, iI_neg, ite_tb]
    refine ite_c (fun q => ?_) (fun q => ?_)
    · rw [pick_t q]
    · rw [pick_f q]
  simp (disch := omega) only [f_X11_flipped, Mck hM.1, R_cell hM, Option.bind_some, z_b2_some, z_i1_some, iI_lit, iI_sub, iI_add]
  generalize A (75 + 40 * a + (p - 1)) = one at *
  generalize A (75 + 40 * a + (p + 1)) = two at *
  generalize A (75 + 40 * a + p) = c at *
  have r1 : one - one / 8 * 8 = one % 8 := by omega
  have r2 : two - two / 8 * 8 = two % 8 := by omega
  have q1 : iI one / iI 8 = iI (one / 8) := iI_div h1.1 (by omega) (by omega) (by omega)
  have q2 : iI two / iI 8 = iI (two / 8) := iI_div h2.1 (by omega) (by omega) (by omega)
  have sq : ∀ x : Int, -7 ≤ x → x ≤ 7 → 0 ≤ x * x ∧ x * x ≤ 49 := by
    intro x hx hy
    refine ⟨?_, ?_⟩
    · rcases Int.lt_or_le x 0 with g | g
      · have := Int.mul_nonneg (a := -x) (b := -x) (by omega) (by omega); rwa [Int.neg_mul_neg] at this
      · exact Int.mul_nonneg g g
    · have hc : x = -7 ∨ x = -6 ∨ x = -5 ∨ x = -4 ∨ x = -3 ∨ x = -2 ∨ x = -1 ∨ x = 0 ∨ x = 1 ∨ x = 2 ∨ x = 3 ∨ x = 4 ∨ x = 5 ∨ x = 6 ∨ x = 7 := by omega
      rcases hc with rfl | rfl | rfl | rfl | rfl | rfl | rfl | rfl | rfl | rfl | rfl | rfl | rfl | rfl | rfl <;> decide
  have s1 := sq (one % 8 - two % 8) (by omega) (by omega)
  have s2 := sq (one / 8 - two / 8) (by omega) (by omega)
  simp only [q1, q2, iI_sub, iI_mul, iI_add, iI_neg]
  simp only [r1, r2]
  unfold flp
  simp (disch := omega) only [iI_eq]
  by_cases c1 : (one % 8 - two % 8) * (one % 8 - two % 8) = 1
  · by_cases c2 : (one / 8 - two / 8) * (one / 8 - two / 8) = 1
    · rw [if_pos c1, if_pos c2, if_pos (And.intro c1 c2)]
      by_cases c3 : 8 * (one / 8) + two % 8 = c
      · rw [if_pos c3]; try rw [if_pos c3]
        exact b108 _ (by omega)
      · rw [if_neg c3]; try rw [if_neg c3]
        exact b108 _ (by omega)
    · rw [if_pos c1, if_neg c2, if_neg (fun q => c2 q.2)]
  · rw [if_neg c1, if_neg (fun q => c1 q.1)]
noncomputable def turn (A : Int → Int) (ahead side : Int) : Int :=
  @ite _ (free A (bes ahead ((side + 1) % 4))) (Classical.propDecidable _) (bes ahead ((side + 1) % 4)) (@ite _ (free A (bes ahead ((side + 2) % 4))) (Classical.propDecidable _) (bes ahead ((side + 2) % 4)) (pick A (bes ahead ((side + 3) % 4))))
noncomputable def goesTo (A : Int → Int) (a p : Int) : Int :=
  if p = 0 ∨ p = A (71 + 40 * a) then -4 else
    @ite _ (isTip A a p) (Classical.propDecidable _) (turn A (A (75 + 40 * a + (p - 1))) (sideTo (A (75 + 40 * a + (p - 1))) (A (75 + 40 * a + p)))) (flp A (A (75 + 40 * a + (p - 1))) (A (75 + 40 * a + (p + 1))) (A (75 + 40 * a + p)))
theorem R_turn (hM : MR h m A Y) (hW : WF A) {c s : Int} (hc : 0 ≤ c ∧ c < 64) (hs : 0 ≤ s ∧ s ≤ 4) : f_X11_goesTo_b49 (some m) (iI c) (iI s) (iI 1) h = some (iI (turn A c s), h) := by
  have hr : ∀ s, -4 ≤ bes c s ∧ bes c s < 64 := fun s => by rcases bes_rg (s := s) hc.1 hc.2 with q | q <;> omega
  have nx : ∀ k : Nat, k < 3 → ¬ free A (bes c ((s + (k + 1)) % 4)) → f_X11_goesTo_c49 (some m) (iI c) (iI s) (iI (k + 1)) h = some (.inl (some m, iI c, iI s, iI ((k + 1 : Nat) + 1), h)) := by
    intro k hk hn
    have := hr ((s + (k + 1)) % 4)
    simp (disch := omega) only [f_X11_goesTo_c49, iI_lit, iI_le, iI_add, if_neg]
    rw [show iI (s + (↑k + 1)) - iI (s + (↑k + 1)) / iI 4 * iI 4 = iI ((s + (k + 1)) % 4) from iI_rem (by omega) (by omega) (by omega) (by omega)]
    simp (disch := omega) only [R_beside hc.1 hc.2, Option.bind_some, z_b2_some, z_i1_some, Mck hM.1, R_isFree hM hW, ite_tb]
    rw [if_neg hn]
    rfl
  have dn : ∀ k : Nat, k < 3 → free A (bes c ((s + (k + 1)) % 4)) → f_X11_goesTo_c49 (some m) (iI c) (iI s) (iI (k + 1)) h = some (.inr (iI (bes c ((s + (k + 1)) % 4)), h)) := by
    intro k hk hn
    have := hr ((s + (k + 1)) % 4)
    simp (disch := omega) only [f_X11_goesTo_c49, iI_lit, iI_le, iI_add, if_neg]
    rw [show iI (s + (↑k + 1)) - iI (s + (↑k + 1)) / iI 4 * iI 4 = iI ((s + (k + 1)) % 4) from iI_rem (by omega) (by omega) (by omega) (by omega)]
    simp (disch := omega) only [R_beside hc.1 hc.2, Option.bind_some, z_b2_some, z_i1_some, Mck hM.1, R_isFree hM hW, ite_tb]
    rw [if_pos hn]
  have stf : ∀ n : Nat, n ≤ 3 → (∀ k : Nat, k < n → ¬ free A (bes c ((s + (k + 1)) % 4))) → ∀ r, f_X11_goesTo_c49 (some m) (iI c) (iI s) (iI (n + 1)) h = some (.inr (iI r, h)) → f_X11_goesTo_b49 (some m) (iI c) (iI s) (iI 1) h = some (iI r, h) := by
    intro n hn h1 r h2
    refine z_for0 (fun i : Nat => ((some m, iI c, iI s, iI (i + 1), h) : Option Nat × Int32 × Int32 × Int32 × zH)) n (fun i hi => ?_) ?_
    · exact nx i (by omega) (h1 i hi)
    · exact h2
  unfold turn
  by_cases q1 : free A (bes c ((s + 1) % 4))
  · rw [if_pos q1]; exact stf 0 (by omega) (fun k hk => absurd hk (by omega)) _ (dn 0 (by omega) q1)
  · rw [if_neg q1]
    by_cases q2 : free A (bes c ((s + 2) % 4))
    · rw [if_pos q2]
      exact stf 1 (by omega) (fun k hk => by rw [show k = 0 by omega]; exact q1) _ (dn 1 (by omega) q2)
    · rw [if_neg q2]
      by_cases q3 : free A (bes c ((s + 3) % 4))
      · rw [pick_t q3]
        exact stf 2 (by omega) (fun k hk => by rcases (show k = 0 ∨ k = 1 by omega) with rfl | rfl; exact q1; exact q2) _ (dn 2 (by omega) q3)
      · rw [pick_f q3]
        refine stf 3 (by omega) (fun k hk => by rcases (show k = 0 ∨ k = 1 ∨ k = 2 by omega) with rfl | rfl | rfl; exact q1; exact q2; exact q3) _ ?_
        simp (disch := omega) only [f_X11_goesTo_c49, iI_lit, iI_add, iI_sub, iI_mul, iI_neg, iI_le, Option.bind_some, z_b2_some, z_i1_some, if_pos]
theorem turn_rg {c s : Int} (hc : 0 ≤ c ∧ c < 64) : -4 ≤ turn A c s ∧ turn A c s < 64 := by
  have hr : ∀ s, -4 ≤ bes c s ∧ bes c s < 64 := fun s => by rcases bes_rg (s := s) hc.1 hc.2 with q | q <;> omega
  unfold turn
  split
  · exact hr _
  · split
    · exact hr _
    · exact pick_rg (hr _)
theorem flp_rg {one two c : Int} (h1 : 0 ≤ one ∧ one < 64) (h2 : 0 ≤ two ∧ two < 64) : -4 ≤ flp A one two c ∧ flp A one two c < 64 := by
  unfold flp
  split
  · apply pick_rg; split <;> omega
  · omega
theorem goesTo_rg (hW : WF A) {a p : Int} (hv : vP A a p) : -4 ≤ goesTo A a p ∧ goesTo A a p < 64 := by
  have h1 := hW.vp hv
  have h2 := hW.pc hv.1
  unfold goesTo
  split
  · omega
  · rename_i hq
    have c1 := hW.ce (a := a) (p := p - 1) ⟨hv.1, by omega, by have := hv.2; omega⟩
    split
    · exact turn_rg c1
    · rename_i ht
      have c2 := hW.ce (a := a) (p := p + 1) ⟨hv.1, by omega, by have := hv.2; unfold isTip at ht; omega⟩
      exact flp_rg c1 c2
theorem R_goesTo (hM : MR h m A Y) (hW : WF A) {a p : Int} (hv : vP A a p) : f_X11_goesTo (some m) (iI a) (iI p) h = some (iI (goesTo A a p), h) := by
  have hn := hW.n
  have h1 := hW.vp hv
  have h2 := hW.pc hv.1
  have h3 := hW.cu hv.1
  have hv2 := hv.2
  simp (disch := omega) only [f_X11_goesTo, Mck hM.1, Option.bind_some, z_b2_some, z_i1_some, iI_lit, iI_add, iI_sub, iI_mul, iI_neg, R_cutOf hM, iI_eq]
  unfold goesTo
  by_cases q0 : p = 0
  · rw [if_pos q0, if_pos (Or.inl q0)]
  · rw [if_neg q0]
    by_cases q1 : p = A (71 + 40 * a)
    · rw [if_pos q1, if_pos (Or.inr q1)]
    · rw [if_neg q1, if_neg (fun e => e.elim q0 q1)]
      have c1 := hW.ce (a := a) (p := p - 1) ⟨hv.1, by omega, by omega⟩
      have c0 := hW.ce hv
      simp (disch := omega) only [R_cell hM, Mck hM.1, Option.bind_some, z_b2_some, z_i1_some, R_isTip hM hW hv, ite_tb]
      by_cases ht : isTip A a p
      · rw [if_pos ht, if_pos ht]
        simp (disch := omega) only [R_sideTo, Option.bind_some, z_b2_some, z_i1_some]
        exact R_turn hM hW c1 (sideTo_rg _ _)
      · rw [if_neg ht, if_neg ht]
        have c2 := hW.ce (a := a) (p := p + 1) ⟨hv.1, by omega, by unfold isTip at ht; omega⟩
        rw [R_flipped hM hW h1.1 (by unfold isTip at ht; omega) c1 c2 c0]
        rfl
end R3
