section KF
variable {tS X m : Nat} {D : Nat → Prop} {Q : Int → List zKl} {U : Int → Option Nat} {A : Int → Int}
noncomputable def cnT (A : Int → Int) (w : Int) : Nat := ((List.range (A 65).toNat).filter (fun t : Nat => decide (A (490 + 4 * (t : Int)) = w))).length
theorem C_countT {b : Nat} {h : zH} {F : Nat → Nat → Int32} {S : zS} (hS : SAt h b S) (hR : SRel A U F S) (hW : WF A) {w : Int} (hw : 0 ≤ w ∧ w ≤ 2) : f_X6_countThings (some b) (iI w) h = some (iI (cnT A w : Nat), h) := by
  have hn := hW.n
  rw [f_X6_countThings]
  simp only [iI_lit, iI_add, iI_sub, iI_mul, iI_neg]
  refine z_for0 (fun i : Nat => ((some b, iI w, iI (((List.range i).filter (fun t : Nat => decide (A (490 + 4 * (t : Int)) = w))).length : Nat), iI i, h) : Option Nat × Int32 × Int32 × Int32 × zH)) (A 65).toNat (fun i hi => ?_) ?_
  · have ht := (hW.t (t := i) (by omega)).1
    have v1 := hR.v1 (i : Int) (by omega) (by omega)
    rw [List.range_succ, List.filter_append, List.length_append]
    simp (disch := omega) only [f_X6_countThings_c4, f_X6_countThings_b28, Sz6 hS, hR.n6, Sg5 hS, Sthg hS, Tv1 hS, v1, Option.bind_some, z_b2_some, z_i1_some, iI_lit, iI_add, iI_sub, iI_mul, iI_neg, iI_lt, iI_le, iI_eq, if_neg]
    refine ite_c (fun q => ?_) (fun q => ?_)
    · simp only [List.filter_cons, List.filter_nil, q, decide_true, if_true, List.length_cons, List.length_nil]
      rfl
    · simp only [List.filter_cons, List.filter_nil, q, decide_false, List.length_nil, if_neg, Bool.false_eq_true, if_false]
      rfl
  · show f_X6_countThings_c4 (some b) (iI w) _ _ h = _
    simp (disch := omega) only [f_X6_countThings_c4, Sz6 hS, hR.n6, Option.bind_some, z_b2_some, z_i1_some, iI_lit, iI_add, iI_sub, iI_mul, iI_neg, iI_lt, iI_le, iI_eq, if_pos]
    rfl
theorem R_countT {h : zH} {Y : Nat → Nat → Int32} (hM : MR h m A Y) (hW : WF A) {w : Int} (hw : 0 ≤ w ∧ w ≤ 2) : f_X11_things (some m) (iI w) h = some (iI (cnT A w : Nat), h) := by
  obtain ⟨n, e, rfl⟩ := R_things hM hW hw
  exact e
noncomputable def TK (A : Int → Int) (Q : Int → List zKl) : Nat → (Int → Int)
  | 0 => A
  | k + 1 => tickA (TK A Q k) Q
theorem TK_ok (hW : WF A) (hTX : ∀ a, 0 ≤ a → a < A 64 → TX A a (Q a)) : ∀ k, WF (TK A Q k) ∧ kT A (TK A Q k)
  | 0 => ⟨hW, kT_rf _⟩
  | k + 1 => by
    have ih := TK_ok hW hTX k
    have e64 : TK A Q k 64 = A 64 := ih.2 64 (by omega)
    have t := tickA_ok (Q := Q) ih.1 (fun a h1 h2 c hc => (hTX a h1 (by omega)).1.2.1 c hc)
    exact ⟨t.1, kT_tr ih.2 t.2⟩
theorem K_ticks (hW : WF A) (hts : tS < X) (hD : ∀ q, D q → X + 221 ≤ q) (hTX : ∀ a, 0 ≤ a → a < A 64 → TX A a (Q a)) {n : Int} (hn : rgI n) : KS tS X m D Q U A (f_X10_ticks tS (some X) (iI n)) (f_X11_ticks (some m) (iI n)) := by
  have hn' : -2147483648 ≤ n ∧ n < 2147483648 := hn
  have h64 := hW.n
  by_cases c1 : 1 ≤ n ∧ n ≤ 60
  · have ok := TK_ok hW hTX
    have tx : ∀ k, ∀ a, 0 ≤ a → a < TK A Q k 64 → TX (TK A Q k) a (Q a) := fun k a g1 g2 => by
      rw [(ok k).2 64 (by omega)] at g2
      exact TX_kT (ok k).2 (by omega) (hTX a g1 g2)
    refine ⟨iI (cnT (TK A Q n.toNat) 2 : Nat), TK A Q n.toNat, fun h x F hX hT hQ hS => ?_, fun h Y hM => ?_, (ok _).1, kX_kT (ok _).2⟩
    · have key := z_forI (body := fun s : (Option Nat) × Int32 × Int32 × zH => f_X10_ticks_c15 tS s.1 s.2.1 s.2.2.1 s.2.2.2) (Q := fun r => r.1 = iI (cnT (TK A Q n.toNat) 2 : Nat) ∧ ∃ F', SR r.2 (X + 1) (TK A Q n.toNat) U F' ∧ fr (X + 1) 30 h r.2)
        (fun i s => ∃ h' F', s = (some X, iI n, iI (i : Int), h') ∧ SR h' (X + 1) (TK A Q i) U F' ∧ fr (X + 1) 30 h h') n.toNat ?_ ?_ n.toNat 0 (some X, iI n, iI 0, h) (by omega) ⟨h, F, rfl, hS, fr_rf _ _ _⟩
      · obtain ⟨r, k1, k2, F', k3, k4⟩ := key
        refine ⟨r.2, F', ?_, k3, k4⟩
        unfold f_X10_ticks f_X10_ticks_b15
        simp only [iI_lit, iI_add, iI_sub, iI_mul, iI_neg]
        rw [if_neg (nLt (by omega)), if_pos (cLe (by omega)), k1, ← k2]
      · rintro i s hi ⟨h1, F1, rfl, k1, k2⟩
        have hX1 : h1 X = oX X x := by rw [k2 X (by omega)]; exact hX
        have ht := ok i
        obtain ⟨h2, F2, q1, q2, q3⟩ := C_tick (Q := Q) (D := D) (hST_fr hT (by omega) k2) (by omega) (fun q hq => by have := hD q hq; omega) k1 ht.1 (fun a g1 g2 => ⟨RU_fr (fun q hq => by have := hD q hq; omega) k2 (hQ a g1 (by rw [ht.2 64 (by omega)] at g2; exact g2)), (tx i a g1 g2).1.1, (tx i a g1 g2).1.2.1⟩)
        obtain ⟨S, s1, s2⟩ := id k1
        refine Or.inl ⟨_, ?_, h2, F2, rfl, q2, fr_tr k2 q3⟩
        show f_X10_ticks_c15 tS (some X) (iI n) (iI (i : Int)) h1 = _
        unfold f_X10_ticks_c15
        simp only [iI_lit, iI_add, iI_sub, iI_mul, iI_neg]
        rw [if_neg (nLe (by omega)), Xg0 hX1, Option.bind_some, Sck s1, Option.bind_some, q1]
        rfl
      · rintro s ⟨h1, F1, rfl, k1, k2⟩
        have hX1 : h1 X = oX X x := by rw [k2 X (by omega)]; exact hX
        obtain ⟨S, s1, s2⟩ := id k1
        refine ⟨(iI (cnT (TK A Q n.toNat) 2 : Nat), h1), ?_, rfl, F1, k1, k2⟩
        show f_X10_ticks_c15 tS (some X) (iI n) (iI (n.toNat : Int)) h1 = _
        unfold f_X10_ticks_c15
        simp only [iI_lit, iI_add, iI_sub, iI_mul, iI_neg]
        rw [if_pos (cLe (by omega)), Xg0 hX1, Option.bind_some, Sck s1, Option.bind_some, C_countT s1 s2 (ok _).1 (by omega)]
        rfl
    · have key := z_forI (body := fun s : (Option Nat) × Int32 × Int32 × zH => f_X11_ticks_c14 s.1 s.2.1 s.2.2.1 s.2.2.2) (Q := fun r => r.1 = iI (cnT (TK A Q n.toNat) 2 : Nat) ∧ ∃ Y', MR r.2 m (TK A Q n.toNat) Y' ∧ kG Y Y' ∧ fr m 19 h r.2)
        (fun i s => ∃ h' Y', s = (some m, iI n, iI (i : Int), h') ∧ MR h' m (TK A Q i) Y' ∧ kG Y Y' ∧ fr m 19 h h') n.toNat ?_ ?_ n.toNat 0 (some m, iI n, iI 0, h) (by omega) ⟨h, Y, rfl, hM, kG_rf _, fr_rf _ _ _⟩
      · obtain ⟨r, k1, k2, Y', k3, k4, k5⟩ := key
        refine ⟨r.2, Y', ?_, k3, k4, k5⟩
        unfold f_X11_ticks f_X11_ticks_b14
        simp only [iI_lit, iI_add, iI_sub, iI_mul, iI_neg]
        rw [R_in2 (by omega), z_b2_some, ite_tb, if_pos c1, k1, ← k2]
      · rintro i s hi ⟨h1, Y1, rfl, k1, k2, k3⟩
        have ht := ok i
        obtain ⟨h2, Y2, q1, q2, q3, q4⟩ := R_tick k1 ht.1 (tx i)
        refine Or.inl ⟨_, ?_, h2, Y2, rfl, q2, kG_tr k2 (kG_ky q3), fr_tr k3 q4⟩
        show f_X11_ticks_c14 (some m) (iI n) (iI (i : Int)) h1 = _
        unfold f_X11_ticks_c14
        simp only [iI_lit, iI_add, iI_sub, iI_mul, iI_neg]
        rw [if_neg (nLe (by omega)), Mck k1.1, Option.bind_some, q1]
        rfl
      · rintro s ⟨h1, Y1, rfl, k1, k2, k3⟩
        refine ⟨(iI (cnT (TK A Q n.toNat) 2 : Nat), h1), ?_, rfl, Y1, k1, k2, k3⟩
        show f_X11_ticks_c14 (some m) (iI n) (iI (n.toNat : Int)) h1 = _
        unfold f_X11_ticks_c14
        simp only [iI_lit, iI_add, iI_sub, iI_mul, iI_neg]
        rw [if_pos (cLe (by omega)), Mck k1.1, Option.bind_some, R_countT k1 (ok _).1 (by omega)]
        rfl
  · refine KS_no (iI (-1)) hW (fun h n F S hX hQ s1 s2 => ?_) (fun h Y hM => ?_)
    · unfold f_X10_ticks
      simp (disch := omega) only [iI_lit, iI_add, iI_sub, iI_mul, iI_neg, iteLt, iteLe]
      refine ite_c (fun q => rfl) (fun q => ?_)
      rw [if_neg (by omega)]
    · unfold f_X11_ticks
      simp only [iI_lit, iI_add, iI_sub, iI_mul, iI_neg]
      rw [R_in2 (by omega), z_b2_some, ite_tb, if_neg c1]
theorem WF_wall (hW : WF A) {c v : Int} (hc : 0 ≤ c ∧ c < 64) (hv : v = 0 ∨ (v = 1 ∧ ¬ hasP A c ∧ ¬ ∃ t, ly A t c)) : WF (uI A c v) := by
  have hn := hW.n
  refine WF_wc hW (fun j hj => uI_n _ _ (by have := hj.2.2.1; omega)) (by rw [uI_n _ _ (by omega)]; exact hn.2.2) (fun c' g1 g2 => ?_) (fun a p hp => ?_) (fun t g1 g2 g3 => ?_) (fun a g1 g2 => Or.inl (uI_n _ _ (by omega)))
  · by_cases e : c' = c
    · rw [uI_is _ _ e]; rcases hv with q | q
      · exact Or.inl q
      · exact Or.inr q.1
    · rw [uI_n _ _ e]; exact hW.w g1 g2
  · by_cases e : A (75 + 40 * a + p) = c
    · rw [uI_is _ _ e]; rcases hv with q | q
      · exact q
      · exact absurd ⟨a, p, hp, e⟩ q.2.1
    · rw [uI_n _ _ e]; exact hW.pw hp
  · have w := hW.t ⟨g1, g2⟩
    by_cases e : A (491 + 4 * t) = c
    · rw [uI_is _ _ e]; rcases hv with q | q
      · exact q
      · exact absurd ⟨t, ⟨g1, g2⟩, g3, e⟩ q.2.2
    · rw [uI_n _ _ e]; exact (w.2.2.2.1 g3).1
theorem SRel_wall {F : Nat → Nat → Int32} {S : zS} (hR : SRel A U F S) (hW : WF A) {c v : Int} (hc : 0 ≤ c ∧ c < 64) : SRel (uI A c v) U F (sW S (bset (fun x => uI A c v x = 1))) := by
  have hn := hW.n
  refine SRel_wc hR hW (fun j hj => uI_n _ _ (by have := hj.2.2.1; omega)) (uI_n _ _ (by omega)) rfl rfl rfl rfl rfl ?_ rfl (fun _ => rfl) (fun _ => rfl) (fun a g1 g2 => ?_) rfl rfl rfl
  · rw [uI_n _ _ (by omega)]; exact hR.n7
  · rw [uI_n _ _ (by omega)]; exact hR.m1 a g1 g2
theorem K_wall (hW : WF A) {x y v : Int} (hx : rgI x) (hy : rgI y) (hv : v = 0 ∨ v = 1) : KS tS X m D Q U A (f_X10_wall (some X) (iI x) (iI y) (iI v)) (f_X11_wall (some m) (iI x) (iI y) (iI v)) := by
  have hn := hW.n
  by_cases c1 : (0 ≤ x ∧ x ≤ 7) ∧ 0 ≤ y ∧ y ≤ 7
  · obtain ⟨c, hc⟩ : ∃ c, c = 8 * y + x := ⟨_, rfl⟩
    have hc1 : 0 ≤ c ∧ c < 64 := by omega
    have hw := hW.w hc1.1 hc1.2
    have hWc : ∀ (w : Int), w = 0 ∨ w = 1 → (bset (fun c => A c = 1) &&& (((1 : Int64) <<< (Int32.toInt64 (iI c) &&& 63)) ^^^ (-1 : Int64)) = bset (fun z => uI A c 0 z = 1)) ∧ (bset (fun c => A c = 1) ||| ((1 : Int64) <<< (Int32.toInt64 (iI c) &&& 63)) = bset (fun z => uI A c 1 z = 1)) := by
      intro w hw
      rw [bset_one hc1.1 hc1.2, bset_not, bset_and, bset_or]
      refine ⟨bset_cg (fun z g1 g2 => ?_), bset_cg (fun z g1 g2 => ?_)⟩
      · by_cases e : z = c
        · rw [uI_is _ _ e]; constructor
          · intro q; exact absurd e q.2
          · intro q; omega
        · rw [uI_n _ _ e]; exact ⟨fun q => q.1, fun q => ⟨q, e⟩⟩
      · by_cases e : z = c
        · rw [uI_is _ _ e]; exact ⟨fun _ => rfl, fun _ => Or.inr e⟩
        · rw [uI_n _ _ e]; exact ⟨fun q => q.elim id (fun g => absurd g e), fun q => Or.inl q⟩
    have CB : ∀ h n F S, h X = oX X n → SAt h (X + 1) S → SRel A U F S → f_X10_wall_b41 (some X) (iI v) ((1 : Int64) <<< (Int32.toInt64 (iI c) &&& 63)) h = some (iI (A c), z_up h (X + 1) (c0 (X + 1) (sW S (bset (fun x => uI A c v x = 1))))) := by
      intro h n F S hX s1 s2
      unfold f_X10_wall_b41 f_X10_wall_b61 f_X10_wall_b98
      simp (disch := omega) only [Xg0 hX, Option.bind_some, z_b2_some, z_i1_some, SW s1, s2.w, iI_lit, iI_add, iI_sub, iI_mul, iI_neg, cmpite]
      have e1 := hWc v hv
      by_cases a1 : A c = 1
      · rw [if_pos a1]
        rcases hv with rfl | rfl
        · rw [if_pos rfl, e1.1, SpW s1, Option.bind_some, if_neg (by decide), a1]
        · rw [if_neg (by decide), e1.2, SpW s1, Option.bind_some, if_neg (by decide), a1]
      · rw [if_neg a1]
        have a0 : A c = 0 := by omega
        rcases hv with rfl | rfl
        · rw [if_pos rfl, e1.1, SpW s1, Option.bind_some, if_pos (by first | trivial | rfl), a0]
        · rw [if_neg (by decide), e1.2, SpW s1, Option.bind_some, if_pos (by first | trivial | rfl), a0]
    have RB : ∀ h Y, MR h m A Y → f_X11_wall_b43 (some m) (iI v) (iI c) h = some (iI (A c), ms h m c v) := by
      intro h Y hM
      unfold f_X11_wall_b43
      simp (disch := omega) only [Mg0 hM.1, Option.bind_some, z_b2_some, z_i1_some, M_all hM, iI_lit, iI_add, iI_sub, iI_mul, iI_neg, M_set hM]
      rcases hv with rfl | rfl
      · rw [if_pos rfl]
      · rw [if_neg (by decide)]
    by_cases c2 : v = 0 ∨ (¬ hasP A c ∧ ¬ ∃ t, ly A t c)
    · refine ⟨iI (A c), uI A c v, fun h n F hX hT hQ hS => ?_, stR_go fun h Y hM => ⟨_, ?_, go1_ms hM (e := c) (v := v) (by omega) (by omega)⟩, WF_wall hW hc1 (by rcases c2 with q | q; exact Or.inl q; rcases hv with g | g; exact Or.inl g; exact Or.inr ⟨g, q⟩), kX_uI _ _ (by omega)⟩
      · obtain ⟨S, s1, s2⟩ := hS
        refine ⟨_, F, ?_, ⟨_, SAt_o s1 (S' := sW S (bset (fun x => uI A c v x = 1))) rfl rfl rfl rfl rfl, SRel_wall s2 hW hc1⟩, fr_up (by omega) (by omega)⟩
        unfold f_X10_wall
        rw [C_isCell hx hy, z_b2_some]
        simp only [iI_lit, iI_add, iI_sub, iI_mul, iI_neg]
        rw [ite_tb, if_pos c1]
        unfold f_X10_cellOf
        simp only [iI_lit, iI_add, iI_sub, iI_mul, iI_neg, z_b2_some]
        rw [← hc]
        rcases hv with rfl | rfl
        · rw [if_pos rfl]; exact CB h n F S hX s1 s2
        · rw [if_neg (by decide), Xg0 hX, Option.bind_some, Sck s1, Option.bind_some, C_inUse s1 s2 hW, z_b2_some, cmpite hc1.1 hc1.2, if_neg (by rintro (g | g); exact (c2.resolve_left (by omega)).1 g; exact (c2.resolve_left (by omega)).2 g)]
          exact CB h n F S hX s1 s2
      · unfold f_X11_wall
        rw [R_isCell hx hy, z_b2_some]
        simp only [iI_lit, iI_add, iI_sub, iI_mul, iI_neg]
        rw [ite_tb, if_pos c1, ← hc]
        rcases hv with rfl | rfl
        · rw [if_pos rfl]; exact RB h Y hM
        · have c3 := c2.resolve_left (by omega)
          rw [if_neg (by decide), Mck hM.1, Option.bind_some, R_hasPiece hM hW (by omega), z_b2_some, ite_tb, if_neg c3.1, Mck hM.1, Option.bind_some, R_lyingAt hM hW (by omega), z_b2_some, ly_no c3.2, if_pos (cLt (by omega))]
          exact RB h Y hM
    · have v1 : v = 1 := by rcases hv with q | q; exact absurd (Or.inl q) c2; exact q
      subst v1
      refine KS_no (iI (-2)) hW (fun h n F S hX hQ s1 s2 => ?_) (fun h Y hM => ?_)
      · unfold f_X10_wall
        rw [C_isCell hx hy, z_b2_some]
        simp only [iI_lit, iI_add, iI_sub, iI_mul, iI_neg]
        rw [ite_tb, if_pos c1]
        unfold f_X10_cellOf
        simp only [iI_lit, iI_add, iI_sub, iI_mul, iI_neg, z_b2_some]
        rw [← hc, if_neg (by decide), Xg0 hX, Option.bind_some, Sck s1, Option.bind_some, C_inUse s1 s2 hW, z_b2_some, cmpite hc1.1 hc1.2, if_pos ?_]
        apply Classical.byContradiction
        intro q
        exact c2 (Or.inr ⟨fun g => q (Or.inl g), fun g => q (Or.inr g)⟩)
      · unfold f_X11_wall
        rw [R_isCell hx hy, z_b2_some]
        simp only [iI_lit, iI_add, iI_sub, iI_mul, iI_neg]
        rw [ite_tb, if_pos c1, ← hc, if_neg (by decide), Mck hM.1, Option.bind_some, R_hasPiece hM hW (by omega), z_b2_some, ite_tb]
        refine ite_c (fun q => rfl) (fun q => ?_)
        rw [Mck hM.1, Option.bind_some, R_lyingAt hM hW (by omega), z_b2_some]
        rcases ly_cs hW c with ⟨g1, g2⟩ | ⟨t, g1, g2, g3⟩
        · exact absurd (Or.inr ⟨q, g2⟩) c2
        · rw [g1, if_neg (nLt (by omega))]
  · refine KS_no (iI (-1)) hW (fun h n F S hX hQ s1 s2 => ?_) (fun h Y hM => ?_)
    · unfold f_X10_wall
      rw [C_isCell hx hy, z_b2_some]
      simp only [iI_lit, iI_add, iI_sub, iI_mul, iI_neg]
      rw [ite_tb, if_neg c1]
    · unfold f_X11_wall
      rw [R_isCell hx hy, z_b2_some]
      simp only [iI_lit, iI_add, iI_sub, iI_mul, iI_neg]
      rw [ite_tb, if_neg c1]
end KF
