section HT3
variable {m : Nat} {A : Int → Int} {a p : Int}
/-- what the reading of one claim does -/
def PX (m : Nat) (A : Int → Int) (a p : Int) (d k : Nat) : Prop := ∀ (x : (Int × Int) ⊕ zE d) (h : zH) (Y : Nat → Nat → Int32) (i : Int) (nt : Bool) (c0 : Prop), vX d x → MR h m A Y → (0 ≤ i ∧ i + (prX d x).length ≤ 100) → Y 0 14 = iI i → tx A (190 + 100 * a + i) (prX d x) → Y 11 k = tb c0 →
  ∃ h' Y', HL m a p k nt h = HL m a p k false h' ∧ MR h' m A Y' ∧ Y' 0 14 = iI (i + (prX d x).length) ∧ Y' 10 k = Y 10 k ∧ Y' 11 k = tb (c0 ∧ xr (evX (sn A a p) d x) nt) ∧ sm k Y Y' ∧ fr m 19 h h'
theorem HT_N {h : zH} {Y : Nat → Nat → Int32} (hM : MR h m A Y) (ha : 0 ≤ a ∧ a ≤ 2) {i : Int} (n : Bool) (hi : 0 ≤ i ∧ i + (prN n).length ≤ 100) (hY : Y 0 14 = iI i) (k : Nat) (ht : tx A (190 + 100 * a + i) (prN n)) :
    ∃ h' Y', HL m a p k false h = HL m a p k n h' ∧ MR h' m A Y' ∧ Y' 0 14 = iI (i + (prN n).length) ∧ Y' 10 k = Y 10 k ∧ Y' 11 k = Y 11 k ∧ sm k Y Y' ∧ fr m 19 h h' := by
  cases n with
  | false => exact ⟨h, Y, rfl, hM, by rw [hY]; simp [prN], rfl, rfl, sm_rf _ _, fr_rf _ _ _⟩
  | true =>
    refine ⟨_, _, HT_not hM ha (by omega) hY k false ht.1, MR_at hM (i + 1), by rw [uat_s]; simp [prN], by rw [uat_n _ _ (by omega)], by rw [uat_n _ _ (by omega)], sm_at _ _ _, hat_fr _ _ _ _⟩
theorem HT_S {h : zH} {Y : Nat → Nat → Int32} (hM : MR h m A Y) (ha : 0 ≤ a ∧ a ≤ 2) {i : Int} (o : Bool) (hi : 0 ≤ i ∧ i + (prS o).length ≤ 100) (hY : Y 0 14 = iI i) {k : Nat} (hk : k < 6) (ht : tx A (190 + 100 * a + i) (prS o)) {a0 c0 : Prop} (h10 : Y 10 k = tb a0) (h11 : Y 11 k = tb c0) :
    ∃ h' Y', HL m a p k false h = HL m a p k false h' ∧ MR h' m A Y' ∧ Y' 0 14 = iI (i + (prS o).length) ∧ Y' 10 k = tb (if o = true then a0 ∨ c0 else a0) ∧ Y' 11 k = tb (if o = true then True else c0) ∧ sm k Y Y' ∧ fr m 19 h h' := by
  cases o with
  | false =>
    refine ⟨_, _, HT_and hM ha (by omega) hY k false ht.1, MR_at hM (i + 1), by rw [uat_s]; simp [prS], by rw [uat_n _ _ (by omega)]; simpa using h10, by rw [uat_n _ _ (by omega)]; simpa using h11, sm_at _ _ _, hat_fr _ _ _ _⟩
  | true =>
    have M1 := MR_at hM (i + 1)
    have M2 := MR_bt M1 (k := 10) (Or.inl rfl) k (a0 ∨ c0)
    have M3 := MR_bt M2 (k := 11) (Or.inr (Or.inl rfl)) k True
    refine ⟨_, _, HT_or hM ha (by omega) hY hk false ht.1 h10 h11, M3, ?_, ?_, ?_, ?_, ?_⟩
    · rw [ubt_n _ _ (by omega), ubt_n _ _ (by omega), uat_s]; simp [prS]
    · rw [ubt_n _ _ (by omega), ubt_s, if_pos rfl]
    · rw [ubt_s, if_pos rfl]
    · exact sm_tr (sm_tr (sm_at _ _ _) (sm_10 _ _ _ (by omega))) (sm_11 _ _ _ (by omega))
    · exact fr_tr (fr_tr (hat_fr _ _ _ _) (hbt_fr _ _ _ (Or.inl rfl) _ _)) (hbt_fr _ _ _ (Or.inr (Or.inl rfl)) _ _)
theorem evL_cg {β : Type} (hd : β → Prop) (l : List (Bool × Bool × β)) {P Q : Prop} (hpq : P ↔ Q) : evL hd l P = evL hd l Q := by rw [propext hpq]
theorem HT_R {d k : Nat} (hX : PX m A a p d k) (ha : 0 ≤ a ∧ a ≤ 2) (hk : k < 6) : ∀ (l : List (Bool × Bool × ((Int × Int) ⊕ zE d))) (h : zH) (Y : Nat → Nat → Int32) (i : Int) (a0 c0 : Prop), (∀ j, j ∈ l → vX d j.2.2) → MR h m A Y → (0 ≤ i ∧ i + (prR (prX d) l).length ≤ 100) → Y 0 14 = iI i → tx A (190 + 100 * a + i) (prR (prX d) l) → Y 10 k = tb a0 → Y 11 k = tb c0 →
    ∃ h' Y' a1 c1, HL m a p k false h = HL m a p k false h' ∧ MR h' m A Y' ∧ Y' 0 14 = iI (i + (prR (prX d) l).length) ∧ Y' 10 k = tb a1 ∧ Y' 11 k = tb c1 ∧ ((a1 ∨ c1) ↔ (a0 ∨ evL (evX (sn A a p) d) l c0)) ∧ sm k Y Y' ∧ fr m 19 h h'
  | [], h, Y, i, a0, c0, hv, hM, hi, hY, ht, h10, h11 => ⟨h, Y, a0, c0, rfl, hM, by rw [hY]; simp [prR], h10, h11, Iff.rfl, sm_rf _ _, fr_rf _ _ _⟩
  | (o, n, x) :: l, h, Y, i, a0, c0, hv, hM, hi, hY, ht, h10, h11 => by
    simp only [prR, List.length_append] at hi ht ⊢
    rw [tx_app, tx_app, tx_app] at ht
    obtain ⟨t1, t2, t3, t4⟩ := ht
    obtain ⟨h1, Y1, k1, k2, k3, k4, k5, k6, k7⟩ := HT_S (p := p) hM ha o (by omega) hY hk t1 h10 h11
    rw [show 190 + 100 * a + i + ((prS o).length : Int) = 190 + 100 * a + (i + (prS o).length) by omega] at t2 t3 t4
    obtain ⟨h2, Y2, q1, q2, q3, q4, q5, q6, q7⟩ := HT_N (p := p) k2 ha n (by omega) k3 k t2
    rw [show 190 + 100 * a + (i + ((prS o).length : Int)) + ((prN n).length : Int) = 190 + 100 * a + (i + (prS o).length + (prN n).length) by omega] at t3 t4
    obtain ⟨h3, Y3, r1, r2, r3, r4, r5, r6, r7⟩ := hX x h2 Y2 _ n _ (hv _ (List.mem_cons_self ..)) q2 (by omega) q3 t3 (q5.trans k5)
    rw [show 190 + 100 * a + (i + ((prS o).length : Int) + ((prN n).length : Int)) + ((prX d x).length : Int) = 190 + 100 * a + (i + (prS o).length + (prN n).length + (prX d x).length) by omega] at t4
    obtain ⟨h4, Y4, a1, c1, s1, s2, s3, s4, s5, s6, s7, s8⟩ := HT_R hX ha hk l h3 Y3 _ _ _ (fun j hj => hv j (List.mem_cons_of_mem _ hj)) r2 (by omega) r3 t4 ((r4.trans q4).trans k4) r5
    refine ⟨h4, Y4, a1, c1, ((k1.trans q1).trans r1).trans s1, s2, ?_, s4, s5, ?_, sm_tr (sm_tr (sm_tr k6 q6) r6) s7, fr_tr (fr_tr (fr_tr k7 q7) r7) s8⟩
    · rw [s3]; congr 1; omega
    · rw [s6]
      cases o with
      | true =>
        simp only [evL, if_true]
        rw [evL_cg (evX (sn A a p) d) l (show (True ∧ xr (evX (sn A a p) d x) n) ↔ xr (evX (sn A a p) d x) n from ⟨fun e => e.2, fun e => ⟨trivial, e⟩⟩)]
        exact or_assoc
      | false =>
        simp only [evL, Bool.false_eq_true, if_false]
theorem HT_T {d k : Nat} (hX : PX m A a p d k) (ha : 0 ≤ a ∧ a ≤ 2) (hk : k < 6) (l : List (Bool × Bool × ((Int × Int) ⊕ zE d))) (h : zH) (Y : Nat → Nat → Int32) (i : Int) (hv : vT (vX d) l) (hM : MR h m A Y) (hi : 0 ≤ i ∧ i + (prT (prX d) l).length ≤ 100) (hY : Y 0 14 = iI i) (ht : tx A (190 + 100 * a + i) (prT (prX d) l)) (h10 : Y 10 k = tb False) (h11 : Y 11 k = tb True) :
    ∃ h' Y' a1 c1, HL m a p k false h = HL m a p k false h' ∧ MR h' m A Y' ∧ Y' 0 14 = iI (i + (prT (prX d) l).length) ∧ Y' 10 k = tb a1 ∧ Y' 11 k = tb c1 ∧ ((a1 ∨ c1) ↔ evL (evX (sn A a p) d) l True) ∧ sm k Y Y' ∧ fr m 19 h h' := by
  match l, hv with
  | (o, n, x) :: l, hv =>
    simp only [prT, List.length_append] at hi ht ⊢
    rw [tx_app, tx_app] at ht
    obtain ⟨t2, t3, t4⟩ := ht
    obtain ⟨h2, Y2, q1, q2, q3, q4, q5, q6, q7⟩ := HT_N (p := p) hM ha n (by omega) hY k t2
    rw [show 190 + 100 * a + i + ((prN n).length : Int) = 190 + 100 * a + (i + (prN n).length) by omega] at t3 t4
    obtain ⟨h3, Y3, r1, r2, r3, r4, r5, r6, r7⟩ := hX x h2 Y2 _ n _ hv.2.1 q2 (by omega) q3 t3 (q5.trans h11)
    rw [show 190 + 100 * a + (i + ((prN n).length : Int)) + ((prX d x).length : Int) = 190 + 100 * a + (i + (prN n).length + (prX d x).length) by omega] at t4
    obtain ⟨h4, Y4, a1, c1, s1, s2, s3, s4, s5, s6, s7, s8⟩ := HT_R hX ha hk l h3 Y3 _ _ _ hv.2.2 r2 (by omega) r3 t4 ((r4.trans q4).trans h10) r5
    refine ⟨h4, Y4, a1, c1, (q1.trans r1).trans s1, s2, ?_, s4, s5, ?_, sm_tr (sm_tr q6 r6) s7, fr_tr (fr_tr q7 r7) s8⟩
    · rw [s3]; congr 1; omega
    · rw [s6]
      have ho : o = false := hv.1
      subst ho
      simp only [evL, Bool.false_eq_true, if_false, false_or]
theorem HT_X (hW : WF A) (hv : vP A a p) (hp : 1 ≤ p) : ∀ (d k : Nat), k + d ≤ 4 → PX m A a p d k
  | 0, k, hk => by
    intro x h Y i nt c0 hx hM hi hY ht h11
    match x, hx with
    | .inl y, hx => exact HT_atom hM hW hv hp hx hi hY (by omega) nt ht h11
  | d + 1, k, hk => by
    intro x h Y i nt c0 hx hM hi hY ht h11
    have ha : 0 ≤ a ∧ a ≤ 2 := (hW.vp hv).1
    match x, hx with
    | .inl y, hx => exact HT_atom hM hW hv hp hx hi hY (by omega) nt ht h11
    | .inr e, hx =>
      have ih := HT_X hW hv hp d (k + 1) (by omega)
      have hx' : vT (vX d) e := hx
      have hl : (prX (d + 1) (.inr e)) = [40] ++ (prT (prX d) e ++ [41]) := rfl
      rw [hl] at hi ht ⊢
      simp only [List.length_append, List.length_cons, List.length_nil] at hi ⊢
      rw [tx_app, tx_app] at ht
      simp only [List.length_cons, List.length_nil] at ht
      obtain ⟨⟨t1, -⟩, t2, t3, -⟩ := ht
      obtain ⟨h1, Y1, k1, k2, k3, k4, k5, k6, k7, k8, k9, k10⟩ := HT_open (p := p) hM ha (i := i) (by omega) hY (k := k) (by omega) nt t1
      rw [show 190 + 100 * a + i + ((0 + 1 : Nat) : Int) = 190 + 100 * a + (i + 1) by omega] at t2 t3
      obtain ⟨h2, Y2, a1, c1, q1, q2, q3, q4, q5, q6, q7, q8⟩ := HT_T ih ha (by omega) e h1 Y1 _ hx' k2 (by omega) k3 t2 k4 k5
      rw [show 190 + 100 * a + (i + 1) + ((prT (prX d) e).length : Int) = 190 + 100 * a + (i + 1 + (prT (prX d) e).length) by omega] at t3
      obtain ⟨h3, Y3, r1, r2, r3, r4, r5, r6, r7⟩ := HT_shut (p := p) q2 ha (by omega) q3 (k := k) (by omega) t3 q4 q5 ((q7.2.2.2 (k + 1) (by omega)).trans k6) (((q7.2.2.1 k (by omega)).2.trans k8).trans h11)
      refine ⟨h3, Y3, (k1.trans q1).trans r1, r2, ?_, ?_, ?_, sm_tr (sm_tr k9 (sm_up q7)) r6, fr_tr (fr_tr k10 q8) r7⟩
      · rw [r3]; congr 1; omega
      · exact (r4.trans (q7.2.2.1 k (by omega)).1).trans k7
      · rw [r5, propext q6]; rfl
theorem R_holdsTest {h : zH} {Y : Nat → Nat → Int32} (hM : MR h m A Y) (hW : WF A) (hv : vP A a p) (hp : 1 ≤ p) {i : Int} {l : List (Bool × Bool × ((Int × Int) ⊕ zE 4))} (hl : vT (vX 4) l) (hi : 0 ≤ i ∧ i + (prT (prX 4) l).length ≤ 100) (hY : Y 0 14 = iI i) (ht : tx A (190 + 100 * a + i) (prT (prX 4) l ++ [58])) :
    ∃ h' Y', f_X11_holdsTest (some m) (iI a) (iI p) h = some (tb (evL (evX (sn A a p) 4) l True), h') ∧ MR h' m A Y' ∧ Y' 0 14 = iI (i + (prT (prX 4) l).length + 1) ∧ sm 0 Y Y' ∧ fr m 19 h h' := by
  have ha : 0 ≤ a ∧ a ≤ 2 := (hW.vp hv).1
  rw [tx_app] at ht
  obtain ⟨t1, t2, -⟩ := ht
  have M2 := MR_bt hM (k := 10) (Or.inl rfl) 0 False
  have M3 := MR_bt M2 (k := 11) (Or.inr (Or.inl rfl)) 0 True
  have w1 := Mb0 hM.1 (k := 10) (e := 0) (Or.inl rfl) (by omega) (by omega)
  have w2 := Mb1 M2.1 (k := 11) (e := 0) (Or.inr (Or.inl rfl)) (by omega) (by omega)
  have e0 : (0 : Int).toNat = 0 := rfl
  rw [e0] at w1 w2
  have X := HT_X (m := m) hW hv hp 4 0 (by omega)
  obtain ⟨h2, Y2, a1, c1, q1, q2, q3, q4, q5, q6, q7, q8⟩ := HT_T X ha (by omega) l _ _ i hl M3 hi (by rw [ubt_n _ _ (by omega), ubt_n _ _ (by omega)]; exact hY) t1 (by rw [ubt_n _ _ (by omega), ubt_s]) (by rw [ubt_s])
  have go : f_X11_holdsTest (some m) (iI a) (iI p) h = HL m a p 0 false (hbt (hbt h m Y 10 0 False) m (ubt Y 10 0 False) 11 0 True) := by
    unfold f_X11_holdsTest HL
    simp only [Mg11 hM.1, Mg12 M2.1, Option.bind_some, z_b2_some, z_i1_some, iI_lit, iI_add, iI_sub, iI_mul, iI_neg, w1, w2]
    rw [← ntF]; rfl
  rw [show 190 + 100 * a + i + ((prT (prX 4) l).length : Int) = 190 + 100 * a + (i + (prT (prX 4) l).length) by omega] at t2
  have M4 := MR_at q2 (i + (prT (prX 4) l).length + 1)
  refine ⟨hat h2 m Y2 (i + (prT (prX 4) l).length + 1), _, ?_, M4, uat_s _ _, sm_tr (sm_tr (sm_tr (sm_10 _ _ _ (by omega)) (sm_11 _ _ _ (by omega))) q7) (sm_at _ _ _), fr_tr (fr_tr (fr_tr (hbt_fr _ _ _ (Or.inl rfl) _ _) (hbt_fr _ _ _ (Or.inr (Or.inl rfl)) _ _)) q8) (hat_fr _ _ _ _)⟩
  rw [go, q1]
  unfold HL f_X11_holdsTest_b29
  refine z_it_done ?_
  show f_X11_holdsTest_c29 (some m) (iI a) (iI p) (iI (190 + 100 * a)) (iI ((0 : Nat) : Int)) (tb (false = true)) h2 = _
  have hM := q2
  have hY := q3
  have hc := t2
  have g10 : uat Y2 (i + (prT (prX 4) l).length + 1) 10 0 = tb a1 := by rw [uat_n _ _ (by omega)]; exact q4
  have g11 : uat Y2 (i + (prT (prX 4) l).length + 1) 11 0 = tb c1 := by rw [uat_n _ _ (by omega)]; exact q5
  unfold f_X11_holdsTest_c29
  rw [Mg0 hM.1, Option.bind_some, Mi14 hM.1, Option.bind_some, hY, iI_add, M_all hM (by omega) (by omega), Option.bind_some, hc, if_pos (show iI 58 = (58 : Int32) by decide), Option.bind_some, M_at1 q2, Option.bind_some]
  simp (disch := omega) only [Mg11 M4.1, Mg12 M4.1, Option.bind_some, z_b2_some, z_i1_some, iI_lit, iI_add, iI_sub, iI_mul, iI_neg, Ma10 M4.1, Ma11 M4.1, e0, g10, g11, ite_tb]
  rw [propext q6.symm]
  by_cases z1 : a1
  · rw [if_pos z1, tb_t (Or.inl z1)]; rfl
  · rw [if_neg z1]
    by_cases z2 : c1
    · rw [if_pos z2, tb_t (Or.inr z2)]; rfl
    · rw [if_neg z2, tb_f (fun e => e.elim z1 z2)]; rfl
end HT3
