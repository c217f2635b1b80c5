section HT2
variable {m : Nat} {A : Int → Int} {a p : Int}
noncomputable def HL (m : Nat) (a p : Int) (k : Nat) (nt : Bool) (h : zH) : Option (Int32 × zH) := f_X11_holdsTest_b29 (some m) (iI a) (iI p) (iI (190 + 100 * a)) (iI (k : Int)) (tb (nt = true)) h
theorem HL_next {k k' : Nat} {nt nt' : Bool} {h h' : zH} (q : f_X11_holdsTest_c29 (some m) (iI a) (iI p) (iI (190 + 100 * a)) (iI (k : Int)) (tb (nt = true)) h = some (.inl (some m, iI a, iI p, iI (190 + 100 * a), iI (k' : Int), tb (nt' = true), h'))) : HL m a p k nt h = HL m a p k' nt' h' := by
  unfold HL f_X11_holdsTest_b29
  exact z_it_next q
theorem M_at1 {h : zH} {Y : Nat → Nat → Int32} (hM : MR h m A Y) {i : Int} : z_pF h 11 14 (some m) (tI (iI i + (1 : Int32))) = some (hat h m Y (i + 1)) := by rw [iI_lit, iI_add]; exact M_at hM (i + 1)
theorem ntT : iI 1 = tb (true = true) := (tb_t rfl).symm
theorem ntF : iI 0 = tb (false = true) := (tb_f (by simp)).symm
theorem HT_not {h : zH} {Y : Nat → Nat → Int32} (hM : MR h m A Y) (ha : 0 ≤ a ∧ a ≤ 2) {i : Int} (hi : 0 ≤ i ∧ i ≤ 100) (hY : Y 0 14 = iI i) (k : Nat) (nt : Bool) (hc : A (190 + 100 * a + i) = 33) : HL m a p k nt h = HL m a p k true (hat h m Y (i + 1)) := by
  refine HL_next ?_
  have M1 := MR_at hM (i + 1)
  unfold f_X11_holdsTest_c29
  rw [Mg0 hM.1, Option.bind_some, Mi14 hM.1, Option.bind_some, hY, iI_add, M_all hM (by omega) (by omega), Option.bind_some, hc, if_neg (show ¬ iI 33 = (58 : Int32) by decide), Option.bind_some, Option.bind_some, iI_add, M_all hM (by omega) (by omega), hc, Option.bind_some, Option.bind_some, M_at1 hM, Option.bind_some, if_pos (show iI 33 = (33 : Int32) by decide)]
  rw [iI_lit, ntT]
theorem HT_and {h : zH} {Y : Nat → Nat → Int32} (hM : MR h m A Y) (ha : 0 ≤ a ∧ a ≤ 2) {i : Int} (hi : 0 ≤ i ∧ i ≤ 100) (hY : Y 0 14 = iI i) (k : Nat) (nt : Bool) (hc : A (190 + 100 * a + i) = 38) : HL m a p k nt h = HL m a p k nt (hat h m Y (i + 1)) := by
  refine HL_next ?_
  have M1 := MR_at hM (i + 1)
  unfold f_X11_holdsTest_c29
  rw [Mg0 hM.1, Option.bind_some, Mi14 hM.1, Option.bind_some, hY, iI_add, M_all hM (by omega) (by omega), Option.bind_some, hc, if_neg (show ¬ iI 38 = (58 : Int32) by decide), Option.bind_some, Option.bind_some, iI_add, M_all hM (by omega) (by omega), hc, Option.bind_some, Option.bind_some, M_at1 hM, Option.bind_some, if_neg (show ¬ iI 38 = (33 : Int32) by decide), if_neg (show ¬ iI 38 = (40 : Int32) by decide), if_neg (show ¬ iI 38 = (124 : Int32) by decide), if_neg (show ¬ iI 38 = (41 : Int32) by decide), if_pos (show iI 38 = (38 : Int32) by decide)]
theorem HT_or {h : zH} {Y : Nat → Nat → Int32} (hM : MR h m A Y) (ha : 0 ≤ a ∧ a ≤ 2) {i : Int} (hi : 0 ≤ i ∧ i ≤ 100) (hY : Y 0 14 = iI i) {k : Nat} (hk : k < 6) (nt : Bool) (hc : A (190 + 100 * a + i) = 124) {a0 c0 : Prop} (h10 : Y 10 k = tb a0) (h11 : Y 11 k = tb c0) :
    HL m a p k nt h = HL m a p k nt (hbt (hbt (hat h m Y (i + 1)) m (uat Y (i + 1)) 10 k (a0 ∨ c0)) m (ubt (uat Y (i + 1)) 10 k (a0 ∨ c0)) 11 k True) := by
  refine HL_next ?_
  have M1 := MR_at hM (i + 1)
  have M2 := MR_bt M1 (k := 10) (Or.inl rfl) k (a0 ∨ c0)
  have hk0 : (k : Int).toNat = k := by omega
  have g10 : uat Y (i + 1) 10 k = tb a0 := by rw [uat_n _ _ (by omega)]; exact h10
  have g11 : uat Y (i + 1) 11 k = tb c0 := by rw [uat_n _ _ (by omega)]; exact h11
  have w1 := Mb M1.1 (k := 10) (Or.inl rfl) (e := (k : Int)) (a0 ∨ c0) (by omega) (by omega)
  have w2 := Mb1 M2.1 (k := 11) (e := (k : Int)) (Or.inr (Or.inl rfl)) (by omega) (by omega)
  rw [hk0] at w1 w2
  unfold f_X11_holdsTest_c29
  rw [Mg0 hM.1, Option.bind_some, Mi14 hM.1, Option.bind_some, hY, iI_add, M_all hM (by omega) (by omega), Option.bind_some, hc, if_neg (show ¬ iI 124 = (58 : Int32) by decide), Option.bind_some, Option.bind_some, iI_add, M_all hM (by omega) (by omega), hc, Option.bind_some, Option.bind_some, M_at1 hM, Option.bind_some, if_neg (show ¬ iI 124 = (33 : Int32) by decide), if_neg (show ¬ iI 124 = (40 : Int32) by decide), if_pos (show iI 124 = (124 : Int32) by decide)]
  simp (disch := omega) only [Option.bind_some, z_b2_some, z_i1_some, iI_lit, iI_add, iI_sub, iI_mul, iI_neg, Mg11 M1.1, Mg12 M1.1, Ma10 M1.1, Ma11 M1.1, hk0, g10, g11, ite_tb]
  have b160 : ∀ P : Prop, P = (a0 ∨ c0) → f_X11_holdsTest_b160 (some m) (iI a) (iI p) (iI (190 + 100 * a)) (iI ↑k) (tb (nt = true)) (some (m + 10)) (iI ↑k) (tb P) (hat h m Y (i + 1)) = some (.inl (some m, iI a, iI p, iI (190 + 100 * a), iI (k : Int), tb (nt = true), hbt (hbt (hat h m Y (i + 1)) m (uat Y (i + 1)) 10 k (a0 ∨ c0)) m (ubt (uat Y (i + 1)) 10 k (a0 ∨ c0)) 11 k True)) := by
    intro P hP
    subst hP
    simp only [f_X11_holdsTest_b160, w1, Option.bind_some, z_b2_some, z_i1_some, Mg12 M2.1, iI_lit, w2]
  refine ite_c (fun q => ?_) (fun q => ite_c (fun q2 => ?_) (fun q2 => ?_))
  · rw [f_X11_holdsTest_b155, iI_lit, tbT]; exact b160 True (propext ⟨fun _ => Or.inl q, fun _ => trivial⟩)
  · rw [f_X11_holdsTest_b155, iI_lit, tbT]; exact b160 True (propext ⟨fun _ => Or.inr q2, fun _ => trivial⟩)
  · rw [tbF]; exact b160 False (propext ⟨fun e => e.elim, fun e => e.elim q q2⟩)
theorem HT_open {h : zH} {Y : Nat → Nat → Int32} (hM : MR h m A Y) (ha : 0 ≤ a ∧ a ≤ 2) {i : Int} (hi : 0 ≤ i ∧ i ≤ 100) (hY : Y 0 14 = iI i) {k : Nat} (hk : k < 5) (nt : Bool) (hc : A (190 + 100 * a + i) = 40) :
    ∃ h' Y', HL m a p k nt h = HL m a p (k + 1) false h' ∧ MR h' m A Y' ∧ Y' 0 14 = iI (i + 1) ∧ Y' 10 (k + 1) = tb False ∧ Y' 11 (k + 1) = tb True ∧ Y' 12 (k + 1) = tb (nt = true) ∧ Y' 10 k = Y 10 k ∧ Y' 11 k = Y 11 k ∧ sm k Y Y' ∧ fr m 19 h h' := by
  have M1 := MR_at hM (i + 1)
  have M2 := MR_bt M1 (k := 10) (Or.inl rfl) (k + 1) False
  have M3 := MR_bt M2 (k := 11) (Or.inr (Or.inl rfl)) (k + 1) True
  have M4 := MR_bt M3 (k := 12) (Or.inr (Or.inr rfl)) (k + 1) (nt = true)
  have hk0 : ((k : Int) + 1).toNat = k + 1 := by omega
  have w1 := Mb0 M1.1 (k := 10) (e := (k : Int) + 1) (Or.inl rfl) (by omega) (by omega)
  have w2 := Mb1 M2.1 (k := 11) (e := (k : Int) + 1) (Or.inr (Or.inl rfl)) (by omega) (by omega)
  have w3 := Mb M3.1 (k := 12) (Or.inr (Or.inr rfl)) (e := (k : Int) + 1) (nt = true) (by omega) (by omega)
  rw [hk0] at w1 w2 w3
  refine ⟨_, _, HL_next (k' := k + 1) (nt' := false) ?_, M4, ?_, ?_, ?_, ?_, ?_, ?_, ?_, ?_⟩
  · unfold f_X11_holdsTest_c29
    rw [Mg0 hM.1, Option.bind_some, Mi14 hM.1, Option.bind_some, hY, iI_add, M_all hM (by omega) (by omega), Option.bind_some, hc, if_neg (show ¬ iI 40 = (58 : Int32) by decide), Option.bind_some, Option.bind_some, iI_add, M_all hM (by omega) (by omega), hc, Option.bind_some, Option.bind_some, M_at1 hM, Option.bind_some, if_neg (show ¬ iI 40 = (33 : Int32) by decide), if_pos (show iI 40 = (40 : Int32) by decide)]
    simp (disch := omega) only [Option.bind_some, z_b2_some, z_i1_some, iI_lit, iI_add, iI_sub, iI_mul, iI_neg, Mg11 M1.1, w1, Mg12 M2.1, w2, Mg13 M3.1, w3]
    rw [ntF]; rfl
  · rw [ubt_n _ _ (by omega), ubt_n _ _ (by omega), ubt_n _ _ (by omega), uat_s]
  · rw [ubt_n _ _ (by omega), ubt_n _ _ (by omega), ubt_s]
  · rw [ubt_n _ _ (by omega), ubt_s]
  · rw [ubt_s]
  · rw [ubt_n _ _ (by omega), ubt_n _ _ (by omega), ubt_j _ _ (by omega), uat_n _ _ (by omega)]
  · rw [ubt_n _ _ (by omega), ubt_j _ _ (by omega), ubt_n _ _ (by omega), uat_n _ _ (by omega)]
  · exact sm_tr (sm_tr (sm_tr (sm_at _ _ _) (sm_10 _ _ _ (by omega))) (sm_11 _ _ _ (by omega))) (sm_12 _ _ _ (by omega))
  · exact fr_tr (fr_tr (fr_tr (hat_fr _ _ _ _) (hbt_fr _ _ _ (Or.inl rfl) _ _)) (hbt_fr _ _ _ (Or.inr (Or.inl rfl)) _ _)) (hbt_fr _ _ _ (Or.inr (Or.inr rfl)) _ _)
theorem HT_shut {h : zH} {Y : Nat → Nat → Int32} (hM : MR h m A Y) (ha : 0 ≤ a ∧ a ≤ 2) {i : Int} (hi : 0 ≤ i ∧ i ≤ 100) (hY : Y 0 14 = iI i) {k : Nat} (hk : k < 5) (hc : A (190 + 100 * a + i) = 41) {a0 c0 c1 : Prop} {nt : Bool} (h10 : Y 10 (k + 1) = tb a0) (h11 : Y 11 (k + 1) = tb c0) (h12 : Y 12 (k + 1) = tb (nt = true)) (h1 : Y 11 k = tb c1) :
    ∃ h' Y', HL m a p (k + 1) false h = HL m a p k false h' ∧ MR h' m A Y' ∧ Y' 0 14 = iI (i + 1) ∧ Y' 10 k = Y 10 k ∧ Y' 11 k = tb (c1 ∧ xr (a0 ∨ c0) nt) ∧ sm k Y Y' ∧ fr m 19 h h' := by
  have M1 := MR_at hM (i + 1)
  have hk0 : ((k : Int) + 1).toNat = k + 1 := by omega
  have hk1 : (k : Int) + 1 + -1 = (k : Int) := by omega
  have hk2 : (k : Int).toNat = k := by omega
  have hk3 : ((k + 1 : Nat) : Int) = (k : Int) + 1 := by omega
  have g10 : uat Y (i + 1) 10 (k + 1) = tb a0 := by rw [uat_n _ _ (by omega)]; exact h10
  have g11 : uat Y (i + 1) 11 (k + 1) = tb c0 := by rw [uat_n _ _ (by omega)]; exact h11
  have g12 : uat Y (i + 1) 12 (k + 1) = tb (nt = true) := by rw [uat_n _ _ (by omega)]; exact h12
  have g1 : uat Y (i + 1) 11 k = tb c1 := by rw [uat_n _ _ (by omega)]; exact h1
  refine ⟨hbt (hat h m Y (i + 1)) m (uat Y (i + 1)) 11 k (c1 ∧ xr (a0 ∨ c0) nt), _, HL_next (k' := k) (nt' := false) ?_, MR_bt M1 (k := 11) (Or.inr (Or.inl rfl)) k (c1 ∧ xr (a0 ∨ c0) nt), ?_, ?_, ?_, ?_, ?_⟩
  · have b254 : ∀ P : Prop, P = (c1 ∧ xr (a0 ∨ c0) nt) → f_X11_holdsTest_b254 (some m) (iI a) (iI p) (iI (190 + 100 * a)) (iI (k : Int)) (tb (false = true)) (some (m + 11)) (iI (k : Int)) (tb P) (hat h m Y (i + 1)) = some (.inl (some m, iI a, iI p, iI (190 + 100 * a), iI (k : Int), tb (false = true), hbt (hat h m Y (i + 1)) m (uat Y (i + 1)) 11 k (c1 ∧ xr (a0 ∨ c0) nt))) := by
      intro P hP
      subst hP
      have w := Mb M1.1 (k := 11) (Or.inr (Or.inl rfl)) (e := (k : Int)) (c1 ∧ xr (a0 ∨ c0) nt) (by omega) (by omega)
      rw [hk2] at w
      simp only [f_X11_holdsTest_b254, w, Option.bind_some, z_b2_some, z_i1_some]
    have b223 : ∀ P : Prop, P = xr (a0 ∨ c0) nt → f_X11_holdsTest_b223 (some m) (iI a) (iI p) (iI (190 + 100 * a)) (iI ((k : Int) + 1)) (tb (false = true)) (tb P) (hat h m Y (i + 1)) = some (.inl (some m, iI a, iI p, iI (190 + 100 * a), iI (k : Int), tb (false = true), hbt (hat h m Y (i + 1)) m (uat Y (i + 1)) 11 k (c1 ∧ xr (a0 ∨ c0) nt))) := by
      intro P hP
      subst hP
      simp (disch := omega) only [f_X11_holdsTest_b223, Mg12 M1.1, Option.bind_some, z_b2_some, z_i1_some, iI_lit, iI_add, iI_sub, iI_mul, iI_neg, hk1, Ma11 M1.1, hk2, g1, ite_tb]
      refine ite_c (fun q => ite_c (fun q2 => ?_) (fun q2 => ?_)) (fun q => ?_)
      · rw [tbT]; exact b254 True (propext ⟨fun _ => ⟨q, q2⟩, fun _ => trivial⟩)
      · rw [f_X11_holdsTest_b253, iI_lit, tbF]; exact b254 False (propext ⟨fun e => e.elim, fun e => q2 e.2⟩)
      · rw [f_X11_holdsTest_b253, iI_lit, tbF]; exact b254 False (propext ⟨fun e => e.elim, fun e => q e.1⟩)
    have b204 : ∀ P : Prop, P = (a0 ∨ c0) → f_X11_holdsTest_b204 (some m) (iI a) (iI p) (iI (190 + 100 * a)) (iI ((k : Int) + 1)) (tb (false = true)) (tb P) (hat h m Y (i + 1)) = some (.inl (some m, iI a, iI p, iI (190 + 100 * a), iI (k : Int), tb (false = true), hbt (hat h m Y (i + 1)) m (uat Y (i + 1)) 11 k (c1 ∧ xr (a0 ∨ c0) nt))) := by
      intro P hP
      subst hP
      simp (disch := omega) only [f_X11_holdsTest_b204, Mg13 M1.1, Option.bind_some, z_b2_some, z_i1_some, iI_lit, iI_add, iI_sub, iI_mul, iI_neg, Ma12 M1.1, hk0, g12]
      refine ite_c (fun q => ?_) (fun q => ?_)
      · rw [tbF]
        refine b223 False (propext ⟨fun e => e.elim, fun e => ?_⟩)
        unfold xr at e
        cases nt
        · rw [if_neg (by simp)] at e
          rw [tb_t e, tb_f (by simp)] at q
          exact iI_01 q
        · rw [if_pos rfl] at e
          rw [tb_f e, tb_t rfl] at q
          exact iI_01 q.symm
      · rw [tbT]
        refine b223 True (propext ⟨fun _ => ?_, fun _ => trivial⟩)
        unfold xr
        cases nt
        · rw [if_neg (by simp)]
          apply Classical.byContradiction; intro e
          apply q; rw [tb_f e, tb_f (by simp)]
        · rw [if_pos rfl]
          intro e; apply q; rw [tb_t e, tb_t rfl]
    rw [hk3]
    unfold f_X11_holdsTest_c29
    rw [Mg0 hM.1, Option.bind_some, Mi14 hM.1, Option.bind_some, hY, iI_add, M_all hM (by omega) (by omega), Option.bind_some, hc, if_neg (show ¬ iI 41 = (58 : Int32) by decide), Option.bind_some, Option.bind_some, iI_add, M_all hM (by omega) (by omega), hc, Option.bind_some, Option.bind_some, M_at1 hM, Option.bind_some, if_neg (show ¬ iI 41 = (33 : Int32) by decide), if_neg (show ¬ iI 41 = (40 : Int32) by decide), if_neg (show ¬ iI 41 = (124 : Int32) by decide), if_pos (show iI 41 = (41 : Int32) by decide)]
    simp (disch := omega) only [Option.bind_some, z_b2_some, z_i1_some, iI_lit, iI_add, iI_sub, iI_mul, iI_neg, Mg11 M1.1, Mg12 M1.1, Ma10 M1.1, Ma11 M1.1, hk0, g10, g11, ite_tb]
    refine ite_c (fun q => ?_) (fun q => ite_c (fun q2 => ?_) (fun q2 => ?_))
    · rw [f_X11_holdsTest_b199, iI_lit, tbT]; exact b204 True (propext ⟨fun _ => Or.inl q, fun _ => trivial⟩)
    · rw [f_X11_holdsTest_b199, iI_lit, tbT]; exact b204 True (propext ⟨fun _ => Or.inr q2, fun _ => trivial⟩)
    · rw [tbF]; exact b204 False (propext ⟨fun e => e.elim, fun e => e.elim q q2⟩)
  · rw [ubt_n _ _ (by omega), uat_s]
  · rw [ubt_n _ _ (by omega), uat_n _ _ (by omega)]
  · rw [ubt_s]
  · exact sm_tr (sm_at _ _ _) (sm_11 _ _ _ (by omega))
  · exact fr_tr (hat_fr _ _ _ _) (hbt_fr _ _ _ (Or.inr (Or.inl rfl)) _ _)
theorem HT_atom {h : zH} {Y : Nat → Nat → Int32} (hM : MR h m A Y) (hW : WF A) (hv : vP A a p) (hp : 1 ≤ p) {i : Int} {y : Int × Int} (hy : vA y) (hi : 0 ≤ i ∧ i + (prA y).length ≤ 100) (hY : Y 0 14 = iI i) {k : Nat} (hk : k < 6) (nt : Bool) (ht : tx A (190 + 100 * a + i) (prA y)) {c0 : Prop} (h11 : Y 11 k = tb c0) :
    ∃ h' Y', HL m a p k nt h = HL m a p k false h' ∧ MR h' m A Y' ∧ Y' 0 14 = iI (i + (prA y).length) ∧ Y' 10 k = Y 10 k ∧ Y' 11 k = tb (c0 ∧ xr (sn A a p y.1 y.2) nt) ∧ sm k Y Y' ∧ fr m 19 h h' := by
  have ha : 0 ≤ a ∧ a ≤ 2 := (hW.vp hv).1
  have M1 := MR_at hM (i + 1)
  have M2 := MR_at M1 (i + (prA y).length)
  have hk0 : (k : Int).toNat = k := by omega
  have g11 : uat (uat Y (i + 1)) (i + (prA y).length) 11 k = tb c0 := by rw [uat_n _ _ (by omega), uat_n _ _ (by omega)]; exact h11
  have g14 : uat Y (i + 1) 0 14 = iI (i + 1) := uat_s _ _
  have M3 := MR_bt M2 (k := 11) (Or.inr (Or.inl rfl)) k (c0 ∧ xr (sn A a p y.1 y.2) nt)
  refine ⟨_, _, HL_next (k' := k) (nt' := false) ?_, M3, ?_, ?_, ?_, ?_, ?_⟩
  · have b373 : ∀ P : Prop, P = (c0 ∧ xr (sn A a p y.1 y.2) nt) → f_X11_holdsTest_b373 (some m) (iI a) (iI p) (iI (190 + 100 * a)) (iI (k : Int)) (some (m + 11)) (iI (k : Int)) (tb P) (hat (hat h m Y (i + 1)) m (uat Y (i + 1)) (i + (prA y).length)) = some (.inl (some m, iI a, iI p, iI (190 + 100 * a), iI (k : Int), tb (false = true), hbt (hat (hat h m Y (i + 1)) m (uat Y (i + 1)) (i + (prA y).length)) m (uat (uat Y (i + 1)) (i + (prA y).length)) 11 k (c0 ∧ xr (sn A a p y.1 y.2) nt))) := by
      intro P hP
      subst hP
      have w := Mb M2.1 (k := 11) (Or.inr (Or.inl rfl)) (e := (k : Int)) (c0 ∧ xr (sn A a p y.1 y.2) nt) (by omega) (by omega)
      rw [hk0] at w
      simp only [f_X11_holdsTest_b373, w, Option.bind_some, z_b2_some, z_i1_some, iI_lit]
      rw [ntF]
    have b341 : ∀ s2 : Int, i + 1 + s2 = i + (prA y).length → f_X11_holdsTest_b341 (some m) (iI a) (iI p) (iI (190 + 100 * a)) (iI (k : Int)) (tb (nt = true)) (tb (sn A a p y.1 y.2)) (some m) (iI (i + 1)) (iI s2) (hat h m Y (i + 1)) = some (.inl (some m, iI a, iI p, iI (190 + 100 * a), iI (k : Int), tb (false = true), hbt (hat (hat h m Y (i + 1)) m (uat Y (i + 1)) (i + (prA y).length)) m (uat (uat Y (i + 1)) (i + (prA y).length)) 11 k (c0 ∧ xr (sn A a p y.1 y.2) nt))) := by
      intro s2 hs
      simp (disch := omega) only [f_X11_holdsTest_b341, iI_lit, iI_add, iI_sub, iI_mul, iI_neg, hs, M_at M1, Option.bind_some, z_b2_some, z_i1_some, Mg12 M2.1, Ma11 M2.1, hk0, g11, ite_tb]
      refine ite_c (fun q => ite_c (fun q2 => ?_) (fun q2 => ?_)) (fun q => ?_)
      · rw [f_X11_holdsTest_b372, iI_lit, tbF]
        refine b373 False (propext ⟨fun e => e.elim, fun e => ?_⟩)
        have e := e.2
        unfold xr at e
        cases nt
        · rw [if_neg (by simp)] at e
          rw [tb_t e, tb_f (by simp)] at q2
          exact iI_01 q2
        · rw [if_pos rfl] at e
          rw [tb_f e, tb_t rfl] at q2
          exact iI_01 q2.symm
      · rw [tbT]
        refine b373 True (propext ⟨fun _ => ⟨q, ?_⟩, fun _ => trivial⟩)
        unfold xr
        cases nt
        · rw [if_neg (by simp)]
          apply Classical.byContradiction; intro e
          apply q2; rw [tb_f e, tb_f (by simp)]
        · rw [if_pos rfl]
          intro e; apply q2; rw [tb_t e, tb_t rfl]
      · rw [f_X11_holdsTest_b372, iI_lit, tbF]; exact b373 False (propext ⟨fun e => e.elim, fun e => q e.1⟩)
    have cl := R_claims M1 hW hv hp (c := y.1) (g := y.2) hy
    by_cases hd : y.1 = 119 ∨ y.1 = 116 ∨ y.1 = 109
    · have hl : prA y = [y.1, 48 + y.2] := if_pos hd
      have hy2 : 0 ≤ y.2 ∧ y.2 ≤ 3 := by unfold vA at hy; omega
      rw [hl] at ht hi
      have b341' := b341 1 (by rw [hl]; simp only [List.length_cons, List.length_nil]; omega)
      simp only [List.length_cons, List.length_nil] at hi
      obtain ⟨t1, t2, -⟩ := ht
      have e2 : 190 + 100 * a + i + 1 = 190 + 100 * a + (i + 1) := by omega
      have e3 : 48 + y.2 - 48 = y.2 := by omega
      rw [e2] at t2
      have b286 : f_X11_holdsTest_b286 (some m) (iI a) (iI p) (iI (190 + 100 * a)) (iI (k : Int)) (tb (nt = true)) (iI y.1) (hat h m Y (i + 1)) = some (.inl (some m, iI a, iI p, iI (190 + 100 * a), iI (k : Int), tb (false = true), hbt (hat (hat h m Y (i + 1)) m (uat Y (i + 1)) (i + (prA y).length)) m (uat (uat Y (i + 1)) (i + (prA y).length)) 11 k (c0 ∧ xr (sn A a p y.1 y.2) nt))) := by
        simp (disch := omega) only [f_X11_holdsTest_b286, f_X11_holdsTest_b291, f_X11_holdsTest_b321, iI_lit, iI_add, iI_sub, iI_mul, iI_neg, iI_eq, if_neg, Mg0 M1.1, Mi14 M1.1, g14, Option.bind_some, z_b2_some, z_i1_some, M_all M1, t2, e3, Mck M1.1, cl, b341']
      rcases hd with hd | hd | hd
      · rw [hd] at t1 b286 ⊢
        have hc := t1
        unfold f_X11_holdsTest_c29
        rw [Mg0 hM.1, Option.bind_some, Mi14 hM.1, Option.bind_some, hY, iI_add, M_all hM (by omega) (by omega), Option.bind_some, hc, if_neg (show ¬ iI 119 = (58 : Int32) by decide), Option.bind_some, Option.bind_some, iI_add, M_all hM (by omega) (by omega), hc, Option.bind_some, Option.bind_some, M_at1 hM, Option.bind_some, if_neg (show ¬ iI 119 = (33 : Int32) by decide), if_neg (show ¬ iI 119 = (40 : Int32) by decide), if_neg (show ¬ iI 119 = (124 : Int32) by decide), if_neg (show ¬ iI 119 = (41 : Int32) by decide), if_neg (show ¬ iI 119 = (38 : Int32) by decide), if_pos (show iI 119 = (119 : Int32) by decide)]
        exact b286
      · rw [hd] at t1 b286 ⊢
        have hc := t1
        unfold f_X11_holdsTest_c29
        rw [Mg0 hM.1, Option.bind_some, Mi14 hM.1, Option.bind_some, hY, iI_add, M_all hM (by omega) (by omega), Option.bind_some, hc, if_neg (show ¬ iI 116 = (58 : Int32) by decide), Option.bind_some, Option.bind_some, iI_add, M_all hM (by omega) (by omega), hc, Option.bind_some, Option.bind_some, M_at1 hM, Option.bind_some, if_neg (show ¬ iI 116 = (33 : Int32) by decide), if_neg (show ¬ iI 116 = (40 : Int32) by decide), if_neg (show ¬ iI 116 = (124 : Int32) by decide), if_neg (show ¬ iI 116 = (41 : Int32) by decide), if_neg (show ¬ iI 116 = (38 : Int32) by decide), if_neg (show ¬ iI 116 = (119 : Int32) by decide), if_pos (show iI 116 = (116 : Int32) by decide)]
        exact b286
      · rw [hd] at t1 b286 ⊢
        have hc := t1
        unfold f_X11_holdsTest_c29
        rw [Mg0 hM.1, Option.bind_some, Mi14 hM.1, Option.bind_some, hY, iI_add, M_all hM (by omega) (by omega), Option.bind_some, hc, if_neg (show ¬ iI 109 = (58 : Int32) by decide), Option.bind_some, Option.bind_some, iI_add, M_all hM (by omega) (by omega), hc, Option.bind_some, Option.bind_some, M_at1 hM, Option.bind_some, if_neg (show ¬ iI 109 = (33 : Int32) by decide), if_neg (show ¬ iI 109 = (40 : Int32) by decide), if_neg (show ¬ iI 109 = (124 : Int32) by decide), if_neg (show ¬ iI 109 = (41 : Int32) by decide), if_neg (show ¬ iI 109 = (38 : Int32) by decide), if_neg (show ¬ iI 109 = (119 : Int32) by decide), if_neg (show ¬ iI 109 = (116 : Int32) by decide), if_pos (show iI 109 = (109 : Int32) by decide)]
        exact b286
    · have hl : prA y = [y.1] := if_neg hd
      rw [hl] at ht hi
      have b341' := b341 0 (by rw [hl]; simp only [List.length_cons, List.length_nil]; omega)
      simp only [List.length_cons, List.length_nil] at hi
      obtain ⟨t1, -⟩ := ht
      have hy2 : (y.1 = 104 ∨ y.1 = 120 ∨ y.1 = 42) ∧ y.2 = 0 := by unfold vA at hy; omega
      have cl0 := cl
      rw [hy2.2] at cl0
      have b291 : f_X11_holdsTest_b291 (some m) (iI a) (iI p) (iI (190 + 100 * a)) (iI (k : Int)) (tb (nt = true)) (iI y.1) (iI 0) (hat h m Y (i + 1)) = some (.inl (some m, iI a, iI p, iI (190 + 100 * a), iI (k : Int), tb (false = true), hbt (hat (hat h m Y (i + 1)) m (uat Y (i + 1)) (i + (prA y).length)) m (uat (uat Y (i + 1)) (i + (prA y).length)) 11 k (c0 ∧ xr (sn A a p y.1 y.2) nt))) := by
        have b3 := b341'
        rw [hy2.2] at b3 ⊢
        simp (disch := omega) only [f_X11_holdsTest_b291, f_X11_holdsTest_b321, iI_lit, iI_add, iI_sub, iI_mul, iI_neg, if_true, Mi14 M1.1, g14, Option.bind_some, z_b2_some, z_i1_some, Mck M1.1, cl0, b3]
      have hc := t1
      have ne : ∀ v : Int, (v ≠ 104 ∧ v ≠ 120 ∧ v ≠ 42) → (-1000 ≤ v ∧ v ≤ 1000) → ¬ iI y.1 = iI v := fun v hv hr => by
        rw [iI_eq (by omega) (by omega) (by omega) (by omega)]; omega
      unfold f_X11_holdsTest_c29
      rw [Mg0 hM.1, Option.bind_some, Mi14 hM.1, Option.bind_some, hY, iI_add, M_all hM (by omega) (by omega), Option.bind_some, hc, if_neg (show ¬ iI y.1 = (58 : Int32) by rw [iI_lit]; exact ne 58 (by omega) (by omega)), Option.bind_some, Option.bind_some, iI_add, M_all hM (by omega) (by omega), hc, Option.bind_some, Option.bind_some, M_at1 hM, Option.bind_some, if_neg (show ¬ iI y.1 = (33 : Int32) by rw [iI_lit]; exact ne 33 (by omega) (by omega)), if_neg (show ¬ iI y.1 = (40 : Int32) by rw [iI_lit]; exact ne 40 (by omega) (by omega)), if_neg (show ¬ iI y.1 = (124 : Int32) by rw [iI_lit]; exact ne 124 (by omega) (by omega)), if_neg (show ¬ iI y.1 = (41 : Int32) by rw [iI_lit]; exact ne 41 (by omega) (by omega)), if_neg (show ¬ iI y.1 = (38 : Int32) by rw [iI_lit]; exact ne 38 (by omega) (by omega)), if_neg (show ¬ iI y.1 = (119 : Int32) by rw [iI_lit]; exact ne 119 (by omega) (by omega)), if_neg (show ¬ iI y.1 = (116 : Int32) by rw [iI_lit]; exact ne 116 (by omega) (by omega)), if_neg (show ¬ iI y.1 = (109 : Int32) by rw [iI_lit]; exact ne 109 (by omega) (by omega))]
      exact b291
  · rw [ubt_n _ _ (by omega), uat_s]
  · rw [ubt_n _ _ (by omega), uat_n _ _ (by omega), uat_n _ _ (by omega)]
  · rw [ubt_s]
  · exact sm_tr (sm_tr (sm_at _ _ _) (sm_at _ _ _)) (sm_11 _ _ _ (by omega))
  · exact fr_tr (fr_tr (hat_fr _ _ _ _) (hat_fr _ _ _ _)) (hbt_fr _ _ _ (Or.inr (Or.inl rfl)) _ _)
end HT2
