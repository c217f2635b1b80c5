section CX2
variable {ws tS : Nat} {D : Nat → Prop} {A : Int → Int} {Q : Int → List zKl} {U : Int → Option Nat} {a t : Int} {n : Nat}
/-- how the search behind s words ends -/
def wEnd (ws : Nat) (A : Int → Int) (Q : Int → List zKl) (a t : Int) (n c s v : Nat) (h h' : zH) (res : Int32) (g : Nat → Int32) : Prop :=
  ∃ g', fw ws s h h' ∧ WSAt h' ws (iI a) (iI t) (iI (n : Int)) g' ∧ (∀ j, s < j → j ≤ 4 → ∃ S, SAt h' (ws + 3 + 30 * j) S) ∧ ((res = iI 1 ∧ ∃ r, r / 4 ^ (c - s) = v ∧ EV A Q a t n c r ∧ (∀ r', r' < r → r' / 4 ^ (c - s) = v → ¬ EV A Q a t n c r') ∧ ∀ i, i < c → g' i = iI ((dgt c r i : Nat) : Int)) ∨ (res = iI 0 ∧ (∀ r, r / 4 ^ (c - s) = v → ¬ EV A Q a t n c r) ∧ ∀ i, i < s → g' i = g i))
def wRec (ws tS : Nat) (D : Nat → Prop) (A : Int → Int) (Q : Int → List zKl) (U : Int → Option Nat) (a t : Int) (n c s : Nat) (rec : Option Nat → Int32 → Int32 → zH → Option (Int32 × zH)) : Prop :=
  ∀ (v : Nat) (h : zH) (g : Nat → Int32) (F : Nat → Nat → Int32), v < 4 ^ s → hST h tS → RUs D h A U Q → WSAt h ws (iI a) (iI t) (iI (n : Int)) g → (∀ i, i < s → g i = iI ((dgt s v i : Nat) : Int)) → SR h (ws + 3 + 30 * s) (XW A Q a (wdk s v) (2 * s)) U F → (∀ j, s < j → j ≤ 4 → ∃ S, SAt h (ws + 3 + 30 * j) S) → ∃ res h', rec (some ws) (iI (c : Int)) (iI (s : Int)) h = some (res, h') ∧ wEnd ws A Q a t n c s v h h' res g
theorem wdk_pre {s v w k : Nat} (hw : w < 4) (hk : k < 2 * s) : wdk (s + 1) (4 * v + w) k = wdk s v k := by
  unfold wdk
  rw [if_pos (by omega), if_pos (by omega)]
  congr 1
  exact dgt_pre (c := s + 1) (s := s) (by omega) (by rw [show s + 1 - s = 1 by omega, Nat.pow_one]; omega) (by omega)
theorem wdk_last {s v w k : Nat} (hw : w < 4) (hk : 2 * s ≤ k) : wdk (s + 1) (4 * v + w) k = (w : Int) := by
  have e : (if k / 2 < s + 1 then k / 2 else s + 1 - 1) = s := by split <;> omega
  unfold wdk
  rw [e]
  unfold dgt
  rw [show s + 1 - 1 - s = 0 by omega, Nat.pow_zero, Nat.div_one]
  congr 1; omega
theorem dgt_last {s v w : Nat} (hw : w < 4) : dgt (s + 1) (4 * v + w) s = w := by
  unfold dgt
  rw [show s + 1 - 1 - s = 0 by omega, Nat.pow_zero, Nat.div_one]; omega
theorem lt_pow {c s r v : Nat} (hs : s ≤ c) (hv : v < 4 ^ s) (hr : r / 4 ^ (c - s) = v) : r < 4 ^ c := by
  have := (Nat.div_lt_iff_lt_mul (pow4_pos (c - s))).mp (by rw [hr]; exact hv)
  rwa [← Nat.pow_add, show s + (c - s) = c by omega] at this
theorem C_fewL (hg : good A Q A) (ha : 0 ≤ a ∧ a < A 64) (ht : 0 ≤ t ∧ t < A 65) (h2 : A (490 + 4 * t) ≠ 2) (hn : 1 ≤ n ∧ n ≤ 20) (hts : tS < ws ∨ ws + 153 ≤ tS) (hD : ∀ q, D q → q < ws ∨ ws + 153 ≤ q) {c s v : Nat} (hc : 1 ≤ c ∧ c ≤ 4) (hs : s < c) (hv : v < 4 ^ s) (hsh : ∀ c', 1 ≤ c' → c' < c → ∀ r', r' < 4 ^ c' → ¬ EV A Q a t n c' r') {rec : Option Nat → Int32 → Int32 → zH → Option (Int32 × zH)} (hrec : s + 1 < c → wRec ws tS D A Q U a t n c (s + 1) rec) (hlft : 2 * s < n ∧ (s + 1 < c → 2 * (s + 1) < n)) {h : zH} {g : Nat → Int32} {F : Nat → Nat → Int32} (hST0 : hST h tS) (hRU : RUs D h A U Q) (hpre : ∀ i, i < s → g i = iI ((dgt s v i : Nat) : Int)) (hS : SR h (ws + 3 + 30 * s) (XW A Q a (wdk s v) (2 * s)) U F) : ∀ (d w : Nat) (h1 : zH) (g1 : Nat → Int32), w + d = 4 → fw ws s h h1 → WSAt h1 ws (iI a) (iI t) (iI (n : Int)) g1 → (∀ i, i < s → g1 i = g i) → (∀ j, s < j → j ≤ 4 → ∃ S, SAt h1 (ws + 3 + 30 * j) S) → (∀ w', w' < w → ∀ r, r / 4 ^ (c - (s + 1)) = 4 * v + w' → ¬ EV A Q a t n c r) →
    ∃ res h', f_X9_isEatenBy_b47 tS rec (some ws) (iI (c : Int)) (iI (s : Int)) (iI ((n : Int) - 2 * (s : Int))) (tb (s + 1 = c)) (iI (w : Int)) h1 = some (res, h') ∧ wEnd ws A Q a t n c s v h h' res g := by
  have hN := hg.1.n
  have hpw : 4 ^ (c - s) = 4 ^ (c - (s + 1)) * 4 := by rw [← Nat.pow_succ, show (c - (s + 1)).succ = c - s by omega]
  have split4 : ∀ r, r / 4 ^ (c - s) = r / 4 ^ (c - (s + 1)) / 4 := fun r => by rw [hpw, Nat.div_div_eq_div_mul]
  intro d
  induction d with
  | zero =>
    intro w h1 g1 hw f1 ws1 p1 se1 no1
    refine ⟨iI 0, h1, ?_, g1, f1, ws1, se1, Or.inr ⟨rfl, fun r hr => ?_, p1⟩⟩
    · unfold f_X9_isEatenBy_b47
      refine z_it_done ?_
      show f_X9_isEatenBy_c47 tS rec (some ws) (iI (c : Int)) (iI (s : Int)) (iI ((n : Int) - 2 * (s : Int))) (tb (s + 1 = c)) (iI (w : Int)) h1 = _
      unfold f_X9_isEatenBy_c47
      simp only [iI_lit, iI_add, iI_sub, iI_mul, iI_neg]
      rw [if_pos (cLt (by omega))]; rfl
    · rw [split4] at hr
      exact no1 (r / 4 ^ (c - (s + 1)) - 4 * v) (by omega) r (by omega)
  | succ d ih =>
    intro w h1 g1 hw f1 ws1 p1 se1 no1
    have hw3 : w < 4 := by omega
    have hv4 : 4 * v + w < 4 ^ (s + 1) := by rw [Nat.pow_succ]; omega
    have RU1 := RUs_fw hD hRU f1
    have ST1 : hST h1 tS := by unfold hST; rw [f1 tS (by omega) (by omega)]; exact hST0
    -- the next word
    have go : ∀ h5 g5, f_X9_isEatenBy_c47 tS rec (some ws) (iI (c : Int)) (iI (s : Int)) (iI ((n : Int) - 2 * (s : Int))) (tb (s + 1 = c)) (iI (w : Int)) h1 = some (.inl (some ws, iI (c : Int), iI (s : Int), iI ((n : Int) - 2 * (s : Int)), tb (s + 1 = c), iI ((w + 1 : Nat) : Int), h5)) → fw ws s h h5 → WSAt h5 ws (iI a) (iI t) (iI (n : Int)) g5 → (∀ i, i < s → g5 i = g i) → (∀ j, s < j → j ≤ 4 → ∃ S, SAt h5 (ws + 3 + 30 * j) S) → (∀ r, r / 4 ^ (c - (s + 1)) = 4 * v + w → ¬ EV A Q a t n c r) → ∃ res h', f_X9_isEatenBy_b47 tS rec (some ws) (iI (c : Int)) (iI (s : Int)) (iI ((n : Int) - 2 * (s : Int))) (tb (s + 1 = c)) (iI (w : Int)) h1 = some (res, h') ∧ wEnd ws A Q a t n c s v h h' res g := by
      intro h5 g5 q1 q2 q3 q4 q5 q6
      obtain ⟨res, h', y1, y2⟩ := ih (w + 1) h5 g5 (by omega) q2 q3 q4 q5 (fun w' hw' r hr => by
        by_cases e : w' = w
        · subst e; exact q6 r hr
        · exact no1 w' (by omega) r hr)
      refine ⟨res, h', ?_, y2⟩
      rw [← y1]
      unfold f_X9_isEatenBy_b47
      exact z_it_next (s := (some ws, iI (c : Int), iI (s : Int), iI ((n : Int) - 2 * (s : Int)), tb (s + 1 = c), iI (w : Int), h1)) q1
    -- it is found
    have fnd : ∀ h5 g5 r, f_X9_isEatenBy_c47 tS rec (some ws) (iI (c : Int)) (iI (s : Int)) (iI ((n : Int) - 2 * (s : Int))) (tb (s + 1 = c)) (iI (w : Int)) h1 = some (.inr (iI 1, h5)) → fw ws s h h5 → WSAt h5 ws (iI a) (iI t) (iI (n : Int)) g5 → (∀ j, s < j → j ≤ 4 → ∃ S, SAt h5 (ws + 3 + 30 * j) S) → r / 4 ^ (c - (s + 1)) = 4 * v + w → EV A Q a t n c r → (∀ r', r' < r → r' / 4 ^ (c - (s + 1)) = 4 * v + w → ¬ EV A Q a t n c r') → (∀ i, i < c → g5 i = iI ((dgt c r i : Nat) : Int)) → ∃ res h', f_X9_isEatenBy_b47 tS rec (some ws) (iI (c : Int)) (iI (s : Int)) (iI ((n : Int) - 2 * (s : Int))) (tb (s + 1 = c)) (iI (w : Int)) h1 = some (res, h') ∧ wEnd ws A Q a t n c s v h h' res g := by
      intro h5 g5 r q1 q2 q3 q4 q5 q6 q7 q8
      refine ⟨iI 1, h5, ?_, g5, q2, q3, q4, Or.inl ⟨rfl, r, by rw [split4, q5]; omega, q6, fun r' hr' e => ?_, q8⟩⟩
      · unfold f_X9_isEatenBy_b47
        exact z_it_done (s := (some ws, iI (c : Int), iI (s : Int), iI ((n : Int) - 2 * (s : Int)), tb (s + 1 = c), iI (w : Int), h1)) q1
      · rw [split4] at e
        have mono := Nat.div_le_div_right (c := 4 ^ (c - (s + 1))) (Nat.le_of_lt hr')
        by_cases e2 : r' / 4 ^ (c - (s + 1)) = 4 * v + w
        · exact q7 r' hr' e2
        · exact no1 (r' / 4 ^ (c - (s + 1)) - 4 * v) (by omega) r' (by omega)
    -- trying the word
    have try78 : f_X9_isEatenBy_c47 tS rec (some ws) (iI (c : Int)) (iI (s : Int)) (iI ((n : Int) - 2 * (s : Int))) (tb (s + 1 = c)) (iI (w : Int)) h1 = f_X9_isEatenBy_b78 tS rec (some ws) (iI (c : Int)) (iI (s : Int)) (iI ((n : Int) - 2 * (s : Int))) (tb (s + 1 = c)) (iI (w : Int)) h1 → ∃ res h', f_X9_isEatenBy_b47 tS rec (some ws) (iI (c : Int)) (iI (s : Int)) (iI ((n : Int) - 2 * (s : Int))) (tb (s + 1 = c)) (iI (w : Int)) h1 = some (res, h') ∧ wEnd ws A Q a t n c s v h h' res g := by
      intro e78
      -- the row
      have w1 : z_sI h1 (some (ws + 1)) (iI (s : Int)) (iI (w : Int)) = some (z_up h1 (ws + 1) (.inl (0, 4, .inl (upd g1 s (iI (w : Int)))))) := by
        rw [z_sI_k ws1.2.1 (by omega) (by omega) (by decide), show (s : Int).toNat = s by omega]
      have f2 : fw ws s h1 (z_up h1 (ws + 1) (.inl (0, 4, .inl (upd g1 s (iI (w : Int)))))) := fun q q1 _ => z_up_n _ _ q1
      have o2 : ∀ q, q ≠ ws + 1 → (z_up h1 (ws + 1) (.inl (0, 4, .inl (upd g1 s (iI (w : Int)))))) q = h1 q := fun q hq => z_up_n _ _ hq
      have ws2 : WSAt (z_up h1 (ws + 1) (.inl (0, 4, .inl (upd g1 s (iI (w : Int)))))) ws (iI a) (iI t) (iI (n : Int)) (upd g1 s (iI (w : Int))) := ⟨by rw [o2 _ (by omega)]; exact ws1.1, z_up_s _ _ _, by rw [o2 _ (by omega)]; exact ws1.2.2⟩
      generalize z_up h1 (ws + 1) (.inl (0, 4, .inl (upd g1 s (iI (w : Int))))) = h2' at w1 f2 o2 ws2
      -- the sea
      obtain ⟨S1, s1, s2⟩ := SR_fr (h' := h2') hS (fun q q1 q2 => by rw [o2 q (by omega)]; exact f1 q (by omega) (by omega))
      obtain ⟨S0, s0⟩ := se1 (s + 1) (by omega) (by omega)
      have s0' := SAt_fr (h' := h2') s0 (fun q q1 q2 => o2 q (by omega))
      have gB := good_XW (a := a) hg (by omega) (wdk_rg s v) (2 * s)
      obtain ⟨h3, b1, b2, b3⟩ := C_become s0' s1 s2 gB.1 (by omega)
      have ws3 := WSAt_fr ws2 (fun q q1 q2 => b3 q (by omega))
      obtain ⟨S3, s3, r3⟩ := b2
      have ha3 : a.toNat < 3 := by omega
      have r4 := SRel_head r3 gB.1 (a := a) (v := (w : Int)) (by rw [gB.2.1]; exact ha)
      have f4 : fr (ws + 3 + 30 * (s + 1)) 30 h3 (z_up h3 (ws + 3 + 30 * (s + 1) + 4 + 6 * a.toNat) (cA (ws + 3 + 30 * (s + 1)) a.toNat (sN S3 a.toNat 2 (iI (w : Int))))) := fr_up (by omega) (by omega)
      have s4 := SAt_n s3 (i := a.toNat) (j := 2) (iI (w : Int)) ha3
      have w4 := Ap2 s3 (i := a.toNat) (iI (w : Int)) ha3
      generalize z_up h3 (ws + 3 + 30 * (s + 1) + 4 + 6 * a.toNat) (cA (ws + 3 + 30 * (s + 1)) a.toNat (sN S3 a.toNat 2 (iI (w : Int)))) = h4 at f4 s4 w4
      have f24 : fr (ws + 3 + 30 * (s + 1)) 30 h2' h4 := fr_tr b3 f4
      have fw4 : fw ws s h h4 := fw_tr f1 (fw_tr f2 (fw_fr (by omega) f24))
      have ws4 := WSAt_fr ws2 (h' := h4) (fun q q1 q2 => f24 q (by omega))
      have RU4 := RUs_fw hD hRU fw4
      have ST4 : hST h4 tS := by unfold hST; rw [fw4 tS (by omega) (by omega)]; exact hST0
      have eB : XW A Q a (wdk s v) (2 * s) = XW A Q a (wdk (s + 1) (4 * v + w)) (2 * s) := XW_cg _ (fun j hj => (wdk_pre hw3 hj).symm)
      have SR4 : SR h4 (ws + 3 + 30 * (s + 1)) (hd (XW A Q a (wdk (s + 1) (4 * v + w)) (2 * s + 0)) a (w : Int)) U (fun i => S0.r i 4) := by
        show SR h4 (ws + 3 + 30 * (s + 1)) (hd (XW A Q a (wdk (s + 1) (4 * v + w)) (2 * s)) a (w : Int)) U (fun i => S0.r i 4)
        rw [← eB]; exact ⟨_, s4, r4⟩
      have e78' : ∀ T : Nat, iI (T : Int) = (if tb (s + 1 = c) = iI 0 then iI 2 else iI ((n : Int) - 2 * (s : Int))) → f_X9_isEatenBy_b78 tS rec (some ws) (iI (c : Int)) (iI (s : Int)) (iI ((n : Int) - 2 * (s : Int))) (tb (s + 1 = c)) (iI (w : Int)) h1 = f_X9_isEatenBy_b137 tS rec (some ws) (iI (c : Int)) (iI (s : Int)) (iI ((n : Int) - 2 * (s : Int))) (tb (s + 1 = c)) (iI (w : Int)) (some (ws + 3 + 30 * (s + 1))) (iI (T : Int)) (iI ((0 : Nat) : Int)) h4 := by
        intro T hT
        unfold f_X9_isEatenBy_b78 f_X9_isEatenBy_b132
        simp only [iI_lit, iI_add, iI_sub, iI_mul, iI_neg]
        rw [WS0 ws1, Option.bind_some, w1, Option.bind_some, WS1 ws2, Option.bind_some, WSb ws2 (by omega) (by omega), Option.bind_some, Option.bind_some, WSb ws2 (by omega) (by omega), Option.bind_some, show ((s : Int) + 1).toNat = s + 1 by omega, show (s : Int).toNat = s by omega, Sck s0', Option.bind_some, b1, Option.bind_some, Sg3 s3, Option.bind_some, WS2 ws3, Option.bind_some, Sarm s3 (by omega) (by omega), Option.bind_some, w4, Option.bind_some, hT]
        split <;> rfl
      have seas4 : ∀ (h5 : zH), fr (ws + 3 + 30 * (s + 1)) 30 h4 h5 → (∃ S, SAt h5 (ws + 3 + 30 * (s + 1)) S) → ∀ j, s < j → j ≤ 4 → ∃ S, SAt h5 (ws + 3 + 30 * j) S := by
        intro h5 f5 e5 j j1 j2
        by_cases e : j = s + 1
        · subst e; exact e5
        · obtain ⟨S, q⟩ := se1 j j1 j2
          exact ⟨S, SAt_fr q (fun x x1 x2 => by rw [f5 x (by omega), f24 x (by omega)]; exact o2 x (by omega))⟩
      have g5 : ∀ i, i < s → upd g1 s (iI (w : Int)) i = g i := fun i hi => by rw [pk_un (by omega)]; exact p1 i hi
      have om_rg := wdk_rg (s + 1) (4 * v + w)
      have shs : ∀ k, k < 2 * s → XW A Q a (wdk (s + 1) (4 * v + w)) k (490 + 4 * t) ≠ 2 := by
        intro k hk e
        refine hsh s (by omega) hs v hv ⟨k, by omega, ?_⟩
        rw [← e]
        exact congrFun (XW_cg k (fun j hj => (wdk_pre hw3 (by omega)).symm)) _
      by_cases hl : s + 1 = c
      · -- the last word
        have hT : iI (((n - 2 * s : Nat)) : Int) = (if tb (s + 1 = c) = iI 0 then iI 2 else iI ((n : Int) - 2 * (s : Int))) := by
          rw [if_neg (by rw [tb_t hl]; exact iI_01), show (((n - 2 * s : Nat)) : Int) = (n : Int) - 2 * (s : Int) by omega]
        obtain ⟨h5, F5, j5, x1, x2, x3, x4, x5, x6⟩ := C_wt (U := U) hg ha ht hts hD om_rg (k0 := 2 * s) (w := (w : Int)) (fun k hk => wdk_last hw3 hk) (i := s + 1) (by omega) (T := n - 2 * s) (by omega) rec (iI (c : Int)) (iI (s : Int)) (iI ((n : Int) - 2 * (s : Int))) (tb (s + 1 = c)) (iI (w : Int)) (n - 2 * s) 0 h4 _ (by omega) ST4 RU4 ws4 SR4 (fun q hq => absurd hq (by omega))
        have fw5 : fw ws s h h5 := fw_tr fw4 (fw_fr (by omega) x3)
        have ws5 := WSAt_fr ws4 (h' := h5) (fun q q1 q2 => x3 q (by omega))
        obtain ⟨S5, s5, r5⟩ := id x2
        have g5' := good_XW (a := a) hg (by omega) om_rg (2 * s + j5)
        have gh5 := good_hd (a := a) g5' (by omega) (w := (w : Int)) (by omega)
        have hv1 := r5.v1 t ht.1 (by rw [gh5.2.2.1]; exact ht.2)
        rw [hd_t (by omega) (by omega)] at hv1
        have wt := (g5'.1.t (t := t) (by rw [g5'.2.2.1]; exact ht)).1
        have b172 : ∀ y, (if XW A Q a (wdk (s + 1) (4 * v + w)) (2 * s + j5) (490 + 4 * t) = 2 then some (.inr (iI 1, h5)) else some (.inl (some ws, iI (c : Int), iI (s : Int), iI ((n : Int) - 2 * (s : Int)), tb (s + 1 = c), iI ((w + 1 : Nat) : Int), h5))) = some y → f_X9_isEatenBy_c47 tS rec (some ws) (iI (c : Int)) (iI (s : Int)) (iI ((n : Int) - 2 * (s : Int))) (tb (s + 1 = c)) (iI (w : Int)) h1 = some y := by
          intro y hy
          rw [e78, e78' (n - 2 * s) hT]
          refine x1 y ?_
          rw [← hy]
          unfold f_X9_isEatenBy_b172 f_X9_isEatenBy_b210
          simp only [iI_lit, iI_add, iI_sub, iI_mul, iI_neg]
          rw [if_neg (show ¬ tb (s + 1 = c) = iI 0 by rw [tb_t hl]; exact iI_01), Sg5 s5, Option.bind_some, WS3 ws5, Option.bind_some, Sthg s5 (by omega) (by omega), Option.bind_some, Tv1 s5 (by omega), Option.bind_some, hv1, iteEq (by omega)]
          rfl
        have ed : c - (s + 1) = 0 := by omega
        by_cases e : XW A Q a (wdk (s + 1) (4 * v + w)) (2 * s + j5) (490 + 4 * t) = 2
        · refine fnd h5 _ (4 * v + w) (b172 _ (by rw [if_pos e])) fw5 ws5 (seas4 h5 x3 ⟨S5, s5⟩) (by rw [ed, Nat.pow_zero, Nat.div_one]) ?_ (fun r' hr' e' => by rw [ed, Nat.pow_zero, Nat.div_one] at e'; omega) (fun i hi => ?_)
          · rw [← hl]; exact ⟨2 * s + j5, by omega, e⟩
          · rw [← hl]
            by_cases ei : i = s
            · subst ei; rw [pk_us, dgt_last hw3]
            · rw [g5 i (by omega), hpre i (by omega), dgt_pre (c := s + 1) (s := s) (v := v) (by omega) (by rw [show s + 1 - s = 1 by omega, Nat.pow_one]; omega) (by omega)]
        · refine go h5 _ (b172 _ (by rw [if_neg e])) fw5 ws5 g5 (seas4 h5 x3 ⟨S5, s5⟩) (fun r hr => ?_)
          rw [ed, Nat.pow_zero, Nat.div_one] at hr
          subst hr
          rintro ⟨k, k1, k2⟩
          rw [← hl] at k2
          have j5T : j5 = n - 2 * s := by
            rcases x5 with q | q
            · exact q
            · exact absurd q e
          by_cases kk : k < 2 * s
          · exact shs k kk k2
          · by_cases kk2 : k = 2 * s + j5
            · subst kk2; exact e k2
            · have := x6 (k - 2 * s) (by omega)
              rw [show 2 * s + (k - 2 * s) = k by omega] at this
              exact this k2
      · -- more words behind it
        have hl' : s + 1 < c := by omega
        have hT : iI ((2 : Nat) : Int) = (if tb (s + 1 = c) = iI 0 then iI 2 else iI ((n : Int) - 2 * (s : Int))) := by
          rw [if_pos (tb_f hl)]; rfl
        obtain ⟨h5, F5, j5, x1, x2, x3, x4, x5, x6⟩ := C_wt (U := U) hg ha ht hts hD om_rg (k0 := 2 * s) (w := (w : Int)) (fun k hk => wdk_last hw3 hk) (i := s + 1) (by omega) (T := 2) (by omega) rec (iI (c : Int)) (iI (s : Int)) (iI ((n : Int) - 2 * (s : Int))) (tb (s + 1 = c)) (iI (w : Int)) 2 0 h4 _ (by omega) ST4 RU4 ws4 SR4 (fun q hq => absurd hq (by omega))
        have fw5 : fw ws s h h5 := fw_tr fw4 (fw_fr (by omega) x3)
        have ws5 := WSAt_fr ws4 (h' := h5) (fun q q1 q2 => x3 q (by omega))
        have j52 : j5 = 2 := by
          rcases x5 with q | q
          · exact q
          · exact absurd ⟨2 * s + j5, by omega, q⟩ (hsh (s + 1) (by omega) hl' (4 * v + w) hv4)
        subst j52
        have hsm : hd (XW A Q a (wdk (s + 1) (4 * v + w)) (2 * s + 2)) a (w : Int) = XW A Q a (wdk (s + 1) (4 * v + w)) (2 * (s + 1)) := by
          have e1 : XW A Q a (wdk (s + 1) (4 * v + w)) (2 * s + 2) = tickA (hd (XW A Q a (wdk (s + 1) (4 * v + w)) (2 * s + 1)) a (w : Int)) Q := by
            show tickA (hd (XW A Q a (wdk (s + 1) (4 * v + w)) (2 * s + 1)) a (wdk (s + 1) (4 * v + w) (2 * s + 1))) Q = _
            rw [wdk_last hw3 (by omega)]
          rw [show 2 * (s + 1) = 2 * s + 2 by omega, e1]
          exact hd_same (by omega) (good_XW (a := a) hg (by omega) om_rg (2 * s + 1)) _ (by omega)
        rw [hsm] at x2
        have RU5 := RUs_fw hD hRU fw5
        have ST5 : hST h5 tS := by unfold hST; rw [fw5 tS (by omega) (by omega)]; exact hST0
        obtain ⟨S5, s5, -⟩ := id x2
        have sea5 := seas4 h5 x3 ⟨S5, s5⟩
        obtain ⟨res, h6, z1, g6, z2, z3, z4, z5⟩ := hrec hl' (4 * v + w) h5 (upd g1 s (iI (w : Int))) F5 hv4 ST5 RU5 ws5 (fun i hi => by
          by_cases ei : i = s
          · subst ei; rw [pk_us, dgt_last hw3]
          · rw [g5 i (by omega), hpre i (by omega), dgt_pre (c := s + 1) (s := s) (v := v) (by omega) (by rw [show s + 1 - s = 1 by omega, Nat.pow_one]; omega) (by omega)]) x2 (fun j j1 j2 => sea5 j (by omega) j2)
        have fw6 : fw ws s h h6 := fw_tr fw5 (fw_dn z2)
        have sea6 : ∀ j, s < j → j ≤ 4 → ∃ S, SAt h6 (ws + 3 + 30 * j) S := by
          intro j j1 j2
          by_cases e : j = s + 1
          · subst e; exact ⟨S5, SAt_fr s5 (fun q q1 q2 => z2 q (by omega) (by omega))⟩
          · exact z4 j (by omega) j2
        have b172 : ∀ y, (if res = iI 0 then some (.inl (some ws, iI (c : Int), iI (s : Int), iI ((n : Int) - 2 * (s : Int)), tb (s + 1 = c), iI ((w + 1 : Nat) : Int), h6)) else some (.inr (iI 1, h6))) = some y → f_X9_isEatenBy_c47 tS rec (some ws) (iI (c : Int)) (iI (s : Int)) (iI ((n : Int) - 2 * (s : Int))) (tb (s + 1 = c)) (iI (w : Int)) h1 = some y := by
          intro y hy
          rw [e78, e78' 2 hT]
          refine x1 y ?_
          rw [← hy]
          unfold f_X9_isEatenBy_b172 f_X9_isEatenBy_b210
          simp only [iI_lit, iI_add, iI_sub, iI_mul, iI_neg]
          have z1' : rec (some ws) (iI (c : Int)) (iI ((s : Int) + 1)) h5 = some (res, h6) := z1
          rw [if_pos (show tb (s + 1 = c) = iI 0 from tb_f hl), WSck ws5, Option.bind_some, z1', z_b2_some]
          split <;> rfl
        rcases z5 with ⟨rfl, r, y1, y2, y3, y4⟩ | ⟨rfl, y1, y2⟩
        · exact fnd h6 g6 r (b172 _ (by rw [if_neg iI_01])) fw6 z3 sea6 y1 y2 y3 y4
        · exact go h6 g6 (b172 _ (by rw [if_pos rfl])) fw6 z3 (fun i hi => by rw [y2 i (by omega)]; exact g5 i hi) sea6 y1
    by_cases hl : s + 1 = c
    · by_cases hs0 : s = 0
      · refine try78 ?_
        unfold f_X9_isEatenBy_c47
        simp only [iI_lit, iI_add, iI_sub, iI_mul, iI_neg]
        rw [if_neg (nLt (by omega)), if_neg (show ¬ tb (s + 1 = c) = iI 0 by rw [tb_t hl]; exact iI_01), if_pos (cLe (by omega))]
      · have gs : g1 (s - 1) = iI ((v % 4 : Nat) : Int) := by
          rw [p1 (s - 1) (by omega), hpre (s - 1) (by omega)]
          unfold dgt
          rw [show s - 1 - (s - 1) = 0 by omega, Nat.pow_zero, Nat.div_one]
        have pre : f_X9_isEatenBy_c47 tS rec (some ws) (iI (c : Int)) (iI (s : Int)) (iI ((n : Int) - 2 * (s : Int))) (tb (s + 1 = c)) (iI (w : Int)) h1 = if (w : Int) = ((v % 4 : Nat) : Int) then f_X9_isEatenBy_b210 tS rec (some ws) (iI (c : Int)) (iI (s : Int)) (iI ((n : Int) - 2 * (s : Int))) (tb (s + 1 = c)) (iI (w : Int)) h1 else f_X9_isEatenBy_b78 tS rec (some ws) (iI (c : Int)) (iI (s : Int)) (iI ((n : Int) - 2 * (s : Int))) (tb (s + 1 = c)) (iI (w : Int)) h1 := by
          unfold f_X9_isEatenBy_c47
          simp only [iI_lit, iI_add, iI_sub, iI_mul, iI_neg]
          rw [if_neg (nLt (by omega)), if_neg (show ¬ tb (s + 1 = c) = iI 0 by rw [tb_t hl]; exact iI_01), if_neg (nLe (by omega)), WS0 ws1, Option.bind_some, z_aI_k ws1.2.1 (Or.inl rfl) (by omega) (by omega) (by decide), Option.bind_some, show ((s : Int) - 1).toNat = s - 1 by omega, gs, iteEq (by omega)]
        by_cases e : (w : Int) = ((v % 4 : Nat) : Int)
        · rw [if_pos e] at pre
          refine go h1 g1 (by rw [pre, f_X9_isEatenBy_b210, iI_lit, iI_add]; rfl) f1 ws1 p1 se1 (fun r hr hE => ?_)
          rw [show c - (s + 1) = 0 by omega, Nat.pow_zero, Nat.div_one] at hr
          subst hr
          have e4 : (4 * v + w) / 4 = v := by omega
          have := EV_same (by omega) (show (4 * v + w) % 4 = (4 * v + w) / 4 % 4 by rw [e4]; omega) hE
          rw [show c - 1 = s by omega, e4] at this
          exact hsh s (by omega) hs v hv this
        · rw [if_neg e] at pre
          exact try78 pre
    · refine try78 ?_
      unfold f_X9_isEatenBy_c47
      simp only [iI_lit, iI_add, iI_sub, iI_mul, iI_neg]
      rw [if_neg (nLt (by omega)), if_pos (show tb (s + 1 = c) = iI 0 from tb_f hl)]
theorem C_fewE (hg : good A Q A) (ha : 0 ≤ a ∧ a < A 64) (ht : 0 ≤ t ∧ t < A 65) (h2 : A (490 + 4 * t) ≠ 2) (hn : 1 ≤ n ∧ n ≤ 20) (hts : tS < ws ∨ ws + 153 ≤ tS) (hD : ∀ q, D q → q < ws ∨ ws + 153 ≤ q) {c s v : Nat} (hc : 1 ≤ c ∧ c ≤ 4) (hs : s < c) (hv : v < 4 ^ s) (hsh : ∀ c', 1 ≤ c' → c' < c → ∀ r', r' < 4 ^ c' → ¬ EV A Q a t n c' r') {f : Nat} (hrec : s + 1 < c → wRec ws tS D A Q U a t n c (s + 1) (f_X9_isEatenBy tS f)) {h : zH} {g : Nat → Int32} {F : Nat → Nat → Int32} (hST0 : hST h tS) (hRU : RUs D h A U Q) (hWS : WSAt h ws (iI a) (iI t) (iI (n : Int)) g) (hpre : ∀ i, i < s → g i = iI ((dgt s v i : Nat) : Int)) (hS : SR h (ws + 3 + 30 * s) (XW A Q a (wdk s v) (2 * s)) U F) (hsea : ∀ j, s < j → j ≤ 4 → ∃ S, SAt h (ws + 3 + 30 * j) S) :
    ∃ res h', f_X9_isEatenBy tS (f + 1) (some ws) (iI (c : Int)) (iI (s : Int)) h = some (res, h') ∧ wEnd ws A Q a t n c s v h h' res g := by
  have none_ : n ≤ 2 * (c - 1) → ∀ r, r / 4 ^ (c - s) = v → ¬ EV A Q a t n c r := by
    intro hn2 r hr hE
    have hc2 : 2 ≤ c := by omega
    have hlt := lt_pow (by omega) hv hr
    rw [show c = (c - 1) + 1 by omega, Nat.pow_succ] at hlt
    exact hsh (c - 1) (by omega) (by omega) (r / 4) (by omega) (EV_short hc2 hn2 hE)
  have pre : f_X9_isEatenBy tS (f + 1) (some ws) (iI (c : Int)) (iI (s : Int)) h = f_X9_isEatenBy_b21 tS (f_X9_isEatenBy tS f) (some ws) (iI (c : Int)) (iI (s : Int)) (iI ((n : Int) - 2 * (s : Int))) (tb (s + 1 = c)) h := by
    show f_X9_isEatenBy_r tS (f_X9_isEatenBy tS f) (some ws) (iI (c : Int)) (iI (s : Int)) h = _
    unfold f_X9_isEatenBy_r
    simp only [iI_lit, iI_add, iI_sub, iI_mul, iI_neg]
    rw [WS4 hWS, Option.bind_some, iI_sub, iteEq (by omega)]
    by_cases q : s + 1 = c
    · rw [if_pos (by omega), tb_t q]
    · rw [if_neg (by omega), tb_f q]
  have zero : n ≤ 2 * (c - 1) → f_X9_isEatenBy_b21 tS (f_X9_isEatenBy tS f) (some ws) (iI (c : Int)) (iI (s : Int)) (iI ((n : Int) - 2 * (s : Int))) (tb (s + 1 = c)) h = some (iI 0, h) → ∃ res h', f_X9_isEatenBy tS (f + 1) (some ws) (iI (c : Int)) (iI (s : Int)) h = some (res, h') ∧ wEnd ws A Q a t n c s v h h' res g := fun q1 q2 => ⟨iI 0, h, by rw [pre]; exact q2, g, fw_rf _ _ _, hWS, hsea, Or.inr ⟨rfl, none_ q1, fun _ _ => rfl⟩⟩
  have run : 2 * s < n ∧ (s + 1 < c → 2 * (s + 1) < n) → f_X9_isEatenBy_b21 tS (f_X9_isEatenBy tS f) (some ws) (iI (c : Int)) (iI (s : Int)) (iI ((n : Int) - 2 * (s : Int))) (tb (s + 1 = c)) h = f_X9_isEatenBy_b47 tS (f_X9_isEatenBy tS f) (some ws) (iI (c : Int)) (iI (s : Int)) (iI ((n : Int) - 2 * (s : Int))) (tb (s + 1 = c)) (iI ((0 : Nat) : Int)) h → ∃ res h', f_X9_isEatenBy tS (f + 1) (some ws) (iI (c : Int)) (iI (s : Int)) h = some (res, h') ∧ wEnd ws A Q a t n c s v h h' res g := by
    intro q1 q2
    obtain ⟨res, h', y1, y2⟩ := C_fewL hg ha ht h2 hn hts hD hc hs hv hsh hrec q1 hST0 hRU hpre hS 4 0 h g (by omega) (fw_rf _ _ _) hWS (fun _ _ => rfl) hsea (fun w' q => absurd q (by omega))
    exact ⟨res, h', by rw [pre, q2]; exact y1, y2⟩
  by_cases q1 : n ≤ 2 * s
  · refine zero (by omega) ?_
    unfold f_X9_isEatenBy_b21
    simp only [iI_lit, iI_add, iI_sub, iI_mul, iI_neg]
    rw [if_neg (nLe (by omega)), if_pos (cLe (by omega))]
  · by_cases q2 : s + 1 = c
    · refine run ⟨by omega, fun e => absurd e (by omega)⟩ ?_
      unfold f_X9_isEatenBy_b21 f_X9_isEatenBy_b44
      simp only [iI_lit, iI_add, iI_sub, iI_mul, iI_neg]
      rw [if_neg (nLe (by omega)), if_neg (nLe (by omega)), if_neg (show ¬ tb (s + 1 = c) = iI 0 by rw [tb_t q2]; exact iI_01)]
      rfl
    · by_cases q3 : 2 * (s + 1) < n
      · refine run ⟨by omega, fun _ => q3⟩ ?_
        unfold f_X9_isEatenBy_b21 f_X9_isEatenBy_b44
        simp only [iI_lit, iI_add, iI_sub, iI_mul, iI_neg]
        rw [if_neg (nLe (by omega)), if_neg (nLe (by omega)), if_pos (show tb (s + 1 = c) = iI 0 from tb_f q2), if_pos (cLt (by omega))]
        rfl
      · refine zero (by omega) ?_
        unfold f_X9_isEatenBy_b21 f_X9_isEatenBy_b44
        simp only [iI_lit, iI_add, iI_sub, iI_mul, iI_neg]
        rw [if_neg (nLe (by omega)), if_neg (nLe (by omega)), if_pos (show tb (s + 1 = c) = iI 0 from tb_f q2), if_neg (nLt (by omega))]
theorem C_few1 (hg : good A Q A) (ha : 0 ≤ a ∧ a < A 64) (ht : 0 ≤ t ∧ t < A 65) (h2 : A (490 + 4 * t) ≠ 2) (hn : 1 ≤ n ∧ n ≤ 20) (hts : tS < ws ∨ ws + 153 ≤ tS) (hD : ∀ q, D q → q < ws ∨ ws + 153 ≤ q) {c : Nat} (hc : 1 ≤ c ∧ c ≤ 4) (hsh : ∀ c', 1 ≤ c' → c' < c → ∀ r', r' < 4 ^ c' → ¬ EV A Q a t n c' r') : ∀ (e f s : Nat), s + e + 1 = c → e < f → wRec ws tS D A Q U a t n c s (f_X9_isEatenBy tS f) := by
  intro e
  induction e with
  | zero =>
    intro f s hs hf
    match f, hf with
    | f + 1, hf =>
      intro v h g F hv hST0 hRU hWS hpre hS hsea
      exact C_fewE hg ha ht h2 hn hts hD hc (by omega) hv hsh (fun q => absurd q (by omega)) hST0 hRU hWS hpre hS hsea
  | succ e ih =>
    intro f s hs hf
    match f, hf with
    | f + 1, hf =>
      intro v h g F hv hST0 hRU hWS hpre hS hsea
      exact C_fewE hg ha ht h2 hn hts hD hc (by omega) hv hsh (fun _ => ih f (s + 1) (by omega) (by omega)) hST0 hRU hWS hpre hS hsea
end CX2
