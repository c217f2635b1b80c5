section RRg
variable {m : Nat} {A : Int → Int} {a : Int}
/-- the reference's search: the loop over the forms -/
theorem R_rchL (hW : WF A) (ha : 0 ≤ a ∧ a < A 64) (hcut : A (71 + 40 * a) < 0) {h0 : zH} {Y0 : Nat → Nat → Int32} (hown : ∀ p : Nat, p < 7 → Y0 17 p = iI (A (75 + 40 * a + (p : Int)))) : ∀ (d k f1 : Nat) (h : zH) (Y : Nat → Nat → Int32), k + d = 4096 → MR h m (lyd A a f1) Y → RB Y (bfa A a k) → kz Y0 Y → fr m 19 h0 h →
    ∃ h' Y', f_X11_layReach_b90 (some m) (iI a) (iI (A (70 + 40 * a))) (iI (k : Int)) h = some h' ∧ MR h' m A Y' ∧ RB Y' (bfa A a 4096) ∧ kz Y0 Y' ∧ fr m 19 h0 h' := by
  have hn := hW.n
  have pc := hW.pc ha
  have hN : 2 ≤ (A (70 + 40 * a)).toNat ∧ (A (70 + 40 * a)).toNat ≤ 7 := by omega
  have V0 := VF0 hW ha hcut
  -- the end
  have fin : ∀ (k f1 : Nat) (h : zH) (Y : Nat → Nat → Int32), k ≤ 4096 → (bfa A a k).2.2.1 ≤ k → MR h m (lyd A a f1) Y → RB Y (bfa A a k) → kz Y0 Y → fr m 19 h0 h → ∃ h' Y', f_X11_layReach_b90 (some m) (iI a) (iI (A (70 + 40 * a))) (iI (k : Int)) h = some h' ∧ MR h' m A Y' ∧ RB Y' (bfa A a 4096) ∧ kz Y0 Y' ∧ fr m 19 h0 h' := by
    intro k f1 h Y hk hc hM hB hK hF
    have hb := bI_cn hN (bf_I hN V0 k)
    have e4 : bfa A a 4096 = bfa A a k := bf_fin hN V0 hc hk
    have hcn : (bfa A a k).2.2.1 ≤ 4096 := by have := hb.1; have := hb.2; exact Nat.le_trans hc hk
    have ho : ∀ p : Nat, p < 7 → Y 17 p = iI (A (75 + 40 * a + (p : Int))) := fun p hp => by rw [hK.1 17 (by omega) (by omega) (by omega) (by omega) (by omega)]; exact hown p hp
    have key := z_forI (body := fun s : (Option Nat) × Int32 × Int32 × zH => f_X11_layReach_c328 s.1 s.2.1 s.2.2.1 s.2.2.2) (Q := fun r => go1 m h Y A r)
      (fun i s => ∃ h', s = (some m, iI a, iI (i : Int), h') ∧ go1 m h Y (fun j => if 75 + 40 * a ≤ j ∧ j < 75 + 40 * a + (i : Int) then A j else lyd A a f1 j) h') 7 ?_ ?_ 7 0 (some m, iI a, iI 0, h) (by omega) ⟨h, rfl, Y, MR_cg hM (fun j hj => by rw [if_neg (by omega)]), o1_rf Y, fr_rf _ _ _⟩
    · obtain ⟨h', k1, Y', k2, k3, k4⟩ := key
      refine ⟨h', Y', ?_, k2, by rw [e4]; exact RB_o1 hB k3, kz_tr hK (kz_o1 k3), fr_tr hF k4⟩
      have k1' : f_X11_layReach_b328 (some m) (iI a) (iI 0) h = some h' := k1
      unfold f_X11_layReach_b90
      refine z_it_done ?_
      show f_X11_layReach_c90 (some m) (iI a) (iI (A (70 + 40 * a))) (iI (k : Int)) h = _
      unfold f_X11_layReach_c90
      simp only [iI_lit, iI_add, iI_sub, iI_mul, iI_neg]
      rw [Mi19 hM.1, Option.bind_some, hB.2.2.2, if_pos (cLe (by omega)), k1']
      rfl
    · rintro i s hi ⟨h1, rfl, Y1, k1, k2, k3⟩
      have e17 : Y1 17 i = iI (A (75 + 40 * a + (i : Int))) := by rw [k2 17 (by omega)]; exact ho i hi
      have g := go1_ms k1 (e := 75 + 40 * a + (i : Int)) (v := A (75 + 40 * a + (i : Int))) (by omega) (by omega)
      have mx : uI (fun j => if 75 + 40 * a ≤ j ∧ j < 75 + 40 * a + (i : Int) then A j else lyd A a f1 j) (75 + 40 * a + (i : Int)) (A (75 + 40 * a + (i : Int))) = fun j => if 75 + 40 * a ≤ j ∧ j < 75 + 40 * a + ((i + 1 : Nat) : Int) then A j else lyd A a f1 j := by
        funext j
        by_cases e : j = 75 + 40 * a + (i : Int)
        · subst e; rw [uI_s, if_pos (by omega)]
        · rw [uI_n _ _ e]
          by_cases q : 75 + 40 * a ≤ j ∧ j < 75 + 40 * a + (i : Int)
          · rw [if_pos q, if_pos (by omega)]
          · rw [if_neg q, if_neg (by omega)]
      rw [mx] at g
      refine Or.inl ⟨_, ?_, _, rfl, go1_tr ⟨k1, k2, k3⟩ g⟩
      show f_X11_layReach_c328 (some m) (iI a) (iI (i : Int)) h1 = _
      unfold f_X11_layReach_c328
      simp only [iI_lit, iI_add, iI_sub, iI_mul, iI_neg]
      rw [if_neg (nLe (by omega)), Mg0 k1.1, Option.bind_some, R_of, z_b2_some, Mg20 k1.1, Option.bind_some, Ma17 k1.1 (by omega) (by omega), Option.bind_some, show (i : Int).toNat = i by omega, e17, iI_add, show 70 + 40 * a + 5 + (i : Int) = 75 + 40 * a + (i : Int) by omega, M_set k1 (by omega) (by omega), Option.bind_some]
      rfl
    · rintro s ⟨h1, rfl, Y1, k1, k2, k3⟩
      refine ⟨h1, ?_, Y1, MR_cg k1 (fun j hj => ?_), k2, k3⟩
      · show f_X11_layReach_c328 (some m) (iI a) (iI ((7 : Nat) : Int)) h1 = _
        unfold f_X11_layReach_c328
        simp only [iI_lit, iI_add, iI_sub, iI_mul, iI_neg]
        rw [if_pos (cLe (by omega))]; rfl
      · by_cases q : 75 + 40 * a ≤ (j : Int) ∧ (j : Int) < 75 + 40 * a + ((7 : Nat) : Int)
        · rw [if_pos q]
        · rw [if_neg q, lyd_n (by omega)]
  intro d
  induction d with
  | zero =>
    intro k f1 h Y hk hM hB hK hF
    have hb := bI_cn hN (bf_I hN V0 k)
    exact fin k f1 h Y (by omega) (by have h1 : (bfa A a k).2.2.1 ≤ 4 ^ ((A (70 + 40 * a)).toNat - 1) := hb.1; omega) hM hB hK hF
  | succ d ih =>
    intro k f1 h Y hk hM hB hK hF
    by_cases q : k < (bfa A a k).2.2.1
    · have hI : bIa A a (bfa A a k) := bf_I hN V0 k
      have hcn : (bfa A a k).2.2.1 ≤ 4096 := by have := bI_cn hN hI; omega
      obtain ⟨p1, p2, p3, p4, p5, p6, p7⟩ := prB_I hN hI q
      have en : bfa A a (k + 1) = prB (wA A) (A (75 + 40 * a)) (A (70 + 40 * a)).toNat (fmA A a) (bfa A a k) k := by
        show (if k < (bfa A a k).2.2.1 then _ else _) = _
        rw [if_pos q]
      generalize hB0 : bfa A a k = B at hI hB p1 p2 p3 p4 p5 p6 p7 q en hcn
      have hf : B.2.1 k < 4096 := Nat.lt_of_lt_of_le p1.1 (pow_le6 (by omega))
      have y15 := hB.2.1 k q
      have y14 := hB.1 (B.2.1 k) hf
      generalize hff : B.2.1 k = f at p1 p2 p3 p4 p5 p6 hf y15 y14
      have hvv := hI.2.1 f
      have e2 : B.1 f ≤ 4096 := by omega
      obtain ⟨h1, u1, Y1, u2, u3, u4⟩ := R_lay hW ha hM p1
      have hB1 := RB_o1 hB u3
      have vt := (p1.2.1 ((A (70 + 40 * a)).toNat - 1) (by omega)).1
      have et : lyd A a f (75 + 40 * a + (A (70 + 40 * a) - 1)) = pth (A (75 + 40 * a)) f ((A (70 + 40 * a)).toNat - 1) := by rw [lyd_c (by omega) (by omega)]; congr 1; omega
      have y16 := hB1.2.2.1 (pth (A (75 + 40 * a)) f ((A (70 + 40 * a)).toNat - 1)).toNat (by omega)
      have ht := hI.2.2.2.2 (pth (A (75 + 40 * a)) f ((A (70 + 40 * a)).toNat - 1)).toNat
      -- the tip
      have tip : ∃ h2 Y2 x, z_sI h1 (some (m + 16)) (iI (pth (A (75 + 40 * a)) f ((A (70 + 40 * a)).toNat - 1))) x = some h2 ∧ x = (if 0 ≤ B.2.2.2 (pth (A (75 + 40 * a)) f ((A (70 + 40 * a)).toNat - 1)).toNat then iI (B.2.2.2 (pth (A (75 + 40 * a)) f ((A (70 + 40 * a)).toNat - 1)).toNat) else iI (B.1 f)) ∧ MR h2 m (lyd A a f) Y2 ∧ RB Y2 (tipB B (pth (A (75 + 40 * a)) f ((A (70 + 40 * a)).toNat - 1)).toNat (B.1 f)) ∧ kz Y1 Y2 ∧ fr m 19 h1 h2 := by
        refine ⟨_, _, _, Ms16 u2.1 _ (by omega) (by omega), rfl, MR_up u2 (k := 16) (by omega) (by omega) _, ?_, ⟨fun j h0 h1 h2 h3 h4 => updR_n _ _ h4, fun j _ => by rw [updR_n _ _ (by omega)]⟩, fr_up (by omega) (by omega)⟩
        unfold tipB
        by_cases qt : B.2.2.2 (pth (A (75 + 40 * a)) f ((A (70 + 40 * a)).toNat - 1)).toNat < 0
        · rw [if_pos qt, if_neg (by omega)]
          refine ⟨fun x hx => by rw [updR_n _ _ (by omega)]; exact hB1.1 x hx, fun i hi => by rw [updR_n _ _ (by omega)]; exact hB1.2.1 i hi, fun c hc => ?_, by rw [updR_n _ _ (by omega)]; exact hB1.2.2.2⟩
          rw [updR_s]
          simp only
          by_cases e : c = (pth (A (75 + 40 * a)) f ((A (70 + 40 * a)).toNat - 1)).toNat
          · subst e; rw [pk_us, updR_s]
          · rw [pk_un e, updR_n _ _ e]; exact hB1.2.2.1 c hc
        · rw [if_neg qt, if_pos (by omega)]
          refine ⟨fun x hx => by rw [updR_n _ _ (by omega)]; exact hB1.1 x hx, fun i hi => by rw [updR_n _ _ (by omega)]; exact hB1.2.1 i hi, fun c hc => ?_, by rw [updR_n _ _ (by omega)]; exact hB1.2.2.2⟩
          rw [updR_s]
          by_cases e : c = (pth (A (75 + 40 * a)) f ((A (70 + 40 * a)).toNat - 1)).toNat
          · subst e; rw [pk_us]
          · rw [pk_un e]; exact hB1.2.2.1 c hc
      obtain ⟨h2, Y2, x, w1, w2, w3, w4, w5, w6⟩ := tip
      have ko : kz Y0 Y2 := kz_tr hK (kz_tr (kz_o1 u3) w5)
      have fo : fr m 19 h0 h2 := fr_tr hF (fr_tr u4 w6)
      obtain ⟨h3, Y3, x1, x2, x3, x4, x5⟩ := R_flips hW ha hcut p1 (v := B.1 f) (k : Int) p3 (by omega) (h0 := h0) (Y0 := Y0) ((A (70 + 40 * a)).toNat - 2) 0 h2 Y2 (by omega) w3 w4 ko fo
      have step : f_X11_layReach_c90 (some m) (iI a) (iI (A (70 + 40 * a))) (iI (k : Int)) h = some (.inl (some m, iI a, iI (A (70 + 40 * a)), iI ((k + 1 : Nat) : Int), h3)) := by
        have x1' : f_X11_layReach_b164 (some m) (iI a) (iI (A (70 + 40 * a))) (iI (k : Int)) (iI (B.1 f)) (iI (pth (A (75 + 40 * a)) f ((A (70 + 40 * a)).toNat - 1))) (iI 1) h2 = some (.inl (some m, iI a, iI (A (70 + 40 * a)), iI ((k : Int) + 1), h3)) := x1
        unfold f_X11_layReach_c90
        simp only [iI_lit, iI_add, iI_sub, iI_mul, iI_neg]
        rw [Mi19 hM.1, Option.bind_some, hB.2.2.2, if_neg (nLe (by omega)), Mg17 hM.1, Option.bind_some, Ma15 hM.1 (by omega) (by omega), Option.bind_some, show (k : Int).toNat = k by omega, y15, Mg16 hM.1, Option.bind_some, Ma14 hM.1 (by omega) (by omega), Option.bind_some, show (f : Int).toNat = f by omega, y14, Mck hM.1, Option.bind_some, u1, Option.bind_some, Mck u2.1, Option.bind_some, R_cell u2 (by omega) (by omega), z_b2_some, et, Mg18 u2.1, Option.bind_some, Option.bind_some, Ma16 u2.1 (by omega) (by omega), Option.bind_some, y16, iteLe (by omega)]
        by_cases qt : 0 ≤ B.2.2.2 (pth (A (75 + 40 * a)) f ((A (70 + 40 * a)).toNat - 1)).toNat
        · rw [if_pos qt] at w2
          rw [if_pos qt, Option.bind_some, Ma16 u2.1 (by omega) (by omega), Option.bind_some, y16, f_X11_layReach_b160, ← w2, w1, Option.bind_some]
          simp only [iI_lit, iI_add, iI_sub, iI_mul, iI_neg]
          rw [x1']; rfl
        · rw [if_neg qt] at w2
          rw [if_neg qt, f_X11_layReach_b160]
          simp only [iI_lit, iI_add, iI_sub, iI_mul, iI_neg]
          rw [← w2, w1, Option.bind_some, w2, x1']; rfl
      have x3' : RB Y3 (bfa A a (k + 1)) := by rw [en]; unfold prB; rw [hff]; exact x3
      obtain ⟨h', Y', y1, y2⟩ := ih (k + 1) f h3 Y3 (by omega) x2 x3' x4 x5
      refine ⟨h', Y', ?_, y2⟩
      rw [← y1]
      unfold f_X11_layReach_b90
      exact z_it_next (s := (some m, iI a, iI (A (70 + 40 * a)), iI (k : Int), h)) step
    · exact fin k f1 h Y (by omega) (by omega) hM hB hK hF
/-- the whole search: what it leaves -/
def kv (Y Y' : Nat → Nat → Int32) : Prop := (∀ j, j ≠ 0 → j ≠ 1 → j ≠ 14 → j ≠ 15 → j ≠ 16 → j ≠ 17 → Y' j = Y j) ∧ ∀ j, j ≠ 19 → Y' 0 j = Y 0 j
theorem R_fill14 {h : zH} {Y : Nat → Nat → Int32} (hM : MR h m A Y) {x2 : Int32} (P : zH → Prop) (fin : ∀ h1 Y1, MR h1 m A Y1 → (∀ j, j ≠ 14 → Y1 j = Y j) → (∀ f, f < 4096 → Y1 14 f = iI (-4)) → fr m 19 h h1 → ∃ h', f_X11_layReach_b31 (some m) (iI a) x2 (iI 0) h1 = some h' ∧ P h') : ∃ h', f_X11_layReach_b8 (some m) (iI a) x2 (iI 0) h = some h' ∧ P h' := by
  have key := z_forI (body := fun s : (Option Nat) × Int32 × Int32 × Int32 × zH => f_X11_layReach_c8 s.1 s.2.1 s.2.2.1 s.2.2.2.1 s.2.2.2.2) (Q := P)
    (fun i s => ∃ h1 Y1, s = (some m, iI a, x2, iI (i : Int), h1) ∧ MR h1 m A Y1 ∧ (∀ j, j ≠ 14 → Y1 j = Y j) ∧ (∀ f, f < i → Y1 14 f = iI (-4)) ∧ fr m 19 h h1) 4096 ?_ ?_ 4096 0 (some m, iI a, x2, iI 0, h) (by omega) ⟨h, Y, rfl, hM, fun _ _ => rfl, fun f hf => absurd hf (by omega), fr_rf _ _ _⟩
  · exact key
  · rintro i s hi ⟨h1, Y1, rfl, k1, k2, k3, k4⟩
    refine Or.inl ⟨_, ?_, _, _, rfl, MR_up k1 (k := 14) (by omega) (by omega) (upd (Y1 14) i (iI (-4))), fun j hj => by rw [updR_n _ _ hj]; exact k2 j hj, fun f hf => ?_, fr_tr k4 (fr_up (by omega) (by omega))⟩
    · show f_X11_layReach_c8 (some m) (iI a) x2 (iI (i : Int)) h1 = _
      unfold f_X11_layReach_c8
      simp only [iI_lit, iI_add, iI_sub, iI_mul, iI_neg]
      rw [if_neg (nLe (by omega)), Mg16 k1.1, Option.bind_some, Ms14 k1.1 _ (by omega) (by omega), Option.bind_some, show (i : Int).toNat = i by omega]
      rfl
    · rw [updR_s]
      by_cases e : f = i
      · subst e; rw [pk_us]
      · rw [pk_un e]; exact k3 f (by omega)
  · rintro s ⟨h1, Y1, rfl, k1, k2, k3, k4⟩
    obtain ⟨h', y1, y2⟩ := fin h1 Y1 k1 k2 k3 k4
    refine ⟨h', ?_, y2⟩
    show f_X11_layReach_c8 (some m) (iI a) x2 (iI ((4096 : Nat) : Int)) h1 = _
    unfold f_X11_layReach_c8
    simp only [iI_lit, iI_add, iI_sub, iI_mul, iI_neg]
    rw [if_pos (cLe (by omega)), y1]; rfl
theorem R_fill16 {h : zH} {Y : Nat → Nat → Int32} (hM : MR h m A Y) {x2 : Int32} (P : zH → Prop) (fin : ∀ h1 Y1, MR h1 m A Y1 → (∀ j, j ≠ 16 → Y1 j = Y j) → (∀ f, f < 64 → Y1 16 f = iI (-4)) → fr m 19 h h1 → ∃ h', f_X11_layReach_b53 (some m) (iI a) x2 (iI 0) h1 = some h' ∧ P h') : ∃ h', f_X11_layReach_b31 (some m) (iI a) x2 (iI 0) h = some h' ∧ P h' := by
  have key := z_forI (body := fun s : (Option Nat) × Int32 × Int32 × Int32 × zH => f_X11_layReach_c31 s.1 s.2.1 s.2.2.1 s.2.2.2.1 s.2.2.2.2) (Q := P)
    (fun i s => ∃ h1 Y1, s = (some m, iI a, x2, iI (i : Int), h1) ∧ MR h1 m A Y1 ∧ (∀ j, j ≠ 16 → Y1 j = Y j) ∧ (∀ f, f < i → Y1 16 f = iI (-4)) ∧ fr m 19 h h1) 64 ?_ ?_ 64 0 (some m, iI a, x2, iI 0, h) (by omega) ⟨h, Y, rfl, hM, fun _ _ => rfl, fun f hf => absurd hf (by omega), fr_rf _ _ _⟩
  · exact key
  · rintro i s hi ⟨h1, Y1, rfl, k1, k2, k3, k4⟩
    refine Or.inl ⟨_, ?_, _, _, rfl, MR_up k1 (k := 16) (by omega) (by omega) (upd (Y1 16) i (iI (-4))), fun j hj => by rw [updR_n _ _ hj]; exact k2 j hj, fun f hf => ?_, fr_tr k4 (fr_up (by omega) (by omega))⟩
    · show f_X11_layReach_c31 (some m) (iI a) x2 (iI (i : Int)) h1 = _
      unfold f_X11_layReach_c31
      simp only [iI_lit, iI_add, iI_sub, iI_mul, iI_neg]
      rw [if_neg (nLe (by omega)), Mg18 k1.1, Option.bind_some, Ms16 k1.1 _ (by omega) (by omega), Option.bind_some, show (i : Int).toNat = i by omega]
      rfl
    · rw [updR_s]
      by_cases e : f = i
      · subst e; rw [pk_us]
      · rw [pk_un e]; exact k3 f (by omega)
  · rintro s ⟨h1, Y1, rfl, k1, k2, k3, k4⟩
    obtain ⟨h', y1, y2⟩ := fin h1 Y1 k1 k2 k3 k4
    refine ⟨h', ?_, y2⟩
    show f_X11_layReach_c31 (some m) (iI a) x2 (iI ((64 : Nat) : Int)) h1 = _
    unfold f_X11_layReach_c31
    simp only [iI_lit, iI_add, iI_sub, iI_mul, iI_neg]
    rw [if_pos (cLe (by omega)), y1]; rfl
theorem R_layReach (hW : WF A) (ha : 0 ≤ a ∧ a < A 64) (hcut : A (71 + 40 * a) < 0) {h : zH} {Y : Nat → Nat → Int32} (hM : MR h m A Y) : ∃ h' Y', f_X11_layReach (some m) (iI a) h = some h' ∧ MR h' m A Y' ∧ RB Y' (bfa A a 4096) ∧ kv Y Y' ∧ fr m 19 h h' := by
  have hn := hW.n
  have pc := hW.pc ha
  have hN : 2 ≤ (A (70 + 40 * a)).toNat ∧ (A (70 + 40 * a)).toNat ≤ 7 := by omega
  have V0 := VF0 hW ha hcut
  have goal : ∃ h', f_X11_layReach_b8 (some m) (iI a) (iI (A (70 + 40 * a))) (iI 0) h = some h' ∧ ∃ Y', MR h' m A Y' ∧ RB Y' (bfa A a 4096) ∧ kv Y Y' ∧ fr m 19 h h' := by
    refine R_fill14 hM _ (fun h1 Y1 a1 a2 a3 a4 => R_fill16 a1 _ (fun h2 Y2 b1 b2 b3 b4 => ?_))
    have key := z_forI (body := fun s : (Option Nat) × Int32 × Int32 × Int32 × zH => f_X11_layReach_c53 s.1 s.2.1 s.2.2.1 s.2.2.2.1 s.2.2.2.2) (Q := fun h' => ∃ Y', MR h' m A Y' ∧ RB Y' (bfa A a 4096) ∧ kv Y Y' ∧ fr m 19 h h')
      (fun i s => ∃ h3 Y3, s = (some m, iI a, iI (A (70 + 40 * a)), iI (i : Int), h3) ∧ MR h3 m A Y3 ∧ (∀ j, j ≠ 17 → Y3 j = Y2 j) ∧ (∀ p : Nat, p < i → Y3 17 p = iI (A (75 + 40 * a + (p : Int)))) ∧ fr m 19 h2 h3) 7 ?_ ?_ 7 0 (some m, iI a, iI (A (70 + 40 * a)), iI 0, h2) (by omega) ⟨h2, Y2, rfl, b1, fun _ _ => rfl, fun f hf => absurd hf (by omega), fr_rf _ _ _⟩
    · exact key
    · rintro i s hi ⟨h3, Y3, rfl, k1, k2, k3, k4⟩
      refine Or.inl ⟨_, ?_, _, _, rfl, MR_up k1 (k := 17) (by omega) (by omega) (upd (Y3 17) i (iI (A (75 + 40 * a + (i : Int))))), fun j hj => by rw [updR_n _ _ hj]; exact k2 j hj, fun f hf => ?_, fr_tr k4 (fr_up (by omega) (by omega))⟩
      · show f_X11_layReach_c53 (some m) (iI a) (iI (A (70 + 40 * a))) (iI (i : Int)) h3 = _
        unfold f_X11_layReach_c53
        simp only [iI_lit, iI_add, iI_sub, iI_mul, iI_neg]
        rw [if_neg (nLe (by omega)), Mg20 k1.1, Option.bind_some, Mck k1.1, Option.bind_some, R_cell k1 (by omega) (by omega), z_b2_some, Ms17 k1.1 _ (by omega) (by omega), Option.bind_some, show (i : Int).toNat = i by omega]
        rfl
      · rw [updR_s]
        by_cases e : f = i
        · subst e; rw [pk_us]
        · rw [pk_un e]; exact k3 f (by omega)
    · rintro s ⟨h3, Y3, rfl, k1, k2, k3, k4⟩
      have e14 : Y3 14 = Y1 14 := by rw [k2 14 (by omega), b2 14 (by omega)]
      have e16 : Y3 16 = Y2 16 := k2 16 (by omega)
      -- none is reached yet
      have M4 := MR_up k1 (k := 0) (by omega) (by omega) (upd (Y3 0) 19 (iI 0))
      have wp : z_pF h3 11 19 (some m) (tI (iI 0)) = some (z_up h3 (m + 0) (mL m 0 (upd (Y3 0) 19 (iI 0)))) := Mp19 k1.1 _
      have RB0 : RB (updR Y3 0 (upd (Y3 0) 19 (iI 0))) B0 := ⟨fun f hf => by rw [updR_n _ _ (by omega), e14]; exact a3 f hf, fun i hi => absurd hi (by simp [B0]), fun c hc => by rw [updR_n _ _ (by omega), e16]; exact b3 c hc, by rw [updR_s, pk_us]; rfl⟩
      obtain ⟨h5, Y5, u1, u2, u3, u4, u5⟩ := R_come M4 (a := a) (by omega) pc (fun p q1 q2 => hW.ce ⟨ha, q1, q2⟩) RB0 (fun f => Or.inl rfl) (by simp [B0]) (f := fmA A a) (Nat.lt_of_lt_of_le V0.1 (pow_le6 (by omega))) (by have := fmO_lyd hW ha V0; rwa [lyd_0 hW ha hcut] at this) (fun _ => by simp [B0]) 0
      have own5 : ∀ p : Nat, p < 7 → Y5 17 p = iI (A (75 + 40 * a + (p : Int))) := fun p hp => by rw [u4.1 17 (by omega) (by omega) (by omega) (by omega) (by omega), updR_n _ _ (by omega)]; exact k3 p hp
      have M5 : MR h5 m (lyd A a (fmA A a)) Y5 := by rw [lyd_0 hW ha hcut]; exact u2
      obtain ⟨h6, Y6, x1, x2, x3, x4, x5⟩ := R_rchL hW ha hcut own5 4096 0 (fmA A a) h5 Y5 (by omega) M5 u3 (kz_rf _) (fr_rf _ _ _)
      refine ⟨h6, ?_, Y6, x2, x3, ⟨fun j h0 h1 h2 h3 h4 h5 => ?_, fun j hj => ?_⟩, ?_⟩
      · show f_X11_layReach_c53 (some m) (iI a) (iI (A (70 + 40 * a))) (iI ((7 : Nat) : Int)) h3 = _
        have x1' : f_X11_layReach_b90 (some m) (iI a) (iI (A (70 + 40 * a))) (iI 0) h5 = some h6 := x1
        unfold f_X11_layReach_c53
        simp only [iI_lit, iI_add, iI_sub, iI_mul, iI_neg]
        rw [if_pos (cLe (by omega)), wp, Option.bind_some, Mck M4.1, Option.bind_some, u1, Option.bind_some, x1']
        rfl
      · rw [x4.1 j h0 h1 h2 h3 h4, u4.1 j h0 h1 h2 h3 h4, updR_n _ _ h0, k2 j h5, b2 j h4, a2 j h2]
      · rw [x4.2 j hj, u4.2 j hj, updR_s, pk_un hj, k2 0 (by omega), b2 0 (by omega), a2 0 (by omega)]
      · exact fr_tr a4 (fr_tr b4 (fr_tr k4 (fr_tr (fr_up (by omega) (by omega)) (fr_tr u5 x5))))
  obtain ⟨h', k1, Y', k2⟩ := goal
  refine ⟨h', Y', ?_, k2⟩
  unfold f_X11_layReach
  simp only [iI_lit, iI_add, iI_sub, iI_mul, iI_neg]
  rw [Mck hM.1, Option.bind_some, R_pieces hM (by omega), z_b2_some]
  exact k1
end RRg
