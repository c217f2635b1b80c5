def StA (b tS L X : Nat) (xs : Nat → Int32) (fc : zH → Nat → Nat → Option ((Nat × Nat) × (Int32 × zH))) (fR : zH → Option (Int32 × zH)) : Prop :=
  ∀ h nx z, Inv b tS L X xs h nx → ∃ r h1 nx1 z1 h2, fc h nx z = some ((nx1, z1), (r, h1)) ∧ (nx ≤ nx1 ∧ nx1 ≤ nx + 126) ∧ (z ≤ z1 ∧ z1 ≤ z + 610) ∧ (h1 b = .inl (100, L, .inl xs) ∧ z_ck h1 11 (some (X + 202)) = some (X + 202)) ∧ fR h1 = some (r, h2) ∧ Inv b tS L X xs h2 nx1
section SU
variable {b tS L X : Nat} {xs : Nat → Int32}
theorem St_walls (hb : b < X) (ht : tS < X) {s : Int} (hs : rgI s) : StN b tS L X xs (f_X10_walls (some X) (iI s)) (f_X11_walls (some (X + 202)) (iI s)) := by
  intro h nx I
  obtain ⟨D, A, U, Q, f, AI, UI, QI, T, N, ln, le, it, Y, ⟨c1, c2, c3, c4, c5, c6, c7, c8, c9, c10, c11, c12, c13⟩, ⟨pW, pT, pM, pH, pL, pC, pD, pN, pI, pJ⟩, rM, rY⟩ := I
  obtain ⟨r, A', sC, sR, w', kx⟩ := K_walls (X := X) (m := X + 202) (U := U) pW pH hs
  obtain ⟨F0, s0⟩ := id c4
  obtain ⟨h1, e1, s1, f1⟩ := sC h _ F0 c3 s0 c8
  have M1 : MR h1 (X + 202) A Y := ⟨MAt_fr rM.1 (fun q g1 g2 => f1 q (by omega)), rM.2⟩
  obtain ⟨h2, e2, Y2, m2, kg, f2⟩ := sR h1 Y M1 rY.2.2.1
  have F : ∀ q, ((q < X + 1 ∨ X + 31 ≤ q) ∧ (q < X + 202 ∨ X + 221 ≤ q)) → h2 q = h q := fun q hq => (f2 q (by omega)).trans (f1 q (by omega))
  have k64 : A' 64 = A 64 := kx 64 (by omega)
  have n64 := pW.n
  refine ⟨r, h1, h2, e1, ⟨(f1 b (by omega)).trans c1, Mck M1.1⟩, e2, D, A', U, Q, f, AI, UI, QI, T, N, ln, le, it, Y2, ⟨(F b (by omega)).trans c1, (F tS (by omega)).trans c2, (F X (by omega)).trans c3, ⟨F0, SR_fr s1 (fun q g1 g2 => f2 q (by omega))⟩, fun a g1 g2 => RU_mono (fun q hq => ⟨hq, F q (by have := (pD q hq).1; omega)⟩) (c5 a g1 (by omega)), (F (X + 31) (by omega)).trans c6, fun n bb hn hf => ⟨⟨_, SR_fr (c7 n bb hn hf).1.choose_spec (fun q g1 g2 => F q (by have := pI n bb hn hf; omega))⟩, fun a g1 g2 => RU_mono (fun q hq => ⟨hq, F q (by have := (pD q hq).1; omega)⟩) ((c7 n bb hn hf).2 a g1 g2)⟩, SHT_fr c8 (fun q hq => F q (by omega)), TPE_fr c9 (F (X + 33) (by omega)), RDc_fr c10 (F (X + 34) (by omega)), RcOK_fr c11 (fun q g1 g2 => F q (by omega)), WSO_fr c12 (fun q g1 g2 => F q (by omega)), PAc_fr c13 (F (X + 193) (by omega))⟩, ⟨w', fun a g1 g2 => TX_kX kx (by omega) (pT a g1 (by omega)), pM, pH, pL, pC, pD, pN, pI, pJ⟩, m2, RY_kG rY (kG_o1 kg)⟩
theorem St_type (hb : b < X) (ht : tS < X) (w : Int64) {n : Int} (hn : rgI n) : StN b tS L X xs (f_X10_type (some X) w (iI n)) (f_X11_type (some (X + 202)) w (iI n)) := by
  intro h nx I
  obtain ⟨D, A, U, Q, f, AI, UI, QI, T, N, ln, le, it, Y, ⟨c1, c2, c3, c4, c5, c6, c7, c8, c9, c10, c11, c12, c13⟩, ⟨pW, pT, pM, pH, pL, pC, pD, pN, pI, pJ⟩, rM, rY⟩ := I
  obtain ⟨r, T', N', sC, sR, pL', pC'⟩ := K_type (X := X) (m := X + 202) (A := A) pL pC w hn
  obtain ⟨h1, e1, s1, s2, f1⟩ := sC h c3 c9
  have M1 : MR h1 (X + 202) A Y := ⟨MAt_fr rM.1 (fun q g1 g2 => f1 q (by omega) (by omega)), rM.2⟩
  obtain ⟨r4, r5, rS, rI⟩ := rY
  obtain ⟨h2, Y2, e2, m2, y4, y5, kg, f2⟩ := sR h1 Y M1 r4 r5
  have F : ∀ q, (q ≠ X ∧ q ≠ X + 33 ∧ (q < X + 202 ∨ X + 221 ≤ q)) → h2 q = h q := fun q hq => (f2 q (by omega)).trans (f1 q (by omega) (by omega))
  refine ⟨r, h1, h2, e1, ⟨(f1 b (by omega) (by omega)).trans c1, Mck M1.1⟩, e2, D, A, U, Q, f, AI, UI, QI, T', N', ln, le, it, Y2, ⟨(F b (by omega)).trans c1, (F tS (by omega)).trans c2, (f2 X (by omega)).trans s1, ⟨_, SR_fr c4.choose_spec (fun q g1 g2 => F q (by omega))⟩, fun a g1 g2 => RU_mono (fun q hq => ⟨hq, F q (by have := (pD q hq).1; omega)⟩) (c5 a g1 g2), (F (X + 31) (by omega)).trans c6, fun n bb hn hf => ⟨⟨_, SR_fr (c7 n bb hn hf).1.choose_spec (fun q g1 g2 => F q (by have := pI n bb hn hf; omega))⟩, fun a g1 g2 => RU_mono (fun q hq => ⟨hq, F q (by have := (pD q hq).1; omega)⟩) ((c7 n bb hn hf).2 a g1 g2)⟩, SHT_fr c8 (fun q hq => F q (by omega)), TPE_fr s2 (f2 _ (by omega)), RDc_fr c10 (F (X + 34) (by omega)), RcOK_fr c11 (fun q g1 g2 => F q (by omega)), WSO_fr c12 (fun q g1 g2 => F q (by omega)), PAc_fr c13 (F (X + 193) (by omega))⟩, ⟨pW, pT, pM, pH, pL', pC', pD, pN, pI, pJ⟩, m2, y4, y5, RSH_cg rS (kg.1 6 (by omega) (by omega)) (kg.1 7 (by omega) (by omega)) (kg.1 8 (by omega) (by omega)), fun n hn => ?_⟩
  rw [kg.1 3 (by omega) (by omega), kg.1 2 (by omega) (by omega)]; exact rI n hn
theorem St_restore (hb : b < X) (ht : tS < X) {n : Int} (hn : rgI n) : StN b tS L X xs (f_X10_restore (some X) (iI n)) (f_X11_restore (some (X + 202)) (iI n)) := by
  intro h nx I
  have I0 := I
  obtain ⟨D, A, U, Q, f, AI, UI, QI, T, N, ln, le, it, Y, ⟨c1, c2, c3, c4, c5, c6, c7, c8, c9, c10, c11, c12, c13⟩, ⟨pW, pT, pM, pH, pL, pC, pD, pN, pI, pJ⟩, rM, rY⟩ := I
  by_cases c : 0 ≤ n ∧ n < 2
  · have hn2 : n.toNat < 2 := by omega
    obtain ⟨ri1, ri2⟩ := rY.2.2.2 n.toNat hn2
    cases hf : f n.toNat with
    | none => exact ⟨iI (-4), h, h, (C_restore_n c3 c6 hn).2 c hf, ⟨c1, Mck rM.1⟩, R_restore_n rM c (ri1 hf), I0⟩
    | some bb =>
      obtain ⟨⟨F2, sB⟩, rB⟩ := c7 n.toNat bb hn2 hf
      obtain ⟨wB, tB⟩ := pM n.toNat bb hn2 hf
      obtain ⟨y3, y2⟩ := ri2 bb hf
      obtain ⟨F0, s0⟩ := id c4
      have pi := pI n.toNat bb hn2 hf
      obtain ⟨h1, F1, e1, s1, f1⟩ := C_restore c3 c6 hn c hf pi.1 sB s0 wB
      have M1 : MR h1 (X + 202) A Y := ⟨MAt_fr rM.1 (fun q g1 g2 => f1 q (by omega)), rM.2⟩
      obtain ⟨h2, e2, Y2, m2, kg, f2⟩ := R_restore M1 c y3 y2
      have F : ∀ q, ((q < X + 1 ∨ X + 31 ≤ q) ∧ (q < X + 202 ∨ X + 221 ≤ q)) → h2 q = h q := fun q hq => (f2 q (by omega)).trans (f1 q (by omega))
      refine ⟨iI 1, h1, h2, e1, ⟨(f1 b (by omega)).trans c1, Mck M1.1⟩, e2, D, AI n.toNat, UI n.toNat, QI n.toNat, f, AI, UI, QI, T, N, ln, le, it, Y2, ⟨(F b (by omega)).trans c1, (F tS (by omega)).trans c2, (F X (by omega)).trans c3, ⟨F1, SR_fr s1 (fun q g1 g2 => f2 q (by omega))⟩, fun a g1 g2 => RU_mono (fun q hq => ⟨hq, F q (by have := (pD q hq).1; omega)⟩) (rB a g1 g2), (F (X + 31) (by omega)).trans c6, fun n bb hn hf => ⟨⟨_, SR_fr (c7 n bb hn hf).1.choose_spec (fun q g1 g2 => F q (by have := pI n bb hn hf; omega))⟩, fun a g1 g2 => RU_mono (fun q hq => ⟨hq, F q (by have := (pD q hq).1; omega)⟩) ((c7 n bb hn hf).2 a g1 g2)⟩, SHT_fr c8 (fun q hq => F q (by omega)), TPE_fr c9 (F (X + 33) (by omega)), RDc_fr c10 (F (X + 34) (by omega)), RcOK_fr c11 (fun q g1 g2 => F q (by omega)), WSO_fr c12 (fun q g1 g2 => F q (by omega)), PAc_fr c13 (F (X + 193) (by omega))⟩, ⟨wB, tB, pM, pH, pL, pC, pD, pN, pI, pJ⟩, m2, RY_kG rY (kG_o1 kg)⟩
  · exact ⟨iI (-1), h, h, (C_restore_n c3 c6 hn).1 c, ⟨c1, Mck rM.1⟩, (R_image_x hn c).2, I0⟩
theorem St_image (hb : b < X) (ht : tS < X) {n : Int} (hn : rgI n) : StA b tS L X xs (f_X10_image (some X) (iI n)) (f_X11_image (some (X + 202)) (iI n)) := by
  intro h nx z I
  have I0 := I
  obtain ⟨D, A, U, Q, f, AI, UI, QI, T, N, ln, le, it, Y, ⟨c1, c2, c3, c4, c5, c6, c7, c8, c9, c10, c11, c12, c13⟩, ⟨pW, pT, pM, pH, pL, pC, pD, pN, pI, pJ⟩, rM, rY⟩ := I
  by_cases c : 0 ≤ n ∧ n < 2
  · obtain ⟨k, hk⟩ : ∃ k, k = n.toNat := ⟨_, rfl⟩
    have hn2 : k < 2 := by omega
    obtain ⟨F0, s0⟩ := id c4
    obtain ⟨r4, r5, rS, rI⟩ := rY
    cases hf : f k with
    | none =>
      obtain ⟨h1, F1, e1, s31, s1, f1⟩ := C_image_new (z := z) c3 c6 hn c (by rw [← hk]; exact hf) pN s0 pW
      rw [← hk] at s31
      have M1 : MR h1 (X + 202) A Y := ⟨MAt_fr rM.1 (fun q g1 g2 => f1 q (by omega) (by omega)), rM.2⟩
      obtain ⟨h2, Y2, e2, m2, y2, y2o, y3, y3o, kg, f2⟩ := R_image M1 c
      rw [← hk] at y2 y2o y3 y3o
      have F : ∀ q, (q ≠ X + 31 ∧ (q < nx ∨ nx + 30 ≤ q) ∧ (q < X + 202 ∨ X + 221 ≤ q)) → h2 q = h q := fun q hq => (f2 q (by omega)).trans (f1 q (by omega) (by omega))
      have fo : ∀ j, j ≠ k → va_up f k (some nx) j = f j := fun j hj => by unfold va_up; rw [if_neg hj]
      have fs : va_up f k (some nx) k = some nx := by unfold va_up; rw [if_pos rfl]
      have c5' : RX D Q U A h2 := fun a g1 g2 => RU_mono (fun q hq => ⟨hq, F q (by have := (pD q hq).1; omega)⟩) (c5 a g1 g2)
      refine ⟨iI 1, h1, nx + 30, z + 196, h2, e1, by omega, by omega, ⟨(f1 b (by omega) (by omega)).trans c1, Mck M1.1⟩, e2, D, A, U, Q, va_up f k (some nx), updR AI k A, updR UI k U, updR QI k Q, T, N, ln, le, it, Y2, ⟨(F b (by omega)).trans c1, (F tS (by omega)).trans c2, (F X (by omega)).trans c3, ⟨_, SR_fr c4.choose_spec (fun q g1 g2 => F q (by omega))⟩, c5', (f2 _ (by omega)).trans s31, fun j bb hj hf' => ?_, SHT_fr c8 (fun q hq => F q (by omega)), TPE_fr c9 (F (X + 33) (by omega)), RDc_fr c10 (F (X + 34) (by omega)), RcOK_fr c11 (fun q g1 g2 => F q (by omega)), WSO_fr c12 (fun q g1 g2 => F q (by omega)), PAc_fr c13 (F (X + 193) (by omega))⟩, ⟨pW, pT, fun j bb hj hf' => ?_, pH, pL, pC, fun q hq => ⟨by have := (pD q hq).1; omega, fun j bb hj hf' => ?_⟩, by omega, fun j bb hj hf' => ?_, fun j j' bb bb' hj hj' hne h1 h2 => ?_⟩, m2, by rw [kg 0 (by omega) (by omega)]; exact r4, by rw [kg 5 (by omega) (by omega)]; exact r5, RSH_cg rS (kg 6 (by omega) (by omega)) (kg 7 (by omega) (by omega)) (kg 8 (by omega) (by omega)), fun j hj => ?_⟩
      · by_cases e : j = k
        · subst e
          rw [fs] at hf'
          cases hf'
          rw [updR_s, updR_s, updR_s]
          exact ⟨⟨F1, SR_fr s1 (fun q g1 g2 => f2 q (by omega))⟩, c5'⟩
        · rw [fo j e] at hf'
          rw [updR_n _ _ e, updR_n _ _ e, updR_n _ _ e]
          have := pI j bb hj hf'
          exact ⟨⟨_, SR_fr (c7 j bb hj hf').1.choose_spec (fun q g1 g2 => F q (by omega))⟩, fun a g1 g2 => RU_mono (fun q hq => ⟨hq, F q (by have := (pD q hq).1; omega)⟩) ((c7 j bb hj hf').2 a g1 g2)⟩
      · by_cases e : j = k
        · subst e
          rw [updR_s, updR_s]; exact ⟨pW, pT⟩
        · rw [fo j e] at hf'
          rw [updR_n _ _ e, updR_n _ _ e]; exact pM j bb hj hf'
      · by_cases e : j = k
        · subst e
          rw [fs] at hf'
          cases hf'
          have := (pD q hq).1; omega
        · rw [fo j e] at hf'
          exact (pD q hq).2 j bb hj hf'
      · by_cases e : j = k
        · subst e
          rw [fs] at hf'
          cases hf'
          omega
        · rw [fo j e] at hf'
          have := pI j bb hj hf'
          omega
      · by_cases e : j = k
        · subst e
          rw [fs] at h1
          rw [fo j' (fun w => hne w.symm)] at h2
          cases h1
          have := pI j' bb' hj' h2
          omega
        · rw [fo j e] at h1
          by_cases e' : j' = k
          · subst e'
            rw [fs] at h2
            cases h2
            have := pI j bb hj h1
            omega
          · rw [fo j' e'] at h2
            exact pJ j j' bb bb' hj hj' hne h1 h2
      · by_cases e : j = k
        · subst e
          rw [fs, updR_s]
          exact ⟨fun w => (by cases w), fun bb _ => ⟨y3, y2⟩⟩
        · rw [fo j e, updR_n _ _ e, y3o j e]
          obtain ⟨a1, a2⟩ := rI j hj
          exact ⟨a1, fun bb w => ⟨(a2 bb w).1, fun i hi => by rw [y2o _ (by omega)]; exact (a2 bb w).2 i hi⟩⟩
    | some bk =>
      obtain ⟨⟨Fk, sk⟩, rk⟩ := c7 k bk hn2 hf
      have pk := pI k bk hn2 hf
      obtain ⟨S, sk1, -⟩ := sk
      obtain ⟨h1, F1, e1, s1, f1⟩ := C_image_old (nx := nx) (z := z) c3 c6 hn c (by rw [← hk]; exact hf) pk.1 sk1 s0 pW
      have M1 : MR h1 (X + 202) A Y := ⟨MAt_fr rM.1 (fun q g1 g2 => f1 q (by omega)), rM.2⟩
      obtain ⟨h2, Y2, e2, m2, y2, y2o, y3, y3o, kg, f2⟩ := R_image M1 c
      rw [← hk] at y2 y2o y3 y3o
      have F : ∀ q, ((q < bk ∨ bk + 30 ≤ q) ∧ (q < X + 202 ∨ X + 221 ≤ q)) → h2 q = h q := fun q hq => (f2 q (by omega)).trans (f1 q (by omega))
      have c5' : RX D Q U A h2 := fun a g1 g2 => RU_mono (fun q hq => ⟨hq, F q (by have := (pD q hq).1; have := (pD q hq).2 k bk hn2 hf; omega)⟩) (c5 a g1 g2)
      refine ⟨iI 1, h1, nx, z, h2, e1, by omega, by omega, ⟨(f1 b (by omega)).trans c1, Mck M1.1⟩, e2, D, A, U, Q, f, updR AI k A, updR UI k U, updR QI k Q, T, N, ln, le, it, Y2, ⟨(F b (by omega)).trans c1, (F tS (by omega)).trans c2, (F X (by omega)).trans c3, ⟨_, SR_fr c4.choose_spec (fun q g1 g2 => F q (by omega))⟩, c5', (F (X + 31) (by omega)).trans c6, fun j bb hj hf' => ?_, SHT_fr c8 (fun q hq => F q (by omega)), TPE_fr c9 (F (X + 33) (by omega)), RDc_fr c10 (F (X + 34) (by omega)), RcOK_fr c11 (fun q g1 g2 => F q (by omega)), WSO_fr c12 (fun q g1 g2 => F q (by omega)), PAc_fr c13 (F (X + 193) (by omega))⟩, ⟨pW, pT, fun j bb hj hf' => ?_, pH, pL, pC, pD, pN, pI, pJ⟩, m2, by rw [kg 0 (by omega) (by omega)]; exact r4, by rw [kg 5 (by omega) (by omega)]; exact r5, RSH_cg rS (kg 6 (by omega) (by omega)) (kg 7 (by omega) (by omega)) (kg 8 (by omega) (by omega)), fun j hj => ?_⟩
      · by_cases e : j = k
        · subst e
          rw [hf] at hf'
          cases hf'
          rw [updR_s, updR_s, updR_s]
          exact ⟨⟨F1, SR_fr s1 (fun q g1 g2 => f2 q (by omega))⟩, c5'⟩
        · rw [updR_n _ _ e, updR_n _ _ e, updR_n _ _ e]
          have := pI j bb hj hf'
          have := pJ j k bb bk hj hn2 e hf' hf
          exact ⟨⟨_, SR_fr (c7 j bb hj hf').1.choose_spec (fun q g1 g2 => F q (by omega))⟩, fun a g1 g2 => RU_mono (fun q hq => ⟨hq, F q (by have := (pD q hq).1; have := (pD q hq).2 k bk hn2 hf; omega)⟩) ((c7 j bb hj hf').2 a g1 g2)⟩
      · by_cases e : j = k
        · subst e
          rw [updR_s, updR_s]; exact ⟨pW, pT⟩
        · rw [updR_n _ _ e, updR_n _ _ e]; exact pM j bb hj hf'
      · by_cases e : j = k
        · subst e
          rw [updR_s]
          exact ⟨fun w => (by rw [hf] at w; cases w), fun bb _ => ⟨y3, y2⟩⟩
        · rw [updR_n _ _ e, y3o j e]
          obtain ⟨a1, a2⟩ := rI j hj
          exact ⟨a1, fun bb w => ⟨(a2 bb w).1, fun i hi => by rw [y2o _ (by omega)]; exact (a2 bb w).2 i hi⟩⟩
  · exact ⟨iI (-1), h, nx, z, h, C_image_x c3 c6 hn c, by omega, by omega, ⟨c1, Mck rM.1⟩, (R_image_x hn c).1, I0⟩
theorem St_rules (hb : b < X) (ht : tS < X) {n : Int} (hn : rgI n) : StA b tS L X xs (f_X10_rules (some X) (iI n)) (f_X11_rules (some (X + 202)) (iI n)) := by
  intro h nx z I
  have I0 := I
  obtain ⟨D, A, U, Q, f, AI, UI, QI, T, N, ln, le, it, Y, ⟨c1, c2, c3, c4, c5, c6, c7, c8, c9, c10, c11, c12, c13⟩, ⟨pW, pT, pM, pH, pL, pC, pD, pN, pI, pJ⟩, rM, rY⟩ := I
  obtain ⟨F0, s0⟩ := id c4
  have n64 := pW.n
  by_cases c : 0 ≤ n ∧ n < A 64
  · obtain ⟨nx1, z1, h1, r, e1, bx, bz, x1, rd1, f1, alt⟩ := C_rules (z := z) pW c3 s0 c9 pL pC c10 pN hn c
    have M1 : MR h1 (X + 202) A Y := ⟨MAt_fr rM.1 (fun q g1 g2 => f1 q (by omega) (by omega) (by omega) (by omega)), rM.2⟩
    obtain ⟨r4, r5, rS, rI⟩ := rY
    obtain ⟨rr1, rr2⟩ := R_rules M1 pW r4 r5 pL pC hn c
    have k1 : ∀ {Y2 : Nat → Nat → Int32}, kU Y Y2 → Y2 0 4 = iI 0 → RY f AI T 0 ln le it Y2 := fun {Y2} kg y4 => ⟨y4, fun k hk => absurd hk (by omega), RSH_cg rS (kg 6 (by omega)) (kg 7 (by omega)) (kg 8 (by omega)), fun j hj => by rw [kg 3 (by omega), kg 2 (by omega)]; exact rI j hj⟩
    have c9' : TPE T 0 (X + 33) h := by
      obtain ⟨g, q1, -⟩ := c9
      exact ⟨g, q1, fun k hk => absurd hk (by omega)⟩
    rcases alt with ⟨q', u, s1, ru, vq, q0, eq, sm1, rfl⟩ | ⟨s1, sm1, sm2, rfl⟩
    · obtain ⟨h2, Y2, e2, m2, y4, kg, f2⟩ := rr1 _ sm1
      have F : ∀ q, (q < nx ∧ q ≠ X ∧ q ≠ X + 34 ∧ (q < X + 1 ∨ X + 31 ≤ q) ∧ (q < X + 202 ∨ X + 221 ≤ q)) → h2 q = h q := fun q hq => (f2 q (by omega)).trans (f1 q (by omega) (by omega) (by omega) (by omega))
      have lq : (rs T N 0).length ≤ 100 := by rw [eq]; exact vq.2.2
      have e64 : txA A n (rs T N 0) (q'.length : Int) 64 = A 64 := txA_n A (by omega) lq _ (by omega)
      have mo : ∀ {h0 : zH} {u : Option Nat} {q : List zKl}, (∀ a, D a → h2 a = h0 a) → RU D h0 u q → RU (fun q => D q ∨ (nx ≤ q ∧ q < nx1)) h2 u q := fun {h0 u q} w => RU_mono (fun a ha => ⟨Or.inl ha, w a ha⟩)
      have dF : ∀ a, D a → h2 a = h a := fun a ha => F a (by have := (pD a ha).1; omega)
      refine ⟨_, h1, nx1, z1, h2, e1, bx, bz, ⟨(f1 b (by omega) (by omega) (by omega) (by omega)).trans c1, Mck M1.1⟩, e2, fun q => D q ∨ (nx ≤ q ∧ q < nx1), _, _, fun x => if x = n then q' else Q x, f, AI, UI, QI, T, 0, ln, le, it, Y2, ⟨(F b (by omega)).trans c1, (F tS (by omega)).trans c2, (f2 X (by omega)).trans x1, ⟨F0, SR_fr s1 (fun q g1 g2 => f2 q (by omega))⟩, fun a g1 g2 => ?_, (F (X + 31) (by omega)).trans c6, fun j bb hj hf' => ?_, SHT_fr c8 (fun q hq => F q (by omega)), TPE_fr c9' (F (X + 33) (by omega)), RDc_fr rd1 (f2 _ (by omega)), RcOK_fr c11 (fun q g1 g2 => F q (by omega)), WSO_fr c12 (fun q g1 g2 => F q (by omega)), PAc_fr c13 (F (X + 193) (by omega))⟩, ⟨txA_WF pW (by omega) lq _, fun a g1 g2 => ?_, pM, pH, by omega, fun k hk => absurd hk (by omega), fun q hq => ?_, by omega, fun j bb hj hf' => by have := pI j bb hj hf'; omega, pJ⟩, m2, k1 kg y4⟩
      · show RU _ h2 (if a = n then u else U a) (if a = n then q' else Q a)
        by_cases e : a = n
        · rw [if_pos e, if_pos e]
          exact RU_mono (fun q hq => ⟨Or.inr hq, f2 q (by have := hq.1; omega)⟩) ru
        · rw [if_neg e, if_neg e]
          exact mo dF (c5 a g1 (by omega))
      · have := pI j bb hj hf'
        exact ⟨⟨_, SR_fr (c7 j bb hj hf').1.choose_spec (fun q g1 g2 => F q (by omega))⟩, fun a g1 g2 => mo dF ((c7 j bb hj hf').2 a g1 g2)⟩
      · show TX _ a (if a = n then q' else Q a)
        by_cases e : a = n
        · subst e
          rw [if_pos rfl, eq]
          exact txA_TX (by omega) vq q0
        · rw [if_neg e]
          exact txA_TXo (by omega) (by omega) e lq _ (pT a g1 (by omega))
      · rcases hq with hq | hq
        · have d := pD q hq
          exact ⟨by have := d.1; omega, d.2⟩
        · exact ⟨by omega, fun j bb hj hf' => by have := pI j bb hj hf'; omega⟩
    · obtain ⟨h2, Y2, e2, m2, y4, kg, f2⟩ := rr2 ⟨sm1, sm2⟩
      have F : ∀ q, (q < nx ∧ q ≠ X ∧ q ≠ X + 34 ∧ (q < X + 1 ∨ X + 31 ≤ q) ∧ (q < X + 202 ∨ X + 221 ≤ q)) → h2 q = h q := fun q hq => (f2 q (by omega)).trans (f1 q (by omega) (by omega) (by omega) (by omega))
      refine ⟨_, h1, nx1, z1, h2, e1, bx, bz, ⟨(f1 b (by omega) (by omega) (by omega) (by omega)).trans c1, Mck M1.1⟩, e2, D, A, U, Q, f, AI, UI, QI, T, 0, ln, le, it, Y2, ⟨(F b (by omega)).trans c1, (F tS (by omega)).trans c2, (f2 X (by omega)).trans x1, ⟨F0, SR_fr s1 (fun q g1 g2 => f2 q (by omega))⟩, fun a g1 g2 => RU_mono (fun q hq => ⟨hq, F q (by have := (pD q hq).1; omega)⟩) (c5 a g1 g2), (F (X + 31) (by omega)).trans c6, fun n bb hn hf => ⟨⟨_, SR_fr (c7 n bb hn hf).1.choose_spec (fun q g1 g2 => F q (by have := pI n bb hn hf; omega))⟩, fun a g1 g2 => RU_mono (fun q hq => ⟨hq, F q (by have := (pD q hq).1; omega)⟩) ((c7 n bb hn hf).2 a g1 g2)⟩, SHT_fr c8 (fun q hq => F q (by omega)), TPE_fr c9' (F (X + 33) (by omega)), RDc_fr rd1 (f2 _ (by omega)), RcOK_fr c11 (fun q g1 g2 => F q (by omega)), WSO_fr c12 (fun q g1 g2 => F q (by omega)), PAc_fr c13 (F (X + 193) (by omega))⟩, ⟨pW, pT, pM, pH, by omega, fun k hk => absurd hk (by omega), fun q hq => ⟨by have := (pD q hq).1; omega, (pD q hq).2⟩, by omega, fun j bb hj hf' => by have := pI j bb hj hf'; omega, pJ⟩, m2, k1 kg y4⟩
  · exact ⟨iI (-1), h, nx, z, h, C_rules_x pW c3 s0 hn c, by omega, by omega, ⟨c1, Mck rM.1⟩, R_rules_x rM pW hn c, I0⟩
end SU
