/-! WHAT STAYS TRUE from call to call -/
def RDc (h : zH) (X : Nat) : Prop := ∃ x0 x1 x2 x3 x4, h (X + 34) = .inr (4, [tA x0, tI x1, tI x2, tI x3, tI x4])
def PAc (h : zH) (X : Nat) : Prop := ∃ g, h (X + 193) = .inl (0, 7, .inl g)
theorem RDc_fr {h h' : zH} {X : Nat} (c : RDc h X) (e : h' (X + 34) = h (X + 34)) : RDc h' X := by
  obtain ⟨x0, x1, x2, x3, x4, q⟩ := c
  exact ⟨x0, x1, x2, x3, x4, e.trans q⟩
theorem PAc_fr {h h' : zH} {X : Nat} (c : PAc h X) (e : h' (X + 193) = h (X + 193)) : PAc h' X := by
  obtain ⟨g, q⟩ := c
  exact ⟨g, e.trans q⟩
theorem TPE_fr {h h' : zH} {T : Nat → Int} {N tp : Nat} (c : TPE T N tp h) (e : h' tp = h tp) : TPE T N tp h' := by
  obtain ⟨g, q1, q2⟩ := c
  exact ⟨g, e.trans q1, q2⟩
theorem SHT_fr {h h' : zH} {X : Nat} {ln le : Nat → Int} {it : Nat → Nat → Int32} (c : SHT h X ln le it) (e : ∀ q, (q = X + 32 ∨ (X + 194 ≤ q ∧ q < X + 202)) → h' q = h q) : SHT h' X ln le it := by
  obtain ⟨q1, q2⟩ := c
  refine ⟨(e _ (by omega)).trans q1, fun s hs => ?_⟩
  obtain ⟨k1, g, k2, k3⟩ := q2 s hs
  exact ⟨(e _ (by omega)).trans k1, g, (e _ (by omega)).trans k2, k3⟩
def CI (b tS L X : Nat) (xs : Nat → Int32) (D : Nat → Prop) (A : Int → Int) (U : Int → Option Nat) (Q : Int → List zKl) (f : Nat → Option Nat) (AI : Nat → Int → Int) (UI : Nat → Int → Option Nat) (QI : Nat → Int → List zKl) (T : Nat → Int) (N : Nat) (ln le : Nat → Int) (it : Nat → Nat → Int32) (h : zH) : Prop :=
  h b = .inl (100, L, .inl xs) ∧ hST h tS ∧ h X = oX X (iI (N : Int)) ∧ (∃ F, SR h (X + 1) A U F) ∧ RX D Q U A h ∧ h (X + 31) = .inl (6, 2, .inr (.inr f)) ∧ (∀ n bb, n < 2 → f n = some bb → (∃ F, SR h bb (AI n) (UI n) F) ∧ RX D (QI n) (UI n) (AI n) h) ∧ SHT h X ln le it ∧ TPE T N (X + 33) h ∧ RDc h X ∧ RcOK h (X + 35) ∧ WSO h (X + 40) ∧ PAc h X
def PU (X nx : Nat) (D : Nat → Prop) (A : Int → Int) (Q : Int → List zKl) (f : Nat → Option Nat) (AI : Nat → Int → Int) (QI : Nat → Int → List zKl) (T : Nat → Int) (N : Nat) (ln le : Nat → Int) (it : Nat → Nat → Int32) : Prop :=
  WF A ∧ (∀ a, 0 ≤ a → a < A 64 → TX A a (Q a)) ∧ (∀ n bb, n < 2 → f n = some bb → WF (AI n) ∧ ∀ a, 0 ≤ a → a < AI n 64 → TX (AI n) a (QI n a)) ∧ SHI ln le it ∧ N ≤ 100 ∧ (∀ k, k < N → 32 ≤ T k ∧ T k ≤ 126) ∧ (∀ q, D q → (X + 221 ≤ q ∧ q < nx) ∧ ∀ n bb, n < 2 → f n = some bb → q < bb ∨ bb + 30 ≤ q) ∧ X + 221 ≤ nx ∧ (∀ n bb, n < 2 → f n = some bb → X + 221 ≤ bb ∧ bb + 30 ≤ nx) ∧ ∀ n n' bb bb', n < 2 → n' < 2 → n ≠ n' → f n = some bb → f n' = some bb' → bb + 30 ≤ bb' ∨ bb' + 30 ≤ bb
def RY (f : Nat → Option Nat) (AI : Nat → Int → Int) (T : Nat → Int) (N : Nat) (ln le : Nat → Int) (it : Nat → Nat → Int32) (Y : Nat → Nat → Int32) : Prop :=
  Y 0 4 = iI (N : Int) ∧ (∀ k, k < N → Y 5 k = iI (T k)) ∧ RSH Y ln le it ∧ ∀ n, n < 2 → (f n = none → Y 3 n = iI 0) ∧ ∀ bb, f n = some bb → Y 3 n = iI 1 ∧ ∀ j : Nat, j < 530 → Y 2 (530 * n + j) = iI (AI n j)
theorem RSH_cg {Y Y' : Nat → Nat → Int32} {ln le : Nat → Int} {it : Nat → Nat → Int32} (c : RSH Y ln le it) (k6 : Y' 6 = Y 6) (k7 : Y' 7 = Y 7) (k8 : Y' 8 = Y 8) : RSH Y' ln le it := fun s hs => by
  rw [k6, k7, k8]; exact c s hs
theorem RY_kG {f : Nat → Option Nat} {AI : Nat → Int → Int} {T : Nat → Int} {N : Nat} {ln le : Nat → Int} {it : Nat → Nat → Int32} {Y Y' : Nat → Nat → Int32} (c : RY f AI T N ln le it Y) (k : kG Y Y') : RY f AI T N ln le it Y' := by
  obtain ⟨r4, r5, rS, rI⟩ := c
  refine ⟨k.1.trans r4, fun j hj => by rw [k.2 5 (by omega)]; exact r5 j hj, RSH_cg rS (k.2 6 (by omega)) (k.2 7 (by omega)) (k.2 8 (by omega)), fun n hn => ?_⟩
  rw [k.2 3 (by omega), k.2 2 (by omega)]; exact rI n hn
def Inv (b tS L X : Nat) (xs : Nat → Int32) (h : zH) (nx : Nat) : Prop :=
  ∃ D A U Q f AI UI QI T N ln le it Y, CI b tS L X xs D A U Q f AI UI QI T N ln le it h ∧ PU X nx D A Q f AI QI T N ln le it ∧ MR h (X + 202) A Y ∧ RY f AI T N ln le it Y
def StN (b tS L X : Nat) (xs : Nat → Int32) (fc fR : zH → Option (Int32 × zH)) : Prop :=
  ∀ h nx, Inv b tS L X xs h nx → ∃ r h1 h2, fc h = some (r, h1) ∧ (h1 b = .inl (100, L, .inl xs) ∧ z_ck h1 11 (some (X + 202)) = some (X + 202)) ∧ fR h1 = some (r, h2) ∧ Inv b tS L X xs h2 nx
section ST
variable {b tS L X : Nat} {xs : Nat → Int32} {fc fR : zH → Option (Int32 × zH)}
theorem Inv_s {h : zH} {nx : Nat} (I : Inv b tS L X xs h nx) : h b = .inl (100, L, .inl xs) ∧ z_ck h 10 (some X) = some X ∧ X + 221 ≤ nx := by
  obtain ⟨D, A, U, Q, f, AI, UI, QI, T, N, ln, le, it, Y, ⟨c1, c2, c3, c4, c5, c6, c7, c8, c9, c10, c11, c12, c13⟩, ⟨pW, pT, pM, pH, pL, pC, pD, pN, pI, pJ⟩, rM, rY⟩ := I
  exact ⟨c1, Xck c3, pN⟩
theorem TX_cg {A A' : Int → Int} {a : Int} {q : List zKl} (ha : 0 ≤ a ∧ a ≤ 2) (k : ∀ j, (j = 73 + 40 * a ∨ j = 74 + 40 * a ∨ (190 ≤ j ∧ j < 490)) → A' j = A j) (h : TX A a q) : TX A' a q := by
  obtain ⟨h1, h2, h3⟩ := h
  refine ⟨h1, by rw [k _ (by omega)]; exact h2, fun hq => ?_⟩
  obtain ⟨h4, h5⟩ := h3 hq
  have hl := h1.2.2
  exact ⟨by rw [k _ (by omega)]; exact h4, tx_cg _ _ (fun j g1 g2 => k j (by omega)) h5⟩
theorem TX_nil {A : Int → Int} {a : Int} (h : A (74 + 40 * a) = 0) : TX A a [] := ⟨⟨by simp, fun c hc => absurd hc (by simp), by simp [prQ]⟩, by rw [h]; rfl, fun q => absurd rfl q⟩
theorem St_KS (hb : b < X) (ht : tS < X) (K : ∀ D A U Q, WF A → (∀ a, 0 ≤ a → a < A 64 → TX A a (Q a)) → (∀ q, D q → X + 221 ≤ q) → KS tS X (X + 202) D Q U A fc fR) : StN b tS L X xs fc fR := by
  intro h nx I
  obtain ⟨D, A, U, Q, f, AI, UI, QI, T, N, ln, le, it, Y, ⟨c1, c2, c3, c4, c5, c6, c7, c8, c9, c10, c11, c12, c13⟩, ⟨pW, pT, pM, pH, pL, pC, pD, pN, pI, pJ⟩, rM, rY⟩ := I
  obtain ⟨r, A', sC, sR, w', kx⟩ := K D A U Q pW pT (fun q hq => (pD q hq).1.1)
  obtain ⟨F0, s0⟩ := id c4
  obtain ⟨h1, F1, e1, s1, f1⟩ := sC h _ F0 c3 c2 c5 s0
  have M1 : MR h1 (X + 202) A Y := ⟨MAt_fr rM.1 (fun q g1 g2 => f1 q (by omega)), rM.2⟩
  obtain ⟨h2, Y2, e2, m2, kg, f2⟩ := sR h1 Y M1
  have F : ∀ q, ((q < X + 1 ∨ X + 31 ≤ q) ∧ (q < X + 202 ∨ X + 221 ≤ q)) → h2 q = h q := fun q hq => (f2 q (by omega)).trans (f1 q (by omega))
  have k64 : A' 64 = A 64 := kx 64 (by omega)
  have n64 := pW.n
  refine ⟨r, h1, h2, e1, ⟨(f1 b (by omega)).trans c1, Mck M1.1⟩, e2, D, A', U, Q, f, AI, UI, QI, T, N, ln, le, it, Y2, ⟨(F b (by omega)).trans c1, (F tS (by omega)).trans c2, (F X (by omega)).trans c3, ⟨F1, SR_fr s1 (fun q g1 g2 => f2 q (by omega))⟩, fun a g1 g2 => RU_mono (fun q hq => ⟨hq, F q (by have := (pD q hq).1; omega)⟩) (c5 a g1 (by omega)), (F (X + 31) (by omega)).trans c6, fun n bb hn hf => ⟨⟨_, SR_fr (c7 n bb hn hf).1.choose_spec (fun q g1 g2 => F q (by have := pI n bb hn hf; omega))⟩, fun a g1 g2 => RU_mono (fun q hq => ⟨hq, F q (by have := (pD q hq).1; omega)⟩) ((c7 n bb hn hf).2 a g1 g2)⟩, SHT_fr c8 (fun q hq => F q (by omega)), TPE_fr c9 (F (X + 33) (by omega)), RDc_fr c10 (F (X + 34) (by omega)), RcOK_fr c11 (fun q g1 g2 => F q (by omega)), WSO_fr c12 (fun q g1 g2 => F q (by omega)), PAc_fr c13 (F (X + 193) (by omega))⟩, ⟨w', fun a g1 g2 => TX_kX kx (by omega) (pT a g1 (by omega)), pM, pH, pL, pC, pD, pN, pI, pJ⟩, m2, RY_kG rY kg⟩
theorem St_KQ (hb : b < X) (ht : tS < X) (K : ∀ A U, WF A → KQ tS X (X + 202) U A fc fR) : StN b tS L X xs fc fR := by
  intro h nx I
  obtain ⟨D, A, U, Q, f, AI, UI, QI, T, N, ln, le, it, Y, ⟨c1, c2, c3, c4, c5, c6, c7, c8, c9, c10, c11, c12, c13⟩, ⟨pW, pT, pM, pH, pL, pC, pD, pN, pI, pJ⟩, rM, rY⟩ := I
  obtain ⟨r, sC, sR⟩ := K A U pW
  obtain ⟨F0, s0⟩ := id c4
  obtain ⟨h1, e1, s1, f1⟩ := sC h _ F0 c3 c2 s0 c11
  have M1 : MR h1 (X + 202) A Y := ⟨MAt_fr rM.1 (fun q g1 g2 => f1 q (by omega)), rM.2⟩
  obtain ⟨h2, Y2, e2, m2, kg, f2⟩ := sR h1 Y M1
  have F : ∀ q, ((q < X + 35 ∨ X + 40 ≤ q) ∧ (q < X + 202 ∨ X + 221 ≤ q)) → h2 q = h q := fun q hq => (f2 q (by omega)).trans (f1 q (by omega))
  refine ⟨r, h1, h2, e1, ⟨(f1 b (by omega)).trans c1, Mck M1.1⟩, e2, D, A, U, Q, f, AI, UI, QI, T, N, ln, le, it, Y2, ⟨(F b (by omega)).trans c1, (F tS (by omega)).trans c2, (F X (by omega)).trans c3, ⟨_, SR_fr c4.choose_spec (fun q g1 g2 => F q (by omega))⟩, fun a g1 g2 => RU_mono (fun q hq => ⟨hq, F q (by have := (pD q hq).1; omega)⟩) (c5 a g1 g2), (F (X + 31) (by omega)).trans c6, fun n bb hn hf => ⟨⟨_, SR_fr (c7 n bb hn hf).1.choose_spec (fun q g1 g2 => F q (by have := pI n bb hn hf; omega))⟩, fun a g1 g2 => RU_mono (fun q hq => ⟨hq, F q (by have := (pD q hq).1; omega)⟩) ((c7 n bb hn hf).2 a g1 g2)⟩, SHT_fr c8 (fun q hq => F q (by omega)), TPE_fr c9 (F (X + 33) (by omega)), RDc_fr c10 (F (X + 34) (by omega)), RcOK_fr s1 (fun q g1 g2 => f2 q (by omega)), WSO_fr c12 (fun q g1 g2 => F q (by omega)), PAc_fr c13 (F (X + 193) (by omega))⟩, ⟨pW, pT, pM, pH, pL, pC, pD, pN, pI, pJ⟩, m2, RY_kG rY kg⟩
theorem St_KF (hb : b < X) (ht : tS < X) (K : ∀ D A U Q, WF A → (∀ a, 0 ≤ a → a < A 64 → TX A a (Q a)) → (∀ q, D q → X + 221 ≤ q) → KF tS X (X + 202) D Q U A fc fR) : StN b tS L X xs fc fR := by
  intro h nx I
  obtain ⟨D, A, U, Q, f, AI, UI, QI, T, N, ln, le, it, Y, ⟨c1, c2, c3, c4, c5, c6, c7, c8, c9, c10, c11, c12, c13⟩, ⟨pW, pT, pM, pH, pL, pC, pD, pN, pI, pJ⟩, rM, rY⟩ := I
  obtain ⟨r, sC, sR⟩ := K D A U Q pW pT (fun q hq => (pD q hq).1.1)
  obtain ⟨F0, s0⟩ := id c4
  obtain ⟨h1, e1, s1, f1⟩ := sC h _ F0 c3 c2 c5 s0 c12
  have M1 : MR h1 (X + 202) A Y := ⟨MAt_fr rM.1 (fun q g1 g2 => f1 q (by omega)), rM.2⟩
  obtain ⟨h2, Y2, e2, m2, kg, f2⟩ := sR h1 Y M1
  have F : ∀ q, ((q < X + 40 ∨ X + 193 ≤ q) ∧ (q < X + 202 ∨ X + 221 ≤ q)) → h2 q = h q := fun q hq => (f2 q (by omega)).trans (f1 q (by omega))
  refine ⟨r, h1, h2, e1, ⟨(f1 b (by omega)).trans c1, Mck M1.1⟩, e2, D, A, U, Q, f, AI, UI, QI, T, N, ln, le, it, Y2, ⟨(F b (by omega)).trans c1, (F tS (by omega)).trans c2, (F X (by omega)).trans c3, ⟨_, SR_fr c4.choose_spec (fun q g1 g2 => F q (by omega))⟩, fun a g1 g2 => RU_mono (fun q hq => ⟨hq, F q (by have := (pD q hq).1; omega)⟩) (c5 a g1 g2), (F (X + 31) (by omega)).trans c6, fun n bb hn hf => ⟨⟨_, SR_fr (c7 n bb hn hf).1.choose_spec (fun q g1 g2 => F q (by have := pI n bb hn hf; omega))⟩, fun a g1 g2 => RU_mono (fun q hq => ⟨hq, F q (by have := (pD q hq).1; omega)⟩) ((c7 n bb hn hf).2 a g1 g2)⟩, SHT_fr c8 (fun q hq => F q (by omega)), TPE_fr c9 (F (X + 33) (by omega)), RDc_fr c10 (F (X + 34) (by omega)), RcOK_fr c11 (fun q g1 g2 => F q (by omega)), WSO_fr s1 (fun q g1 g2 => f2 q (by omega)), PAc_fr c13 (F (X + 193) (by omega))⟩, ⟨pW, pT, pM, pH, pL, pC, pD, pN, pI, pJ⟩, m2, RY_kG rY kg⟩
theorem St_KH (hb : b < X) (ht : tS < X) (K : ∀ A U ln le it, WF A → SHI ln le it → KH X (X + 202) U A ln le it fc fR) : StN b tS L X xs fc fR := by
  intro h nx I
  obtain ⟨D, A, U, Q, f, AI, UI, QI, T, N, ln, le, it, Y, ⟨c1, c2, c3, c4, c5, c6, c7, c8, c9, c10, c11, c12, c13⟩, ⟨pW, pT, pM, pH, pL, pC, pD, pN, pI, pJ⟩, rM, rY⟩ := I
  obtain ⟨r, ln', le', it', sC, sR, i'⟩ := K A U ln le it pW pH
  obtain ⟨F0, s0⟩ := id c4
  obtain ⟨h1, e1, s1, f1⟩ := sC h _ F0 c3 s0 c8
  have M1 : MR h1 (X + 202) A Y := ⟨MAt_fr rM.1 (fun q g1 g2 => f1 q (by omega)), rM.2⟩
  obtain ⟨r4, r5, rS, rI⟩ := rY
  obtain ⟨h2, Y2, e2, m2, m3, kg, f2⟩ := sR h1 Y M1 rS
  have F : ∀ q, ((q < X + 194 ∨ X + 202 ≤ q) ∧ (q < X + 202 ∨ X + 221 ≤ q)) → h2 q = h q := fun q hq => (f2 q (by omega)).trans (f1 q (by omega))
  refine ⟨r, h1, h2, e1, ⟨(f1 b (by omega)).trans c1, Mck M1.1⟩, e2, D, A, U, Q, f, AI, UI, QI, T, N, ln', le', it', Y2, ⟨(F b (by omega)).trans c1, (F tS (by omega)).trans c2, (F X (by omega)).trans c3, ⟨_, SR_fr c4.choose_spec (fun q g1 g2 => F q (by omega))⟩, fun a g1 g2 => RU_mono (fun q hq => ⟨hq, F q (by have := (pD q hq).1; omega)⟩) (c5 a g1 g2), (F (X + 31) (by omega)).trans c6, fun n bb hn hf => ⟨⟨_, SR_fr (c7 n bb hn hf).1.choose_spec (fun q g1 g2 => F q (by have := pI n bb hn hf; omega))⟩, fun a g1 g2 => RU_mono (fun q hq => ⟨hq, F q (by have := (pD q hq).1; omega)⟩) ((c7 n bb hn hf).2 a g1 g2)⟩, SHT_fr s1 (fun q hq => f2 q (by omega)), TPE_fr c9 (F (X + 33) (by omega)), RDc_fr c10 (F (X + 34) (by omega)), RcOK_fr c11 (fun q g1 g2 => F q (by omega)), WSO_fr c12 (fun q g1 g2 => F q (by omega)), PAc_fr c13 (F (X + 193) (by omega))⟩, ⟨pW, pT, pM, i', pL, pC, pD, pN, pI, pJ⟩, m2, ?_, ?_, m3, fun n hn => ?_⟩
  · rw [kg 0 (by omega) (by omega) (by omega) (by omega)]; exact r4
  · rw [kg 5 (by omega) (by omega) (by omega) (by omega)]; exact r5
  · rw [kg 3 (by omega) (by omega) (by omega) (by omega), kg 2 (by omega) (by omega) (by omega) (by omega)]; exact rI n hn
theorem St_KA (hb : b < X) (ht : tS < X) (K : ∀ A U, WF A → KArm tS X (X + 202) U A fc fR) : StN b tS L X xs fc fR := by
  intro h nx I
  obtain ⟨D, A, U, Q, f, AI, UI, QI, T, N, ln, le, it, Y, ⟨c1, c2, c3, c4, c5, c6, c7, c8, c9, c10, c11, c12, c13⟩, ⟨pW, pT, pM, pH, pL, pC, pD, pN, pI, pJ⟩, rM, rY⟩ := I
  obtain ⟨r, A', U', sC, sR, w', kx⟩ := K A U pW
  obtain ⟨F0, s0⟩ := id c4
  obtain ⟨g0, p0⟩ := id c13
  obtain ⟨h1, F1, g1, e1, s1, p1, f1⟩ := sC h _ F0 g0 c3 c2 p0 s0
  have M1 : MR h1 (X + 202) A Y := ⟨MAt_fr rM.1 (fun q g1 g2 => f1 q (by omega) (by omega)), rM.2⟩
  obtain ⟨h2, Y2, e2, m2, kg, f2⟩ := sR h1 Y M1
  have F : ∀ q, ((q < X + 1 ∨ X + 31 ≤ q) ∧ q ≠ X + 193 ∧ (q < X + 202 ∨ X + 221 ≤ q)) → h2 q = h q := fun q hq => (f2 q (by omega)).trans (f1 q (by omega) (by omega))
  have n64 := pW.n
  have c5' : ∀ a, 0 ≤ a → a < A 64 → RU D h2 (U a) (Q a) := fun a g1 g2 => RU_mono (fun q hq => ⟨hq, F q (by have := (pD q hq).1; omega)⟩) (c5 a g1 g2)
  rcases kx with ⟨rfl, rfl⟩ | ⟨⟨N0, c0, f0, rfl⟩, rfl, q1, q2⟩
  · refine ⟨r, h1, h2, e1, ⟨(f1 b (by omega) (by omega)).trans c1, Mck M1.1⟩, e2, D, A', U', Q, f, AI, UI, QI, T, N, ln, le, it, Y2, ⟨(F b (by omega)).trans c1, (F tS (by omega)).trans c2, (F X (by omega)).trans c3, ⟨F1, SR_fr s1 (fun q g1 g2 => f2 q (by omega))⟩, c5', (F (X + 31) (by omega)).trans c6, fun n bb hn hf => ⟨⟨_, SR_fr (c7 n bb hn hf).1.choose_spec (fun q g1 g2 => F q (by have := pI n bb hn hf; omega))⟩, fun a g1 g2 => RU_mono (fun q hq => ⟨hq, F q (by have := (pD q hq).1; omega)⟩) ((c7 n bb hn hf).2 a g1 g2)⟩, SHT_fr c8 (fun q hq => F q (by omega)), TPE_fr c9 (F (X + 33) (by omega)), RDc_fr c10 (F (X + 34) (by omega)), RcOK_fr c11 (fun q g1 g2 => F q (by omega)), WSO_fr c12 (fun q g1 g2 => F q (by omega)), ⟨g1, (f2 _ (by omega)).trans p1⟩⟩, ⟨w', pT, pM, pH, pL, pC, pD, pN, pI, pJ⟩, m2, RY_kG rY kg⟩
  · refine ⟨r, h1, h2, e1, ⟨(f1 b (by omega) (by omega)).trans c1, Mck M1.1⟩, e2, D, _, _, fun a => if a = A 64 then [] else Q a, f, AI, UI, QI, T, N, ln, le, it, Y2, ⟨(F b (by omega)).trans c1, (F tS (by omega)).trans c2, (F X (by omega)).trans c3, ⟨F1, SR_fr s1 (fun q g1 g2 => f2 q (by omega))⟩, fun a g1 g2 => ?_, (F (X + 31) (by omega)).trans c6, fun n bb hn hf => ⟨⟨_, SR_fr (c7 n bb hn hf).1.choose_spec (fun q g1 g2 => F q (by have := pI n bb hn hf; omega))⟩, fun a g1 g2 => RU_mono (fun q hq => ⟨hq, F q (by have := (pD q hq).1; omega)⟩) ((c7 n bb hn hf).2 a g1 g2)⟩, SHT_fr c8 (fun q hq => F q (by omega)), TPE_fr c9 (F (X + 33) (by omega)), RDc_fr c10 (F (X + 34) (by omega)), RcOK_fr c11 (fun q g1 g2 => F q (by omega)), WSO_fr c12 (fun q g1 g2 => F q (by omega)), ⟨g1, (f2 _ (by omega)).trans p1⟩⟩, ⟨w', fun a g1 g2 => ?_, pM, pH, pL, pC, pD, pN, pI, pJ⟩, m2, RY_kG rY kg⟩
    · rw [arA_64] at g2
      show RU D h2 (if a = A 64 then none else U a) (if a = A 64 then [] else Q a)
      by_cases e : a = A 64
      · rw [if_pos e, if_pos e]; exact Or.inl ⟨rfl, rfl⟩
      · rw [if_neg e, if_neg e]; exact c5' a g1 (by omega)
    · rw [arA_64] at g2
      show TX _ a (if a = A 64 then [] else Q a)
      by_cases e : a = A 64
      · rw [if_pos e]
        refine TX_nil ?_
        rw [e, show 74 + 40 * A 64 = 70 + 40 * A 64 + 4 by omega]
        exact arA_0 q1 (by omega)
      · rw [if_neg e]
        exact TX_cg (by omega) (fun j hj => arA_n (by omega)) (pT a g1 (by omega))
end ST
