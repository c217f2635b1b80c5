section KQ
variable {tS X m : Nat} {D : Nat → Prop} {Q : Int → List zKl} {U : Int → Option Nat} {A : Int → Int}
def stQ (tS X : Nat) (U : Int → Option Nat) (A : Int → Int) (f : zH → Option (Int32 × zH)) (r : Int32) : Prop :=
  ∀ h n F, h X = oX X n → hST h tS → SR h (X + 1) A U F → RcOK h (X + 35) → ∃ h', f h = some (r, h') ∧ RcOK h' (X + 35) ∧ fr (X + 35) 5 h h'
def KQ (tS X m : Nat) (U : Int → Option Nat) (A : Int → Int) (fc fR : zH → Option (Int32 × zH)) : Prop := ∃ r, stQ tS X U A fc r ∧ stR m A fR r A
theorem KQ_no {fc fR : zH → Option (Int32 × zH)} (r : Int32) (hc : ∀ h n F S, h X = oX X n → SAt h (X + 1) S → SRel A U F S → fc h = some (r, h)) (hr : ∀ h Y, MR h m A Y → fR h = some (r, h)) : KQ tS X m U A fc fR := by
  refine ⟨r, fun h n F hX hT hS hK => ?_, fun h Y hM => ⟨h, Y, hr h Y hM, hM, kG_rf Y, fr_rf _ _ _⟩⟩
  obtain ⟨S, s1, s2⟩ := id hS
  exact ⟨h, hc h n F S hX s1 s2, hK, fr_rf _ _ _⟩
/-- the search refused, or done -/
theorem C_refuses (hts : tS < X) (hW : WF A) {a : Int} (ha : rgI a) {h : zH} {n : Int32} {F : Nat → Nat → Int32} (hX : h X = oX X n) (hT : hST h tS) (hS : SR h (X + 1) A U F) (hK : RcOK h (X + 35)) :
    (¬ (0 ≤ a ∧ a < A 64) ∧ f_X10_refusesReach tS (some X) (iI a) h = some (iI (-1), h)) ∨ ((0 ≤ a ∧ a < A 64) ∧ ¬ A (71 + 40 * a) < 0 ∧ f_X10_refusesReach tS (some X) (iI a) h = some (iI (-2), h)) ∨
    ((0 ≤ a ∧ a < A 64) ∧ A (71 + 40 * a) < 0 ∧ ∃ h', f_X10_refusesReach tS (some X) (iI a) h = some (iI 0, h') ∧ fr (X + 35) 5 h h' ∧ RcOK h' (X + 35) ∧ ∃ g0 g1 g2 g3 fc cc c0 N f0 w ot, RcS h' (X + 35) g0 g1 g2 g3 fc cc c0 N f0 w ot ∧ (∀ c, c < 64 → g2 c = iI ((bfE (wA A) (A (75 + 40 * a)) (A (70 + 40 * a)).toNat (fmA A a)).2.2.2 c)) ∧ fc = iI ((bfE (wA A) (A (75 + 40 * a)) (A (70 + 40 * a)).toNat (fmA A a)).2.2.1 : Int) ∧ cc = iI ((cntN (bfE (wA A) (A (75 + 40 * a)) (A (70 + 40 * a)).toNat (fmA A a)).2.2.2 64 : Nat) : Int)) := by
  have hn := hW.n
  obtain ⟨S, s1, s2⟩ := hS
  unfold f_X10_refusesReach
  rw [Xck hX, Option.bind_some, C_isArm hX s1 s2 hW ha, z_b2_some]
  simp only [iI_lit, iI_add, iI_sub, iI_mul, iI_neg]
  rw [ite_tb]
  by_cases c1 : 0 ≤ a ∧ a < A 64
  · rw [if_pos c1]
    simp (disch := omega) only [Xg0 hX, Xg6 hX, Option.bind_some, z_b2_some, z_i1_some, Sg3 s1, Sarm s1, Ack s1, C_isCut s1 s2 hW c1, ite_tb]
    by_cases q : A (71 + 40 * a) < 0
    · right; right
      obtain ⟨h', k1, k2, k3, k4⟩ := C_rsearch hT (rc := X + 35) (by omega) (by omega) s1 s2 hW c1 q hK
      refine ⟨c1, q, h', ?_, k2, k3, k4⟩
      have ck : z_ck h 3 (some (X + 35)) = some (X + 35) := by
        obtain ⟨g0, g1, g2, g3, fc, cc, c0, N, f0, w, ot, e, -⟩ := hK
        exact Rck e
      rw [if_neg (by omega), ck, Option.bind_some, k1, Option.bind_some]
    · right; left
      refine ⟨c1, q, ?_⟩
      rw [if_pos (by omega)]
  · left; rw [if_neg c1]; exact ⟨c1, rfl⟩
theorem R_reachL {h : zH} {Y : Nat → Nat → Int32} {g : Nat → Int} (hM : MR h m A Y) (hg : ∀ c, c < 64 → Y 16 c = iI (g c)) (hr : ∀ c, c < 64 → -2147483648 ≤ g c ∧ g c < 2147483648) : f_X11_reach_b30 (some m) (iI 0) (iI 0) h = some (iI ((cntN g 64 : Nat) : Int), h) := by
  refine z_for0 (fun i : Nat => ((some m, iI ((cntN g i : Nat) : Int), iI i, h) : Option Nat × Int32 × Int32 × zH)) 64 (fun i hi => ?_) ?_
  · show f_X11_reach_c30 (some m) (iI ((cntN g i : Nat) : Int)) (iI (i : Int)) h = _
    have q := hr i hi
    unfold f_X11_reach_c30 f_X11_reach_b51
    simp only [iI_lit, iI_add, iI_sub, iI_mul, iI_neg]
    rw [if_neg (nLe (by omega)), Mg18 hM.1, Option.bind_some, z_aI_k (hM.1 16 (by omega)) (Or.inl rfl) (by omega) (by omega) (by decide), Option.bind_some, show ((i : Int)).toNat = i by omega, hg i hi, iteLt (by omega)]
    by_cases q : g i < 0
    · rw [if_pos q]
      simp only [cntN, if_neg (show ¬ 0 ≤ g i by omega)]
      rw [Int.add_zero]; rfl
    · rw [if_neg q]
      simp only [cntN, if_pos (show 0 ≤ g i by omega)]
      rfl
  · show f_X11_reach_c30 (some m) (iI ((cntN g 64 : Nat) : Int)) (iI ((64 : Nat) : Int)) h = _
    unfold f_X11_reach_c30
    simp only [iI_lit, iI_add, iI_sub, iI_mul, iI_neg]
    rw [if_pos (cLe (by omega))]; rfl
end KQ
