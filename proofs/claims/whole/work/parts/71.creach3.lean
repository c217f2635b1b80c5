/-- the search's end -/
noncomputable def bfE (w : Int64) (c0 : Int) (N f0 : Nat) : zB := bf w c0 N f0 4096
section CRg
variable {rc tS : Nat} {c0 : Int} {N f0 : Nat} {w ot : Int64}
theorem C_anewL (hN : 2 ≤ N ∧ N ≤ 7) (hb : tS < rc ∨ rc + 5 ≤ tS) (hot : ot = bset (Ow w c0 N f0)) (h0 : VF w c0 N f0 f0) {h0' : zH} (hT0 : hST h0' tS) : ∀ (d k : Nat) (h : zH) (g0 g1 g2 g3 : Nat → Int32) (fc cc : Int32), k + d = 4096 → RcS h rc g0 g1 g2 g3 fc cc c0 N f0 w ot → CBr N g0 g1 g2 fc cc (bf w c0 N f0 k) → fr rc 5 h0' h →
    ∃ h' g0' g1' g2' g3' fc' cc', f_X3_searchAnew_b46 tS (some rc) (iI (k : Int)) h = some h' ∧ RcS h' rc g0' g1' g2' g3' fc' cc' c0 N f0 w ot ∧ CBr N g0' g1' g2' fc' cc' (bfE w c0 N f0) ∧ fr rc 5 h0' h' := by
  have fin : ∀ (k : Nat) (h : zH) (g0 g1 g2 g3 : Nat → Int32) (fc cc : Int32), k ≤ 4096 → (bf w c0 N f0 k).2.2.1 ≤ k → RcS h rc g0 g1 g2 g3 fc cc c0 N f0 w ot → CBr N g0 g1 g2 fc cc (bf w c0 N f0 k) → fr rc 5 h0' h → ∃ h' g0' g1' g2' g3' fc' cc', f_X3_searchAnew_b46 tS (some rc) (iI (k : Int)) h = some h' ∧ RcS h' rc g0' g1' g2' g3' fc' cc' c0 N f0 w ot ∧ CBr N g0' g1' g2' fc' cc' (bfE w c0 N f0) ∧ fr rc 5 h0' h' := by
    intro k h g0 g1 g2 g3 fc cc hk hc hS hC hF
    refine ⟨h, g0, g1, g2, g3, fc, cc, ?_, hS, by unfold bfE; rw [bf_fin hN h0 hc hk]; exact hC, hF⟩
    unfold f_X3_searchAnew_b46
    refine z_it_done ?_
    show f_X3_searchAnew_c46 tS (some rc) (iI (k : Int)) h = _
    unfold f_X3_searchAnew_c46
    rw [Ri4 hS, Option.bind_some, hC.2.2.2.1, if_pos (cLe (by omega))]; rfl
  intro d
  induction d with
  | zero =>
    intro k h g0 g1 g2 g3 fc cc hk hS hC hF
    have := bI_cn hN (bf_I hN h0 k)
    exact fin k h g0 g1 g2 g3 fc cc (by omega) (by omega) hS hC hF
  | succ d ih =>
    intro k h g0 g1 g2 g3 fc cc hk hS hC hF
    by_cases q : k < (bf w c0 N f0 k).2.2.1
    · have hI := bf_I hN h0 k
      have hc4 := bI_cn hN hI
      obtain ⟨h1, a0, a1, a2, a3, a4, a5, u1, u2, u3, u4⟩ := C_goOn hN hb hot hI q (hST5 hT0 hb hF) hS hC
      have hq := hI.1 k q
      have hf : (bf w c0 N f0 k).2.1 k < 4096 := Nat.lt_of_lt_of_le hq.1.1 hc4.2
      have en : bf w c0 N f0 (k + 1) = prB w c0 N f0 (bf w c0 N f0 k) k := by
        show (if k < (bf w c0 N f0 k).2.2.1 then _ else _) = _
        rw [if_pos q]
      have g0f : g0 ((bf w c0 N f0 k).2.1 k) = iI ((bf w c0 N f0 k).1 ((bf w c0 N f0 k).2.1 k)) := by rw [hC.1 _ hq.1.1, if_neg (by omega)]
      obtain ⟨h', b0, b1, b2, b3, b4, b5, y1, y2⟩ := ih (k + 1) h1 a0 a1 a2 a3 a4 a5 (by omega) u2 (by rw [en]; exact u3) (fr_tr hF u4)
      refine ⟨h', b0, b1, b2, b3, b4, b5, ?_, y2⟩
      rw [← y1]
      unfold f_X3_searchAnew_b46
      refine z_it_next (s := (some rc, iI (k : Int), h)) ?_
      show f_X3_searchAnew_c46 tS (some rc) (iI (k : Int)) h = _
      unfold f_X3_searchAnew_c46
      rw [Ri4 hS, Option.bind_some, hC.2.2.2.1, if_neg (nLe (by omega)), Rg1 hS, Option.bind_some, z_len_i hS.2.2.1 (by omega), Option.bind_some, if_neg (nLe (by omega)), Option.bind_some, Ra1 hS (by omega), Option.bind_some, hC.2.1 k q, Rg0 hS, Option.bind_some, Option.bind_some, Ra1 hS (by omega), Option.bind_some, hC.2.1 k q, Ra0 hS hf, Option.bind_some, g0f, Rck hS, Option.bind_some, u1, Option.bind_some, iI_lit, iI_add]
      rfl
    · exact fin k h g0 g1 g2 g3 fc cc (by omega) (by omega) hS hC hF
theorem C_anew (hN : 2 ≤ N ∧ N ≤ 7) (hb : tS < rc ∨ rc + 5 ≤ tS) (hot : ot = bset (Ow w c0 N f0)) (h0 : VF w c0 N f0 f0) {h : zH} (hT : hST h tS) {g0 g1 g2 g3 : Nat → Int32} {fc cc : Int32} (hS : RcS h rc g0 g1 g2 g3 fc cc c0 N f0 w ot) :
    ∃ h' g0' g1' g2' g3' fc' cc', f_X3_searchAnew tS (some rc) h = some h' ∧ RcS h' rc g0' g1' g2' g3' fc' cc' c0 N f0 w ot ∧ CBr N g0' g1' g2' fc' cc' (bfE w c0 N f0) ∧ fr rc 5 h h' := by
  have h4 := pow_le6 (k := N - 1) (by omega)
  obtain ⟨h1, a0, x1, x2, x3, x4⟩ := C_fillR hS.2.1 (by omega) (M := 4 ^ (N - 1)) h4 (iI (-1))
  have S1 : RcS h1 rc a0 g1 g2 g3 fc cc c0 N f0 w ot := ⟨by rw [x4 _ (by omega)]; exact hS.1, x2, by rw [x4 _ (by omega)]; exact hS.2.2.1, by rw [x4 _ (by omega)]; exact hS.2.2.2.1, by rw [x4 _ (by omega)]; exact hS.2.2.2.2⟩
  obtain ⟨h2, a2, y1, y2, y3, y4⟩ := C_fill S1.2.2.2.1 (by omega) (iI (-4))
  have S2 : RcS h2 rc a0 g1 a2 g3 fc cc c0 N f0 w ot := ⟨by rw [y4 _ (by omega)]; exact S1.1, by rw [y4 _ (by omega)]; exact S1.2.1, by rw [y4 _ (by omega)]; exact S1.2.2.1, y2, by rw [y4 _ (by omega)]; exact S1.2.2.2.2⟩
  have f2 : fr rc 5 h h2 := fun q hq => by rw [y4 q (by omega), x4 q (by omega)]
  obtain ⟨w3, S3⟩ := Rp4 S2 (iI 0)
  obtain ⟨w4, S4⟩ := Rp5 S3 (iI 0)
  have f4 : fr rc 5 h (z_up (z_up h2 rc (cRc rc (iI 0) cc c0 N f0 w ot)) rc (cRc rc (iI 0) (iI 0) c0 N f0 w ot)) := fr_tr f2 (fr_tr (fr5 (by omega) (by omega)) (fr5 (by omega) (by omega)))
  have C4 : CBr N a0 g1 a2 (iI 0) (iI 0) B0 := ⟨fun f hf => by rw [x3 f hf]; rfl, fun i hi => absurd hi (by simp [B0]), fun c hc => by rw [y3 c hc]; rfl, rfl, by rw [cntN_neg _ _ (fun _ _ => by simp [B0])]; rfl⟩
  obtain ⟨h5, b0, b1, fc5, z1, z2, z3, z4⟩ := C_see (v := 0) S4 C4 h0.1 h4 (fun f => Or.inl rfl) (fun _ => by simp [B0]) (by omega)
  obtain ⟨h6, c0', c1, c2, c3, c4, c5, v1, v2, v3, v4⟩ := C_anewL hN hb hot h0 (h0' := h) hT 4096 0 h5 _ _ _ _ _ _ (by omega) z2 z3 (fr_tr f4 z4)
  refine ⟨h6, c0', c1, c2, c3, c4, c5, ?_, v2, v3, v4⟩
  unfold f_X3_searchAnew f_X10_formsOf
  simp only [iI_lit, iI_add, iI_sub, iI_mul, iI_neg]
  have hp4 : iI 1 <<< (iI (2 * ((N : Int) - 1)) &&& iI 31) = iI ((4 ^ (N - 1) : Nat) : Int) := by rw [show (N : Int) - 1 = ((N - 1 : Nat) : Int) by omega]; exact pow4 (by omega)
  have v1' : f_X3_searchAnew_b46 tS (some rc) (iI 0) h5 = some h6 := v1
  rw [Rg0 hS, Option.bind_some, Ri7 hS, Option.bind_some, iI_sub, iI_mul, z_b2_some, hp4, x1, Option.bind_some, Rg2 S1, Option.bind_some, y1, Option.bind_some, w3, Option.bind_some, w4, Option.bind_some, Ri8 S4, Option.bind_some, Rck S4, Option.bind_some, z1, Option.bind_some]
  exact v1'
end CRg
section CRh
variable {b rc tS : Nat} {A : Int → Int} {U : Int → Option Nat} {F : Nat → Nat → Int32} {S : zS} {a : Int}
theorem C_formNow {h : zH} (hS : SAt h b S) (hR : SRel A U F S) (hW : WF A) (ha : 0 ≤ a ∧ a < A 64) (hcut : A (71 + 40 * a) < 0) : f_X0_formNow (some (b + 4 + 6 * a.toNat)) h = some (iI ((fmA A a : Nat) : Int), h) := by
  have hn := hW.n
  have pc := hW.pc ha
  have ha3 : a.toNat < 3 := by omega
  obtain ⟨ok, -, -⟩ := fmA_ok hW ha hcut
  unfold f_X0_formNow f_X0_formNow_b4
  simp only [iI_lit, iI_add, iI_sub, iI_mul, iI_neg]
  have lt : ∀ k : Nat, k ≤ (A (70 + 40 * a) - 1).toNat → nmK (fun k => (sideTo (A (75 + 40 * a + (k : Int))) (A (75 + 40 * a + ((k : Int) + 1)))).toNat) k < 4 ^ k := fun k hk => nmK_lt k (fun j hj => by have := (ok j (by omega)).1; omega)
  refine z_for0 (fun i : Nat => ((some (b + 4 + 6 * a.toNat), iI ((nmK (fun k => (sideTo (A (75 + 40 * a + (k : Int))) (A (75 + 40 * a + ((k : Int) + 1)))).toNat) i : Nat) : Int), iI ((i : Int) + 1), h) : Option Nat × Int32 × Int32 × zH)) (A (70 + 40 * a) - 1).toNat (fun i hi => ?_) ?_
  · have o := ok i (by omega)
    have c1 := hW.ce (a := a) (p := (i : Int)) ⟨ha, by omega, by omega⟩
    have c2 := hW.ce (a := a) (p := (i : Int) + 1) ⟨ha, by omega, by omega⟩
    show f_X0_formNow_c4 (some (b + 4 + 6 * a.toNat)) _ (iI ((i : Int) + 1)) h = _
    unfold f_X0_formNow_c4
    simp only [iI_lit, iI_add, iI_sub, iI_mul, iI_neg]
    rw [An0 hS ha3, Option.bind_some, hR.m0 a ha.1 ha.2, if_neg (nLe (by omega)), Ag4 hS ha3, Option.bind_some, show (i : Int) + 1 - 1 = (i : Int) by omega, Arow hS ha3 (by omega) (by omega) (by omega), Option.bind_some, hR.r0 a (i : Int) ha.1 ha.2 (by omega) (by omega), Option.bind_some, Arow hS ha3 (by omega) (by omega) (by omega), Option.bind_some, hR.r0 a ((i : Int) + 1) ha.1 ha.2 (by omega) (by omega), C_sideOf c1.1 c1.2 o.1.1 o.1.2 c2.1 o.2.1.symm, z_b2_some]
    have e : sideTo (A (75 + 40 * a + (i : Int))) (A (75 + 40 * a + ((i : Int) + 1))) = (((sideTo (A (75 + 40 * a + (i : Int))) (A (75 + 40 * a + ((i : Int) + 1)))).toNat : Nat) : Int) := by omega
    rw [e, or4 (lt i (by omega)) (by omega) (by omega)]
    rfl
  · show f_X0_formNow_c4 (some (b + 4 + 6 * a.toNat)) _ (iI (((A (70 + 40 * a) - 1).toNat : Int) + 1)) h = _
    unfold f_X0_formNow_c4
    rw [An0 hS ha3, Option.bind_some, hR.m0 a ha.1 ha.2, if_pos (cLe (by omega))]
    rfl
/-- what the latest search rests on, and what it found -/
def RcOK (h : zH) (rc : Nat) : Prop := ∃ g0 g1 g2 g3 fc cc c0 N f0 w ot, RcS h rc g0 g1 g2 g3 fc cc c0 N f0 w ot ∧ (N = 0 ∨ ((0 ≤ c0 ∧ c0 < 64) ∧ N ≤ 7 ∧ f0 < 4096 ∧ (∀ c, c < 64 → g2 c = iI ((bfE w c0 N f0).2.2.2 c)) ∧ fc = iI ((bfE w c0 N f0).2.2.1 : Int) ∧ cc = iI ((cntN (bfE w c0 N f0).2.2.2 64 : Nat) : Int)))
theorem lgc_eq {x y : Int64} : (lg_cmp x y = (0 : Int32)) ↔ x = y := by
  unfold lg_cmp
  constructor
  · intro h
    by_cases q1 : y < x
    · rw [if_pos q1] at h; exact absurd h (by decide)
    · rw [if_neg q1] at h
      by_cases q2 : x = y
      · exact q2
      · rw [if_neg q2] at h; exact absurd h (by decide)
  · intro h; subst h
    rw [if_neg (fun q => Int64.lt_irrefl q), if_pos rfl]
theorem C_rsearch {h : zH} (hT : hST h tS) (hb : tS < rc ∨ rc + 5 ≤ tS) (hd : b + 30 ≤ rc ∨ rc + 5 ≤ b) (hS : SAt h b S) (hR : SRel A U F S) (hW : WF A) (ha : 0 ≤ a ∧ a < A 64) (hcut : A (71 + 40 * a) < 0) (hK : RcOK h rc) :
    ∃ h', f_X3_search tS (some rc) (some b) (some (b + 4 + 6 * a.toNat)) h = some h' ∧ fr rc 5 h h' ∧ RcOK h' rc ∧ ∃ g0 g1 g2 g3 fc cc c0 N f0 w ot, RcS h' rc g0 g1 g2 g3 fc cc c0 N f0 w ot ∧ (∀ c, c < 64 → g2 c = iI ((bfE (wA A) (A (75 + 40 * a)) (A (70 + 40 * a)).toNat (fmA A a)).2.2.2 c)) ∧ fc = iI ((bfE (wA A) (A (75 + 40 * a)) (A (70 + 40 * a)).toNat (fmA A a)).2.2.1 : Int) ∧ cc = iI ((cntN (bfE (wA A) (A (75 + 40 * a)) (A (70 + 40 * a)).toNat (fmA A a)).2.2.2 64 : Nat) : Int) := by
  have hn := hW.n
  have pc := hW.pc ha
  have hN : 2 ≤ (A (70 + 40 * a)).toNat ∧ (A (70 + 40 * a)).toNat ≤ 7 := by omega
  have ha3 : a.toNat < 3 := by omega
  have V0 := VF0 hW ha hcut
  have f04 : fmA A a < 4096 := Nat.lt_of_lt_of_le V0.1 (pow_le6 (by omega))
  have ce0 := hW.ce (a := a) (p := 0) ⟨ha, by omega, by omega⟩
  rw [Int.add_zero] at ce0
  obtain ⟨g0, g1, g2, g3, fc, cc, c0, N, f0, w, ot, k1, k2⟩ := hK
  have ewA : S.W ||| S.T = wA A := by rw [hR.w, hR.k]; rfl
  have r00 : S.r a.toNat 0 0 = iI (A (75 + 40 * a)) := by have := hR.r0 a 0 ha.1 ha.2 (by omega) (by omega); rwa [Int.add_zero] at this
  have rd0 : z_aI h (some (b + 5 + 6 * a.toNat + 0)) (iI 0) = some (iI (A (75 + 40 * a))) := by rw [Arow hS ha3 (by omega) (by omega) (by omega)]; exact congrArg some r00
  have eN : (((A (70 + 40 * a)).toNat : Nat) : Int) = A (70 + 40 * a) := by omega
  -- the search anew
  have anew : ∃ h', f_X3_search_b59 tS (some rc) (some (b + 4 + 6 * a.toNat)) (iI ((fmA A a : Nat) : Int)) (wA A) h = some h' ∧ fr rc 5 h h' ∧ ∃ g0 g1 g2 g3 fc cc ot, RcS h' rc g0 g1 g2 g3 fc cc (A (75 + 40 * a)) (A (70 + 40 * a)).toNat (fmA A a) (wA A) ot ∧ (∀ c, c < 64 → g2 c = iI ((bfE (wA A) (A (75 + 40 * a)) (A (70 + 40 * a)).toNat (fmA A a)).2.2.2 c)) ∧ fc = iI ((bfE (wA A) (A (75 + 40 * a)) (A (70 + 40 * a)).toNat (fmA A a)).2.2.1 : Int) ∧ cc = iI ((cntN (bfE (wA A) (A (75 + 40 * a)) (A (70 + 40 * a)).toNat (fmA A a)).2.2.2 64 : Nat) : Int) := by
    have o : ∀ (g : zH) (x : zMC) (q : Nat), b ≤ q → q < b + 30 → z_up g rc x q = g q := fun g x q q1 q2 => z_up_n _ _ (by omega)
    have k10 : h rc = .inr (3, [tA (some (rc + 1)), tA (some (rc + 2)), tA (some (rc + 3)), tA (some (rc + 4)), tI fc, tI cc, tI (iI c0), tI (iI (N : Int)), tI (iI (f0 : Int)), tJ w, tJ ot]) := k1.1
    have w1 : z_pF h 3 6 (some rc) (tI (iI (A (75 + 40 * a)))) = some (z_up h rc (cRc rc fc cc (A (75 + 40 * a)) N f0 w ot)) := z_pF_k k10 (Nat.le_of_ble_eq_true rfl)
    have s1 := SAt_fr (h' := z_up h rc (cRc rc fc cc (A (75 + 40 * a)) N f0 w ot)) hS (fun q q1 q2 => o _ _ q q1 q2)
    have w2 : z_pF (z_up h rc (cRc rc fc cc (A (75 + 40 * a)) N f0 w ot)) 3 7 (some rc) (tI (iI (A (70 + 40 * a)))) = some (z_up (z_up h rc (cRc rc fc cc (A (75 + 40 * a)) N f0 w ot)) rc (cRc rc fc cc (A (75 + 40 * a)) (A (70 + 40 * a)).toNat f0 w ot)) := by
      rw [z_pF_k (h := z_up h rc (cRc rc fc cc (A (75 + 40 * a)) N f0 w ot)) (z_up_s _ _ _) (Nat.le_of_ble_eq_true rfl)]
      unfold cRc
      rw [eN]; rfl
    have w3 : z_pF (z_up (z_up h rc (cRc rc fc cc (A (75 + 40 * a)) N f0 w ot)) rc (cRc rc fc cc (A (75 + 40 * a)) (A (70 + 40 * a)).toNat f0 w ot)) 3 8 (some rc) (tI (iI ((fmA A a : Nat) : Int))) = some (z_up (z_up (z_up h rc (cRc rc fc cc (A (75 + 40 * a)) N f0 w ot)) rc (cRc rc fc cc (A (75 + 40 * a)) (A (70 + 40 * a)).toNat f0 w ot)) rc (cRc rc fc cc (A (75 + 40 * a)) (A (70 + 40 * a)).toNat (fmA A a) w ot)) := z_pF_k (z_up_s _ _ _) (Nat.le_of_ble_eq_true rfl)
    have w4 : z_pF (z_up (z_up (z_up h rc (cRc rc fc cc (A (75 + 40 * a)) N f0 w ot)) rc (cRc rc fc cc (A (75 + 40 * a)) (A (70 + 40 * a)).toNat f0 w ot)) rc (cRc rc fc cc (A (75 + 40 * a)) (A (70 + 40 * a)).toNat (fmA A a) w ot)) 3 9 (some rc) (tJ (wA A)) = some (z_up (z_up (z_up (z_up h rc (cRc rc fc cc (A (75 + 40 * a)) N f0 w ot)) rc (cRc rc fc cc (A (75 + 40 * a)) (A (70 + 40 * a)).toNat f0 w ot)) rc (cRc rc fc cc (A (75 + 40 * a)) (A (70 + 40 * a)).toNat (fmA A a) w ot)) rc (cRc rc fc cc (A (75 + 40 * a)) (A (70 + 40 * a)).toNat (fmA A a) (wA A) ot)) := z_pF_k (z_up_s _ _ _) (Nat.le_of_ble_eq_true rfl)
    obtain ⟨h4, e4⟩ : ∃ h4, h4 = z_up (z_up (z_up (z_up h rc (cRc rc fc cc (A (75 + 40 * a)) N f0 w ot)) rc (cRc rc fc cc (A (75 + 40 * a)) (A (70 + 40 * a)).toNat f0 w ot)) rc (cRc rc fc cc (A (75 + 40 * a)) (A (70 + 40 * a)).toNat (fmA A a) w ot)) rc (cRc rc fc cc (A (75 + 40 * a)) (A (70 + 40 * a)).toNat (fmA A a) (wA A) ot) := ⟨_, rfl⟩
    rw [← e4] at w4
    have o4 : ∀ q, q ≠ rc → h4 q = h q := fun q hq => by rw [e4, z_up_n _ _ hq, z_up_n _ _ hq, z_up_n _ _ hq, z_up_n _ _ hq]
    have S4 : RcS h4 rc g0 g1 g2 g3 fc cc (A (75 + 40 * a)) (A (70 + 40 * a)).toNat (fmA A a) (wA A) ot := ⟨by rw [e4, z_up_s], by rw [o4 _ (by omega)]; exact k1.2.1, by rw [o4 _ (by omega)]; exact k1.2.2.1, by rw [o4 _ (by omega)]; exact k1.2.2.2.1, by rw [o4 _ (by omega)]; exact k1.2.2.2.2⟩
    have f4 : fr rc 5 h h4 := fun q hq => o4 q (by omega)
    obtain ⟨h5, g3', u1, u2, u3, u4⟩ := C_layOut hN hb f04 (fun p hp => (V0.2.1 p hp).1) (hST5 hT hb f4) S4
    have hot : wA A &&& (bset (inP (A (75 + 40 * a)) (A (70 + 40 * a)).toNat (fmA A a)) ^^^ (-1 : Int64)) = bset (Ow (wA A) (A (75 + 40 * a)) (A (70 + 40 * a)).toNat (fmA A a)) := by
      rw [bset_not]
      have ew : wA A = bset (fun c => A c = 1 ∨ hasP A c) := by unfold wA; exact bset_or _ _
      conv => lhs; rw [ew]
      rw [bset_and]
      refine bset_cg (fun c q1 q2 => ?_)
      unfold Ow
      have hbt : bt (wA A) c.toNat = true ↔ (A c = 1 ∨ hasP A c) := by
        rw [ew, bt_bset _ (by omega), Int.toNat_of_nonneg q1]
      rw [hbt]
      exact ⟨fun q => ⟨⟨q1, q2, q.1⟩, q.2⟩, fun q => ⟨q.1.2.2, q.2⟩⟩
    have w6 : z_pF h5 3 10 (some rc) (tJ (bset (Ow (wA A) (A (75 + 40 * a)) (A (70 + 40 * a)).toNat (fmA A a)))) = some (z_up h5 rc (cRc rc fc cc (A (75 + 40 * a)) (A (70 + 40 * a)).toNat (fmA A a) (wA A) (bset (Ow (wA A) (A (75 + 40 * a)) (A (70 + 40 * a)).toNat (fmA A a))))) := z_pF_k u2.1 (Nat.le_of_ble_eq_true rfl)
    have S6 : RcS (z_up h5 rc (cRc rc fc cc (A (75 + 40 * a)) (A (70 + 40 * a)).toNat (fmA A a) (wA A) (bset (Ow (wA A) (A (75 + 40 * a)) (A (70 + 40 * a)).toNat (fmA A a))))) rc g0 g1 g2 g3' fc cc (A (75 + 40 * a)) (A (70 + 40 * a)).toNat (fmA A a) (wA A) (bset (Ow (wA A) (A (75 + 40 * a)) (A (70 + 40 * a)).toNat (fmA A a))) := ⟨z_up_s _ _ _, by rw [z_up_n _ _ (by omega)]; exact u2.2.1, by rw [z_up_n _ _ (by omega)]; exact u2.2.2.1, by rw [z_up_n _ _ (by omega)]; exact u2.2.2.2.1, by rw [z_up_n _ _ (by omega)]; exact u2.2.2.2.2⟩
    have f6 : fr rc 5 h (z_up h5 rc (cRc rc fc cc (A (75 + 40 * a)) (A (70 + 40 * a)).toNat (fmA A a) (wA A) (bset (Ow (wA A) (A (75 + 40 * a)) (A (70 + 40 * a)).toNat (fmA A a))))) := fr_tr f4 (fr_tr u4 (fr5 (by omega) (by omega)))
    obtain ⟨h7, a0, a1, a2, a3, a4, a5, x1, x2, x3, x4⟩ := C_anew hN hb rfl V0 (hST5 hT hb f6) S6
    refine ⟨h7, ?_, fr_tr f6 x4, a0, a1, a2, a3, a4, a5, _, x2, x3.2.2.1, x3.2.2.2.1, x3.2.2.2.2⟩
    unfold f_X3_search_b59
    simp only [iI_lit, iI_add, iI_sub, iI_mul, iI_neg]
    rw [Ag4 hS ha3, Option.bind_some, rd0, Option.bind_some, w1, Option.bind_some, An0 s1 ha3, Option.bind_some, hR.m0 a ha.1 ha.2, w2, Option.bind_some, w3, Option.bind_some, w4, Option.bind_some, Rj9 S4, Option.bind_some, Ri8 S4, Option.bind_some, Rck S4, Option.bind_some, u1, z_b2_some, hot, w6, Option.bind_some, Rck S6, Option.bind_some, x1, Option.bind_some]
  obtain ⟨h', n1, n2, b0, b1, b2, b3, b4, b5, b6, n3, n4, n5, n6⟩ := anew
  have okn : RcOK h' rc := ⟨b0, b1, b2, b3, b4, b5, _, _, _, _, b6, n3, Or.inr ⟨ce0, hN.2, f04, n4, n5, n6⟩⟩
  have done : f_X3_search tS (some rc) (some b) (some (b + 4 + 6 * a.toNat)) h = f_X3_search_b59 tS (some rc) (some (b + 4 + 6 * a.toNat)) (iI ((fmA A a : Nat) : Int)) (wA A) h → ∃ h', f_X3_search tS (some rc) (some b) (some (b + 4 + 6 * a.toNat)) h = some h' ∧ fr rc 5 h h' ∧ RcOK h' rc ∧ ∃ g0 g1 g2 g3 fc cc c0 N f0 w ot, RcS h' rc g0 g1 g2 g3 fc cc c0 N f0 w ot ∧ (∀ c, c < 64 → g2 c = iI ((bfE (wA A) (A (75 + 40 * a)) (A (70 + 40 * a)).toNat (fmA A a)).2.2.2 c)) ∧ fc = iI ((bfE (wA A) (A (75 + 40 * a)) (A (70 + 40 * a)).toNat (fmA A a)).2.2.1 : Int) ∧ cc = iI ((cntN (bfE (wA A) (A (75 + 40 * a)) (A (70 + 40 * a)).toNat (fmA A a)).2.2.2 64 : Nat) : Int) := fun e => ⟨h', by rw [e]; exact n1, n2, okn, b0, b1, b2, b3, b4, b5, _, _, _, _, b6, n3, n4, n5, n6⟩
  have pre : f_X3_search tS (some rc) (some b) (some (b + 4 + 6 * a.toNat)) h = (if iI c0 = iI (A (75 + 40 * a)) then (if iI (N : Int) = iI (A (70 + 40 * a)) then (if iI (f0 : Int) = iI ((fmA A a : Nat) : Int) then (if lg_cmp w (wA A) = (0 : Int32) then some h else f_X3_search_b59 tS (some rc) (some (b + 4 + 6 * a.toNat)) (iI ((fmA A a : Nat) : Int)) (wA A) h) else f_X3_search_b59 tS (some rc) (some (b + 4 + 6 * a.toNat)) (iI ((fmA A a : Nat) : Int)) (wA A) h) else f_X3_search_b59 tS (some rc) (some (b + 4 + 6 * a.toNat)) (iI ((fmA A a : Nat) : Int)) (wA A) h) else f_X3_search_b59 tS (some rc) (some (b + 4 + 6 * a.toNat)) (iI ((fmA A a : Nat) : Int)) (wA A) h) := by
    have rd0' : z_aI h (some (b + 5 + 6 * a.toNat + 0)) (0 : Int32) = some (iI (A (75 + 40 * a))) := rd0
    unfold f_X3_search
    rw [Ack hS ha3, Option.bind_some, C_formNow hS hR hW ha hcut, z_b2_some, SW hS, Option.bind_some, ST hS, Option.bind_some, Ri6 k1, Option.bind_some, Ag4 hS ha3, Option.bind_some, rd0', Option.bind_some, ewA, Ri7 k1, Option.bind_some, An0 hS ha3, Option.bind_some, hR.m0 a ha.1 ha.2, Ri8 k1, Option.bind_some, Rj9 k1, Option.bind_some]
  by_cases q1 : iI c0 = iI (A (75 + 40 * a))
  · rw [if_pos q1] at pre
    by_cases q2 : iI (N : Int) = iI (A (70 + 40 * a))
    · rw [if_pos q2] at pre
      by_cases q3 : iI (f0 : Int) = iI ((fmA A a : Nat) : Int)
      · rw [if_pos q3] at pre
        by_cases q4 : lg_cmp w (wA A) = (0 : Int32)
        · rw [if_pos q4] at pre
          rcases k2 with k2 | ⟨c1, c2, c3, c4, c5, c6⟩
          · subst k2
            rw [iI_eq (by omega) (by omega) (by omega) (by omega)] at q2
            omega
          · rw [iI_eq (by omega) (by omega) (by omega) (by omega)] at q1 q2 q3
            have q4 := lgc_eq.mp q4
            have e2 : N = (A (70 + 40 * a)).toNat := by omega
            have e3 : f0 = fmA A a := by omega
            subst q1 q4 e2 e3
            exact ⟨h, pre, fr_rf _ _ _, ⟨g0, g1, g2, g3, fc, cc, _, _, _, _, ot, k1, Or.inr ⟨c1, c2, c3, c4, c5, c6⟩⟩, g0, g1, g2, g3, fc, cc, _, _, _, _, ot, k1, c4, c5, c6⟩
        · rw [if_neg q4] at pre; exact done pre
      · rw [if_neg q3] at pre; exact done pre
    · rw [if_neg q2] at pre; exact done pre
  · rw [if_neg q1] at pre; exact done pre
end CRh
