abbrev VFa (A : Int → Int) (a : Int) (f : Nat) : Prop := VF (wA A) (A (75 + 40 * a)) (A (70 + 40 * a)).toNat (fmA A a) f
abbrev bIa (A : Int → Int) (a : Int) (B : zB) : Prop := bI (wA A) (A (75 + 40 * a)) (A (70 + 40 * a)).toNat (fmA A a) B
noncomputable abbrev flBa (A : Int → Int) (a : Int) (f : Nat) (v : Int) (B : zB) (p : Nat) : zB := flB (wA A) (A (75 + 40 * a)) (A (70 + 40 * a)).toNat (fmA A a) f v B p
noncomputable abbrev tnBa (A : Int → Int) (a : Int) (f : Nat) (v : Int) (B : zB) (p : Nat) : zB := tnB (wA A) (A (75 + 40 * a)) (A (70 + 40 * a)).toNat (fmA A a) f v B p
noncomputable abbrev bfa (A : Int → Int) (a : Int) (k : Nat) : zB := bf (wA A) (A (75 + 40 * a)) (A (70 + 40 * a)).toNat (fmA A a) k
theorem uI_uI (A : Int → Int) (e v v' : Int) : uI (uI A e v) e v' = uI A e v' := by
  funext j
  by_cases q : j = e
  · subst q; rw [uI_s, uI_s]
  · rw [uI_n _ _ q, uI_n _ _ q, uI_n _ _ q]
section RRf
variable {m : Nat} {A : Int → Int} {a : Int}
theorem seeB_lt (hN : 2 ≤ (A (70 + 40 * a)).toNat ∧ (A (70 + 40 * a)).toNat ≤ 7) {B : zB} (hB : bIa A a B) {f : Nat} (hf : VFa A a f) {v : Int} (hv : 0 ≤ v ∧ v ≤ (B.2.2.1 : Int)) (q : B.1 f < 0) : B.2.2.1 < 4096 := by
  have h1 := (seeB_I hN hB hf hv).1
  have h2 := bI_cn hN h1
  have e : (seeB B f v).2.2.1 = B.2.2.1 + 1 := by unfold seeB; rw [if_pos q]
  omega
/-- a form is come to, and the arm laid back -/
theorem R_comeB (hW : WF A) (ha : 0 ≤ a ∧ a < A 64) {h : zH} {Y : Nat → Nat → Int32} {B : zB} {f f' : Nat} {e to v : Int} (hM : MR h m (lyd A a f) Y) (hB : RB Y B) (hI : bIa A a B) (hV' : VFa A a f') (he : 0 ≤ e ∧ e < 530) (hu : uI (lyd A a f) e to = lyd A a f') (hv : 0 ≤ v ∧ v ≤ (B.2.2.1 : Int)) :
    ∃ h1 h2 h3, z_sI h (some (m + 1)) (iI e) (iI to) = some h1 ∧ z_ck h1 11 (some m) = some m ∧ f_X11_come (some m) (iI a) (iI v) h1 = some h2 ∧ z_gA h2 11 0 (some m) = some (some (m + 1)) ∧ z_sI h2 (some (m + 1)) (iI e) (iI (lyd A a f e)) = some h3 ∧ ∃ Y3, MR h3 m (lyd A a f) Y3 ∧ RB Y3 (seeB B f' v) ∧ kz Y Y3 ∧ fr m 19 h h3 := by
  have hn := hW.n
  have pc := hW.pc ha
  have hN : 2 ≤ (A (70 + 40 * a)).toNat ∧ (A (70 + 40 * a)).toNat ≤ 7 := by omega
  obtain ⟨Y1, k1, k2, k3⟩ := go1_ms hM (e := e) (v := to) he.1 he.2
  rw [hu] at k1
  have e70 : lyd A a f' (70 + 40 * a) = A (70 + 40 * a) := lyd_n (by omega)
  have hf' : f' < 4096 := Nat.lt_of_lt_of_le hV'.1 (pow_le6 (by omega))
  obtain ⟨h2, Y2, u1, u2, u3, u4, u5⟩ := R_come k1 (by omega) (by rw [e70]; exact pc) (fun p q1 q2 => by rw [e70] at q2; rw [lyd_c q1 q2]; exact (hV'.2.1 p.toNat (by omega)).1) (RB_o1 hB k2) hI.2.1 (by have := bI_cn hN hI; omega) hf' (fmO_lyd hW ha hV') (seeB_lt hN hI hV' hv) v
  obtain ⟨Y3, x1, x2, x3⟩ := go1_ms u2 (e := e) (v := lyd A a f e) he.1 he.2
  rw [← hu, uI_uI, uI_self] at x1
  refine ⟨_, h2, _, M_set hM he.1 he.2, Mck k1.1, u1, Mg0 u2.1, M_set u2 he.1 he.2, Y3, x1, RB_o1 u3 x2, kz_tr (kz_o1 k2) (kz_tr u4 (kz_o1 x2)), fr_tr k3 (fr_tr u5 x3)⟩
theorem R_turns (hW : WF A) (ha : 0 ≤ a ∧ a < A 64) (hcut : A (71 + 40 * a) < 0) {f : Nat} (hV : VFa A a f) {v : Int} (k : Int) {B : zB} (hI : bIa A a B) (hv : 0 ≤ v ∧ v + 1 ≤ (B.2.2.1 : Int)) {h0 : zH} {Y0 : Nat → Nat → Int32} : ∀ (d s : Nat) (h : zH) (Y : Nat → Nat → Int32), s + d = 4 → MR h m (lyd A a f) Y → RB Y (tnBa A a f v B s) → kz Y0 Y → fr m 19 h0 h →
    ∃ h' Y', f_X11_layReach_b243 (some m) (iI a) (iI (A (70 + 40 * a))) (iI k) (iI v) (iI (pth (A (75 + 40 * a)) f ((A (70 + 40 * a)).toNat - 1))) (iI (s : Int)) h = some (.inl (some m, iI a, iI (A (70 + 40 * a)), iI (k + 1), h')) ∧ MR h' m (lyd A a f) Y' ∧ RB Y' (tnBa A a f v B 4) ∧ kz Y0 Y' ∧ fr m 19 h0 h' := by
  have hn := hW.n
  have pc := hW.pc ha
  have hN : 2 ≤ (A (70 + 40 * a)).toNat ∧ (A (70 + 40 * a)).toNat ≤ 7 := by omega
  have WL := lyd_WF hW ha hcut hV
  intro d
  induction d with
  | zero =>
    intro s h Y hs hM hB hK hF
    have e4 : s = 4 := by omega
    subst e4
    refine ⟨h, Y, ?_, hM, hB, hK, hF⟩
    unfold f_X11_layReach_b243
    refine z_it_done ?_
    show f_X11_layReach_c243 (some m) (iI a) (iI (A (70 + 40 * a))) (iI k) (iI v) (iI (pth (A (75 + 40 * a)) f ((A (70 + 40 * a)).toNat - 1))) (iI ((4 : Nat) : Int)) h = _
    unfold f_X11_layReach_c243
    simp only [iI_lit, iI_add, iI_sub, iI_mul, iI_neg]
    rw [if_pos (cLe (by omega))]
    rfl
  | succ d ih =>
    intro s h Y hs hM hB hK hF
    have hIs := tnB_I hN hI hV hv s (by omega)
    have hIc : B.2.2.1 ≤ (tnBa A a f v B s).2.2.1 := hIs.2.1
    have v0 := (hV.2.1 ((A (70 + 40 * a)).toNat - 2) (by omega)).1
    have r := bes_rg (s := (s : Int)) v0.1 v0.2
    have ec : lyd A a f (75 + 40 * a + (A (70 + 40 * a) - 2)) = pth (A (75 + 40 * a)) f ((A (70 + 40 * a)).toNat - 2) := by rw [lyd_c (by omega) (by omega)]; congr 1; omega
    have et : lyd A a f (75 + 40 * a + (A (70 + 40 * a) - 1)) = pth (A (75 + 40 * a)) f ((A (70 + 40 * a)).toNat - 1) := by rw [lyd_c (by omega) (by omega)]; congr 1; omega
    have nxt : ∀ h1 Y1, f_X11_layReach_c243 (some m) (iI a) (iI (A (70 + 40 * a))) (iI k) (iI v) (iI (pth (A (75 + 40 * a)) f ((A (70 + 40 * a)).toNat - 1))) (iI (s : Int)) h = some (.inl (some m, iI a, iI (A (70 + 40 * a)), iI k, iI v, iI (pth (A (75 + 40 * a)) f ((A (70 + 40 * a)).toNat - 1)), iI ((s + 1 : Nat) : Int), h1)) → MR h1 m (lyd A a f) Y1 → RB Y1 (tnBa A a f v B (s + 1)) → kz Y Y1 → fr m 19 h h1 → ∃ h' Y', f_X11_layReach_b243 (some m) (iI a) (iI (A (70 + 40 * a))) (iI k) (iI v) (iI (pth (A (75 + 40 * a)) f ((A (70 + 40 * a)).toNat - 1))) (iI (s : Int)) h = some (.inl (some m, iI a, iI (A (70 + 40 * a)), iI (k + 1), h')) ∧ MR h' m (lyd A a f) Y' ∧ RB Y' (tnBa A a f v B 4) ∧ kz Y0 Y' ∧ fr m 19 h0 h' := by
      intro h1 Y1 q1 q2 q3 q4 q5
      obtain ⟨h', Y', y1, y2⟩ := ih (s + 1) h1 Y1 (by omega) q2 q3 (kz_tr hK q4) (fr_tr hF q5)
      refine ⟨h', Y', ?_, y2⟩
      rw [← y1]
      unfold f_X11_layReach_b243
      exact z_it_next (s := (some m, iI a, iI (A (70 + 40 * a)), iI k, iI v, iI (pth (A (75 + 40 * a)) f ((A (70 + 40 * a)).toNat - 1)), iI (s : Int), h)) q1
    have pre : f_X11_layReach_c243 (some m) (iI a) (iI (A (70 + 40 * a))) (iI k) (iI v) (iI (pth (A (75 + 40 * a)) f ((A (70 + 40 * a)).toNat - 1))) (iI (s : Int)) h = @ite _ (free (lyd A a f) (bes (pth (A (75 + 40 * a)) f ((A (70 + 40 * a)).toNat - 2)) (s : Int))) (Classical.propDecidable _) ((z_sI h (some (m + 1)) (iI (75 + 40 * a + (A (70 + 40 * a) - 1))) (iI (bes (pth (A (75 + 40 * a)) f ((A (70 + 40 * a)).toNat - 2)) (s : Int)))).bind fun h12 => (z_ck h12 11 (some m)).bind fun _ => (f_X11_come (some m) (iI a) (iI (v + 1)) h12).bind fun h14 => (z_gA h14 11 0 (some m)).bind fun v15 => (z_sI h14 v15 (iI (75 + 40 * a + (A (70 + 40 * a) - 1))) (iI (pth (A (75 + 40 * a)) f ((A (70 + 40 * a)).toNat - 1)))).bind fun h18 => some (.inl (some m, iI a, iI (A (70 + 40 * a)), iI k, iI v, iI (pth (A (75 + 40 * a)) f ((A (70 + 40 * a)).toNat - 1)), iI ((s + 1 : Nat) : Int), h18))) (some (.inl (some m, iI a, iI (A (70 + 40 * a)), iI k, iI v, iI (pth (A (75 + 40 * a)) f ((A (70 + 40 * a)).toNat - 1)), iI ((s + 1 : Nat) : Int), h))) := by
      unfold f_X11_layReach_c243
      simp only [iI_lit, iI_add, iI_sub, iI_mul, iI_neg]
      rw [if_neg (nLe (by omega)), Mck hM.1, Option.bind_some, R_cell hM (by omega) (by omega), z_b2_some, ec, R_beside v0.1 v0.2 (by omega), z_b2_some, Mck hM.1, Option.bind_some, R_isFree hM WL (by omega), z_b2_some, ite_tb]
      simp only [f_X11_layReach_b314, R_of, Option.bind_some, z_b2_some, z_i1_some, iI_add, iI_sub, Mg0 hM.1, iI_lit, iI_add, iI_sub, iI_mul, iI_neg]
      rw [show 70 + 40 * a + 5 + A (70 + 40 * a) - 1 = 75 + 40 * a + (A (70 + 40 * a) - 1) by omega]
      rfl
    rcases trn_tn hW ha hcut (s := s) (by omega) hV with ⟨t1, t2⟩ | ⟨t1, t2, t3⟩
    · rw [if_neg t2] at pre
      refine nxt h Y pre hM ?_ (kz_rf Y) (fr_rf _ _ _)
      show RB Y (seeO (tnBa A a f v B s) (tn (wA A) (A (75 + 40 * a)) (A (70 + 40 * a)).toNat (fmA A a) f s) (v + 1))
      rw [t1]; exact hB
    · rw [if_pos t2] at pre
      have hV' : VFa A a (tnf f ((A (70 + 40 * a)).toNat - 2) s) := VF_tn hN (by omega) hV t1
      obtain ⟨h1, h2, h3, w1, w2, w3, w4, w5, Y3, x1, x2, x3, x4⟩ := R_comeB (v := v + 1) hW ha hM hB hIs.1 hV' (e := 75 + 40 * a + (A (70 + 40 * a) - 1)) (by omega) t3 (by omega)
      rw [et] at w5
      refine nxt h3 Y3 ?_ x1 ?_ x3 x4
      · rw [pre, w1, Option.bind_some, w2, Option.bind_some, w3, Option.bind_some, w4, Option.bind_some, w5, Option.bind_some]
      · show RB Y3 (seeO (tnBa A a f v B s) (tn (wA A) (A (75 + 40 * a)) (A (70 + 40 * a)).toNat (fmA A a) f s) (v + 1))
        rw [t1]; exact x2
theorem R_flips (hW : WF A) (ha : 0 ≤ a ∧ a < A 64) (hcut : A (71 + 40 * a) < 0) {f : Nat} (hV : VFa A a f) {v : Int} (k : Int) {B : zB} (hI : bIa A a B) (hv : 0 ≤ v ∧ v + 1 ≤ (B.2.2.1 : Int)) {h0 : zH} {Y0 : Nat → Nat → Int32} : ∀ (d p : Nat) (h : zH) (Y : Nat → Nat → Int32), p + d + 2 = (A (70 + 40 * a)).toNat → MR h m (lyd A a f) Y → RB Y (flBa A a f v B p) → kz Y0 Y → fr m 19 h0 h →
    ∃ h' Y', f_X11_layReach_b164 (some m) (iI a) (iI (A (70 + 40 * a))) (iI k) (iI v) (iI (pth (A (75 + 40 * a)) f ((A (70 + 40 * a)).toNat - 1))) (iI ((p : Int) + 1)) h = some (.inl (some m, iI a, iI (A (70 + 40 * a)), iI (k + 1), h')) ∧ MR h' m (lyd A a f) Y' ∧ RB Y' (tnBa A a f v (flBa A a f v B ((A (70 + 40 * a)).toNat - 2)) 4) ∧ kz Y0 Y' ∧ fr m 19 h0 h' := by
  have hn := hW.n
  have pc := hW.pc ha
  have hN : 2 ≤ (A (70 + 40 * a)).toNat ∧ (A (70 + 40 * a)).toNat ≤ 7 := by omega
  have WL := lyd_WF hW ha hcut hV
  intro d
  induction d with
  | zero =>
    intro p h Y hp hM hB hK hF
    have ep : p = (A (70 + 40 * a)).toNat - 2 := by omega
    have hIs := flB_I hN hI hV hv p (by omega)
    obtain ⟨h', Y', y1, y2⟩ := R_turns hW ha hcut hV (v := v) k hIs.1 (by omega) (h0 := h0) (Y0 := Y0) 4 0 h Y (by omega) hM hB hK hF
    rw [ep] at y2
    refine ⟨h', Y', ?_, y2⟩
    unfold f_X11_layReach_b164
    refine z_it_done ?_
    show f_X11_layReach_c164 (some m) (iI a) (iI (A (70 + 40 * a))) (iI k) (iI v) (iI (pth (A (75 + 40 * a)) f ((A (70 + 40 * a)).toNat - 1))) (iI ((p : Int) + 1)) h = _
    unfold f_X11_layReach_c164
    simp only [iI_lit, iI_add, iI_sub, iI_mul, iI_neg]
    have y1' : f_X11_layReach_b243 (some m) (iI a) (iI (A (70 + 40 * a))) (iI k) (iI v) (iI (pth (A (75 + 40 * a)) f ((A (70 + 40 * a)).toNat - 1))) (iI 0) h = some (.inl (some m, iI a, iI (A (70 + 40 * a)), iI (k + 1), h')) := y1
    rw [if_pos (cLe (by omega)), y1']
    rfl
  | succ d ih =>
    intro p h Y hp hM hB hK hF
    have hIs := flB_I hN hI hV hv p (by omega)
    have hIc : B.2.2.1 ≤ (flBa A a f v B p).2.2.1 := hIs.2.1
    have ec : ∀ q : Nat, (q : Int) < A (70 + 40 * a) → lyd A a f (75 + 40 * a + (q : Int)) = pth (A (75 + 40 * a)) f q := fun q hq => by rw [lyd_c (by omega) hq]; congr 1
    have c0' : lyd A a f (75 + 40 * a + ((p : Int) + 1 - 1)) = pth (A (75 + 40 * a)) f p := by rw [show (p : Int) + 1 - 1 = (p : Int) by omega]; exact ec p (by omega)
    have c1' : lyd A a f (75 + 40 * a + ((p : Int) + 1)) = pth (A (75 + 40 * a)) f (p + 1) := ec (p + 1) (by omega)
    have c2' : lyd A a f (75 + 40 * a + ((p : Int) + 1 + 1)) = pth (A (75 + 40 * a)) f (p + 2) := by rw [show (p : Int) + 1 + 1 = ((p + 2 : Nat) : Int) by omega]; exact ec (p + 2) (by omega)
    have v0 := (hV.2.1 p (by omega)).1
    have v1 := (hV.2.1 (p + 1) (by omega)).1
    have v2 := (hV.2.1 (p + 2) (by omega)).1
    have rf := flp_rg (A := lyd A a f) (c := pth (A (75 + 40 * a)) f (p + 1)) v0 v2
    have nxt : ∀ h1 Y1, f_X11_layReach_c164 (some m) (iI a) (iI (A (70 + 40 * a))) (iI k) (iI v) (iI (pth (A (75 + 40 * a)) f ((A (70 + 40 * a)).toNat - 1))) (iI ((p : Int) + 1)) h = some (.inl (some m, iI a, iI (A (70 + 40 * a)), iI k, iI v, iI (pth (A (75 + 40 * a)) f ((A (70 + 40 * a)).toNat - 1)), iI (((p + 1 : Nat) : Int) + 1), h1)) → MR h1 m (lyd A a f) Y1 → RB Y1 (flBa A a f v B (p + 1)) → kz Y Y1 → fr m 19 h h1 → ∃ h' Y', f_X11_layReach_b164 (some m) (iI a) (iI (A (70 + 40 * a))) (iI k) (iI v) (iI (pth (A (75 + 40 * a)) f ((A (70 + 40 * a)).toNat - 1))) (iI ((p : Int) + 1)) h = some (.inl (some m, iI a, iI (A (70 + 40 * a)), iI (k + 1), h')) ∧ MR h' m (lyd A a f) Y' ∧ RB Y' (tnBa A a f v (flBa A a f v B ((A (70 + 40 * a)).toNat - 2)) 4) ∧ kz Y0 Y' ∧ fr m 19 h0 h' := by
      intro h1 Y1 q1 q2 q3 q4 q5
      obtain ⟨h', Y', y1, y2⟩ := ih (p + 1) h1 Y1 (by omega) q2 q3 (kz_tr hK q4) (fr_tr hF q5)
      refine ⟨h', Y', ?_, y2⟩
      rw [← y1]
      unfold f_X11_layReach_b164
      exact z_it_next (s := (some m, iI a, iI (A (70 + 40 * a)), iI k, iI v, iI (pth (A (75 + 40 * a)) f ((A (70 + 40 * a)).toNat - 1)), iI ((p : Int) + 1), h)) q1
    have pre : f_X11_layReach_c164 (some m) (iI a) (iI (A (70 + 40 * a))) (iI k) (iI v) (iI (pth (A (75 + 40 * a)) f ((A (70 + 40 * a)).toNat - 1))) (iI ((p : Int) + 1)) h = (if flp (lyd A a f) (pth (A (75 + 40 * a)) f p) (pth (A (75 + 40 * a)) f (p + 2)) (pth (A (75 + 40 * a)) f (p + 1)) < 0 then (some (.inl (some m, iI a, iI (A (70 + 40 * a)), iI k, iI v, iI (pth (A (75 + 40 * a)) f ((A (70 + 40 * a)).toNat - 1)), iI (((p + 1 : Nat) : Int) + 1), h))) else ((z_sI h (some (m + 1)) (iI (75 + 40 * a + ((p : Int) + 1))) (iI (flp (lyd A a f) (pth (A (75 + 40 * a)) f p) (pth (A (75 + 40 * a)) f (p + 2)) (pth (A (75 + 40 * a)) f (p + 1))))).bind fun h12 => (z_ck h12 11 (some m)).bind fun _ => (f_X11_come (some m) (iI a) (iI (v + 1)) h12).bind fun h14 => (z_gA h14 11 0 (some m)).bind fun v15 => (z_sI h14 v15 (iI (75 + 40 * a + ((p : Int) + 1))) (iI (pth (A (75 + 40 * a)) f (p + 1)))).bind fun h18 => some (.inl (some m, iI a, iI (A (70 + 40 * a)), iI k, iI v, iI (pth (A (75 + 40 * a)) f ((A (70 + 40 * a)).toNat - 1)), iI (((p + 1 : Nat) : Int) + 1), h18)))) := by
      unfold f_X11_layReach_c164
      simp only [iI_lit, iI_add, iI_sub, iI_mul, iI_neg]
      rw [if_neg (nLe (by omega)), Mck hM.1, Option.bind_some, R_cell hM (by omega) (by omega), z_b2_some, c1', Mck hM.1, Option.bind_some, R_flipped hM WL (by omega) (by omega) (by rw [c0']; exact v0) (by rw [c2']; exact v2) (by rw [c1']; exact v1), z_b2_some, c0', c1', c2', iteLt (by omega)]
      simp only [f_X11_layReach_b234, R_of, Option.bind_some, z_b2_some, z_i1_some, iI_add, iI_sub, Mg0 hM.1, iI_lit, iI_add, iI_sub, iI_mul, iI_neg]
      rw [show 70 + 40 * a + 5 + ((p : Int) + 1) = 75 + 40 * a + ((p : Int) + 1) by omega]
      rfl
    rcases flp_fl hW ha hcut hV (p := p) (by omega) with ⟨t1, t2⟩ | ⟨t1, t2, t3, t4⟩
    · rw [t2, if_pos (by omega)] at pre
      refine nxt h Y pre hM ?_ (kz_rf Y) (fr_rf _ _ _)
      show RB Y (seeO (flBa A a f v B p) (fl (wA A) (A (75 + 40 * a)) (A (70 + 40 * a)).toNat (fmA A a) f p) (v + 1))
      rw [t1]; exact hB
    · rw [t2, if_neg (by omega)] at pre
      have hV' : VFa A a (swp f p) := VF_fl hN (by omega) hV t1
      obtain ⟨h1, h2, h3, w1, w2, w3, w4, w5, Y3, x1, x2, x3, x4⟩ := R_comeB (v := v + 1) hW ha hM hB hIs.1 hV' (e := 75 + 40 * a + ((p : Int) + 1)) (by omega) t4 (by omega)
      rw [c1'] at w5
      refine nxt h3 Y3 ?_ x1 ?_ x3 x4
      · rw [pre, w1, Option.bind_some, w2, Option.bind_some, w3, Option.bind_some, w4, Option.bind_some, w5, Option.bind_some]
      · show RB Y3 (seeO (flBa A a f v B p) (fl (wA A) (A (75 + 40 * a)) (A (70 + 40 * a)).toNat (fmA A a) f p) (v + 1))
        rw [t1]; exact x2
end RRf
