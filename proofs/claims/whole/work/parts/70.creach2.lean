section CRf
variable {rc tS : Nat} {c0 : Int} {N f0 : Nat} {w ot : Int64}
theorem C_see {h : zH} {g0 g1 g2 g3 : Nat → Int32} {fc cc : Int32} {B : zB} (hS : RcS h rc g0 g1 g2 g3 fc cc c0 N f0 w ot) (hC : CBr N g0 g1 g2 fc cc B) {f : Nat} (hf : f < 4 ^ (N - 1)) (h4 : 4 ^ (N - 1) ≤ 4096) (hmv : ∀ f, B.1 f = -4 ∨ (0 ≤ B.1 f ∧ B.1 f ≤ 4096)) (hlt : B.1 f < 0 → B.2.2.1 < 4096) {v : Int} (hv : 0 ≤ v) :
    ∃ h' g0' g1' fc', f_X3_see (some rc) (iI (f : Int)) (iI v) h = some h' ∧ RcS h' rc g0' g1' g2 g3 fc' cc c0 N f0 w ot ∧ CBr N g0' g1' g2 fc' cc (seeB B f v) ∧ fr rc 5 h h' := by
  have hm := hmv f
  unfold f_X3_see
  rw [Rg0 hS, Option.bind_some, Ra0 hS (by omega), Option.bind_some, hC.1 f hf]
  unfold seeB
  by_cases q : B.1 f < 0
  · have hl := hlt q
    obtain ⟨w1, S1⟩ := Rs0 hS (e := f) (by omega) (iI v)
    obtain ⟨w2, S2⟩ := Rs1 S1 (e := B.2.2.1) hl (iI (f : Int))
    obtain ⟨w3, S3⟩ := Rp4 S2 (iI ((B.2.2.1 : Int) + 1))
    rw [if_pos q, if_pos q, if_pos (show iI (-1) = (-1 : Int32) by decide), Option.bind_some, w1, Option.bind_some, Rg1 S1, Option.bind_some, Ri4 S1, Option.bind_some, hC.2.2.2.1, w2, Option.bind_some, Ri4 S2, Option.bind_some, hC.2.2.2.1, iI_lit, iI_add, w3, Option.bind_some]
    refine ⟨_, _, _, _, rfl, S3, ⟨fun x hx => ?_, fun i hi => ?_, hC.2.2.1, rfl, hC.2.2.2.2⟩, fr_tr (fr5 (by omega) (by omega)) (fr_tr (fr5 (by omega) (by omega)) (fr5 (by omega) (by omega)))⟩
    · simp only
      by_cases e : x = f
      · subst e; rw [pk_us, updR_s, if_neg (by omega)]
      · rw [pk_un e, updR_n _ _ e]; exact hC.1 x hx
    · simp only at hi ⊢
      by_cases e : i = B.2.2.1
      · subst e; rw [pk_us, updR_s]
      · rw [pk_un e, updR_n _ _ e]; exact hC.2.1 i (by omega)
  · rw [if_neg q, if_neg q, if_neg (show ¬ iI (B.1 f) = (-1 : Int32) by rw [show (-1 : Int32) = iI (-1) from rfl]; exact nEq (by omega))]
    exact ⟨h, g0, g1, fc, rfl, hS, hC, fr_rf _ _ _⟩
theorem chg_eq (f : Int) (p : Int) : ((iI f >>> (iI (2 * p) &&& iI 31)) &&& iI 3) ^^^ ((iI f >>> (iI (2 * p + 2) &&& iI 31)) &&& iI 3) = chg (iI f) (iI (2 * p)) := by unfold chg; rw [iI_add]
theorem C_seeFlip (hN : 2 ≤ N ∧ N ≤ 7) {f p : Nat} (hV : VF w c0 N f0 f) (hp : p + 2 < N) {v : Int} {h : zH} {g0 g1 g2 g3 : Nat → Int32} {fc cc : Int32} {B : zB} (hT : hST h tS) (hS : RcS h rc g0 g1 g2 g3 fc cc c0 N f0 w ot) (hC : CBr N g0 g1 g2 fc cc B) (hI : bI w c0 N f0 B) (hg3 : ∀ p, p < N → g3 p = iI (pth c0 f p)) (hv : 0 ≤ v ∧ v ≤ (B.2.2.1 : Int)) :
    ∃ h' g0' g1' fc', f_X3_seeFlip tS (some rc) (iI (f : Int)) (iI ((p : Int) + 1)) (bset (usd w c0 N f0 f)) (iI v) h = some h' ∧ RcS h' rc g0' g1' g2 g3 fc' cc c0 N f0 w ot ∧ CBr N g0' g1' g2 fc' cc (seeO B (fl w c0 N f0 f p) v) ∧ fr rc 5 h h' := by
  have h4 := pow_le6 (k := N - 1) (by omega)
  have hf : f < 4096 := Nat.lt_of_lt_of_le hV.1 h4
  have fb := flip_bits hf (p := p) (by omega)
  unfold f_X3_seeFlip
  simp only [iI_lit, iI_add, iI_sub, iI_mul, iI_neg]
  rw [show (p : Int) + 1 - 1 = (p : Int) by omega, chg_eq]
  by_cases odd : (dgf f p + dgf f (p + 1)) % 2 = 1
  · have ne : ¬ (chg (iI (f : Int)) (iI (2 * (p : Int))) &&& iI 1) = iI 0 := fun e => by have := fb.1.mp e; omega
    obtain ⟨e1, e2, e3, e4⟩ := pth_swp hN hp hV odd
    have v0 := (hV.2.1 p (by omega)).1
    have dq := dgf_lt f (p + 1)
    have sa := (side_adj (s := ((dgf f (p + 1) : Nat) : Int)) v0.1 v0.2 (by omega) (by omega) e2.1).2
    have hst := z_stp hT (s := ((dgf f (p + 1) : Nat) : Int)) (by omega) (by omega)
    have hdg : (iI (f : Int) >>> (iI (2 * (p : Int) + 2) &&& iI 31)) &&& iI 3 = iI ((dgf f (p + 1) : Nat) : Int) := by
      rw [show 2 * (p : Int) + 2 = 2 * ((p + 1 : Nat) : Int) by omega, dg4 (by omega) (by omega)]; rfl
    have ev : iI (pth c0 f p) + iI (if ((dgf f (p + 1) : Nat) : Int) = 0 then 1 else if ((dgf f (p + 1) : Nat) : Int) = 1 then 8 else if ((dgf f (p + 1) : Nat) : Int) = 2 then -1 else -8) = iI (bes (pth c0 f p) ((dgf f (p + 1) : Nat) : Int)) := by
      rw [iI_add]; congr 1; omega
    have fb2 := fb.2
    rw [iI_add] at fb2
    rw [if_neg ne, Rg3 hS, Option.bind_some, Ra3 hS (by omega), Option.bind_some, hg3 p (by omega), hdg, hst, Option.bind_some, ev, cmpite e2.1 e2.2, fb2]
    unfold fl
    by_cases u : usd w c0 N f0 f (bes (pth c0 f p) ((dgf f (p + 1) : Nat) : Int))
    · rw [if_pos u, if_neg (fun q => q.2 u)]
      exact ⟨h, g0, g1, fc, rfl, hS, hC, fr_rf _ _ _⟩
    · have hfl : fl w c0 N f0 f p = some (swp f p) := by unfold fl; rw [if_pos ⟨odd, u⟩]
      have hV' := VF_fl hN hp hV hfl
      obtain ⟨h', g0', g1', fc', x1, x2, x3, x4⟩ := C_see (v := v) hS hC hV'.1 h4 hI.2.1 (fun q => by
        have i1 := (seeB_I hN hI hV' hv).1
        have i2 := bI_cn hN i1
        have e : (seeB B (swp f p) v).2.2.1 = B.2.2.1 + 1 := by unfold seeB; rw [if_pos q]
        omega) hv.1
      rw [if_neg u, if_pos ⟨odd, u⟩, Rck hS, Option.bind_some, x1, Option.bind_some]
      exact ⟨h', g0', g1', fc', rfl, x2, x3, x4⟩
  · have e0 : (chg (iI (f : Int)) (iI (2 * (p : Int))) &&& iI 1) = iI 0 := fb.1.mpr (by omega)
    rw [if_pos e0]
    unfold fl
    rw [if_neg (fun q => odd q.1)]
    exact ⟨h, g0, g1, fc, rfl, hS, hC, fr_rf _ _ _⟩
theorem C_seeTurns (hN : 2 ≤ N ∧ N ≤ 7) (hb : tS < rc ∨ rc + 5 ≤ tS) {f : Nat} (hV : VF w c0 N f0 f) {v : Int} {B : zB} (hI : bI w c0 N f0 B) {g2 g3 : Nat → Int32} {cc : Int32} (hg3 : ∀ p, p < N → g3 p = iI (pth c0 f p)) (hv : 0 ≤ v ∧ v + 1 ≤ (B.2.2.1 : Int)) {h0 : zH} : ∀ (d s : Nat) (h : zH) (g0 g1 : Nat → Int32) (fc : Int32), s + d = 4 → hST h tS → RcS h rc g0 g1 g2 g3 fc cc c0 N f0 w ot → CBr N g0 g1 g2 fc cc (tnB w c0 N f0 f v B s) → fr rc 5 h0 h →
    ∃ h' g0' g1' fc', f_X3_seeTurns_b13 tS (some rc) (iI (f : Int)) (bset (usd w c0 N f0 f)) (iI (v + 1)) (iI (2 * ((N - 2 : Nat) : Int))) (iI (s : Int)) h = some h' ∧ RcS h' rc g0' g1' g2 g3 fc' cc c0 N f0 w ot ∧ CBr N g0' g1' g2 fc' cc (tnB w c0 N f0 f v B 4) ∧ fr rc 5 h0 h' := by
  have h4 := pow_le6 (k := N - 1) (by omega)
  have hf : f < 4096 := Nat.lt_of_lt_of_le hV.1 h4
  intro d
  induction d with
  | zero =>
    intro s h g0 g1 fc hs hT hS hC hF
    have e : s = 4 := by omega
    subst e
    refine ⟨h, g0, g1, fc, ?_, hS, hC, hF⟩
    unfold f_X3_seeTurns_b13
    refine z_it_done ?_
    show f_X3_seeTurns_c13 tS (some rc) (iI (f : Int)) (bset (usd w c0 N f0 f)) (iI (v + 1)) (iI (2 * ((N - 2 : Nat) : Int))) (iI ((4 : Nat) : Int)) h = _
    unfold f_X3_seeTurns_c13
    simp only [iI_lit, iI_add, iI_sub, iI_mul, iI_neg]
    rw [if_pos (cLe (by omega))]; rfl
  | succ d ih =>
    intro s h g0 g1 fc hs hT hS hC hF
    obtain ⟨i1, i2, i3⟩ := tnB_I hN hI hV hv s (by omega)
    have v0 := (hV.2.1 (N - 2) (by omega)).1
    have r := bes_rg (s := (s : Int)) v0.1 v0.2
    have nxt : ∀ h1 g0' g1' fc', f_X3_seeTurns_c13 tS (some rc) (iI (f : Int)) (bset (usd w c0 N f0 f)) (iI (v + 1)) (iI (2 * ((N - 2 : Nat) : Int))) (iI (s : Int)) h = some (.inl (some rc, iI (f : Int), bset (usd w c0 N f0 f), iI (v + 1), iI (2 * ((N - 2 : Nat) : Int)), iI ((s + 1 : Nat) : Int), h1)) → RcS h1 rc g0' g1' g2 g3 fc' cc c0 N f0 w ot → CBr N g0' g1' g2 fc' cc (tnB w c0 N f0 f v B (s + 1)) → fr rc 5 h h1 → ∃ h' g0' g1' fc', f_X3_seeTurns_b13 tS (some rc) (iI (f : Int)) (bset (usd w c0 N f0 f)) (iI (v + 1)) (iI (2 * ((N - 2 : Nat) : Int))) (iI (s : Int)) h = some h' ∧ RcS h' rc g0' g1' g2 g3 fc' cc c0 N f0 w ot ∧ CBr N g0' g1' g2 fc' cc (tnB w c0 N f0 f v B 4) ∧ fr rc 5 h0 h' := by
      intro h1 g0' g1' fc' q1 q2 q3 q4
      obtain ⟨h', a0, a1, a2, y1, y2⟩ := ih (s + 1) h1 g0' g1' fc' (by omega) (hST5 hT hb q4) q2 q3 (fr_tr hF q4)
      refine ⟨h', a0, a1, a2, ?_, y2⟩
      rw [← y1]
      unfold f_X3_seeTurns_b13
      exact z_it_next (s := (some rc, iI (f : Int), bset (usd w c0 N f0 f), iI (v + 1), iI (2 * ((N - 2 : Nat) : Int)), iI (s : Int), h)) q1
    have pre : f_X3_seeTurns_c13 tS (some rc) (iI (f : Int)) (bset (usd w c0 N f0 f)) (iI (v + 1)) (iI (2 * ((N - 2 : Nat) : Int))) (iI (s : Int)) h = (if bes (pth c0 f (N - 2)) (s : Int) < 0 then some (.inl (some rc, iI (f : Int), bset (usd w c0 N f0 f), iI (v + 1), iI (2 * ((N - 2 : Nat) : Int)), iI ((s + 1 : Nat) : Int), h)) else if (lg_cmp (bset (usd w c0 N f0 f) &&& ((1 : Int64) <<< (Int32.toInt64 (iI (bes (pth c0 f (N - 2)) (s : Int))) &&& 63))) (0 : Int64)) = iI 0 then (f_X3_see (some rc) (iI ((tnf f (N - 2) s : Nat) : Int)) (iI (v + 1)) h).bind fun h7 => some (.inl (some rc, iI (f : Int), bset (usd w c0 N f0 f), iI (v + 1), iI (2 * ((N - 2 : Nat) : Int)), iI ((s + 1 : Nat) : Int), h7)) else some (.inl (some rc, iI (f : Int), bset (usd w c0 N f0 f), iI (v + 1), iI (2 * ((N - 2 : Nat) : Int)), iI ((s + 1 : Nat) : Int), h))) := by
      have tb' := turn_bits (f := f) (q := N - 2) (s := s) (by omega) (by have := hV.1; rwa [show N - 2 + 1 = N - 1 by omega]) (by omega)
      unfold f_X3_seeTurns_c13
      simp only [f_X3_seeTurns_b73, iI_lit, iI_add, iI_sub, iI_mul, iI_neg]
      rw [if_neg (nLe (by omega)), Rg3 hS, Option.bind_some, Ri7 hS, Option.bind_some, iI_sub, show (N : Int) - 2 = ((N - 2 : Nat) : Int) by omega, Ra3 hS (by omega), Option.bind_some, hg3 (N - 2) (by omega), C_beside hT v0.1 v0.2 (by omega) (by omega), z_b2_some, iteLt (by omega), Rck hS, Option.bind_some, tb']
      rfl
    have tnd : tnB w c0 N f0 f v B (s + 1) = seeO (tnB w c0 N f0 f v B s) (tn w c0 N f0 f s) (v + 1) := rfl
    by_cases q0 : bes (pth c0 f (N - 2)) (s : Int) < 0
    · rw [if_pos q0] at pre
      refine nxt h g0 g1 fc pre hS ?_ (fr_rf _ _ _)
      have : tn w c0 N f0 f s = none := by unfold tn; rw [if_neg (by omega)]
      rw [tnd, this]; exact hC
    · rw [if_neg q0, cmpite (by omega) (by omega)] at pre
      by_cases u : usd w c0 N f0 f (bes (pth c0 f (N - 2)) (s : Int))
      · rw [if_pos u] at pre
        refine nxt h g0 g1 fc pre hS ?_ (fr_rf _ _ _)
        have : tn w c0 N f0 f s = none := by unfold tn; rw [if_neg (fun q => q.2 u)]
        rw [tnd, this]; exact hC
      · rw [if_neg u] at pre
        have htn : tn w c0 N f0 f s = some (tnf f (N - 2) s) := by unfold tn; rw [if_pos ⟨by omega, u⟩]
        have hV' := VF_tn hN (by omega) hV htn
        obtain ⟨h', g0', g1', fc', x1, x2, x3, x4⟩ := C_see (v := v + 1) hS hC hV'.1 h4 i1.2.1 (fun q => by
          have j1 := (seeB_I hN i1 hV' (v := v + 1) (by omega)).1
          have j2 := bI_cn hN j1
          have e : (seeB (tnB w c0 N f0 f v B s) (tnf f (N - 2) s) (v + 1)).2.2.1 = (tnB w c0 N f0 f v B s).2.2.1 + 1 := by unfold seeB; rw [if_pos q]
          omega) (by omega)
        rw [x1, Option.bind_some] at pre
        exact nxt h' g0' g1' fc' pre x2 (by rw [tnd, htn]; exact x3) x4
theorem C_goOn (hN : 2 ≤ N ∧ N ≤ 7) (hb : tS < rc ∨ rc + 5 ≤ tS) (hot : ot = bset (Ow w c0 N f0)) {k : Nat} {B : zB} (hI : bI w c0 N f0 B) (hk : k < B.2.2.1) {h : zH} {g0 g1 g2 g3 : Nat → Int32} {fc cc : Int32} (hT : hST h tS) (hS : RcS h rc g0 g1 g2 g3 fc cc c0 N f0 w ot) (hC : CBr N g0 g1 g2 fc cc B) :
    ∃ h' g0' g1' g2' g3' fc' cc', f_X3_goOnFrom tS (some rc) (iI ((B.2.1 k : Nat) : Int)) (iI (B.1 (B.2.1 k))) h = some h' ∧ RcS h' rc g0' g1' g2' g3' fc' cc' c0 N f0 w ot ∧ CBr N g0' g1' g2' fc' cc' (prB w c0 N f0 B k) ∧ fr rc 5 h h' := by
  have h4 := pow_le6 (k := N - 1) (by omega)
  obtain ⟨p1, p2, p3, p4, p5, p6, p7⟩ := prB_I hN hI hk
  have hc4 := bI_cn hN hI
  have hpr : prB w c0 N f0 B k = tnB w c0 N f0 (B.2.1 k) (B.1 (B.2.1 k)) (flB w c0 N f0 (B.2.1 k) (B.1 (B.2.1 k)) (tipB B (pth c0 (B.2.1 k) (N - 1)).toNat (B.1 (B.2.1 k))) (N - 2)) 4 := rfl
  rw [hpr]
  generalize hff : B.2.1 k = f at p1 p2 p3 p4 p5 p6
  have hf : f < 4096 := Nat.lt_of_lt_of_le p1.1 h4
  obtain ⟨h1, g3', u1, u2, u3, u4⟩ := C_layOut hN hb hf (fun p hp => (p1.2.1 p hp).1) hT hS
  have T1 := hST5 hT hb u4
  have eu : ot ||| bset (inP c0 N f) = bset (usd w c0 N f0 f) := by rw [hot, bset_or]; rfl
  have vt := (p1.2.1 (N - 1) (by omega)).1
  have ht := hI.2.2.2.2 (pth c0 f (N - 1)).toNat
  -- the loop over the flips, then the turns
  have loop : ∀ (g2' : Nat → Int32) (cc' : Int32) (B1 : zB), bI w c0 N f0 B1 → B1.2.2.1 = B.2.2.1 → ∀ (h2 : zH) (fc2 : Int32) (a0 a1 : Nat → Int32), RcS h2 rc a0 a1 g2' g3' fc2 cc' c0 N f0 w ot → CBr N a0 a1 g2' fc2 cc' B1 → fr rc 5 h h2 → ∃ h' g0' g1' fc', f_X3_goOnFrom_b54 tS (some rc) (iI (f : Int)) (iI (B.1 f)) (bset (usd w c0 N f0 f)) h2 = some h' ∧ RcS h' rc g0' g1' g2' g3' fc' cc' c0 N f0 w ot ∧ CBr N g0' g1' g2' fc' cc' (tnB w c0 N f0 f (B.1 f) (flB w c0 N f0 f (B.1 f) B1 (N - 2)) 4) ∧ fr rc 5 h h' := by
    intro g2' cc' B1 b1 b2 h2 fc2 a0 a1 s1 c1 f2
    have key := z_forI (body := fun s : (Option Nat) × Int32 × Int32 × Int64 × Int32 × zH => f_X3_goOnFrom_c57 tS s.1 s.2.1 s.2.2.1 s.2.2.2.1 s.2.2.2.2.1 s.2.2.2.2.2) (Q := fun h' => ∃ g0' g1' fc', RcS h' rc g0' g1' g2' g3' fc' cc' c0 N f0 w ot ∧ CBr N g0' g1' g2' fc' cc' (tnB w c0 N f0 f (B.1 f) (flB w c0 N f0 f (B.1 f) B1 (N - 2)) 4) ∧ fr rc 5 h h')
      (fun p s => ∃ h3 g0' g1' fc', s = (some rc, iI (f : Int), iI (B.1 f), bset (usd w c0 N f0 f), iI ((p : Int) + 1), h3) ∧ RcS h3 rc g0' g1' g2' g3' fc' cc' c0 N f0 w ot ∧ CBr N g0' g1' g2' fc' cc' (flB w c0 N f0 f (B.1 f) B1 p) ∧ fr rc 5 h h3) (N - 2) ?_ ?_ (N - 2) 0 (some rc, iI (f : Int), iI (B.1 f), bset (usd w c0 N f0 f), iI 1, h2) (by omega) ⟨h2, a0, a1, fc2, rfl, s1, c1, f2⟩
    · obtain ⟨h', k1, g0', g1', fc', k2⟩ := key
      refine ⟨h', g0', g1', fc', ?_, k2⟩
      unfold f_X3_goOnFrom_b54
      rw [iI_lit]; exact k1
    · rintro p s hp ⟨h3, g0', g1', fc', rfl, k1, k2, k3⟩
      obtain ⟨i1, i2, i3⟩ := flB_I hN b1 p1 (v := B.1 f) (by omega) p (by omega)
      obtain ⟨h5, x0, x1, x2, y1, y2, y3, y4⟩ := C_seeFlip hN p1 (p := p) (by omega) (v := B.1 f + 1) (hST5 hT hb k3) k1 k2 i1 u3 (by omega)
      refine Or.inl ⟨_, ?_, h5, x0, x1, x2, rfl, y2, y3, fr_tr k3 y4⟩
      show f_X3_goOnFrom_c57 tS (some rc) (iI (f : Int)) (iI (B.1 f)) (bset (usd w c0 N f0 f)) (iI ((p : Int) + 1)) h3 = _
      unfold f_X3_goOnFrom_c57
      simp only [iI_lit, iI_add, iI_sub, iI_mul, iI_neg]
      rw [Ri7 k1, Option.bind_some, iI_sub, if_neg (nLe (by omega)), Rck k1, Option.bind_some, y1, Option.bind_some]
      rfl
    · rintro s ⟨h3, g0', g1', fc', rfl, k1, k2, k3⟩
      obtain ⟨i1, i2, i3⟩ := flB_I hN b1 p1 (v := B.1 f) (by omega) (N - 2) (by omega)
      obtain ⟨h5, x0, x1, x2, y1, y2⟩ := C_seeTurns hN hb p1 (v := B.1 f) i1 u3 (by omega) (h0 := h) 4 0 h3 g0' g1' fc' (by omega) (hST5 hT hb k3) k1 k2 k3
      refine ⟨h5, ?_, x0, x1, x2, y2⟩
      show f_X3_goOnFrom_c57 tS (some rc) (iI (f : Int)) (iI (B.1 f)) (bset (usd w c0 N f0 f)) (iI (((N - 2 : Nat) : Int) + 1)) h3 = _
      have y1' : f_X3_seeTurns tS (some rc) (iI (f : Int)) (bset (usd w c0 N f0 f)) (iI (B.1 f + 1)) h3 = some h5 := by
        unfold f_X3_seeTurns
        simp only [iI_lit, iI_add, iI_sub, iI_mul, iI_neg]
        rw [Ri7 k1, Option.bind_some, iI_sub, iI_mul, show 2 * ((N : Int) - 2) = 2 * ((N - 2 : Nat) : Int) by omega]
        exact y1
      unfold f_X3_goOnFrom_c57
      simp only [iI_lit, iI_add, iI_sub, iI_mul, iI_neg]
      rw [Ri7 k1, Option.bind_some, iI_sub, if_pos (cLe (by omega)), Rck k1, Option.bind_some, y1', Option.bind_some]
      rfl
  -- the tip
  have pre : f_X3_goOnFrom tS (some rc) (iI (f : Int)) (iI (B.1 f)) h = (if iI (B.2.2.2 (pth c0 f (N - 1)).toNat) = iI (-4) then (z_sI h1 (some (rc + 3)) (iI (pth c0 f (N - 1))) (iI (B.1 f))).bind fun h11 => (z_gI h11 3 5 (some rc)).bind fun v12 => (z_pF h11 3 5 (some rc) (tI (v12 + (1 : Int32)))).bind fun h13 => f_X3_goOnFrom_b54 tS (some rc) (iI (f : Int)) (iI (B.1 f)) (bset (usd w c0 N f0 f)) h13 else f_X3_goOnFrom_b54 tS (some rc) (iI (f : Int)) (iI (B.1 f)) (bset (usd w c0 N f0 f)) h1) := by
    have ra2 : z_aI h1 (some (rc + 3)) (iI (pth c0 f (N - 1))) = some (iI (B.2.2.2 (pth c0 f (N - 1)).toNat)) := by
      have := Ra2 u2 (e := (pth c0 f (N - 1)).toNat) (by omega)
      rw [hC.2.2.1 _ (by omega), Int.toNat_of_nonneg vt.1] at this
      exact this
    unfold f_X3_goOnFrom
    rw [Rj10 hS, Option.bind_some, Rck hS, Option.bind_some, u1, z_b2_some, Rg3 u2, Option.bind_some, Ri7 u2, Option.bind_some, iI_lit, iI_sub, show (N : Int) - 1 = ((N - 1 : Nat) : Int) by omega, Ra3 u2 (by omega), Option.bind_some, u3 (N - 1) (by omega), Rg2 u2, Option.bind_some, ra2, Option.bind_some, eu, Option.bind_some]
    rfl
  have hpc : pth c0 f (N - 1) = (((pth c0 f (N - 1)).toNat : Nat) : Int) := by omega
  rw [pre]
  by_cases q : B.2.2.2 (pth c0 f (N - 1)).toNat < 0
  · obtain ⟨w1, S1⟩ := Rs2 u2 (e := (pth c0 f (N - 1)).toNat) (by omega) (iI (B.1 f))
    obtain ⟨w2, S2⟩ := Rp5 S1 (iI ((cntN B.2.2.2 64 : Nat) + 1))
    rw [← hpc] at w1
    have eT : tipB B (pth c0 f (N - 1)).toNat (B.1 f) = (B.1, B.2.1, B.2.2.1, updR B.2.2.2 (pth c0 f (N - 1)).toNat (B.1 f)) := by unfold tipB; rw [if_pos q]
    obtain ⟨h', g0', g1', fc', y1, y2, y3, y4⟩ := loop _ _ (tipB B (pth c0 f (N - 1)).toNat (B.1 f)) p3 p4 _ _ _ _ S2 (by
      rw [eT]
      refine ⟨hC.1, hC.2.1, fun c hc => ?_, hC.2.2.2.1, ?_⟩
      · simp only
        by_cases e : c = (pth c0 f (N - 1)).toNat
        · subst e; rw [pk_us, updR_s]
        · rw [pk_un e, updR_n _ _ e]; exact hC.2.2.1 c hc
      · simp only
        rw [cntN_up q p2.1 64 (by omega)]; rfl) (fr_tr u4 (fr_tr (fr5 (by omega) (by omega)) (fr5 (by omega) (by omega))))
    refine ⟨h', g0', g1', _, g3', fc', _, ?_, y2, y3, y4⟩
    rw [if_pos (show iI (B.2.2.2 (pth c0 f (N - 1)).toNat) = iI (-4) from cEq (by omega)), w1, Option.bind_some, Ri5 S1, Option.bind_some, hC.2.2.2.2, iI_lit, iI_add, w2, Option.bind_some]
    exact y1
  · have eT : tipB B (pth c0 f (N - 1)).toNat (B.1 f) = B := by unfold tipB; rw [if_neg q]
    obtain ⟨h', g0', g1', fc', y1, y2, y3, y4⟩ := loop g2 cc (tipB B (pth c0 f (N - 1)).toNat (B.1 f)) p3 p4 h1 fc g0 g1 u2 (by rw [eT]; exact hC) u4
    refine ⟨h', g0', g1', g2, g3', fc', cc, ?_, y2, y3, y4⟩
    rw [if_neg (nEq (by omega))]
    exact y1
end CRf
