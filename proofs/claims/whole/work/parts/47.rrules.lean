section RR
variable {m : Nat} {A : Int → Int} {T : Nat → Int} {N : Nat}
theorem smf_ok : ∀ (n k : Nat) (s : zM), smOk s → (smf T n k s).1 = -4 ∨ (((k : Int) ≤ (smf T n k s).1 ∧ (smf T n k s).1 ≤ k + n)) ∧ (1 ≤ (smf T n k s).2 ∧ (smf T n k s).2 ≤ 6)
  | 0, k, s, hs => by
    unfold smf
    unfold smOk at hs
    simp only
    split
    · exact Or.inl rfl
    · exact Or.inr ⟨by omega, by omega⟩
  | n + 1, k, s, hs => by
    unfold smf
    cases e : smStep s (T k) with
    | none =>
      unfold smOk at hs
      exact Or.inr ⟨by simp only; omega, hs.2.2.2⟩
    | some s' =>
      simp only
      rcases smf_ok n (k + 1) s' (smStep_ok hs e) with h | h
      · exact Or.inl h
      · exact Or.inr ⟨by omega, h.2⟩
theorem R_faultL {h0 : zH} {Y0 : Nat → Nat → Int32} (hN1 : N ≤ 100) (hc : ∀ k, k < N → 32 ≤ T k ∧ T k ≤ 126) (hN : Y0 0 4 = iI (N : Int)) (hT : ∀ k, k < N → Y0 5 k = iI (T k)) : ∀ (n k : Nat) (s : zM) (h : zH) (Y : Nat → Nat → Int32), k + n = N → smOk s → MR h m A Y → oc Y0 Y → fr m 19 h0 h → Y 0 10 = iI s.2.2.2 →
    ∃ h' Y', f_X11_faultOf_b14 (some m) (iI s.1) (iI s.2.1) (iI s.2.2.1) (iI (k : Int)) h = some (iI (smf T n k s).1, h') ∧ MR h' m A Y' ∧ oc Y0 Y' ∧ fr m 19 h0 h' ∧ ((smf T n k s).1 = -4 → Y' 0 10 = iI (smf T n k s).2)
  | 0, k, s, h, Y, hk, hs, hM, hO, hF, hcl => by
    have hs' := hs
    unfold smOk at hs'
    have e4 : Y 0 4 = iI (N : Int) := (hO.2 4 (by omega)).trans hN
    refine ⟨h, Y, ?_, hM, hO, hF, fun _ => hcl⟩
    unfold f_X11_faultOf_b14
    refine z_it_done ?_
    show f_X11_faultOf_c14 (some m) (iI s.1) (iI s.2.1) (iI s.2.2.1) (iI (k : Int)) h = _
    unfold f_X11_faultOf_c14
    rw [Mi4 hM.1, Option.bind_some, e4, if_pos (cLe (by omega)), Option.bind_some]
    simp only [iI_lit, iI_add, iI_sub, iI_mul, iI_neg, smf]
    rw [iteEq (by omega)]
    by_cases q : s.1 = 5
    · rw [if_pos q, if_pos q]; rfl
    · rw [if_neg q, if_neg q, show N = k by omega]; rfl
  | n + 1, k, s, h, Y, hk, hs, hM, hO, hF, hcl => by
    have e4 : Y 0 4 = iI (N : Int) := (hO.2 4 (by omega)).trans hN
    have e5 : Y 5 k = iI (T k) := by rw [hO.1 5 (by omega)]; exact hT k (by omega)
    obtain ⟨h1, Y1, k1, k2, k3, k4, k5⟩ := R_sm (T := T) hM e4 hN1 (k := k) (by omega) e5 (hc k (by omega)) hs hcl
    cases e : smStep s (T k) with
    | none =>
      rw [e] at k1
      refine ⟨h, Y, ?_, hM, hO, hF, fun q => ?_⟩
      · unfold f_X11_faultOf_b14
        refine (z_it_done (s := (some m, iI s.1, iI s.2.1, iI s.2.2.1, iI (k : Int), h)) k1).trans ?_
        simp only [smf, e]
      · simp only [smf, e] at q
        omega
    | some s' =>
      rw [e] at k1
      obtain ⟨h2, Y2, r1, r2, r3, r4, r5⟩ := R_faultL hN1 hc hN hT n (k + 1) s' h1 Y1 (by omega) (smStep_ok hs e) k2 (oc_tr hO k3) (fr_tr hF k4) (k5 s' e)
      have e2 : smf T (n + 1) k s = smf T n (k + 1) s' := by simp only [smf, e]
      rw [e2]
      refine ⟨h2, Y2, ?_, r2, r3, r4, r5⟩
      rw [← r1]
      unfold f_X11_faultOf_b14
      exact z_it_next (s := (some m, iI s.1, iI s.2.1, iI s.2.2.1, iI (k : Int), h)) k1
theorem R_faultOf {h : zH} {Y : Nat → Nat → Int32} (hM : MR h m A Y) (hN1 : N ≤ 100) (hc : ∀ k, k < N → 32 ≤ T k ∧ T k ≤ 126) (hN : Y 0 4 = iI (N : Int)) (hT : ∀ k, k < N → Y 5 k = iI (T k)) :
    ∃ h' Y', f_X11_faultOf (some m) h = some (iI (smf T N 0 (0, 0, 0, 1)).1, h') ∧ MR h' m A Y' ∧ oc Y Y' ∧ fr m 19 h h' ∧ ((smf T N 0 (0, 0, 0, 1)).1 = -4 → Y' 0 10 = iI (smf T N 0 (0, 0, 0, 1)).2) := by
  have M1 := MR_cl hM 1
  obtain ⟨h2, Y2, r1, r2, r3, r4, r5⟩ := R_faultL (h0 := h) (Y0 := Y) hN1 hc hN hT N 0 (0, 0, 0, 1) (hcl h m Y 1) (ucl Y 1) (by omega) (by unfold smOk; simp only; omega) M1 (oc_cl _ _) (fr_up (by omega) (by omega)) (ucl_s _ _)
  refine ⟨h2, Y2, ?_, r2, r3, r4, r5⟩
  unfold f_X11_faultOf
  have hp : z_pF h 11 10 (some m) (tI (iI 1)) = some (hcl h m Y 1) := Mp10 hM.1 _
  simp only [iI_lit, iI_add, iI_sub, iI_mul, iI_neg]
  rw [hp, Option.bind_some]
  exact r1
/-! the text is laid down -/
def putT (A : Int → Int) (e : Int) : List Int → Int → Int
  | [] => A
  | c :: l => putT (uI A e c) (e + 1) l
theorem putT_app (c : Int) : ∀ (l : List Int) (A : Int → Int) (e : Int), putT A e (l ++ [c]) = uI (putT A e l) (e + l.length) c
  | [], A, e => by simp [putT]
  | d :: l, A, e => by
    simp only [List.cons_append, putT, putT_app c l, List.length_cons]
    congr 1; omega
theorem putT_n : ∀ (l : List Int) (A : Int → Int) (e : Int) {j : Int}, (j < e ∨ e + l.length ≤ j) → putT A e l j = A j
  | [], A, e, j, _ => rfl
  | d :: l, A, e, j, h => by
    simp only [List.length_cons] at h
    simp only [putT]
    rw [putT_n l _ _ (by omega), uI_n _ _ (by omega)]
theorem putT_tx : ∀ (l : List Int) (A : Int → Int) (e : Int), tx (putT A e l) e l
  | [], _, _ => trivial
  | d :: l, A, e => by
    refine ⟨?_, putT_tx l _ _⟩
    simp only [putT]
    rw [putT_n l _ _ (by omega), uI_s]
theorem rs_len : ∀ (n k : Nat), (rs T n k).length ≤ n
  | 0, _ => by simp [rs]
  | n + 1, k => by
    have := rs_len n (k + 1)
    unfold rs
    split
    · omega
    · simp only [List.length_cons]; omega
noncomputable def txA (A : Int → Int) (a : Int) (L : List Int) (cl : Int) : Int → Int := uI (uI (putT A (190 + 100 * a) L) (73 + 40 * a) L.length) (74 + 40 * a) cl
theorem txA_n (A : Int → Int) {a : Int} (ha : 0 ≤ a ∧ a ≤ 2) {L : List Int} (hL : L.length ≤ 100) (cl : Int) {j : Int} (hj : j ≠ 73 + 40 * a ∧ j ≠ 74 + 40 * a ∧ (j < 190 + 100 * a ∨ 290 + 100 * a ≤ j)) : txA A a L cl j = A j := by
  unfold txA
  rw [uI_n _ _ (by omega), uI_n _ _ (by omega), putT_n _ _ _ (by omega)]
theorem txA_WF (hW : WF A) {a : Int} (ha : 0 ≤ a ∧ a ≤ 2) {L : List Int} (hL : L.length ≤ 100) (cl : Int) : WF (txA A a L cl) := WF_cg hW (fun j hj => txA_n A ha hL cl (by unfold dW at hj; omega))
theorem txA_TX {a : Int} (ha : 0 ≤ a ∧ a ≤ 2) {q : List zKl} (hq : vQ q) (h0 : q ≠ []) : TX (txA A a (prQ q) q.length) a q := by
  have hl := hq.2.2
  refine ⟨hq, by unfold txA; rw [uI_s], fun _ => ⟨?_, ?_⟩⟩
  · unfold txA; rw [uI_n _ _ (by omega), uI_s]
  · refine tx_cg _ _ (fun j h1 h2 => ?_) (putT_tx (prQ q) A (190 + 100 * a))
    unfold txA
    rw [uI_n _ _ (by omega), uI_n _ _ (by omega)]
theorem txA_TXo {a a' : Int} (ha : 0 ≤ a ∧ a ≤ 2) (ha' : 0 ≤ a' ∧ a' ≤ 2) (hne : a' ≠ a) {L : List Int} (hL : L.length ≤ 100) (cl : Int) {q : List zKl} (h : TX A a' q) : TX (txA A a L cl) a' q := by
  obtain ⟨h1, h2, h3⟩ := h
  have hl := h1.2.2
  refine ⟨h1, by rw [txA_n A ha hL cl (by omega)]; exact h2, fun hq => ?_⟩
  obtain ⟨h4, h5⟩ := h3 hq
  exact ⟨by rw [txA_n A ha hL cl (by omega)]; exact h4, tx_cg _ _ (fun j g1 g2 => txA_n A ha hL cl (by omega)) h5⟩
theorem R_rulesL {h0 : zH} {Y0 : Nat → Nat → Int32} (hM0 : MR h0 m A Y0) {a cl : Int} (ha : 0 ≤ a ∧ a ≤ 2) (hN1 : N ≤ 100) (hT : ∀ k, k < N → Y0 5 k = iI (T k)) (hc : ∀ k, k < N → 32 ≤ T k ∧ T k ≤ 126) (hcl : Y0 0 10 = iI cl) : ∀ (n k : Nat) (P : List Int) (h : zH) (Y : Nat → Nat → Int32), k + n = N → P ++ rs T n k = rs T N 0 → MR h m (putT A (190 + 100 * a) P) Y → o1 Y0 Y → fr m 19 h0 h →
    ∃ h', f_X11_rules_b40 (some m) (iI a) (iI (N : Int)) (iI (P.length : Int)) (iI (k : Int)) h = some (iI cl, h') ∧ go1 m h0 Y0 (txA A a (rs T N 0) cl) h'
  | 0, k, P, h, Y, hk, hP, hM, hO, hF => by
    have hl := rs_len (T := T) N 0
    have e10 : Y 0 10 = iI cl := by rw [hO 0 (by omega)]; exact hcl
    simp only [rs, List.append_nil] at hP
    subst hP
    obtain ⟨Y1, k1, k2, k3⟩ := go1_ms hM (e := 73 + 40 * a) (v := ((rs T N 0).length : Int)) (by omega) (by omega)
    obtain ⟨Y2, k4, k5, k6⟩ := go1_ms k1 (e := 74 + 40 * a) (v := cl) (by omega) (by omega)
    have e10' : Y1 0 10 = iI cl := by rw [k2 0 (by omega)]; exact e10
    have e10'' : Y2 0 10 = iI cl := by rw [k5 0 (by omega)]; exact e10'
    refine ⟨_, ?_, Y2, k4, o1_tr hO (o1_tr k2 k5), fr_tr hF (fr_tr k3 k6)⟩
    unfold f_X11_rules_b40
    refine z_it_done ?_
    show f_X11_rules_c40 (some m) (iI a) (iI (N : Int)) (iI ((rs T N 0).length : Int)) (iI (k : Int)) h = _
    unfold f_X11_rules_c40
    simp only [iI_lit, iI_add, iI_sub, iI_mul, iI_neg]
    rw [if_pos (cLe (by omega)), Mg0 hM.1, Option.bind_some, R_of, z_b2_some, show 70 + 40 * a + 3 = 73 + 40 * a by omega, M_set hM (by omega) (by omega), Option.bind_some, Mg0 k1.1, Option.bind_some, R_of, z_b2_some, show 70 + 40 * a + 4 = 74 + 40 * a by omega, Mi10 k1.1, Option.bind_some, e10', M_set k1 (by omega) (by omega), Option.bind_some, Mi10 k4.1, Option.bind_some, e10'']
    rfl
  | n + 1, k, P, h, Y, hk, hP, hM, hO, hF => by
    have hl := rs_len (T := T) N 0
    have e5 : Y 5 k = iI (T k) := by rw [hO 5 (by omega)]; exact hT k (by omega)
    have hck := hc k (by omega)
    have nxt : ∀ P' h1 Y1, f_X11_rules_c40 (some m) (iI a) (iI (N : Int)) (iI (P.length : Int)) (iI (k : Int)) h = some (.inl (some m, iI a, iI (N : Int), iI (P'.length : Int), iI ((k + 1 : Nat) : Int), h1)) → P' ++ rs T n (k + 1) = rs T N 0 → MR h1 m (putT A (190 + 100 * a) P') Y1 → o1 Y0 Y1 → fr m 19 h0 h1 → ∃ h', f_X11_rules_b40 (some m) (iI a) (iI (N : Int)) (iI (P.length : Int)) (iI (k : Int)) h = some (iI cl, h') ∧ go1 m h0 Y0 (txA A a (rs T N 0) cl) h' := by
      intro P' h1 Y1 q1 q2 q3 q4 q5
      obtain ⟨h2, r1, r2⟩ := R_rulesL hM0 ha hN1 hT hc hcl n (k + 1) P' h1 Y1 (by omega) q2 q3 q4 q5
      refine ⟨h2, ?_, r2⟩
      rw [← r1]
      unfold f_X11_rules_b40
      exact z_it_next (s := (some m, iI a, iI (N : Int), iI (P.length : Int), iI (k : Int), h)) q1
    have hlen : P.length + (rs T (n + 1) k).length = (rs T N 0).length := by rw [← hP, List.length_append]
    by_cases q : T k = 32
    · have e : rs T (n + 1) k = rs T n (k + 1) := by simp only [rs, if_pos q]
      rw [e] at hP
      refine nxt P h Y ?_ hP hM hO hF
      unfold f_X11_rules_c40
      simp only [iI_lit, iI_add, iI_sub, iI_mul, iI_neg]
      rw [if_neg (nLe (by omega)), Mg5 hM.1, Option.bind_some, Ma5 hM (by omega) (by omega), Option.bind_some, show (k : Int).toNat = k by omega, e5, if_pos (cEq q), f_X11_rules_b84, iI_lit, iI_add]
      rfl
    · have e : rs T (n + 1) k = T k :: rs T n (k + 1) := by simp only [rs, if_neg q]
      rw [e] at hP hlen
      simp only [List.length_cons] at hlen
      obtain ⟨Y1, k1, k2, k3⟩ := go1_ms hM (e := 190 + 100 * a + P.length) (v := T k) (by omega) (by omega)
      rw [← putT_app] at k1
      refine nxt (P ++ [T k]) _ Y1 ?_ (by rw [← hP]; simp) k1 (o1_tr hO k2) (fr_tr hF k3)
      unfold f_X11_rules_c40
      simp only [iI_lit, iI_add, iI_sub, iI_mul, iI_neg]
      rw [if_neg (nLe (by omega)), Mg5 hM.1, Option.bind_some, Ma5 hM (by omega) (by omega), Option.bind_some, show (k : Int).toNat = k by omega, e5, if_neg (nEq (by omega)), Mg0 hM.1, Option.bind_some, Option.bind_some, Ma5 hM (by omega) (by omega), Option.bind_some, show (k : Int).toNat = k by omega, e5, M_set hM (by omega) (by omega), Option.bind_some, f_X11_rules_b84, iI_lit, iI_add]
      rw [List.length_append]
      rfl
end RR
