/-! THE CLASS: small ones -/
def hST (h : zH) (tS : Nat) : Prop := h tS = .inl (100, 4, .inl z_step)
section C1
variable {h : zH} {b tS : Nat} {S : zS} {A : Int → Int} {U : Int → Option Nat} {F : Nat → Nat → Int32}
theorem stepv {s : Int} (h1 : 0 ≤ s) (h2 : s ≤ 3) : z_step s.toNat = iI (if s = 0 then 1 else if s = 1 then 8 else if s = 2 then -1 else -8) := by
  rcases (show s = 0 ∨ s = 1 ∨ s = 2 ∨ s = 3 by omega) with rfl | rfl | rfl | rfl <;> rfl
theorem z_stp (hT : hST h tS) {s : Int} (h1 : 0 ≤ s) (h2 : s ≤ 3) : z_aI h (some tS) (iI s) = some (iI (if s = 0 then 1 else if s = 1 then 8 else if s = 2 then -1 else -8)) := by
  rw [z_aI_k hT (Or.inr rfl) h1 (by simpa using (show s < 4 by omega)) (by decide), stepv h1 h2]
theorem bes_n {c s : Int} (h1 : 0 ≤ c) (h2 : c < 64) (g1 : 0 ≤ s) (g2 : s ≤ 3) : bes c s = (if (if s = 0 then c % 8 < 7 else if s = 1 then c / 8 < 7 else if s = 2 then 0 < c % 8 else 0 < c / 8) then c + (if s = 0 then 1 else if s = 1 then 8 else if s = 2 then -1 else -8) else -4) := by
  unfold bes
  rcases (show s = 0 ∨ s = 1 ∨ s = 2 ∨ s = 3 by omega) with rfl | rfl | rfl | rfl
  · simp; split <;> split <;> omega
  · simp; split <;> split <;> omega
  · simp; split <;> split <;> omega
  · simp; split <;> split <;> omega
theorem C_beside (hT : hST h tS) {c s : Int} (h1 : 0 ≤ c) (h2 : c < 64) (g1 : 0 ≤ s) (g2 : s ≤ 3) : f_X10_beside tS (iI c) (iI s) h = some (iI (bes c s), h) := by
  have m : s % 4 = s := by omega
  have k0 : f_X10_beside_b72 tS (iI c) (iI s) (iI 0) h = some (iI (-4), h) := by
    simp (disch := omega) only [f_X10_beside_b72, iI_lit, iI_add, iI_sub, iI_mul, iI_neg, if_true]
  have k1 : f_X10_beside_b72 tS (iI c) (iI s) (iI 1) h = some (iI (c + (if s = 0 then 1 else if s = 1 then 8 else if s = 2 then -1 else -8)), h) := by
    simp (disch := omega) only [f_X10_beside_b72, iI_lit, iI_add, iI_sub, iI_mul, iI_neg, iI_eq, if_neg, iI_and3, m, z_stp hT, Option.bind_some, z_b2_some, z_i1_some]
  rw [bes_n h1 h2 g1 g2]
  have e7 := iI_and7 h1 h2
  have e8 := iI_shr3 h1 h2
  rcases (show s = 0 ∨ s = 1 ∨ s = 2 ∨ s = 3 by omega) with rfl | rfl | rfl | rfl
  · simp (disch := omega) only [f_X10_beside, iI_lit, iI_add, iI_sub, iI_mul, iI_neg, e7, e8, iI_eq, iI_le, if_true, k0, k1]
    by_cases q : 7 ≤ c % 8
    · rw [if_pos q, if_neg (by omega)]
    · rw [if_neg q, if_pos (by omega)]
  · simp (disch := omega) only [f_X10_beside, iI_lit, iI_add, iI_sub, iI_mul, iI_neg, e7, e8, iI_eq, iI_le, if_true, k0, k1, if_neg]
    by_cases q : 7 ≤ c / 8
    · rw [if_pos q, if_neg (by omega)]
    · rw [if_neg q, if_pos (by omega)]
  · simp (disch := omega) only [f_X10_beside, iI_lit, iI_add, iI_sub, iI_mul, iI_neg, e7, e8, iI_eq, iI_le, if_true, k0, k1, if_neg]
    by_cases q : c % 8 ≤ 0
    · rw [if_pos q, if_neg (by omega)]
    · rw [if_neg q, if_pos (by omega)]
  · simp (disch := omega) only [f_X10_beside, iI_lit, iI_add, iI_sub, iI_mul, iI_neg, e7, e8, iI_eq, iI_le, k0, k1, if_neg]
    by_cases q : c / 8 ≤ 0
    · rw [if_pos q, if_neg (by omega)]
    · rw [if_neg q, if_pos (by omega)]
/-- the side, where they touch -/
theorem side_adj {c s : Int} (h1 : 0 ≤ c) (h2 : c < 64) (g1 : 0 ≤ s) (g2 : s ≤ 3) (hb : 0 ≤ bes c s) : sideTo c (bes c s) = s ∧ bes c s - c = (if s = 0 then 1 else if s = 1 then 8 else if s = 2 then -1 else -8) := by
  have key : ∀ n : Fin 64, ∀ s : Fin 4, 0 ≤ bes ((n.val : Nat) : Int) ((s.val : Nat) : Int) → sideTo ((n.val : Nat) : Int) (bes ((n.val : Nat) : Int) ((s.val : Nat) : Int)) = ((s.val : Nat) : Int) ∧ bes ((n.val : Nat) : Int) ((s.val : Nat) : Int) - ((n.val : Nat) : Int) = (if ((s.val : Nat) : Int) = 0 then 1 else if ((s.val : Nat) : Int) = 1 then 8 else if ((s.val : Nat) : Int) = 2 then -1 else -8) := by decide +kernel
  have := key ⟨c.toNat, by omega⟩ ⟨s.toNat, by omega⟩
  simp only [Int.toNat_of_nonneg h1, Int.toNat_of_nonneg g1] at this
  exact this hb
theorem C_sideOf {c o s : Int} (h1 : 0 ≤ c) (h2 : c < 64) (g1 : 0 ≤ s) (g2 : s ≤ 3) (ho : 0 ≤ o) (he : o = bes c s) : f_X10_sideOf (iI c) (iI o) h = some (iI (sideTo c o), h) := by
  have hh := side_adj h1 h2 g1 g2 (by omega)
  have hr := bes_rg (s := s) h1 h2
  rw [← he] at hh hr
  rw [hh.1]
  have h3 := hh.2
  rcases (show s = 0 ∨ s = 1 ∨ s = 2 ∨ s = 3 by omega) with rfl | rfl | rfl | rfl
  · simp at h3
    simp (disch := omega) only [f_X10_sideOf, iI_lit, iI_add, iI_sub, iI_mul, iI_neg, iI_eq, if_neg, if_pos]
  · simp at h3
    simp (disch := omega) only [f_X10_sideOf, iI_lit, iI_add, iI_sub, iI_mul, iI_neg, iI_eq, if_neg, if_pos]
  · simp at h3
    simp (disch := omega) only [f_X10_sideOf, iI_lit, iI_add, iI_sub, iI_mul, iI_neg, iI_eq, if_neg, if_pos]
  · simp at h3
    simp (disch := omega) only [f_X10_sideOf, iI_lit, iI_add, iI_sub, iI_mul, iI_neg, iI_eq, if_neg, if_pos]
theorem C_near {c : Int} (h1 : 0 ≤ c) (h2 : c < 64) : f_X10_near (iI c) h = some (bset (fun x => x = c ∨ x = bes c 0 ∨ x = bes c 1 ∨ x = bes c 2 ∨ x = bes c 3), h) := by
  unfold f_X10_near
  congr 2
  apply bset_of
  intro i hi
  have key : ∀ n : Fin 64, ∀ j : Fin 64, (bt (((((1 : Int64) <<< (Int32.toInt64 (iI ((n.val : Nat) : Int)) &&& 63)) ||| (((1 : Int64) <<< (Int32.toInt64 (iI ((n.val : Nat) : Int)) &&& 63)) <<< (Int32.toInt64 (8 : Int32) &&& 63))) ||| (((Int64.toUInt64 ((1 : Int64) <<< (Int32.toInt64 (iI ((n.val : Nat) : Int)) &&& 63))) >>> ((Int32.toInt64 (8 : Int32)).toUInt64 &&& Int64.toUInt64 63)).toInt64)) ||| (((((1 : Int64) <<< (Int32.toInt64 (iI ((n.val : Nat) : Int)) &&& 63)) &&& (9187201950435737471 : Int64)) <<< (Int32.toInt64 (1 : Int32) &&& 63)) ||| (((Int64.toUInt64 (((1 : Int64) <<< (Int32.toInt64 (iI ((n.val : Nat) : Int)) &&& 63)) &&& (-72340172838076674 : Int64))) >>> ((Int32.toInt64 (1 : Int32)).toUInt64 &&& Int64.toUInt64 63)).toInt64))) j.val = true) ↔ (((j.val : Nat) : Int) = ((n.val : Nat) : Int) ∨ ((j.val : Nat) : Int) = bes ((n.val : Nat) : Int) 0 ∨ ((j.val : Nat) : Int) = bes ((n.val : Nat) : Int) 1 ∨ ((j.val : Nat) : Int) = bes ((n.val : Nat) : Int) 2 ∨ ((j.val : Nat) : Int) = bes ((n.val : Nat) : Int) 3) := by decide +kernel
  have := key ⟨c.toNat, by omega⟩ ⟨i, hi⟩
  simp only [Int.toNat_of_nonneg h1] at this
  exact this
theorem sqs (x : Int) (hx : -7 ≤ x) (hy : x ≤ 7) : 0 ≤ x * x ∧ x * x ≤ 49 := by
  have hc : x = -7 ∨ x = -6 ∨ x = -5 ∨ x = -4 ∨ x = -3 ∨ x = -2 ∨ x = -1 ∨ x = 0 ∨ x = 1 ∨ x = 2 ∨ x = 3 ∨ x = 4 ∨ x = 5 ∨ x = 6 ∨ x = 7 := by omega
  rcases hc with rfl | rfl | rfl | rfl | rfl | rfl | rfl | rfl | rfl | rfl | rfl | rfl | rfl | rfl | rfl <;> decide
theorem C_touch {c d : Int} (h1 : 0 ≤ c) (h2 : c < 64) (g1 : 0 ≤ d) (g2 : d < 64) : f_X10_touchByCorner (iI c) (iI d) h = some (tb ((c % 8 - d % 8) * (c % 8 - d % 8) = 1 ∧ (c / 8 - d / 8) * (c / 8 - d / 8) = 1), h) := by
  have s1 := sqs (c % 8 - d % 8) (by omega) (by omega)
  have s2 := sqs (c / 8 - d / 8) (by omega) (by omega)
  simp only [f_X10_touchByCorner, iI_lit, iI_and7 h1 h2, iI_and7 g1 g2, iI_shr3 h1 h2, iI_shr3 g1 g2, iI_sub, iI_mul]
  simp (disch := omega) only [iI_eq]
  refine ite_c (fun q => ite_c (fun q2 => ?_) (fun q2 => ?_)) (fun q => ?_)
  · rw [tb_t ⟨q, q2⟩]
  · rw [tb_f (fun e => q2 e.2)]
  · rw [tb_f (fun e => q e.1)]
theorem C_isFree (hS : SAt h b S) (hR : SRel A U F S) (hW : WF A) {c : Int} (hc : -4 ≤ c ∧ c < 64) : f_X6_isFree (some b) (iI c) h = some (tb (free A c), h) := by
  simp (disch := omega) only [f_X6_isFree, iI_lit, iI_add, iI_sub, iI_mul, iI_neg, iI_lt]
  refine ite_c (fun q => ?_) (fun q => ?_)
  · rw [tb_f (fun e => absurd e.1 (by omega))]
  · have hw := hW.w (c := c) (by omega) (by omega)
    simp (disch := omega) only [SW hS, ST hS, hR.w, hR.k, bset_or, Option.bind_some, z_b2_some, z_i1_some, cmpite]
    refine ite_c (fun q1 => ?_) (fun q1 => ?_)
    · rw [tb_f (fun e => q1.elim (fun g => by have := e.2.1; omega) e.2.2)]
    · rw [tb_t (show free A c from ⟨by omega, hw.resolve_right (fun g => q1 (Or.inl g)), fun g => q1 (Or.inr g)⟩)]
theorem C_lyC (hS : SAt h b S) (hR : SRel A U F S) (hW : WF A) : f_X6_lyingCells (some b) h = some (bset (fun c => ∃ t, ly A t c), h) := by
  have l0 := hR.l 0 (by omega) (by omega)
  have l1 := hR.l 1 (by omega) (by omega)
  have l2 := hR.l 2 (by omega) (by omega)
  have l3 := hR.l 3 (by omega) (by omega)
  simp (disch := omega) only [f_X6_lyingCells, iI_lit, iI_add, iI_sub, iI_mul, iI_neg, Sg2 hS, SL hS, Option.bind_some, z_b2_some, z_i1_some, l0, l1, l2, l3, bset_or]
  congr 2
  apply bset_cg
  intro c h1 h2
  constructor
  · rintro (((⟨t, q, _⟩ | ⟨t, q, _⟩) | ⟨t, q, _⟩) | ⟨t, q, _⟩) <;> exact ⟨t, q⟩
  · rintro ⟨t, q⟩
    have w := (hW.t q.1).2.2.1
    rcases (show A (492 + 4 * t) = 0 ∨ A (492 + 4 * t) = 1 ∨ A (492 + 4 * t) = 2 ∨ A (492 + 4 * t) = 3 by omega) with e | e | e | e
    · exact Or.inl (Or.inl (Or.inl ⟨t, q, e⟩))
    · exact Or.inl (Or.inl (Or.inr ⟨t, q, e⟩))
    · exact Or.inl (Or.inr ⟨t, q, e⟩)
    · exact Or.inr ⟨t, q, e⟩
theorem C_inUse (hS : SAt h b S) (hR : SRel A U F S) (hW : WF A) : f_X6_inUse (some b) h = some (bset (fun c => hasP A c ∨ ∃ t, ly A t c), h) := by
  simp (disch := omega) only [f_X6_inUse, ST hS, Sck hS, C_lyC hS hR hW, Option.bind_some, z_b2_some, z_i1_some, hR.k, bset_or]
theorem C_lyingAt (hS : SAt h b S) (hR : SRel A U F S) (hW : WF A) {c : Int} (hc : -4 ≤ c ∧ c < 64) : f_X6_lyingAt (some b) (iI c) h = some (iI (lyAt A c), h) := by
  have hn3 := hW.n
  rw [f_X6_lyingAt, iI_lit]
  have step : ∀ i : Nat, (i : Int) < A 65 → ¬ ly A i c → f_X6_lyingAt_c2 (some b) (iI c) (iI i) h = some (.inl (some b, iI c, iI (i + 1 : Nat), h)) := by
    intro i hi hno
    have ht := hW.t (t := i) ⟨by omega, hi⟩
    have ht1 := ht.1
    have ht2 := ht.2.1
    have v1 := hR.v1 i (by omega) hi
    by_cases h1 : A (490 + 4 * i) = 0
    · have h2 : A (491 + 4 * i) ≠ c := fun e => hno ⟨⟨by omega, hi⟩, h1, e⟩
      have v2 := hR.v2 i (by omega) hi h1
      simp (disch := omega) only [f_X6_lyingAt_c2, f_X6_lyingAt_b37, Sz6 hS, hR.n6, Sg5 hS, Sthg hS, Tv1 hS, Tv2 hS, v1, v2, Option.bind_some, z_b2_some, z_i1_some, iI_lit, iI_add, iI_sub, iI_mul, iI_neg, iI_lt, iI_le, iI_eq, if_neg, if_pos]
      rfl
    · simp (disch := omega) only [f_X6_lyingAt_c2, f_X6_lyingAt_b37, Sz6 hS, hR.n6, Sg5 hS, Sthg hS, Tv1 hS, v1, Option.bind_some, z_b2_some, z_i1_some, iI_lit, iI_add, iI_sub, iI_mul, iI_neg, iI_lt, iI_le, iI_eq, if_neg, if_pos]
      rfl
  by_cases hx : ∃ t, ly A t c
  · obtain ⟨t, ht⟩ := hx
    rw [ly_at hW ht]
    have h1 := ht.1
    refine z_for0 (fun i : Nat => ((some b, iI c, iI i, h) : Option Nat × Int32 × Int32 × zH)) t.toNat (fun i hi => step i (by omega) (fun q => ?_)) ?_
    · have := hW.l q ht; omega
    · rw [Int.toNat_of_nonneg h1.1]
      have h2 := ht.2.1
      have h3 := ht.2.2
      have v1 := hR.v1 t h1.1 h1.2
      have v2 := hR.v2 t h1.1 h1.2 h2
      simp (disch := omega) only [f_X6_lyingAt_c2, Sz6 hS, hR.n6, Sg5 hS, Sthg hS, Tv1 hS, Tv2 hS, v1, v2, Option.bind_some, z_b2_some, z_i1_some, iI_lit, iI_add, iI_sub, iI_mul, iI_neg, iI_lt, iI_le, iI_eq, if_neg, if_pos]
  · rw [ly_no hx]
    refine z_for0 (fun i : Nat => ((some b, iI c, iI i, h) : Option Nat × Int32 × Int32 × zH)) (A 65).toNat (fun i hi => step i (by omega) (fun q => hx ⟨_, q⟩)) ?_
    rw [Int.toNat_of_nonneg hn3.2.1.1]
    simp (disch := omega) only [f_X6_lyingAt_c2, Sz6 hS, hR.n6, Option.bind_some, z_b2_some, z_i1_some, iI_lit, iI_add, iI_sub, iI_mul, iI_neg, iI_lt, iI_le, iI_eq, if_pos]
theorem C_turned (hT : hST h tS) (hS : SAt h b S) (hR : SRel A U F S) (hW : WF A) {c o s : Int} (hc : 0 ≤ c ∧ c < 64) (hs : 0 ≤ s ∧ s ≤ 3) (ho : 0 ≤ o) (he : o = bes c s) : f_X6_turned tS (some b) (iI c) (iI o) h = some (iI (turn A c (sideTo c o)), h) := by
  have hd := (side_adj hc.1 hc.2 hs.1 hs.2 (by omega)).1
  rw [← he] at hd
  rw [f_X6_turned, C_sideOf hc.1 hc.2 hs.1 hs.2 ho he, z_b2_some, iI_lit, hd]
  have hr : ∀ s, -4 ≤ bes c s ∧ bes c s < 64 := fun s => by rcases bes_rg (s := s) hc.1 hc.2 with q | q <;> omega
  have nx : ∀ k : Nat, k < 3 → ¬ free A (bes c ((s + (k + 1)) % 4)) → f_X6_turned_c9 tS (some b) (iI c) (iI s) (iI (k + 1)) h = some (.inl (some b, iI c, iI s, iI ((k + 1 : Nat) + 1), h)) := by
    intro k hk hn
    have := hr ((s + (k + 1)) % 4)
    simp (disch := omega) only [f_X6_turned_c9, iI_lit, iI_add, iI_sub, iI_mul, iI_neg, iI_lt, iI_and3, if_neg, C_beside hT hc.1 hc.2, Option.bind_some, z_b2_some, z_i1_some, Sck hS, C_isFree hS hR hW, ite_tb]
    rfl
  have dn : ∀ k : Nat, k < 3 → free A (bes c ((s + (k + 1)) % 4)) → f_X6_turned_c9 tS (some b) (iI c) (iI s) (iI (k + 1)) h = some (.inr (iI (bes c ((s + (k + 1)) % 4)), h)) := by
    intro k hk hn
    have := hr ((s + (k + 1)) % 4)
    simp (disch := omega) only [f_X6_turned_c9, iI_lit, iI_add, iI_sub, iI_mul, iI_neg, iI_lt, iI_and3, if_neg, C_beside hT hc.1 hc.2, Option.bind_some, z_b2_some, z_i1_some, Sck hS, C_isFree hS hR hW, ite_tb]
    rw [if_pos hn]
  have stf : ∀ n : Nat, n ≤ 3 → (∀ k : Nat, k < n → ¬ free A (bes c ((s + (k + 1)) % 4))) → ∀ r, f_X6_turned_c9 tS (some b) (iI c) (iI s) (iI (n + 1)) h = some (.inr (iI r, h)) → f_X6_turned_b9 tS (some b) (iI c) (iI s) (iI 1) h = some (iI r, h) := by
    intro n hn h1 r h2
    refine z_for0 (fun i : Nat => ((some b, iI c, iI s, iI (i + 1), h) : Option Nat × Int32 × Int32 × Int32 × zH)) n (fun i hi => ?_) ?_
    · exact nx i (by omega) (h1 i hi)
    · exact h2
  unfold turn
  by_cases q1 : free A (bes c ((s + 1) % 4))
  · rw [if_pos q1]; exact stf 0 (by omega) (fun k hk => absurd hk (by omega)) _ (dn 0 (by omega) q1)
  · rw [if_neg q1]
    by_cases q2 : free A (bes c ((s + 2) % 4))
    · rw [if_pos q2]
      exact stf 1 (by omega) (fun k hk => by rw [show k = 0 by omega]; exact q1) _ (dn 1 (by omega) q2)
    · rw [if_neg q2]
      by_cases q3 : free A (bes c ((s + 3) % 4))
      · rw [pick_t q3]
        exact stf 2 (by omega) (fun k hk => by rcases (show k = 0 ∨ k = 1 by omega) with rfl | rfl; exact q1; exact q2) _ (dn 2 (by omega) q3)
      · rw [pick_f q3]
        refine stf 3 (by omega) (fun k hk => by rcases (show k = 0 ∨ k = 1 ∨ k = 2 by omega) with rfl | rfl | rfl; exact q1; exact q2; exact q3) _ ?_
        simp (disch := omega) only [f_X6_turned_c9, iI_lit, iI_add, iI_sub, iI_mul, iI_neg, iI_lt, Option.bind_some, z_b2_some, z_i1_some, if_pos]
/-- the cell across, where the three touch -/
theorem across {one c two s s' : Int} (h1 : 0 ≤ one) (h2 : one < 64) (g1 : 0 ≤ s ∧ s ≤ 3) (g2 : 0 ≤ s' ∧ s' ≤ 3) (e1 : c = bes one s) (e2 : two = bes c s') (k1 : 0 ≤ c) (k2 : 0 ≤ two) (q : (one % 8 - two % 8) * (one % 8 - two % 8) = 1 ∧ (one / 8 - two / 8) * (one / 8 - two / 8) = 1) :
    (if 8 * (one / 8) + two % 8 = c then 8 * (two / 8) + one % 8 else 8 * (one / 8) + two % 8) = one + two - c ∧ (0 ≤ one + two - c ∧ one + two - c < 64) ∧ bes one s' = one + two - c ∧ bes (one + two - c) s = two := by
  have key : ∀ n : Fin 64, ∀ s s' : Fin 4, 0 ≤ bes ((n.val : Nat) : Int) ((s.val : Nat) : Int) → 0 ≤ bes (bes ((n.val : Nat) : Int) ((s.val : Nat) : Int)) ((s'.val : Nat) : Int) → (((n.val : Nat) : Int) % 8 - (bes (bes ((n.val : Nat) : Int) ((s.val : Nat) : Int)) ((s'.val : Nat) : Int)) % 8) * (((n.val : Nat) : Int) % 8 - (bes (bes ((n.val : Nat) : Int) ((s.val : Nat) : Int)) ((s'.val : Nat) : Int)) % 8) = 1 ∧ (((n.val : Nat) : Int) / 8 - (bes (bes ((n.val : Nat) : Int) ((s.val : Nat) : Int)) ((s'.val : Nat) : Int)) / 8) * (((n.val : Nat) : Int) / 8 - (bes (bes ((n.val : Nat) : Int) ((s.val : Nat) : Int)) ((s'.val : Nat) : Int)) / 8) = 1 →
    (if 8 * (((n.val : Nat) : Int) / 8) + (bes (bes ((n.val : Nat) : Int) ((s.val : Nat) : Int)) ((s'.val : Nat) : Int)) % 8 = bes ((n.val : Nat) : Int) ((s.val : Nat) : Int) then 8 * ((bes (bes ((n.val : Nat) : Int) ((s.val : Nat) : Int)) ((s'.val : Nat) : Int)) / 8) + ((n.val : Nat) : Int) % 8 else 8 * (((n.val : Nat) : Int) / 8) + (bes (bes ((n.val : Nat) : Int) ((s.val : Nat) : Int)) ((s'.val : Nat) : Int)) % 8) = ((n.val : Nat) : Int) + (bes (bes ((n.val : Nat) : Int) ((s.val : Nat) : Int)) ((s'.val : Nat) : Int)) - bes ((n.val : Nat) : Int) ((s.val : Nat) : Int) ∧ (0 ≤ ((n.val : Nat) : Int) + (bes (bes ((n.val : Nat) : Int) ((s.val : Nat) : Int)) ((s'.val : Nat) : Int)) - bes ((n.val : Nat) : Int) ((s.val : Nat) : Int) ∧ ((n.val : Nat) : Int) + (bes (bes ((n.val : Nat) : Int) ((s.val : Nat) : Int)) ((s'.val : Nat) : Int)) - bes ((n.val : Nat) : Int) ((s.val : Nat) : Int) < 64) ∧ bes ((n.val : Nat) : Int) ((s'.val : Nat) : Int) = ((n.val : Nat) : Int) + (bes (bes ((n.val : Nat) : Int) ((s.val : Nat) : Int)) ((s'.val : Nat) : Int)) - bes ((n.val : Nat) : Int) ((s.val : Nat) : Int) ∧ bes (((n.val : Nat) : Int) + (bes (bes ((n.val : Nat) : Int) ((s.val : Nat) : Int)) ((s'.val : Nat) : Int)) - bes ((n.val : Nat) : Int) ((s.val : Nat) : Int)) ((s.val : Nat) : Int) = bes (bes ((n.val : Nat) : Int) ((s.val : Nat) : Int)) ((s'.val : Nat) : Int) := by decide +kernel
  have := key ⟨one.toNat, by omega⟩ ⟨s.toNat, by omega⟩ ⟨s'.toNat, by omega⟩
  simp only [Int.toNat_of_nonneg h1, Int.toNat_of_nonneg g1.1, Int.toNat_of_nonneg g2.1, ← e1, ← e2] at this
  exact this k1 k2 q
theorem C_flipped (hS : SAt h b S) (hR : SRel A U F S) (hW : WF A) {one c two s s' : Int} (h1 : 0 ≤ one) (h2 : one < 64) (g1 : 0 ≤ s ∧ s ≤ 3) (g2 : 0 ≤ s' ∧ s' ≤ 3) (e1 : c = bes one s) (e2 : two = bes c s') (k1 : 0 ≤ c) (k2 : 0 ≤ two) (k3 : two < 64) : f_X6_flipped (some b) (iI one) (iI c) (iI two) h = some (iI (flp A one two c), h) := by
  simp (disch := omega) only [f_X6_flipped, iI_lit, iI_add, iI_sub, iI_mul, iI_neg, C_touch, Option.bind_some, z_b2_some, z_i1_some, ite_tb]
  unfold flp
  refine ite_c (fun q => ?_) (fun q => ?_)
  · rw [if_pos q]
    have ac := across h1 h2 g1 g2 e1 e2 k1 k2 q
    rw [ac.1]
    have a2 := ac.2.1
    simp (disch := omega) only [Sck hS, C_isFree hS hR hW, Option.bind_some, z_b2_some, z_i1_some, ite_tb]
    refine ite_c (fun q => ?_) (fun q => ?_)
    · rw [pick_t q]
    · rw [pick_f q]
  · rw [if_neg q]
end C1
