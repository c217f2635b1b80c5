section BF
variable {b b' : Nat} {S' : zS}
def bHD (S S' R : zS) : Prop := R.W = S'.W ∧ R.T = S'.T ∧ (∀ x, x < 4 → R.L x = S'.L x) ∧ R.z 4 = S'.z 4 ∧ ∀ i, R.r i 4 = S.r i 4
def bAR (A : Int → Int) (S' R : zS) (k : Int) : Prop := ∀ a : Int, 0 ≤ a → a < k → (R.n a.toNat 0 = S'.n a.toNat 0 ∧ R.n a.toNat 1 = S'.n a.toNat 1 ∧ R.n a.toNat 2 = S'.n a.toNat 2 ∧ R.u a.toNat = S'.u a.toNat) ∧ ∀ j, j < 4 → ∀ p : Nat, p < (A (70 + 40 * a)).toNat → R.r a.toNat j p = S'.r a.toNat j p
def bTH (S' R : zS) (k : Int) : Prop := ∀ t : Int, 0 ≤ t → t < k → ∀ j, j < 5 → R.v t.toNat j = S'.v t.toNat j
theorem SpZ {h : zH} {S : zS} (hS : SAt h b S) (hS' : SAt h b' S') (hd : b + 30 ≤ b' ∨ b' + 30 ≤ b) {k : Nat} (hk : k = 4 ∨ k = 6 ∨ k = 7 ∨ k = 8) (x : Int32) : ∃ h' R, z_pF h 6 k (some b) (tI x) = some h' ∧ SAt h' b R ∧ SAt h' b' S' ∧ fr b 30 h h' ∧ R.W = S.W ∧ R.T = S.T ∧ R.L = S.L ∧ R.n = S.n ∧ R.u = S.u ∧ R.r = S.r ∧ R.v = S.v ∧ R.z k = x ∧ ∀ j, j ≠ k → R.z j = S.z j := by
  have f : fr b 30 h (z_up h b (c0 b (sZ S k x))) := fr_up (by omega) (by omega)
  refine ⟨_, sZ S k x, ?_, SAt_o hS (S' := sZ S k x) rfl rfl rfl rfl rfl, SAt_fr30 hS' hd f, f, rfl, rfl, rfl, rfl, rfl, rfl, rfl, (pk_us : upd S.z k x k = x), fun j hj => (pk_un hj : upd S.z k x j = S.z j)⟩
  rcases hk with rfl | rfl | rfl | rfl
  · exact Sp4 hS x
  · exact Sp6 hS x
  · exact Sp7 hS x
  · exact Sp8 hS x
theorem C_become {h : zH} {S : zS} {A : Int → Int} {U : Int → Option Nat} {F' : Nat → Nat → Int32} (hS : SAt h b S) (hS' : SAt h b' S') (hR : SRel A U F' S') (hW : WF A) (hd : b + 30 ≤ b' ∨ b' + 30 ≤ b) :
    ∃ h', f_X6_become (some b) (some b') h = some h' ∧ SR h' b A U (fun i => S.r i 4) ∧ fr b 30 h h' := by
  have hn := hW.n
  -- the head
  have f0 : fr b 30 h (z_up h b (c0 b (sW S S'.W))) := fr_up (by omega) (by omega)
  have a0 : SAt (z_up h b (c0 b (sW S S'.W))) b (sW S S'.W) := SAt_o hS (S' := sW S S'.W) rfl rfl rfl rfl rfl
  have s0 := SAt_fr30 hS' hd f0
  have w0 := SpW hS S'.W
  have f1 : fr b 30 (z_up h b (c0 b (sW S S'.W))) (z_up (z_up h b (c0 b (sW S S'.W))) b (c0 b (sT (sW S S'.W) S'.T))) := fr_up (by omega) (by omega)
  have a1 : SAt (z_up (z_up h b (c0 b (sW S S'.W))) b (c0 b (sT (sW S S'.W) S'.T))) b (sT (sW S S'.W) S'.T) := SAt_o a0 (S' := sT (sW S S'.W) S'.T) rfl rfl rfl rfl rfl
  have s1 := SAt_fr30 s0 hd f1
  have w1 := SpT a0 S'.T
  generalize z_up (z_up h b (c0 b (sW S S'.W))) b (c0 b (sT (sW S S'.W) S'.T)) = g1 at f1 a1 s1 w1
  have w2 : z_cp g1 (some (b' + 1)) (iI 0) (some (b + 1)) (iI 0) (iI 4) = some (z_up g1 (b + 1) (.inl (3, 4, .inr (.inl (va_cpy S'.L S.L 0 0 4))))) := z_cpJ_k s1.l a1.l (by omega) (by omega) (by omega) (by omega) (by omega) (by omega) (by omega)
  have f2 : fr b 30 g1 (z_up g1 (b + 1) (.inl (3, 4, .inr (.inl (va_cpy S'.L S.L 0 0 4))))) := fr_up (by omega) (by omega)
  have a2 := SAt_l a1 (va_cpy S'.L S.L 0 0 4)
  have s2 := SAt_fr30 s1 hd f2
  generalize z_up g1 (b + 1) (.inl (3, 4, .inr (.inl (va_cpy S'.L S.L 0 0 4)))) = g2 at w2 f2 a2 s2
  obtain ⟨g3, R3, w3, a3, s3, f3, e1, e2, e3, e4, e5, e6, e7, e8, e9⟩ := SpZ a2 s2 hd (k := 4) (by omega) (S'.z 4)
  have hd3 : bHD S S' R3 := ⟨by rw [e1]; rfl, by rw [e2]; rfl, fun x hx => by rw [e3]; exact cpy_in _ _ hx, e8, fun i => by rw [e6]; rfl⟩
  have ff : fr b 30 h g3 := fr_tr f0 (fr_tr f1 (fr_tr f2 f3))
  -- the things
  have thg : ∀ (g : zH) (R : zS), SAt g b R → SAt g b' S' → fr b 30 h g → bHD S S' R → bAR A S' R (A 64) → R.z 6 = S'.z 6 → ∃ h', f_X6_become_b83 (some b) (some b') (iI 0) g = some h' ∧ SR h' b A U (fun i => S.r i 4) ∧ fr b 30 h h' := by
    intro g R q1 q2 q3 q4 q5 q6
    have key := z_forI (body := fun s : (Option Nat) × (Option Nat) × Int32 × zH => f_X6_become_c83 s.1 s.2.1 s.2.2.1 s.2.2.2) (Q := fun h' => SR h' b A U (fun i => S.r i 4) ∧ fr b 30 h h')
      (fun i s => ∃ h1 R1, s = (some b, some b', iI (i : Int), h1) ∧ SAt h1 b R1 ∧ SAt h1 b' S' ∧ fr b 30 h h1 ∧ bHD S S' R1 ∧ bAR A S' R1 (A 64) ∧ R1.z 6 = S'.z 6 ∧ bTH S' R1 (i : Int)) (A 65).toNat ?_ ?_ (A 65).toNat 0 (some b, some b', iI 0, g) (by omega) ⟨g, R, rfl, q1, q2, q3, q4, q5, q6, fun t h1 h2 => absurd h2 (by omega)⟩
    · exact key
    · rintro i s hi ⟨h1, R1, rfl, k1, k2, k3, k4, k5, k6, k7⟩
      obtain ⟨h2, R2, u1, u2, u3, u4, u5, u6⟩ := C_thgB k1 k2 hd (i := i) (by omega)
      refine Or.inl ⟨_, ?_, h2, R2, rfl, u2, SAt_fr30 k2 hd u3, fr_tr k3 u3, ⟨u4.1.trans k4.1, u4.2.1.trans k4.2.1, fun x hx => by rw [u4.2.2.1]; exact k4.2.2.1 x hx, by rw [u4.2.2.2.1]; exact k4.2.2.2.1, fun j => by rw [u4.2.2.2.2.2.2]; exact k4.2.2.2.2 j⟩, ?_, by rw [u4.2.2.2.1]; exact k6, fun t g1 g2 j hj => ?_⟩
      · show f_X6_become_c83 (some b) (some b') (iI (i : Int)) h1 = _
        unfold f_X6_become_c83
        rw [Sz6 k1, Option.bind_some, k6, hR.n6, if_neg (nLe (by omega)), Sg5 k1, Option.bind_some, Sthg k1 (by omega) (by omega), Option.bind_some, Sg5 k2, Option.bind_some, Sthg k2 (by omega) (by omega), Option.bind_some, Tck k1 (by omega), Option.bind_some, show (i : Int).toNat = i by omega, u1, Option.bind_some, iI_lit, iI_add]
        rfl
      · intro a g1 g2
        rw [u4.2.2.2.2.1, u4.2.2.2.2.2.1, u4.2.2.2.2.2.2]
        exact k5 a g1 g2
      · by_cases e : t = (i : Int)
        · subst e; exact u6 j hj
        · rw [u5 t.toNat (by omega)]; exact k7 t g1 (by omega) j hj
    · rintro s ⟨h1, R1, rfl, k1, k2, k3, k4, k5, k6, k7⟩
      have e65 : (((A 65).toNat : Nat) : Int) = A 65 := by omega
      rw [e65] at k7
      obtain ⟨h2, R2, v1, v2, v3, v4, x1, x2, x3, x4, x5, x6, x7, x8, x9⟩ := SpZ k1 k2 hd (k := 7) (by omega) (S'.z 7)
      obtain ⟨h3, R3', v5, v6, v7, v8, y1, y2, y3, y4, y5, y6, y7, y8, y9⟩ := SpZ v2 v3 hd (k := 8) (by omega) (S'.z 8)
      refine ⟨h3, ?_, ⟨R3', v6, ?_⟩, fr_tr k3 (fr_tr v4 v8)⟩
      · show f_X6_become_c83 (some b) (some b') (iI ((A 65).toNat : Int)) h1 = _
        unfold f_X6_become_c83
        rw [Sz6 k1, Option.bind_some, k6, hR.n6, e65, if_pos (Int32.le_refl _), Sz7 k2, Option.bind_some, v1, Option.bind_some, Sz8 v3, Option.bind_some, v5, Option.bind_some]
        rfl
      · refine ⟨?_, ?_, fun x g1 g2 => ?_, ?_, ?_, ?_, ?_, fun a g1 g2 => ?_, fun a g1 g2 => ?_, fun a g1 g2 => ?_, fun a g1 g2 => ?_, fun a p g1 g2 g3 g4 => ?_, fun a p g1 g2 g3 g4 => ?_, fun a p g1 g2 g3 g4 => ?_, fun a p g1 g2 g3 g4 => ?_, fun i => ?_, fun t g1 g2 => ?_, fun t g1 g2 => ?_, fun t g1 g2 g3 => ?_, fun t g1 g2 g3 => ?_, fun t g1 g2 g3 => ?_⟩
        · rw [y1, x1, k4.1]; exact hR.w
        · rw [y2, x2, k4.2.1]; exact hR.k
        · rw [y3, x3, k4.2.2.1 _ (by omega)]; exact hR.l x g1 g2
        · rw [y9 4 (by omega), x9 4 (by omega), k4.2.2.2.1]; exact hR.n4
        · rw [y9 6 (by omega), x9 6 (by omega), k6]; exact hR.n6
        · rw [y9 7 (by omega), x8]; exact hR.n7
        · rw [y8]; exact hR.n8
        · rw [y4, x4, (k5 a g1 g2).1.1]; exact hR.m0 a g1 g2
        · rw [y4, x4, (k5 a g1 g2).1.2.1]; exact hR.m1 a g1 g2
        · rw [y4, x4, (k5 a g1 g2).1.2.2.1]; exact hR.m2 a g1 g2
        · rw [y5, x5, (k5 a g1 g2).1.2.2.2]; exact hR.u a g1 g2
        · rw [y6, x6, (k5 a g1 g2).2 0 (by omega) p.toNat (by omega)]; exact hR.r0 a p g1 g2 g3 g4
        · rw [y6, x6, (k5 a g1 g2).2 1 (by omega) p.toNat (by omega)]; exact hR.r1 a p g1 g2 g3 g4
        · rw [y6, x6, (k5 a g1 g2).2 2 (by omega) p.toNat (by omega)]; exact hR.r2 a p g1 g2 g3 g4
        · rw [y6, x6, (k5 a g1 g2).2 3 (by omega) p.toNat (by omega)]; exact hR.r3 a p g1 g2 g3 g4
        · rw [y6, x6]; exact k4.2.2.2.2 i
        · rw [y7, x7, k7 t g1 g2 0 (by omega)]; exact hR.v0 t g1 g2
        · rw [y7, x7, k7 t g1 g2 1 (by omega)]; exact hR.v1 t g1 g2
        · rw [y7, x7, k7 t g1 g2 2 (by omega)]; exact hR.v2 t g1 g2 g3
        · rw [y7, x7, k7 t g1 g2 3 (by omega)]; exact hR.v3 t g1 g2 g3
        · rw [y7, x7, k7 t g1 g2 4 (by omega)]; exact hR.v4 t g1 g2 g3
  -- the arms
  have key := z_forI (body := fun s : (Option Nat) × (Option Nat) × Int32 × zH => f_X6_become_c44 s.1 s.2.1 s.2.2.1 s.2.2.2) (Q := fun h' => SR h' b A U (fun i => S.r i 4) ∧ fr b 30 h h')
    (fun i s => ∃ h1 R1, s = (some b, some b', iI (i : Int), h1) ∧ SAt h1 b R1 ∧ SAt h1 b' S' ∧ fr b 30 h h1 ∧ bHD S S' R1 ∧ bAR A S' R1 (i : Int)) (A 64).toNat ?_ ?_ (A 64).toNat 0 (some b, some b', iI 0, g3) (by omega) ⟨g3, R3, rfl, a3, s3, ff, hd3, fun a h1 h2 => absurd h2 (by omega)⟩
  · obtain ⟨h', k1, k2⟩ := key
    refine ⟨h', ?_, k2⟩
    unfold f_X6_become
    simp only [iI_lit, iI_add, iI_sub, iI_mul, iI_neg]
    rw [SW hS', Option.bind_some, w0, Option.bind_some, ST s0, Option.bind_some, w1, Option.bind_some, Sg2 s1, Option.bind_some, Sg2 a1, Option.bind_some, Option.bind_some, Slen1 a1, Option.bind_some, w2, Option.bind_some, Sz4 s2, Option.bind_some, w3, Option.bind_some]
    exact k1
  · rintro i s hi ⟨h1, R1, rfl, k1, k2, k3, k4, k5⟩
    have pc := hW.pc (a := (i : Int)) (by omega)
    have hn0 : S'.n i 0 = iI (A (70 + 40 * (i : Int))) := hR.m0 (i : Int) (by omega) (by omega)
    obtain ⟨h2, R2, u1, u2, u3, u4, u5, u6, u7⟩ := C_armB k1 k2 hd (i := i) (by omega) hn0 (by omega)
    refine Or.inl ⟨_, ?_, h2, R2, rfl, u2, SAt_fr30 k2 hd u3, fr_tr k3 u3, ⟨u4.1.1.trans k4.1, u4.1.2.1.trans k4.2.1, fun x hx => by rw [u4.1.2.2.1]; exact k4.2.2.1 x hx, by rw [u4.1.2.2.2.1]; exact k4.2.2.2.1, fun j => ?_⟩, fun a g1 g2 => ?_⟩
    · show f_X6_become_c44 (some b) (some b') (iI (i : Int)) h1 = _
      unfold f_X6_become_c44
      rw [Sz4 k1, Option.bind_some, k4.2.2.2.1, hR.n4, if_neg (nLe (by omega)), Sg3 k1, Option.bind_some, Sarm k1 (by omega) (by omega), Option.bind_some, Sg3 k2, Option.bind_some, Sarm k2 (by omega) (by omega), Option.bind_some, Ack k1 (by omega), Option.bind_some, show (i : Int).toNat = i by omega, u1, Option.bind_some, iI_lit, iI_add]
      rfl
    · by_cases e : j = i
      · subst e; rw [u5]; exact k4.2.2.2.2 j
      · rw [(u4.2 j e).2.2 4]; exact k4.2.2.2.2 j
    · by_cases e : a = (i : Int)
      · subst e; exact ⟨u6, u7⟩
      · have ne : a.toNat ≠ i := by omega
        rw [(u4.2 a.toNat ne).1, (u4.2 a.toNat ne).2.1]
        refine ⟨(k5 a g1 (by omega)).1, fun j hj p hp => ?_⟩
        rw [(u4.2 a.toNat ne).2.2 j]
        exact (k5 a g1 (by omega)).2 j hj p hp
  · rintro s ⟨h1, R1, rfl, k1, k2, k3, k4, k5⟩
    have e64 : (((A 64).toNat : Nat) : Int) = A 64 := by omega
    rw [e64] at k5
    obtain ⟨h2, R2, v1, v2, v3, v4, x1, x2, x3, x4, x5, x6, x7, x8, x9⟩ := SpZ k1 k2 hd (k := 6) (by omega) (S'.z 6)
    obtain ⟨h3, y1, y2, y3⟩ := thg h2 R2 v2 v3 (fr_tr k3 v4) ⟨x1.trans k4.1, x2.trans k4.2.1, fun x hx => by rw [x3]; exact k4.2.2.1 x hx, by rw [x9 4 (by omega)]; exact k4.2.2.2.1, fun i => by rw [x6]; exact k4.2.2.2.2 i⟩ (fun a g1 g2 => by rw [x4, x5, x6]; exact k5 a g1 g2) x8
    refine ⟨h3, ?_, y2, y3⟩
    show f_X6_become_c44 (some b) (some b') (iI ((A 64).toNat : Int)) h1 = _
    unfold f_X6_become_c44
    simp only [iI_lit, iI_add, iI_sub, iI_mul, iI_neg]
    rw [Sz4 k1, Option.bind_some, k4.2.2.2.1, hR.n4, e64, if_pos (Int32.le_refl _), Sz6 k2, Option.bind_some, v1, Option.bind_some, y1]
    rfl
end BF
