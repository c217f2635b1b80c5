/-! SEAS THAT BECOME OTHERS -/
theorem nLt0 {a : Int} (h : 0 ≤ a ∧ a < 2147483648) : ¬ iI a < (0 : Int32) := by rw [iI_lit]; exact nLt (by omega)
theorem z_cp_k {h : zH} {a b na nb : Nat} {f g : Nat → Int32} {sp dp n : Int} (ha : h a = .inl (0, na, .inl f)) (hb : h b = .inl (0, nb, .inl g)) (h1 : 0 ≤ sp) (h2 : 0 ≤ dp) (h3 : 0 ≤ n) (h4 : sp + n ≤ na) (h5 : dp + n ≤ nb) (h6 : (na : Int) < 2147483648) (h7 : (nb : Int) < 2147483648) : z_cp h (some a) (iI sp) (some b) (iI dp) (iI n) = some (z_up h b (.inl (0, nb, .inl (va_cpy f g sp.toNat dp.toNat n.toNat)))) := by
  simp only [z_cp, Option.bind_some, ha, hb]
  rw [iI_cl h1 (by omega), iI_cl h2 (by omega), iI_cl h3 (by omega), if_pos ⟨⟨trivial, trivial⟩, ⟨nLt0 (by omega), nLt0 (by omega), nLt0 (by omega)⟩, by omega, by omega⟩]
theorem z_cpJ_k {h : zH} {a b na nb : Nat} {f g : Nat → Int64} {sp dp n : Int} (ha : h a = .inl (3, na, .inr (.inl f))) (hb : h b = .inl (3, nb, .inr (.inl g))) (h1 : 0 ≤ sp) (h2 : 0 ≤ dp) (h3 : 0 ≤ n) (h4 : sp + n ≤ na) (h5 : dp + n ≤ nb) (h6 : (na : Int) < 2147483648) (h7 : (nb : Int) < 2147483648) : z_cp h (some a) (iI sp) (some b) (iI dp) (iI n) = some (z_up h b (.inl (3, nb, .inr (.inl (va_cpy f g sp.toNat dp.toNat n.toNat))))) := by
  simp only [z_cp, Option.bind_some, ha, hb]
  rw [iI_cl h1 (by omega), iI_cl h2 (by omega), iI_cl h3 (by omega), if_pos ⟨⟨trivial, trivial⟩, ⟨nLt0 (by omega), nLt0 (by omega), nLt0 (by omega)⟩, by omega, by omega⟩]
theorem cpy_in {α : Type} (f g : Nat → α) {n k : Nat} (hk : k < n) : va_cpy f g 0 0 n k = f k := by
  unfold va_cpy
  rw [if_pos (by omega)]
  congr 1; omega
section BE
variable {b b' : Nat} {S' : zS}
theorem SAt_fr30 {h h' : zH} (hS : SAt h b' S') (hd : b + 30 ≤ b' ∨ b' + 30 ≤ b) (hf : fr b 30 h h') : SAt h' b' S' := SAt_fr hS (fun q h1 h2 => hf q (by omega))
/-- but for one arm all is the same -/
def eqx (i : Nat) (R R1 : zS) : Prop := (R1.W = R.W ∧ R1.T = R.T ∧ R1.L = R.L ∧ R1.z = R.z ∧ R1.v = R.v) ∧ ∀ a, a ≠ i → R1.n a = R.n a ∧ R1.u a = R.u a ∧ ∀ j, R1.r a j = R.r a j
theorem eqx_tr {i : Nat} {R R1 R2 : zS} (p : eqx i R R1) (q : eqx i R1 R2) : eqx i R R2 :=
  ⟨⟨q.1.1.trans p.1.1, q.1.2.1.trans p.1.2.1, q.1.2.2.1.trans p.1.2.2.1, q.1.2.2.2.1.trans p.1.2.2.2.1, q.1.2.2.2.2.trans p.1.2.2.2.2⟩, fun a ha => ⟨(q.2 a ha).1.trans (p.2 a ha).1, (q.2 a ha).2.1.trans (p.2 a ha).2.1, fun j => ((q.2 a ha).2.2 j).trans ((p.2 a ha).2.2 j)⟩⟩
theorem eqx_n (R : zS) (i j : Nat) (x : Int32) : eqx i R (sN R i j x) := ⟨⟨rfl, rfl, rfl, rfl, rfl⟩, fun a ha => ⟨updR_n _ _ ha, rfl, fun _ => rfl⟩⟩
theorem eqx_u (R : zS) (i : Nat) (x : Option Nat) : eqx i R (sU R i x) := ⟨⟨rfl, rfl, rfl, rfl, rfl⟩, fun a ha => ⟨rfl, updR_n _ _ ha, fun _ => rfl⟩⟩
theorem eqx_r (R : zS) (i j : Nat) (f : Nat → Int32) : eqx i R (sR R i j f) := ⟨⟨rfl, rfl, rfl, rfl, rfl⟩, fun a ha => ⟨rfl, rfl, fun k => sR_n _ _ (Or.inl ha)⟩⟩
theorem A_pn {h : zH} {R : zS} (hS : SAt h b R) (hS' : SAt h b' S') (hd : b + 30 ≤ b' ∨ b' + 30 ≤ b) {i j : Nat} (hi : i < 3) (hj : j < 3) (x : Int32) : ∃ h' R1, z_pF h 0 j (some (b + 4 + 6 * i)) (tI x) = some h' ∧ SAt h' b R1 ∧ SAt h' b' S' ∧ fr b 30 h h' ∧ eqx i R R1 ∧ R1.u = R.u ∧ R1.r = R.r ∧ R1.n i j = x ∧ ∀ k, k ≠ j → R1.n i k = R.n i k := by
  have f : fr b 30 h (z_up h (b + 4 + 6 * i) (cA b i (sN R i j x))) := fr_up (by omega) (by omega)
  refine ⟨_, sN R i j x, ?_, SAt_n hS x hi, SAt_fr30 hS' hd f, f, eqx_n R i j x, rfl, rfl, by rw [sN_s, pk_us], fun k hk => by rw [sN_s, pk_un hk]⟩
  rcases (show j = 0 ∨ j = 1 ∨ j = 2 by omega) with rfl | rfl | rfl
  · exact Ap0 hS x hi
  · exact Ap1 hS x hi
  · exact Ap2 hS x hi
theorem A_pu {h : zH} {R : zS} (hS : SAt h b R) (hS' : SAt h b' S') (hd : b + 30 ≤ b' ∨ b' + 30 ≤ b) {i : Nat} (hi : i < 3) (x : Option Nat) : ∃ h' R1, z_pF h 0 3 (some (b + 4 + 6 * i)) (tA x) = some h' ∧ SAt h' b R1 ∧ SAt h' b' S' ∧ fr b 30 h h' ∧ eqx i R R1 ∧ R1.n = R.n ∧ R1.r = R.r ∧ R1.u i = x := by
  have f : fr b 30 h (z_up h (b + 4 + 6 * i) (cA b i (sU R i x))) := fr_up (by omega) (by omega)
  exact ⟨_, sU R i x, ApU hS x hi, SAt_u hS x hi, SAt_fr30 hS' hd f, f, eqx_u R i x, rfl, rfl, updR_s _ _ _⟩
theorem A_cp {h : zH} {R : zS} (hS : SAt h b R) (hS' : SAt h b' S') (hd : b + 30 ≤ b' ∨ b' + 30 ≤ b) {i j : Nat} (hi : i < 3) (hj : j < 4) {n : Int} (hn7 : 0 ≤ n ∧ n ≤ 7) : ∃ h' R1, z_cp h (some (b' + 5 + 6 * i + j)) (iI 0) (some (b + 5 + 6 * i + j)) (iI 0) (iI n) = some h' ∧ SAt h' b R1 ∧ SAt h' b' S' ∧ fr b 30 h h' ∧ eqx i R R1 ∧ R1.n = R.n ∧ R1.u = R.u ∧ (∀ k, k ≠ j → R1.r i k = R.r i k) ∧ ∀ p, p < n.toNat → R1.r i j p = S'.r i j p := by
  have f : fr b 30 h (z_up h (b + 5 + 6 * i + j) (.inl (0, 7, .inl (va_cpy (S'.r i j) (R.r i j) 0 0 n.toNat)))) := fr_up (by omega) (by omega)
  refine ⟨_, sR R i j (va_cpy (S'.r i j) (R.r i j) 0 0 n.toNat), ?_, SAt_r hS hi (by omega) _, SAt_fr30 hS' hd f, f, eqx_r R i j _, rfl, rfl, fun k hk => sR_n _ _ (Or.inr hk), fun p hp => by rw [sR_s, cpy_in _ _ hp]⟩
  exact z_cp_k (hS'.r i j hi (by omega)) (hS.r i j hi (by omega)) (by omega) (by omega) (by omega) (by omega) (by omega) (by omega) (by omega)
theorem C_armB {h : zH} {S : zS} (hS : SAt h b S) (hS' : SAt h b' S') (hd : b + 30 ≤ b' ∨ b' + 30 ≤ b) {i : Nat} (hi : i < 3) {n : Int} (hn : S'.n i 0 = iI n) (hn7 : 0 ≤ n ∧ n ≤ 7) :
    ∃ h' S1, f_X0_become (some (b + 4 + 6 * i)) (some (b' + 4 + 6 * i)) h = some h' ∧ SAt h' b S1 ∧ fr b 30 h h' ∧ eqx i S S1 ∧ S1.r i 4 = S.r i 4 ∧ (S1.n i 0 = S'.n i 0 ∧ S1.n i 1 = S'.n i 1 ∧ S1.n i 2 = S'.n i 2 ∧ S1.u i = S'.u i) ∧ ∀ j, j < 4 → ∀ p, p < n.toNat → S1.r i j p = S'.r i j p := by
  obtain ⟨h0, R0, w0, a0, s0, f0, e0, u0, r0, n0, m0⟩ := A_pn hS hS' hd hi (j := 0) (by omega) (S'.n i 0)
  obtain ⟨h1, R1, w1, a1, s1, f1, e1, u1, r1, n1, m1⟩ := A_pn a0 s0 hd hi (j := 1) (by omega) (S'.n i 1)
  obtain ⟨h2, R2, w2, a2, s2, f2, e2, u2, r2, n2, m2⟩ := A_pn a1 s1 hd hi (j := 2) (by omega) (S'.n i 2)
  obtain ⟨h3, R3, w3, a3, s3, f3, e3, n3, r3, u3⟩ := A_pu a2 s2 hd hi (S'.u i)
  obtain ⟨h4, R4, w4, a4, s4, f4, e4, n4, u4, r4, p4⟩ := A_cp a3 s3 hd hi (j := 0) (by omega) hn7
  obtain ⟨h5, R5, w5, a5, s5, f5, e5, n5, u5, r5, p5⟩ := A_cp a4 s4 hd hi (j := 1) (by omega) hn7
  obtain ⟨h6, R6, w6, a6, s6, f6, e6, n6, u6, r6, p6⟩ := A_cp a5 s5 hd hi (j := 2) (by omega) hn7
  obtain ⟨h7, R7, w7, a7, s7, f7, e7, n7, u7, r7, p7⟩ := A_cp a6 s6 hd hi (j := 3) (by omega) hn7
  have k0 : R3.n i 0 = iI n := by rw [n3, m2 0 (by omega), m1 0 (by omega), n0]; exact hn
  have nn : R7.n = R3.n := by rw [n7, n6, n5, n4]
  refine ⟨h7, R7, ?_, a7, fr_tr f0 (fr_tr f1 (fr_tr f2 (fr_tr f3 (fr_tr f4 (fr_tr f5 (fr_tr f6 f7)))))), eqx_tr e0 (eqx_tr e1 (eqx_tr e2 (eqx_tr e3 (eqx_tr e4 (eqx_tr e5 (eqx_tr e6 e7)))))), ?_, ⟨?_, ?_, ?_, ?_⟩, ?_⟩
  · unfold f_X0_become
    simp only [iI_lit, iI_add, iI_sub, iI_mul, iI_neg]
    rw [An0 hS' hi, Option.bind_some, w0, Option.bind_some, An1 s0 hi, Option.bind_some, w1, Option.bind_some, An2 s1 hi, Option.bind_some, w2, Option.bind_some, Au s2 hi, Option.bind_some, w3, Option.bind_some, Ag4 s3 hi, Option.bind_some, Ag4 a3 hi, Option.bind_some, An0 a3 hi, Option.bind_some, k0, w4, Option.bind_some]
    rw [Ag5 s4 hi, Option.bind_some, Ag5 a4 hi, Option.bind_some, An0 a4 hi, Option.bind_some, n4, k0, w5, Option.bind_some, Ag6 s5 hi, Option.bind_some, Ag6 a5 hi, Option.bind_some, An0 a5 hi, Option.bind_some, n5, n4, k0, w6, Option.bind_some, Ag7 s6 hi, Option.bind_some, Ag7 a6 hi, Option.bind_some, An0 a6 hi, Option.bind_some, n6, n5, n4, k0, w7, Option.bind_some]
  · rw [r7 4 (by omega), r6 4 (by omega), r5 4 (by omega), r4 4 (by omega), r3, r2, r1, r0]
  · rw [nn, n3, m2 0 (by omega), m1 0 (by omega), n0]
  · rw [nn, n3, m2 1 (by omega), n1]
  · rw [nn, n3, n2]
  · rw [u7, u6, u5, u4, u3]
  · intro j hj p hp
    rcases (show j = 0 ∨ j = 1 ∨ j = 2 ∨ j = 3 by omega) with rfl | rfl | rfl | rfl
    · rw [r7 0 (by omega), r6 0 (by omega), r5 0 (by omega)]; exact p4 p hp
    · rw [r7 1 (by omega), r6 1 (by omega)]; exact p5 p hp
    · rw [r7 2 (by omega)]; exact p6 p hp
    · exact p7 p hp
theorem C_thgB {h : zH} {S : zS} (hS : SAt h b S) (hS' : SAt h b' S') (hd : b + 30 ≤ b' ∨ b' + 30 ≤ b) {i : Nat} (hi : i < 8) :
    ∃ h' S1, f_X8_become (some (b + 22 + i)) (some (b' + 22 + i)) h = some h' ∧ SAt h' b S1 ∧ fr b 30 h h' ∧ (S1.W = S.W ∧ S1.T = S.T ∧ S1.L = S.L ∧ S1.z = S.z ∧ S1.n = S.n ∧ S1.u = S.u ∧ S1.r = S.r) ∧ (∀ a, a ≠ i → S1.v a = S.v a) ∧ ∀ k, k < 5 → S1.v i k = S'.v i k := by
  have step : ∀ (g : zH) (R : zS) (k : Nat), k < 5 → SAt g b R → SAt g b' S' → ∃ g', z_pF g 8 k (some (b + 22 + i)) (tI (S'.v i k)) = some g' ∧ SAt g' b (sV R i (upd (R.v i) k (S'.v i k))) ∧ SAt g' b' S' ∧ fr b 30 g g' := by
    intro g R k hk q1 q2
    have f : fr b 30 g (z_up g (b + 22 + i) (cT i (sV R i (upd (R.v i) k (S'.v i k))))) := fr_up (by omega) (by omega)
    exact ⟨_, Tp q1 _ hi hk, SAt_v q1 hi _, SAt_fr30 q2 hd f, f⟩
  obtain ⟨h1, w1, a1, s1, f1⟩ := step h S 0 (by omega) hS hS'
  obtain ⟨h2, w2, a2, s2, f2⟩ := step h1 _ 1 (by omega) a1 s1
  obtain ⟨h3, w3, a3, s3, f3⟩ := step h2 _ 2 (by omega) a2 s2
  obtain ⟨h4, w4, a4, s4, f4⟩ := step h3 _ 3 (by omega) a3 s3
  obtain ⟨h5, w5, a5, s5, f5⟩ := step h4 _ 4 (by omega) a4 s4
  refine ⟨h5, _, ?_, a5, fr_tr f1 (fr_tr f2 (fr_tr f3 (fr_tr f4 f5))), ⟨rfl, rfl, rfl, rfl, rfl, rfl, rfl⟩, fun a ha => ?_, fun k hk => ?_⟩
  · unfold f_X8_become
    rw [Tv0 hS' hi, Option.bind_some, w1, Option.bind_some, Tv1 s1 hi, Option.bind_some, w2, Option.bind_some, Tv2 s2 hi, Option.bind_some, w3, Option.bind_some, Tv3 s3 hi, Option.bind_some, w4, Option.bind_some, Tv4 s4 hi, Option.bind_some, w5, Option.bind_some]
  · rw [sV_n _ _ ha, sV_n _ _ ha, sV_n _ _ ha, sV_n _ _ ha, sV_n _ _ ha]
  · simp only [sV_s]
    rcases (show k = 0 ∨ k = 1 ∨ k = 2 ∨ k = 3 ∨ k = 4 by omega) with rfl | rfl | rfl | rfl | rfl
    · rw [pk_un (by omega), pk_un (by omega), pk_un (by omega), pk_un (by omega), pk_us]
    · rw [pk_un (by omega), pk_un (by omega), pk_un (by omega), pk_us]
    · rw [pk_un (by omega), pk_un (by omega), pk_us]
    · rw [pk_un (by omega), pk_us]
    · rw [pk_us]
end BE
