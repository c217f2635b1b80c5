section PL
variable {b tS L X : Nat} {xs : Nat → Int32}
theorem stp {x y c k j : Nat} (h1 : x ≤ y + k) (h2 : y ≤ c + k * j) : x ≤ c + k * (j + 1) := by rw [Nat.mul_succ]; omega
theorem law_loop (hb : b < X) (ht : tS < X) (hL : L ≤ 3072) {h : zH} {z0 : Nat} (hz : z0 ≤ 1000000) (I : Inv b tS L X xs h (X + 221)) : ∃ x, f_L_law_b18 tS (some b) (some X) (some (X + 202)) (0 : Int32) h (X + 221) z0 = some x ∧ x.2.1 = 1 ∧ x.1.1 ≤ X + 600000 ∧ x.1.2 ≤ 7302250 := by
  have key := z_forI (body := fun q : (Nat × Nat) × ((Option Nat) × (Option Nat) × (Option Nat) × Int32 × zH) => (f_L_law_c18 tS q.2.1 q.2.2.1 q.2.2.2.1 q.2.2.2.2.1 q.2.2.2.2.2 q.1.1 q.1.2).map z_ds) (Q := fun x => x.2.1 = 1 ∧ x.1.1 ≤ X + 600000 ∧ x.1.2 ≤ 7302250)
    (fun j st => ∃ h1 nx z, st = ((nx, z), (some b, some X, some (X + 202), iI ((6 * j : Nat) : Int), h1)) ∧ Inv b tS L X xs h1 nx ∧ nx ≤ X + 221 + 126 * j ∧ z ≤ z0 + 610 * j) (L / 6) ?_ ?_ (L / 6) 0 ((X + 221, z0), (some b, some X, some (X + 202), (0 : Int32), h)) (by omega) ⟨h, X + 221, z0, rfl, I, by omega, by omega⟩
  · exact key
  · rintro j st hj ⟨h1, nx, z, rfl, I1, b1, b2⟩
    obtain ⟨nx1, z1, h2, e, I2, b3, b4⟩ := law_turn hb ht hL (i := 6 * j) (z := z) (by omega) I1
    refine Or.inl ⟨_, ?_, h2, nx1, z1, rfl, I2, stp b3 b1, stp b4 b2⟩
    show (f_L_law_c18 tS (some b) (some X) (some (X + 202)) (iI ((6 * j : Nat) : Int)) h1 nx z).map z_ds = _
    rw [e, iI_lit, iI_add, show ((6 * j : Nat) : Int) + 6 = ((6 * (j + 1) : Nat) : Int) by omega]
    rfl
  · rintro st ⟨h1, nx, z, rfl, I1, b1, b2⟩
    obtain ⟨c1, -, -⟩ := Inv_s I1
    have l0 : z_len h1 (some b) = some (iI (L : Int)) := z_len_i c1 (by omega)
    refine ⟨((nx, z), ((1 : Int32), h1)), ?_, rfl, ?_, ?_⟩
    · show (f_L_law_c18 tS (some b) (some X) (some (X + 202)) (iI ((6 * (L / 6) : Nat) : Int)) h1 nx z).map z_ds = _
      unfold f_L_law_c18
      rw [l0, Option.bind_some, if_pos (by rw [iI_lit, iI_sub]; exact cLt (by omega))]
      rfl
    · show nx ≤ X + 600000
      omega
    · show z ≤ 7302250
      omega
end PL
theorem pure_law : PureLaw := by
  intro n0 b t L xs hb ht hbt hL
  obtain ⟨h0, e0⟩ : ∃ g, g = z_up (z_h0 b t L xs) n0 (.inr (10, [tA none, tA none, tA none, tA none, tI 0, tA none, tA none, tA none, tA none])) := ⟨_, rfl⟩
  obtain ⟨h1, z1, e1, b1, x1, s1, i1, sh1, t1, r1, rc1, ws1, p1, f1⟩ := C_X10_new (h := h0) (X := n0) (z := 0 + 9) (by rw [e0]; exact z_up_s _ _ _)
  obtain ⟨h2, e2⟩ : ∃ g, g = z_up h1 (n0 + 202) (.inr (11, [tA none, tA none, tA none, tA none, tI 0, tA none, tA none, tA none, tA none, tA none, tI 0, tA none, tA none, tA none, tI 0, tA none, tA none, tA none, tA none, tI 0, tA none, tA none])) := ⟨_, rfl⟩
  obtain ⟨h3, Y, e3, m3, y6, yo, f3⟩ := R_new (h := h2) (m := n0 + 202) (z := z1 + 22) (by rw [e2]; exact z_up_s _ _ _)
  have F : ∀ q, q < n0 + 202 → h3 q = h1 q := fun q hq => by rw [f3 q (by omega), e2, z_up_n _ _ (by omega)]
  have G : ∀ q, q < n0 → h3 q = z_h0 b t L xs q := fun q hq => by rw [F q (by omega), f1 q (by omega), e0, z_up_n _ _ (by omega)]
  have e64 : A00 64 = 0 := A00_n (by omega)
  have I : Inv b t L n0 xs h3 (n0 + 221) := by
    refine ⟨fun _ => False, A00, fun _ => none, fun _ => [], fun _ => none, fun _ => A00, fun _ _ => none, fun _ _ => [], fun _ => 0, 0, fun _ => -1, fun _ => 0, fun _ _ => 0, Y, ⟨?_, ?_, (F _ (by omega)).trans x1, ⟨_, S00, SAt_fr s1 (fun q g1 g2 => F q (by omega)), SRel_00⟩, fun a g1 g2 => absurd g2 (by omega), (F _ (by omega)).trans i1, fun n bb _ hf => (by cases hf), SHT_fr sh1 (fun q hq => F q (by omega)), ⟨_, (F _ (by omega)).trans t1, fun k hk => absurd hk (by omega)⟩, ⟨_, _, _, _, _, (F _ (by omega)).trans r1⟩, RcOK_fr rc1 (fun q g1 g2 => F q (by omega)), WSO_fr ws1 (fun q g1 g2 => F q (by omega)), ⟨_, (F _ (by omega)).trans p1⟩⟩, ⟨WF_A00, fun a g1 g2 => absurd g2 (by omega), fun n bb _ hf => (by cases hf), fun s hs => ⟨Or.inl rfl, ⟨show (0 : Int) ≤ 0 by omega, show (0 : Int) ≤ 64 by omega⟩, fun q => absurd (show (-1 : Int) = 0 from q) (by omega)⟩, by omega, fun k hk => absurd hk (by omega), fun q hq => hq.elim, by omega, fun n bb _ hf => (by cases hf), fun n n' bb bb' _ _ _ hf => (by cases hf)⟩, m3, ?_, fun k hk => absurd hk (by omega), fun s hs => ⟨?_, fun q => absurd (show (0 : Int) ≤ -1 from q) (by omega), fun j hj => ?_⟩, fun n hn => ⟨fun _ => ?_, fun bb hf => (by cases hf)⟩⟩
    · rw [G b hb]; unfold z_h0; rw [if_pos rfl]
    · unfold hST; rw [G t ht]; unfold z_h0; rw [if_neg (fun e => hbt e.symm), if_pos rfl]
    · rw [yo 0 (by omega) (by omega)]; rfl
    · rw [y6 s hs]; rfl
    · rw [yo 8 (by omega) (by omega)]
    · rw [yo 3 (by omega) (by omega)]; rfl
  obtain ⟨Z, hZ⟩ : ∃ Z, Z = z1 + 22 + 530 + 1060 + 2 + 530 + 100 + 4 + 4 + 256 + 7 + 6 + 6 + 6 + 21 + 4096 + 4096 + 64 + 7 + 64 := ⟨_, rfl⟩
  rw [← hZ] at e3
  obtain ⟨x, k1, k2⟩ := law_loop hb ht hL (z0 := Z) (by omega) I
  refine ⟨x, ?_, k2⟩
  unfold f_L_law
  rw [← e0]
  unfold f_L_law_b3
  rw [Option.bind_some, e1, Option.bind_some]
  unfold f_L_law_b7
  rw [← e2]
  unfold f_L_law_b11
  rw [Option.bind_some, e3, Option.bind_some]
  unfold f_L_law_b15
  exact k1
