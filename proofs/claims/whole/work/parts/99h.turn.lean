section LX
variable {b tS L X : Nat} {xs : Nat → Int32}
theorem rdL {h : zH} (c : h b = .inl (100, L, .inl xs)) {i k : Nat} (hi : i + 6 ≤ L) (hL : L ≤ 3072) (hk : k ≤ 5) (e : Int32) (he : e = iI (k : Int)) : z_aI h (some b) (iI (i : Int) + e) = some (iI (xs (i + k)).toInt) := by
  rw [he, iI_add, z_aI_k c (Or.inr rfl) (by omega) (by omega) (by omega), ← iI_of, show ((i : Int) + (k : Int)).toNat = i + k by omega]
def Nxt (b tS L X : Nat) (xs : Nat → Int32) (i : Nat) (nx z : Nat) (o : Option ((Nat × Nat) × (((Option Nat) × (Option Nat) × (Option Nat) × Int32 × zH) ⊕ (Int32 × zH)))) : Prop :=
  ∃ nx1 z1 h1, o = some ((nx1, z1), .inl (some b, some X, some (X + 202), iI (i : Int) + (6 : Int32), h1)) ∧ Inv b tS L X xs h1 nx1 ∧ nx1 ≤ nx + 126 ∧ z1 ≤ z + 610
set_option maxHeartbeats 4000000 in
theorem law_turn (hb : b < X) (ht : tS < X) (hL : L ≤ 3072) {i nx z : Nat} (hi : i + 6 ≤ L) {h : zH} (I : Inv b tS L X xs h nx) : Nxt b tS L X xs i nx z (f_L_law_c18 tS (some b) (some X) (some (X + 202)) (iI (i : Int)) h nx z) := by
  obtain ⟨c1, ck, pN⟩ := Inv_s I
  obtain ⟨w, hw⟩ : ∃ w : Nat → Int, w = fun k => (xs (i + k)).toInt := ⟨_, rfl⟩
  have wr : ∀ k, rgI (w k) := fun k => by rw [hw]; exact iI_rg _
  have R0 : ∀ g : zH, g b = .inl (100, L, .inl xs) → z_aI g (some b) (iI (i : Int)) = some (iI (w 0)) := fun g c => by
    rw [z_aI_k c (Or.inr rfl) (by omega) (by omega) (by omega), hw]
    show _ = some (iI (xs (i + 0)).toInt)
    rw [← iI_of]; rfl
  have R1 : ∀ g : zH, g b = .inl (100, L, .inl xs) → z_aI g (some b) (iI (i : Int) + (1 : Int32)) = some (iI (w 1)) := fun g c => by rw [hw]; exact rdL c hi hL (by omega) _ (iI_lit 1)
  have R2 : ∀ g : zH, g b = .inl (100, L, .inl xs) → z_aI g (some b) (iI (i : Int) + (2 : Int32)) = some (iI (w 2)) := fun g c => by rw [hw]; exact rdL c hi hL (by omega) _ (iI_lit 2)
  have R3 : ∀ g : zH, g b = .inl (100, L, .inl xs) → z_aI g (some b) (iI (i : Int) + (3 : Int32)) = some (iI (w 3)) := fun g c => by rw [hw]; exact rdL c hi hL (by omega) _ (iI_lit 3)
  have R4 : ∀ g : zH, g b = .inl (100, L, .inl xs) → z_aI g (some b) (iI (i : Int) + (4 : Int32)) = some (iI (w 4)) := fun g c => by rw [hw]; exact rdL c hi hL (by omega) _ (iI_lit 4)
  have R5 : ∀ g : zH, g b = .inl (100, L, .inl xs) → z_aI g (some b) (iI (i : Int) + (5 : Int32)) = some (iI (w 5)) := fun g c => by rw [hw]; exact rdL c hi hL (by omega) _ (iI_lit 5)
  have l0 : z_len h (some b) = some (iI (L : Int)) := z_len_i c1 (by omega)
  clear hw
  have e00 : iI 0 = (0 : Int32) := (iI_lit 0).symm
  have e11 : iI 1 = (1 : Int32) := (iI_lit 1).symm
  unfold f_L_law_c18
  rw [l0, Option.bind_some, if_neg (by rw [iI_lit, iI_sub]; exact nLt (by omega)), R0 h c1, Option.bind_some]
  by_cases q0 : iI (w 0) &&& (31 : Int32) = (0 : Int32)
  · rw [if_pos q0, R1 h c1, Option.bind_some, R2 h c1, Option.bind_some, R3 h c1, Option.bind_some]
    by_cases q : iI (w 3) = (0 : Int32)
    · obtain ⟨r, h1, h2, e1, ⟨s1, m1⟩, e2, I2⟩ := St_wall (L := L) (xs := xs) hb ht (wr 1) (wr 2) (v := 0) (by omega) h nx I
      rw [e00] at e1 e2
      rw [if_pos q]
      unfold f_L_law_b184
      rw [ck, Option.bind_some, e1, z_b2_some, R1 h1 s1, Option.bind_some, R2 h1 s1, Option.bind_some, R3 h1 s1, Option.bind_some, if_pos q]
      unfold f_L_law_b211
      rw [m1, Option.bind_some, e2, z_b2_some, if_pos rfl]
      exact ⟨nx, z, h2, rfl, I2, by omega, by omega⟩
    · obtain ⟨r, h1, h2, e1, ⟨s1, m1⟩, e2, I2⟩ := St_wall (L := L) (xs := xs) hb ht (wr 1) (wr 2) (v := 1) (by omega) h nx I
      rw [e11] at e1 e2
      rw [if_neg q]
      unfold f_L_law_b184
      rw [ck, Option.bind_some, e1, z_b2_some, R1 h1 s1, Option.bind_some, R2 h1 s1, Option.bind_some, R3 h1 s1, Option.bind_some, if_neg q]
      unfold f_L_law_b211
      rw [m1, Option.bind_some, e2, z_b2_some, if_pos rfl]
      exact ⟨nx, z, h2, rfl, I2, by omega, by omega⟩
  rw [if_neg q0]
  by_cases q1 : iI (w 0) &&& (31 : Int32) = (1 : Int32)
  · obtain ⟨r, h1, h2, e1, ⟨s1, m1⟩, e2, I2⟩ := St_walls (L := L) (xs := xs) hb ht (wr 1) h nx I
    rw [if_pos q1, R1 h c1, Option.bind_some, ck, Option.bind_some, e1, z_b2_some, R1 h1 s1, Option.bind_some, m1, Option.bind_some, e2, z_b2_some, if_pos rfl]
    exact ⟨nx, z, h2, rfl, I2, by omega, by omega⟩
  rw [if_neg q1]
  by_cases q2 : iI (w 0) &&& (31 : Int32) = (2 : Int32)
  · obtain ⟨r, h1, h2, e1, ⟨s1, m1⟩, e2, I2⟩ := St_arm (L := L) (xs := xs) hb ht (wr 1) (wr 2) (wr 3) (wr 4) h nx I
    rw [if_pos q2, R1 h c1, Option.bind_some, R2 h c1, Option.bind_some, R3 h c1, Option.bind_some, R4 h c1, Option.bind_some, ck, Option.bind_some, e1, z_b2_some, R1 h1 s1, Option.bind_some, R2 h1 s1, Option.bind_some, R3 h1 s1, Option.bind_some, R4 h1 s1, Option.bind_some, m1, Option.bind_some, e2, z_b2_some, if_pos rfl]
    exact ⟨nx, z, h2, rfl, I2, by omega, by omega⟩
  rw [if_neg q2]
  by_cases q3 : iI (w 0) &&& (31 : Int32) = (3 : Int32)
  · obtain ⟨r, h1, h2, e1, ⟨s1, m1⟩, e2, I2⟩ := St_thing (L := L) (xs := xs) hb ht (wr 1) (wr 2) (wr 3) h nx I
    rw [if_pos q3, R1 h c1, Option.bind_some, R2 h c1, Option.bind_some, R3 h c1, Option.bind_some, ck, Option.bind_some, e1, z_b2_some, R1 h1 s1, Option.bind_some, R2 h1 s1, Option.bind_some, R3 h1 s1, Option.bind_some, m1, Option.bind_some, e2, z_b2_some, if_pos rfl]
    exact ⟨nx, z, h2, rfl, I2, by omega, by omega⟩
  rw [if_neg q3]
  by_cases q4 : iI (w 0) &&& (31 : Int32) = (4 : Int32)
  · obtain ⟨r, h1, h2, e1, ⟨s1, m1⟩, e2, I2⟩ := St_piece (L := L) (xs := xs) hb ht (wr 1) (wr 2) (wr 3) h nx I
    rw [if_pos q4, R1 h c1, Option.bind_some, R2 h c1, Option.bind_some, R3 h c1, Option.bind_some, ck, Option.bind_some, e1, z_b2_some, R1 h1 s1, Option.bind_some, R2 h1 s1, Option.bind_some, R3 h1 s1, Option.bind_some, m1, Option.bind_some, e2, z_b2_some, if_pos rfl]
    exact ⟨nx, z, h2, rfl, I2, by omega, by omega⟩
  rw [if_neg q4]
  by_cases q5 : iI (w 0) &&& (31 : Int32) = (5 : Int32)
  · obtain ⟨r, h1, h2, e1, ⟨s1, m1⟩, e2, I2⟩ := St_told (L := L) (xs := xs) hb ht (wr 1) (wr 2) h nx I
    rw [if_pos q5, R1 h c1, Option.bind_some, R2 h c1, Option.bind_some, ck, Option.bind_some, e1, z_b2_some, R1 h1 s1, Option.bind_some, R2 h1 s1, Option.bind_some, m1, Option.bind_some, e2, z_b2_some, if_pos rfl]
    exact ⟨nx, z, h2, rfl, I2, by omega, by omega⟩
  rw [if_neg q5]
  by_cases q6 : iI (w 0) &&& (31 : Int32) = (6 : Int32)
  · obtain ⟨r, h1, h2, e1, ⟨s1, m1⟩, e2, I2⟩ := St_form (L := L) (xs := xs) hb ht (wr 1) h nx I
    rw [if_pos q6, R1 h c1, Option.bind_some, ck, Option.bind_some, e1, z_b2_some, R1 h1 s1, Option.bind_some, m1, Option.bind_some, e2, z_b2_some, if_pos rfl]
    exact ⟨nx, z, h2, rfl, I2, by omega, by omega⟩
  rw [if_neg q6]
  by_cases q7 : iI (w 0) &&& (31 : Int32) = (7 : Int32)
  · obtain ⟨r, h1, h2, e1, ⟨s1, m1⟩, e2, I2⟩ := St_flip (L := L) (xs := xs) hb ht (wr 1) (wr 2) h nx I
    rw [if_pos q7, R1 h c1, Option.bind_some, R2 h c1, Option.bind_some, ck, Option.bind_some, e1, z_b2_some, R1 h1 s1, Option.bind_some, R2 h1 s1, Option.bind_some, m1, Option.bind_some, e2, z_b2_some, if_pos rfl]
    exact ⟨nx, z, h2, rfl, I2, by omega, by omega⟩
  rw [if_neg q7]
  by_cases q8 : iI (w 0) &&& (31 : Int32) = (8 : Int32)
  · obtain ⟨r, h1, h2, e1, ⟨s1, m1⟩, e2, I2⟩ := St_type (L := L) (xs := xs) hb ht (((Int32.toInt64 (iI (w 1))) <<< (Int32.toInt64 (32 : Int32) &&& 63)) ||| ((Int32.toInt64 (iI (w 2))) &&& (4294967295 : Int64))) (wr 3) h nx I
    rw [if_pos q8, R1 h c1, Option.bind_some, R2 h c1, Option.bind_some, R3 h c1, Option.bind_some, ck, Option.bind_some, e1, z_b2_some, R1 h1 s1, Option.bind_some, R2 h1 s1, Option.bind_some, R3 h1 s1, Option.bind_some, m1, Option.bind_some, e2, z_b2_some, if_pos rfl]
    exact ⟨nx, z, h2, rfl, I2, by omega, by omega⟩
  rw [if_neg q8]
  by_cases q9 : iI (w 0) &&& (31 : Int32) = (9 : Int32)
  · obtain ⟨r, h1, nx1, z1, h2, e1, bx, bz, ⟨s1, m1⟩, e2, I2⟩ := St_rules (L := L) (xs := xs) hb ht (wr 1) h nx z I
    rw [if_pos q9, R1 h c1, Option.bind_some, ck, Option.bind_some, e1, Option.bind_some]
    unfold f_L_law_b542
    rw [R1 h1 s1, Option.bind_some, m1, Option.bind_some, e2, z_b2_some, if_pos rfl]
    exact ⟨nx1, z1, h2, rfl, I2, by omega, by omega⟩
  rw [if_neg q9]
  by_cases q10 : iI (w 0) &&& (31 : Int32) = (10 : Int32)
  · obtain ⟨r, h1, h2, e1, ⟨s1, m1⟩, e2, I2⟩ := St_head (L := L) (xs := xs) hb ht (wr 1) (wr 2) h nx I
    rw [if_pos q10, R1 h c1, Option.bind_some, R2 h c1, Option.bind_some, ck, Option.bind_some, e1, z_b2_some, R1 h1 s1, Option.bind_some, R2 h1 s1, Option.bind_some, m1, Option.bind_some, e2, z_b2_some, if_pos rfl]
    exact ⟨nx, z, h2, rfl, I2, by omega, by omega⟩
  rw [if_neg q10]
  by_cases q11 : iI (w 0) &&& (31 : Int32) = (11 : Int32)
  · obtain ⟨r, h1, h2, e1, ⟨s1, m1⟩, e2, I2⟩ := St_skin (L := L) (xs := xs) hb ht (wr 1) h nx I
    rw [if_pos q11, R1 h c1, Option.bind_some, ck, Option.bind_some, e1, z_b2_some, R1 h1 s1, Option.bind_some, m1, Option.bind_some, e2, z_b2_some, if_pos rfl]
    exact ⟨nx, z, h2, rfl, I2, by omega, by omega⟩
  rw [if_neg q11]
  by_cases q12 : iI (w 0) &&& (31 : Int32) = (12 : Int32)
  · obtain ⟨r, h1, h2, e1, ⟨s1, m1⟩, e2, I2⟩ := St_ticks (L := L) (xs := xs) hb ht (wr 1) h nx I
    rw [if_pos q12, R1 h c1, Option.bind_some, ck, Option.bind_some, e1, z_b2_some, R1 h1 s1, Option.bind_some, m1, Option.bind_some, e2, z_b2_some, if_pos rfl]
    exact ⟨nx, z, h2, rfl, I2, by omega, by omega⟩
  rw [if_neg q12]
  by_cases q13 : iI (w 0) &&& (31 : Int32) = (13 : Int32)
  · obtain ⟨r, h1, h2, e1, ⟨s1, m1⟩, e2, I2⟩ := St_finds (L := L) (xs := xs) hb ht (wr 1) (wr 2) h nx I
    rw [if_pos q13, R1 h c1, Option.bind_some, R2 h c1, Option.bind_some, ck, Option.bind_some, e1, z_b2_some, R1 h1 s1, Option.bind_some, R2 h1 s1, Option.bind_some, m1, Option.bind_some, e2, z_b2_some, if_pos rfl]
    exact ⟨nx, z, h2, rfl, I2, by omega, by omega⟩
  rw [if_neg q13]
  by_cases q14 : iI (w 0) &&& (31 : Int32) = (14 : Int32)
  · obtain ⟨r, h1, h2, e1, ⟨s1, m1⟩, e2, I2⟩ := St_cut (L := L) (xs := xs) hb ht (wr 1) (wr 2) h nx I
    rw [if_pos q14, R1 h c1, Option.bind_some, R2 h c1, Option.bind_some, ck, Option.bind_some, e1, z_b2_some, R1 h1 s1, Option.bind_some, R2 h1 s1, Option.bind_some, m1, Option.bind_some, e2, z_b2_some, if_pos rfl]
    exact ⟨nx, z, h2, rfl, I2, by omega, by omega⟩
  rw [if_neg q14]
  by_cases q15 : iI (w 0) &&& (31 : Int32) = (15 : Int32)
  · obtain ⟨r, h1, h2, e1, ⟨s1, m1⟩, e2, I2⟩ := St_count (L := L) (xs := xs) hb ht (wr 1) h nx I
    rw [if_pos q15, R1 h c1, Option.bind_some, ck, Option.bind_some, e1, z_b2_some, R1 h1 s1, Option.bind_some, m1, Option.bind_some, e2, z_b2_some, if_pos rfl]
    exact ⟨nx, z, h2, rfl, I2, by omega, by omega⟩
  rw [if_neg q15]
  by_cases q16 : iI (w 0) &&& (31 : Int32) = (16 : Int32)
  · obtain ⟨r, h1, h2, e1, ⟨s1, m1⟩, e2, I2⟩ := St_forms (L := L) (xs := xs) hb ht (wr 1) h nx I
    rw [if_pos q16, R1 h c1, Option.bind_some, ck, Option.bind_some, e1, z_b2_some, R1 h1 s1, Option.bind_some, m1, Option.bind_some, e2, z_b2_some, if_pos rfl]
    exact ⟨nx, z, h2, rfl, I2, by omega, by omega⟩
  rw [if_neg q16]
  by_cases q17 : iI (w 0) &&& (31 : Int32) = (17 : Int32)
  · obtain ⟨r, h1, h2, e1, ⟨s1, m1⟩, e2, I2⟩ := St_reach (L := L) (xs := xs) hb ht (wr 1) h nx I
    rw [if_pos q17, R1 h c1, Option.bind_some, ck, Option.bind_some, e1, z_b2_some, R1 h1 s1, Option.bind_some, m1, Option.bind_some, e2, z_b2_some, if_pos rfl]
    exact ⟨nx, z, h2, rfl, I2, by omega, by omega⟩
  rw [if_neg q17]
  by_cases q18 : iI (w 0) &&& (31 : Int32) = (18 : Int32)
  · obtain ⟨r, h1, h2, e1, ⟨s1, m1⟩, e2, I2⟩ := St_far (L := L) (xs := xs) hb ht (wr 1) (wr 2) (wr 3) h nx I
    rw [if_pos q18, R1 h c1, Option.bind_some, R2 h c1, Option.bind_some, R3 h c1, Option.bind_some, ck, Option.bind_some, e1, z_b2_some, R1 h1 s1, Option.bind_some, R2 h1 s1, Option.bind_some, R3 h1 s1, Option.bind_some, m1, Option.bind_some, e2, z_b2_some, if_pos rfl]
    exact ⟨nx, z, h2, rfl, I2, by omega, by omega⟩
  rw [if_neg q18]
  by_cases q19 : iI (w 0) &&& (31 : Int32) = (19 : Int32)
  · obtain ⟨r, h1, h2, e1, ⟨s1, m1⟩, e2, I2⟩ := St_fewest (L := L) (xs := xs) hb ht (wr 1) (wr 2) (wr 3) (wr 4) h nx I
    rw [if_pos q19, R1 h c1, Option.bind_some, R2 h c1, Option.bind_some, R3 h c1, Option.bind_some, R4 h c1, Option.bind_some, ck, Option.bind_some, e1, z_b2_some, R1 h1 s1, Option.bind_some, R2 h1 s1, Option.bind_some, R3 h1 s1, Option.bind_some, R4 h1 s1, Option.bind_some, m1, Option.bind_some, e2, z_b2_some, if_pos rfl]
    exact ⟨nx, z, h2, rfl, I2, by omega, by omega⟩
  rw [if_neg q19]
  by_cases q20 : iI (w 0) &&& (31 : Int32) = (20 : Int32)
  · obtain ⟨r, h1, nx1, z1, h2, e1, bx, bz, ⟨s1, m1⟩, e2, I2⟩ := St_image (L := L) (xs := xs) hb ht (wr 1) h nx z I
    rw [if_pos q20, R1 h c1, Option.bind_some, ck, Option.bind_some, e1, Option.bind_some]
    unfold f_L_law_b875
    rw [R1 h1 s1, Option.bind_some, m1, Option.bind_some, e2, z_b2_some, if_pos rfl]
    exact ⟨nx1, z1, h2, rfl, I2, by omega, by omega⟩
  rw [if_neg q20]
  by_cases q21 : iI (w 0) &&& (31 : Int32) = (21 : Int32)
  · obtain ⟨r, h1, h2, e1, ⟨s1, m1⟩, e2, I2⟩ := St_restore (L := L) (xs := xs) hb ht (wr 1) h nx I
    rw [if_pos q21, R1 h c1, Option.bind_some, ck, Option.bind_some, e1, z_b2_some, R1 h1 s1, Option.bind_some, m1, Option.bind_some, e2, z_b2_some, if_pos rfl]
    exact ⟨nx, z, h2, rfl, I2, by omega, by omega⟩
  rw [if_neg q21]
  by_cases q22 : iI (w 0) &&& (31 : Int32) = (22 : Int32)
  · obtain ⟨r, h1, h2, e1, ⟨s1, m1⟩, e2, I2⟩ := St_film (L := L) (xs := xs) hb ht (wr 1) (wr 2) (wr 3) (wr 4) h nx I
    rw [if_pos q22, R1 h c1, Option.bind_some, R2 h c1, Option.bind_some, R3 h c1, Option.bind_some, R4 h c1, Option.bind_some, ck, Option.bind_some, e1, z_b2_some, R1 h1 s1, Option.bind_some, R2 h1 s1, Option.bind_some, R3 h1 s1, Option.bind_some, R4 h1 s1, Option.bind_some, m1, Option.bind_some, e2, z_b2_some, if_pos rfl]
    exact ⟨nx, z, h2, rfl, I2, by omega, by omega⟩
  rw [if_neg q22]
  by_cases q23 : iI (w 0) &&& (31 : Int32) = (23 : Int32)
  · obtain ⟨r, h1, h2, e1, ⟨s1, m1⟩, e2, I2⟩ := St_differs (L := L) (xs := xs) hb ht (wr 1) (wr 2) (wr 3) (wr 4) h nx I
    rw [if_pos q23, R1 h c1, Option.bind_some, R2 h c1, Option.bind_some, R3 h c1, Option.bind_some, R4 h c1, Option.bind_some, ck, Option.bind_some, e1, z_b2_some, R1 h1 s1, Option.bind_some, R2 h1 s1, Option.bind_some, R3 h1 s1, Option.bind_some, R4 h1 s1, Option.bind_some, m1, Option.bind_some, e2, z_b2_some, if_pos rfl]
    exact ⟨nx, z, h2, rfl, I2, by omega, by omega⟩
  rw [if_neg q23]
  by_cases q24 : iI (w 0) &&& (31 : Int32) = (24 : Int32)
  · obtain ⟨r, h1, h2, e1, ⟨s1, m1⟩, e2, I2⟩ := St_sheet (L := L) (xs := xs) hb ht (wr 1) (wr 2) (wr 3) h nx I
    rw [if_pos q24, R1 h c1, Option.bind_some, R2 h c1, Option.bind_some, R3 h c1, Option.bind_some, ck, Option.bind_some, e1, z_b2_some, R1 h1 s1, Option.bind_some, R2 h1 s1, Option.bind_some, R3 h1 s1, Option.bind_some, m1, Option.bind_some, e2, z_b2_some, if_pos rfl]
    exact ⟨nx, z, h2, rfl, I2, by omega, by omega⟩
  rw [if_neg q24]
  by_cases q25 : iI (w 0) &&& (31 : Int32) = (25 : Int32)
  · obtain ⟨r, h1, h2, e1, ⟨s1, m1⟩, e2, I2⟩ := St_drop (L := L) (xs := xs) hb ht (wr 1) h nx I
    rw [if_pos q25, R1 h c1, Option.bind_some, ck, Option.bind_some, e1, z_b2_some, R1 h1 s1, Option.bind_some, m1, Option.bind_some, e2, z_b2_some, if_pos rfl]
    exact ⟨nx, z, h2, rfl, I2, by omega, by omega⟩
  rw [if_neg q25]
  by_cases q26 : iI (w 0) &&& (31 : Int32) = (26 : Int32)
  · obtain ⟨r, h1, h2, e1, ⟨s1, m1⟩, e2, I2⟩ := St_item (L := L) (xs := xs) hb ht (wr 1) (wr 2) (wr 3) (wr 4) h nx I
    rw [if_pos q26, R1 h c1, Option.bind_some, R2 h c1, Option.bind_some, R3 h c1, Option.bind_some, R4 h c1, Option.bind_some, ck, Option.bind_some, e1, z_b2_some, R1 h1 s1, Option.bind_some, R2 h1 s1, Option.bind_some, R3 h1 s1, Option.bind_some, R4 h1 s1, Option.bind_some, m1, Option.bind_some, e2, z_b2_some, if_pos rfl]
    exact ⟨nx, z, h2, rfl, I2, by omega, by omega⟩
  rw [if_neg q26]
  by_cases q27 : iI (w 0) &&& (31 : Int32) = (27 : Int32)
  · obtain ⟨r, h1, h2, e1, ⟨s1, m1⟩, e2, I2⟩ := St_copy (L := L) (xs := xs) hb ht (wr 1) (wr 2) (wr 3) (wr 4) (wr 5) h nx I
    rw [if_pos q27, R1 h c1, Option.bind_some, R2 h c1, Option.bind_some, R3 h c1, Option.bind_some, R4 h c1, Option.bind_some, R5 h c1, Option.bind_some, ck, Option.bind_some, e1, z_b2_some, R1 h1 s1, Option.bind_some, R2 h1 s1, Option.bind_some, R3 h1 s1, Option.bind_some, R4 h1 s1, Option.bind_some, R5 h1 s1, Option.bind_some, m1, Option.bind_some, e2, z_b2_some, if_pos rfl]
    exact ⟨nx, z, h2, rfl, I2, by omega, by omega⟩
  rw [if_neg q27]
  exact ⟨nx, z, h, rfl, I, by omega, by omega⟩
end LX
