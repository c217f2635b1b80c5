section IM
variable {X m : Nat} {U U' : Int → Option Nat} {A A' : Int → Int} {f : Nat → Option Nat}
theorem C_isImage {h : zH} {v : Int32} (hX : h X = oX X v) (hI : h (X + 31) = .inl (6, 2, .inr (.inr f))) {n : Int} (hn : rgI n) : f_X10_isImage (some X) (iI n) h = some (tb (0 ≤ n ∧ n < 2), h) := by
  unfold rgI at hn
  have e : z_len h (some (X + 31)) = some (iI 2) := z_len_o hI (by omega)
  simp (disch := omega) only [f_X10_isImage, Xg1 hX, Option.bind_some, z_b2_some, z_i1_some, e, iI_lit, iI_add, iI_sub, iI_mul, iI_neg, iteLt, iteLe]
  refine ite_c (fun q => ?_) (fun q => ite_c (fun q2 => ?_) (fun q2 => ?_))
  · rw [tb_f (by omega)]
  · rw [tb_f (by omega)]
  · rw [tb_t (by omega)]
theorem C_image_x {h : zH} {v : Int32} {nx z : Nat} (hX : h X = oX X v) (hI : h (X + 31) = .inl (6, 2, .inr (.inr f))) {n : Int} (hn : rgI n) (c : ¬ (0 ≤ n ∧ n < 2)) : f_X10_image (some X) (iI n) h nx z = some ((nx, z), (iI (-1), h)) := by
  unfold f_X10_image
  rw [Xck hX, Option.bind_some, C_isImage hX hI hn, z_b2_some]
  simp only [iI_lit, iI_neg]
  rw [ite_tb, if_neg c]
theorem C_image_old {h : zH} {v : Int32} {nx z b : Nat} {F : Nat → Nat → Int32} {S : zS} (hX : h X = oX X v) (hI : h (X + 31) = .inl (6, 2, .inr (.inr f))) {n : Int} (hn : rgI n) (c : 0 ≤ n ∧ n < 2) (hf : f n.toNat = some b) (hb : X + 221 ≤ b) (hB : SAt h b S) (hS : SR h (X + 1) A U F) (hW : WF A) :
    ∃ h' F', f_X10_image (some X) (iI n) h nx z = some ((nx, z), (iI 1, h')) ∧ SR h' b A U F' ∧ fr b 30 h h' := by
  obtain ⟨S1, s1, s2⟩ := hS
  obtain ⟨h', k1, k2, k3⟩ := C_become hB s1 s2 hW (by omega)
  refine ⟨h', _, ?_, k2, k3⟩
  have ea : z_aA h (some (X + 31)) (iI n) = some (some b) := by rw [z_aA_k hI (by omega) c.1 (by omega) (by decide), hf]
  unfold f_X10_image
  rw [Xck hX, Option.bind_some, C_isImage hX hI hn, z_b2_some]
  simp only [iI_lit, iI_neg]
  rw [ite_tb, if_pos c, Xg1 hX, Option.bind_some, ea, Option.bind_some, if_neg (by simp)]
  unfold f_X10_image_b32
  rw [Xg1 hX, Option.bind_some, ea, Option.bind_some, Xg0 hX, Option.bind_some, Sck hB, Option.bind_some, k1, Option.bind_some]
  rfl
theorem C_image_new {h : zH} {v : Int32} {nx z : Nat} {F : Nat → Nat → Int32} (hX : h X = oX X v) (hI : h (X + 31) = .inl (6, 2, .inr (.inr f))) {n : Int} (hn : rgI n) (c : 0 ≤ n ∧ n < 2) (hf : f n.toNat = none) (hb : X + 221 ≤ nx) (hS : SR h (X + 1) A U F) (hW : WF A) :
    ∃ h' F', f_X10_image (some X) (iI n) h nx z = some ((nx + 30, z + 196), (iI 1, h')) ∧ h' (X + 31) = .inl (6, 2, .inr (.inr (va_up f n.toNat (some nx)))) ∧ SR h' nx A U F' ∧ ∀ q, q ≠ X + 31 → (q < nx ∨ nx + 30 ≤ q) → h' q = h q := by
  obtain ⟨h1, k1, k2, k3⟩ := C_seaNew (b := nx) (z := z + 9) (h := z_up h nx (.inr (6, [tJ 0, tJ 0, tA none, tA none, tI 0, tA none, tI 0, tI 0, tI 0]))) (z_up_s _ _ _)
  have o1 : ∀ q, (q < nx ∨ nx + 30 ≤ q) → h1 q = h q := fun q hq => by rw [k3 q hq, z_up_n _ _ (by omega)]
  have w := z_sA_k (h := h1) (a := X + 31) (q := nx) (e := n) (by rw [o1 _ (by omega)]; exact hI) k2.o (by omega) rfl c.1 (by omega) (by decide)
  obtain ⟨h2, e2⟩ : ∃ g, g = z_up h1 (X + 31) (.inl (6, 2, .inr (.inr (va_up f n.toNat (some nx))))) := ⟨_, rfl⟩
  rw [← e2] at w
  have o2 : ∀ q, q ≠ X + 31 → (q < nx ∨ nx + 30 ≤ q) → h2 q = h q := fun q h1 hq => by rw [e2, z_up_n _ _ h1]; exact o1 q hq
  have S2 : SAt h2 nx S00 := SAt_fr k2 (fun q g1 g2 => by rw [e2, z_up_n _ _ (by omega)])
  have T2 : SR h2 (X + 1) A U F := SR_fr hS (fun q g1 g2 => o2 q (by omega) (by omega))
  have I2 : h2 (X + 31) = .inl (6, 2, .inr (.inr (va_up f n.toNat (some nx)))) := by rw [e2, z_up_s]
  have X2 : h2 X = oX X v := by rw [o2 X (by omega) (by omega)]; exact hX
  obtain ⟨S1, s1, s2⟩ := T2
  obtain ⟨h3, q1, q2, q3⟩ := C_become S2 s1 s2 hW (by omega)
  refine ⟨h3, _, ?_, by rw [q3 _ (by omega)]; exact I2, q2, fun q g1 g2 => by rw [q3 q g2]; exact o2 q g1 g2⟩
  have ea : z_aA h (some (X + 31)) (iI n) = some none := by rw [z_aA_k hI (by omega) c.1 (by omega) (by decide), hf]
  have ea2 : z_aA h2 (some (X + 31)) (iI n) = some (some nx) := by rw [z_aA_k I2 (by omega) c.1 (by omega) (by decide)]; unfold va_up; rw [if_pos rfl]
  unfold f_X10_image
  rw [Xck hX, Option.bind_some, C_isImage hX hI hn, z_b2_some, tb_t c, if_neg (show ¬ iI 1 = (0 : Int32) by decide), Xg1 hX, Option.bind_some, ea, Option.bind_some, if_pos rfl, Option.bind_some]
  unfold f_X10_image_b27
  rw [Option.bind_some, k1, Option.bind_some]
  unfold f_X10_image_b31
  rw [w, Option.bind_some]
  unfold f_X10_image_b32
  rw [Xg1 X2, Option.bind_some, ea2, Option.bind_some, Xg0 X2, Option.bind_some, Sck S2, Option.bind_some, q1, Option.bind_some]
  rfl
theorem C_restore {h : zH} {v : Int32} {b : Nat} {F F2 : Nat → Nat → Int32} (hX : h X = oX X v) (hI : h (X + 31) = .inl (6, 2, .inr (.inr f))) {n : Int} (hn : rgI n) (c : 0 ≤ n ∧ n < 2) (hf : f n.toNat = some b) (hb : X + 221 ≤ b) (hB : SR h b A' U' F2) (hS : SR h (X + 1) A U F) (hW : WF A') :
    ∃ h' F', f_X10_restore (some X) (iI n) h = some (iI 1, h') ∧ SR h' (X + 1) A' U' F' ∧ fr (X + 1) 30 h h' := by
  obtain ⟨S1, s1, s2⟩ := hS
  obtain ⟨S2, t1, t2⟩ := hB
  obtain ⟨h', k1, k2, k3⟩ := C_become s1 t1 t2 hW (by omega)
  refine ⟨h', _, ?_, k2, k3⟩
  have ea : z_aA h (some (X + 31)) (iI n) = some (some b) := by rw [z_aA_k hI (by omega) c.1 (by omega) (by decide), hf]
  unfold f_X10_restore
  rw [Xck hX, Option.bind_some, C_isImage hX hI hn, z_b2_some]
  simp only [iI_lit, iI_neg]
  rw [ite_tb, if_pos c, Xg1 hX, Option.bind_some, ea, Option.bind_some, if_neg (by simp), Xg0 hX, Option.bind_some, Option.bind_some, ea, Option.bind_some, Sck s1, Option.bind_some, k1, Option.bind_some]
theorem C_restore_n {h : zH} {v : Int32} (hX : h X = oX X v) (hI : h (X + 31) = .inl (6, 2, .inr (.inr f))) {n : Int} (hn : rgI n) : (¬ (0 ≤ n ∧ n < 2) → f_X10_restore (some X) (iI n) h = some (iI (-1), h)) ∧ ((0 ≤ n ∧ n < 2) → f n.toNat = none → f_X10_restore (some X) (iI n) h = some (iI (-4), h)) := by
  unfold f_X10_restore
  rw [Xck hX, Option.bind_some, C_isImage hX hI hn, z_b2_some]
  simp only [iI_lit, iI_neg]
  rw [ite_tb]
  constructor
  · intro c; rw [if_neg c]
  · intro c hf
    have ea : z_aA h (some (X + 31)) (iI n) = some none := by rw [z_aA_k hI (by omega) c.1 (by omega) (by decide), hf]
    rw [if_pos c, Xg1 hX, Option.bind_some, ea, Option.bind_some, if_pos rfl]
/-! the reference's images -/
theorem R_image_x {h : zH} {n : Int} (hn : rgI n) (c : ¬ (0 ≤ n ∧ n < 2)) : f_X11_image (some m) (iI n) h = some (iI (-1), h) ∧ f_X11_restore (some m) (iI n) h = some (iI (-1), h) := by
  unfold rgI at hn
  unfold f_X11_image f_X11_restore
  simp only [iI_lit, iI_add, iI_sub, iI_mul, iI_neg]
  rw [R_in2 (by omega), z_b2_some, z_b2_some, ite_tb, ite_tb, if_neg (by omega), if_neg (by omega)]
  exact ⟨rfl, rfl⟩
theorem R_image {h : zH} {Y : Nat → Nat → Int32} (hM : MR h m A Y) {n : Int} (c : 0 ≤ n ∧ n < 2) : ∃ h' Y', f_X11_image (some m) (iI n) h = some (iI 1, h') ∧ MR h' m A Y' ∧ (∀ j : Nat, j < 530 → Y' 2 (530 * n.toNat + j) = iI (A j)) ∧ (∀ j, ¬ (530 * n.toNat ≤ j ∧ j < 530 * n.toNat + 530) → Y' 2 j = Y 2 j) ∧ Y' 3 n.toNat = iI 1 ∧ (∀ j, j ≠ n.toNat → Y' 3 j = Y 3 j) ∧ (∀ k, k ≠ 2 → k ≠ 3 → Y' k = Y k) ∧ fr m 19 h h' := by
  have key := z_forI (body := fun s : (Option Nat) × Int32 × Int32 × zH => f_X11_image_c13 s.1 s.2.1 s.2.2.1 s.2.2.2) (Q := fun r => r.1 = iI 1 ∧ ∃ Y', MR r.2 m A Y' ∧ (∀ j : Nat, j < 530 → Y' 2 (530 * n.toNat + j) = iI (A j)) ∧ (∀ j, ¬ (530 * n.toNat ≤ j ∧ j < 530 * n.toNat + 530) → Y' 2 j = Y 2 j) ∧ Y' 3 n.toNat = iI 1 ∧ (∀ j, j ≠ n.toNat → Y' 3 j = Y 3 j) ∧ (∀ k, k ≠ 2 → k ≠ 3 → Y' k = Y k) ∧ fr m 19 h r.2)
    (fun i s => ∃ h' Y', s = (some m, iI n, iI (i : Int), h') ∧ MR h' m A Y' ∧ (∀ j : Nat, j < i → Y' 2 (530 * n.toNat + j) = iI (A j)) ∧ (∀ j, ¬ (530 * n.toNat ≤ j ∧ j < 530 * n.toNat + 530) → Y' 2 j = Y 2 j) ∧ (∀ k, k ≠ 2 → Y' k = Y k) ∧ fr m 19 h h') 530 ?_ ?_ 530 0 (some m, iI n, iI 0, h) (by omega) ⟨h, Y, rfl, hM, fun j hj => absurd hj (by omega), fun _ _ => rfl, fun _ _ => rfl, fr_rf _ _ _⟩
  · obtain ⟨r, k1, k2, Y', k3⟩ := key
    refine ⟨r.2, Y', ?_, k3⟩
    unfold f_X11_image f_X11_image_b13
    simp only [iI_lit, iI_add, iI_sub, iI_mul, iI_neg]
    rw [R_in2 (by omega), z_b2_some, ite_tb, if_pos (by omega), k1, ← k2]
  · rintro i s hi ⟨h1, Y1, rfl, k1, k2, k3, k4, k5⟩
    have M1 := MR_up k1 (k := 2) (by omega) (by omega) (upd (Y1 2) (530 * n.toNat + i) (iI (A (i : Int))))
    refine Or.inl ⟨_, ?_, _, _, rfl, M1, fun j hj => ?_, fun j hj => ?_, fun k hk => ?_, fr_tr k5 (fr_up (by omega) (by omega))⟩
    · show f_X11_image_c13 (some m) (iI n) (iI (i : Int)) h1 = _
      unfold f_X11_image_c13
      simp only [iI_lit, iI_add, iI_sub, iI_mul, iI_neg]
      have s2 : z_sI h1 (some (m + 2)) (iI (530 * n + (i : Int))) (iI (A (i : Int))) = some (z_up h1 (m + 2) (mL m 2 (upd (Y1 2) (530 * n.toNat + i) (iI (A (i : Int)))))) := by
        rw [z_sI_k (k1.1 2 (by omega)) (by omega) (by omega) (by decide), show (530 * n + (i : Int)).toNat = 530 * n.toNat + i by omega]; rfl
      rw [if_neg (nLe (by omega)), Mg1 k1.1, Option.bind_some, Mg0 k1.1, Option.bind_some, M_all k1 (by omega) (by omega), Option.bind_some, s2, Option.bind_some]
      rfl
    · rw [updR_s]
      by_cases e : j = i
      · subst e; exact pk_us
      · rw [pk_un (by omega)]; exact k2 j (by omega)
    · rw [updR_s, pk_un (by omega)]; exact k3 j hj
    · rw [updR_n _ _ hk]; exact k4 k hk
  · rintro s ⟨h1, Y1, rfl, k1, k2, k3, k4, k5⟩
    have M1 := MR_up k1 (k := 3) (by omega) (by omega) (upd (Y1 3) n.toNat (iI 1))
    refine ⟨(iI 1, z_up h1 (m + 3) (mL m 3 (upd (Y1 3) n.toNat (iI 1)))), ?_, rfl, _, M1, fun j hj => by rw [updR_n _ _ (by omega)]; exact k2 j hj, fun j hj => by rw [updR_n _ _ (by omega)]; exact k3 j hj, by rw [updR_s]; exact pk_us, fun j hj => by rw [updR_s, pk_un hj, k4 3 (by omega)], fun k h1 h2 => by rw [updR_n _ _ h2]; exact k4 k h1, fr_tr k5 (fr_up (by omega) (by omega))⟩
    show f_X11_image_c13 (some m) (iI n) (iI ((530 : Nat) : Int)) h1 = _
    unfold f_X11_image_c13
    simp only [iI_lit, iI_add, iI_sub, iI_mul, iI_neg]
    have sb : z_sB h1 (some (m + 3)) (iI n) (iI 1) = some (z_up h1 (m + 3) (mL m 3 (upd (Y1 3) n.toNat (iI 1)))) := z_sB2_k (k1.1 3 (by omega)) c.1 (by omega) (by decide) (Or.inr rfl)
    rw [if_pos (cLe (by omega)), Mg2 k1.1, Option.bind_some, sb, Option.bind_some]
    rfl
theorem R_restore_n {h : zH} {Y : Nat → Nat → Int32} (hM : MR h m A Y) {n : Int} (c : 0 ≤ n ∧ n < 2) (hk : Y 3 n.toNat = iI 0) : f_X11_restore (some m) (iI n) h = some (iI (-4), h) := by
  unfold f_X11_restore
  simp only [iI_lit, iI_add, iI_sub, iI_mul, iI_neg]
  rw [R_in2 (by omega), z_b2_some, ite_tb, if_pos (by omega), Mg2 hM.1, Option.bind_some, z_aB_k (hM.1 3 (by omega)) (Or.inr rfl) c.1 (by omega) (by decide), Option.bind_some, hk, if_pos rfl]
theorem R_restore {h : zH} {Y : Nat → Nat → Int32} (hM : MR h m A Y) {n : Int} (c : 0 ≤ n ∧ n < 2) (hk : Y 3 n.toNat = iI 1) (hB : ∀ j : Nat, j < 530 → Y 2 (530 * n.toNat + j) = iI (A' j)) : ∃ h', f_X11_restore (some m) (iI n) h = some (iI 1, h') ∧ go1 m h Y A' h' := by
  have key := z_forI (body := fun s : (Option Nat) × Int32 × Int32 × zH => f_X11_restore_c25 s.1 s.2.1 s.2.2.1 s.2.2.2) (Q := fun r => r.1 = iI 1 ∧ go1 m h Y A' r.2)
    (fun i s => ∃ h', s = (some m, iI n, iI (i : Int), h') ∧ go1 m h Y (fun j => if 0 ≤ j ∧ j < (i : Int) then A' j else A j) h') 530 ?_ ?_ 530 0 (some m, iI n, iI 0, h) (by omega) ⟨h, rfl, Y, MR_cg hM (fun j hj => by rw [if_neg (by omega)]), o1_rf Y, fr_rf _ _ _⟩
  · obtain ⟨r, k1, k2, k3⟩ := key
    refine ⟨r.2, ?_, k3⟩
    unfold f_X11_restore f_X11_restore_b25
    simp only [iI_lit, iI_add, iI_sub, iI_mul, iI_neg]
    rw [R_in2 (by omega), z_b2_some, ite_tb, if_pos (by omega), Mg2 hM.1, Option.bind_some, z_aB_k (hM.1 3 (by omega)) (Or.inr rfl) c.1 (by omega) (by decide), Option.bind_some, hk, if_neg iI_01, k1, ← k2]
  · rintro i s hi ⟨h1, rfl, Y1, k1, k2, k3⟩
    have e4 : Y1 2 (530 * n.toNat + i) = iI (A' (i : Int)) := by rw [k2 2 (by omega)]; exact hB i hi
    have g := go1_ms k1 (e := (i : Int)) (v := A' (i : Int)) (by omega) (by omega)
    rw [mix_step] at g
    refine Or.inl ⟨_, ?_, _, rfl, go1_tr ⟨k1, k2, k3⟩ g⟩
    show f_X11_restore_c25 (some m) (iI n) (iI (i : Int)) h1 = _
    unfold f_X11_restore_c25
    simp only [iI_lit, iI_add, iI_sub, iI_mul, iI_neg]
    rw [if_neg (nLe (by omega)), Mg0 k1.1, Option.bind_some, Mg1 k1.1, Option.bind_some, z_aI_k (k1.1 2 (by omega)) (Or.inl rfl) (by omega) (by omega) (by decide), Option.bind_some, show (530 * n + (i : Int)).toNat = 530 * n.toNat + i by omega, e4, M_set k1 (by omega) (by omega), Option.bind_some]
    rfl
  · rintro s ⟨h1, rfl, Y1, k1, k2, k3⟩
    refine ⟨(iI 1, h1), ?_, rfl, Y1, MR_cg k1 (fun j hj => by rw [if_pos (by omega)]), k2, k3⟩
    show f_X11_restore_c25 (some m) (iI n) (iI ((530 : Nat) : Int)) h1 = _
    unfold f_X11_restore_c25
    simp only [iI_lit, iI_add, iI_sub, iI_mul, iI_neg]
    rw [if_pos (cLe (by omega))]
    rfl
end IM
