theorem z_it_i1 {σ α : Type} {body : σ → Option (σ ⊕ α)} {s : σ} {x : Option α} (h : body s = z_i1 x) : z_it body s = x := by
  rw [z_it_eq, h]
  cases x <;> rfl
section TY
theorem byE (w : Int64) {k : Int} (hk : 0 ≤ k ∧ k ≤ 7) : Int64.toInt32 (((Int64.toUInt64 w) >>> ((Int32.toInt64 (iI (8 * k))).toUInt64 &&& Int64.toUInt64 63)).toInt64) &&& iI 255 = Int64.toInt32 ((w >>> (Int32.toInt64 (iI (8 * k)) &&& 63)) &&& (255 : Int64)) := by
  have key : ∀ s : Nat, s ≤ 56 → ∀ (a : UInt64) (b : Int64), a.toBitVec % 64#64 = BitVec.ofNat 64 s → b.toBitVec.smod 64#64 = BitVec.ofNat 64 s → Int64.toInt32 (((Int64.toUInt64 w) >>> a).toInt64) &&& iI 255 = Int64.toInt32 ((w >>> b) &&& (255 : Int64)) := by
    intro s hs a b ea eb
    apply Int32.toBitVec_inj.mp
    rw [Int32.toBitVec_and, Int64.toBitVec_toInt32, Int64.toBitVec_toInt32, Int64.toBitVec_and]
    have e1 : (((Int64.toUInt64 w) >>> a).toInt64).toBitVec = w.toBitVec >>> (a.toBitVec % 64#64).toNat := rfl
    have e2 : (w >>> b).toBitVec = w.toBitVec.sshiftRight (b.toBitVec.smod 64#64).toNat := rfl
    have e3 : (iI 255).toBitVec = 255#32 := by decide
    have e4 : (255 : Int64).toBitVec = 255#64 := by decide
    have hs2 : (BitVec.ofNat 64 s).toNat = s := by rw [BitVec.toNat_ofNat]; omega
    rw [e1, e2, e3, e4, ea, eb, hs2]
    apply BitVec.eq_of_getLsbD_eq
    intro i hi
    have e5 : (255#32).getLsbD i = decide (i < 8) := by
      have : ∀ j : Fin 32, (255#32).getLsbD j.val = decide (j.val < 8) := by decide
      exact this ⟨i, hi⟩
    have e6 : (255#64).getLsbD i = decide (i < 8) := by
      have : ∀ j : Fin 32, (255#64).getLsbD j.val = decide (j.val < 8) := by decide
      exact this ⟨i, hi⟩
    rw [BitVec.getLsbD_and, e5, BitVec.getLsbD_signExtend, BitVec.getLsbD_signExtend, BitVec.getLsbD_and, e6]
    by_cases q : i < 8
    · rw [BitVec.getLsbD_sshiftRight, BitVec.getLsbD_ushiftRight]
      simp [q, hi, show i < 64 by omega, show s + i < 64 by omega]
    · simp [q, hi, show i < 64 by omega]
  rcases (show k = 0 ∨ k = 1 ∨ k = 2 ∨ k = 3 ∨ k = 4 ∨ k = 5 ∨ k = 6 ∨ k = 7 by omega) with rfl | rfl | rfl | rfl | rfl | rfl | rfl | rfl
  · exact key 0 (by omega) _ _ (by decide) (by decide)
  · exact key 8 (by omega) _ _ (by decide) (by decide)
  · exact key 16 (by omega) _ _ (by decide) (by decide)
  · exact key 24 (by omega) _ _ (by decide) (by decide)
  · exact key 32 (by omega) _ _ (by decide) (by decide)
  · exact key 40 (by omega) _ _ (by decide) (by decide)
  · exact key 48 (by omega) _ _ (by decide) (by decide)
  · exact key 56 (by omega) _ _ (by decide) (by decide)
theorem i8_id {v : Int} (h : 0 ≤ v ∧ v ≤ 126) : (Int32.toInt8 (iI v)).toInt32 = iI v := by
  have : ∀ n : Fin 127, (Int32.toInt8 (iI ((n.val : Nat) : Int))).toInt32 = iI ((n.val : Nat) : Int) := by decide +kernel
  have q := this ⟨v.toNat, by omega⟩
  rwa [show (((⟨v.toNat, by omega⟩ : Fin 127).val : Nat) : Int) = v from by show ((v.toNat : Nat) : Int) = v; omega] at q
/-- a byte of the long -/
noncomputable def bb (w : Int64) (k : Int) : Int := (Int64.toInt32 ((w >>> (Int32.toInt64 (iI (8 * k)) &&& 63)) &&& (255 : Int64))).toInt
theorem bb_R (w : Int64) (k : Int) : Int64.toInt32 ((w >>> (Int32.toInt64 (iI (8 * k)) &&& 63)) &&& (255 : Int64)) = iI (bb w k) := iI_of _
theorem bb_rg (w : Int64) (k : Int) : -2147483648 ≤ bb w k ∧ bb w k < 2147483648 := iI_rg _
theorem C_byte (w : Int64) {k : Int} (hk : 0 ≤ k ∧ k ≤ 7) {h : zH} : f_X10_byteOf w (iI k) h = some (iI (bb w k), h) := by
  unfold f_X10_byteOf
  simp only [iI_lit, iI_add, iI_sub, iI_mul, iI_neg]
  rw [byE w hk, bb_R]
def okT (w : Int64) (k n : Int) : Prop := ∀ j, k ≤ j → j < n → 32 ≤ bb w j ∧ bb w j ≤ 126
noncomputable def stT (T : Nat → Int) (N : Nat) (w : Int64) (n : Nat) : Nat → Int := fun j => if j < N then T j else bb w (((n - 1 - (j - N) : Nat)) : Int)
variable {X m : Nat} {A : Int → Int} {T : Nat → Int} {N : Nat}
theorem C_ty1 {h : zH} (hX : h X = oX X (iI (N : Int))) (hN : N ≤ 100) (w : Int64) {n : Int} (hn : 1 ≤ n ∧ n ≤ 8) : ∀ (d : Nat) (k : Int), 0 ≤ k → k + d = n → f_X10_type_b16 (some X) w (iI n) (iI k) h = @ite _ (okT w k n) (Classical.propDecidable _) (if (N : Int) + n ≤ 100 then f_X10_type_b71 (some X) w (iI (n - 1)) h else some (iI (-3), h)) (some (iI (-1), h))
  | 0, k, h0, hk => by
    rw [if_pos (show okT w k n from fun j h1 h2 => absurd h2 (by omega))]
    have e : f_X10_type_c16 (some X) w (iI n) (iI k) h = z_i1 (if (N : Int) + n ≤ 100 then f_X10_type_b71 (some X) w (iI (n - 1)) h else some (iI (-3), h)) := by
      unfold f_X10_type_c16
      simp only [iI_lit, iI_add, iI_sub, iI_mul, iI_neg]
      rw [if_pos (cLe (by omega)), Xi4 hX, Option.bind_some, iI_add, iteLe (by omega)]
    exact z_it_i1 e
  | d + 1, k, h0, hk => by
    have b := bb_rg w k
    have e : f_X10_type_c16 (some X) w (iI n) (iI k) h = if bb w k < 32 then some (Sum.inr (iI (-1), h)) else if bb w k ≤ 126 then some (Sum.inl (some X, w, iI n, iI (k + 1), h)) else some (Sum.inr (iI (-1), h)) := by
      unfold f_X10_type_c16
      simp only [iI_lit, iI_add, iI_sub, iI_mul, iI_neg]
      rw [if_neg (nLe (by omega)), C_byte w (by omega), z_b2_some, iteLt (by omega), iteLe (by omega)]
      rfl
    by_cases q : 32 ≤ bb w k ∧ bb w k ≤ 126
    · have eo : okT w k n ↔ okT w (k + 1) n := by
        constructor
        · intro g j h1 h2; exact g j (by omega) h2
        · intro g j h1 h2
          by_cases e : j = k
          · rw [e]; exact q
          · exact g j (by omega) h2
      have ih := C_ty1 hX hN w hn d (k + 1) (by omega) (by omega)
      have e2 : f_X10_type_b16 (some X) w (iI n) (iI k) h = f_X10_type_b16 (some X) w (iI n) (iI (k + 1)) h := by
        refine z_it_next ?_
        show f_X10_type_c16 (some X) w (iI n) (iI k) h = _
        rw [e, if_neg (by omega), if_pos q.2]
      rw [e2, ih]
      by_cases g : okT w k n
      · rw [if_pos g, if_pos (eo.mp g)]
      · rw [if_neg g, if_neg (fun x => g (eo.mpr x))]
    · rw [if_neg (fun g : okT w k n => q (g k (by omega) (by omega)))]
      refine z_it_done ?_
      show f_X10_type_c16 (some X) w (iI n) (iI k) h = _
      rw [e]
      by_cases q1 : bb w k < 32
      · rw [if_pos q1]
      · rw [if_neg q1, if_neg (by omega)]
theorem R_ty1 {h : zH} {Y : Nat → Nat → Int32} (hM : MR h m A Y) (hY : Y 0 4 = iI (N : Int)) (hN : N ≤ 100) (w : Int64) {n : Int} (hn : 1 ≤ n ∧ n ≤ 8) : ∀ (d : Nat) (k : Int), 0 ≤ k → k + d = n → f_X11_type_b15 (some m) w (iI n) (iI k) h = @ite _ (okT w k n) (Classical.propDecidable _) (if (N : Int) + n ≤ 100 then f_X11_type_b70 (some m) w (iI (n - 1)) h else some (iI (-3), h)) (some (iI (-1), h))
  | 0, k, h0, hk => by
    rw [if_pos (show okT w k n from fun j h1 h2 => absurd h2 (by omega))]
    have e : f_X11_type_c15 (some m) w (iI n) (iI k) h = z_i1 (if (N : Int) + n ≤ 100 then f_X11_type_b70 (some m) w (iI (n - 1)) h else some (iI (-3), h)) := by
      unfold f_X11_type_c15
      simp only [iI_lit, iI_add, iI_sub, iI_mul, iI_neg]
      rw [if_pos (cLe (by omega)), Mi4 hM.1, Option.bind_some, hY, iI_add, iteLe (by omega)]
    exact z_it_i1 e
  | d + 1, k, h0, hk => by
    have b := bb_rg w k
    have e : f_X11_type_c15 (some m) w (iI n) (iI k) h = @ite _ (32 ≤ bb w k ∧ bb w k ≤ 126) (Classical.propDecidable _) (some (Sum.inl (some m, w, iI n, iI (k + 1), h))) (some (Sum.inr (iI (-1), h))) := by
      unfold f_X11_type_c15
      simp only [iI_lit, iI_neg, iI_add, iI_mul]
      rw [if_neg (nLe (by omega)), show Int64.toInt32 ((w >>> (Int32.toInt64 (iI (8 * k)) &&& 63)) &&& (255 : Int64)) = iI (bb w k) from bb_R w k, R_in2 (by omega), z_b2_some, ite_tb]
      rfl
    by_cases q : 32 ≤ bb w k ∧ bb w k ≤ 126
    · have eo : okT w k n ↔ okT w (k + 1) n := by
        constructor
        · intro g j h1 h2; exact g j (by omega) h2
        · intro g j h1 h2
          by_cases e : j = k
          · rw [e]; exact q
          · exact g j (by omega) h2
      have ih := R_ty1 hM hY hN w hn d (k + 1) (by omega) (by omega)
      have e2 : f_X11_type_b15 (some m) w (iI n) (iI k) h = f_X11_type_b15 (some m) w (iI n) (iI (k + 1)) h := by
        refine z_it_next ?_
        show f_X11_type_c15 (some m) w (iI n) (iI k) h = _
        rw [e, if_pos q]
      rw [e2, ih]
      by_cases g : okT w k n
      · rw [if_pos g, if_pos (eo.mp g)]
      · rw [if_neg g, if_neg (fun x => g (eo.mpr x))]
    · rw [if_neg (fun g : okT w k n => q (g k (by omega) (by omega)))]
      refine z_it_done ?_
      show f_X11_type_c15 (some m) w (iI n) (iI k) h = _
      rw [e, if_neg q]
theorem C_ty2 {h : zH} (hX : h X = oX X (iI (N : Int))) (hT : TPE T N (X + 33) h) (w : Int64) {n : Nat} (hn : 1 ≤ n ∧ n ≤ 8) (hN : N + n ≤ 100) (ok : okT w 0 (n : Int)) :
    ∃ h', f_X10_type_b71 (some X) w (iI ((n : Int) - 1)) h = some (iI ((N + n : Nat) : Int), h') ∧ h' X = oX X (iI ((N + n : Nat) : Int)) ∧ TPE (stT T N w n) (N + n) (X + 33) h' ∧ ∀ q, q ≠ X → q ≠ X + 33 → h' q = h q := by
  have key := z_forI (body := fun s : (Option Nat) × Int64 × Int32 × zH => f_X10_type_c71 s.1 s.2.1 s.2.2.1 s.2.2.2) (Q := fun r => r.1 = iI ((N + n : Nat) : Int) ∧ r.2 X = oX X (iI ((N + n : Nat) : Int)) ∧ TPE (stT T N w n) (N + n) (X + 33) r.2 ∧ ∀ q, q ≠ X → q ≠ X + 33 → r.2 q = h q)
    (fun i st => ∃ h', st = (some X, w, iI ((n : Int) - 1 - (i : Int)), h') ∧ h' X = oX X (iI ((N + i : Nat) : Int)) ∧ TPE (stT T N w n) (N + i) (X + 33) h' ∧ ∀ q, q ≠ X → q ≠ X + 33 → h' q = h q) n ?_ ?_ n 0 (some X, w, iI ((n : Int) - 1), h) (by omega) ⟨h, by rw [show (n : Int) - 1 - ((0 : Nat) : Int) = (n : Int) - 1 by omega], hX, ?_, fun _ _ _ => rfl⟩
  · obtain ⟨r, k1, k2, k3, k4, k5⟩ := key
    refine ⟨r.2, ?_, k3, k4, k5⟩
    unfold f_X10_type_b71
    rw [k1, ← k2]
  · rintro i st hi ⟨h1, rfl, k1, k2, k3⟩
    obtain ⟨g, g1, g2⟩ := k2
    have o := ok ((n : Int) - 1 - (i : Int)) (by omega) (by omega)
    refine Or.inl ⟨_, ?_, z_up (z_up h1 (X + 33) (.inl (1, 100, .inl (upd g (N + i) (iI (bb w ((n : Int) - 1 - (i : Int)))))))) X (oX X (iI ((N + (i + 1) : Nat) : Int))), rfl, z_up_s _ _ _, ⟨_, by rw [z_up_n _ _ (by omega)]; exact z_up_s _ _ _, fun k hk => ?_⟩, fun q h1 h2 => by rw [z_up_n _ _ h1, z_up_n _ _ h2]; exact k3 q h1 h2⟩
    · show f_X10_type_c71 (some X) w (iI ((n : Int) - 1 - (i : Int))) h1 = _
      unfold f_X10_type_c71
      simp only [iI_lit, iI_add, iI_sub, iI_mul, iI_neg]
      have hX2 : z_up h1 (X + 33) (.inl (1, 100, .inl (upd g (N + i) (iI (bb w ((n : Int) - 1 - (i : Int))))))) X = oX X (iI ((N + i : Nat) : Int)) := by rw [z_up_n _ _ (by omega)]; exact k1
      have sb : z_sB h1 (some (X + 33)) (iI ((N + i : Nat) : Int)) (iI (bb w ((n : Int) - 1 - (i : Int)))) = some (z_up h1 (X + 33) (.inl (1, 100, .inl (upd g (N + i) (iI (bb w ((n : Int) - 1 - (i : Int)))))))) := by
        rw [z_sB1_k g1 (by omega) (by omega) (by decide), i8_id (by omega)]
        rfl
      rw [if_neg (nLt (by omega)), Xg3 k1, Option.bind_some, Xi4 k1, Option.bind_some, C_byte w (by omega), z_b2_some, i8_id (by omega), sb, Option.bind_some, Xi4 hX2, Option.bind_some, iI_add, Xp4 hX2, Option.bind_some, show ((N + i : Nat) : Int) + 1 = ((N + (i + 1) : Nat) : Int) by omega, show (n : Int) - 1 - (i : Int) + -1 = (n : Int) - 1 - ((i + 1 : Nat) : Int) by omega]
    · by_cases e : k = N + i
      · subst e
        rw [pk_us]
        unfold stT
        rw [if_neg (by omega), show ((n - 1 - (N + i - N) : Nat) : Int) = (n : Int) - 1 - (i : Int) by omega]
      · rw [pk_un e]; exact g2 k (by omega)
  · rintro st ⟨h1, rfl, k1, k2, k3⟩
    refine ⟨(iI ((N + n : Nat) : Int), h1), ?_, rfl, k1, k2, k3⟩
    show f_X10_type_c71 (some X) w (iI ((n : Int) - 1 - (n : Int))) h1 = _
    unfold f_X10_type_c71
    simp only [iI_lit, iI_add, iI_sub, iI_mul, iI_neg]
    rw [if_pos (cLt (by omega)), Xi4 k1, Option.bind_some]
    rfl
  · obtain ⟨g, g1, g2⟩ := hT
    exact ⟨g, g1, fun k hk => by rw [g2 k (by omega)]; unfold stT; rw [if_pos (by omega)]⟩
def oT (Y Y' : Nat → Nat → Int32) : Prop := (∀ k, k ≠ 0 → k ≠ 5 → Y' k = Y k) ∧ ∀ k, k ≠ 4 → Y' 0 k = Y 0 k
theorem R_ty2 {h : zH} {Y : Nat → Nat → Int32} (hM : MR h m A Y) (hY : Y 0 4 = iI (N : Int)) (hT : ∀ k, k < N → Y 5 k = iI (T k)) (w : Int64) {n : Nat} (hn : 1 ≤ n ∧ n ≤ 8) (hN : N + n ≤ 100) :
    ∃ h' Y', f_X11_type_b70 (some m) w (iI ((n : Int) - 1)) h = some (iI ((N + n : Nat) : Int), h') ∧ MR h' m A Y' ∧ Y' 0 4 = iI ((N + n : Nat) : Int) ∧ (∀ k, k < N + n → Y' 5 k = iI (stT T N w n k)) ∧ oT Y Y' ∧ fr m 19 h h' := by
  have key := z_forI (body := fun s : (Option Nat) × Int64 × Int32 × zH => f_X11_type_c70 s.1 s.2.1 s.2.2.1 s.2.2.2) (Q := fun r => r.1 = iI ((N + n : Nat) : Int) ∧ ∃ Y', MR r.2 m A Y' ∧ Y' 0 4 = iI ((N + n : Nat) : Int) ∧ (∀ k, k < N + n → Y' 5 k = iI (stT T N w n k)) ∧ oT Y Y' ∧ fr m 19 h r.2)
    (fun i st => ∃ h' Y', st = (some m, w, iI ((n : Int) - 1 - (i : Int)), h') ∧ MR h' m A Y' ∧ Y' 0 4 = iI ((N + i : Nat) : Int) ∧ (∀ k, k < N + i → Y' 5 k = iI (stT T N w n k)) ∧ oT Y Y' ∧ fr m 19 h h') n ?_ ?_ n 0 (some m, w, iI ((n : Int) - 1), h) (by omega) ⟨h, Y, by rw [show (n : Int) - 1 - ((0 : Nat) : Int) = (n : Int) - 1 by omega], hM, hY, fun k hk => ?_, ⟨fun _ _ _ => rfl, fun _ _ => rfl⟩, fr_rf _ _ _⟩
  · obtain ⟨r, k1, k2, Y', k3, k4, k5, k6, k7⟩ := key
    refine ⟨r.2, Y', ?_, k3, k4, k5, k6, k7⟩
    unfold f_X11_type_b70
    rw [k1, ← k2]
  · rintro i st hi ⟨h1, Y1, rfl, k1, k2, k3, k4, k5⟩
    have M1 := MR_up k1 (k := 5) (by omega) (by omega) (upd (Y1 5) (N + i) (iI (bb w ((n : Int) - 1 - (i : Int)))))
    have M2 := MR_up M1 (k := 0) (by omega) (by omega) (upd (updR Y1 5 (upd (Y1 5) (N + i) (iI (bb w ((n : Int) - 1 - (i : Int))))) 0) 4 (iI ((N + (i + 1) : Nat) : Int)))
    refine Or.inl ⟨_, ?_, _, _, rfl, M2, ?_, fun k hk => ?_, ⟨fun k h1 h2 => ?_, fun k hk => ?_⟩, fr_tr k5 (fr_tr (fr_up (by omega) (by omega)) (fr_up (by omega) (by omega)))⟩
    · show f_X11_type_c70 (some m) w (iI ((n : Int) - 1 - (i : Int))) h1 = _
      unfold f_X11_type_c70
      simp only [iI_lit, iI_neg, iI_add, iI_mul]
      have s5 : z_sI h1 (some (m + 5)) (iI ((N + i : Nat) : Int)) (iI (bb w ((n : Int) - 1 - (i : Int)))) = some (z_up h1 (m + 5) (mL m 5 (upd (Y1 5) (N + i) (iI (bb w ((n : Int) - 1 - (i : Int))))))) := by
        rw [z_sI_k (k1.1 5 (by omega)) (by omega) (by omega) (by decide)]; rfl
      have y4 : updR Y1 5 (upd (Y1 5) (N + i) (iI (bb w ((n : Int) - 1 - (i : Int))))) 0 4 = iI ((N + i : Nat) : Int) := by rw [updR_n _ _ (by omega)]; exact k2
      rw [if_neg (nLt (by omega)), Mg5 k1.1, Option.bind_some, Mi4 k1.1, Option.bind_some, k2, show Int64.toInt32 ((w >>> (Int32.toInt64 (iI (8 * ((n : Int) - 1 - (i : Int)))) &&& 63)) &&& (255 : Int64)) = iI (bb w ((n : Int) - 1 - (i : Int))) from bb_R w _, s5, Option.bind_some, Mi4 M1.1, Option.bind_some, y4, iI_add, Mp4 M1.1, Option.bind_some, show ((N + i : Nat) : Int) + 1 = ((N + (i + 1) : Nat) : Int) by omega, show (n : Int) - 1 - (i : Int) + -1 = (n : Int) - 1 - ((i + 1 : Nat) : Int) by omega]
      rfl
    · rw [updR_s]; exact pk_us
    · rw [updR_n _ _ (by omega), updR_s]
      by_cases e : k = N + i
      · subst e
        rw [pk_us]
        unfold stT
        rw [if_neg (by omega), show ((n - 1 - (N + i - N) : Nat) : Int) = (n : Int) - 1 - (i : Int) by omega]
      · rw [pk_un e]; exact k3 k (by omega)
    · rw [updR_n _ _ (by omega), updR_n _ _ (by omega)]; exact k4.1 k h1 h2
    · rw [updR_s, pk_un hk, updR_n _ _ (by omega)]; exact k4.2 k hk
  · rintro st ⟨h1, Y1, rfl, k1, k2, k3, k4, k5⟩
    refine ⟨(iI ((N + n : Nat) : Int), h1), ?_, rfl, Y1, k1, k2, k3, k4, k5⟩
    show f_X11_type_c70 (some m) w (iI ((n : Int) - 1 - (n : Int))) h1 = _
    unfold f_X11_type_c70
    simp only [iI_lit, iI_neg, iI_add, iI_mul]
    rw [if_pos (cLt (by omega)), Mi4 k1.1, Option.bind_some, k2]
    rfl
  · rw [hT k (by omega)]; unfold stT; rw [if_pos (by omega)]
def stCT (X : Nat) (T : Nat → Int) (N : Nat) (f : zH → Option (Int32 × zH)) (r : Int32) (T' : Nat → Int) (N' : Nat) : Prop := ∀ h, h X = oX X (iI (N : Int)) → TPE T N (X + 33) h → ∃ h', f h = some (r, h') ∧ h' X = oX X (iI (N' : Int)) ∧ TPE T' N' (X + 33) h' ∧ ∀ q, q ≠ X → q ≠ X + 33 → h' q = h q
def stRT (m : Nat) (A : Int → Int) (T : Nat → Int) (N : Nat) (f : zH → Option (Int32 × zH)) (r : Int32) (T' : Nat → Int) (N' : Nat) : Prop := ∀ h Y, MR h m A Y → Y 0 4 = iI (N : Int) → (∀ k, k < N → Y 5 k = iI (T k)) → ∃ h' Y', f h = some (r, h') ∧ MR h' m A Y' ∧ Y' 0 4 = iI (N' : Int) ∧ (∀ k, k < N' → Y' 5 k = iI (T' k)) ∧ oT Y Y' ∧ fr m 19 h h'
theorem K_type (hN : N ≤ 100) (hc : ∀ k, k < N → 32 ≤ T k ∧ T k ≤ 126) (w : Int64) {n : Int} (hn : rgI n) : ∃ r T' N', stCT X T N (f_X10_type (some X) w (iI n)) r T' N' ∧ stRT m A T N (f_X11_type (some m) w (iI n)) r T' N' ∧ N' ≤ 100 ∧ ∀ k, k < N' → 32 ≤ T' k ∧ T' k ≤ 126 := by
  have hn' : -2147483648 ≤ n ∧ n < 2147483648 := hn
  have no : ∀ r, (∀ h, h X = oX X (iI (N : Int)) → TPE T N (X + 33) h → f_X10_type (some X) w (iI n) h = some (r, h)) → (∀ h Y, MR h m A Y → Y 0 4 = iI (N : Int) → f_X11_type (some m) w (iI n) h = some (r, h)) → ∃ r T' N', stCT X T N (f_X10_type (some X) w (iI n)) r T' N' ∧ stRT m A T N (f_X11_type (some m) w (iI n)) r T' N' ∧ N' ≤ 100 ∧ ∀ k, k < N' → 32 ≤ T' k ∧ T' k ≤ 126 :=
    fun r h1 h2 => ⟨r, T, N, fun h hX hT => ⟨h, h1 h hX hT, hX, hT, fun _ _ _ => rfl⟩, fun h Y hM hY hT => ⟨h, Y, h2 h Y hM hY, hM, hY, hT, ⟨fun _ _ _ => rfl, fun _ _ => rfl⟩, fr_rf _ _ _⟩, hN, hc⟩
  by_cases c1 : 1 ≤ n ∧ n ≤ 8
  · have CE : ∀ h, h X = oX X (iI (N : Int)) → f_X10_type (some X) w (iI n) h = f_X10_type_b16 (some X) w (iI n) (iI 0) h := by
      intro h hX
      unfold f_X10_type
      simp only [iI_lit, iI_add, iI_sub, iI_mul, iI_neg]
      rw [if_neg (nLt (by omega)), if_pos (cLe (by omega))]
    have RE : ∀ h, f_X11_type (some m) w (iI n) h = f_X11_type_b15 (some m) w (iI n) (iI 0) h := by
      intro h
      unfold f_X11_type
      simp only [iI_lit, iI_add, iI_sub, iI_mul, iI_neg]
      rw [R_in2 (by omega), z_b2_some, ite_tb, if_pos c1]
    obtain ⟨n, rfl⟩ : ∃ k : Nat, n = (k : Int) := ⟨n.toNat, by omega⟩
    by_cases c2 : okT w 0 (n : Int)
    · by_cases c3 : (N : Int) + (n : Int) ≤ 100
      · refine ⟨iI ((N + n : Nat) : Int), stT T N w n, N + n, fun h hX hT => ?_, fun h Y hM hY hT => ?_, by omega, fun k hk => ?_⟩
        · obtain ⟨h', k1, k2, k3, k4⟩ := C_ty2 hX hT w (n := n) (by omega) (by omega) c2
          refine ⟨h', ?_, k2, k3, k4⟩
          rw [CE h hX, C_ty1 hX hN w c1 n 0 (by omega) (by omega), if_pos c2, if_pos c3, k1]
        · obtain ⟨h', Y', k1, k2, k3, k4, k5, k6⟩ := R_ty2 hM hY hT w (n := n) (by omega) (by omega)
          refine ⟨h', Y', ?_, k2, k3, k4, k5, k6⟩
          rw [RE h, R_ty1 hM hY hN w c1 n 0 (by omega) (by omega), if_pos c2, if_pos c3, k1]
        · unfold stT
          by_cases e : k < N
          · rw [if_pos e]; exact hc k e
          · rw [if_neg e]; exact c2 _ (by omega) (by omega)
      · refine no (iI (-3)) (fun h hX hT => ?_) (fun h Y hM hY => ?_)
        · rw [CE h hX, C_ty1 hX hN w c1 n 0 (by omega) (by omega), if_pos c2, if_neg c3]
        · rw [RE h, R_ty1 hM hY hN w c1 n 0 (by omega) (by omega), if_pos c2, if_neg c3]
    · refine no (iI (-1)) (fun h hX hT => ?_) (fun h Y hM hY => ?_)
      · rw [CE h hX, C_ty1 hX hN w c1 n 0 (by omega) (by omega), if_neg c2]
      · rw [RE h, R_ty1 hM hY hN w c1 n 0 (by omega) (by omega), if_neg c2]
  · refine no (iI (-1)) (fun h hX hT => ?_) (fun h Y hM hY => ?_)
    · unfold f_X10_type
      simp only [iI_lit, iI_add, iI_sub, iI_mul, iI_neg]
      by_cases q : n < 1
      · rw [if_pos (cLt (by omega))]
      · rw [if_neg (nLt (by omega)), if_neg (nLe (by omega))]
    · unfold f_X11_type
      simp only [iI_lit, iI_add, iI_sub, iI_mul, iI_neg]
      rw [R_in2 (by omega), z_b2_some, ite_tb, if_neg c1]
end TY
