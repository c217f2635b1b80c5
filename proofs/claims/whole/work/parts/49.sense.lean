section RS
variable {T : Nat → Int} {N rd tp : Nat} {h : zH}
theorem C_sense (hC : zCx T N rd tp) (hT : TPE T N tp h) {k : Nat} (hn : Nm T N rd tp h k) {st op ac cl : Int} (h2 : 0 ≤ st ∧ st < 2) (h33 : ¬ (sgk T N k = 33 ∧ st = 0)) (h40 : ¬ (sgk T N k = 40 ∧ op < 4)) :
    ∃ v h' k', f_X4_readSense (some rd) h = some (v, h') ∧ k ≤ k' ∧ f1 rd h h' ∧ ((∃ y, vA y ∧ v = bitv y ∧ Nm T N rd tp h' k' ∧ k < k' ∧ rst T N k = prA y ++ rst T N k' ∧ zJ T N (st, op, ac, cl) k = zJ T N (3, op, ac, cl) k') ∨ (Fl N rd tp h' k' ∧ (zJ T N (st, op, ac, cl) k).1 = k')) := by
  have ck := Nm_ck hn
  have tn : ∀ w : Int, 0 ≤ w ∧ w ≤ 200 → sgk T N k ≠ w → f_X4_takes (some rd) (iI w) h = some (iI 0, h) := fun w hw hs => C_take_n hC hn hw hs
  have dig : ∀ c : Int, (c = 119 ∨ c = 116 ∨ c = 109) → sgk T N k = c → ∃ h1, f_X4_takes (some rd) (iI c) h = some (iI 1, h1) ∧ z_ck h1 4 (some rd) = some rd ∧ ∃ v h' k', f_X4_readDigit (some rd) h1 = some (iI v, h') ∧ k ≤ k' ∧ f1 rd h h' ∧ ((vA (c, v) ∧ Nm T N rd tp h' k' ∧ k < k' ∧ rst T N k = prA (c, v) ++ rst T N k' ∧ zJ T N (st, op, ac, cl) k = zJ T N (3, op, ac, cl) k') ∨ (Fl N rd tp h' k' ∧ (zJ T N (st, op, ac, cl) k).1 = k')) := by
    intro c hc hs
    obtain ⟨h1, k1, r1, r2, r3, r4, r5, r6⟩ := C_take_y hC hT hn (w := c) (by omega) hs
    have j1 := r4 (st, op, ac, cl) (2, op, ac, cl) (ss_w h2.2 hc)
    obtain ⟨v, h', k', q1, q2, q3, q4⟩ := C_digit hC (TPE_f1 hC hT r6) r2
    refine ⟨h1, r1, Nm_ck r2, v, h', k', q1, by omega, f1_tr r6 q3, ?_⟩
    rcases q4 with ⟨g1, g2, g3, g4, g5⟩ | ⟨g1, g2, g3⟩
    · refine Or.inl ⟨Or.inl ⟨hc, g3⟩, g1, by omega, ?_, ?_⟩
      · rw [r5, g5]
        unfold prA
        rw [if_pos hc]; rfl
      · rw [j1]; exact g4 _ _ (ss_d2 (by omega))
    · refine Or.inr ⟨g1, ?_⟩
      rw [j1, g2]
      exact zJ_no r2.2.1 (by simp) (fun hk => ss_b2 (Or.inl rfl) (r2.2.2 hk) (g3 hk))
  have one : ∀ c : Int, (c = 104 ∨ c = 120 ∨ c = 42) → sgk T N k = c → ∃ h' k', f_X4_takes (some rd) (iI c) h = some (iI 1, h') ∧ f_X4_need (some rd) (iI c) h = some h' ∧ k ≤ k' ∧ f1 rd h h' ∧ vA (c, 0) ∧ Nm T N rd tp h' k' ∧ k < k' ∧ rst T N k = prA (c, 0) ++ rst T N k' ∧ zJ T N (st, op, ac, cl) k = zJ T N (3, op, ac, cl) k' := by
    intro c hc hs
    obtain ⟨hk, hw2⟩ := sgk_lt (w := c) (by omega) hs
    obtain ⟨h1, k1, r1, r2, r3, r4, r5, r6⟩ := C_adv hC hT hn hk
    rw [hw2] at r4 r5
    refine ⟨h1, k1, ?_, ?_, by omega, r6, Or.inr ⟨hc, rfl⟩, r2, r3, ?_, r4 _ _ (ss_h h2.2 hc)⟩
    · unfold f_X4_takes
      rw [Nm_sg hn, Option.bind_some, hs, if_pos rfl, Nm_at hn, Option.bind_some, Nm_ck hn, Option.bind_some, r1, Option.bind_some]
      rfl
    · unfold f_X4_need
      rw [Nm_sg hn, Option.bind_some, hs, if_pos rfl, Nm_at hn, Option.bind_some, Nm_ck hn, Option.bind_some, r1, Option.bind_some]
    · rw [r5]
      unfold prA
      rw [if_neg (by simp only; omega)]; rfl
  by_cases q1 : sgk T N k = 119
  · obtain ⟨h1, r1, r2, v, h', k', g1, g2, g3, g4⟩ := dig 119 (by omega) q1
    refine ⟨bitv (119, v), h', k', ?_, g2, g3, ?_⟩
    · simp only [f_X4_readSense, iI_lit, iI_add, iI_sub, iI_mul, iI_neg, Option.bind_some, z_b2_some, z_i1_some, ck, r1, iI_01, if_false, r2, g1]
      rfl
    · rcases g4 with ⟨y1, y2⟩ | y2
      · exact Or.inl ⟨_, y1, rfl, y2⟩
      · exact Or.inr y2
  · by_cases q2 : sgk T N k = 116
    · obtain ⟨h1, r1, r2, v, h', k', g1, g2, g3, g4⟩ := dig 116 (by omega) q2
      refine ⟨bitv (116, v), h', k', ?_, g2, g3, ?_⟩
      · simp only [f_X4_readSense, iI_lit, iI_add, iI_sub, iI_mul, iI_neg, Option.bind_some, z_b2_some, z_i1_some, ck, tn 119 (by omega) q1, if_true, r1, iI_01, if_false, r2, g1]
        rfl
      · rcases g4 with ⟨y1, y2⟩ | y2
        · exact Or.inl ⟨_, y1, rfl, y2⟩
        · exact Or.inr y2
    · by_cases q3 : sgk T N k = 109
      · obtain ⟨h1, r1, r2, v, h', k', g1, g2, g3, g4⟩ := dig 109 (by omega) q3
        refine ⟨bitv (109, v), h', k', ?_, g2, g3, ?_⟩
        · simp only [f_X4_readSense, iI_lit, iI_add, iI_sub, iI_mul, iI_neg, Option.bind_some, z_b2_some, z_i1_some, ck, tn 119 (by omega) q1, tn 116 (by omega) q2, if_true, r1, iI_01, if_false, r2, g1]
          rfl
        · rcases g4 with ⟨y1, y2⟩ | y2
          · exact Or.inl ⟨_, y1, rfl, y2⟩
          · exact Or.inr y2
      · by_cases q4 : sgk T N k = 104
        · obtain ⟨h', k', g1, g2, g3, g4, g5, g6⟩ := one 104 (by omega) q4
          refine ⟨bitv (104, 0), h', k', ?_, g3, g4, Or.inl ⟨_, g5, rfl, g6⟩⟩
          simp only [f_X4_readSense, iI_lit, iI_add, iI_sub, iI_mul, iI_neg, Option.bind_some, z_b2_some, z_i1_some, ck, tn 119 (by omega) q1, tn 116 (by omega) q2, tn 109 (by omega) q3, if_true, g1, iI_01, if_false]
          rfl
        · by_cases q5 : sgk T N k = 120
          · obtain ⟨h', k', g1, g2, g3, g4, g5, g6⟩ := one 120 (by omega) q5
            refine ⟨bitv (120, 0), h', k', ?_, g3, g4, Or.inl ⟨_, g5, rfl, g6⟩⟩
            simp only [f_X4_readSense, iI_lit, iI_add, iI_sub, iI_mul, iI_neg, Option.bind_some, z_b2_some, z_i1_some, ck, tn 119 (by omega) q1, tn 116 (by omega) q2, tn 109 (by omega) q3, tn 104 (by omega) q4, if_true, g1, iI_01, if_false]
            rfl
          · by_cases q6 : sgk T N k = 42
            · obtain ⟨h', k', g1, g2, g3, g4, g5, g6⟩ := one 42 (by omega) q6
              refine ⟨bitv (42, 0), h', k', ?_, g3, g4, Or.inl ⟨_, g5, rfl, g6⟩⟩
              simp only [f_X4_readSense, iI_lit, iI_add, iI_sub, iI_mul, iI_neg, Option.bind_some, z_b2_some, z_i1_some, ck, tn 119 (by omega) q1, tn 116 (by omega) q2, tn 109 (by omega) q3, tn 104 (by omega) q4, tn 120 (by omega) q5, if_true, g2]
              rfl
            · obtain ⟨h', g1, g2, g3⟩ := C_need_n hC hn (w := 42) (by omega) q6
              refine ⟨iI 16384, h', k, ?_, Nat.le_refl _, g3, Or.inr ⟨g2, ?_⟩⟩
              · simp only [f_X4_readSense, iI_lit, iI_add, iI_sub, iI_mul, iI_neg, Option.bind_some, z_b2_some, z_i1_some, ck, tn 119 (by omega) q1, tn 116 (by omega) q2, tn 109 (by omega) q3, tn 104 (by omega) q4, tn 120 (by omega) q5, if_true, g1]
              · refine zJ_no hn.2.1 (by simp only; omega) (fun hk => ?_)
                have e : sgk T N k = T k := by unfold sgk; rw [if_pos hk]
                have h32 := hn.2.2 hk
                rw [e] at h33 h40 q1 q2 q3 q4 q5 q6
                exact ss_b0 h2.2 (by omega) h33 h40
end RS
/-! claims and tests -/
def fz (rd nx : Nat) (h h' : zH) : Prop := ∀ a, a < nx → a ≠ rd → h' a = h a
theorem fz_rf (rd nx : Nat) (h : zH) : fz rd nx h h := fun _ _ _ => rfl
theorem fz_tr {rd nx nx1 : Nat} {h h1 h2 : zH} (a : fz rd nx h h1) (c : fz rd nx1 h1 h2) (hn : nx ≤ nx1) : fz rd nx h h2 := fun q h1 h2 => (c q (by omega) h2).trans (a q h1 h2)
theorem fz_f1 {rd : Nat} {h h' : zH} (nx : Nat) (a : f1 rd h h') : fz rd nx h h' := fun q _ h2 => a q h2
theorem fz_up {rd nx a : Nat} (h : zH) (c : zMC) (ha : nx ≤ a) : fz rd nx h (z_up h a c) := fun q h1 _ => z_up_n _ _ (by omega)
def rg (lo hi : Nat) : Nat → Prop := fun a => lo ≤ a ∧ a < hi
def cCl (o n : Int32) (bit : Int32) (ins nx : Option Nat) : zMC := .inr (1, [tI o, tI n, tI bit, tA ins, tA nx])
section RCl
variable {T : Nat → Int} {N rd tp : Nat}
theorem TPE_fz {nx : Nat} {h h' : zH} (hC : zCx T N rd tp) (htp : tp < nx) (hT : TPE T N tp h) (hf : fz rd nx h h') : TPE T N tp h' := by
  obtain ⟨g, h1, h2⟩ := hT
  exact ⟨g, by rw [hf tp htp hC.2.2]; exact h1, h2⟩
theorem Nm_up {h : zH} {k a : Nat} {c : zMC} (hn : Nm T N rd tp h k) (ha : rd ≠ a) : Nm T N rd tp (z_up h a c) k := ⟨by rw [z_up_n _ _ ha]; exact hn.1, hn.2⟩
theorem Fl_up {h : zH} {k a : Nat} {c : zMC} (hn : Fl N rd tp h k) (ha : rd ≠ a) : Fl N rd tp (z_up h a c) k := ⟨by rw [z_up_n _ _ ha]; exact hn.1, hn.2⟩
/-- what reading a test does -/
def PTe (T : Nat → Int) (N rd tp : Nat) (d : Nat) (rec : Option Nat → Int32 → zH → Nat → Nat → Option ((Nat × Nat) × (Option Nat × zH))) : Prop :=
  ∀ (h : zH) (nx z k : Nat) (o ac cl : Int), o + d = 4 → 0 ≤ o → TPE T N tp h → Nm T N rd tp h k → rd < nx → tp < nx →
  ∃ (t : Option Nat) (nx' z' : Nat) (h' : zH) (k' : Nat), rec (some rd) (iI o) h nx z = some ((nx', z'), (t, h')) ∧ k ≤ k' ∧ nx ≤ nx' ∧ nx' ≤ nx + 1 + (k' - k) ∧ (z ≤ z' ∧ z' ≤ z + 5 * (1 + (k' - k))) ∧ fz rd nx h h' ∧
  ((∃ l, vT (vX d) l ∧ CHs (rg nx nx') h' (CX (rg nx nx') h' d) t l ∧ Nm T N rd tp h' k' ∧ k < k' ∧ rst T N k = prT (prX d) l ++ rst T N k' ∧ zJ T N (0, o, ac, cl) k = zJ T N (3, o, 0, cl) k' ∧ ¬ (sgk T N k' = 38 ∨ sgk T N k' = 124)) ∨ (Fl N rd tp h' k' ∧ (zJ T N (0, o, ac, cl) k).1 = k'))
def PCl (T : Nat → Int) (N rd tp : Nat) (d : Nat) (rec : Option Nat → Int32 → zH → Nat → Nat → Option ((Nat × Nat) × (Option Nat × zH))) : Prop :=
  ∀ (h : zH) (nx z k : Nat) (o ac cl : Int), o + d = 4 → 0 ≤ o → TPE T N tp h → Nm T N rd tp h k → rd < nx → tp < nx →
  ∃ (nx' z' : Nat) (h' : zH) (k' : Nat) (n : Bool) (bit : Int32) (ins : Option Nat), rec (some rd) (iI o) h nx z = some ((nx', z'), (some nx, h')) ∧ k ≤ k' ∧ nx < nx' ∧ nx' ≤ nx + 1 + (k' - k) ∧ (z ≤ z' ∧ z' ≤ z + 5 * (1 + (k' - k))) ∧ fz rd nx h h' ∧ h' nx = cCl (iI 0) (tb (n = true)) bit ins none ∧
  ((∃ x, vX d x ∧ CX (rg (nx + 1) nx') h' d ins bit x ∧ Nm T N rd tp h' k' ∧ k < k' ∧ rst T N k = prN n ++ (prX d x ++ rst T N k') ∧ zJ T N (0, o, ac, cl) k = zJ T N (3, o, 0, cl) k') ∨ (Fl N rd tp h' k' ∧ (zJ T N (0, o, ac, cl) k).1 = k'))
/-- the sign ahead -/
theorem C_not (hC : zCx T N rd tp) {h : zH} (hT : TPE T N tp h) {k : Nat} (hn : Nm T N rd tp h k) (o ac cl : Int) :
    ∃ (n : Bool) (h' : zH) (k' : Nat) (st : Int), f_X4_takes (some rd) (iI 33) h = some (tb (n = true), h') ∧ Nm T N rd tp h' k' ∧ k ≤ k' ∧ rst T N k = prN n ++ rst T N k' ∧ zJ T N (0, o, ac, cl) k = zJ T N (st, o, ac, cl) k' ∧ (0 ≤ st ∧ st < 2) ∧ ¬ (sgk T N k' = 33 ∧ st = 0) ∧ f1 rd h h' := by
  by_cases q : sgk T N k = 33
  · obtain ⟨h1, k1, r1, r2, r3, r4, r5, r6⟩ := C_take_y hC hT hn (w := 33) (by omega) q
    exact ⟨true, h1, k1, 1, by rw [r1, tb_t rfl], r2, by omega, r5, r4 _ _ ss_n, by omega, by omega, r6⟩
  · exact ⟨false, h, k, 0, by rw [C_take_n hC hn (by omega) q, tb_f (by simp)], hn, Nat.le_refl _, rfl, rfl, by omega, by omega, f1_rf _ _⟩
theorem C_b52 (hC : zCx T N rd tp) {rec : Option Nat → Int32 → zH → Nat → Nat → Option ((Nat × Nat) × (Option Nat × zH))} {h : zH} {nx nx1 z1 k : Nat} {n : Bool} {st o ac cl : Int} (hT : TPE T N tp h) (hn : Nm T N rd tp h k) (hrd : rd < nx) (hcell : h nx = cCl (iI 0) (tb (n = true)) (iI 0) none none) (h2 : 0 ≤ st ∧ st < 2) (h33 : ¬ (sgk T N k = 33 ∧ st = 0)) (h40 : ¬ (sgk T N k = 40 ∧ o < 4)) :
    ∃ (v : Int32) (h' : zH) (k' : Nat), f_X4_readClaim_b52 rec (some rd) (some nx) h nx1 z1 = some ((nx1, z1), (some nx, h')) ∧ k ≤ k' ∧ fz rd nx h h' ∧ h' nx = cCl (iI 0) (tb (n = true)) v none none ∧ ((∃ y, vA y ∧ v = bitv y ∧ Nm T N rd tp h' k' ∧ k < k' ∧ rst T N k = prA y ++ rst T N k' ∧ zJ T N (st, o, ac, cl) k = zJ T N (3, o, ac, cl) k') ∨ (Fl N rd tp h' k' ∧ (zJ T N (st, o, ac, cl) k).1 = k')) := by
  obtain ⟨v, h1, k1, r1, r2, r3, r4⟩ := C_sense hC hT hn (ac := ac) (cl := cl) h2 h33 h40
  have hc1 : h1 nx = .inr (1, [tI (iI 0), tI (tb (n = true)), tI (iI 0), tA none, tA none]) := by rw [r3 nx (by omega)]; exact hcell
  refine ⟨v, z_up h1 nx (cCl (iI 0) (tb (n = true)) v none none), k1, ?_, r2, fz_tr (fz_f1 nx r3) (fz_up h1 _ (Nat.le_refl _)) (Nat.le_refl _), z_up_s _ _ _, ?_⟩
  · unfold f_X4_readClaim_b52
    rw [Nm_ck hn, Option.bind_some, r1, z_b2_some, z_pF_k hc1 (Nat.le_of_ble_eq_true rfl), Option.bind_some]
    rfl
  · rcases r4 with ⟨y, y1, y2, y3, y4⟩ | ⟨y1, y2⟩
    · exact Or.inl ⟨y, y1, y2, Nm_up y3 (by omega), y4⟩
    · exact Or.inr ⟨Fl_up y1 (by omega), y2⟩
theorem C_claim0 (hC : zCx T N rd tp) (rec : Option Nat → Int32 → zH → Nat → Nat → Option ((Nat × Nat) × (Option Nat × zH))) : PCl T N rd tp 0 (f_X4_readClaim_r rec) := by
  intro h nx z k o ac cl ho ho0 hT hn hrd htp
  have hT0 : TPE T N tp (z_up h nx (cCl (iI 0) (iI 0) (iI 0) none none)) := TPE_fz hC htp hT (fz_up h _ (Nat.le_refl _))
  obtain ⟨n, h1, k1, st, r1, r2, r3, r4, r5, r6, r7, r8⟩ := C_not hC hT0 (Nm_up (c := cCl (iI 0) (iI 0) (iI 0) none none) hn (show rd ≠ nx by omega)) o ac cl
  have hc1 : h1 nx = .inr (1, [tI (iI 0), tI (iI 0), tI (iI 0), tA none, tA none]) := by rw [r8 nx (by omega), z_up_s]; rfl
  have f01 : fz rd nx h h1 := fz_tr (fz_up h _ (Nat.le_refl _)) (fz_f1 nx r8) (Nat.le_refl _)
  have f02 : fz rd nx h (z_up h1 nx (cCl (iI 0) (tb (n = true)) (iI 0) none none)) := fz_tr f01 (fz_up h1 _ (Nat.le_refl _)) (Nat.le_refl _)
  obtain ⟨v, h3, k3, s1, s2, s3, s4, s5⟩ := C_b52 (rec := rec) (nx1 := nx + 1) (z1 := z + 5) (o := o) (ac := ac) (cl := cl) hC (TPE_fz hC htp hT f02) (Nm_up (c := cCl (iI 0) (tb (n = true)) (iI 0) none none) r2 (show rd ≠ nx by omega)) hrd (z_up_s _ _ _) r6 r7 (by omega)
  refine ⟨nx + 1, z + 5, h3, k3, n, v, none, ?_, by omega, by omega, by omega, by omega, fz_tr f02 s3 (Nat.le_refl _), s4, ?_⟩
  · unfold f_X4_readClaim_r f_X4_readClaim_b3 f_X1_init
    show ((f_X4_readClaim_b3 rec (some rd) (iI o) (some nx) (z_up h nx (cCl (iI 0) (iI 0) (iI 0) none none)) (nx + 1) (z + 5))) = _
    unfold f_X4_readClaim_b3 f_X1_init
    simp only [iI_lit, iI_add, iI_sub, iI_mul, iI_neg]
    rw [Option.bind_some, Option.bind_some, Option.bind_some, z_ck_k (h := z_up h nx (cCl (iI 0) (iI 0) (iI 0) none none)) (by rw [z_up_n _ _ (show rd ≠ nx by omega)]; exact hn.1), Option.bind_some, r1, z_b2_some]
    unfold z_pZ
    rw [if_pos (tb_01 _), z_pF_k hc1 (Nat.le_of_ble_eq_true rfl), Option.bind_some, if_pos (cLe (by omega))]
    exact s1
  · rcases s5 with ⟨y, y1, y2, y3, y4, y5, y6⟩ | ⟨y1, y2⟩
    · refine Or.inl ⟨.inl y, y1, ⟨rfl, y2⟩, y3, by omega, ?_, ?_⟩
      · rw [r4, y5]; rfl
      · rw [r5, y6]; exact zJ_3 (N - k3) k3 (by have := y3.2.1; omega)
    · exact Or.inr ⟨y1, by rw [r5]; exact y2⟩
end RCl
