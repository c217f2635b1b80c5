section RT4
variable {T : Nat → Int} {N rd tp : Nat}
abbrev zRec : Type := Option Nat → Int32 → zH → Nat → Nat → Option ((Nat × Nat) × (Option Nat × zH))
/-- the loop: how it stands -/
def TeI (T : Nat → Int) (N rd tp d : Nat) (nx0 z0 k0 : Nat) (h0 : zH) (o ac cl : Int) (t : Option Nat) (kl nx z k : Nat) (h : zH) : Prop :=
  ∃ (l : List (Bool × Bool × ((Int × Int) ⊕ zE d))) (ob n : Bool) (x : (Int × Int) ⊕ zE d) (bit : Int32) (ins : Option Nat),
    SEG (rg nx0 kl) h (CX (rg nx0 kl) h d) t kl l ∧ (nx0 ≤ kl ∧ kl < nx) ∧ h kl = cCl (tb (ob = true)) (tb (n = true)) bit ins none ∧ CX (rg (kl + 1) nx) h d ins bit x ∧ vT (vX d) (l ++ [(ob, n, x)]) ∧
    Nm T N rd tp h k ∧ k0 < k ∧ rst T N k0 = prT (prX d) (l ++ [(ob, n, x)]) ++ rst T N k ∧ zJ T N (0, o, ac, cl) k0 = zJ T N (3, o, 0, cl) k ∧ nx ≤ nx0 + 1 + (k - k0) ∧ (z0 ≤ z ∧ z ≤ z0 + 5 * (1 + (k - k0))) ∧ fz rd nx0 h0 h
/-- how the loop ends -/
def TeO (T : Nat → Int) (N rd tp d : Nat) (nx0 z0 k0 : Nat) (h0 : zH) (o ac cl : Int) (r : (Nat × Nat) × (Option Nat × zH)) : Prop :=
  ∃ (t : Option Nat) (nx' z' : Nat) (h' : zH) (k' : Nat), r = ((nx', z'), (t, h')) ∧ k0 ≤ k' ∧ nx0 ≤ nx' ∧ nx' ≤ nx0 + 1 + (k' - k0) ∧ (z0 ≤ z' ∧ z' ≤ z0 + 5 * (1 + (k' - k0))) ∧ fz rd nx0 h0 h' ∧
  ((∃ l, vT (vX d) l ∧ CHs (rg nx0 nx') h' (CX (rg nx0 nx') h' d) t l ∧ Nm T N rd tp h' k' ∧ k0 < k' ∧ rst T N k0 = prT (prX d) l ++ rst T N k' ∧ zJ T N (0, o, ac, cl) k0 = zJ T N (3, o, 0, cl) k' ∧ ¬ (sgk T N k' = 38 ∨ sgk T N k' = 124)) ∨ (Fl N rd tp h' k' ∧ (zJ T N (0, o, ac, cl) k0).1 = k'))
theorem C_c11f {rec : zRec} (hC : zCx T N rd tp) {h : zH} {f : Nat} (hf : Fl N rd tp h f) (x1 : Int32) (t l : Option Nat) {i : Int} (hi : 0 ≤ i ∧ i ≤ 1000) (nx z : Nat) : f_X4_readTest_c11 rec (some rd) x1 t l (iI i) h nx z = some ((nx, z), .inr (t, h)) := by
  unfold f_X4_readTest_c11
  simp only [iI_lit, iI_add, iI_sub, iI_mul, iI_neg]
  rw [iteLe (by omega)]
  split
  · rfl
  · rw [Fl_ck hf, Option.bind_some, C_take_f hf (by omega), z_b2_some, if_pos rfl, Fl_ck hf, Option.bind_some, C_take_f hf (by omega), z_b2_some, if_pos rfl]
    rfl
theorem C_b48 {rec : zRec} {h : zH} {kl nx : Nat} {o n o2 n2 : Int32} {bit bit2 : Int32} {ins ins2 : Option Nat} (hne : kl ≠ nx) (h1 : h kl = cCl o n bit ins none) (h2 : h nx = cCl o2 n2 bit2 ins2 none) (x1 : Int32) (t : Option Nat) (i : Int) {w : Int32} (hw : w = 0 ∨ w = 1) (nx' z' : Nat) :
    f_X4_readTest_b48 rec (some rd) x1 t (some kl) (iI i) w (some kl) (some nx) h nx' z' = some ((nx', z'), .inl (some rd, x1, t, some nx, iI (i + 1), z_up (z_up h kl (cCl o n bit ins (some nx))) nx (cCl w n2 bit2 ins2 none))) := by
  have h1' : h kl = .inr (1, [tI o, tI n, tI bit, tA ins, tA none]) := h1
  have h3 : (z_up h kl (cCl o n bit ins (some nx))) kl = .inr (1, [tI o, tI n, tI bit, tA ins, tA (some nx)]) := z_up_s _ _ _
  have h4 : (z_up h kl (cCl o n bit ins (some nx))) nx = .inr (1, [tI o2, tI n2, tI bit2, tA ins2, tA none]) := by rw [z_up_n _ _ (Ne.symm hne)]; exact h2
  have w1 : z_pF h 1 4 (some kl) (tA (some nx)) = some (z_up h kl (cCl o n bit ins (some nx))) := z_pF_k h1' (Nat.le_of_ble_eq_true rfl)
  unfold f_X4_readTest_b48 z_pZ
  rw [w1, Option.bind_some, z_gA_k h3 rfl, Option.bind_some, if_pos hw, z_pF_k h4 (Nat.le_of_ble_eq_true rfl), Option.bind_some, iI_lit, iI_add]
  rfl
theorem C_teL (hC : zCx T N rd tp) {d : Nat} {rec : zRec} (hrec : PCl T N rd tp d rec) {nx0 z0 k0 : Nat} {h0 : zH} {o ac cl : Int} (ho : o + d = 4) (ho0 : 0 ≤ o) (hT : TPE T N tp h0) (hrd : rd < nx0) (htp : tp < nx0) (t : Option Nat) : ∀ (m i kl nx z k : Nat) (h : zH), N - k ≤ m → i < k → TeI T N rd tp d nx0 z0 k0 h0 o ac cl t kl nx z k h →
    ∃ r, f_X4_readTest_b11 rec (some rd) (iI o) t (some kl) (iI (i : Int)) h nx z = some r ∧ TeO T N rd tp d nx0 z0 k0 h0 o ac cl r := by
  intro m
  induction m with
  | zero =>
    rintro i kl nx z k h hm hi ⟨l, ob, n, x, bit, ins, s1, s2, s3, s4, s5, s6, s7, s8, s9, s10, s11, s12⟩
    have hN := hC.1
    have hk := s6.2.1
    have hkN : k = N := by omega
    have sg : sgk T N k = -1 := by unfold sgk; rw [if_neg (by omega)]
    refine ⟨((nx, z), (t, h)), ?_, t, nx, z, h, k, rfl, by omega, by omega, s10, s11, s12, Or.inl ⟨l ++ [(ob, n, x)], s5, ?_, s6, s7, s8, s9, by omega⟩⟩
    · unfold f_X4_readTest_b11
      refine z_it_done ?_
      show (f_X4_readTest_c11 rec (some rd) (iI o) t (some kl) (iI (i : Int)) h nx z).map z_ds = _
      unfold f_X4_readTest_c11
      simp only [iI_lit, iI_add, iI_sub, iI_mul, iI_neg]
      rw [iteLe (by omega)]
      split
      · rfl
      · rw [Nm_ck s6, Option.bind_some, C_take_n hC s6 (by omega) (by omega), z_b2_some, if_pos rfl, Nm_ck s6, Option.bind_some, C_take_n hC s6 (by omega) (by omega), z_b2_some, if_pos rfl]
        rfl
    · refine SEG_end (D := rg nx0 nx) ⟨s2.1, s2.2⟩ s3 ?_ l t ?_
      · exact CX_mono (fun a ha => ⟨by unfold rg at ha ⊢; omega, rfl⟩) d _ _ _ s4
      · exact SEG_mono (fun a ha => ⟨by unfold rg at ha ⊢; omega, rfl⟩) (fun i b x q => CX_mono (fun a ha => ⟨by unfold rg at ha ⊢; omega, rfl⟩) d _ _ _ q) l t kl s1
  | succ m ih =>
    rintro i kl nx z k h hm hi ⟨l, ob, n, x, bit, ins, s1, s2, s3, s4, s5, s6, s7, s8, s9, s10, s11, s12⟩
    have hN := hC.1
    have hk := s6.2.1
    have hTh := TPE_fz hC htp hT s12
    -- one more claim
    have more : ∀ (or : Bool) (h2 : zH) (k2 : Nat) (w : Int32), w = tb (or = true) → f1 rd h h2 → Nm T N rd tp h2 k2 → k < k2 → rst T N k = prS or ++ rst T N k2 → zJ T N (3, o, 0, cl) k = zJ T N (0, o, 0, cl) k2 → f_X4_readTest_c11 rec (some rd) (iI o) t (some kl) (iI (i : Int)) h nx z = f_X4_readTest_b42 rec (some rd) (iI o) t (some kl) (iI (i : Int)) w h2 nx z → ∃ r, f_X4_readTest_b11 rec (some rd) (iI o) t (some kl) (iI (i : Int)) h nx z = some r ∧ TeO T N rd tp d nx0 z0 k0 h0 o ac cl r := by
      intro or h2 k2 w hw g1 g2 g3 g4 g5 g6
      have f2 : fz rd nx0 h0 h2 := fz_tr s12 (fz_f1 nx0 g1) (Nat.le_refl _)
      obtain ⟨nx3, z3, h3, k3, n3, bit3, ins3, u1, u2, u3, u4, u5, u6, u7, u8⟩ := hrec h2 nx z k2 o 0 cl ho ho0 (TPE_fz hC htp hT f2) g2 (by omega) (by omega)
      have hkl3 : h3 kl = cCl (tb (ob = true)) (tb (n = true)) bit ins none := by rw [u6 kl (by omega) (by omega), g1 kl (by omega)]; exact s3
      have b48 := C_b48 (rec := rec) (rd := rd) (by omega) hkl3 u7 (iI o) t (i : Int) (w := w) (by rw [hw]; exact tb_01 _) nx3 z3
      have ne1 : rd ≠ kl := by omega
      have ne2 : rd ≠ nx := by omega
      have hh5 : ∀ a, a ≠ kl → a ≠ nx → (z_up (z_up h3 kl (cCl (tb (ob = true)) (tb (n = true)) bit ins (some nx))) nx (cCl w (tb (n3 = true)) bit3 ins3 none)) a = h3 a := fun a q1 q2 => by rw [z_up_n _ _ q2, z_up_n _ _ q1]
      have f5 : fz rd nx0 h0 (z_up (z_up h3 kl (cCl (tb (ob = true)) (tb (n = true)) bit ins (some nx))) nx (cCl w (tb (n3 = true)) bit3 ins3 none)) := fun a q1 q2 => by rw [hh5 a (by omega) (by omega), u6 a (by omega) q2]; exact f2 a q1 q2
      have step : (f_X4_readTest_c11 rec (some rd) (iI o) t (some kl) (iI (i : Int)) h nx z).map z_ds = some (.inl ((nx3, z3), (some rd, iI o, t, some nx, iI ((i : Int) + 1), z_up (z_up h3 kl (cCl (tb (ob = true)) (tb (n = true)) bit ins (some nx))) nx (cCl w (tb (n3 = true)) bit3 ins3 none)))) := by
        rw [g6]
        unfold f_X4_readTest_b42
        rw [Nm_ck g2, Option.bind_some, u1, Option.bind_some]
        show (f_X4_readTest_b48 rec (some rd) (iI o) t (some kl) (iI (i : Int)) w (some kl) (some nx) h3 nx3 z3).map z_ds = _
        rw [b48]; rfl
      have nxt : f_X4_readTest_b11 rec (some rd) (iI o) t (some kl) (iI (i : Int)) h nx z = f_X4_readTest_b11 rec (some rd) (iI o) t (some nx) (iI ((i : Int) + 1)) (z_up (z_up h3 kl (cCl (tb (ob = true)) (tb (n = true)) bit ins (some nx))) nx (cCl w (tb (n3 = true)) bit3 ins3 none)) nx3 z3 := by
        unfold f_X4_readTest_b11
        exact z_it_next (s := ((nx, z), (some rd, iI o, t, some kl, iI (i : Int), h))) step
      rw [nxt]
      rcases u8 with ⟨y, y1, y2, y3, y4, y5, y6⟩ | ⟨y1, y2⟩
      · have e : iI ((i : Int) + 1) = iI ((i + 1 : Nat) : Int) := rfl
        rw [e]
        refine ih (i + 1) nx nx3 z3 k3 _ (by omega) (by omega) ⟨l ++ [(ob, n, x)], or, n3, y, bit3, ins3, ?_, by omega, by rw [z_up_s, hw], ?_, vT_snoc s5 y1, Nm_up (Nm_up y3 ne1) ne2, by omega, ?_, ?_, by omega, by omega, f5⟩
        · refine SEG_snoc (D := rg nx0 nx) (kl := kl) (k2 := nx) ⟨s2.1, s2.2⟩ (o := ob) (n := n) (x := x) (bit := bit) (ins := ins) ?_ ?_ l t ?_
          · rw [z_up_n _ _ (by omega), z_up_s]; rfl
          · exact CX_mono (fun a ha => ⟨by unfold rg at ha ⊢; omega, by unfold rg at ha; rw [hh5 a (by omega) (by omega), u6 a (by omega) (by omega), g1 a (by omega)]⟩) d _ _ _ s4
          · exact SEG_mono (fun a ha => ⟨by unfold rg at ha ⊢; omega, by unfold rg at ha; rw [hh5 a (by omega) (by omega), u6 a (by omega) (by omega), g1 a (by omega)]⟩) (fun i b x q => CX_mono (fun a ha => ⟨by unfold rg at ha ⊢; omega, by unfold rg at ha; rw [hh5 a (by omega) (by omega), u6 a (by omega) (by omega), g1 a (by omega)]⟩) d _ _ _ q) l t kl s1
        · exact CX_mono (fun a ha => ⟨ha, by unfold rg at ha; rw [hh5 a (by omega) (by omega)]⟩) d _ _ _ y2
        · rw [s8, g4, y5, prT_snoc (prX d) (by simp) (or, n3, y)]
          simp only [List.append_assoc]
        · rw [s9, g5, y6]
      · refine ⟨((nx3, z3), (t, _)), ?_, t, nx3, z3, _, k3, rfl, by omega, by omega, by omega, by omega, f5, Or.inr ⟨Fl_up (Fl_up y1 ne1) ne2, ?_⟩⟩
        · unfold f_X4_readTest_b11
          refine z_it_done ?_
          show (f_X4_readTest_c11 rec (some rd) (iI o) t (some nx) (iI ((i : Int) + 1)) _ nx3 z3).map z_ds = _
          rw [C_c11f hC (Fl_up (Fl_up y1 ne1) ne2) _ _ _ (by omega) _ _]
          rfl
        · rw [s9, g5]; exact y2
    by_cases q1 : sgk T N k = 124
    · obtain ⟨h2, k2, r1, r2, r3, r4, r5, r6⟩ := C_take_y hC hTh s6 (w := 124) (by omega) q1
      refine more true h2 k2 (iI 1) (tb_t rfl).symm r6 r2 r3 r5 (r4 _ _ (ss_and (Or.inr rfl))) ?_
      unfold f_X4_readTest_c11
      simp only [iI_lit, iI_add, iI_sub, iI_mul, iI_neg]
      rw [if_neg (nLe (by omega)), Nm_ck s6, Option.bind_some, r1, z_b2_some, if_neg iI_01]
    · by_cases q2 : sgk T N k = 38
      · obtain ⟨h2, k2, r1, r2, r3, r4, r5, r6⟩ := C_take_y hC hTh s6 (w := 38) (by omega) q2
        refine more false h2 k2 (iI 0) (tb_f (by simp)).symm r6 r2 r3 r5 (r4 _ _ (ss_and (Or.inl rfl))) ?_
        unfold f_X4_readTest_c11
        simp only [iI_lit, iI_add, iI_sub, iI_mul, iI_neg]
        rw [if_neg (nLe (by omega)), Nm_ck s6, Option.bind_some, C_take_n hC s6 (by omega) q1, z_b2_some, if_pos rfl, Nm_ck s6, Option.bind_some, r1, z_b2_some, if_neg iI_01]
      · refine ⟨((nx, z), (t, h)), ?_, t, nx, z, h, k, rfl, by omega, by omega, s10, s11, s12, Or.inl ⟨l ++ [(ob, n, x)], s5, ?_, s6, s7, s8, s9, by omega⟩⟩
        · unfold f_X4_readTest_b11
          refine z_it_done ?_
          show (f_X4_readTest_c11 rec (some rd) (iI o) t (some kl) (iI (i : Int)) h nx z).map z_ds = _
          unfold f_X4_readTest_c11
          simp only [iI_lit, iI_add, iI_sub, iI_mul, iI_neg]
          rw [iteLe (by omega)]
          split
          · rfl
          · rw [Nm_ck s6, Option.bind_some, C_take_n hC s6 (by omega) q1, z_b2_some, if_pos rfl, Nm_ck s6, Option.bind_some, C_take_n hC s6 (by omega) q2, z_b2_some, if_pos rfl]
            rfl
        · refine SEG_end (D := rg nx0 nx) ⟨s2.1, s2.2⟩ s3 ?_ l t ?_
          · exact CX_mono (fun a ha => ⟨by unfold rg at ha ⊢; omega, rfl⟩) d _ _ _ s4
          · exact SEG_mono (fun a ha => ⟨by unfold rg at ha ⊢; omega, rfl⟩) (fun i b x q => CX_mono (fun a ha => ⟨by unfold rg at ha ⊢; omega, rfl⟩) d _ _ _ q) l t kl s1
theorem C_testR (hC : zCx T N rd tp) {d : Nat} {rec : zRec} (hrec : PCl T N rd tp d rec) : PTe T N rd tp d (f_X4_readTest_r rec) := by
  intro h nx z k o ac cl ho ho0 hT hn hrd htp
  have hN := hC.1
  obtain ⟨nx1, z1, h1, k1, n, bit, ins, u1, u2, u3, u4, u5, u6, u7, u8⟩ := hrec h nx z k o ac cl ho ho0 hT hn hrd htp
  have pre : f_X4_readTest_r rec (some rd) (iI o) h nx z = f_X4_readTest_b11 rec (some rd) (iI o) (some nx) (some nx) (iI ((0 : Nat) : Int)) h1 nx1 z1 := by
    unfold f_X4_readTest_r
    rw [Nm_ck hn, Option.bind_some, u1, Option.bind_some]
    rfl
  rw [pre]
  have fin : ∀ r, f_X4_readTest_b11 rec (some rd) (iI o) (some nx) (some nx) (iI ((0 : Nat) : Int)) h1 nx1 z1 = some r → TeO T N rd tp d nx z k h o ac cl r → ∃ (t : Option Nat) (nx' z' : Nat) (h' : zH) (k' : Nat), f_X4_readTest_b11 rec (some rd) (iI o) (some nx) (some nx) (iI ((0 : Nat) : Int)) h1 nx1 z1 = some ((nx', z'), (t, h')) ∧ k ≤ k' ∧ nx ≤ nx' ∧ nx' ≤ nx + 1 + (k' - k) ∧ (z ≤ z' ∧ z' ≤ z + 5 * (1 + (k' - k))) ∧ fz rd nx h h' ∧ ((∃ l, vT (vX d) l ∧ CHs (rg nx nx') h' (CX (rg nx nx') h' d) t l ∧ Nm T N rd tp h' k' ∧ k < k' ∧ rst T N k = prT (prX d) l ++ rst T N k' ∧ zJ T N (0, o, ac, cl) k = zJ T N (3, o, 0, cl) k' ∧ ¬ (sgk T N k' = 38 ∨ sgk T N k' = 124)) ∨ (Fl N rd tp h' k' ∧ (zJ T N (0, o, ac, cl) k).1 = k')) := by
    rintro r e ⟨t, nx', z', h', k', rfl, rest⟩
    exact ⟨t, nx', z', h', k', e, rest⟩
  rcases u8 with ⟨x, y1, y2, y3, y4, y5, y6⟩ | ⟨y1, y2⟩
  · obtain ⟨r, r1, r2⟩ := C_teL hC hrec (nx0 := nx) (z0 := z) (k0 := k) (h0 := h) (o := o) (ac := ac) (cl := cl) ho ho0 hT hrd htp (some nx) (N - k1) 0 nx nx1 z1 k1 h1 (Nat.le_refl _) (by omega) ⟨[], false, n, x, bit, ins, rfl, by omega, by rw [u7, tb_f (show ¬ (false = true) by simp)], y2, ⟨rfl, y1, fun j hj => by cases hj⟩, y3, y4, by rw [y5]; simp [prT, prR], y6, u4, u5, u6⟩
    exact fin r r1 r2
  · refine fin ((nx1, z1), (some nx, h1)) ?_ ⟨some nx, nx1, z1, h1, k1, rfl, u2, by omega, u4, u5, u6, Or.inr ⟨y1, y2⟩⟩
    unfold f_X4_readTest_b11
    refine z_it_done ?_
    show (f_X4_readTest_c11 rec (some rd) (iI o) (some nx) (some nx) (iI ((0 : Nat) : Int)) h1 nx1 z1).map z_ds = _
    rw [C_c11f hC y1 _ _ _ (by omega) _ _]
    rfl
theorem C_test (hC : zCx T N rd tp) : ∀ (d n : Nat), d < n → PTe T N rd tp d (f_X4_readTest n)
  | 0, n + 1, _ => C_testR hC (C_claim0 hC _)
  | d + 1, n + 1, hn => C_testR hC (C_claimS hC (C_test hC d n (by omega)))
end RT4
