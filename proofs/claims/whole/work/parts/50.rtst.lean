section RT3
variable {T : Nat → Int} {N rd tp : Nat}
theorem C_claimS (hC : zCx T N rd tp) {d : Nat} {rec : Option Nat → Int32 → zH → Nat → Nat → Option ((Nat × Nat) × (Option Nat × zH))} (hrec : PTe T N rd tp d rec) : PCl T N rd tp (d + 1) (f_X4_readClaim_r rec) := by
  intro h nx z k o ac cl ho ho0 hT hn hrd htp
  have hT0 : TPE T N tp (z_up h nx (cCl (iI 0) (iI 0) (iI 0) none none)) := TPE_fz hC htp hT (fz_up h _ (Nat.le_refl _))
  obtain ⟨n, h1, k1, st, r1, r2, r3, r4, r5, r6, r7, r8⟩ := C_not hC hT0 (Nm_up (c := cCl (iI 0) (iI 0) (iI 0) none none) hn (show rd ≠ nx by omega)) o ac cl
  have hc1 : h1 nx = .inr (1, [tI (iI 0), tI (iI 0), tI (iI 0), tA none, tA none]) := by rw [r8 nx (by omega), z_up_s]; rfl
  have f01 : fz rd nx h h1 := fz_tr (fz_up h _ (Nat.le_refl _)) (fz_f1 nx r8) (Nat.le_refl _)
  have f02 : fz rd nx h (z_up h1 nx (cCl (iI 0) (tb (n = true)) (iI 0) none none)) := fz_tr f01 (fz_up h1 _ (Nat.le_refl _)) (Nat.le_refl _)
  have n2 : Nm T N rd tp (z_up h1 nx (cCl (iI 0) (tb (n = true)) (iI 0) none none)) k1 := Nm_up r2 (show rd ≠ nx by omega)
  have t2 := TPE_fz hC htp hT f02
  have pre : f_X4_readClaim_r rec (some rd) (iI o) h nx z = (if iI 4 ≤ iI o then f_X4_readClaim_b52 rec (some rd) (some nx) (z_up h1 nx (cCl (iI 0) (tb (n = true)) (iI 0) none none)) (nx + 1) (z + 5) else (z_ck (z_up h1 nx (cCl (iI 0) (tb (n = true)) (iI 0) none none)) 4 (some rd)).bind fun _ => z_b2 (f_X4_takes (some rd) (iI 40) (z_up h1 nx (cCl (iI 0) (tb (n = true)) (iI 0) none none))) fun v9 h8 => if v9 = iI 0 then f_X4_readClaim_b52 rec (some rd) (some nx) h8 (nx + 1) (z + 5) else (z_ck h8 4 (some rd)).bind fun _ => (rec (some rd) (iI (o + 1)) h8 (nx + 1) (z + 5)).bind fun n13 => f_X4_readClaim_b40 rec (some rd) (some nx) (some nx) n13.2.1 n13.2.2 n13.1.1 n13.1.2) := by
    unfold f_X4_readClaim_r
    show ((f_X4_readClaim_b3 rec (some rd) (iI o) (some nx) (z_up h nx (cCl (iI 0) (iI 0) (iI 0) none none)) (nx + 1) (z + 5))) = _
    unfold f_X4_readClaim_b3 f_X1_init
    simp only [iI_lit, iI_add, iI_sub, iI_mul, iI_neg]
    rw [Option.bind_some, Option.bind_some, Option.bind_some, z_ck_k (h := z_up h nx (cCl (iI 0) (iI 0) (iI 0) none none)) (by rw [z_up_n _ _ (show rd ≠ nx by omega)]; exact hn.1), Option.bind_some, r1, z_b2_some]
    unfold z_pZ
    rw [if_pos (tb_01 _), z_pF_k hc1 (Nat.le_of_ble_eq_true rfl), Option.bind_some]
    rfl
  rw [pre, if_neg (nLe (by omega)), Nm_ck n2, Option.bind_some]
  by_cases q : sgk T N k1 = 40
  · obtain ⟨h3, k3, s1, s2, s3, s4, s5, s6⟩ := C_take_y hC t2 n2 (w := 40) (by omega) q
    have f03 : fz rd nx h h3 := fz_tr f02 (fz_f1 nx s6) (Nat.le_refl _)
    have f13 : fz rd (nx + 1) h3 h3 := fz_rf _ _ _
    obtain ⟨t, nx4, z4, h4, k4, u1, u2, u3, u4, u5, u6, u7⟩ := hrec h3 (nx + 1) (z + 5) k3 (o + 1) ac cl (by omega) (by omega) (TPE_fz hC htp hT f03) s2 (by omega) (by omega)
    have hc3 : h3 nx = cCl (iI 0) (tb (n = true)) (iI 0) none none := by rw [s6 nx (by omega), z_up_s]
    have hc4 : h4 nx = .inr (1, [tI (iI 0), tI (tb (n = true)), tI (iI 0), tA none, tA none]) := by rw [u6 nx (by omega) (by omega), hc3]; rfl
    have f04 : fz rd nx h (z_up h4 nx (cCl (iI 0) (tb (n = true)) (iI 0) t none)) := fz_tr (fz_tr f03 u6 (by omega)) (fz_up h4 _ (Nat.le_refl _)) (Nat.le_refl _)
    have go : ∀ h5, f_X4_need (some rd) (iI 41) (z_up h4 nx (cCl (iI 0) (tb (n = true)) (iI 0) t none)) = some h5 → z_ck (z_up h4 nx (cCl (iI 0) (tb (n = true)) (iI 0) t none)) 4 (some rd) = some rd → (z_b2 (f_X4_takes (some rd) (iI 40) (z_up h1 nx (cCl (iI 0) (tb (n = true)) (iI 0) none none))) fun v9 h8 => if v9 = iI 0 then f_X4_readClaim_b52 rec (some rd) (some nx) h8 (nx + 1) (z + 5) else (z_ck h8 4 (some rd)).bind fun _ => (rec (some rd) (iI (o + 1)) h8 (nx + 1) (z + 5)).bind fun n13 => f_X4_readClaim_b40 rec (some rd) (some nx) (some nx) n13.2.1 n13.2.2 n13.1.1 n13.1.2) = some ((nx4, z4), (some nx, h5)) := by
      intro h5 e1 e2
      rw [s1, z_b2_some, if_neg iI_01, Nm_ck s2, Option.bind_some, u1, Option.bind_some]
      unfold f_X4_readClaim_b40
      simp only [iI_lit, iI_add, iI_sub, iI_mul, iI_neg]
      rw [z_pF_k hc4 (Nat.le_of_ble_eq_true rfl), Option.bind_some]
      show ((z_ck (z_up h4 nx (cCl (iI 0) (tb (n = true)) (iI 0) t none)) 4 (some rd)).bind fun _ => (f_X4_need (some rd) (iI 41) (z_up h4 nx (cCl (iI 0) (tb (n = true)) (iI 0) t none))).bind fun h3 => some ((nx4, z4), (some nx, h3))) = _
      rw [e2, Option.bind_some, e1, Option.bind_some]
    have j3 : zJ T N (0, o, ac, cl) k = zJ T N (0, o + 1, ac, cl) k3 := by rw [r5]; exact s4 _ _ (ss_o r6.2 (by omega))
    rcases u7 with ⟨l, w1, w2, w3, w4, w5, w6, w7⟩ | ⟨w1, w2⟩
    · have n5 : Nm T N rd tp (z_up h4 nx (cCl (iI 0) (tb (n = true)) (iI 0) t none)) k4 := Nm_up w3 (show rd ≠ nx by omega)
      by_cases q2 : sgk T N k4 = 41
      · obtain ⟨h5, k5, x1, x2, x3, x4, x5, x6⟩ := C_need_y hC (TPE_fz hC htp hT f04) n5 (w := 41) (by omega) q2
        refine ⟨nx4, z4, h5, k5, n, iI 0, t, go h5 x1 (Nm_ck n5), by omega, by omega, by omega, by omega, fz_tr f04 (fz_f1 nx x6) (Nat.le_refl _), by rw [x6 nx (by omega), z_up_s], Or.inl ⟨.inr l, w1, ?_, x2, by omega, ?_, ?_⟩⟩
        · exact CHs_mono (fun a ha => ⟨ha, by have : rg (nx + 1) nx4 a := ha; unfold rg at this; rw [x6 a (by omega), z_up_n _ _ (by omega)]⟩) (CX_mono (fun a ha => ⟨ha, by have : rg (nx + 1) nx4 a := ha; unfold rg at this; rw [x6 a (by omega), z_up_n _ _ (by omega)]⟩) d) l t w2
        · rw [r4, s5, w5, x5]
          show _ = prN n ++ (([40] ++ (prT (prX d) l ++ [41])) ++ rst T N k5)
          simp
        · rw [j3, w6, x4 _ _ (ss_shut (by omega)), show o + 1 - 1 = o by omega]
      · obtain ⟨h5, x1, x2, x3⟩ := C_need_n hC n5 (w := 41) (by omega) q2
        refine ⟨nx4, z4, h5, k4, n, iI 0, t, go h5 x1 (Nm_ck n5), by omega, by omega, by omega, by omega, fz_tr f04 (fz_f1 nx x3) (Nat.le_refl _), by rw [x3 nx (by omega), z_up_s], Or.inr ⟨x2, ?_⟩⟩
        rw [j3, w6]
        refine zJ_no w3.2.1 (by simp) (fun hk => ?_)
        have e : sgk T N k4 = T k4 := by unfold sgk; rw [if_pos hk]
        rw [e] at w7 q2
        exact ss_b3 (w3.2.2 hk) w7 (fun e => q2 e.1) (by omega)
    · have n5 : Fl N rd tp (z_up h4 nx (cCl (iI 0) (tb (n = true)) (iI 0) t none)) k4 := Fl_up w1 (show rd ≠ nx by omega)
      obtain ⟨h5, x1, x2, x3⟩ := C_need_f hC n5 (w := 41) (by omega)
      exact ⟨nx4, z4, h5, k4, n, iI 0, t, go h5 x1 (Fl_ck n5), by omega, by omega, by omega, by omega, fz_tr f04 (fz_f1 nx x3) (Nat.le_refl _), by rw [x3 nx (by omega), z_up_s], Or.inr ⟨x2, by rw [j3]; exact w2⟩⟩
  · rw [C_take_n hC n2 (by omega) q, z_b2_some, if_pos rfl]
    obtain ⟨v, h3, k3, s1, s2, s3, s4, s5⟩ := C_b52 (rec := rec) (nx1 := nx + 1) (z1 := z + 5) (o := o) (ac := ac) (cl := cl) hC t2 n2 hrd (z_up_s _ _ _) r6 r7 (by omega)
    refine ⟨nx + 1, z + 5, h3, k3, n, v, none, s1, by omega, by omega, by omega, by omega, fz_tr f02 s3 (Nat.le_refl _), s4, ?_⟩
    rcases s5 with ⟨y, y1, y2, y3, y4, y5, y6⟩ | ⟨y1, y2⟩
    · refine Or.inl ⟨.inl y, y1, ⟨rfl, y2⟩, y3, by omega, ?_, ?_⟩
      · rw [r4, y5]; rfl
      · rw [r5, y6]; exact zJ_3 (N - k3) k3 (by have := y3.2.1; omega)
    · exact Or.inr ⟨y1, by rw [r5]; exact y2⟩
/-! chains that are still open -/
def SEG (D : Nat → Prop) (h : zH) {β : Type} (cx : Option Nat → Int32 → β → Prop) : Option Nat → Nat → List (Bool × Bool × β) → Prop
  | t, kl, [] => t = some kl
  | t, kl, i :: l => ∃ (k : Nat) (bit : Int32) (ins nx : Option Nat), t = some k ∧ D k ∧ h k = .inr (1, [tI (tb (i.1 = true)), tI (tb (i.2.1 = true)), tI bit, tA ins, tA nx]) ∧ cx ins bit i.2.2 ∧ SEG D h cx nx kl l
theorem SEG_mono {D D' : Nat → Prop} {h h' : zH} (hm : ∀ a, D a → D' a ∧ h' a = h a) {β : Type} {cx cx' : Option Nat → Int32 → β → Prop} (hx : ∀ i b x, cx i b x → cx' i b x) : ∀ (l : List (Bool × Bool × β)) (t : Option Nat) (kl : Nat), SEG D h cx t kl l → SEG D' h' cx' t kl l
  | [], t, kl, hc => hc
  | i :: l, t, kl, hc => by
    obtain ⟨k, bit, ins, nx, h1, h2, h3, h4, h5⟩ := hc
    exact ⟨k, bit, ins, nx, h1, (hm k h2).1, by rw [(hm k h2).2]; exact h3, hx _ _ _ h4, SEG_mono hm hx l nx kl h5⟩
theorem SEG_snoc {D : Nat → Prop} {h : zH} {β : Type} {cx : Option Nat → Int32 → β → Prop} {kl k2 : Nat} {o n : Bool} {x : β} {bit : Int32} {ins : Option Nat} (hd : D kl) (hc : h kl = .inr (1, [tI (tb (o = true)), tI (tb (n = true)), tI bit, tA ins, tA (some k2)])) (hx : cx ins bit x) : ∀ (l : List (Bool × Bool × β)) (t : Option Nat), SEG D h cx t kl l → SEG D h cx t k2 (l ++ [(o, n, x)])
  | [], t, hs => ⟨kl, bit, ins, some k2, hs, hd, hc, hx, rfl⟩
  | i :: l, t, hs => by
    obtain ⟨k, b1, i1, nx, h1, h2, h3, h4, h5⟩ := hs
    exact ⟨k, b1, i1, nx, h1, h2, h3, h4, SEG_snoc hd hc hx l nx h5⟩
theorem SEG_end {D : Nat → Prop} {h : zH} {β : Type} {cx : Option Nat → Int32 → β → Prop} {kl : Nat} {o n : Bool} {x : β} {bit : Int32} {ins : Option Nat} (hd : D kl) (hc : h kl = .inr (1, [tI (tb (o = true)), tI (tb (n = true)), tI bit, tA ins, tA none])) (hx : cx ins bit x) : ∀ (l : List (Bool × Bool × β)) (t : Option Nat), SEG D h cx t kl l → CHs D h cx t (l ++ [(o, n, x)])
  | [], t, hs => ⟨kl, bit, ins, none, hs, hd, hc, hx, rfl⟩
  | i :: l, t, hs => by
    obtain ⟨k, b1, i1, nx, h1, h2, h3, h4, h5⟩ := hs
    exact ⟨k, b1, i1, nx, h1, h2, h3, h4, SEG_end hd hc hx l nx h5⟩
theorem prR_app {β : Type} (f : β → List Int) : ∀ (l1 l2 : List (Bool × Bool × β)), prR f (l1 ++ l2) = prR f l1 ++ prR f l2
  | [], l2 => rfl
  | i :: l1, l2 => by simp only [List.cons_append, prR, prR_app f l1 l2, List.append_assoc]
theorem prT_snoc {β : Type} (f : β → List Int) {l : List (Bool × Bool × β)} (hl : l ≠ []) (j : Bool × Bool × β) : prT f (l ++ [j]) = prT f l ++ (prS j.1 ++ (prN j.2.1 ++ f j.2.2)) := by
  match l, hl with
  | i :: l, _ =>
    simp only [List.cons_append, prT, prR_app, prR, List.append_assoc, List.append_nil]
theorem vT_snoc {β : Type} {v : β → Prop} {l : List (Bool × Bool × β)} (hl : vT v l) {j : Bool × Bool × β} (hj : v j.2.2) : vT v (l ++ [j]) := by
  match l, hl with
  | i :: l, hl =>
    refine ⟨hl.1, hl.2.1, fun y hy => ?_⟩
    rcases List.mem_append.mp hy with q | q
    · exact hl.2.2 y q
    · rw [List.mem_singleton] at q; subst q; exact hj
end RT3
