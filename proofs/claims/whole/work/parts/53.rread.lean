section RX
variable {T : Nat → Int} {N rd tp : Nat}
/-- an act is read, then the loop goes on with its counter -/
noncomputable def aGo (rd ck : Nat) (m : Int) (h : zH) (nx z : Nat) : Option ((Nat × Nat) × (Option Nat × zH)) := (z_ck h 4 (some rd)).bind fun _ => (f_X4_readAct (some rd) (some ck) h).bind fun h5 => f_X4_readClause_b30 (some rd) (some ck) (iI m) h5 nx z
theorem aGo_eq {ck nx z : Nat} {m : Int} {h h5 : zH} (e1 : z_ck h 4 (some rd) = some rd) (e2 : f_X4_readAct (some rd) (some ck) h = some h5) : aGo rd ck m h nx z = f_X4_readClause_b30 (some rd) (some ck) (iI m) h5 nx z := by
  unfold aGo
  rw [e1, Option.bind_some, e2, Option.bind_some]
/-- the loop ends -/
theorem C_acE {ck nx z : Nat} {m c : Int} {h : zH} (hm : 0 ≤ m ∧ m ≤ 4) (hs : z_gI h 4 3 (some rd) = some (iI c)) (hc : -1 ≤ c ∧ c ≤ 126) (hq : m < 4 → ¬ isA c) : f_X4_readClause_b30 (some rd) (some ck) (iI m) h nx z = some ((nx, z), (some ck, h)) := by
  unfold f_X4_readClause_b30
  refine z_it_done (s := ((nx, z), (some rd, some ck, iI m, h))) ?_
  show (f_X4_readClause_c30 (some rd) (some ck) (iI m) h nx z).map z_ds = _
  unfold f_X4_readClause_c30
  simp only [iI_lit, iI_add, iI_sub, iI_mul, iI_neg]
  rw [hs, Option.bind_some, C_isAct hc, z_b2_some, ite_tb, iteLe (by omega)]
  split
  · rfl
  · rw [if_neg (hq (by omega))]; rfl
/-- the loop goes on -/
theorem C_acN {ck nx z : Nat} {m c : Int} {h : zH} {r : (Nat × Nat) × (Option Nat × zH)} (hm : 0 ≤ m ∧ m < 4) (hk : z_ck h 4 (some rd) = some rd) (hs : z_gI h 4 3 (some rd) = some (iI c)) (hc : -1 ≤ c ∧ c ≤ 126) (hq : isA c) (hr : aGo rd ck (m + 1) h nx z = some r) : f_X4_readClause_b30 (some rd) (some ck) (iI m) h nx z = some r := by
  cases e : f_X4_readAct (some rd) (some ck) h with
  | none =>
    unfold aGo at hr
    rw [hk, Option.bind_some, e] at hr
    cases hr
  | some h5 =>
    rw [aGo_eq hk e] at hr
    rw [← hr]
    have step : f_X4_readClause_c30 (some rd) (some ck) (iI m) h nx z = some ((nx, z), .inl (some rd, some ck, iI (m + 1), h5)) := by
      unfold f_X4_readClause_c30
      simp only [iI_lit, iI_add, iI_sub, iI_mul, iI_neg]
      rw [hs, Option.bind_some, C_isAct hc, z_b2_some, ite_tb, if_neg (nLe (by omega)), if_pos hq, hk, Option.bind_some, e, Option.bind_some]
    unfold f_X4_readClause_b30
    refine z_it_next (s := ((nx, z), (some rd, some ck, iI m, h))) (s' := ((nx, z), (some rd, some ck, iI (m + 1), h5))) ?_
    show (f_X4_readClause_c30 (some rd) (some ck) (iI m) h nx z).map z_ds = _
    rw [step]; rfl
/-- the acts of a clause -/
theorem C_acL (hC : zCx T N rd tp) {ck : Nat} (hrd : rd < ck) (htp : tp < ck) {t : Option Nat} {cl : Int} (nx z : Nat) : ∀ (m : Nat) (l : List (Int × Int)) (h : zH) (k : Nat) (st : Int), 4 - l.length ≤ m → TPE T N tp h → Nm T N rd tp h k → KA h ck t l → l.length < 4 → (∀ y, y ∈ l → vAct y) → ((st = 4 ∧ l = []) ∨ (st = 5 ∧ isA (sgk T N k))) →
    ∃ (h' : zH) (k' : Nat), aGo rd ck ((l.length : Int) + 1) h nx z = some ((nx, z), (some ck, h')) ∧ k ≤ k' ∧ f3 rd ck h h' ∧ ((∃ l2 l', l' = l ++ l2 ∧ (1 ≤ l'.length ∧ l'.length ≤ 4) ∧ (∀ y, y ∈ l' → vAct y) ∧ KA h' ck t l' ∧ Nm T N rd tp h' k' ∧ k < k' ∧ rst T N k = prActs l2 ++ rst T N k' ∧ zJ T N (st, 0, (l.length : Int), cl) k = zJ T N (5, 0, (l'.length : Int), cl) k' ∧ (l'.length < 4 → ¬ isA (sgk T N k'))) ∨ (Fl N rd tp h' k' ∧ (zJ T N (st, 0, (l.length : Int), cl) k).1 = k' ∧ ∃ l', KA h' ck t l')) := by
  intro m
  induction m with
  | zero => intro l h k st hm _ _ _ hl; omega
  | succ m ih =>
    intro l h k st hm hT hn hK hl hv hst
    obtain ⟨h1, k1, r1, r2, r3, r4⟩ := C_act hC hT hn hrd htp hK hl (cl := cl) hst
    have go : aGo rd ck ((l.length : Int) + 1) h nx z = f_X4_readClause_b30 (some rd) (some ck) (iI ((l.length : Int) + 1)) h1 nx z := aGo_eq (Nm_ck hn) r1
    rcases r4 with ⟨y, y1, y2, y3, y4, y5, y6⟩ | ⟨y1, y2, l', y3, y4⟩
    · have hl1 : (l ++ [y]).length = l.length + 1 := by simp
      have hv1 : ∀ x, x ∈ l ++ [y] → vAct x := fun x hx => by
        rcases List.mem_append.mp hx with q | q
        · exact hv x q
        · rw [List.mem_singleton] at q; subst q; exact y1
      have rg := sgk_rg hC k1
      have y6' : zJ T N (st, 0, (l.length : Int), cl) k = zJ T N (5, 0, ((l ++ [y]).length : Int), cl) k1 := by rw [y6, hl1]; rfl
      by_cases q : l.length + 1 < 4 ∧ isA (sgk T N k1)
      · obtain ⟨h2, k2, u1, u2, u3, u4⟩ := ih (l ++ [y]) h1 k1 5 (by omega) (TPE_f3 hC htp hT r3) y3 y2 (by omega) hv1 (Or.inr ⟨rfl, q.2⟩)
        have e1 : ((l ++ [y]).length : Int) = (l.length : Int) + 1 := by omega
        rw [e1] at u1
        refine ⟨h2, k2, ?_, by omega, f3_tr r3 u3, ?_⟩
        · rw [go]
          exact C_acN (by omega) (Nm_ck y3) (Nm_sg y3) rg q.2 u1
        · rcases u4 with ⟨l2, l', w1, w2, w3, w4, w5, w6, w7, w8, w9⟩ | ⟨w1, w2, w3⟩
          · refine Or.inl ⟨y :: l2, l', by rw [w1, List.append_assoc]; rfl, w2, w3, w4, w5, by omega, ?_, ?_, w9⟩
            · rw [y5, w7]; simp only [prActs, List.append_assoc]
            · rw [y6']; exact w8
          · exact Or.inr ⟨w1, by rw [y6']; exact w2, w3⟩
      · refine ⟨h1, k1, ?_, r2, r3, Or.inl ⟨[y], l ++ [y], rfl, by omega, hv1, y2, y3, y4, ?_, y6', fun e => fun e2 => q ⟨by omega, e2⟩⟩⟩
        · rw [go]
          exact C_acE (by omega) (Nm_sg y3) rg (fun e e2 => q ⟨by omega, e2⟩)
        · rw [y5]; simp only [prActs, List.append_nil]
    · refine ⟨h1, k1, ?_, r2, r3, Or.inr ⟨y1, y2, l', y4⟩⟩
      rw [go]
      exact C_acE (by omega) (Fl_sg y1) (by omega) (fun _ => by unfold isA; omega)
theorem C_clause (hC : zCx T N rd tp) {h : zH} {nx z k : Nat} (ac cl : Int) (hT : TPE T N tp h) (hn : Nm T N rd tp h k) (hrd : rd < nx) (htp : tp < nx) :
    ∃ (nx' z' : Nat) (h' : zH) (k' : Nat), f_X4_readClause (some rd) h nx z = some ((nx', z'), (some nx, h')) ∧ k ≤ k' ∧ nx + 3 ≤ nx' ∧ nx' ≤ nx + 4 + (k' - k) ∧ (z ≤ z' ∧ z' ≤ z + 17 + 5 * (k' - k)) ∧ fz rd nx h h' ∧ (∃ fs, h' nx = .inr (2, fs)) ∧
    ((∃ c, vK c ∧ KL (rg nx nx') h' nx c ∧ Nm T N rd tp h' k' ∧ k < k' ∧ rst T N k = prK c ++ rst T N k' ∧ ∃ ac' : Int, (1 ≤ ac' ∧ ac' ≤ 4) ∧ zJ T N (0, 0, ac, cl) k = zJ T N (5, 0, ac', cl) k' ∧ (ac' < 4 → ¬ isA (sgk T N k'))) ∨ (Fl N rd tp h' k' ∧ (zJ T N (0, 0, ac, cl) k).1 = k')) := by
  -- the clause's cells
  have hi : ∃ h1, f_X4_readClause (some rd) h nx z = f_X4_readClause_b7 (some rd) (some nx) h1 (nx + 3) (z + 12) ∧ KA h1 nx none [] ∧ fz rd nx h h1 ∧ h1 rd = h rd := by
    refine ⟨z_up (z_up (z_up (z_up (z_up h nx (.inr (2, [tA none, tA none, tA none, tI 0]))) (nx + 1) (.inl (0, 4, .inl (fun _ => 0)))) nx (.inr (2, [tA none, tA (some (nx + 1)), tA none, tI 0]))) (nx + 2) (.inl (0, 4, .inl (fun _ => 0)))) nx (cKl none (nx + 1) (nx + 2) (iI 0)), ?_, ⟨fun _ => 0, fun _ => 0, ?_, ?_, ?_, fun i y hy => ?_, fun _ _ => rfl⟩, ?_, ?_⟩
    · unfold f_X4_readClause f_X4_readClause_b3 f_X2_init f_X2_init_b8 f_X2_init_b15
      have c1 : (z_up (z_up h nx (.inr (2, [tA none, tA none, tA none, tI 0]))) (nx + 1) (.inl (0, 4, .inl (fun _ => 0)))) nx = .inr (2, [tA none, tA none, tA none, tI 0]) := by rw [z_up_n _ _ (by omega), z_up_s]
      have w1 : z_pF (z_up (z_up h nx (.inr (2, [tA none, tA none, tA none, tI 0]))) (nx + 1) (.inl (0, 4, .inl (fun _ => 0)))) 2 1 (some nx) (tA (some (nx + 1))) = some (z_up (z_up (z_up h nx (.inr (2, [tA none, tA none, tA none, tI 0]))) (nx + 1) (.inl (0, 4, .inl (fun _ => 0)))) nx (.inr (2, [tA none, tA (some (nx + 1)), tA none, tI 0]))) := z_pF_k c1 (Nat.le_of_ble_eq_true rfl)
      have c2 : (z_up (z_up (z_up (z_up h nx (.inr (2, [tA none, tA none, tA none, tI 0]))) (nx + 1) (.inl (0, 4, .inl (fun _ => 0)))) nx (.inr (2, [tA none, tA (some (nx + 1)), tA none, tI 0]))) (nx + 2) (.inl (0, 4, .inl (fun _ => 0)))) nx = .inr (2, [tA none, tA (some (nx + 1)), tA none, tI 0]) := by rw [z_up_n _ _ (by omega), z_up_s]
      have w2 : z_pF (z_up (z_up (z_up (z_up h nx (.inr (2, [tA none, tA none, tA none, tI 0]))) (nx + 1) (.inl (0, 4, .inl (fun _ => 0)))) nx (.inr (2, [tA none, tA (some (nx + 1)), tA none, tI 0]))) (nx + 2) (.inl (0, 4, .inl (fun _ => 0)))) 2 2 (some nx) (tA (some (nx + 2))) = some (z_up (z_up (z_up (z_up (z_up h nx (.inr (2, [tA none, tA none, tA none, tI 0]))) (nx + 1) (.inl (0, 4, .inl (fun _ => 0)))) nx (.inr (2, [tA none, tA (some (nx + 1)), tA none, tI 0]))) (nx + 2) (.inl (0, 4, .inl (fun _ => 0)))) nx (cKl none (nx + 1) (nx + 2) (iI 0))) := z_pF_k c2 (Nat.le_of_ble_eq_true rfl)
      rw [Option.bind_some, Option.bind_some, w1, Option.bind_some]
      show Option.bind (Option.bind (z_pF (z_up (z_up (z_up (z_up h nx (.inr (2, [tA none, tA none, tA none, tI 0]))) (nx + 1) (.inl (0, 4, .inl (fun _ => 0)))) nx (.inr (2, [tA none, tA (some (nx + 1)), tA none, tI 0]))) (nx + 2) (.inl (0, 4, .inl (fun _ => 0)))) 2 2 (some nx) (tA (some (nx + 2)))) _) _ = _
      rw [w2, Option.bind_some, Option.bind_some]
    · rw [z_up_s]; rfl
    · rw [z_up_n _ _ (by omega), z_up_n _ _ (by omega), z_up_n _ _ (by omega), z_up_s]
    · rw [z_up_n _ _ (by omega), z_up_s]
    · simp at hy
    · intro a q1 q2
      rw [z_up_n _ _ (by omega), z_up_n _ _ (by omega), z_up_n _ _ (by omega), z_up_n _ _ (by omega), z_up_n _ _ (by omega)]
    · rw [z_up_n _ _ (by omega), z_up_n _ _ (by omega), z_up_n _ _ (by omega), z_up_n _ _ (by omega), z_up_n _ _ (by omega)]
  obtain ⟨h1, e1, k1, f1', e2⟩ := hi
  have n1 : Nm T N rd tp h1 k := ⟨by rw [e2]; exact hn.1, hn.2⟩
  obtain ⟨t, nx2, z2, h2, k2, u1, u2, u3, u4, u5, u6, u7⟩ := C_test hC 4 6 (by omega) h1 (nx + 3) (z + 12) k 0 ac cl (by omega) (by omega) (TPE_fz hC htp hT f1') n1 (by omega) (by omega)
  obtain ⟨fa, fd, a1, a2, a3, a4, a5⟩ := id k1
  have ne : rd ≠ nx ∧ rd ≠ nx + 1 ∧ rd ≠ nx + 2 := by omega
  have c2 : h2 nx = .inr (2, [tA none, tA (some (nx + 1)), tA (some (nx + 2)), tI (iI 0)]) := by rw [u6 nx (by omega) (by omega)]; exact a1
  -- the test is kept
  have hK3 : KA (z_up h2 nx (cKl t (nx + 1) (nx + 2) (iI 0))) nx t [] := ⟨fa, fd, z_up_s _ _ _, by rw [z_up_n _ _ (by omega), u6 _ (by omega) (by omega)]; exact a2, by rw [z_up_n _ _ (by omega), u6 _ (by omega) (by omega)]; exact a3, fun i y hy => by simp at hy, a5⟩
  have f03 : fz rd nx h (z_up h2 nx (cKl t (nx + 1) (nx + 2) (iI 0))) := fz_tr (fz_tr f1' u6 (by omega)) (fz_up h2 _ (Nat.le_refl _)) (Nat.le_refl _)
  have pre : ∀ h4, f_X4_need (some rd) (iI 58) (z_up h2 nx (cKl t (nx + 1) (nx + 2) (iI 0))) = some h4 → z_ck (z_up h2 nx (cKl t (nx + 1) (nx + 2) (iI 0))) 4 (some rd) = some rd → f_X4_readClause (some rd) h nx z = aGo rd nx 1 h4 nx2 z2 := by
    intro h4 q1 q2
    rw [e1]
    unfold f_X4_readClause_b7
    rw [Nm_ck n1, Option.bind_some, iI_lit, u1, Option.bind_some]
    unfold f_X4_readClause_b14
    simp only [iI_lit, iI_add, iI_sub, iI_mul, iI_neg]
    rw [z_pF_k c2 (Nat.le_of_ble_eq_true rfl), Option.bind_some]
    show ((z_ck (z_up h2 nx (cKl t (nx + 1) (nx + 2) (iI 0))) 4 (some rd)).bind fun _ => (f_X4_need (some rd) (iI 58) (z_up h2 nx (cKl t (nx + 1) (nx + 2) (iI 0)))).bind fun h3 => aGo rd nx 1 h3 nx2 z2) = _
    rw [q2, Option.bind_some, q1, Option.bind_some]
  -- a fault: nothing more is read
  have flt : ∀ h4 f, Fl N rd tp h4 f → ∃ h5, aGo rd nx 1 h4 nx2 z2 = some ((nx2, z2), (some nx, h5)) ∧ Fl N rd tp h5 f ∧ f1 rd h4 h5 := by
    intro h4 f q1
    obtain ⟨h5, r1, r2, r3⟩ := C_fail_f hC q1
    have ra : f_X4_readAct (some rd) (some nx) h4 = some h5 := by
      unfold f_X4_readAct
      simp only [iI_lit, iI_add, iI_sub, iI_mul, iI_neg]
      rw [Fl_sg q1, Option.bind_some, C_isAct (by omega), z_b2_some, ite_tb, if_neg (by unfold isA; omega), Fl_ck q1, Option.bind_some, r1, Option.bind_some]
    refine ⟨h5, ?_, r2, r3⟩
    rw [aGo_eq (Fl_ck q1) ra]
    exact C_acE (by omega) (Fl_sg r2) (by omega) (fun _ => by unfold isA; omega)
  rcases u7 with ⟨l, w1, w2, w3, w4, w5, w6, w7⟩ | ⟨w1, w2⟩
  · have n3 : Nm T N rd tp (z_up h2 nx (cKl t (nx + 1) (nx + 2) (iI 0))) k2 := Nm_up w3 ne.1
    by_cases q : sgk T N k2 = 58
    · obtain ⟨h4, k4, x1, x2, x3, x4, x5, x6⟩ := C_need_y hC (TPE_fz hC htp hT f03) n3 (w := 58) (by omega) q
      have f04 : fz rd nx h h4 := fz_tr f03 (fz_f1 nx x6) (Nat.le_refl _)
      obtain ⟨h5, k5, v1, v2, v3, v4⟩ := C_acL hC (ck := nx) hrd htp (t := t) (cl := cl) nx2 z2 4 [] h4 k4 4 (by simp) (TPE_fz hC htp hT f04) x2 (KA_f1 (by omega) hK3 x6) (by simp) (fun y hy => by cases hy) (Or.inl ⟨rfl, rfl⟩)
      have j4 : zJ T N (0, 0, ac, cl) k = zJ T N (4, 0, 0, cl) k4 := by rw [w6]; exact x4 _ _ ss_colon
      refine ⟨nx2, z2, h5, k5, by rw [pre h4 x1 (Nm_ck n3)]; exact v1, by omega, by omega, by omega, by omega, fun a q1 q2 => by rw [v3 a q2 (by omega) (by omega) (by omega)]; exact f04 a q1 q2, ?_, ?_⟩
      · rcases v4 with ⟨l2, l', -, -, -, ⟨fa', fd', b1, -⟩, -⟩ | ⟨-, -, l', ⟨fa', fd', b1, -⟩⟩
        · exact ⟨_, b1⟩
        · exact ⟨_, b1⟩
      · rcases v4 with ⟨l2, l', g1, g2, g3, g4, g5, g6, g7, g8, g9⟩ | ⟨g1, g2, g3⟩
        · have g1 : l' = l2 := g1
          subst g1
          obtain ⟨fa', fd', b1, b2, b3, b4, b5⟩ := g4
          refine Or.inl ⟨(l, l'), ⟨w1, g2, g3⟩, ⟨t, nx + 1, nx + 2, fa', fd', by unfold rg; omega, b1, b2, b3, b4, ?_⟩, g5, by omega, ?_, (l'.length : Int), by omega, ?_, fun e => g9 (by omega)⟩
          · have hm : ∀ a, rg (nx + 3) nx2 a → rg nx nx2 a ∧ h5 a = h2 a := fun a ha => by
              unfold rg at ha ⊢
              exact ⟨by omega, by rw [v3 a (by omega) (by omega) (by omega) (by omega), x6 a (by omega), z_up_n _ _ (by omega)]⟩
            exact CHs_mono hm (CX_mono hm 4) l t w2
          · rw [w5, x5, g7]
            unfold prK
            simp
          · rw [j4]; exact g8
        · exact Or.inr ⟨g1, by rw [j4]; exact g2⟩
    · obtain ⟨h4, x1, x2, x3⟩ := C_need_n hC n3 (w := 58) (by omega) q
      obtain ⟨h5, v1, v2, v3⟩ := flt h4 k2 x2
      refine ⟨nx2, z2, h5, k2, by rw [pre h4 x1 (Nm_ck n3)]; exact v1, by omega, by omega, by omega, by omega, fz_tr (fz_tr f03 (fz_f1 nx x3) (Nat.le_refl _)) (fz_f1 nx v3) (Nat.le_refl _), ⟨_, by rw [v3 nx (by omega), x3 nx (by omega), z_up_s]; rfl⟩, Or.inr ⟨v2, ?_⟩⟩
      rw [w6]
      refine zJ_no w3.2.1 (by simp) (fun hk => ?_)
      have e : sgk T N k2 = T k2 := by unfold sgk; rw [if_pos hk]
      rw [e] at w7 q
      exact ss_b3 (w3.2.2 hk) w7 (by omega) (fun e => q e.1)
  · have n3 : Fl N rd tp (z_up h2 nx (cKl t (nx + 1) (nx + 2) (iI 0))) k2 := Fl_up w1 ne.1
    obtain ⟨h4, x1, x2, x3⟩ := C_need_f hC n3 (w := 58) (by omega)
    obtain ⟨h5, v1, v2, v3⟩ := flt h4 k2 x2
    exact ⟨nx2, z2, h5, k2, by rw [pre h4 x1 (Fl_ck n3)]; exact v1, by omega, by omega, by omega, by omega, fz_tr (fz_tr f03 (fz_f1 nx x3) (Nat.le_refl _)) (fz_f1 nx v3) (Nat.le_refl _), ⟨_, by rw [v3 nx (by omega), x3 nx (by omega), z_up_s]; rfl⟩, Or.inr ⟨v2, w2⟩⟩
end RX
