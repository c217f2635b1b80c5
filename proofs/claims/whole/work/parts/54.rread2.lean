section RY
variable {T : Nat → Int} {N rd tp : Nat}
theorem prQ_snoc (q : List zKl) (c : zKl) : prQ (q ++ [c]) = if q = [] then prK c else prQ q ++ ([59] ++ prK c) := by
  match q with
  | [] => simp [prQ, prQr]
  | d :: q =>
    rw [if_neg (by simp)]
    have hx : ∀ l : List zKl, prQr (l ++ [c]) = prQr l ++ ([59] ++ prK c) := by
      intro l
      induction l with
      | nil => simp [prQr]
      | cons e l ih => simp only [List.cons_append, prQr, ih, List.append_assoc]
    simp only [List.cons_append, prQ, hx, List.append_assoc]
/-- what has been read, ahead of the next clause -/
def prQp (q : List zKl) : List Int := if q = [] then [] else prQ q ++ [59]
theorem prQp_snoc (q : List zKl) (c : zKl) : prQ (q ++ [c]) = prQp q ++ prK c := by
  rw [prQ_snoc]
  unfold prQp
  split
  · rfl
  · simp
/-- the rules so far -/
def RUp (lo hi : Nat) (h : zH) (r : Nat) (q : List zKl) : Prop := ∃ f : Nat → Option Nat, h r = .inr (5, [tA (some (r + 1)), tI (iI (q.length : Int))]) ∧ h (r + 1) = .inl (8, 6, .inr (.inr f)) ∧ ∀ (j : Nat) (c : zKl), q[j]? = some c → ∃ k, f j = some k ∧ KL (rg lo hi) h k c
theorem C_readL (hC : zCx T N rd tp) {nx0 z0 k0 : Nat} {h0 : zH} (hrd : rd < nx0) (htp : tp < nx0) (hT0 : TPE T N tp h0) : ∀ (m : Nat) (q : List zKl) (h : zH) (nx z k : Nat) (ac : Int), 6 - q.length ≤ m → q.length < 6 → fz rd nx0 h0 h → Nm T N rd tp h k → RUp (nx0 + 2) nx h nx0 q → (∀ c, c ∈ q → vK c) → k0 ≤ k → nx0 + 2 ≤ nx → nx ≤ nx0 + 2 + 4 * q.length + (k - k0) → (z0 ≤ z ∧ z ≤ z0 + 8 + 17 * q.length + 5 * (k - k0)) → rst T N k0 = prQp q ++ rst T N k → zJ T N (0, 0, 0, 1) k0 = zJ T N (0, 0, ac, (q.length : Int) + 1) k →
    ∃ (nx' z' : Nat) (h' : zH) (u : Option Nat) (k' : Nat), f_X4_read_b28 (some rd) (some nx0) h nx z = some ((nx', z'), (u, h')) ∧ (nx0 + 2 ≤ nx' ∧ nx' ≤ nx0 + 126) ∧ (z0 ≤ z' ∧ z' ≤ z0 + 610) ∧ fz rd nx0 h0 h' ∧
    ((∃ q', u = some nx0 ∧ RU (rg nx0 nx') h' u q' ∧ vQ q' ∧ q' ≠ [] ∧ rst T N k0 = prQ q' ∧ zJ T N (0, 0, 0, 1) k0 = (-4, (q'.length : Int)) ∧ Nm T N rd tp h' k') ∨ (u = none ∧ Fl N rd tp h' k' ∧ (zJ T N (0, 0, 0, 1) k0).1 = k')) := by
  intro m
  induction m with
  | zero => intro q h nx z k ac hm hq; omega
  | succ m ih =>
    intro q h nx z k ac hm hq hF hn hR hv hk hnx1 hnx2 hz hr hj
    have hN := hC.1
    have hkN := hn.2.1
    have hT := TPE_fz hC htp hT0 hF
    obtain ⟨nx1, z1, h1, k1, u1, u2, u3, u4, u5, u6, ⟨fs, u7⟩, u8⟩ := C_clause hC (nx := nx) (z := z) ac ((q.length : Int) + 1) hT hn (by omega) (by omega)
    obtain ⟨f, a1, a2, a3⟩ := hR
    have b1 : h1 nx0 = .inr (5, [tA (some (nx0 + 1)), tI (iI (q.length : Int))]) := by rw [u6 nx0 (by omega) (by omega)]; exact a1
    have b2 : h1 (nx0 + 1) = .inl (8, 6, .inr (.inr f)) := by rw [u6 _ (by omega) (by omega)]; exact a2
    -- the clause is put into the row, and counted
    have wA : z_sA h1 (some (nx0 + 1)) (iI (q.length : Int)) (some nx) = some (z_up h1 (nx0 + 1) (.inl (8, 6, .inr (.inr (va_up f q.length (some nx)))))) := by
      simp only [z_sA, Option.bind_some, b2, u7]
      rw [if_pos ⟨⟨by omega, rfl⟩, iI_inb (by omega) (by omega) (by omega)⟩, iI_cl (by omega) (by omega), show (q.length : Int).toNat = q.length by omega]
    have b3 : (z_up h1 (nx0 + 1) (.inl (8, 6, .inr (.inr (va_up f q.length (some nx)))))) nx0 = .inr (5, [tA (some (nx0 + 1)), tI (iI (q.length : Int))]) := by rw [z_up_n _ _ (by omega)]; exact b1
    have hh : ∃ h3, h3 = z_up (z_up h1 (nx0 + 1) (.inl (8, 6, .inr (.inr (va_up f q.length (some nx)))))) nx0 (.inr (5, [tA (some (nx0 + 1)), tI (iI ((q.length : Int) + 1))])) := ⟨_, rfl⟩
    obtain ⟨h3, e3⟩ := hh
    have hh3 : ∀ a, a ≠ nx0 → a ≠ nx0 + 1 → h3 a = h1 a := fun a q1 q2 => by rw [e3, z_up_n _ _ q1, z_up_n _ _ q2]
    have c3 : h3 nx0 = .inr (5, [tA (some (nx0 + 1)), tI (iI ((q.length : Int) + 1))]) := by rw [e3, z_up_s]
    have d3 : h3 (nx0 + 1) = .inl (8, 6, .inr (.inr (va_up f q.length (some nx)))) := by rw [e3, z_up_n _ _ (by omega), z_up_s]
    have f3' : fz rd nx0 h0 h3 := fun a q1 q2 => by rw [hh3 a (by omega) (by omega), u6 a (by omega) q2]; exact hF a q1 q2
    have wB : z_pF (z_up h1 (nx0 + 1) (.inl (8, 6, .inr (.inr (va_up f q.length (some nx)))))) 5 1 (some nx0) (tI (iI ((q.length : Int) + 1))) = some h3 := by rw [e3]; exact z_pF_k b3 (Nat.le_of_ble_eq_true rfl)
    have pre : f_X4_read_c28 (some rd) (some nx0) h nx z = (if iI 6 ≤ iI ((q.length : Int) + 1) then z_i1m (f_X4_read_b69 (some rd) (some nx0) h3 nx1 z1) else (z_ck h3 4 (some rd)).bind fun _ => z_b2 (f_X4_takes (some rd) (iI 59) h3) fun v7 h6 => if v7 = iI 0 then z_i1m (f_X4_read_b69 (some rd) (some nx0) h6 nx1 z1) else some ((nx1, z1), Sum.inl (some rd, some nx0, h6))) := by
      unfold f_X4_read_c28
      rw [z_gA_k a1 rfl, Option.bind_some, z_gI_k a1 rfl, Option.bind_some, Nm_ck hn, Option.bind_some, u1, Option.bind_some]
      show f_X4_read_b40 (some rd) (some nx0) (some (nx0 + 1)) (iI (q.length : Int)) (some nx) h1 nx1 z1 = _
      unfold f_X4_read_b40
      simp only [iI_lit, iI_add, iI_sub, iI_mul, iI_neg]
      rw [wA, Option.bind_some, z_gI_k b3 rfl, Option.bind_some, iI_add, wB, Option.bind_some, z_gI_k c3 rfl, Option.bind_some]
    have done : ∀ r, f_X4_read_c28 (some rd) (some nx0) h nx z = z_i1m (some r) → f_X4_read_b28 (some rd) (some nx0) h nx z = some r := by
      intro r e
      unfold f_X4_read_b28
      refine z_it_done (s := ((nx, z), (some rd, some nx0, h))) ?_
      show (f_X4_read_c28 (some rd) (some nx0) h nx z).map z_ds = _
      rw [e]; rfl
    rcases u8 with ⟨c, w1, w2, w3, w4, w5, ac', w6, w7, w8⟩ | ⟨w1, w2⟩
    · have n3 : Nm T N rd tp h3 k1 := ⟨by rw [hh3 rd (by omega) (by omega)]; exact w3.1, w3.2⟩
      have hk1 := w3.2.1
      have hm1 : ∀ a, rg (nx0 + 2) nx a → rg (nx0 + 2) nx1 a ∧ h3 a = h a := fun a ha => by
        unfold rg at ha ⊢
        exact ⟨by omega, by rw [hh3 a (by omega) (by omega), u6 a (by omega) (by omega)]⟩
      have hm2 : ∀ a, rg nx nx1 a → rg (nx0 + 2) nx1 a ∧ h3 a = h1 a := fun a ha => by
        unfold rg at ha ⊢
        exact ⟨by omega, by rw [hh3 a (by omega) (by omega)]⟩
      have hl : (q ++ [c]).length = q.length + 1 := by simp
      have hR3 : RUp (nx0 + 2) nx1 h3 nx0 (q ++ [c]) := by
        refine ⟨va_up f q.length (some nx), by rw [hl]; exact c3, d3, fun j x hx => ?_⟩
        rcases get_snoc hx with ⟨g1, g2⟩ | ⟨g1, g2⟩
        · obtain ⟨kk, g3, g4⟩ := a3 j x g2
          refine ⟨kk, ?_, KL_mono hm1 g4⟩
          unfold va_up
          rw [if_neg (by omega)]; exact g3
        · subst g1
          refine ⟨nx, ?_, ?_⟩
          · unfold va_up; rw [if_pos rfl]
          · rw [g2]; exact KL_mono hm2 w2
      have hv3 : ∀ x, x ∈ q ++ [c] → vK x := fun x hx => by
        rcases List.mem_append.mp hx with g | g
        · exact hv x g
        · rw [List.mem_singleton] at g; subst g; exact w1
      have hr3 : rst T N k0 = prQ (q ++ [c]) ++ rst T N k1 := by rw [hr, w5, prQp_snoc]; simp
      have hj3 : zJ T N (0, 0, 0, 1) k0 = zJ T N (5, 0, ac', (q.length : Int) + 1) k1 := by rw [hj, w7]
      -- the end of the text, or of what may stand there
      have fin : ¬ (sgk T N k1 = 59 ∧ q.length + 1 < 6) → ∃ (h' : zH) (u : Option Nat) (k' : Nat), f_X4_read_b69 (some rd) (some nx0) h3 nx1 z1 = some ((nx1, z1), (u, h')) ∧ fz rd nx0 h0 h' ∧ ((∃ q', u = some nx0 ∧ RU (rg nx0 nx1) h' u q' ∧ vQ q' ∧ q' ≠ [] ∧ rst T N k0 = prQ q' ∧ zJ T N (0, 0, 0, 1) k0 = (-4, (q'.length : Int)) ∧ Nm T N rd tp h' k') ∨ (u = none ∧ Fl N rd tp h' k' ∧ (zJ T N (0, 0, 0, 1) k0).1 = k')) := by
        intro hno
        have n3' : h3 rd = .inr (4, [tA (some tp), tI (iI (N : Int)), tI (iI (k1 : Int)), tI (iI (sgk T N k1)), tI (iI (-1))]) := n3.1
        have rgs := sgk_rg hC k1
        by_cases e1 : k1 = N
        · have sg : sgk T N k1 = -1 := by unfold sgk; rw [if_neg (by omega)]
          refine ⟨h3, some nx0, k1, ?_, f3', Or.inl ⟨q ++ [c], rfl, ?_, ⟨by omega, hv3, ?_⟩, by simp, ?_, ?_, n3⟩⟩
          · unfold f_X4_read_b69 f_X4_read_b81
            rw [Nm_sg n3, Option.bind_some, sg, if_pos (show iI (-1) = (-1 : Int32) by decide), z_gI_k n3' rfl, Option.bind_some, if_pos (show iI (-1) = (-1 : Int32) by decide)]
          · obtain ⟨f', g1, g2, g3⟩ := hR3
            refine Or.inr ⟨nx0, nx0 + 1, f', rfl, by unfold rg; omega, g1, g2, fun j x hx => ?_⟩
            obtain ⟨kk, g4, g5⟩ := g3 j x hx
            exact ⟨kk, g4, KL_mono (fun a ha => ⟨by unfold rg at ha ⊢; omega, rfl⟩) g5⟩
          · have := congrArg List.length hr3
            rw [e1, rst_end, List.append_nil] at this
            have h2 := rs_len (T := T) (N - k0) k0
            unfold rst at this
            omega
          · rw [hr3, e1, rst_end, List.append_nil]
          · rw [hj3, e1, zJ_done, hl]; rfl
        · have hlt : k1 < N := by omega
          have e : sgk T N k1 = T k1 := by unfold sgk; rw [if_pos hlt]
          have hc := hC.2.1 k1 hlt
          obtain ⟨h4, x1, x2, x3⟩ := C_fail_n hC n3
          have x2' : h4 rd = .inr (4, [tA (some tp), tI (iI (N : Int)), tI (iI (k1 : Int)), tI (iI (-1)), tI (iI (k1 : Int))]) := x2.1
          refine ⟨h4, none, k1, ?_, fz_tr f3' (fz_f1 nx0 x3) (Nat.le_refl _), Or.inr ⟨rfl, x2, ?_⟩⟩
          · unfold f_X4_read_b69 f_X4_read_b81
            rw [Nm_sg n3, Option.bind_some, if_neg (show ¬ iI (sgk T N k1) = (-1 : Int32) by rw [show (-1 : Int32) = iI (-1) from rfl]; exact nEq (by omega)), Nm_ck n3, Option.bind_some, x1, Option.bind_some, z_gI_k x2' rfl, Option.bind_some, if_neg (show ¬ iI (k1 : Int) = (-1 : Int32) by rw [show (-1 : Int32) = iI (-1) from rfl]; exact nEq (by omega))]
          · rw [hj3]
            rw [e] at hno w8
            refine zJ_bad hlt (ss_b4 (Or.inr rfl) (w3.2.2 hlt) (by omega) ?_)
            by_cases q4 : ac' < 4
            · exact Or.inr (w8 q4)
            · exact Or.inl q4
      by_cases q6 : q.length + 1 < 6
      · by_cases q59 : sgk T N k1 = 59
        · obtain ⟨h4, k4, x1, x2, x3, x4, x5, x6⟩ := C_take_y hC (TPE_fz hC htp hT0 f3') n3 (w := 59) (by omega) q59
          have step : f_X4_read_c28 (some rd) (some nx0) h nx z = some ((nx1, z1), .inl (some rd, some nx0, h4)) := by
            rw [pre, if_neg (nLe (by omega)), Nm_ck n3, Option.bind_some, x1, z_b2_some, if_neg iI_01]
          have hk4 := x2.2.1
          have hm4 : ∀ a, rg (nx0 + 2) nx1 a → rg (nx0 + 2) nx1 a ∧ h4 a = h3 a := fun a ha => ⟨ha, by unfold rg at ha; exact x6 a (by omega)⟩
          obtain ⟨f', g1, g2, g3⟩ := hR3
          obtain ⟨nx', z', h', u, k', y1, y2, y3, y4, y5⟩ := ih (q ++ [c]) h4 nx1 z1 k4 ac' (by omega) (by omega) (fz_tr f3' (fz_f1 nx0 x6) (Nat.le_refl _)) x2 ⟨f', by rw [x6 _ (by omega)]; exact g1, by rw [x6 _ (by omega)]; exact g2, fun j x hx => by obtain ⟨kk, g4, g5⟩ := g3 j x hx; exact ⟨kk, g4, KL_mono hm4 g5⟩⟩ hv3 (by omega) (by omega) (by omega) (by omega) (by
              rw [hr3, x5]
              unfold prQp
              rw [if_neg (by simp)]; simp) (by
              rw [hj3, x4 _ _ (ss_semi (by omega)), hl]; rfl)
          refine ⟨nx', z', h', u, k', ?_, y2, y3, y4, y5⟩
          rw [← y1]
          unfold f_X4_read_b28
          refine z_it_next (s := ((nx, z), (some rd, some nx0, h))) ?_
          show (f_X4_read_c28 (some rd) (some nx0) h nx z).map z_ds = _
          rw [step]; rfl
        · obtain ⟨h', u, k', y1, y2, y3⟩ := fin (by omega)
          refine ⟨nx1, z1, h', u, k', done _ ?_, by omega, by omega, y2, y3⟩
          rw [pre, if_neg (nLe (by omega)), Nm_ck n3, Option.bind_some, C_take_n hC n3 (by omega) q59, z_b2_some, if_pos rfl, y1]
      · obtain ⟨h', u, k', y1, y2, y3⟩ := fin (by omega)
        refine ⟨nx1, z1, h', u, k', done _ ?_, by omega, by omega, y2, y3⟩
        rw [pre, if_pos (cLe (by omega)), y1]
    · have n3 : Fl N rd tp h3 k1 := ⟨by rw [hh3 rd (by omega) (by omega)]; exact w1.1, w1.2⟩
      have hk1 := w1.2
      have n3' : h3 rd = .inr (4, [tA (some tp), tI (iI (N : Int)), tI (iI (k1 : Int)), tI (iI (-1)), tI (iI (k1 : Int))]) := n3.1
      have b69 : f_X4_read_b69 (some rd) (some nx0) h3 nx1 z1 = some ((nx1, z1), (none, h3)) := by
        unfold f_X4_read_b69 f_X4_read_b81
        rw [Fl_sg n3, Option.bind_some, if_pos (show iI (-1) = (-1 : Int32) by decide), z_gI_k n3' rfl, Option.bind_some, if_neg (show ¬ iI (k1 : Int) = (-1 : Int32) by rw [show (-1 : Int32) = iI (-1) from rfl]; exact nEq (by omega))]
      refine ⟨nx1, z1, h3, none, k1, done _ ?_, by omega, by omega, f3', Or.inr ⟨rfl, n3, by rw [hj]; exact w2⟩⟩
      rw [pre, b69, iteLe (by omega)]
      split
      · rfl
      · rw [Fl_ck n3, Option.bind_some, C_take_f n3 (by omega), z_b2_some, if_pos rfl, b69]
theorem C_read (hC : zCx T N rd tp) {h : zH} {nx z : Nat} (hT : TPE T N tp h) {x0 : Option Nat} {x1 x2 x3 x4 : Int32} (hcell : h rd = .inr (4, [tA x0, tI x1, tI x2, tI x3, tI x4])) (hrd : rd < nx) (htp : tp < nx) :
    ∃ (nx' z' : Nat) (h' : zH) (u : Option Nat), f_X4_read (some rd) (some tp) (iI (N : Int)) h nx z = some ((nx', z'), (u, h')) ∧ (nx ≤ nx' ∧ nx' ≤ nx + 126) ∧ (z ≤ z' ∧ z' ≤ z + 610) ∧ fz rd nx h h' ∧ (∃ y0 y1 y2 y3, h' rd = .inr (4, [tA y0, tI y1, tI y2, tI y3, tI (iI (if u = none then (smf T N 0 (0, 0, 0, 1)).1 else -1))])) ∧
    ((∃ q', u ≠ none ∧ RU (rg nx nx') h' u q' ∧ vQ q' ∧ q' ≠ [] ∧ rs T N 0 = prQ q' ∧ smf T N 0 (0, 0, 0, 1) = (-4, (q'.length : Int))) ∨ (u = none ∧ 0 ≤ (smf T N 0 (0, 0, 0, 1)).1 ∧ (smf T N 0 (0, 0, 0, 1)).1 ≤ 100)) := by
  have w1 : z_pF h 4 0 (some rd) (tA (some tp)) = some (z_up h rd (.inr (4, [tA (some tp), tI x1, tI x2, tI x3, tI x4]))) := z_pF_k hcell (Nat.le_of_ble_eq_true rfl)
  have w2 : z_pF (z_up h rd (.inr (4, [tA (some tp), tI x1, tI x2, tI x3, tI x4]))) 4 1 (some rd) (tI (iI (N : Int))) = some (z_up (z_up h rd (.inr (4, [tA (some tp), tI x1, tI x2, tI x3, tI x4]))) rd (.inr (4, [tA (some tp), tI (iI (N : Int)), tI x2, tI x3, tI x4]))) := z_pF_k (z_up_s _ _ _) (Nat.le_of_ble_eq_true rfl)
  have w3 : z_pF (z_up (z_up h rd (.inr (4, [tA (some tp), tI x1, tI x2, tI x3, tI x4]))) rd (.inr (4, [tA (some tp), tI (iI (N : Int)), tI x2, tI x3, tI x4]))) 4 4 (some rd) (tI (iI (-1))) = some (z_up (z_up (z_up h rd (.inr (4, [tA (some tp), tI x1, tI x2, tI x3, tI x4]))) rd (.inr (4, [tA (some tp), tI (iI (N : Int)), tI x2, tI x3, tI x4]))) rd (RC4 N tp x2 x3 (iI (-1)))) := z_pF_k (z_up_s _ _ _) (Nat.le_of_ble_eq_true rfl)
  have hg : ∃ h3, h3 = z_up (z_up (z_up h rd (.inr (4, [tA (some tp), tI x1, tI x2, tI x3, tI x4]))) rd (.inr (4, [tA (some tp), tI (iI (N : Int)), tI x2, tI x3, tI x4]))) rd (RC4 N tp x2 x3 (iI (-1))) := ⟨_, rfl⟩
  obtain ⟨h3, e3⟩ := hg
  rw [← e3] at w3
  have f3' : f1 rd h h3 := fun a ha => by rw [e3, z_up_n _ _ ha, z_up_n _ _ ha, z_up_n _ _ ha]
  have c3 : h3 rd = RC4 N tp x2 x3 (iI (-1)) := by rw [e3, z_up_s]
  obtain ⟨h4, k4, g1, g2, g3, g4, g5, g6⟩ := C_goTo hC (TPE_f1 hC hT f3') (k := 0) (by omega) c3
  -- the rules' own cells
  have hx : ∃ h6, h6 = z_up (z_up (z_up h4 nx (.inr (5, [tA none, tI 0]))) (nx + 1) (.inl (8, 6, .inr (.inr (fun _ => none))))) nx (.inr (5, [tA (some (nx + 1)), tI (iI 0)])) := ⟨_, rfl⟩
  obtain ⟨h6, e6⟩ := hx
  have hh6 : ∀ a, a ≠ nx → a ≠ nx + 1 → h6 a = h4 a := fun a q1 q2 => by rw [e6, z_up_n _ _ q1, z_up_n _ _ q2, z_up_n _ _ q1]
  have f46 : fz rd nx h h6 := fun a q1 q2 => by rw [hh6 a (by omega) (by omega), g6 a q2, f3' a q2]
  have n6 : Nm T N rd tp h6 k4 := ⟨by rw [hh6 rd (by omega) (by omega)]; exact g2.1, g2.2⟩
  have hk4 := g2.2.1
  have pre : f_X4_read (some rd) (some tp) (iI (N : Int)) h nx z = f_X4_read_b28 (some rd) (some nx) h6 (nx + 2) (z + 8) := by
    have c5 : (z_up (z_up h4 nx (.inr (5, [tA none, tI 0]))) (nx + 1) (.inl (8, 6, .inr (.inr (fun _ => none))))) nx = .inr (5, [tA none, tI 0]) := by rw [z_up_n _ _ (by omega), z_up_s]
    have w5 : z_pF (z_up (z_up h4 nx (.inr (5, [tA none, tI 0]))) (nx + 1) (.inl (8, 6, .inr (.inr (fun _ => none))))) 5 0 (some nx) (tA (some (nx + 1))) = some h6 := by rw [e6]; exact z_pF_k c5 (Nat.le_of_ble_eq_true rfl)
    unfold f_X4_read
    simp only [iI_lit, iI_add, iI_sub, iI_mul, iI_neg]
    rw [w1, Option.bind_some, w2, Option.bind_some, w3, Option.bind_some, z_ck_k (h := h3) c3, Option.bind_some]
    have g1' : f_X4_goTo (some rd) (iI 0) h3 = some h4 := g1
    rw [g1', Option.bind_some]
    unfold f_X4_read_b23 f_X5_init f_X5_init_b10
    show Option.bind (Option.bind (z_pF (z_up (z_up h4 nx (.inr (5, [tA none, tI 0]))) (nx + 1) (.inl (8, 6, .inr (.inr (fun _ => none))))) 5 0 (some nx) (tA (some (nx + 1)))) _) _ = _
    rw [w5, Option.bind_some, Option.bind_some]
    rfl
  have j0 : zJ T N (0, 0, 0, 1) 0 = smf T N 0 (0, 0, 0, 1) := rfl
  obtain ⟨nx', z', h', u, k', y1, y2, y3, y4, y5⟩ := C_readL hC (nx0 := nx) (z0 := z) (k0 := k4) (h0 := h) hrd htp hT 6 [] h6 (nx + 2) (z + 8) k4 0 (by simp) (by simp) f46 n6 ⟨fun _ => none, by rw [e6, z_up_s]; rfl, by rw [e6, z_up_n _ _ (by omega), z_up_s], fun j c hc => by simp at hc⟩ (fun c hc => by cases hc) (Nat.le_refl _) (Nat.le_refl _) (by omega) (by omega) rfl rfl
  have j1 : zJ T N (0, 0, 0, 1) k4 = smf T N 0 (0, 0, 0, 1) := by rw [← g4]; exact j0
  have r1 : rst T N k4 = rs T N 0 := by rw [← g5]; rfl
  refine ⟨nx', z', h', u, by rw [pre]; exact y1, by omega, y3, y4, ?_, ?_⟩
  · rcases y5 with ⟨q', a1, a2, a3, a4, a5, a6, a7⟩ | ⟨a1, a2, a3⟩
    · subst a1
      exact ⟨_, _, _, _, a7.1⟩
    · subst a1
      rw [if_pos rfl, ← j1, a3]
      exact ⟨_, _, _, _, a2.1⟩
  · rcases y5 with ⟨q', a1, a2, a3, a4, a5, a6, a7⟩ | ⟨a1, a2, a3⟩
    · exact Or.inl ⟨q', by rw [a1]; simp, a2, a3, a4, by rw [← r1]; exact a5, by rw [← j1]; exact a6⟩
    · have hN := hC.1
      have := a2.2
      rw [j1] at a3
      exact Or.inr ⟨a1, by omega, by omega⟩
end RY
