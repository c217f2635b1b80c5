section RK
variable {T : Nat → Int} {N rd tp : Nat}
def isA (c : Int) : Prop := c = 102 ∨ c = 103 ∨ c = 112 ∨ c = 100 ∨ c = 115 ∨ c = 111
theorem C_isAct {c : Int} (hc : -1 ≤ c ∧ c ≤ 126) (h : zH) : f_X4_isAct (iI c) h = some (tb (isA c), h) := by
  unfold f_X4_isAct
  simp only [iI_lit, iI_add, iI_sub, iI_mul, iI_neg]
  rw [iteEq (by omega), iteEq (by omega), iteEq (by omega), iteEq (by omega), iteEq (by omega), iteEq (by omega)]
  by_cases q1 : c = 102
  · rw [if_pos q1, tb_t (show isA c from Or.inl q1)]
  · rw [if_neg q1]
    by_cases q2 : c = 103
    · rw [if_pos q2, tb_t (show isA c from Or.inr (Or.inl q2))]
    · rw [if_neg q2]
      by_cases q3 : c = 112
      · rw [if_pos q3, tb_t (show isA c from Or.inr (Or.inr (Or.inl q3)))]
      · rw [if_neg q3]
        by_cases q4 : c = 100
        · rw [if_pos q4, tb_t (show isA c from Or.inr (Or.inr (Or.inr (Or.inl q4))))]
        · rw [if_neg q4]
          by_cases q5 : c = 115
          · rw [if_pos q5, tb_t (show isA c from Or.inr (Or.inr (Or.inr (Or.inr (Or.inl q5)))))]
          · rw [if_neg q5]
            by_cases q6 : c = 111
            · rw [if_pos q6, tb_t (show isA c from Or.inr (Or.inr (Or.inr (Or.inr (Or.inr q6)))))]
            · rw [if_neg q6, tb_f (by unfold isA; omega)]
def cKl (t : Option Nat) (ka kd : Nat) (n : Int32) : zMC := .inr (2, [tA t, tA (some ka), tA (some kd), tI n])
/-- the clause so far: its acts -/
def KA (h : zH) (ck : Nat) (t : Option Nat) (l : List (Int × Int)) : Prop := ∃ (fa fd : Nat → Int32), h ck = cKl t (ck + 1) (ck + 2) (iI (l.length : Int)) ∧ h (ck + 1) = .inl (0, 4, .inl fa) ∧ h (ck + 2) = .inl (0, 4, .inl fd) ∧ (∀ (i : Nat) (y : Int × Int), l[i]? = some y → fa i = iI y.1 ∧ fd i = iI y.2) ∧ ∀ i, l.length ≤ i → fd i = iI 0
/-- the clause's cells and the reader's alone have changed -/
def f3 (rd ck : Nat) (h h' : zH) : Prop := ∀ a, a ≠ rd → a ≠ ck → a ≠ ck + 1 → a ≠ ck + 2 → h' a = h a
theorem f3_rf (rd ck : Nat) (h : zH) : f3 rd ck h h := fun _ _ _ _ _ => rfl
theorem f3_tr {ck : Nat} {h h1 h2 : zH} (a : f3 rd ck h h1) (c : f3 rd ck h1 h2) : f3 rd ck h h2 := fun q q1 q2 q3 q4 => (c q q1 q2 q3 q4).trans (a q q1 q2 q3 q4)
theorem f3_f1 {ck : Nat} {h h' : zH} (a : f1 rd h h') : f3 rd ck h h' := fun q q1 _ _ _ => a q q1
theorem TPE_f3 {ck : Nat} {h h' : zH} (hC : zCx T N rd tp) (htp : tp < ck) (hT : TPE T N tp h) (hf : f3 rd ck h h') : TPE T N tp h' := by
  obtain ⟨g, h1, h2⟩ := hT
  exact ⟨g, by rw [hf tp hC.2.2 (by omega) (by omega) (by omega)]; exact h1, h2⟩
theorem KA_f1 {h h' : zH} {ck : Nat} {t : Option Nat} {l : List (Int × Int)} (hr : rd < ck) (hK : KA h ck t l) (hf : f1 rd h h') : KA h' ck t l := by
  obtain ⟨fa, fd, h1, h2, h3, h4⟩ := hK
  exact ⟨fa, fd, by rw [hf _ (by omega)]; exact h1, by rw [hf _ (by omega)]; exact h2, by rw [hf _ (by omega)]; exact h3, h4⟩
theorem get_snoc {α : Type} {l : List α} {y z : α} {i : Nat} (h : (l ++ [y])[i]? = some z) : (i < l.length ∧ l[i]? = some z) ∨ (i = l.length ∧ z = y) := by
  by_cases q : i < l.length
  · rw [List.getElem?_append_left q] at h
    exact Or.inl ⟨q, h⟩
  · rw [List.getElem?_append_right (by omega)] at h
    have hi : i - l.length < [y].length := (List.getElem?_eq_some_iff.mp h).1
    simp only [List.length_cons, List.length_nil] at hi
    have e : i - l.length = 0 := by omega
    rw [e] at h
    simp only [List.getElem?_cons_zero, Option.some.injEq] at h
    exact Or.inr ⟨by omega, h.symm⟩
/-- one act -/
theorem C_act (hC : zCx T N rd tp) {h : zH} {ck k : Nat} {t : Option Nat} {l : List (Int × Int)} (hT : TPE T N tp h) (hn : Nm T N rd tp h k) (hrd : rd < ck) (htp : tp < ck) (hK : KA h ck t l) (hl : l.length < 4) {st cl : Int} (hst : (st = 4 ∧ l = []) ∨ (st = 5 ∧ isA (sgk T N k))) :
    ∃ (h' : zH) (k' : Nat), f_X4_readAct (some rd) (some ck) h = some h' ∧ k ≤ k' ∧ f3 rd ck h h' ∧ ((∃ y, vAct y ∧ KA h' ck t (l ++ [y]) ∧ Nm T N rd tp h' k' ∧ k < k' ∧ rst T N k = prAct y ++ rst T N k' ∧ zJ T N (st, 0, (l.length : Int), cl) k = zJ T N (5, 0, (l.length : Int) + 1, cl) k') ∨ (Fl N rd tp h' k' ∧ (zJ T N (st, 0, (l.length : Int), cl) k).1 = k' ∧ ∃ l', l'.length ≤ 4 ∧ KA h' ck t l')) := by
  have rg := sgk_rg hC k
  have h45 : st = 4 ∨ st = 5 := by rcases hst with q | q <;> omega
  have pre : f_X4_readAct (some rd) (some ck) h = @ite _ (isA (sgk T N k)) (Classical.propDecidable _) ((z_gI h 4 2 (some rd)).bind fun v4 => (z_ck h 4 (some rd)).bind fun _ => (f_X4_goTo (some rd) (v4 + (1 : Int32)) h).bind fun h6 => (z_gA h6 2 1 (some ck)).bind fun v7 => (z_gI h6 2 3 (some ck)).bind fun v8 => (z_sI h6 v7 v8 (iI (sgk T N k))).bind fun h9 => if iI (sgk T N k) = (115 : Int32) then f_X4_readAct_b49 (some rd) (some ck) h9 else if iI (sgk T N k) = (111 : Int32) then f_X4_readAct_b49 (some rd) (some ck) h9 else f_X4_readAct_b62 (some ck) h9) ((z_ck h 4 (some rd)).bind fun _ => (f_X4_fail (some rd) h).bind fun h11 => some h11) := by
    unfold f_X4_readAct
    rw [Nm_sg hn, Option.bind_some, C_isAct rg, z_b2_some]
    exact ite_tb
  rw [pre]
  by_cases q : isA (sgk T N k)
  · rw [if_pos q]
    have q' := q
    unfold isA at q'
    obtain ⟨hk, hw⟩ := sgk_lt (T := T) (N := N) (k := k) (w := sgk T N k) (by omega) rfl
    obtain ⟨h1, k1, r1, r2, r3, r4, r5, r6⟩ := C_adv hC hT hn hk
    rw [hw] at r4 r5
    obtain ⟨fa, fd, a1, a2, a3, a4, a5⟩ := KA_f1 hrd hK r6
    have a1' : h1 ck = .inr (2, [tA t, tA (some (ck + 1)), tA (some (ck + 2)), tI (iI (l.length : Int))]) := a1
    have ln : (l.length : Int).toNat = l.length := by omega
    -- the letter is written
    have hset : z_sI h1 (some (ck + 1)) (iI (l.length : Int)) (iI (sgk T N k)) = some (z_up h1 (ck + 1) (.inl (0, 4, .inl (upd fa l.length (iI (sgk T N k)))))) := by
      rw [z_sI_k a2 (by omega) (by omega) (by decide), ln]
    have n2 : Nm T N rd tp (z_up h1 (ck + 1) (.inl (0, 4, .inl (upd fa l.length (iI (sgk T N k)))))) k1 := Nm_up r2 (by omega)
    have c2 : (z_up h1 (ck + 1) (.inl (0, 4, .inl (upd fa l.length (iI (sgk T N k)))))) ck = .inr (2, [tA t, tA (some (ck + 1)), tA (some (ck + 2)), tI (iI (l.length : Int))]) := by rw [z_up_n _ _ (by omega)]; exact a1
    rw [Nm_at hn, Option.bind_some, Nm_ck hn, Option.bind_some, r1, Option.bind_some, z_gA_k a1' rfl, Option.bind_some, z_gI_k a1' rfl, Option.bind_some, hset, Option.bind_some]
    simp only [iI_lit, iI_add, iI_sub, iI_mul, iI_neg]
    rw [iteEq (by omega), iteEq (by omega)]
    by_cases q2 : sgk T N k = 115 ∨ sgk T N k = 111
    · have j1 := r4 (st, 0, (l.length : Int), cl) (6, 0, (l.length : Int) + 1, cl) (ss_a2 h45 (by omega) q2)
      have hb : (if sgk T N k = 115 then f_X4_readAct_b49 (some rd) (some ck) (z_up h1 (ck + 1) (.inl (0, 4, .inl (upd fa l.length (iI (sgk T N k)))))) else if sgk T N k = 111 then f_X4_readAct_b49 (some rd) (some ck) (z_up h1 (ck + 1) (.inl (0, 4, .inl (upd fa l.length (iI (sgk T N k)))))) else f_X4_readAct_b62 (some ck) (z_up h1 (ck + 1) (.inl (0, 4, .inl (upd fa l.length (iI (sgk T N k))))))) = f_X4_readAct_b49 (some rd) (some ck) (z_up h1 (ck + 1) (.inl (0, 4, .inl (upd fa l.length (iI (sgk T N k)))))) := by
        rcases q2 with e | e
        · rw [if_pos e]
        · rw [if_neg (by omega), if_pos e]
      rw [hb]
      have f12 : f3 rd ck h (z_up h1 (ck + 1) (.inl (0, 4, .inl (upd fa l.length (iI (sgk T N k)))))) := fun a q1 q2 q3 q4 => by rw [z_up_n _ _ q3]; exact r6 a q1
      obtain ⟨v, h3, k3, d1, d2, d3, d4⟩ := C_digit hC (TPE_f3 hC htp hT f12) n2
      have c3 : h3 ck = .inr (2, [tA t, tA (some (ck + 1)), tA (some (ck + 2)), tI (iI (l.length : Int))]) := by rw [d3 ck (by omega)]; exact c2
      have e3 : h3 (ck + 2) = .inl (0, 4, .inl fd) := by rw [d3 _ (by omega), z_up_n _ _ (by omega)]; exact a3
      have e2 : h3 (ck + 1) = .inl (0, 4, .inl (upd fa l.length (iI (sgk T N k)))) := by rw [d3 _ (by omega), z_up_s]
      have w4 : z_sI h3 (some (ck + 2)) (iI (l.length : Int)) (iI v) = some (z_up h3 (ck + 2) (.inl (0, 4, .inl (upd fd l.length (iI v))))) := by
        rw [z_sI_k e3 (by omega) (by omega) (by decide), ln]
      have c4 : (z_up h3 (ck + 2) (.inl (0, 4, .inl (upd fd l.length (iI v))))) ck = .inr (2, [tA t, tA (some (ck + 1)), tA (some (ck + 2)), tI (iI (l.length : Int))]) := by rw [z_up_n _ _ (by omega)]; exact c3
      have run : f_X4_readAct_b49 (some rd) (some ck) (z_up h1 (ck + 1) (.inl (0, 4, .inl (upd fa l.length (iI (sgk T N k)))))) = some (z_up (z_up h3 (ck + 2) (.inl (0, 4, .inl (upd fd l.length (iI v))))) ck (cKl t (ck + 1) (ck + 2) (iI ((l.length : Int) + 1)))) := by
        unfold f_X4_readAct_b49 f_X4_readAct_b62
        rw [z_gA_k c2 rfl, Option.bind_some, z_gI_k c2 rfl, Option.bind_some, Nm_ck n2, Option.bind_some, d1, z_b2_some, w4, Option.bind_some, z_gI_k c4 rfl, Option.bind_some, iI_lit, iI_add, z_pF_k c4 (Nat.le_of_ble_eq_true rfl), Option.bind_some]
        rfl
      have hKA : KA (z_up (z_up h3 (ck + 2) (.inl (0, 4, .inl (upd fd l.length (iI v))))) ck (cKl t (ck + 1) (ck + 2) (iI ((l.length : Int) + 1)))) ck t (l ++ [(sgk T N k, v)]) := by
        refine ⟨upd fa l.length (iI (sgk T N k)), upd fd l.length (iI v), ?_, ?_, ?_, fun i y hy => ?_, fun i hi => ?_⟩
        · rw [z_up_s, List.length_append]; rfl
        · rw [z_up_n _ _ (by omega), z_up_n _ _ (by omega)]; exact e2
        · rw [z_up_n _ _ (by omega), z_up_s]
        · rcases get_snoc hy with ⟨b1, b2⟩ | ⟨b1, b2⟩
          · rw [pk_un (by omega), pk_un (by omega)]; exact a4 i y b2
          · subst b1; rw [pk_us, pk_us, b2]; exact ⟨rfl, rfl⟩
        · rw [List.length_append] at hi
          simp only [List.length_cons, List.length_nil] at hi
          rw [pk_un (by omega)]; exact a5 i (by omega)
      refine ⟨_, k3, run, by omega, fun a q1 q2 q3 q4 => by rw [z_up_n _ _ q2, z_up_n _ _ q4, d3 a q1, z_up_n _ _ q3]; exact r6 a q1, ?_⟩
      rcases d4 with ⟨g1, g2, g3, g4, g5⟩ | ⟨g1, g2, g3⟩
      · refine Or.inl ⟨(sgk T N k, v), Or.inr ⟨q2, g3⟩, hKA, Nm_up (Nm_up g1 (by omega)) (by omega), by omega, ?_, ?_⟩
        · rw [r5, g5]
          unfold prAct
          rw [if_pos q2]; rfl
        · rw [j1]; exact g4 _ _ (ss_d6 (by omega))
      · refine Or.inr ⟨Fl_up (Fl_up g1 (by omega)) (by omega), ?_, _, ?_, hKA⟩
        · rw [j1, g2]
          exact zJ_no r2.2.1 (by simp) (fun hk => ss_b2 (Or.inr rfl) (r2.2.2 hk) (g3 hk))
        · rw [List.length_append]; simp only [List.length_cons, List.length_nil]; omega
    · rw [if_neg (by omega), if_neg (by omega)]
      refine ⟨z_up (z_up h1 (ck + 1) (.inl (0, 4, .inl (upd fa l.length (iI (sgk T N k)))))) ck (cKl t (ck + 1) (ck + 2) (iI ((l.length : Int) + 1))), k1, ?_, by omega, fun a q1 q2 q3 q4 => by rw [z_up_n _ _ q2, z_up_n _ _ q3]; exact r6 a q1, Or.inl ⟨(sgk T N k, 0), Or.inl ⟨by simp only; omega, rfl⟩, ?_, Nm_up n2 (by omega), r3, ?_, r4 _ _ (ss_a1 h45 (by omega) (by omega))⟩⟩
      · unfold f_X4_readAct_b62
        rw [z_gI_k c2 rfl, Option.bind_some, iI_lit, iI_add, z_pF_k c2 (Nat.le_of_ble_eq_true rfl), Option.bind_some]
        rfl
      · refine ⟨upd fa l.length (iI (sgk T N k)), fd, ?_, ?_, ?_, fun i y hy => ?_, fun i hi => ?_⟩
        · rw [z_up_s, List.length_append]; rfl
        · rw [z_up_n _ _ (by omega), z_up_s]
        · rw [z_up_n _ _ (by omega), z_up_n _ _ (by omega)]; exact a3
        · rcases get_snoc hy with ⟨b1, b2⟩ | ⟨b1, b2⟩
          · rw [pk_un (by omega)]; exact a4 i y b2
          · subst b1; rw [pk_us, b2]; exact ⟨rfl, a5 _ (Nat.le_refl _)⟩
        · rw [List.length_append] at hi
          simp only [List.length_cons, List.length_nil] at hi
          exact a5 i (by omega)
      · rw [r5]
        unfold prAct
        rw [if_neg q2]; rfl
  · rw [if_neg q, Nm_ck hn, Option.bind_some]
    obtain ⟨h1, r1, r2, r3⟩ := C_fail_n hC hn
    have h4 : st = 4 ∧ l = [] := by
      rcases hst with e | e
      · exact e
      · exact absurd e.2 q
    refine ⟨h1, k, by rw [r1, Option.bind_some], Nat.le_refl _, f3_f1 r3, Or.inr ⟨r2, ?_, l, by omega, KA_f1 hrd hK r3⟩⟩
    obtain ⟨rfl, rfl⟩ := h4
    refine zJ_no hn.2.1 (by simp) (fun hk => ?_)
    have e : sgk T N k = T k := by unfold sgk; rw [if_pos hk]
    rw [e] at q
    exact ss_b4 (Or.inl rfl) (hn.2.2 hk) (by omega) (Or.inr q)
end RK
