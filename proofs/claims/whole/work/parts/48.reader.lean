/-! THE CLASS's READER: small ones -/
theorem ss_w {st op ac cl c : Int} (h : st < 2) (hc : c = 119 ∨ c = 116 ∨ c = 109) : smStep (st, op, ac, cl) c = some (2, op, ac, cl) := by
  unfold smStep; simp only; rw [if_neg (show ¬ c = 32 by omega), if_pos h, if_pos hc]
theorem ss_h {st op ac cl c : Int} (h : st < 2) (hc : c = 104 ∨ c = 120 ∨ c = 42) : smStep (st, op, ac, cl) c = some (3, op, ac, cl) := by
  unfold smStep; simp only; rw [if_neg (show ¬ c = 32 by omega), if_pos h, if_neg (show ¬ (c = 119 ∨ c = 116 ∨ c = 109) by omega), if_pos hc]
theorem ss_n {op ac cl : Int} : smStep (0, op, ac, cl) 33 = some (1, op, ac, cl) := rfl
theorem ss_o {st op ac cl : Int} (h : st < 2) (ho : op < 4) : smStep (st, op, ac, cl) 40 = some (0, op + 1, ac, cl) := by
  unfold smStep; simp only; rw [if_neg (show ¬ (40 : Int) = 32 by omega), if_pos h, if_neg (show ¬ ((40 : Int) = 119 ∨ (40 : Int) = 116 ∨ (40 : Int) = 109) by omega), if_neg (show ¬ ((40 : Int) = 104 ∨ (40 : Int) = 120 ∨ (40 : Int) = 42) by omega), if_neg (show ¬ ((40 : Int) = 33 ∧ st = 0) by omega), if_pos (show True ∧ op < 4 from ⟨trivial, ho⟩)]
theorem ss_b0 {st op ac cl c : Int} (h : st < 2) (hc : ¬ (c = 32 ∨ c = 119 ∨ c = 116 ∨ c = 109 ∨ c = 104 ∨ c = 120 ∨ c = 42)) (h1 : ¬ (c = 33 ∧ st = 0)) (h2 : ¬ (c = 40 ∧ op < 4)) : smStep (st, op, ac, cl) c = none := by
  unfold smStep; simp only; rw [if_neg (show ¬ c = 32 by omega), if_pos h, if_neg (show ¬ (c = 119 ∨ c = 116 ∨ c = 109) by omega), if_neg (show ¬ (c = 104 ∨ c = 120 ∨ c = 42) by omega), if_neg h1, if_neg h2]
theorem ss_d2 {op ac cl c : Int} (hc : 48 ≤ c ∧ c ≤ 51) : smStep (2, op, ac, cl) c = some (3, op, ac, cl) := by
  unfold smStep; simp only; rw [if_neg (show ¬ c = 32 by omega), if_neg (show ¬ (2 : Int) < 2 by omega), if_pos (show True ∨ (2 : Int) = 6 from Or.inl trivial), if_pos hc, if_pos trivial]
theorem ss_d6 {op ac cl c : Int} (hc : 48 ≤ c ∧ c ≤ 51) : smStep (6, op, ac, cl) c = some (5, op, ac, cl) := by
  unfold smStep; simp only; rw [if_neg (show ¬ c = 32 by omega), if_neg (show ¬ (6 : Int) < 2 by omega), if_pos (show (6 : Int) = 2 ∨ True from Or.inr trivial), if_pos hc, if_neg (show ¬ (6 : Int) = 2 by omega)]
theorem ss_b2 {st op ac cl c : Int} (h : st = 2 ∨ st = 6) (h0 : c ≠ 32) (hc : ¬ (48 ≤ c ∧ c ≤ 51)) : smStep (st, op, ac, cl) c = none := by
  unfold smStep; simp only; rw [if_neg h0, if_neg (show ¬ st < 2 by omega), if_pos h, if_neg hc]
theorem ss_and {op ac cl c : Int} (hc : c = 38 ∨ c = 124) : smStep (3, op, ac, cl) c = some (0, op, 0, cl) := by
  unfold smStep; simp only; rw [if_neg (show ¬ c = 32 by omega), if_neg (show ¬ (3 : Int) < 2 by omega), if_neg (show ¬ ((3 : Int) = 2 ∨ (3 : Int) = 6) by omega), if_pos trivial, if_pos hc]
theorem ss_shut {op ac cl : Int} (ho : 0 < op) : smStep (3, op, ac, cl) 41 = some (3, op - 1, 0, cl) := by
  unfold smStep; simp only; rw [if_neg (show ¬ (41 : Int) = 32 by omega), if_neg (show ¬ (3 : Int) < 2 by omega), if_neg (show ¬ ((3 : Int) = 2 ∨ (3 : Int) = 6) by omega), if_pos trivial, if_neg (show ¬ ((41 : Int) = 38 ∨ (41 : Int) = 124) by omega), if_pos (show True ∧ 0 < op from ⟨trivial, ho⟩)]
theorem ss_colon {ac cl : Int} : smStep (3, 0, ac, cl) 58 = some (4, 0, 0, cl) := rfl
theorem ss_b3 {op ac cl c : Int} (h0 : c ≠ 32) (h1 : ¬ (c = 38 ∨ c = 124)) (h2 : ¬ (c = 41 ∧ 0 < op)) (h3 : ¬ (c = 58 ∧ op = 0)) : smStep (3, op, ac, cl) c = none := by
  unfold smStep; simp only; rw [if_neg h0, if_neg (show ¬ (3 : Int) < 2 by omega), if_neg (show ¬ ((3 : Int) = 2 ∨ (3 : Int) = 6) by omega), if_pos trivial, if_neg h1, if_neg h2, if_neg h3]
theorem ss_semi {op ac cl : Int} (hc : cl < 6) : smStep (5, op, ac, cl) 59 = some (0, op, ac, cl + 1) := by
  unfold smStep; simp only; rw [if_neg (show ¬ (59 : Int) = 32 by omega), if_neg (show ¬ (5 : Int) < 2 by omega), if_neg (show ¬ ((5 : Int) = 2 ∨ (5 : Int) = 6) by omega), if_neg (show ¬ (5 : Int) = 3 by omega), if_pos (show True ∧ True ∧ cl < 6 from ⟨trivial, trivial, hc⟩)]
theorem ss_a1 {st op ac cl c : Int} (h : st = 4 ∨ st = 5) (ha : ac < 4) (hc : c = 102 ∨ c = 103 ∨ c = 112 ∨ c = 100) : smStep (st, op, ac, cl) c = some (5, op, ac + 1, cl) := by
  unfold smStep; simp only; rw [if_neg (show ¬ c = 32 by omega), if_neg (show ¬ st < 2 by omega), if_neg (show ¬ (st = 2 ∨ st = 6) by omega), if_neg (show ¬ st = 3 by omega), if_neg (show ¬ (c = 59 ∧ st = 5 ∧ cl < 6) by omega), if_pos ha, if_pos hc]
theorem ss_a2 {st op ac cl c : Int} (h : st = 4 ∨ st = 5) (ha : ac < 4) (hc : c = 115 ∨ c = 111) : smStep (st, op, ac, cl) c = some (6, op, ac + 1, cl) := by
  unfold smStep; simp only; rw [if_neg (show ¬ c = 32 by omega), if_neg (show ¬ st < 2 by omega), if_neg (show ¬ (st = 2 ∨ st = 6) by omega), if_neg (show ¬ st = 3 by omega), if_neg (show ¬ (c = 59 ∧ st = 5 ∧ cl < 6) by omega), if_pos ha, if_neg (show ¬ (c = 102 ∨ c = 103 ∨ c = 112 ∨ c = 100) by omega), if_pos hc]
theorem ss_b4 {st op ac cl c : Int} (h : st = 4 ∨ st = 5) (h0 : c ≠ 32) (h5 : ¬ (c = 59 ∧ st = 5 ∧ cl < 6)) (hc : ¬ ac < 4 ∨ ¬ (c = 102 ∨ c = 103 ∨ c = 112 ∨ c = 100 ∨ c = 115 ∨ c = 111)) : smStep (st, op, ac, cl) c = none := by
  unfold smStep; simp only; rw [if_neg h0, if_neg (show ¬ st < 2 by omega), if_neg (show ¬ (st = 2 ∨ st = 6) by omega), if_neg (show ¬ st = 3 by omega), if_neg h5]
  by_cases q : ac < 4
  · rw [if_pos q, if_neg (show ¬ (c = 102 ∨ c = 103 ∨ c = 112 ∨ c = 100) by omega), if_neg (show ¬ (c = 115 ∨ c = 111) by omega)]
  · rw [if_neg q]
def sgk (T : Nat → Int) (N k : Nat) : Int := if k < N then T k else -1
def zJ (T : Nat → Int) (N : Nat) (s : zM) (k : Nat) : Int × Int := smf T (N - k) k s
def rst (T : Nat → Int) (N k : Nat) : List Int := rs T (N - k) k
section RJ
variable {T : Nat → Int} {N : Nat}
theorem zJ_step {s s' : zM} {k : Nat} (hk : k < N) (h : smStep s (T k) = some s') : zJ T N s k = zJ T N s' (k + 1) := by
  unfold zJ
  rw [show N - k = (N - (k + 1)) + 1 by omega]
  simp only [smf, h]
theorem zJ_bad {s : zM} {k : Nat} (hk : k < N) (h : smStep s (T k) = none) : (zJ T N s k).1 = k := by
  unfold zJ
  rw [show N - k = (N - (k + 1)) + 1 by omega]
  simp only [smf, h]
theorem zJ_end {s : zM} (h : s.1 ≠ 5) : (zJ T N s N).1 = N := by
  unfold zJ
  rw [show N - N = 0 by omega]
  simp only [smf, if_neg h]
theorem zJ_done {op ac cl : Int} : zJ T N (5, op, ac, cl) N = (-4, cl) := by
  unfold zJ
  rw [show N - N = 0 by omega]
  rfl
/-- a byte that can't stand there, or the end -/
theorem zJ_no {s : zM} {k : Nat} (hk : k ≤ N) (h5 : s.1 ≠ 5) (h : k < N → smStep s (T k) = none) : (zJ T N s k).1 = k := by
  by_cases q : k < N
  · exact zJ_bad q (h q)
  · have : k = N := by omega
    subst this; exact zJ_end h5
theorem rst_tok {k : Nat} (hk : k < N) (h : T k ≠ 32) : rst T N k = T k :: rst T N (k + 1) := by
  unfold rst
  rw [show N - k = (N - (k + 1)) + 1 by omega]
  simp only [rs, if_neg h]
theorem rst_end : rst T N N = [] := by
  unfold rst
  rw [show N - N = 0 by omega]
  rfl
/-- behind a test it is the same, however many acts there were -/
theorem zJ_3 {op ac ac' cl : Int} : ∀ (n k : Nat), k + n = N → zJ T N (3, op, ac, cl) k = zJ T N (3, op, ac', cl) k
  | 0, k, hk => by
    have : k = N := by omega
    subst this
    unfold zJ
    rw [show k - k = 0 by omega]
    rfl
  | n + 1, k, hk => by
    have hkN : k < N := by omega
    by_cases q : T k = 32
    · have e : ∀ a, smStep (3, op, a, cl) (T k) = some (3, op, a, cl) := fun a => by unfold smStep; rw [if_pos q]
      rw [zJ_step hkN (e ac), zJ_step hkN (e ac')]
      exact zJ_3 n (k + 1) (by omega)
    · by_cases q1 : T k = 38 ∨ T k = 124
      · rw [zJ_step hkN (ss_and q1), zJ_step hkN (ss_and q1)]
      · by_cases q2 : T k = 41 ∧ 0 < op
        · rw [zJ_step (s' := (3, op - 1, 0, cl)) hkN (by rw [q2.1]; exact ss_shut q2.2), zJ_step (s' := (3, op - 1, 0, cl)) hkN (by rw [q2.1]; exact ss_shut q2.2)]
        · by_cases q3 : T k = 58 ∧ op = 0
          · obtain ⟨q3, rfl⟩ := q3
            rw [zJ_step (s' := (4, 0, 0, cl)) hkN (by rw [q3]; exact ss_colon), zJ_step (s' := (4, 0, 0, cl)) hkN (by rw [q3]; exact ss_colon)]
          · unfold zJ
            rw [show N - k = (N - (k + 1)) + 1 by omega]
            simp only [smf, ss_b3 q q1 q2 q3]
end RJ
section RP
variable {T : Nat → Int} {N rd tp : Nat} {h : zH}
def zCx (T : Nat → Int) (N rd tp : Nat) : Prop := N ≤ 100 ∧ (∀ k, k < N → 32 ≤ T k ∧ T k ≤ 126) ∧ tp ≠ rd
def TPE (T : Nat → Int) (N tp : Nat) (h : zH) : Prop := ∃ g, h tp = .inl (1, 100, .inl g) ∧ ∀ k, k < N → g k = iI (T k)
def RC4 (N tp : Nat) (a s f : Int32) : zMC := .inr (4, [tA (some tp), tI (iI (N : Int)), tI a, tI s, tI f])
def Nm (T : Nat → Int) (N rd tp : Nat) (h : zH) (k : Nat) : Prop := h rd = RC4 N tp (iI (k : Int)) (iI (sgk T N k)) (iI (-1)) ∧ k ≤ N ∧ (k < N → T k ≠ 32)
def Fl (N rd tp : Nat) (h : zH) (f : Nat) : Prop := h rd = RC4 N tp (iI (f : Int)) (iI (-1)) (iI (f : Int)) ∧ f ≤ N
/-- the reader alone has changed -/
def f1 (rd : Nat) (h h' : zH) : Prop := ∀ a, a ≠ rd → h' a = h a
theorem f1_rf (rd : Nat) (h : zH) : f1 rd h h := fun _ _ => rfl
theorem f1_tr {h1 h2 : zH} (a : f1 rd h h1) (c : f1 rd h1 h2) : f1 rd h h2 := fun q hq => (c q hq).trans (a q hq)
theorem f1_up (c : zMC) : f1 rd h (z_up h rd c) := fun _ hq => z_up_n _ _ hq
theorem TPE_f1 (hC : zCx T N rd tp) {h' : zH} (hT : TPE T N tp h) (hf : f1 rd h h') : TPE T N tp h' := by
  obtain ⟨g, h1, h2⟩ := hT
  exact ⟨g, by rw [hf tp hC.2.2]; exact h1, h2⟩
theorem Nm_ck {k : Nat} (hn : Nm T N rd tp h k) : z_ck h 4 (some rd) = some rd := z_ck_k hn.1
theorem Fl_ck {f : Nat} (hn : Fl N rd tp h f) : z_ck h 4 (some rd) = some rd := z_ck_k hn.1
theorem Nm_sg {k : Nat} (hn : Nm T N rd tp h k) : z_gI h 4 3 (some rd) = some (iI (sgk T N k)) := z_gI_k hn.1 rfl
theorem Fl_sg {f : Nat} (hn : Fl N rd tp h f) : z_gI h 4 3 (some rd) = some (iI (-1)) := z_gI_k hn.1 rfl
theorem sgk_rg (hC : zCx T N rd tp) (k : Nat) : -1 ≤ sgk T N k ∧ sgk T N k ≤ 126 := by
  unfold sgk
  split
  · have := hC.2.1 k (by assumption); omega
  · omega
theorem sgk_lt {k : Nat} {w : Int} (hw : 0 ≤ w) (h : sgk T N k = w) : k < N ∧ T k = w := by
  unfold sgk at h
  split at h
  · exact ⟨by assumption, h⟩
  · omega
theorem C_goL (hC : zCx T N rd tp) : ∀ (n k : Nat) (h : zH), k + n = N → TPE T N tp h → (∃ s, h rd = RC4 N tp (iI (k : Int)) s (iI (-1))) →
    ∃ h' k', f_X4_goTo_b5 (some rd) h = some h' ∧ Nm T N rd tp h' k' ∧ k ≤ k' ∧ (∀ s, zJ T N s k = zJ T N s k') ∧ rst T N k = rst T N k' ∧ f1 rd h h'
  | 0, k, h, hk, hT, ⟨s, hr⟩ => by
    have hN := hC.1
    have hkN : k = N := by omega
    have hr' : h rd = .inr (4, [tA (some tp), tI (iI (N : Int)), tI (iI (k : Int)), tI s, tI (iI (-1))]) := hr
    refine ⟨_, k, ?_, ⟨?_, by omega, fun q => absurd q (by omega)⟩, Nat.le_refl _, fun _ => rfl, rfl, f1_up (RC4 N tp (iI (k : Int)) (iI (-1)) (iI (-1)))⟩
    · unfold f_X4_goTo_b5
      refine z_it_done ?_
      show f_X4_goTo_c5 (some rd) h = _
      unfold f_X4_goTo_c5 f_X4_goTo_b43
      rw [z_gI_k hr' rfl, Option.bind_some, z_gI_k hr' rfl, Option.bind_some, if_pos (cLe (by omega)), Option.bind_some, Option.bind_some, if_pos (cLe (by omega)), z_pF_k hr' (Nat.le_of_ble_eq_true rfl), Option.bind_some]
      rfl
    · rw [z_up_s]
      unfold sgk
      rw [if_neg (by omega)]
  | n + 1, k, h, hk, hT, ⟨s, hr⟩ => by
    have hN := hC.1
    have hkN : k < N := by omega
    have hr' : h rd = .inr (4, [tA (some tp), tI (iI (N : Int)), tI (iI (k : Int)), tI s, tI (iI (-1))]) := hr
    obtain ⟨g, t1, t2⟩ := id hT
    have rg := hC.2.1 k hkN
    by_cases q : T k = 32
    · have hu : f1 rd h (z_up h rd (RC4 N tp (iI ((k + 1 : Nat) : Int)) s (iI (-1)))) := f1_up _
      obtain ⟨h2, k2, r1, r2, r3, r4, r5, r6⟩ := C_goL hC n (k + 1) (z_up h rd (RC4 N tp (iI ((k + 1 : Nat) : Int)) s (iI (-1)))) (by omega) (TPE_f1 hC hT hu) ⟨s, z_up_s _ _ _⟩
      refine ⟨h2, k2, ?_, r2, by omega, fun s => ?_, ?_, f1_tr hu r6⟩
      · rw [← r1]
        unfold f_X4_goTo_b5
        refine z_it_next ?_
        show f_X4_goTo_c5 (some rd) h = _
        unfold f_X4_goTo_c5
        rw [z_gI_k hr' rfl, Option.bind_some, z_gI_k hr' rfl, Option.bind_some, if_neg (nLe (by omega)), z_gA_k hr' rfl, Option.bind_some, Option.bind_some, z_aB_k t1 (Or.inl rfl) (by omega) (by omega) (by decide), Option.bind_some, show (k : Int).toNat = k by omega, t2 k hkN, if_pos (show iI (T k) = (32 : Int32) by rw [q]; rfl), Option.bind_some, iI_lit, iI_add, z_pF_k hr' (Nat.le_of_ble_eq_true rfl), Option.bind_some]
        rfl
      · rw [← r4 s]
        exact zJ_step hkN (by unfold smStep; rw [if_pos q])
      · rw [← r5]
        unfold rst
        rw [show N - k = (N - (k + 1)) + 1 by omega]
        simp only [rs, if_pos q]
    · refine ⟨_, k, ?_, ⟨?_, by omega, fun _ => q⟩, Nat.le_refl _, fun _ => rfl, rfl, f1_up (RC4 N tp (iI (k : Int)) (iI (T k)) (iI (-1)))⟩
      · unfold f_X4_goTo_b5
        refine z_it_done ?_
        show f_X4_goTo_c5 (some rd) h = _
        unfold f_X4_goTo_c5 f_X4_goTo_b43
        rw [z_gI_k hr' rfl, Option.bind_some, z_gI_k hr' rfl, Option.bind_some, if_neg (nLe (by omega)), z_gA_k hr' rfl, Option.bind_some, Option.bind_some, z_aB_k t1 (Or.inl rfl) (by omega) (by omega) (by decide), Option.bind_some, show (k : Int).toNat = k by omega, t2 k hkN, if_neg (show ¬ iI (T k) = (32 : Int32) by rw [iI_lit]; exact nEq (by omega)), Option.bind_some, Option.bind_some, if_neg (nLe (by omega)), Option.bind_some, Option.bind_some, z_aB_k t1 (Or.inl rfl) (by omega) (by omega) (by decide), Option.bind_some, show (k : Int).toNat = k by omega, t2 k hkN, z_pF_k hr' (Nat.le_of_ble_eq_true rfl), Option.bind_some]
        rfl
      · rw [z_up_s]
        unfold sgk
        rw [if_pos hkN]
theorem C_goTo (hC : zCx T N rd tp) (hT : TPE T N tp h) {k : Nat} (hk : k ≤ N) {a s : Int32} (hr : h rd = RC4 N tp a s (iI (-1))) :
    ∃ h' k', f_X4_goTo (some rd) (iI (k : Int)) h = some h' ∧ Nm T N rd tp h' k' ∧ k ≤ k' ∧ (∀ s, zJ T N s k = zJ T N s k') ∧ rst T N k = rst T N k' ∧ f1 rd h h' := by
  have hr' : h rd = .inr (4, [tA (some tp), tI (iI (N : Int)), tI a, tI s, tI (iI (-1))]) := hr
  have hu : f1 rd h (z_up h rd (RC4 N tp (iI (k : Int)) s (iI (-1)))) := f1_up _
  obtain ⟨h2, k2, r1, r2, r3, r4, r5, r6⟩ := C_goL hC (N - k) k (z_up h rd (RC4 N tp (iI (k : Int)) s (iI (-1)))) (by omega) (TPE_f1 hC hT hu) ⟨s, z_up_s _ _ _⟩
  refine ⟨h2, k2, ?_, r2, r3, r4, r5, f1_tr hu r6⟩
  unfold f_X4_goTo
  rw [z_pF_k hr' (Nat.le_of_ble_eq_true rfl), Option.bind_some]
  exact r1
/-- one byte is taken -/
theorem C_adv (hC : zCx T N rd tp) (hT : TPE T N tp h) {k : Nat} (hn : Nm T N rd tp h k) (hk : k < N) :
    ∃ h' k', f_X4_goTo (some rd) (iI (k : Int) + (1 : Int32)) h = some h' ∧ Nm T N rd tp h' k' ∧ k < k' ∧ (∀ s s', smStep s (T k) = some s' → zJ T N s k = zJ T N s' k') ∧ rst T N k = T k :: rst T N k' ∧ f1 rd h h' := by
  obtain ⟨h2, k2, r1, r2, r3, r4, r5, r6⟩ := C_goTo hC hT (k := k + 1) (by omega) hn.1
  refine ⟨h2, k2, ?_, r2, by omega, fun s s' e => ?_, ?_, r6⟩
  · rw [iI_lit, iI_add]; exact r1
  · rw [zJ_step hk e]; exact r4 s'
  · rw [rst_tok hk (hn.2.2 hk), r5]
theorem Nm_at {k : Nat} (hn : Nm T N rd tp h k) : z_gI h 4 2 (some rd) = some (iI (k : Int)) := z_gI_k hn.1 rfl
theorem C_take_y (hC : zCx T N rd tp) (hT : TPE T N tp h) {k : Nat} (hn : Nm T N rd tp h k) {w : Int} (hw : 0 ≤ w) (hs : sgk T N k = w) :
    ∃ h' k', f_X4_takes (some rd) (iI w) h = some (iI 1, h') ∧ Nm T N rd tp h' k' ∧ k < k' ∧ (∀ s s', smStep s w = some s' → zJ T N s k = zJ T N s' k') ∧ rst T N k = w :: rst T N k' ∧ f1 rd h h' := by
  obtain ⟨hk, hw2⟩ := sgk_lt hw hs
  obtain ⟨h2, k2, r1, r2, r3, r4, r5, r6⟩ := C_adv hC hT hn hk
  rw [hw2] at r4 r5
  refine ⟨h2, k2, ?_, r2, r3, r4, r5, r6⟩
  unfold f_X4_takes
  rw [Nm_sg hn, Option.bind_some, hs, if_pos rfl, Nm_at hn, Option.bind_some, Nm_ck hn, Option.bind_some, r1, Option.bind_some]
  rfl
theorem C_take_n (hC : zCx T N rd tp) {k : Nat} (hn : Nm T N rd tp h k) {w : Int} (hw : 0 ≤ w ∧ w ≤ 200) (hs : sgk T N k ≠ w) : f_X4_takes (some rd) (iI w) h = some (iI 0, h) := by
  have rg := sgk_rg hC k
  unfold f_X4_takes
  rw [Nm_sg hn, Option.bind_some, if_neg (nEq (by omega))]
  rfl
theorem C_take_f {f : Nat} (hn : Fl N rd tp h f) {w : Int} (hw : 0 ≤ w ∧ w ≤ 200) : f_X4_takes (some rd) (iI w) h = some (iI 0, h) := by
  unfold f_X4_takes
  rw [Fl_sg hn, Option.bind_some, if_neg (nEq (by omega))]
  rfl
theorem C_fail_n (hC : zCx T N rd tp) {k : Nat} (hn : Nm T N rd tp h k) : ∃ h', f_X4_fail (some rd) h = some h' ∧ Fl N rd tp h' k ∧ f1 rd h h' := by
  have hr' : h rd = .inr (4, [tA (some tp), tI (iI (N : Int)), tI (iI (k : Int)), tI (iI (sgk T N k)), tI (iI (-1))]) := hn.1
  refine ⟨_, ?_, ⟨z_up_s _ _ _, hn.2.1⟩, f1_tr (f1_up (RC4 N tp (iI (k : Int)) (iI (sgk T N k)) (iI (k : Int)))) (f1_up (RC4 N tp (iI (k : Int)) (iI (-1)) (iI (k : Int))))⟩
  unfold f_X4_fail
  have h2 : (z_up h rd (RC4 N tp (iI (k : Int)) (iI (sgk T N k)) (iI (k : Int)))) rd = .inr (4, [tA (some tp), tI (iI (N : Int)), tI (iI (k : Int)), tI (iI (sgk T N k)), tI (iI (k : Int))]) := z_up_s _ _ _
  have w1 : z_pF h 4 4 (some rd) (tI (iI (k : Int))) = some (z_up h rd (RC4 N tp (iI (k : Int)) (iI (sgk T N k)) (iI (k : Int)))) := z_pF_k hr' (Nat.le_of_ble_eq_true rfl)
  rw [z_gI_k hr' rfl, Option.bind_some, if_pos (show iI (-1) = (-1 : Int32) by decide), z_gI_k hr' rfl, Option.bind_some, w1, Option.bind_some, z_pF_k h2 (Nat.le_of_ble_eq_true rfl), Option.bind_some]
  rfl
theorem C_fail_f (hC : zCx T N rd tp) {f : Nat} (hn : Fl N rd tp h f) : ∃ h', f_X4_fail (some rd) h = some h' ∧ Fl N rd tp h' f ∧ f1 rd h h' := by
  have hr' : h rd = .inr (4, [tA (some tp), tI (iI (N : Int)), tI (iI (f : Int)), tI (iI (-1)), tI (iI (f : Int))]) := hn.1
  have hN := hC.1
  have hf := hn.2
  refine ⟨_, ?_, ⟨z_up_s _ _ _, hn.2⟩, f1_up (RC4 N tp (iI (f : Int)) (iI (-1)) (iI (f : Int)))⟩
  unfold f_X4_fail
  rw [z_gI_k hr' rfl, Option.bind_some, if_neg (show ¬ iI (f : Int) = (-1 : Int32) by rw [show (-1 : Int32) = iI (-1) from rfl]; exact nEq (by omega)), z_pF_k hr' (Nat.le_of_ble_eq_true rfl), Option.bind_some]
  rfl
theorem C_need_y (hC : zCx T N rd tp) (hT : TPE T N tp h) {k : Nat} (hn : Nm T N rd tp h k) {w : Int} (hw : 0 ≤ w) (hs : sgk T N k = w) :
    ∃ h' k', f_X4_need (some rd) (iI w) h = some h' ∧ Nm T N rd tp h' k' ∧ k < k' ∧ (∀ s s', smStep s w = some s' → zJ T N s k = zJ T N s' k') ∧ rst T N k = w :: rst T N k' ∧ f1 rd h h' := by
  obtain ⟨hk, hw2⟩ := sgk_lt hw hs
  obtain ⟨h2, k2, r1, r2, r3, r4, r5, r6⟩ := C_adv hC hT hn hk
  rw [hw2] at r4 r5
  refine ⟨h2, k2, ?_, r2, r3, r4, r5, r6⟩
  unfold f_X4_need
  rw [Nm_sg hn, Option.bind_some, hs, if_pos rfl, Nm_at hn, Option.bind_some, Nm_ck hn, Option.bind_some, r1, Option.bind_some]
theorem C_need_n (hC : zCx T N rd tp) {k : Nat} (hn : Nm T N rd tp h k) {w : Int} (hw : 0 ≤ w ∧ w ≤ 200) (hs : sgk T N k ≠ w) : ∃ h', f_X4_need (some rd) (iI w) h = some h' ∧ Fl N rd tp h' k ∧ f1 rd h h' := by
  have rg := sgk_rg hC k
  obtain ⟨h2, r1, r2, r3⟩ := C_fail_n hC hn
  refine ⟨h2, ?_, r2, r3⟩
  unfold f_X4_need
  rw [Nm_sg hn, Option.bind_some, if_neg (nEq (by omega)), Nm_ck hn, Option.bind_some, r1, Option.bind_some]
theorem C_need_f (hC : zCx T N rd tp) {f : Nat} (hn : Fl N rd tp h f) {w : Int} (hw : 0 ≤ w ∧ w ≤ 200) : ∃ h', f_X4_need (some rd) (iI w) h = some h' ∧ Fl N rd tp h' f ∧ f1 rd h h' := by
  obtain ⟨h2, r1, r2, r3⟩ := C_fail_f hC hn
  refine ⟨h2, ?_, r2, r3⟩
  unfold f_X4_need
  rw [Fl_sg hn, Option.bind_some, if_neg (nEq (by omega)), Fl_ck hn, Option.bind_some, r1, Option.bind_some]
theorem C_digit (hC : zCx T N rd tp) (hT : TPE T N tp h) {k : Nat} (hn : Nm T N rd tp h k) :
    ∃ v h' k', f_X4_readDigit (some rd) h = some (iI v, h') ∧ k ≤ k' ∧ f1 rd h h' ∧ ((Nm T N rd tp h' k' ∧ k < k' ∧ (0 ≤ v ∧ v ≤ 3) ∧ (∀ s s', smStep s (48 + v) = some s' → zJ T N s k = zJ T N s' k') ∧ rst T N k = (48 + v) :: rst T N k') ∨ (Fl N rd tp h' k' ∧ k' = k ∧ (k < N → ¬ (48 ≤ T k ∧ T k ≤ 51)))) := by
  have rg := sgk_rg hC k
  have pre : f_X4_readDigit (some rd) h = z_b2 (f_X10_isDigit (iI (sgk T N k - 48)) h) fun v3 h2 => if v3 = (0 : Int32) then (z_ck h2 4 (some rd)).bind fun _ => (f_X4_fail (some rd) h2).bind fun h8 => some ((0 : Int32), h8) else (z_gI h2 4 2 (some rd)).bind fun v4 => (z_ck h2 4 (some rd)).bind fun _ => (f_X4_goTo (some rd) (v4 + (1 : Int32)) h2).bind fun h6 => some (iI (sgk T N k - 48), h6) := by
    unfold f_X4_readDigit
    rw [Nm_sg hn, Option.bind_some, iI_lit, iI_sub]
  rw [pre]
  by_cases q : 48 ≤ sgk T N k ∧ sgk T N k ≤ 51
  · obtain ⟨hk, hw2⟩ := sgk_lt (T := T) (N := N) (k := k) (w := sgk T N k) (by omega) rfl
    obtain ⟨h2, k2, r1, r2, r3, r4, r5, r6⟩ := C_adv hC hT hn hk
    rw [hw2, show sgk T N k = 48 + (sgk T N k - 48) by omega] at r4 r5
    refine ⟨sgk T N k - 48, h2, k2, ?_, by omega, r6, Or.inl ⟨r2, r3, by omega, r4, r5⟩⟩
    unfold f_X10_isDigit
    simp only [iI_lit, iI_add, iI_sub, iI_mul, iI_neg]
    rw [if_neg (nLt (by omega)), if_neg (nLt (by omega)), z_b2_some, if_neg iI_01, Nm_at hn, Option.bind_some, Nm_ck hn, Option.bind_some, ← iI_lit, r1, Option.bind_some]
  · obtain ⟨h2, r1, r2, r3⟩ := C_fail_n hC hn
    refine ⟨0, h2, k, ?_, Nat.le_refl _, r3, Or.inr ⟨r2, rfl, fun hk => ?_⟩⟩
    · have hd : f_X10_isDigit (iI (sgk T N k - 48)) h = some (iI 0, h) := by
        unfold f_X10_isDigit
        simp only [iI_lit, iI_add, iI_sub, iI_mul, iI_neg]
        by_cases q1 : sgk T N k < 48
        · rw [if_pos (cLt (by omega))]
        · rw [if_neg (nLt (by omega)), if_pos (cLt (by omega))]
      rw [hd, z_b2_some, if_pos (show iI 0 = (0 : Int32) from rfl), Nm_ck hn, Option.bind_some, r1, Option.bind_some]
      rfl
    · unfold sgk at q
      rw [if_pos hk] at q
      exact q
end RP
