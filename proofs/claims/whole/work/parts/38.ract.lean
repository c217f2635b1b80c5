/-! ACTS -/
def kT (A A' : Int → Int) : Prop := ∀ j, (j < 67 ∨ (70 ≤ j ∧ j < 75) ∨ (110 ≤ j ∧ j < 115) ∨ (150 ≤ j ∧ j < 155) ∨ (190 ≤ j ∧ j < 490)) → A' j = A j
theorem kT_rf (A : Int → Int) : kT A A := fun _ _ => rfl
theorem kT_tr {A A1 A2 : Int → Int} (a : kT A A1) (b : kT A1 A2) : kT A A2 := fun j hj => (b j hj).trans (a j hj)
theorem kT_uI (A : Int → Int) {e : Int} (v : Int) (he : ¬ (e < 67 ∨ (70 ≤ e ∧ e < 75) ∨ (110 ≤ e ∧ e < 115) ∨ (150 ≤ e ∧ e < 155) ∨ (190 ≤ e ∧ e < 490))) : kT A (uI A e v) := fun j hj => uI_n _ _ (by omega)
theorem kT_vP {A A' : Int → Int} (k : kT A A') (h3 : A 64 ≤ 3) (a p : Int) : vP A' a p ↔ vP A a p := vP_cg (k 64 (by omega)) h3 (fun a h1 h2 => k _ (by omega)) a p
noncomputable def stepA (A : Int → Int) (a p : Int) (y : Int × Int) : Int → Int :=
  if y.1 = 102 then sFlip A a p else if y.1 = 103 then sGrab A a p else if y.1 = 112 then sPass A a p else if y.1 = 100 then sDrop A a p else if y.1 = 115 then uI A (82 + 40 * a + p) y.2 else A
noncomputable def actsA (A : Int → Int) (a p : Int) : List (Int × Int) → Int → Int
  | [] => A
  | y :: l => actsA (stepA A a p y) a p l
def actsW (w : Int) : List (Int × Int) → Int
  | [] => w
  | y :: l => actsW (if y.1 = 111 then y.2 else w) l
section AC
variable {A : Int → Int}
theorem WF_step (hW : WF A) {a p : Int} (hv : vP A a p) (hp : 1 ≤ p) {y : Int × Int} (hy : vAct y) : WF (stepA A a p y) := by
  have v1 := hW.vp hv
  unfold stepA
  unfold vAct at hy
  split
  · exact WF_flip hW hv
  · split
    · exact WF_grab hW hv
    · split
      · exact WF_pass hW hv hp
      · split
        · exact WF_drop hW hv
        · split
          · exact WF_dig hW (dg_m v1.1 v1.2) (by omega)
          · exact hW
theorem kT_step (hW : WF A) {a p : Int} (hv : vP A a p) (y : Int × Int) : kT A (stepA A a p y) := by
  have hn := hW.n
  have v1 := hW.vp hv
  have ho := hW.ho hv
  unfold stepA
  split
  · exact kT_uI _ _ (by omega)
  · split
    · unfold sGrab
      split
      · split
        · rename_i h2
          rcases gfind_cs hW (A (75 + 40 * a + p)) with q | ⟨s, q1, q2, q3, q4⟩
          · omega
          · unfold sGive
            exact kT_tr (kT_tr (kT_uI _ _ (by omega)) (kT_uI _ _ (by omega))) (kT_uI _ _ (by omega))
        · exact kT_rf _
      · exact kT_rf _
    · split
      · unfold sPass
        split
        · exact kT_rf _
        · split
          · exact kT_tr (kT_tr (kT_uI _ _ (by omega)) (kT_uI _ _ (by omega))) (kT_uI _ _ (by omega))
          · exact kT_tr (kT_tr (kT_uI _ _ (by omega)) (kT_uI _ _ (by omega))) (kT_uI _ _ (by omega))
      · split
        · unfold sDrop
          split
          · exact kT_tr (kT_tr (kT_tr (kT_uI _ _ (by omega)) (kT_uI _ _ (by omega))) (kT_uI _ _ (by omega))) (kT_uI _ _ (by omega))
          · exact kT_rf _
        · split
          · exact kT_uI _ _ (by omega)
          · exact kT_rf _
theorem acts_ok {a p : Int} (hp : 1 ≤ p) : ∀ (l : List (Int × Int)) (A : Int → Int), WF A → vP A a p → (∀ y, y ∈ l → vAct y) → WF (actsA A a p l) ∧ kT A (actsA A a p l)
  | [], A, hW, hv, hl => ⟨hW, kT_rf _⟩
  | y :: l, A, hW, hv, hl => by
    have k := kT_step hW hv y
    have W1 := WF_step hW hv hp (hl y (List.mem_cons_self ..))
    have ih := acts_ok hp l (stepA A a p y) W1 ((kT_vP k hW.n.1.2 a p).mpr hv) (fun z hz => hl z (List.mem_cons_of_mem _ hz))
    exact ⟨ih.1, kT_tr k ih.2⟩
theorem actsW_rg : ∀ (l : List (Int × Int)) (w : Int), (0 ≤ w ∧ w ≤ 3) → (∀ y, y ∈ l → vAct y) → 0 ≤ actsW w l ∧ actsW w l ≤ 3
  | [], w, hw, _ => hw
  | y :: l, w, hw, hl => by
    unfold actsW
    refine actsW_rg l _ ?_ (fun z hz => hl z (List.mem_cons_of_mem _ hz))
    have := hl y (List.mem_cons_self ..)
    unfold vAct at this
    split
    · omega
    · exact hw
theorem tx_cg {A A' : Int → Int} : ∀ (l : List Int) (e : Int), (∀ j, e ≤ j → j < e + l.length → A' j = A j) → tx A e l → tx A' e l
  | [], _, _, _ => trivial
  | c :: l, e, hj, ht => by
    simp only [List.length_cons] at hj
    exact ⟨by rw [hj e (by omega) (by omega)]; exact ht.1, tx_cg l (e + 1) (fun j h1 h2 => hj j (by omega) (by omega)) ht.2⟩
theorem actAt_kT {A' : Int → Int} (k : kT A A') {a i : Int} (ha : 0 ≤ a ∧ a ≤ 2) {l : List (Int × Int)} (h : actAt A a i l) : actAt A' a i l := by
  obtain ⟨h1, h2, h3, h4⟩ := h
  have e : A' (73 + 40 * a) = A (73 + 40 * a) := k _ (by omega)
  refine ⟨tx_cg _ _ (fun j g1 g2 => k j (by omega)) h1, ?_, ?_, h4⟩
  · rw [e]; exact h2
  · rw [e]
    rcases h3 with h3 | h3
    · exact Or.inl h3
    · by_cases q : i + (prActs l).length = A (73 + 40 * a)
      · exact Or.inl q
      · right; rw [k _ (by omega)]; exact h3
theorem TX_kT {A' : Int → Int} (k : kT A A') {a : Int} (ha : 0 ≤ a ∧ a ≤ 2) {q : List zKl} (h : TX A a q) : TX A' a q := by
  obtain ⟨h1, h2, h3⟩ := h
  refine ⟨h1, by rw [k _ (by omega)]; exact h2, fun hq => ?_⟩
  obtain ⟨h4, h5⟩ := h3 hq
  have hl := h1.2.2
  exact ⟨by rw [k _ (by omega)]; exact h4, tx_cg _ _ (fun j g1 g2 => k j (by omega)) h5⟩
end AC
section RA
variable {m : Nat} {a p : Int}
theorem R_of3 {h : zH} : f_X11_of (iI a) (3 : Int32) h = some (iI (73 + 40 * a), h) := by rw [iI_lit, R_of]; congr 3; omega
theorem R_act {a p : Int} (hp : 1 ≤ p) : ∀ (l : List (Int × Int)) (A : Int → Int) (h : zH) (Y : Nat → Nat → Int32) (i w : Int), MR h m A Y → WF A → vP A a p → actAt A a i l → (0 ≤ w ∧ w ≤ 3) →
    ∃ h', f_X11_act_b16 (some m) (iI a) (iI p) (iI (190 + 100 * a)) (iI w) (iI i) h = some (iI (actsW w l), h') ∧ go1 m h Y (actsA A a p l) h'
  | [], A, h, Y, i, w, hM, hW, hv, hT, hw => by
    have ha : 0 ≤ a ∧ a ≤ 2 := (hW.vp hv).1
    obtain ⟨h1, h2, h3, h4⟩ := hT
    simp only [prActs, List.length_nil] at h2 h3
    refine ⟨h, ?_, go1_rf hM⟩
    unfold f_X11_act_b16
    refine z_it_done ?_
    show f_X11_act_c16 (some m) (iI a) (iI p) (iI (190 + 100 * a)) (iI w) (iI i) h = _
    unfold f_X11_act_c16
    rw [Mg0 hM.1, Option.bind_some, R_of3, z_b2_some, M_all hM (by omega) (by omega), Option.bind_some]
    by_cases q : A (73 + 40 * a) ≤ i
    · rw [if_pos (cLe (by omega))]; rfl
    · have hc : A (190 + 100 * a + i) = 59 := by
        rcases h3 with e | e
        · omega
        · rw [show i + ((0 : Nat) : Int) = i by omega] at e; exact e
      rw [if_neg (nLe (by omega)), Mg0 hM.1, Option.bind_some, iI_add, M_all hM (by omega) (by omega), Option.bind_some, hc, if_pos (show iI 59 = (59 : Int32) by decide)]; rfl
  | y :: l, A, h, Y, i, w, hM, hW, hv, hT, hw => by
    have v1 := hW.vp hv
    have ha : 0 ≤ a ∧ a ≤ 2 := v1.1
    obtain ⟨h1, h2, h3, h4⟩ := id hT
    have hy := h4 y (List.mem_cons_self ..)
    simp only [prActs, List.length_append] at h1 h2 h3
    obtain ⟨t1, t2⟩ := (tx_app _ _ _ _).mp h1
    have hvr : 0 ≤ y.1 ∧ y.1 ≤ 200 ∧ y.1 ≠ 59 := by unfold vAct at hy; omega
    have hle : 1 ≤ (prAct y).length ∧ A (190 + 100 * a + i) = y.1 := by
      unfold prAct at t1 ⊢
      split
      · rename_i hq; rw [if_pos hq] at t1; exact ⟨by simp, t1.1⟩
      · rename_i hq; rw [if_neg hq] at t1; exact ⟨by simp, t1.1⟩
    have hc := hle.2
    have kk := kT_step hW hv y
    have hT' : actAt (stepA A a p y) a (i + (prAct y).length) l := by
      refine actAt_kT kk ha ⟨?_, ?_, ?_, fun z hz => h4 z (List.mem_cons_of_mem _ hz)⟩
      · rw [show 190 + 100 * a + (i + ((prAct y).length : Int)) = 190 + 100 * a + i + (prAct y).length by omega]; exact t2
      · omega
      · rcases h3 with e | e
        · left; omega
        · right; rw [show i + ((prAct y).length : Int) + ((prActs l).length : Int) = i + (((prAct y).length + (prActs l).length : Nat) : Int) by omega]; exact e
    have W1 := WF_step hW hv hp hy
    have hv' := (kT_vP kk hW.n.1.2 a p).mpr hv
    -- one step is enough
    have suf : (∃ h1, f_X11_act_c16 (some m) (iI a) (iI p) (iI (190 + 100 * a)) (iI w) (iI i) h = some (.inl (some m, iI a, iI p, iI (190 + 100 * a), iI (if y.1 = 111 then y.2 else w), iI (i + (prAct y).length), h1)) ∧ go1 m h Y (stepA A a p y) h1) → ∃ h', f_X11_act_b16 (some m) (iI a) (iI p) (iI (190 + 100 * a)) (iI w) (iI i) h = some (iI (actsW w (y :: l)), h') ∧ go1 m h Y (actsA A a p (y :: l)) h' := by
      rintro ⟨h1, k1, Y1, k2, k3, k4⟩
      obtain ⟨h2, r1, r2⟩ := R_act hp l (stepA A a p y) h1 Y1 _ (if y.1 = 111 then y.2 else w) k2 W1 hv' hT' (by unfold vAct at hy; split <;> omega)
      refine ⟨h2, ?_, go1_tr ⟨k2, k3, k4⟩ r2⟩
      have st := z_it_next (body := fun s : (Option Nat) × Int32 × Int32 × Int32 × Int32 × Int32 × zH => f_X11_act_c16 s.1 s.2.1 s.2.2.1 s.2.2.2.1 s.2.2.2.2.1 s.2.2.2.2.2.1 s.2.2.2.2.2.2) (s := (some m, iI a, iI p, iI (190 + 100 * a), iI w, iI i, h)) k1
      unfold f_X11_act_b16 at r1 ⊢
      rw [st]; exact r1
    apply suf
    have pre : ¬ A (73 + 40 * a) ≤ i := by omega
    have ne : ∀ v : Int, v ≠ y.1 → (-1000 ≤ v ∧ v ≤ 1000) → ¬ iI y.1 = iI v := fun v hv hr => by
      rw [iI_eq (by omega) (by omega) (by omega) (by omega)]; omega
    unfold f_X11_act_c16
    rw [Mg0 hM.1, Option.bind_some, R_of3, z_b2_some, M_all hM (by omega) (by omega), Option.bind_some, if_neg (nLe (by omega)), Mg0 hM.1, Option.bind_some, iI_add, M_all hM (by omega) (by omega), Option.bind_some, hc, if_neg (show ¬ iI y.1 = (59 : Int32) by rw [iI_lit]; exact ne 59 (by omega) (by omega)), Option.bind_some, M_all hM (by omega) (by omega), hc, Option.bind_some]
    have e75 : 70 + 40 * a + 5 + p = 75 + 40 * a + p := by omega
    have e82 : 70 + 40 * a + 12 + p = 82 + 40 * a + p := by omega
    by_cases y1 : y.1 = 102
    · have hl : (prAct y).length = 1 := by unfold prAct; rw [if_neg (by omega)]; rfl
      have eS : stepA A a p y = sFlip A a p := if_pos y1
      rw [eS, hl, y1, if_pos (show iI 102 = (102 : Int32) by decide), if_neg (show ¬ (102 : Int) = 111 by decide)]
      have g := goesTo_rg hW hv
      refine ⟨ms h m (75 + 40 * a + p) (if goesTo A a p < 0 then A (75 + 40 * a + p) else goesTo A a p), ?_, go1_ms hM (by omega) (by omega)⟩
      simp (disch := omega) only [Mck hM.1, R_goesTo hM hW hv, Mg0 hM.1, R_of, R_cell hM, Option.bind_some, z_b2_some, z_i1_some, iI_lit, iI_add, iI_sub, iI_mul, iI_neg, iI_le, f_X11_act_b100, f_X11_act_b224, e75, M_set hM]
      by_cases q : 0 ≤ goesTo A a p
      · rw [if_pos q, if_neg (by omega)]; rfl
      · rw [if_neg q, if_pos (by omega)]; rfl
    · rw [if_neg (show ¬ iI y.1 = (102 : Int32) by rw [iI_lit]; exact ne 102 (by omega) (by omega))]
      by_cases y2 : y.1 = 103
      · have hl : (prAct y).length = 1 := by unfold prAct; rw [if_neg (by omega)]; rfl
        have eS : stepA A a p y = sGrab A a p := by unfold stepA; rw [if_neg y1, if_pos y2]
        obtain ⟨h', k1, k2⟩ := R_grab hM hW hv
        rw [eS, hl, y2, if_pos (show iI 103 = (103 : Int32) by decide), if_neg (show ¬ (103 : Int) = 111 by decide)]
        refine ⟨h', ?_, k2⟩
        simp only [Mck hM.1, k1, Option.bind_some, z_b2_some, z_i1_some, iI_lit, iI_add, iI_sub, iI_mul, iI_neg, f_X11_act_b224]; rfl
      · rw [if_neg (show ¬ iI y.1 = (103 : Int32) by rw [iI_lit]; exact ne 103 (by omega) (by omega))]
        by_cases y3 : y.1 = 112
        · have hl : (prAct y).length = 1 := by unfold prAct; rw [if_neg (by omega)]; rfl
          have eS : stepA A a p y = sPass A a p := by unfold stepA; rw [if_neg y1, if_neg y2, if_pos y3]
          obtain ⟨h', k1, k2⟩ := R_pass hM hW hv hp
          rw [eS, hl, y3, if_pos (show iI 112 = (112 : Int32) by decide), if_neg (show ¬ (112 : Int) = 111 by decide)]
          refine ⟨h', ?_, k2⟩
          simp only [Mck hM.1, k1, Option.bind_some, z_b2_some, z_i1_some, iI_lit, iI_add, iI_sub, iI_mul, iI_neg, f_X11_act_b224]; rfl
        · rw [if_neg (show ¬ iI y.1 = (112 : Int32) by rw [iI_lit]; exact ne 112 (by omega) (by omega))]
          by_cases y4 : y.1 = 100
          · have hl : (prAct y).length = 1 := by unfold prAct; rw [if_neg (by omega)]; rfl
            have eS : stepA A a p y = sDrop A a p := by unfold stepA; rw [if_neg y1, if_neg y2, if_neg y3, if_pos y4]
            obtain ⟨h', k1, k2⟩ := R_letGo hM hW hv
            rw [eS, hl, y4, if_pos (show iI 100 = (100 : Int32) by decide), if_neg (show ¬ (100 : Int) = 111 by decide)]
            refine ⟨h', ?_, k2⟩
            simp only [Mck hM.1, k1, Option.bind_some, z_b2_some, z_i1_some, iI_lit, iI_add, iI_sub, iI_mul, iI_neg, f_X11_act_b224]; rfl
          · rw [if_neg (show ¬ iI y.1 = (100 : Int32) by rw [iI_lit]; exact ne 100 (by omega) (by omega))]
            have hq : y.1 = 115 ∨ y.1 = 111 := by unfold vAct at hy; omega
            have hl : (prAct y).length = 2 := by unfold prAct; rw [if_pos hq]; rfl
            have hg : 0 ≤ y.2 ∧ y.2 ≤ 3 := by unfold vAct at hy; omega
            unfold prAct at t1
            rw [if_pos hq] at t1
            have t3 := t1.2.1
            rw [show 190 + 100 * a + i + 1 = 190 + 100 * a + (i + 1) by omega] at t3
            rw [hl] at h2
            have e3 : 48 + y.2 - 48 = y.2 := by omega
            have hm := hW.me hv
            have e2 : i + 1 + 1 = i + ((2 : Nat) : Int) := by omega
            by_cases y5 : y.1 = 111
            · have eS : stepA A a p y = A := by unfold stepA; rw [if_neg y1, if_neg y2, if_neg y3, if_neg y4, if_neg (by omega)]
              refine ⟨ms h m (82 + 40 * a + p) (A (82 + 40 * a + p)), ?_, ?_⟩
              · rw [hl, y5]
                simp (disch := omega) only [iI_lit, iI_add, iI_sub, iI_mul, iI_neg, Mg0 hM.1, Option.bind_some, z_b2_some, z_i1_some, M_all hM, t3, e3, if_true, f_X11_act_b184, f_X11_act_b223, f_X11_act_b224, R_of, e82, iI_eq, if_neg, M_set hM, e2]
              · rw [eS]
                have := go1_ms hM (e := 82 + 40 * a + p) (v := A (82 + 40 * a + p)) (by omega) (by omega)
                rwa [uI_self] at this
            · have y6 : y.1 = 115 := by omega
              have eS : stepA A a p y = uI A (82 + 40 * a + p) y.2 := by unfold stepA; rw [if_neg y1, if_neg y2, if_neg y3, if_neg y4, if_pos y6]
              refine ⟨ms h m (82 + 40 * a + p) y.2, ?_, ?_⟩
              · rw [hl, y6]
                simp (disch := omega) only [iI_lit, iI_add, iI_sub, iI_mul, iI_neg, Mg0 hM.1, Option.bind_some, z_b2_some, z_i1_some, M_all hM, t3, e3, if_true, f_X11_act_b184, f_X11_act_b223, f_X11_act_b224, R_of, e82, iI_eq, if_neg, M_set hM, e2]
              · rw [eS]
                exact go1_ms hM (by omega) (by omega)
end RA
