section CT2
variable {A : Int → Int} {U : Int → Option Nat} {b tS : Nat} {D : Nat → Prop} {Q : Int → List zKl}
theorem SR_said {A : Int → Int} {F : Nat → Nat → Int32} {h : zH} (hS : SR h b A U F) (hW : WF A) {a p : Int} (hv : vP A a p) (v : Int) : ∃ h', z_sI h (some (b + 5 + 6 * a.toNat + 3)) (iI p) (iI v) = some h' ∧ SR h' b (uI A (96 + 40 * a + p) v) U F ∧ fr b 30 h h' := by
  have v1 := hW.vp hv
  have ha : a.toNat < 3 := by omega
  obtain ⟨S, s1, s2⟩ := hS
  exact ⟨_, AwR s1 ha (by omega) (by omega) (by omega), ⟨_, SAt_r s1 ha (by omega) _, SRel_said s2 hW hv⟩, fr_up (by omega) (by omega)⟩
/-- a piece does its acts -/
theorem C_doActs {A1 : Int → Int} {F : Nat → Nat → Int32} {h : zH} (hT : hST h tS) (hb : tS < b ∨ b + 30 ≤ tS) (hD : ∀ q, D q → q < b ∨ b + 30 ≤ q) (hS : SR h b A1 U F) (hW : WF A1) (hk : kT A A1) {a p : Int} (hv : vP A1 a p) (hp : 1 ≤ p) (hr : RU D h (U a) (Q a)) (hq : (Q a).length ≤ 6) (hvk : ∀ c, c ∈ Q a → vK c) (hF : F a.toNat p.toNat = iI (fndx A a p (Q a) 0)) :
    ∃ w h', f_X6_doActs tS (some b) (iI a) (iI p) h = some (iI w, h') ∧ (∃ A2, SR h' b A2 U F ∧ WF A2 ∧ vP A2 a p ∧ uI A2 (96 + 40 * a + p) w = stP (gfc A Q a p) A1 a p) ∧ fr b 30 h h' := by
  have v1 := hW.vp hv
  have ha : a.toNat < 3 := by omega
  have hv2 := hv.2
  obtain ⟨S, s1, s2⟩ := id hS
  have e71 : A1 (71 + 40 * a) = A (71 + 40 * a) := hk _ (by omega)
  have cu := hW.cu hv.1
  have pc := hW.pc hv.1
  have none_case : gfc A Q a p = none → ∃ A2, SR h b A2 U F ∧ WF A2 ∧ vP A2 a p ∧ uI A2 (96 + 40 * a + p) 0 = stP (gfc A Q a p) A1 a p := fun e => ⟨A1, hS, hW, hv, by rw [e]; rfl⟩
  have pre : f_X6_doActs tS (some b) (iI a) (iI p) h = if iI (fndx A a p (Q a) 0) < iI 0 then some (iI 0, h) else if U a = none then some (iI 0, h) else if iI p = iI (cutv (A1 (71 + 40 * a))) then some (iI 0, h) else (z_gA h 5 0 (U a)).bind fun v8 => (z_aA h v8 (iI (fndx A a p (Q a) 0))).bind fun v9 => f_X6_doActs_b55 tS (some b) (iI a) (iI p) (some (b + 4 + 6 * a.toNat)) v9 (iI 0) (iI 0) h := by
    unfold f_X6_doActs
    simp only [iI_lit, iI_add, iI_sub, iI_mul, iI_neg]
    rw [Sg3 s1, Option.bind_some, Sarm s1 (by omega) (by omega), Option.bind_some, Ag8 s1 ha, Option.bind_some, Arow s1 ha (by omega) (by omega) (by omega), Option.bind_some, s2.f, hF, Au s1 ha, Option.bind_some, s2.u a hv.1.1 hv.1.2, An1 s1 ha, Option.bind_some, s2.m1 a hv.1.1 hv.1.2, Option.bind_some]
  rw [pre]
  rcases fnd_cs A a p (Q a) 0 with ⟨q1, q2⟩ | ⟨j, c, q1, q2, q3⟩
  · rw [q1, if_pos (by decide)]
    exact ⟨0, h, rfl, none_case (by unfold gfc; split <;> first | rfl | exact q2), fr_rf _ _ _⟩
  · have hj : j < (Q a).length := (List.getElem?_eq_some_iff.mp q1).1
    rw [q2, if_neg (nLt (by omega))]
    obtain ⟨-, e⟩ | ⟨r, rc, f, h1, -, h2, h3, h4⟩ := hr
    · rw [e] at hj; simp at hj
    · have hne : ¬ U a = none := by rw [h1]; simp
      rw [if_neg hne]
      have hcut : (iI p = iI (cutv (A1 (71 + 40 * a)))) = (p = A (71 + 40 * a)) := by
        unfold cutv
        split
        · rw [iI_eq (by omega) (by omega) (by omega) (by omega)]
          exact propext ⟨fun e => by omega, fun e => by omega⟩
        · rw [iI_eq (by omega) (by omega) (by omega) (by omega), e71]
      by_cases q : p = A (71 + 40 * a)
      · rw [if_pos (by rw [hcut]; exact q)]
        exact ⟨0, h, rfl, none_case (by unfold gfc; rw [if_pos q]), fr_rf _ _ _⟩
      · rw [if_neg (by rw [hcut]; exact q)]
        obtain ⟨k, k1, k2⟩ := h4 j c q1
        have vk := hvk c (List.mem_of_getElem? q1)
        obtain ⟨h', r1, r2, r3⟩ := C_acts (U := U) (F := F) (D := D) hp vk.2.1.2 vk.2.2 hb hD c.2.length 0 A1 h 0 (by omega) hT hS hW hv (by rw [e71]; exact q) k2
        rw [List.drop_zero] at r1 r2
        obtain ⟨w1, w2⟩ := acts_ok hp c.2 A1 hW hv vk.2.2
        refine ⟨actsW 0 c.2, h', ?_, ⟨actsA A1 a p c.2, r2, w1, (kT_vP w2 hW.n.1.2 a p).mpr hv, ?_⟩, r3⟩
        · rw [h1, z_gA_k h2 rfl, Option.bind_some, z_aA_k h3 (by omega) (by omega) (by omega) (by decide), Option.bind_some, show (0 + (j : Int)).toNat = j by omega, k1]
          exact r1
        · unfold gfc
          rw [if_neg q, q3]
          rfl
/-- one piece acts, and says -/
theorem C_tk3 {A1 : Int → Int} {F : Nat → Nat → Int32} {h : zH} (hT : hST h tS) (hb : tS < b ∨ b + 30 ≤ tS) (hD : ∀ q, D q → q < b ∨ b + 30 ≤ q) (hS : SR h b A1 U F) (hW : WF A1) (hk : kT A A1) {a p : Int} (hv : vP A1 a p) (hp : 1 ≤ p) (hr : RU D h (U a) (Q a)) (hq : (Q a).length ≤ 6) (hvk : ∀ c, c ∈ Q a → vK c) (hF : F a.toNat p.toNat = iI (fndx A a p (Q a) 0)) :
    ∃ h', f_X6_tick_c91 tS (some b) (iI a) (iI p) h = some (.inl (some b, iI a, iI (p + 1), h')) ∧ SR h' b (stP (gfc A Q a p) A1 a p) U F ∧ fr b 30 h h' := by
  have v1 := hW.vp hv
  have ha : a.toNat < 3 := by omega
  have hv2 := hv.2
  have pc := hW.pc hv.1
  obtain ⟨S, s1, s2⟩ := id hS
  obtain ⟨w, h1, k1, ⟨A2, k2, k3, k4, k5⟩, k6⟩ := C_doActs (A := A) (Q := Q) hT hb hD hS hW hk hv hp hr hq hvk hF
  obtain ⟨h2, r1, r2, r3⟩ := SR_said k2 k3 k4 w
  rw [k5] at r2
  refine ⟨h2, ?_, r2, fr_tr k6 r3⟩
  unfold f_X6_tick_c91
  rw [Sg3 s1, Option.bind_some, Sarm s1 (by omega) (by omega), Option.bind_some, An0 s1 ha, Option.bind_some, s2.m0 a hv.1.1 hv.1.2, if_neg (nLe (by omega)), Option.bind_some, Sarm s1 (by omega) (by omega), Option.bind_some, Ag7 s1 ha, Option.bind_some, Sck s1, Option.bind_some, k1, z_b2_some, r1, Option.bind_some, iI_lit, iI_add]
theorem RU_fr {h h' : zH} (hD : ∀ q, D q → q < b ∨ b + 30 ≤ q) (hf : fr b 30 h h') {u : Option Nat} {q : List zKl} (hr : RU D h u q) : RU D h' u q := RU_mono (fun a ha => ⟨ha, hf a (hD a ha)⟩) hr
theorem C_tk4 {A1 : Int → Int} {F : Nat → Nat → Int32} {h : zH} (hT : hST h tS) (hb : tS < b ∨ b + 30 ≤ tS) (hD : ∀ q, D q → q < b ∨ b + 30 ≤ q) (hS : SR h b A1 U F) (hW : WF A1) (hW0 : WF A) (hk : kT A A1) (hQ : ∀ a, 0 ≤ a → a < A 64 → ∀ c, c ∈ Q a → vK c) {a : Int} (ha : 0 ≤ a ∧ a < A 64) (hr : RU D h (U a) (Q a)) (hq : (Q a).length ≤ 6) (hF : ∀ p, 1 ≤ p → p < A (70 + 40 * a) → F a.toNat p.toNat = iI (fndx A a p (Q a) 0)) :
    ∃ h', f_X6_tick_b91 tS (some b) (iI a) (iI 1) h = some (.inl (some b, iI (a + 1), h')) ∧ SR h' b (tkP (gfc A Q) a A1 (A (70 + 40 * a) - 1).toNat) U F ∧ fr b 30 h h' := by
  have hn := hW0.n
  have pc := hW0.pc ha
  have e64 : A1 64 = A 64 := hk 64 (by omega)
  have e70 : A1 (70 + 40 * a) = A (70 + 40 * a) := hk _ (by omega)
  have vg := vG_kT hW0 hk (vG_gfc hQ)
  have key := z_forI (body := fun s : (Option Nat) × Int32 × Int32 × zH => f_X6_tick_c91 tS s.1 s.2.1 s.2.2.1 s.2.2.2) (Q := fun r => ∃ h', r = .inl (some b, iI (a + 1), h') ∧ SR h' b (tkP (gfc A Q) a A1 (A (70 + 40 * a) - 1).toNat) U F ∧ fr b 30 h h')
    (fun i s => ∃ h', s = (some b, iI a, iI ((i : Int) + 1), h') ∧ SR h' b (tkP (gfc A Q) a A1 i) U F ∧ fr b 30 h h') (A (70 + 40 * a) - 1).toNat ?_ ?_ (A (70 + 40 * a) - 1).toNat 0 (some b, iI a, iI 1, h) (by omega) ⟨h, rfl, hS, fr_rf _ _ _⟩
  · obtain ⟨r, k1, h', rfl, k2⟩ := key
    exact ⟨h', k1, k2⟩
  · rintro i s hi ⟨h1, rfl, k1, k3⟩
    obtain ⟨w1, w2⟩ := tkP_ok hW (a := a) (by omega) vg i (by omega)
    have hv : vP A1 a ((i : Int) + 1) := ⟨by omega, by omega, by omega⟩
    obtain ⟨h2, q1, q2, q3⟩ := C_tk3 (A := A) (Q := Q) (hST_fr hT hb k3) hb hD k1 w1 (kT_tr hk w2) (a := a) (p := (i : Int) + 1) ((kT_vP w2 hW.n.1.2 a _).mpr hv) (by omega) (RU_fr hD k3 hr) hq (hQ a ha.1 ha.2) (hF _ (by omega) (by omega))
    exact Or.inl ⟨_, q1, h2, by simp, q2, fr_tr k3 q3⟩
  · rintro s ⟨h1, rfl, k1, k3⟩
    obtain ⟨w1, w2⟩ := tkP_ok hW (a := a) (by omega) vg (A (70 + 40 * a) - 1).toNat (by omega)
    have e : (((A (70 + 40 * a) - 1).toNat : Int) + 1) = A (70 + 40 * a) := by omega
    have e71 : tkP (gfc A Q) a A1 (A (70 + 40 * a) - 1).toNat (70 + 40 * a) = A (70 + 40 * a) := (w2 _ (by omega)).trans e70
    have e65 : tkP (gfc A Q) a A1 (A (70 + 40 * a) - 1).toNat 64 = A 64 := (w2 _ (by omega)).trans e64
    obtain ⟨S, s1, s2⟩ := id k1
    refine ⟨_, ?_, h1, rfl, k1, k3⟩
    show f_X6_tick_c91 tS (some b) (iI a) (iI (((A (70 + 40 * a) - 1).toNat : Int) + 1)) h1 = _
    unfold f_X6_tick_c91
    rw [Sg3 s1, Option.bind_some, Sarm s1 (by omega) (by omega), Option.bind_some, An0 s1 (by omega), Option.bind_some, s2.m0 a ha.1 (by omega), e, e71, if_pos (Int32.le_refl _), iI_lit, iI_add]
    rfl
theorem C_tk5 {F : Nat → Nat → Int32} {h : zH} (hT : hST h tS) (hb : tS < b ∨ b + 30 ≤ tS) (hD : ∀ q, D q → q < b ∨ b + 30 ≤ q) (hS : SR h b A U F) (hW : WF A) (hQ : ∀ a, 0 ≤ a → a < A 64 → RU D h (U a) (Q a) ∧ (Q a).length ≤ 6 ∧ ∀ c, c ∈ Q a → vK c) (hF : ∀ a, 0 ≤ a → a < A 64 → ∀ p, 1 ≤ p → p < A (70 + 40 * a) → F a.toNat p.toNat = iI (fndx A a p (Q a) 0)) :
    ∃ h', f_X6_tick_b61 tS (some b) (iI 0) h = some h' ∧ SR h' b (tickA A Q) U F ∧ fr b 30 h h' := by
  have hn := hW.n
  have hQ' : ∀ a, 0 ≤ a → a < A 64 → ∀ c, c ∈ Q a → vK c := fun a h1 h2 => (hQ a h1 h2).2.2
  have vg := vG_gfc hQ'
  have key := z_forI (body := fun s : (Option Nat) × Int32 × zH => f_X6_tick_c61 tS s.1 s.2.1 s.2.2) (Q := fun h' => SR h' b (tickA A Q) U F ∧ fr b 30 h h')
    (fun i s => ∃ h', s = (some b, iI (i : Int), h') ∧ SR h' b (tkA (gfc A Q) A i) U F ∧ fr b 30 h h') (A 64).toNat ?_ ?_ (A 64).toNat 0 (some b, iI 0, h) (by omega) ⟨h, rfl, hS, fr_rf _ _ _⟩
  · exact key
  · rintro i s hi ⟨h1, rfl, k1, k3⟩
    obtain ⟨w1, w2⟩ := tkA_ok hW vg i (by omega)
    have e64 : tkA (gfc A Q) A i 64 = A 64 := w2 64 (by omega)
    have e70 : tkA (gfc A Q) A i (70 + 40 * (i : Int)) = A (70 + 40 * (i : Int)) := w2 _ (by omega)
    have pc := hW.pc (a := (i : Int)) (by omega)
    obtain ⟨w3, w4⟩ := tk0_ok w1 (a := (i : Int)) (by omega)
    obtain ⟨S, s1, s2⟩ := id k1
    obtain ⟨h2, r1, r2, r3⟩ := SR_said k1 w1 (a := (i : Int)) (p := 0) ⟨by omega, by omega, by omega⟩ (tkA (gfc A Q) A i (72 + 40 * (i : Int)))
    rw [Int.add_zero] at r2
    have k4 := fr_tr k3 r3
    obtain ⟨h3, t1, t2, t3⟩ := C_tk4 (A := A) (Q := Q) (A1 := tk0 (tkA (gfc A Q) A i) (i : Int)) (hST_fr hT hb k4) hb hD r2 w3 hW (kT_tr w2 w4) hQ' (a := (i : Int)) (by omega) (RU_fr hD k4 (hQ _ (by omega) (by omega)).1) (hQ _ (by omega) (by omega)).2.1 (hF _ (by omega) (by omega))
    refine Or.inl ⟨_, ?_, h3, rfl, t2, fr_tr k4 t3⟩
    show f_X6_tick_c61 tS (some b) (iI (i : Int)) h1 = _
    unfold f_X6_tick_c61
    simp only [iI_lit, iI_add, iI_sub, iI_mul, iI_neg]
    rw [Sz4 s1, Option.bind_some, s2.n4, e64, if_neg (nLe (by omega)), Sg3 s1, Option.bind_some, Sarm s1 (by omega) (by omega), Option.bind_some, Ag7 s1 (by omega), Option.bind_some, Option.bind_some, Sarm s1 (by omega) (by omega), Option.bind_some, An2 s1 (by omega), Option.bind_some, s2.m2 (i : Int) (by omega) (by omega), r1, Option.bind_some, t1]
    rfl
  · rintro s ⟨h1, rfl, k1, k3⟩
    obtain ⟨w1, w2⟩ := tkA_ok hW vg (A 64).toNat (by omega)
    have e64 : tkA (gfc A Q) A (A 64).toNat 64 = A 64 := w2 64 (by omega)
    have e : (((A 64).toNat : Nat) : Int) = A 64 := by omega
    obtain ⟨S, s1, s2⟩ := id k1
    have hx : tickA A Q = uI (tkA (gfc A Q) A (A 64).toNat) 67 (tkA (gfc A Q) A (A 64).toNat 67 + 1) := rfl
    refine ⟨_, ?_, ⟨_, SAt_o s1 (S' := sZ S 8 (iI (tkA (gfc A Q) A (A 64).toNat 67 + 1))) rfl rfl rfl rfl rfl, by rw [hx]; exact SRel_67 s2 w1 _⟩, fr_tr k3 (fr_up (by omega) (by omega))⟩
    show f_X6_tick_c61 tS (some b) (iI ((A 64).toNat : Int)) h1 = _
    unfold f_X6_tick_c61
    simp only [iI_lit, iI_add, iI_sub, iI_mul, iI_neg]
    rw [Sz4 s1, Option.bind_some, s2.n4, e64, e, if_pos (Int32.le_refl _), Sz8 s1, Option.bind_some, s2.n8, iI_add, Sp8 s1, Option.bind_some]
    rfl
/-- one piece finds -/
theorem C_tk1 {F : Nat → Nat → Int32} {h : zH} (hS : SR h b A U F) (hW : WF A) {a p : Int} (hv : vP A a p) (hp : 1 ≤ p) (hr : RU D h (U a) (Q a)) (hq : (Q a).length ≤ 6) (hvk : ∀ c, c ∈ Q a → vK c) :
    ∃ h', f_X6_tick_c12 tS (some b) (iI a) (iI p) h = some (.inl (some b, iI a, iI (p + 1), h')) ∧ SR h' b A U (updR F a.toNat (upd (F a.toNat) p.toNat (iI (fndx A a p (Q a) 0)))) ∧ fr b 30 h h' := by
  have v1 := hW.vp hv
  have ha : a.toNat < 3 := by omega
  have hv2 := hv.2
  have pc := hW.pc hv.1
  obtain ⟨S, s1, s2⟩ := id hS
  refine ⟨_, ?_, ⟨_, SAt_r s1 ha (j := 4) (by omega) (upd (S.r a.toNat 4) p.toNat (iI (fndx A a p (Q a) 0))), by rw [s2.f]; exact SRel_f s2 _ _⟩, fr_up (by omega) (by omega)⟩
  unfold f_X6_tick_c12
  rw [Sg3 s1, Option.bind_some, Sarm s1 (by omega) (by omega), Option.bind_some, An0 s1 ha, Option.bind_some, s2.m0 a hv.1.1 hv.1.2, if_neg (nLe (by omega)), Option.bind_some, Sarm s1 (by omega) (by omega), Option.bind_some, Ag8 s1 ha, Option.bind_some, Option.bind_some, Sarm s1 (by omega) (by omega), Option.bind_some, Sck s1, Option.bind_some, C_clauseFor s1 s2 hW hv hp hr hq hvk, z_b2_some, AwR s1 ha (by omega) (by omega) (by omega), Option.bind_some, iI_lit, iI_add]
def FG (A : Int → Int) (Q : Int → List zKl) (F : Nat → Nat → Int32) (a n : Int) : Prop := ∀ p, 1 ≤ p → p < n → F a.toNat p.toNat = iI (fndx A a p (Q a) 0)
theorem C_tk2 {F : Nat → Nat → Int32} {h : zH} (hD : ∀ q, D q → q < b ∨ b + 30 ≤ q) (hS : SR h b A U F) (hW : WF A) {a : Int} (ha : 0 ≤ a ∧ a < A 64) (hr : RU D h (U a) (Q a)) (hq : (Q a).length ≤ 6) (hvk : ∀ c, c ∈ Q a → vK c) :
    ∃ h' F', f_X6_tick_b12 tS (some b) (iI a) (iI 1) h = some (.inl (some b, iI (a + 1), h')) ∧ SR h' b A U F' ∧ fr b 30 h h' ∧ FG A Q F' a (A (70 + 40 * a)) ∧ ∀ i, i ≠ a.toNat → F' i = F i := by
  have pc := hW.pc ha
  have hn := hW.n
  have key := z_forI (body := fun s : (Option Nat) × Int32 × Int32 × zH => f_X6_tick_c12 tS s.1 s.2.1 s.2.2.1 s.2.2.2) (Q := fun r => ∃ h' F', r = .inl (some b, iI (a + 1), h') ∧ SR h' b A U F' ∧ fr b 30 h h' ∧ FG A Q F' a (A (70 + 40 * a)) ∧ ∀ i, i ≠ a.toNat → F' i = F i)
    (fun i s => ∃ h' F', s = (some b, iI a, iI ((i : Int) + 1), h') ∧ SR h' b A U F' ∧ fr b 30 h h' ∧ FG A Q F' a ((i : Int) + 1) ∧ ∀ i, i ≠ a.toNat → F' i = F i) (A (70 + 40 * a) - 1).toNat ?_ ?_ (A (70 + 40 * a) - 1).toNat 0 (some b, iI a, iI 1, h) (by omega) ⟨h, F, rfl, hS, fr_rf _ _ _, fun p h1 h2 => absurd h2 (by omega), fun _ _ => rfl⟩
  · obtain ⟨r, k1, h', F', rfl, k2⟩ := key
    exact ⟨h', F', k1, k2⟩
  · rintro i s hi ⟨h1, F1, rfl, k1, k2, k3, k4⟩
    obtain ⟨h2, q1, q2, q3⟩ := C_tk1 (tS := tS) (Q := Q) k1 hW (a := a) (p := (i : Int) + 1) ⟨ha, by omega, by omega⟩ (by omega) (RU_fr hD k2 hr) hq hvk
    refine Or.inl ⟨_, q1, h2, _, by simp, q2, fr_tr k2 q3, fun p g1 g2 => ?_, fun j hj => ?_⟩
    · rw [updR_s]
      by_cases e : p = (i : Int) + 1
      · subst e; rw [pk_us]
      · rw [pk_un (by omega)]; exact k3 p g1 (by omega)
    · rw [updR_n _ _ hj]; exact k4 j hj
  · rintro s ⟨h1, F1, rfl, k1, k2, k3, k4⟩
    have e : (((A (70 + 40 * a) - 1).toNat : Int) + 1) = A (70 + 40 * a) := by omega
    rw [e] at k3
    obtain ⟨S, s1, s2⟩ := id k1
    refine ⟨_, ?_, h1, F1, rfl, k1, k2, k3, k4⟩
    show f_X6_tick_c12 tS (some b) (iI a) (iI (((A (70 + 40 * a) - 1).toNat : Int) + 1)) h1 = _
    unfold f_X6_tick_c12
    rw [Sg3 s1, Option.bind_some, Sarm s1 (by omega) (by omega), Option.bind_some, An0 s1 (by omega), Option.bind_some, s2.m0 a ha.1 ha.2, e, if_pos (Int32.le_refl _), iI_lit, iI_add]
    rfl
theorem C_tick {F : Nat → Nat → Int32} {h : zH} (hT : hST h tS) (hb : tS < b ∨ b + 30 ≤ tS) (hD : ∀ q, D q → q < b ∨ b + 30 ≤ q) (hS : SR h b A U F) (hW : WF A) (hQ : ∀ a, 0 ≤ a → a < A 64 → RU D h (U a) (Q a) ∧ (Q a).length ≤ 6 ∧ ∀ c, c ∈ Q a → vK c) :
    ∃ h' F', f_X6_tick tS (some b) h = some h' ∧ SR h' b (tickA A Q) U F' ∧ fr b 30 h h' := by
  have hn := hW.n
  have key := z_forI (body := fun s : (Option Nat) × Int32 × zH => f_X6_tick_c2 tS s.1 s.2.1 s.2.2) (Q := fun h' => ∃ F', SR h' b (tickA A Q) U F' ∧ fr b 30 h h')
    (fun i s => ∃ h' F', s = (some b, iI (i : Int), h') ∧ SR h' b A U F' ∧ fr b 30 h h' ∧ ∀ a, 0 ≤ a → a < (i : Int) → FG A Q F' a (A (70 + 40 * a))) (A 64).toNat ?_ ?_ (A 64).toNat 0 (some b, iI 0, h) (by omega) ⟨h, F, rfl, hS, fr_rf _ _ _, fun a h1 h2 => absurd h2 (by omega)⟩
  · obtain ⟨h', k1, F', k2⟩ := key
    refine ⟨h', F', ?_, k2⟩
    unfold f_X6_tick f_X6_tick_b2
    rw [iI_lit]; exact k1
  · rintro i s hi ⟨h1, F1, rfl, k1, k2, k3⟩
    have q := hQ (i : Int) (by omega) (by omega)
    obtain ⟨h2, F2, q1, q2, q3, q4, q5⟩ := C_tk2 (tS := tS) (Q := Q) hD k1 hW (a := (i : Int)) (by omega) (RU_fr hD k2 q.1) q.2.1 q.2.2
    obtain ⟨S, s1, s2⟩ := id k1
    refine Or.inl ⟨_, ?_, h2, F2, rfl, q2, fr_tr k2 q3, fun a g1 g2 => ?_⟩
    · show f_X6_tick_c2 tS (some b) (iI (i : Int)) h1 = _
      unfold f_X6_tick_c2
      simp only [iI_lit, iI_add, iI_sub, iI_mul, iI_neg]
      rw [Sz4 s1, Option.bind_some, s2.n4, if_neg (nLe (by omega)), q1]
      rfl
    · by_cases e : a = (i : Int)
      · subst e; exact q4
      · intro p g3 g4
        rw [q5 _ (by omega)]
        exact k3 a g1 (by omega) p g3 g4
  · rintro s ⟨h1, F1, rfl, k1, k2, k3⟩
    have e : (((A 64).toNat : Nat) : Int) = A 64 := by omega
    rw [e] at k3
    obtain ⟨S, s1, s2⟩ := id k1
    obtain ⟨h2, r1, r2, r3⟩ := C_tk5 (hST_fr hT hb k2) hb hD k1 hW (fun a g1 g2 => ⟨RU_fr hD k2 (hQ a g1 g2).1, (hQ a g1 g2).2⟩) k3
    refine ⟨h2, ?_, F1, r2, fr_tr k2 r3⟩
    show f_X6_tick_c2 tS (some b) (iI ((A 64).toNat : Int)) h1 = _
    unfold f_X6_tick_c2
    simp only [iI_lit, iI_add, iI_sub, iI_mul, iI_neg]
    rw [Sz4 s1, Option.bind_some, s2.n4, e, if_pos (Int32.le_refl _), r1]
    rfl
end CT2
