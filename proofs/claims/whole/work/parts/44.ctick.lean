section CT
variable {A : Int → Int} {U : Int → Option Nat} {F : Nat → Nat → Int32} {S : zS} {b tS : Nat} {D : Nat → Prop} {Q : Int → List zKl}
theorem SRel_f (hR : SRel A U F S) (i : Nat) (f : Nat → Int32) : SRel A U (updR F i f) (sR S i 4 f) := by
  refine ⟨hR.w, hR.k, hR.l, hR.n4, hR.n6, hR.n7, hR.n8, hR.m0, hR.m1, hR.m2, hR.u, fun a' p' g1 g2 g3 g4 => ?_, fun a' p' g1 g2 g3 g4 => ?_, fun a' p' g1 g2 g3 g4 => ?_, fun a' p' g1 g2 g3 g4 => ?_, fun j => ?_, hR.v0, hR.v1, hR.v2, hR.v3, hR.v4⟩
  · rw [sR_n _ _ (Or.inr (by omega))]; exact hR.r0 a' p' g1 g2 g3 g4
  · rw [sR_n _ _ (Or.inr (by omega))]; exact hR.r1 a' p' g1 g2 g3 g4
  · rw [sR_n _ _ (Or.inr (by omega))]; exact hR.r2 a' p' g1 g2 g3 g4
  · rw [sR_n _ _ (Or.inr (by omega))]; exact hR.r3 a' p' g1 g2 g3 g4
  · by_cases e : j = i
    · subst e; rw [sR_s, updR_s]
    · rw [sR_n _ _ (Or.inl e), updR_n _ _ e]; exact hR.f j
theorem SRel_67 (hR : SRel A U F S) (hW : WF A) (v : Int) : SRel (uI A 67 v) U F (sZ S 8 (iI v)) := by
  have hn := hW.n
  have e0 : ∀ j, dW j → uI A 67 v j = A j := fun j hj => uI_n _ _ (by unfold dW at hj; omega)
  have e64 : uI A 67 v 64 = A 64 := e0 64 (dW_i (by omega))
  refine ⟨?_, ?_, fun x g1 g2 => ?_, ?_, ?_, ?_, ?_, fun a' g1 g2 => ?_, fun a' g1 g2 => ?_, fun a' g1 g2 => ?_, fun a' g1 g2 => ?_, fun a' p' g1 g2 g3 g4 => ?_, fun a' p' g1 g2 g3 g4 => ?_, fun a' p' g1 g2 g3 g4 => ?_, fun a' p' g1 g2 g3 g4 => ?_, fun i => ?_, fun t g1 g2 => ?_, fun t g1 g2 => ?_, fun t g1 g2 g3 => ?_, fun t g1 g2 g3 => ?_, fun t g1 g2 g3 => ?_⟩
  · exact hR.w.trans (bset_cg (fun c g1 g2 => by rw [e0 c (dW_i (by omega))]))
  · exact hR.k.trans (bset_cg (fun c g1 g2 => (hasP_cg hW e0 c).symm))
  · exact (hR.l x g1 g2).trans (bset_cg (fun c k1 k2 => (lyx_cg (e0 65 (dW_i (by omega))) hn.2.1.2 (fun j q1 q2 => e0 j (dW_i (by omega))) x c).symm))
  · rw [e64]; show upd S.z 8 (iI v) 4 = _; rw [pk_un (by omega)]; exact hR.n4
  · rw [e0 65 (dW_i (by omega))]; show upd S.z 8 (iI v) 6 = _; rw [pk_un (by omega)]; exact hR.n6
  · rw [e0 66 (dW_i (by omega))]; show upd S.z 8 (iI v) 7 = _; rw [pk_un (by omega)]; exact hR.n7
  · rw [uI_s]; exact (pk_us : upd S.z 8 (iI v) 8 = iI v)
  · rw [e64] at g2; rw [e0 _ (dW_i (by omega))]; exact hR.m0 a' g1 g2
  · rw [e64] at g2; rw [e0 _ (dW_i (by omega))]; exact hR.m1 a' g1 g2
  · rw [e64] at g2; rw [e0 _ (dW_i (by omega))]; exact hR.m2 a' g1 g2
  · rw [e64] at g2; exact hR.u a' g1 g2
  · rw [e64] at g2; have pc := hW.pc ⟨g1, g2⟩; rw [e0 (70 + 40 * a') (dW_i (by omega))] at g4; rw [e0 _ (dW_i (by omega))]; exact hR.r0 a' p' g1 g2 g3 g4
  · rw [e64] at g2; have pc := hW.pc ⟨g1, g2⟩; rw [e0 (70 + 40 * a') (dW_i (by omega))] at g4; rw [e0 _ (dW_i (by omega))]; exact hR.r1 a' p' g1 g2 g3 g4
  · rw [e64] at g2; have pc := hW.pc ⟨g1, g2⟩; rw [e0 (70 + 40 * a') (dW_i (by omega))] at g4; rw [e0 _ (dW_i (by omega))]; exact hR.r2 a' p' g1 g2 g3 g4
  · rw [e64] at g2; have pc := hW.pc ⟨g1, g2⟩; rw [e0 (70 + 40 * a') (dW_i (by omega))] at g4; rw [e0 _ (dW_i (by omega))]; exact hR.r3 a' p' g1 g2 g3 g4
  · exact hR.f i
  · rw [e0 65 (dW_i (by omega))] at g2; rw [e0 _ (dW_i (by omega))]; exact hR.v0 t g1 g2
  · rw [e0 65 (dW_i (by omega))] at g2; rw [e0 _ (dW_i (by omega))]; exact hR.v1 t g1 g2
  · rw [e0 65 (dW_i (by omega))] at g2; rw [e0 _ (dW_i (by omega))] at g3 ⊢; exact hR.v2 t g1 g2 g3
  · rw [e0 65 (dW_i (by omega))] at g2; rw [e0 _ (dW_i (by omega))] at g3 ⊢; exact hR.v3 t g1 g2 g3
  · rw [e0 65 (dW_i (by omega))] at g2; rw [e0 _ (dW_i (by omega))] at g3 ⊢; exact hR.v4 t g1 g2 g3
theorem hST_fr {h h' : zH} (hT : hST h tS) (hb : tS < b ∨ b + 30 ≤ tS) (hf : fr b 30 h h') : hST h' tS := by
  unfold hST; rw [hf tS hb]; exact hT
/-- one act -/
theorem C_step {h : zH} (hT : hST h tS) (hb : tS < b ∨ b + 30 ≤ tS) (hS : SR h b A U F) (hW : WF A) {a p : Int} (hv : vP A a p) (hp : 1 ≤ p) (hcu : p ≠ A (71 + 40 * a)) {kl : Nat} {c : zKl} (hK : KL D h kl c) (hc4 : c.2.length ≤ 4) {i : Nat} {y : Int × Int} (hi : c.2[i]? = some y) (hy : vAct y) (w : Int) :
    ∃ h', f_X6_doActs_c55 tS (some b) (iI a) (iI p) (some (b + 4 + 6 * a.toNat)) (some kl) (iI w) (iI (i : Int)) h = some (.inl (some b, iI a, iI p, some (b + 4 + 6 * a.toNat), some kl, iI (if y.1 = 111 then y.2 else w), iI ((i : Int) + 1), h')) ∧ SR h' b (stepA A a p y) U F ∧ fr b 30 h h' := by
  have v1 := hW.vp hv
  have ha : a.toNat < 3 := by omega
  have hil : i < c.2.length := (List.getElem?_eq_some_iff.mp hi).1
  obtain ⟨t, ka, kd, fa, fd, -, k1, k2, k3, k4, -⟩ := hK
  obtain ⟨f1, f2⟩ := k4 i y hi
  have hvr : 0 ≤ y.1 ∧ y.1 ≤ 200 ∧ 0 ≤ y.2 ∧ y.2 ≤ 3 := by unfold vAct at hy; omega
  have hSt : ∃ S, SAt h b S ∧ SRel A U F S := hS
  obtain ⟨S, s1, s2⟩ := hSt
  have ne : ∀ v : Int, v ≠ y.1 → (-1000 ≤ v ∧ v ≤ 1000) → ¬ iI y.1 = iI v := fun v hv hr => by
    rw [iI_eq (by omega) (by omega) (by omega) (by omega)]; omega
  unfold f_X6_doActs_c55
  rw [z_gI_k k1 rfl, Option.bind_some, if_neg (nLe (by omega)), z_gA_k k1 rfl, Option.bind_some, z_aI_k k3 (Or.inl rfl) (by omega) (by omega) (by decide), Option.bind_some, z_gA_k k1 rfl, Option.bind_some, z_aI_k k2 (Or.inl rfl) (by omega) (by omega) (by decide), Option.bind_some, show (i : Int).toNat = i by omega, f1, f2]
  by_cases y4 : y.1 = 100
  · obtain ⟨h', q1, q2, q3⟩ := C_letGo hS hW hv
    refine ⟨h', ?_, by unfold stepA; rw [if_neg (by omega), if_neg (by omega), if_neg (by omega), if_pos y4]; exact q2, q3⟩
    rw [if_pos (by rw [y4]; decide), Sck s1, Option.bind_some, q1, Option.bind_some, f_X6_doActs_b184, if_neg (by omega), iI_lit, iI_add]
  · rw [if_neg (show ¬ iI y.1 = (100 : Int32) by rw [iI_lit]; exact ne 100 (by omega) (by omega))]
    by_cases y1 : y.1 = 102
    · obtain ⟨h', q1, q2, q3⟩ := C_move hT hS hW hv hp hcu
      refine ⟨h', ?_, by unfold stepA; rw [if_pos y1]; exact q2, q3⟩
      rw [if_pos (by rw [y1]; decide), Sck s1, Option.bind_some, q1, z_b2_some, f_X6_doActs_b184, if_neg (by omega), iI_lit, iI_add]
    · rw [if_neg (show ¬ iI y.1 = (102 : Int32) by rw [iI_lit]; exact ne 102 (by omega) (by omega))]
      by_cases y2 : y.1 = 103
      · obtain ⟨h', q1, q2, q3⟩ := C_grab hT hb hS hW hv
        refine ⟨h', ?_, by unfold stepA; rw [if_neg y1, if_pos y2]; exact q2, q3⟩
        rw [if_pos (by rw [y2]; decide), Sck s1, Option.bind_some, q1, Option.bind_some, f_X6_doActs_b184, if_neg (by omega), iI_lit, iI_add]
      · rw [if_neg (show ¬ iI y.1 = (103 : Int32) by rw [iI_lit]; exact ne 103 (by omega) (by omega))]
        by_cases y3 : y.1 = 112
        · obtain ⟨h', q1, q2, q3⟩ := C_passOn hS hW hv hp
          refine ⟨h', ?_, by unfold stepA; rw [if_neg y1, if_neg y2, if_pos y3]; exact q2, q3⟩
          rw [if_pos (by rw [y3]; decide), Sck s1, Option.bind_some, q1, Option.bind_some, f_X6_doActs_b184, if_neg (by omega), iI_lit, iI_add]
        · rw [if_neg (show ¬ iI y.1 = (112 : Int32) by rw [iI_lit]; exact ne 112 (by omega) (by omega))]
          by_cases y5 : y.1 = 115
          · refine ⟨_, ?_, ⟨_, SAt_r s1 ha (j := 1) (by omega) (upd (S.r a.toNat 1) p.toNat (iI y.2)), by unfold stepA; rw [if_neg y1, if_neg y2, if_neg y3, if_neg y4, if_pos y5]; exact SRel_mem s2 hW hv⟩, fr_up (by omega) (by omega)⟩
            rw [if_pos (by rw [y5]; decide), Ag5 s1 ha, Option.bind_some, AwR s1 ha (by omega) (by omega) (by omega), Option.bind_some, f_X6_doActs_b184, if_neg (by omega), iI_lit, iI_add]
          · have y6 : y.1 = 111 := by unfold vAct at hy; omega
            refine ⟨h, ?_, ⟨S, s1, by unfold stepA; rw [if_neg y1, if_neg y2, if_neg y3, if_neg y4, if_neg y5]; exact s2⟩, fr_rf _ _ _⟩
            rw [if_neg (show ¬ iI y.1 = (115 : Int32) by rw [iI_lit]; exact ne 115 (by omega) (by omega)), f_X6_doActs_b184, if_pos y6, iI_lit, iI_add]
theorem C_acts {a p : Int} (hp : 1 ≤ p) {kl : Nat} {c : zKl} (hc4 : c.2.length ≤ 4) (hca : ∀ y, y ∈ c.2 → vAct y) (hb : tS < b ∨ b + 30 ≤ tS) (hD : ∀ q, D q → q < b ∨ b + 30 ≤ q) : ∀ (n i : Nat) (A : Int → Int) (h : zH) (w : Int), i + n = c.2.length → hST h tS → SR h b A U F → WF A → vP A a p → p ≠ A (71 + 40 * a) → KL D h kl c →
    ∃ h', f_X6_doActs_b55 tS (some b) (iI a) (iI p) (some (b + 4 + 6 * a.toNat)) (some kl) (iI w) (iI (i : Int)) h = some (iI (actsW w (c.2.drop i)), h') ∧ SR h' b (actsA A a p (c.2.drop i)) U F ∧ fr b 30 h h' := by
  intro n
  induction n with
  | zero =>
    intro i A h w hi hT hS hW hv hcu hK
    have e : c.2.drop i = [] := List.drop_eq_nil_of_le (by omega)
    rw [e]
    refine ⟨h, ?_, hS, fr_rf _ _ _⟩
    unfold f_X6_doActs_b55
    refine z_it_done ?_
    show f_X6_doActs_c55 tS (some b) (iI a) (iI p) (some (b + 4 + 6 * a.toNat)) (some kl) (iI w) (iI (i : Int)) h = _
    obtain ⟨t, ka, kd, fa, fd, -, k1, k2, k3, k4, -⟩ := hK
    unfold f_X6_doActs_c55
    rw [z_gI_k k1 rfl, Option.bind_some, if_pos (cLe (by omega))]
    rfl
  | succ n ih =>
    intro i A h w hi hT hS hW hv hcu hK
    have hlt : i < c.2.length := by omega
    have hd : c.2.drop i = c.2[i] :: c.2.drop (i + 1) := List.drop_eq_getElem_cons hlt
    have hya := hca _ (List.getElem_mem hlt)
    obtain ⟨h1, q1, q2, q3⟩ := C_step hT hb hS hW hv hp hcu hK hc4 (i := i) (y := c.2[i]) (by simp [hlt]) hya w
    have kk := kT_step hW hv c.2[i]
    have v1 := hW.vp hv
    obtain ⟨h2, r1, r2, r3⟩ := ih (i + 1) (stepA A a p c.2[i]) h1 (if c.2[i].1 = 111 then c.2[i].2 else w) (by omega) (hST_fr hT hb q3) q2 (WF_step hW hv hp hya) ((kT_vP kk hW.n.1.2 a p).mpr hv) (by rw [kk _ (by omega)]; exact hcu) (KL_mono (fun q hq => ⟨hq, q3 q (hD q hq)⟩) hK)
    rw [hd]
    refine ⟨h2, ?_, r2, fr_tr q3 r3⟩
    show _ = some (iI (actsW (if c.2[i].1 = 111 then c.2[i].2 else w) (c.2.drop (i + 1))), h2)
    rw [← r1]
    unfold f_X6_doActs_b55
    exact z_it_next (s := (some b, iI a, iI p, some (b + 4 + 6 * a.toNat), some kl, iI w, iI (i : Int), h)) q1
end CT
