/-! WHAT A PIECE SENSES, as bits -/
def sb1 (w g : Int) (ho ti : Bool) : Int32 :=
  if ti = true then (if ho = true then ((iI 16384 ||| (iI 1 <<< (iI w &&& iI 31))) ||| (iI 256 <<< (iI g &&& iI 31))) ||| iI 4096 else ((iI 16384 ||| (iI 1 <<< (iI w &&& iI 31))) ||| (iI 256 <<< (iI g &&& iI 31)))) ||| iI 8192
  else (if ho = true then ((iI 16384 ||| (iI 1 <<< (iI w &&& iI 31))) ||| (iI 256 <<< (iI g &&& iI 31))) ||| iI 4096 else ((iI 16384 ||| (iI 1 <<< (iI w &&& iI 31))) ||| (iI 256 <<< (iI g &&& iI 31))))
def sb2 (x : Int32) (t : Nat → Bool) : Nat → Int32
  | 0 => x
  | k + 1 => if t k = true then sb2 x t k ||| (iI 16 <<< (iI (k : Int) &&& iI 31)) else sb2 x t k
def t4 (t0 t1 t2 t3 : Bool) : Nat → Bool
  | 0 => t0
  | 1 => t1
  | 2 => t2
  | _ => t3
set_option maxRecDepth 100000 in
theorem senb_dec : ∀ (w g d : Fin 4) (ho ti t0 t1 t2 t3 : Bool),
    (((sb2 (sb1 (w.val : Int) (g.val : Int) ho ti) (t4 t0 t1 t2 t3) 4 &&& (iI 1 <<< (iI (d.val : Int) &&& iI 31))) = 0) ↔ w.val ≠ d.val) ∧
    (((sb2 (sb1 (w.val : Int) (g.val : Int) ho ti) (t4 t0 t1 t2 t3) 4 &&& (iI 16 <<< (iI (d.val : Int) &&& iI 31))) = 0) ↔ t4 t0 t1 t2 t3 d.val = false) ∧
    (((sb2 (sb1 (w.val : Int) (g.val : Int) ho ti) (t4 t0 t1 t2 t3) 4 &&& (iI 256 <<< (iI (d.val : Int) &&& iI 31))) = 0) ↔ g.val ≠ d.val) ∧
    (((sb2 (sb1 (w.val : Int) (g.val : Int) ho ti) (t4 t0 t1 t2 t3) 4 &&& iI 4096) = 0) ↔ ho = false) ∧
    (((sb2 (sb1 (w.val : Int) (g.val : Int) ho ti) (t4 t0 t1 t2 t3) 4 &&& iI 8192) = 0) ↔ ti = false) ∧
    ¬ ((sb2 (sb1 (w.val : Int) (g.val : Int) ho ti) (t4 t0 t1 t2 t3) 4 &&& iI 16384) = 0) := by decide +kernel
noncomputable def dcd (P : Prop) : Bool := @decide P (Classical.propDecidable P)
theorem dcd_t {P : Prop} : (dcd P = true) = P := by unfold dcd; simp
theorem dcd_f {P : Prop} : (dcd P = false) = ¬ P := by unfold dcd; simp
noncomputable def sens (A : Int → Int) (a p : Int) : Int32 := sb2 (sb1 (A (96 + 40 * a + (p - 1))) (A (82 + 40 * a + p)) (dcd (0 ≤ A (89 + 40 * a + p))) (dcd (isTip A a p))) (fun k => dcd (near A (A (75 + 40 * a + p)) (k : Int))) 4
section SN
variable {A : Int → Int} {U : Int → Option Nat} {F : Nat → Nat → Int32} {S : zS} {h : zH} {b : Nat} {D : Nat → Prop}
theorem sb2_cg (x : Int32) {t t' : Nat → Bool} : ∀ n : Nat, (∀ k, k < n → t k = t' k) → sb2 x t n = sb2 x t' n
  | 0, _ => rfl
  | n + 1, hk => by
    simp only [sb2, hk n (by omega), sb2_cg x n (fun k q => hk k (by omega))]
theorem sens_ok (hW : WF A) {a p : Int} (hv : vP A a p) (hp : 1 ≤ p) (y : Int × Int) (hy : vA y) : (sens A a p &&& bitv y = 0) = ¬ sn A a p y.1 y.2 := by
  have hv2 := hv.2
  have hm := hW.me hv
  have hs := hW.sa (a := a) (p := p - 1) ⟨hv.1, by omega, by omega⟩
  have fin : ∀ x : Int, 0 ≤ x ∧ x ≤ 3 → ∃ f : Fin 4, x = (f.val : Int) := fun x hx => ⟨⟨x.toNat, by omega⟩, by simp only; omega⟩
  obtain ⟨w, ew⟩ := fin _ hs
  obtain ⟨g, eg⟩ := fin _ hm
  have es : sens A a p = sb2 (sb1 (w.val : Int) (g.val : Int) (dcd (0 ≤ A (89 + 40 * a + p))) (dcd (isTip A a p))) (t4 (dcd (near A (A (75 + 40 * a + p)) 0)) (dcd (near A (A (75 + 40 * a + p)) 1)) (dcd (near A (A (75 + 40 * a + p)) 2)) (dcd (near A (A (75 + 40 * a + p)) 3))) 4 := by
    unfold sens
    rw [ew, eg]
    refine sb2_cg _ 4 (fun k hk => ?_)
    rcases (show k = 0 ∨ k = 1 ∨ k = 2 ∨ k = 3 by omega) with rfl | rfl | rfl | rfl <;> rfl
  rw [es]
  have dec := fun d => senb_dec w g d (dcd (0 ≤ A (89 + 40 * a + p))) (dcd (isTip A a p)) (dcd (near A (A (75 + 40 * a + p)) 0)) (dcd (near A (A (75 + 40 * a + p)) 1)) (dcd (near A (A (75 + 40 * a + p)) 2)) (dcd (near A (A (75 + 40 * a + p)) 3))
  have tN : ∀ d : Fin 4, t4 (dcd (near A (A (75 + 40 * a + p)) 0)) (dcd (near A (A (75 + 40 * a + p)) 1)) (dcd (near A (A (75 + 40 * a + p)) 2)) (dcd (near A (A (75 + 40 * a + p)) 3)) d.val = dcd (near A (A (75 + 40 * a + p)) (d.val : Int)) := by
    intro d
    rcases (show d.val = 0 ∨ d.val = 1 ∨ d.val = 2 ∨ d.val = 3 by omega) with e | e | e | e <;> rw [e] <;> rfl
  unfold sn bitv
  rcases hy with ⟨h1 | h1 | h1, h2⟩ | ⟨h1 | h1 | h1, h2⟩ <;> rw [h1]
  · obtain ⟨d, ed⟩ := fin _ h2
    simp only [if_true]
    rw [ed, propext (dec d).1, ew]
    exact propext ⟨fun e q => e (by omega), fun e q => e (by omega)⟩
  · obtain ⟨d, ed⟩ := fin _ h2
    rw [if_neg (by decide), if_pos rfl, if_neg (by decide), if_pos rfl, ed, propext (dec d).2.1, tN, dcd_f]
  · obtain ⟨d, ed⟩ := fin _ h2
    rw [if_neg (by decide), if_neg (by decide), if_pos rfl, if_neg (by decide), if_neg (by decide), if_pos rfl, ed, propext (dec d).2.2.1, eg]
    exact propext ⟨fun e q => e (by omega), fun e q => e (by omega)⟩
  · rw [if_neg (by decide), if_neg (by decide), if_neg (by decide), if_pos rfl, if_neg (by decide), if_neg (by decide), if_neg (by decide), if_pos rfl, propext (dec 0).2.2.2.1, dcd_f]
  · rw [if_neg (by decide), if_neg (by decide), if_neg (by decide), if_neg (by decide), if_pos rfl, if_neg (by decide), if_neg (by decide), if_neg (by decide), if_neg (by decide), if_pos rfl, propext (dec 0).2.2.2.2.1, dcd_f]
  · rw [if_neg (by decide), if_neg (by decide), if_neg (by decide), if_neg (by decide), if_neg (by decide), if_neg (by decide), if_neg (by decide), if_neg (by decide), if_neg (by decide), if_neg (by decide)]
    exact propext ⟨fun e => absurd e (dec 0).2.2.2.2.2, fun e => absurd trivial e⟩
theorem near_iff {c x : Int} (hc : 0 ≤ c ∧ c < 64) : (∃ d, (0 ≤ d ∧ d < 64) ∧ (∃ t, ly A t d ∧ A (492 + 4 * t) = x) ∧ (d = c ∨ d = bes c 0 ∨ d = bes c 1 ∨ d = bes c 2 ∨ d = bes c 3)) ↔ near A c x := by
  constructor
  · rintro ⟨d, hd, ⟨t, h1, h2⟩, h3⟩
    rcases h3 with e | e | e | e | e
    · exact ⟨-1, by omega, by unfold atS; rw [if_pos (by omega), ← e]; exact ⟨hd.1, t, h1, h2⟩⟩
    · exact ⟨0, by omega, by unfold atS; rw [if_neg (by omega), ← e]; exact ⟨hd.1, t, h1, h2⟩⟩
    · exact ⟨1, by omega, by unfold atS; rw [if_neg (by omega), ← e]; exact ⟨hd.1, t, h1, h2⟩⟩
    · exact ⟨2, by omega, by unfold atS; rw [if_neg (by omega), ← e]; exact ⟨hd.1, t, h1, h2⟩⟩
    · exact ⟨3, by omega, by unfold atS; rw [if_neg (by omega), ← e]; exact ⟨hd.1, t, h1, h2⟩⟩
  · rintro ⟨s, hs, h0, t, h1, h2⟩
    have rg := atS_rg (s := s) hc
    refine ⟨atS c s, ⟨h0, rg.2⟩, ⟨t, h1, h2⟩, ?_⟩
    unfold atS
    rcases (show s = -1 ∨ s = 0 ∨ s = 1 ∨ s = 2 ∨ s = 3 by omega) with rfl | rfl | rfl | rfl | rfl
    · left; rw [if_pos (by omega)]
    · right; left; rw [if_neg (by omega)]
    · right; right; left; rw [if_neg (by omega)]
    · right; right; right; left; rw [if_neg (by omega)]
    · right; right; right; right; rw [if_neg (by omega)]
theorem C_taste (hS : SAt h b S) (hR : SRel A U F S) (hW : WF A) {c : Int} (hc : 0 ≤ c ∧ c < 64) (x : Int32) : f_X6_senses_b69 (some b) x (bset (fun d => d = c ∨ d = bes c 0 ∨ d = bes c 1 ∨ d = bes c 2 ∨ d = bes c 3)) (iI 0) h = some (sb2 x (fun k => dcd (near A c (k : Int))) 4, h) := by
  unfold f_X6_senses_b69
  refine z_for0 (fun i : Nat => ((some b, sb2 x (fun k => dcd (near A c (k : Int))) i, bset (fun d => d = c ∨ d = bes c 0 ∨ d = bes c 1 ∨ d = bes c 2 ∨ d = bes c 3), iI (i : Int), h) : Option Nat × Int32 × Int64 × Int32 × zH)) 4 (fun i hi => ?_) ?_
  · show f_X6_senses_c69 (some b) _ _ (iI (i : Int)) h = _
    unfold f_X6_senses_c69
    rw [Sg2 hS, Option.bind_some, Slen1 hS, Option.bind_some, if_neg (nLe (by omega)), Option.bind_some, SL hS (by omega) (by omega), Option.bind_some, hR.l (i : Int) (by omega) (by omega), bset_and]
    simp only [iI_lit, iI_add, iI_sub, iI_mul, iI_neg]
    rw [cmpite0, propext (near_iff (A := A) (x := (i : Int)) hc)]
    simp only [sb2, f_X6_senses_b102, iI_lit, iI_add, iI_sub, iI_mul, iI_neg]
    by_cases q : near A c (i : Int)
    · rw [if_pos q, if_pos (by rw [dcd_t]; exact q)]; rfl
    · rw [if_neg q, if_neg (by rw [dcd_t]; exact q)]; rfl
  · show f_X6_senses_c69 (some b) _ _ (iI 4) h = _
    unfold f_X6_senses_c69
    rw [Sg2 hS, Option.bind_some, Slen1 hS, Option.bind_some, if_pos (by decide)]
    rfl
theorem C_senses (hS : SAt h b S) (hR : SRel A U F S) (hW : WF A) {a p : Int} (hv : vP A a p) (hp : 1 ≤ p) : f_X6_senses (some b) (some (b + 4 + 6 * a.toNat)) (iI p) h = some (sens A a p, h) := by
  have v1 := hW.vp hv
  have hv2 := hv.2
  have ha : a.toNat < 3 := by omega
  have hc := hW.ce hv
  have ho := hW.ho hv
  have hn := hW.n
  have b55 : ∀ x : Int32, f_X6_senses_b55 (some b) (some (b + 4 + 6 * a.toNat)) (iI p) x h = some (sb2 x (fun k => dcd (near A (A (75 + 40 * a + p)) (k : Int))) 4, h) := by
    intro x
    unfold f_X6_senses_b55
    rw [Ag4 hS ha, Option.bind_some, Arow hS ha (by omega) (by omega) (by omega), Option.bind_some, hR.r0 a p hv.1.1 hv.1.2 hv.2.1 hv.2.2, C_near hc.1 hc.2, z_b2_some, iI_lit]
    exact C_taste hS hR hW hc x
  have b41 : ∀ x : Int32, f_X6_senses_b41 (some b) (some (b + 4 + 6 * a.toNat)) (iI p) x h = some (sb2 (if dcd (isTip A a p) = true then x ||| iI 8192 else x) (fun k => dcd (near A (A (75 + 40 * a + p)) (k : Int))) 4, h) := by
    intro x
    unfold f_X6_senses_b41
    rw [Ack hS ha, Option.bind_some, C_isTip hS hR hW hv, z_b2_some]
    simp only [iI_lit, iI_add, iI_sub, iI_mul, iI_neg]
    rw [ite_tb, b55, b55]
    by_cases q : isTip A a p
    · rw [if_pos q, if_pos (by rw [dcd_t]; exact q)]
    · rw [if_neg q, if_neg (by rw [dcd_t]; exact q)]
  unfold f_X6_senses
  rw [Ag7 hS ha, Option.bind_some]
  simp only [iI_lit, iI_add, iI_sub, iI_mul, iI_neg]
  rw [Arow hS ha (by omega) (by omega) (by omega), Option.bind_some, hR.r3 a (p - 1) hv.1.1 hv.1.2 (by omega) (by omega), Ag5 hS ha, Option.bind_some, Arow hS ha (by omega) (by omega) (by omega), Option.bind_some, hR.r1 a p hv.1.1 hv.1.2 hv.2.1 hv.2.2, Ag6 hS ha, Option.bind_some, Arow hS ha (by omega) (by omega) (by omega), Option.bind_some, hR.r2 a p hv.1.1 hv.1.2 hv.2.1 hv.2.2, iteLt (by omega), b41, b41]
  unfold sens sb1
  by_cases q : A (89 + 40 * a + p) < 0
  · rw [if_pos q, if_neg (show ¬ dcd (0 ≤ A (89 + 40 * a + p)) = true by rw [dcd_t]; omega)]
  · rw [if_neg q, if_pos (show dcd (0 ≤ A (89 + 40 * a + p)) = true by rw [dcd_t]; omega)]
theorem C_first (hW : WF A) {a p : Int} (hv : vP A a p) (hp : 1 ≤ p) {r : Nat} {q : List zKl} (hr : RU D h (some r) q) (hq : q.length ≤ 6) (hk : ∀ c, c ∈ q → vK c) : f_X5_firstFor (some r) (sens A a p) h = some (iI (fndx A a p q 0), h) := by
  obtain ⟨e, -⟩ | ⟨r', rc, f, e, -, h2, h3, h4⟩ := hr
  · cases e
  · cases e
    have tl : ∀ (n : Nat) (k : Nat), k + n = q.length → f_X5_firstFor_b2 (some r) (sens A a p) (iI (k : Int)) h = some (iI (fndx A a p (q.drop k) (k : Int)), h) := by
      intro n
      induction n with
      | zero =>
        intro k hk2
        have : q.drop k = [] := List.drop_eq_nil_of_le (by omega)
        rw [this]
        unfold f_X5_firstFor_b2
        refine z_it_done ?_
        show f_X5_firstFor_c2 (some r) (sens A a p) (iI (k : Int)) h = _
        unfold f_X5_firstFor_c2
        rw [z_gI_k h2 rfl, Option.bind_some, if_pos (cLe (by omega))]
        rfl
      | succ n ih =>
        intro k hk2
        have hlt : k < q.length := by omega
        have hd : q.drop k = q[k] :: q.drop (k + 1) := List.drop_eq_getElem_cons hlt
        obtain ⟨kk, k1, t, ka, kd, fa, fd, -, k2, -, -, -, k3⟩ := h4 k q[k] (by simp [hlt])
        have hh := C_holds (D := D) (h := h) (sens_ok hW hv hp) 4 6 0 (by omega) (by omega) (by omega) q[k].1 t (hk _ (List.getElem_mem hlt)).1 k3
        have pre : f_X5_firstFor_c2 (some r) (sens A a p) (iI (k : Int)) h = @ite _ (evL (evX (sn A a p) 4) q[k].1 True) (Classical.propDecidable _) (some (.inr (iI (k : Int), h))) (some (.inl (some r, sens A a p, iI ((k + 1 : Nat) : Int), h))) := by
          unfold f_X5_firstFor_c2
          rw [z_gI_k h2 rfl, Option.bind_some, if_neg (nLe (by omega)), z_gA_k h2 rfl, Option.bind_some, z_aA_k h3 (by omega) (by omega) (by omega) (by decide), Option.bind_some]
          simp only [iI_lit, iI_add, iI_sub, iI_mul, iI_neg]
          rw [show (k : Int).toNat = k by omega, k1, z_gA_k k2 rfl, Option.bind_some, hh, z_b2_some, ite_tb]
          rfl
        rw [hd]
        by_cases ev : evL (evX (sn A a p) 4) q[k].1 True
        · rw [if_pos ev] at pre
          unfold f_X5_firstFor_b2
          refine (z_it_done (s := (some r, sens A a p, iI (k : Int), h)) pre).trans ?_
          simp only [fndx, if_pos ev]
        · rw [if_neg ev] at pre
          have e : fndx A a p (q[k] :: q.drop (k + 1)) (k : Int) = fndx A a p (q.drop (k + 1)) ((k + 1 : Nat) : Int) := by rw [fndx, if_neg ev]; rfl
          rw [e, ← ih (k + 1) (by omega)]
          unfold f_X5_firstFor_b2
          exact z_it_next (s := (some r, sens A a p, iI (k : Int), h)) pre
    have := tl q.length 0 (by omega)
    rw [List.drop_zero] at this
    unfold f_X5_firstFor
    rw [iI_lit]
    exact this
theorem C_clauseFor (hS : SAt h b S) (hR : SRel A U F S) (hW : WF A) {a p : Int} (hv : vP A a p) (hp : 1 ≤ p) {q : List zKl} (hr : RU D h (U a) q) (hq : q.length ≤ 6) (hk : ∀ c, c ∈ q → vK c) : f_X6_clauseFor (some b) (some (b + 4 + 6 * a.toNat)) (iI p) h = some (iI (fndx A a p q 0), h) := by
  have v1 := hW.vp hv
  have ha : a.toNat < 3 := by omega
  unfold f_X6_clauseFor
  rw [Au hS ha, Option.bind_some, hR.u a hv.1.1 hv.1.2]
  cases hu : U a with
  | none =>
    rw [hu] at hr
    obtain ⟨-, e⟩ | ⟨_, _, _, e, -⟩ := hr
    · rw [if_pos rfl, e]; rfl
    · cases e
  | some r =>
    rw [hu] at hr
    have hck : z_ck h 5 (some r) = some r := by
      obtain ⟨e, -⟩ | ⟨_, _, _, e, -, h2, -⟩ := hr
      · cases e
      · cases e; exact z_ck_k h2
    rw [if_neg (by simp), Option.bind_some, Sck hS, Option.bind_some, C_senses hS hR hW hv hp, z_b2_some, hck, Option.bind_some, C_first hW hv hp hr hq hk, z_b2_some]
end SN
