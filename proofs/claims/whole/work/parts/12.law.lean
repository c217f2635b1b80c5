/-! THE CLAIM OUT OF ONE WALK OF THE LAW'S BODY. Your part is whole_start (and what it stands on); all else here is the same for every law, but numbers. -/
def R_law : String := "ThinkingArmsLaw"
def lw_P (b : Addr) (xs : List Int32) (args : Array Value) (s : State) : Prop := args = #[.ref b] ∧ s.IntsAt b xs ∧ xs.length ≤ 3072 ∧ (Jvm.Cond.and given_1 narrow_1).before args s = true
def lw_Q (_ : Array Value) (s : State) (o : Outcome) (t : State) : Prop := o = .returned (some (.int 1)) ∧ Framed s o t [] 600000 7302250
def lw_Z (below : List Frame) (a : Array Value) (s : State) : State → Prop := fun t => ∃ o, t.status = .running ∧ Ended t below o ∧ lw_Q a s o t
/-- the law's own end, with 1 on the stack, nothing written that was there before, its room as the claim has it -/
theorem lw_ret {p : Program} {l : Launch} {e : Env} {s : State} {m : MethodId} {below : List Frame} {meth : Method} {c : Code} {b : Nat} (hx : p.tables.exec = Jvm.exec) (hb : c.code = code) (hr : meth.sig.returnType = ret) (hlocks : meth.locks = false) {pc : Nat} {H : Heap} {ls : Array Slot} (hdg : decode code pc = .ok (.ireturn, 1)) : W p l e room_1 s m #[Value.ref b] below meth c H [] 600000 7302250 (lw_Z below #[Value.ref b] s) (F0 m pc ls [.int 1]) := by
  intro T hT X
  obtain ⟨fs, hret, hrun, hended, hW, hframe⟩ := X.leave (v := some (.int 1)) (hlocks := hlocks) (fun h => by rw [hr] at h; cases h)
  have hmeth' : T.vm.method? m = some meth := X.method'
  refine ⟨T.setFrames fs, ?_, .returned (some (.int 1)), hrun, hended, rfl, ⟨_, rfl⟩, hW, hframe⟩
  jvm_step X.here [X.here.top, hx, hb, hdg, hmeth', hr, ret, narrow_b1]
  (try refine ⟨rfl, ?_⟩); (try refine ⟨rfl, ?_⟩)
  first | (intro acts; rw [hret _ acts rfl rfl rfl]) | rw [hret _ _ rfl rfl rfl]
  exact Steps.refl _
/-- what holds at the law's entry: the machine, the code, the tables' words (any of lw_tbl by 'hts w (by decide +kernel)'), the script of L ints xs at the cell b, what the Statement gives of the start (any of its parts by flat_of_before) -/
def lw_At (p : Program) (s : State) (m : MethodId) (meth : Method) (c : Code) (b L : Nat) (xs : Nat → Int32) : Prop :=
  p.tables.exec = Jvm.exec ∧ c.code = code ∧ meth.sig.returnType = ret ∧ c.maxLocals = 4 ∧ s.vm.findClass R_law = some m.cls ∧ (∀ w ∈ lw_tbl, w.before #[Value.ref b] s = true) ∧ va_X b L xs s s.heap ∧ b < s.heap.size ∧ meth.locks = false ∧ (Jvm.Cond.and given_1 narrow_1).before #[Value.ref b] s = true
theorem z_lawW {X : zX} {lnm : String} {pc pc' : Nat} {lv : List (Nat × zTV)} {h : zH} {nx k z : Nat} (K : z_Ok X cL_law (some .boolean) RL lnm) (hR : X.2.1 = room_1) (d : z_D cL_law pc .ireturn 1 pc') {b : Nat} (hb : X.1.2.2.2.2.2.1 = #[Value.ref b]) (hQ : X.2.2.2.2 = lw_Z X.1.2.2.2.2.2.2.1 X.1.2.2.2.2.2.1 X.1.2.2.2.1) (hn : X.2.2.1.1 = X.1.2.2.2.1.heap.size) (hk : k ≤ 600000) (hz : z ≤ 7302250) : zV X pc lv [tI 1] h nx k z := by
  obtain ⟨⟨p, l, e, s, m, args, below, meth, c⟩, R, G, nL, Q⟩ := X
  dsimp only at hR hb hQ hn
  subst hR; subst hb; subst hQ
  intro H locs ls hH hS hl
  obtain ⟨d, rfl⟩ := d
  refine va_forget (fun q hq => ?_) ?_
  · have := hS.2.2 q hq
    dsimp only [z_A] at this
    rw [hn] at this
    exact this
  · refine W.widen hk hz ?_
    exact lw_ret K.1 K.2.1 K.2.2.1 K.2.2.2.2.2.2.1 d
def z_P0L (X : zX) (nx0 z0 : Nat) (nz : Nat × Nat) (x : Int32 × zH) : Prop := x.1 = 1 ∧ (∃ b : Nat, X.1.2.2.2.2.2.1 = #[Value.ref b]) ∧ X.2.1 = room_1 ∧ X.2.2.2.2 = lw_Z X.1.2.2.2.2.2.2.1 X.1.2.2.2.2.2.1 X.1.2.2.2.1 ∧ X.2.2.1.1 = X.1.2.2.2.1.heap.size ∧ nz.1 - nx0 ≤ 600000 ∧ nz.2 - z0 ≤ 7302250
theorem zv_lawret {X : zX} {lnm : String} {pc pc' : Nat} {lv : List (Nat × zTV)} {h : zH} {nx z nx0 z0 : Nat} {v : Int32} (K : z_Ok X cL_law (some .boolean) RL lnm) (d : z_D cL_law pc .ireturn 1 pc') (hp : z_P0L X nx0 z0 (nx, z) (v, h)) : zV X pc lv [tI v] h nx (nx - nx0) (z - z0) := by
  obtain ⟨rfl, ⟨b, hb⟩, hR, hQ, hn, hk, hz⟩ := hp
  exact z_lawW K hR d hb hQ hn hk hz
def P_L_law_18 (X : zX) (nx0 z0 : Nat) (nz : Nat × Nat) : ((Option Nat) × (Option Nat) × (Option Nat) × Int32 × zH) ⊕ (Int32 × zH) → Prop := z_PL (fun s => zV X 18 [(0, tA s.1), (1, tA s.2.1), (2, tA s.2.2.1), (3, tI s.2.2.2.1)] [] s.2.2.2.2 nz.1 (nz.1 - nx0) (nz.2 - z0)) (z_P0L X nx0 z0 nz)
theorem m_L_law_b1200  {tS : Nat} {x0 : Option Nat} {x1 : Option Nat} {x2 : Option Nat} {x3 : Int32} {h : zH} {nx z : Nat} {x : ((Nat × Nat) × (((Option Nat) × (Option Nat) × (Option Nat) × Int32 × zH) ⊕ (Int32 × zH)))} (hf : f_L_law_b1200 tS x0 x1 x2 x3 h nx z = some x) : nx ≤ x.1.1 ∧ z ≤ x.1.2 := by
  unfold f_L_law_b1200 at hf
  cases hf
  exact ⟨by (try dsimp only at *); omega, by (try dsimp only at *); omega⟩
set_option maxHeartbeats 4000000 in
set_option maxRecDepth 100000 in
theorem v_L_law_b1200 {X : zX} {nx0 z0 : Nat} {lnm : String} (K : z_Ok X cL_law (some .boolean) RL lnm) (hX : z_Xo X room_1 4) {x0 : Option Nat} {x1 : Option Nat} {x2 : Option Nat} {x3 : Int32} {h : zH} {nx z : Nat} (hm : nx0 ≤ nx ∧ z0 ≤ z) {x : ((Nat × Nat) × (((Option Nat) × (Option Nat) × (Option Nat) × Int32 × zH) ⊕ (Int32 × zH)))} (hf : f_L_law_b1200 X.2.2.1.2.2.1 x0 x1 x2 x3 h nx z = some x) (hp : z_Pm X nx0 z0 (P_L_law_18 X nx0 z0) x) : zV X 1200 [(0, tA x0), (1, tA x1), (2, tA x2), (3, tI x3)] [] h nx (nx - nx0) (z - z0) := by
  have mB := m_L_law_b1200 hf
  unfold f_L_law_b1200 at hf
  refine zv_iinc K (x3 + (6 : Int32)) 3 [(3, tI (x3 + (6 : Int32))), (0, tA x0), (1, tA x1), (2, tA x2)] eL_law_1200 rfl rfl (z_lt hX.2 (by decide)) rfl ?_
  refine zv_goto K 18 eL_law_1203 (by decide) ?_
  cases hf
  exact zv_sub [1, 2, 3, 0] rfl (show zV X 18 [(0, tA x0), (1, tA x1), (2, tA x2), (3, tI (x3 + (6 : Int32)))] [] h nx (nx - nx0) (z - z0) from hp.2)
theorem m_L_law_b211  {tS : Nat} {x0 : Option Nat} {x1 : Option Nat} {x2 : Option Nat} {x3 : Int32} {s0 : Int32} {s1 : Option Nat} {s2 : Int32} {s3 : Int32} {s4 : Int32} {h : zH} {nx z : Nat} {x : ((Nat × Nat) × (((Option Nat) × (Option Nat) × (Option Nat) × Int32 × zH) ⊕ (Int32 × zH)))} (hf : f_L_law_b211 tS x0 x1 x2 x3 s0 s1 s2 s3 s4 h nx z = some x) : nx ≤ x.1.1 ∧ z ≤ x.1.2 := by
  unfold f_L_law_b211 at hf
  obtain ⟨_, _, hf⟩ := z_bind_inv hf
  obtain ⟨_, _, _, hf⟩ := z_b2_inv hf
  refine z_ite_inv _ hf (fun _ hf => ?_) (fun _ hf => ?_)
  · have m9 := m_L_law_b1200 hf
    exact ⟨by (try dsimp only at *); omega, by (try dsimp only at *); omega⟩
  · obtain ⟨w9, hf9, e9⟩ := z_i1m_inv hf; clear hf; subst e9; have hf := hf9; clear hf9
    cases hf
    exact ⟨by (try dsimp only at *); omega, by (try dsimp only at *); omega⟩
set_option maxHeartbeats 4000000 in
set_option maxRecDepth 100000 in
theorem v_L_law_b211 {X : zX} {nx0 z0 : Nat} {lnm : String} (K : z_Ok X cL_law (some .boolean) RL lnm) (hX : z_Xo X room_1 4) {x0 : Option Nat} {x1 : Option Nat} {x2 : Option Nat} {x3 : Int32} {s0 : Int32} {s1 : Option Nat} {s2 : Int32} {s3 : Int32} {s4 : Int32} {h : zH} {nx z : Nat} (hm : nx0 ≤ nx ∧ z0 ≤ z) {x : ((Nat × Nat) × (((Option Nat) × (Option Nat) × (Option Nat) × Int32 × zH) ⊕ (Int32 × zH)))} (hf : f_L_law_b211 X.2.2.1.2.2.1 x0 x1 x2 x3 s0 s1 s2 s3 s4 h nx z = some x) (hp : z_Pm X nx0 z0 (P_L_law_18 X nx0 z0) x) : zV X 211 [(0, tA x0), (1, tA x1), (2, tA x2), (3, tI x3)] [tI s4, tI s3, tI s2, tA s1, tI s0] h nx (nx - nx0) (z - z0) := by
  have mB := m_L_law_b211 hf
  unfold f_L_law_b211 at hf
  obtain ⟨q1, hq1, hf⟩ := z_bind_inv hf
  obtain ⟨v3, h2, eh2, hf⟩ := z_b2_inv hf
  refine zv_cV0 K [tI s2, tI s3, tI s4] [tI s0] eL_law_211 lk_L_17 md_X11_wall im_X11_wall sl_X11_wall rfl rfl rfl rfl (Nat.le_of_ble_eq_true rfl) hq1 (c_X11_wall X.1.2.1 X.2.2.1 eh2) rfl rfl ⟨z_le (z_fr hX) (by exact Nat.le_of_ble_eq_true rfl), z_le (z_lo hX) (by exact Nat.le_of_ble_eq_true rfl)⟩ (z_bd hp mB) ?_
  refine zv_icmp_eq K 1200 eL_law_214 (by decide) hf (fun _ hf => ?_) (fun _ hf => ?_)
  · exact zv_sub [0, 1, 2, 3] rfl (v_L_law_b1200 K hX (by omega) hf hp)
  · obtain ⟨w9, hf9, e9⟩ := z_i1m_inv hf; clear hf; subst e9; have hf := hf9; clear hf9
    have hp : z_Pm X nx0 z0 (z_P0L X nx0 z0) _ := hp
    refine zv_iconst K (0 : Int32) eL_law_217 (by decide) ?_
    cases hf
    exact zv_lawret K eL_law_218 hp.2
theorem m_L_law_b184  {tS : Nat} {x0 : Option Nat} {x1 : Option Nat} {x2 : Option Nat} {x3 : Int32} {s0 : Option Nat} {s1 : Int32} {s2 : Int32} {s3 : Int32} {h : zH} {nx z : Nat} {x : ((Nat × Nat) × (((Option Nat) × (Option Nat) × (Option Nat) × Int32 × zH) ⊕ (Int32 × zH)))} (hf : f_L_law_b184 tS x0 x1 x2 x3 s0 s1 s2 s3 h nx z = some x) : nx ≤ x.1.1 ∧ z ≤ x.1.2 := by
  unfold f_L_law_b184 at hf
  obtain ⟨_, _, hf⟩ := z_bind_inv hf
  obtain ⟨_, _, _, hf⟩ := z_b2_inv hf
  obtain ⟨_, _, hf⟩ := z_bind_inv hf
  obtain ⟨_, _, hf⟩ := z_bind_inv hf
  obtain ⟨_, _, hf⟩ := z_bind_inv hf
  refine z_ite_inv _ hf (fun _ hf => ?_) (fun _ hf => ?_)
  · have m9 := m_L_law_b211 hf
    exact ⟨by (try dsimp only at *); omega, by (try dsimp only at *); omega⟩
  · have m9 := m_L_law_b211 hf
    exact ⟨by (try dsimp only at *); omega, by (try dsimp only at *); omega⟩
set_option maxHeartbeats 4000000 in
set_option maxRecDepth 100000 in
theorem v_L_law_b184 {X : zX} {nx0 z0 : Nat} {lnm : String} (K : z_Ok X cL_law (some .boolean) RL lnm) (hX : z_Xo X room_1 4) {x0 : Option Nat} {x1 : Option Nat} {x2 : Option Nat} {x3 : Int32} {s0 : Option Nat} {s1 : Int32} {s2 : Int32} {s3 : Int32} {h : zH} {nx z : Nat} (hm : nx0 ≤ nx ∧ z0 ≤ z) {x : ((Nat × Nat) × (((Option Nat) × (Option Nat) × (Option Nat) × Int32 × zH) ⊕ (Int32 × zH)))} (hf : f_L_law_b184 X.2.2.1.2.2.1 x0 x1 x2 x3 s0 s1 s2 s3 h nx z = some x) (hp : z_Pm X nx0 z0 (P_L_law_18 X nx0 z0) x) : zV X 184 [(0, tA x0), (1, tA x1), (2, tA x2), (3, tI x3)] [tI s3, tI s2, tI s1, tA s0] h nx (nx - nx0) (z - z0) := by
  have mB := m_L_law_b184 hf
  unfold f_L_law_b184 at hf
  obtain ⟨q1, hq1, hf⟩ := z_bind_inv hf
  obtain ⟨v3, h2, eh2, hf⟩ := z_b2_inv hf
  refine zv_cV0 K [tI s1, tI s2, tI s3] [] eL_law_184 lk_L_13 md_X10_wall im_X10_wall sl_X10_wall rfl rfl rfl rfl (Nat.le_of_ble_eq_true rfl) hq1 (c_X10_wall X.1.2.1 X.2.2.1 eh2) rfl rfl ⟨z_le (z_fr hX) (by exact Nat.le_of_ble_eq_true rfl), z_le (z_lo hX) (by exact Nat.le_of_ble_eq_true rfl)⟩ (z_bd hp mB) ?_
  refine zv_aload_n K 2 eL_law_187 rfl ?_
  refine zv_aload_n K 0 eL_law_188 rfl ?_
  refine zv_iload_n K 3 eL_law_189 rfl ?_
  refine zv_iconst K (1 : Int32) eL_law_190 (by decide) ?_
  refine zv_iadd K eL_law_191 ?_
  refine zv_aI K eL_law_192 hf (fun v4 hf => ?_)
  refine zv_aload_n K 0 eL_law_193 rfl ?_
  refine zv_iload_n K 3 eL_law_194 rfl ?_
  refine zv_iconst K (2 : Int32) eL_law_195 (by decide) ?_
  refine zv_iadd K eL_law_196 ?_
  refine zv_aI K eL_law_197 hf (fun v5 hf => ?_)
  refine zv_aload_n K 0 eL_law_198 rfl ?_
  refine zv_iload_n K 3 eL_law_199 rfl ?_
  refine zv_iconst K (3 : Int32) eL_law_200 (by decide) ?_
  refine zv_iadd K eL_law_201 ?_
  refine zv_aI K eL_law_202 hf (fun v6 hf => ?_)
  refine zv_if_eq K 210 eL_law_203 (by decide) hf (fun _ hf => ?_) (fun _ hf => ?_)
  · refine zv_iconst K (0 : Int32) eL_law_210 (by decide) ?_
    exact zv_sub [0, 1, 2, 3] rfl (v_L_law_b211 K hX (by omega) hf hp)
  · refine zv_iconst K (1 : Int32) eL_law_206 (by decide) ?_
    refine zv_goto K 211 eL_law_207 (by decide) ?_
    exact zv_sub [0, 1, 2, 3] rfl (v_L_law_b211 K hX (by omega) hf hp)
theorem m_L_law_b542  {tS : Nat} {x0 : Option Nat} {x1 : Option Nat} {x2 : Option Nat} {x3 : Int32} {s0 : Int32} {h : zH} {nx z : Nat} {x : ((Nat × Nat) × (((Option Nat) × (Option Nat) × (Option Nat) × Int32 × zH) ⊕ (Int32 × zH)))} (hf : f_L_law_b542 tS x0 x1 x2 x3 s0 h nx z = some x) : nx ≤ x.1.1 ∧ z ≤ x.1.2 := by
  unfold f_L_law_b542 at hf
  obtain ⟨_, _, hf⟩ := z_bind_inv hf
  obtain ⟨_, _, hf⟩ := z_bind_inv hf
  obtain ⟨_, _, _, hf⟩ := z_b2_inv hf
  refine z_ite_inv _ hf (fun _ hf => ?_) (fun _ hf => ?_)
  · have m9 := m_L_law_b1200 hf
    exact ⟨by (try dsimp only at *); omega, by (try dsimp only at *); omega⟩
  · obtain ⟨w9, hf9, e9⟩ := z_i1m_inv hf; clear hf; subst e9; have hf := hf9; clear hf9
    cases hf
    exact ⟨by (try dsimp only at *); omega, by (try dsimp only at *); omega⟩
set_option maxHeartbeats 4000000 in
set_option maxRecDepth 100000 in
theorem v_L_law_b542 {X : zX} {nx0 z0 : Nat} {lnm : String} (K : z_Ok X cL_law (some .boolean) RL lnm) (hX : z_Xo X room_1 4) {x0 : Option Nat} {x1 : Option Nat} {x2 : Option Nat} {x3 : Int32} {s0 : Int32} {h : zH} {nx z : Nat} (hm : nx0 ≤ nx ∧ z0 ≤ z) {x : ((Nat × Nat) × (((Option Nat) × (Option Nat) × (Option Nat) × Int32 × zH) ⊕ (Int32 × zH)))} (hf : f_L_law_b542 X.2.2.1.2.2.1 x0 x1 x2 x3 s0 h nx z = some x) (hp : z_Pm X nx0 z0 (P_L_law_18 X nx0 z0) x) : zV X 542 [(0, tA x0), (1, tA x1), (2, tA x2), (3, tI x3)] [tI s0] h nx (nx - nx0) (z - z0) := by
  have mB := m_L_law_b542 hf
  unfold f_L_law_b542 at hf
  refine zv_aload_n K 2 eL_law_542 rfl ?_
  refine zv_aload_n K 0 eL_law_543 rfl ?_
  refine zv_iload_n K 3 eL_law_544 rfl ?_
  refine zv_iconst K (1 : Int32) eL_law_545 (by decide) ?_
  refine zv_iadd K eL_law_546 ?_
  refine zv_aI K eL_law_547 hf (fun v1 hf => ?_)
  obtain ⟨q2, hq2, hf⟩ := z_bind_inv hf
  obtain ⟨v4, h3, eh3, hf⟩ := z_b2_inv hf
  refine zv_cV0 K [tI v1] [tI s0] eL_law_548 lk_L_60 md_X11_rules im_X11_rules sl_X11_rules rfl rfl rfl rfl (Nat.le_of_ble_eq_true rfl) hq2 (c_X11_rules X.1.2.1 X.2.2.1 eh3) rfl rfl ⟨z_le (z_fr hX) (by exact Nat.le_of_ble_eq_true rfl), z_le (z_lo hX) (by exact Nat.le_of_ble_eq_true rfl)⟩ (z_bd hp mB) ?_
  refine zv_icmp_eq K 1200 eL_law_551 (by decide) hf (fun _ hf => ?_) (fun _ hf => ?_)
  · exact zv_sub [0, 1, 2, 3] rfl (v_L_law_b1200 K hX (by omega) hf hp)
  · obtain ⟨w9, hf9, e9⟩ := z_i1m_inv hf; clear hf; subst e9; have hf := hf9; clear hf9
    have hp : z_Pm X nx0 z0 (z_P0L X nx0 z0) _ := hp
    refine zv_iconst K (0 : Int32) eL_law_554 (by decide) ?_
    cases hf
    exact zv_lawret K eL_law_555 hp.2
theorem m_L_law_b875  {tS : Nat} {x0 : Option Nat} {x1 : Option Nat} {x2 : Option Nat} {x3 : Int32} {s0 : Int32} {h : zH} {nx z : Nat} {x : ((Nat × Nat) × (((Option Nat) × (Option Nat) × (Option Nat) × Int32 × zH) ⊕ (Int32 × zH)))} (hf : f_L_law_b875 tS x0 x1 x2 x3 s0 h nx z = some x) : nx ≤ x.1.1 ∧ z ≤ x.1.2 := by
  unfold f_L_law_b875 at hf
  obtain ⟨_, _, hf⟩ := z_bind_inv hf
  obtain ⟨_, _, hf⟩ := z_bind_inv hf
  obtain ⟨_, _, _, hf⟩ := z_b2_inv hf
  refine z_ite_inv _ hf (fun _ hf => ?_) (fun _ hf => ?_)
  · have m9 := m_L_law_b1200 hf
    exact ⟨by (try dsimp only at *); omega, by (try dsimp only at *); omega⟩
  · obtain ⟨w9, hf9, e9⟩ := z_i1m_inv hf; clear hf; subst e9; have hf := hf9; clear hf9
    cases hf
    exact ⟨by (try dsimp only at *); omega, by (try dsimp only at *); omega⟩
set_option maxHeartbeats 4000000 in
set_option maxRecDepth 100000 in
theorem v_L_law_b875 {X : zX} {nx0 z0 : Nat} {lnm : String} (K : z_Ok X cL_law (some .boolean) RL lnm) (hX : z_Xo X room_1 4) {x0 : Option Nat} {x1 : Option Nat} {x2 : Option Nat} {x3 : Int32} {s0 : Int32} {h : zH} {nx z : Nat} (hm : nx0 ≤ nx ∧ z0 ≤ z) {x : ((Nat × Nat) × (((Option Nat) × (Option Nat) × (Option Nat) × Int32 × zH) ⊕ (Int32 × zH)))} (hf : f_L_law_b875 X.2.2.1.2.2.1 x0 x1 x2 x3 s0 h nx z = some x) (hp : z_Pm X nx0 z0 (P_L_law_18 X nx0 z0) x) : zV X 875 [(0, tA x0), (1, tA x1), (2, tA x2), (3, tI x3)] [tI s0] h nx (nx - nx0) (z - z0) := by
  have mB := m_L_law_b875 hf
  unfold f_L_law_b875 at hf
  refine zv_aload_n K 2 eL_law_875 rfl ?_
  refine zv_aload_n K 0 eL_law_876 rfl ?_
  refine zv_iload_n K 3 eL_law_877 rfl ?_
  refine zv_iconst K (1 : Int32) eL_law_878 (by decide) ?_
  refine zv_iadd K eL_law_879 ?_
  refine zv_aI K eL_law_880 hf (fun v1 hf => ?_)
  obtain ⟨q2, hq2, hf⟩ := z_bind_inv hf
  obtain ⟨v4, h3, eh3, hf⟩ := z_b2_inv hf
  refine zv_cV0 K [tI v1] [tI s0] eL_law_881 lk_L_104 md_X11_image im_X11_image sl_X11_image rfl rfl rfl rfl (Nat.le_of_ble_eq_true rfl) hq2 (c_X11_image X.1.2.1 X.2.2.1 eh3) rfl rfl ⟨z_le (z_fr hX) (by exact Nat.le_of_ble_eq_true rfl), z_le (z_lo hX) (by exact Nat.le_of_ble_eq_true rfl)⟩ (z_bd hp mB) ?_
  refine zv_icmp_eq K 1200 eL_law_884 (by decide) hf (fun _ hf => ?_) (fun _ hf => ?_)
  · exact zv_sub [0, 1, 2, 3] rfl (v_L_law_b1200 K hX (by omega) hf hp)
  · obtain ⟨w9, hf9, e9⟩ := z_i1m_inv hf; clear hf; subst e9; have hf := hf9; clear hf9
    have hp : z_Pm X nx0 z0 (z_P0L X nx0 z0) _ := hp
    refine zv_iconst K (0 : Int32) eL_law_887 (by decide) ?_
    cases hf
    exact zv_lawret K eL_law_888 hp.2
theorem m_L_law_c18  {tS : Nat} {x0 : Option Nat} {x1 : Option Nat} {x2 : Option Nat} {x3 : Int32} {h : zH} {nx z : Nat} {x : ((Nat × Nat) × (((Option Nat) × (Option Nat) × (Option Nat) × Int32 × zH) ⊕ (Int32 × zH)))} (hf : f_L_law_c18 tS x0 x1 x2 x3 h nx z = some x) : nx ≤ x.1.1 ∧ z ≤ x.1.2 := by
  unfold f_L_law_c18 at hf
  obtain ⟨_, _, hf⟩ := z_bind_inv hf
  refine z_ite_inv _ hf (fun _ hf => ?_) (fun _ hf => ?_)
  · obtain ⟨w9, hf9, e9⟩ := z_i1m_inv hf; clear hf; subst e9; have hf := hf9; clear hf9
    cases hf
    exact ⟨by (try dsimp only at *); omega, by (try dsimp only at *); omega⟩
  · obtain ⟨_, _, hf⟩ := z_bind_inv hf
    refine z_ite_inv _ hf (fun _ hf => ?_) (fun _ hf => ?_)
    · obtain ⟨_, _, hf⟩ := z_bind_inv hf
      obtain ⟨_, _, hf⟩ := z_bind_inv hf
      obtain ⟨_, _, hf⟩ := z_bind_inv hf
      refine z_ite_inv _ hf (fun _ hf => ?_) (fun _ hf => ?_)
      · have m9 := m_L_law_b184 hf
        exact ⟨by (try dsimp only at *); omega, by (try dsimp only at *); omega⟩
      · have m9 := m_L_law_b184 hf
        exact ⟨by (try dsimp only at *); omega, by (try dsimp only at *); omega⟩
    refine z_ite_inv _ hf (fun _ hf => ?_) (fun _ hf => ?_)
    · obtain ⟨_, _, hf⟩ := z_bind_inv hf
      obtain ⟨_, _, hf⟩ := z_bind_inv hf
      obtain ⟨_, _, _, hf⟩ := z_b2_inv hf
      obtain ⟨_, _, hf⟩ := z_bind_inv hf
      obtain ⟨_, _, hf⟩ := z_bind_inv hf
      obtain ⟨_, _, _, hf⟩ := z_b2_inv hf
      refine z_ite_inv _ hf (fun _ hf => ?_) (fun _ hf => ?_)
      · have m9 := m_L_law_b1200 hf
        exact ⟨by (try dsimp only at *); omega, by (try dsimp only at *); omega⟩
      · obtain ⟨w9, hf9, e9⟩ := z_i1m_inv hf; clear hf; subst e9; have hf := hf9; clear hf9
        cases hf
        exact ⟨by (try dsimp only at *); omega, by (try dsimp only at *); omega⟩
    refine z_ite_inv _ hf (fun _ hf => ?_) (fun _ hf => ?_)
    · obtain ⟨_, _, hf⟩ := z_bind_inv hf
      obtain ⟨_, _, hf⟩ := z_bind_inv hf
      obtain ⟨_, _, hf⟩ := z_bind_inv hf
      obtain ⟨_, _, hf⟩ := z_bind_inv hf
      obtain ⟨_, _, hf⟩ := z_bind_inv hf
      obtain ⟨_, _, _, hf⟩ := z_b2_inv hf
      obtain ⟨_, _, hf⟩ := z_bind_inv hf
      obtain ⟨_, _, hf⟩ := z_bind_inv hf
      obtain ⟨_, _, hf⟩ := z_bind_inv hf
      obtain ⟨_, _, hf⟩ := z_bind_inv hf
      obtain ⟨_, _, hf⟩ := z_bind_inv hf
      obtain ⟨_, _, _, hf⟩ := z_b2_inv hf
      refine z_ite_inv _ hf (fun _ hf => ?_) (fun _ hf => ?_)
      · have m9 := m_L_law_b1200 hf
        exact ⟨by (try dsimp only at *); omega, by (try dsimp only at *); omega⟩
      · obtain ⟨w9, hf9, e9⟩ := z_i1m_inv hf; clear hf; subst e9; have hf := hf9; clear hf9
        cases hf
        exact ⟨by (try dsimp only at *); omega, by (try dsimp only at *); omega⟩
    refine z_ite_inv _ hf (fun _ hf => ?_) (fun _ hf => ?_)
    · obtain ⟨_, _, hf⟩ := z_bind_inv hf
      obtain ⟨_, _, hf⟩ := z_bind_inv hf
      obtain ⟨_, _, hf⟩ := z_bind_inv hf
      obtain ⟨_, _, hf⟩ := z_bind_inv hf
      obtain ⟨_, _, _, hf⟩ := z_b2_inv hf
      obtain ⟨_, _, hf⟩ := z_bind_inv hf
      obtain ⟨_, _, hf⟩ := z_bind_inv hf
      obtain ⟨_, _, hf⟩ := z_bind_inv hf
      obtain ⟨_, _, hf⟩ := z_bind_inv hf
      obtain ⟨_, _, _, hf⟩ := z_b2_inv hf
      refine z_ite_inv _ hf (fun _ hf => ?_) (fun _ hf => ?_)
      · have m9 := m_L_law_b1200 hf
        exact ⟨by (try dsimp only at *); omega, by (try dsimp only at *); omega⟩
      · obtain ⟨w9, hf9, e9⟩ := z_i1m_inv hf; clear hf; subst e9; have hf := hf9; clear hf9
        cases hf
        exact ⟨by (try dsimp only at *); omega, by (try dsimp only at *); omega⟩
    refine z_ite_inv _ hf (fun _ hf => ?_) (fun _ hf => ?_)
    · obtain ⟨_, _, hf⟩ := z_bind_inv hf
      obtain ⟨_, _, hf⟩ := z_bind_inv hf
      obtain ⟨_, _, hf⟩ := z_bind_inv hf
      obtain ⟨_, _, hf⟩ := z_bind_inv hf
      obtain ⟨_, _, _, hf⟩ := z_b2_inv hf
      obtain ⟨_, _, hf⟩ := z_bind_inv hf
      obtain ⟨_, _, hf⟩ := z_bind_inv hf
      obtain ⟨_, _, hf⟩ := z_bind_inv hf
      obtain ⟨_, _, hf⟩ := z_bind_inv hf
      obtain ⟨_, _, _, hf⟩ := z_b2_inv hf
      refine z_ite_inv _ hf (fun _ hf => ?_) (fun _ hf => ?_)
      · have m9 := m_L_law_b1200 hf
        exact ⟨by (try dsimp only at *); omega, by (try dsimp only at *); omega⟩
      · obtain ⟨w9, hf9, e9⟩ := z_i1m_inv hf; clear hf; subst e9; have hf := hf9; clear hf9
        cases hf
        exact ⟨by (try dsimp only at *); omega, by (try dsimp only at *); omega⟩
    refine z_ite_inv _ hf (fun _ hf => ?_) (fun _ hf => ?_)
    · obtain ⟨_, _, hf⟩ := z_bind_inv hf
      obtain ⟨_, _, hf⟩ := z_bind_inv hf
      obtain ⟨_, _, hf⟩ := z_bind_inv hf
      obtain ⟨_, _, _, hf⟩ := z_b2_inv hf
      obtain ⟨_, _, hf⟩ := z_bind_inv hf
      obtain ⟨_, _, hf⟩ := z_bind_inv hf
      obtain ⟨_, _, hf⟩ := z_bind_inv hf
      obtain ⟨_, _, _, hf⟩ := z_b2_inv hf
      refine z_ite_inv _ hf (fun _ hf => ?_) (fun _ hf => ?_)
      · have m9 := m_L_law_b1200 hf
        exact ⟨by (try dsimp only at *); omega, by (try dsimp only at *); omega⟩
      · obtain ⟨w9, hf9, e9⟩ := z_i1m_inv hf; clear hf; subst e9; have hf := hf9; clear hf9
        cases hf
        exact ⟨by (try dsimp only at *); omega, by (try dsimp only at *); omega⟩
    refine z_ite_inv _ hf (fun _ hf => ?_) (fun _ hf => ?_)
    · obtain ⟨_, _, hf⟩ := z_bind_inv hf
      obtain ⟨_, _, hf⟩ := z_bind_inv hf
      obtain ⟨_, _, _, hf⟩ := z_b2_inv hf
      obtain ⟨_, _, hf⟩ := z_bind_inv hf
      obtain ⟨_, _, hf⟩ := z_bind_inv hf
      obtain ⟨_, _, _, hf⟩ := z_b2_inv hf
      refine z_ite_inv _ hf (fun _ hf => ?_) (fun _ hf => ?_)
      · have m9 := m_L_law_b1200 hf
        exact ⟨by (try dsimp only at *); omega, by (try dsimp only at *); omega⟩
      · obtain ⟨w9, hf9, e9⟩ := z_i1m_inv hf; clear hf; subst e9; have hf := hf9; clear hf9
        cases hf
        exact ⟨by (try dsimp only at *); omega, by (try dsimp only at *); omega⟩
    refine z_ite_inv _ hf (fun _ hf => ?_) (fun _ hf => ?_)
    · obtain ⟨_, _, hf⟩ := z_bind_inv hf
      obtain ⟨_, _, hf⟩ := z_bind_inv hf
      obtain ⟨_, _, hf⟩ := z_bind_inv hf
      obtain ⟨_, _, _, hf⟩ := z_b2_inv hf
      obtain ⟨_, _, hf⟩ := z_bind_inv hf
      obtain ⟨_, _, hf⟩ := z_bind_inv hf
      obtain ⟨_, _, hf⟩ := z_bind_inv hf
      obtain ⟨_, _, _, hf⟩ := z_b2_inv hf
      refine z_ite_inv _ hf (fun _ hf => ?_) (fun _ hf => ?_)
      · have m9 := m_L_law_b1200 hf
        exact ⟨by (try dsimp only at *); omega, by (try dsimp only at *); omega⟩
      · obtain ⟨w9, hf9, e9⟩ := z_i1m_inv hf; clear hf; subst e9; have hf := hf9; clear hf9
        cases hf
        exact ⟨by (try dsimp only at *); omega, by (try dsimp only at *); omega⟩
    refine z_ite_inv _ hf (fun _ hf => ?_) (fun _ hf => ?_)
    · obtain ⟨_, _, hf⟩ := z_bind_inv hf
      obtain ⟨_, _, hf⟩ := z_bind_inv hf
      obtain ⟨_, _, hf⟩ := z_bind_inv hf
      obtain ⟨_, _, hf⟩ := z_bind_inv hf
      obtain ⟨_, _, _, hf⟩ := z_b2_inv hf
      obtain ⟨_, _, hf⟩ := z_bind_inv hf
      obtain ⟨_, _, hf⟩ := z_bind_inv hf
      obtain ⟨_, _, hf⟩ := z_bind_inv hf
      obtain ⟨_, _, hf⟩ := z_bind_inv hf
      obtain ⟨_, _, _, hf⟩ := z_b2_inv hf
      refine z_ite_inv _ hf (fun _ hf => ?_) (fun _ hf => ?_)
      · have m9 := m_L_law_b1200 hf
        exact ⟨by (try dsimp only at *); omega, by (try dsimp only at *); omega⟩
      · obtain ⟨w9, hf9, e9⟩ := z_i1m_inv hf; clear hf; subst e9; have hf := hf9; clear hf9
        cases hf
        exact ⟨by (try dsimp only at *); omega, by (try dsimp only at *); omega⟩
    refine z_ite_inv _ hf (fun _ hf => ?_) (fun _ hf => ?_)
    · obtain ⟨_, _, hf⟩ := z_bind_inv hf
      obtain ⟨_, _, hf⟩ := z_bind_inv hf
      obtain ⟨n96, eh94, hf⟩ := z_bind_inv hf
      have mn96 := m_X10_rules eh94
      have m9 := m_L_law_b542 hf
      exact ⟨by (try dsimp only at *); omega, by (try dsimp only at *); omega⟩
    refine z_ite_inv _ hf (fun _ hf => ?_) (fun _ hf => ?_)
    · obtain ⟨_, _, hf⟩ := z_bind_inv hf
      obtain ⟨_, _, hf⟩ := z_bind_inv hf
      obtain ⟨_, _, hf⟩ := z_bind_inv hf
      obtain ⟨_, _, _, hf⟩ := z_b2_inv hf
      obtain ⟨_, _, hf⟩ := z_bind_inv hf
      obtain ⟨_, _, hf⟩ := z_bind_inv hf
      obtain ⟨_, _, hf⟩ := z_bind_inv hf
      obtain ⟨_, _, _, hf⟩ := z_b2_inv hf
      refine z_ite_inv _ hf (fun _ hf => ?_) (fun _ hf => ?_)
      · have m9 := m_L_law_b1200 hf
        exact ⟨by (try dsimp only at *); omega, by (try dsimp only at *); omega⟩
      · obtain ⟨w9, hf9, e9⟩ := z_i1m_inv hf; clear hf; subst e9; have hf := hf9; clear hf9
        cases hf
        exact ⟨by (try dsimp only at *); omega, by (try dsimp only at *); omega⟩
    refine z_ite_inv _ hf (fun _ hf => ?_) (fun _ hf => ?_)
    · obtain ⟨_, _, hf⟩ := z_bind_inv hf
      obtain ⟨_, _, hf⟩ := z_bind_inv hf
      obtain ⟨_, _, _, hf⟩ := z_b2_inv hf
      obtain ⟨_, _, hf⟩ := z_bind_inv hf
      obtain ⟨_, _, hf⟩ := z_bind_inv hf
      obtain ⟨_, _, _, hf⟩ := z_b2_inv hf
      refine z_ite_inv _ hf (fun _ hf => ?_) (fun _ hf => ?_)
      · have m9 := m_L_law_b1200 hf
        exact ⟨by (try dsimp only at *); omega, by (try dsimp only at *); omega⟩
      · obtain ⟨w9, hf9, e9⟩ := z_i1m_inv hf; clear hf; subst e9; have hf := hf9; clear hf9
        cases hf
        exact ⟨by (try dsimp only at *); omega, by (try dsimp only at *); omega⟩
    refine z_ite_inv _ hf (fun _ hf => ?_) (fun _ hf => ?_)
    · obtain ⟨_, _, hf⟩ := z_bind_inv hf
      obtain ⟨_, _, hf⟩ := z_bind_inv hf
      obtain ⟨_, _, _, hf⟩ := z_b2_inv hf
      obtain ⟨_, _, hf⟩ := z_bind_inv hf
      obtain ⟨_, _, hf⟩ := z_bind_inv hf
      obtain ⟨_, _, _, hf⟩ := z_b2_inv hf
      refine z_ite_inv _ hf (fun _ hf => ?_) (fun _ hf => ?_)
      · have m9 := m_L_law_b1200 hf
        exact ⟨by (try dsimp only at *); omega, by (try dsimp only at *); omega⟩
      · obtain ⟨w9, hf9, e9⟩ := z_i1m_inv hf; clear hf; subst e9; have hf := hf9; clear hf9
        cases hf
        exact ⟨by (try dsimp only at *); omega, by (try dsimp only at *); omega⟩
    refine z_ite_inv _ hf (fun _ hf => ?_) (fun _ hf => ?_)
    · obtain ⟨_, _, hf⟩ := z_bind_inv hf
      obtain ⟨_, _, hf⟩ := z_bind_inv hf
      obtain ⟨_, _, hf⟩ := z_bind_inv hf
      obtain ⟨_, _, _, hf⟩ := z_b2_inv hf
      obtain ⟨_, _, hf⟩ := z_bind_inv hf
      obtain ⟨_, _, hf⟩ := z_bind_inv hf
      obtain ⟨_, _, hf⟩ := z_bind_inv hf
      obtain ⟨_, _, _, hf⟩ := z_b2_inv hf
      refine z_ite_inv _ hf (fun _ hf => ?_) (fun _ hf => ?_)
      · have m9 := m_L_law_b1200 hf
        exact ⟨by (try dsimp only at *); omega, by (try dsimp only at *); omega⟩
      · obtain ⟨w9, hf9, e9⟩ := z_i1m_inv hf; clear hf; subst e9; have hf := hf9; clear hf9
        cases hf
        exact ⟨by (try dsimp only at *); omega, by (try dsimp only at *); omega⟩
    refine z_ite_inv _ hf (fun _ hf => ?_) (fun _ hf => ?_)
    · obtain ⟨_, _, hf⟩ := z_bind_inv hf
      obtain ⟨_, _, hf⟩ := z_bind_inv hf
      obtain ⟨_, _, hf⟩ := z_bind_inv hf
      obtain ⟨_, _, _, hf⟩ := z_b2_inv hf
      obtain ⟨_, _, hf⟩ := z_bind_inv hf
      obtain ⟨_, _, hf⟩ := z_bind_inv hf
      obtain ⟨_, _, hf⟩ := z_bind_inv hf
      obtain ⟨_, _, _, hf⟩ := z_b2_inv hf
      refine z_ite_inv _ hf (fun _ hf => ?_) (fun _ hf => ?_)
      · have m9 := m_L_law_b1200 hf
        exact ⟨by (try dsimp only at *); omega, by (try dsimp only at *); omega⟩
      · obtain ⟨w9, hf9, e9⟩ := z_i1m_inv hf; clear hf; subst e9; have hf := hf9; clear hf9
        cases hf
        exact ⟨by (try dsimp only at *); omega, by (try dsimp only at *); omega⟩
    refine z_ite_inv _ hf (fun _ hf => ?_) (fun _ hf => ?_)
    · obtain ⟨_, _, hf⟩ := z_bind_inv hf
      obtain ⟨_, _, hf⟩ := z_bind_inv hf
      obtain ⟨_, _, _, hf⟩ := z_b2_inv hf
      obtain ⟨_, _, hf⟩ := z_bind_inv hf
      obtain ⟨_, _, hf⟩ := z_bind_inv hf
      obtain ⟨_, _, _, hf⟩ := z_b2_inv hf
      refine z_ite_inv _ hf (fun _ hf => ?_) (fun _ hf => ?_)
      · have m9 := m_L_law_b1200 hf
        exact ⟨by (try dsimp only at *); omega, by (try dsimp only at *); omega⟩
      · obtain ⟨w9, hf9, e9⟩ := z_i1m_inv hf; clear hf; subst e9; have hf := hf9; clear hf9
        cases hf
        exact ⟨by (try dsimp only at *); omega, by (try dsimp only at *); omega⟩
    refine z_ite_inv _ hf (fun _ hf => ?_) (fun _ hf => ?_)
    · obtain ⟨_, _, hf⟩ := z_bind_inv hf
      obtain ⟨_, _, hf⟩ := z_bind_inv hf
      obtain ⟨_, _, _, hf⟩ := z_b2_inv hf
      obtain ⟨_, _, hf⟩ := z_bind_inv hf
      obtain ⟨_, _, hf⟩ := z_bind_inv hf
      obtain ⟨_, _, _, hf⟩ := z_b2_inv hf
      refine z_ite_inv _ hf (fun _ hf => ?_) (fun _ hf => ?_)
      · have m9 := m_L_law_b1200 hf
        exact ⟨by (try dsimp only at *); omega, by (try dsimp only at *); omega⟩
      · obtain ⟨w9, hf9, e9⟩ := z_i1m_inv hf; clear hf; subst e9; have hf := hf9; clear hf9
        cases hf
        exact ⟨by (try dsimp only at *); omega, by (try dsimp only at *); omega⟩
    refine z_ite_inv _ hf (fun _ hf => ?_) (fun _ hf => ?_)
    · obtain ⟨_, _, hf⟩ := z_bind_inv hf
      obtain ⟨_, _, hf⟩ := z_bind_inv hf
      obtain ⟨_, _, _, hf⟩ := z_b2_inv hf
      obtain ⟨_, _, hf⟩ := z_bind_inv hf
      obtain ⟨_, _, hf⟩ := z_bind_inv hf
      obtain ⟨_, _, _, hf⟩ := z_b2_inv hf
      refine z_ite_inv _ hf (fun _ hf => ?_) (fun _ hf => ?_)
      · have m9 := m_L_law_b1200 hf
        exact ⟨by (try dsimp only at *); omega, by (try dsimp only at *); omega⟩
      · obtain ⟨w9, hf9, e9⟩ := z_i1m_inv hf; clear hf; subst e9; have hf := hf9; clear hf9
        cases hf
        exact ⟨by (try dsimp only at *); omega, by (try dsimp only at *); omega⟩
    refine z_ite_inv _ hf (fun _ hf => ?_) (fun _ hf => ?_)
    · obtain ⟨_, _, hf⟩ := z_bind_inv hf
      obtain ⟨_, _, hf⟩ := z_bind_inv hf
      obtain ⟨_, _, hf⟩ := z_bind_inv hf
      obtain ⟨_, _, hf⟩ := z_bind_inv hf
      obtain ⟨_, _, _, hf⟩ := z_b2_inv hf
      obtain ⟨_, _, hf⟩ := z_bind_inv hf
      obtain ⟨_, _, hf⟩ := z_bind_inv hf
      obtain ⟨_, _, hf⟩ := z_bind_inv hf
      obtain ⟨_, _, hf⟩ := z_bind_inv hf
      obtain ⟨_, _, _, hf⟩ := z_b2_inv hf
      refine z_ite_inv _ hf (fun _ hf => ?_) (fun _ hf => ?_)
      · have m9 := m_L_law_b1200 hf
        exact ⟨by (try dsimp only at *); omega, by (try dsimp only at *); omega⟩
      · obtain ⟨w9, hf9, e9⟩ := z_i1m_inv hf; clear hf; subst e9; have hf := hf9; clear hf9
        cases hf
        exact ⟨by (try dsimp only at *); omega, by (try dsimp only at *); omega⟩
    refine z_ite_inv _ hf (fun _ hf => ?_) (fun _ hf => ?_)
    · obtain ⟨_, _, hf⟩ := z_bind_inv hf
      obtain ⟨_, _, hf⟩ := z_bind_inv hf
      obtain ⟨_, _, hf⟩ := z_bind_inv hf
      obtain ⟨_, _, hf⟩ := z_bind_inv hf
      obtain ⟨_, _, hf⟩ := z_bind_inv hf
      obtain ⟨_, _, _, hf⟩ := z_b2_inv hf
      obtain ⟨_, _, hf⟩ := z_bind_inv hf
      obtain ⟨_, _, hf⟩ := z_bind_inv hf
      obtain ⟨_, _, hf⟩ := z_bind_inv hf
      obtain ⟨_, _, hf⟩ := z_bind_inv hf
      obtain ⟨_, _, hf⟩ := z_bind_inv hf
      obtain ⟨_, _, _, hf⟩ := z_b2_inv hf
      refine z_ite_inv _ hf (fun _ hf => ?_) (fun _ hf => ?_)
      · have m9 := m_L_law_b1200 hf
        exact ⟨by (try dsimp only at *); omega, by (try dsimp only at *); omega⟩
      · obtain ⟨w9, hf9, e9⟩ := z_i1m_inv hf; clear hf; subst e9; have hf := hf9; clear hf9
        cases hf
        exact ⟨by (try dsimp only at *); omega, by (try dsimp only at *); omega⟩
    refine z_ite_inv _ hf (fun _ hf => ?_) (fun _ hf => ?_)
    · obtain ⟨_, _, hf⟩ := z_bind_inv hf
      obtain ⟨_, _, hf⟩ := z_bind_inv hf
      obtain ⟨n197, eh195, hf⟩ := z_bind_inv hf
      have mn197 := m_X10_image eh195
      have m9 := m_L_law_b875 hf
      exact ⟨by (try dsimp only at *); omega, by (try dsimp only at *); omega⟩
    refine z_ite_inv _ hf (fun _ hf => ?_) (fun _ hf => ?_)
    · obtain ⟨_, _, hf⟩ := z_bind_inv hf
      obtain ⟨_, _, hf⟩ := z_bind_inv hf
      obtain ⟨_, _, _, hf⟩ := z_b2_inv hf
      obtain ⟨_, _, hf⟩ := z_bind_inv hf
      obtain ⟨_, _, hf⟩ := z_bind_inv hf
      obtain ⟨_, _, _, hf⟩ := z_b2_inv hf
      refine z_ite_inv _ hf (fun _ hf => ?_) (fun _ hf => ?_)
      · have m9 := m_L_law_b1200 hf
        exact ⟨by (try dsimp only at *); omega, by (try dsimp only at *); omega⟩
      · obtain ⟨w9, hf9, e9⟩ := z_i1m_inv hf; clear hf; subst e9; have hf := hf9; clear hf9
        cases hf
        exact ⟨by (try dsimp only at *); omega, by (try dsimp only at *); omega⟩
    refine z_ite_inv _ hf (fun _ hf => ?_) (fun _ hf => ?_)
    · obtain ⟨_, _, hf⟩ := z_bind_inv hf
      obtain ⟨_, _, hf⟩ := z_bind_inv hf
      obtain ⟨_, _, hf⟩ := z_bind_inv hf
      obtain ⟨_, _, hf⟩ := z_bind_inv hf
      obtain ⟨_, _, hf⟩ := z_bind_inv hf
      obtain ⟨_, _, _, hf⟩ := z_b2_inv hf
      obtain ⟨_, _, hf⟩ := z_bind_inv hf
      obtain ⟨_, _, hf⟩ := z_bind_inv hf
      obtain ⟨_, _, hf⟩ := z_bind_inv hf
      obtain ⟨_, _, hf⟩ := z_bind_inv hf
      obtain ⟨_, _, hf⟩ := z_bind_inv hf
      obtain ⟨_, _, _, hf⟩ := z_b2_inv hf
      refine z_ite_inv _ hf (fun _ hf => ?_) (fun _ hf => ?_)
      · have m9 := m_L_law_b1200 hf
        exact ⟨by (try dsimp only at *); omega, by (try dsimp only at *); omega⟩
      · obtain ⟨w9, hf9, e9⟩ := z_i1m_inv hf; clear hf; subst e9; have hf := hf9; clear hf9
        cases hf
        exact ⟨by (try dsimp only at *); omega, by (try dsimp only at *); omega⟩
    refine z_ite_inv _ hf (fun _ hf => ?_) (fun _ hf => ?_)
    · obtain ⟨_, _, hf⟩ := z_bind_inv hf
      obtain ⟨_, _, hf⟩ := z_bind_inv hf
      obtain ⟨_, _, hf⟩ := z_bind_inv hf
      obtain ⟨_, _, hf⟩ := z_bind_inv hf
      obtain ⟨_, _, hf⟩ := z_bind_inv hf
      obtain ⟨_, _, _, hf⟩ := z_b2_inv hf
      obtain ⟨_, _, hf⟩ := z_bind_inv hf
      obtain ⟨_, _, hf⟩ := z_bind_inv hf
      obtain ⟨_, _, hf⟩ := z_bind_inv hf
      obtain ⟨_, _, hf⟩ := z_bind_inv hf
      obtain ⟨_, _, hf⟩ := z_bind_inv hf
      obtain ⟨_, _, _, hf⟩ := z_b2_inv hf
      refine z_ite_inv _ hf (fun _ hf => ?_) (fun _ hf => ?_)
      · have m9 := m_L_law_b1200 hf
        exact ⟨by (try dsimp only at *); omega, by (try dsimp only at *); omega⟩
      · obtain ⟨w9, hf9, e9⟩ := z_i1m_inv hf; clear hf; subst e9; have hf := hf9; clear hf9
        cases hf
        exact ⟨by (try dsimp only at *); omega, by (try dsimp only at *); omega⟩
    refine z_ite_inv _ hf (fun _ hf => ?_) (fun _ hf => ?_)
    · obtain ⟨_, _, hf⟩ := z_bind_inv hf
      obtain ⟨_, _, hf⟩ := z_bind_inv hf
      obtain ⟨_, _, hf⟩ := z_bind_inv hf
      obtain ⟨_, _, hf⟩ := z_bind_inv hf
      obtain ⟨_, _, _, hf⟩ := z_b2_inv hf
      obtain ⟨_, _, hf⟩ := z_bind_inv hf
      obtain ⟨_, _, hf⟩ := z_bind_inv hf
      obtain ⟨_, _, hf⟩ := z_bind_inv hf
      obtain ⟨_, _, hf⟩ := z_bind_inv hf
      obtain ⟨_, _, _, hf⟩ := z_b2_inv hf
      refine z_ite_inv _ hf (fun _ hf => ?_) (fun _ hf => ?_)
      · have m9 := m_L_law_b1200 hf
        exact ⟨by (try dsimp only at *); omega, by (try dsimp only at *); omega⟩
      · obtain ⟨w9, hf9, e9⟩ := z_i1m_inv hf; clear hf; subst e9; have hf := hf9; clear hf9
        cases hf
        exact ⟨by (try dsimp only at *); omega, by (try dsimp only at *); omega⟩
    refine z_ite_inv _ hf (fun _ hf => ?_) (fun _ hf => ?_)
    · obtain ⟨_, _, hf⟩ := z_bind_inv hf
      obtain ⟨_, _, hf⟩ := z_bind_inv hf
      obtain ⟨_, _, _, hf⟩ := z_b2_inv hf
      obtain ⟨_, _, hf⟩ := z_bind_inv hf
      obtain ⟨_, _, hf⟩ := z_bind_inv hf
      obtain ⟨_, _, _, hf⟩ := z_b2_inv hf
      refine z_ite_inv _ hf (fun _ hf => ?_) (fun _ hf => ?_)
      · have m9 := m_L_law_b1200 hf
        exact ⟨by (try dsimp only at *); omega, by (try dsimp only at *); omega⟩
      · obtain ⟨w9, hf9, e9⟩ := z_i1m_inv hf; clear hf; subst e9; have hf := hf9; clear hf9
        cases hf
        exact ⟨by (try dsimp only at *); omega, by (try dsimp only at *); omega⟩
    refine z_ite_inv _ hf (fun _ hf => ?_) (fun _ hf => ?_)
    · obtain ⟨_, _, hf⟩ := z_bind_inv hf
      obtain ⟨_, _, hf⟩ := z_bind_inv hf
      obtain ⟨_, _, hf⟩ := z_bind_inv hf
      obtain ⟨_, _, hf⟩ := z_bind_inv hf
      obtain ⟨_, _, hf⟩ := z_bind_inv hf
      obtain ⟨_, _, _, hf⟩ := z_b2_inv hf
      obtain ⟨_, _, hf⟩ := z_bind_inv hf
      obtain ⟨_, _, hf⟩ := z_bind_inv hf
      obtain ⟨_, _, hf⟩ := z_bind_inv hf
      obtain ⟨_, _, hf⟩ := z_bind_inv hf
      obtain ⟨_, _, hf⟩ := z_bind_inv hf
      obtain ⟨_, _, _, hf⟩ := z_b2_inv hf
      refine z_ite_inv _ hf (fun _ hf => ?_) (fun _ hf => ?_)
      · have m9 := m_L_law_b1200 hf
        exact ⟨by (try dsimp only at *); omega, by (try dsimp only at *); omega⟩
      · obtain ⟨w9, hf9, e9⟩ := z_i1m_inv hf; clear hf; subst e9; have hf := hf9; clear hf9
        cases hf
        exact ⟨by (try dsimp only at *); omega, by (try dsimp only at *); omega⟩
    refine z_ite_inv _ hf (fun _ hf => ?_) (fun _ hf => ?_)
    · obtain ⟨_, _, hf⟩ := z_bind_inv hf
      obtain ⟨_, _, hf⟩ := z_bind_inv hf
      obtain ⟨_, _, hf⟩ := z_bind_inv hf
      obtain ⟨_, _, hf⟩ := z_bind_inv hf
      obtain ⟨_, _, hf⟩ := z_bind_inv hf
      obtain ⟨_, _, hf⟩ := z_bind_inv hf
      obtain ⟨_, _, _, hf⟩ := z_b2_inv hf
      obtain ⟨_, _, hf⟩ := z_bind_inv hf
      obtain ⟨_, _, hf⟩ := z_bind_inv hf
      obtain ⟨_, _, hf⟩ := z_bind_inv hf
      obtain ⟨_, _, hf⟩ := z_bind_inv hf
      obtain ⟨_, _, hf⟩ := z_bind_inv hf
      obtain ⟨_, _, hf⟩ := z_bind_inv hf
      obtain ⟨_, _, _, hf⟩ := z_b2_inv hf
      refine z_ite_inv _ hf (fun _ hf => ?_) (fun _ hf => ?_)
      · have m9 := m_L_law_b1200 hf
        exact ⟨by (try dsimp only at *); omega, by (try dsimp only at *); omega⟩
      · obtain ⟨w9, hf9, e9⟩ := z_i1m_inv hf; clear hf; subst e9; have hf := hf9; clear hf9
        cases hf
        exact ⟨by (try dsimp only at *); omega, by (try dsimp only at *); omega⟩
    have m9 := m_L_law_b1200 hf
    exact ⟨by (try dsimp only at *); omega, by (try dsimp only at *); omega⟩
set_option maxHeartbeats 4000000 in
set_option maxRecDepth 100000 in
theorem v_L_law_c18 {X : zX} {nx0 z0 : Nat} {lnm : String} (K : z_Ok X cL_law (some .boolean) RL lnm) (hX : z_Xo X room_1 4) {x0 : Option Nat} {x1 : Option Nat} {x2 : Option Nat} {x3 : Int32} {h : zH} {nx z : Nat} (hm : nx0 ≤ nx ∧ z0 ≤ z) {x : ((Nat × Nat) × (((Option Nat) × (Option Nat) × (Option Nat) × Int32 × zH) ⊕ (Int32 × zH)))} (hf : f_L_law_c18 X.2.2.1.2.2.1 x0 x1 x2 x3 h nx z = some x) (hp : z_Pm X nx0 z0 (P_L_law_18 X nx0 z0) x) : zV X 18 [(0, tA x0), (1, tA x1), (2, tA x2), (3, tI x3)] [] h nx (nx - nx0) (z - z0) := by
  have mB := m_L_law_c18 hf
  unfold f_L_law_c18 at hf
  refine zv_iload_n K 3 eL_law_18 rfl ?_
  refine zv_aload_n K 0 eL_law_19 rfl ?_
  refine zv_len K eL_law_20 hf (fun v1 hf => ?_)
  refine zv_bipush K (6 : Int32) eL_law_21 (by decide) ?_
  refine zv_isub K eL_law_23 ?_
  refine zv_icmp_gt K 1206 eL_law_24 (by decide) hf (fun _ hf => ?_) (fun _ hf => ?_)
  · obtain ⟨w9, hf9, e9⟩ := z_i1m_inv hf; clear hf; subst e9; have hf := hf9; clear hf9
    have hp : z_Pm X nx0 z0 (z_P0L X nx0 z0) _ := hp
    refine zv_iconst K (1 : Int32) eL_law_1206 (by decide) ?_
    cases hf
    exact zv_lawret K eL_law_1207 hp.2
  · refine zv_aload_n K 0 eL_law_27 rfl ?_
    refine zv_iload_n K 3 eL_law_28 rfl ?_
    refine zv_aI K eL_law_29 hf (fun v2 hf => ?_)
    refine zv_bipush K (31 : Int32) eL_law_30 (by decide) ?_
    refine zv_iand K eL_law_32 ?_
    refine z_ite_inv _ hf (fun c0 hf => ?_) (fun c0 hf => ?_)
    · refine zv_tswIn K (off := 127) (0 : Int32) 160 eL_law_33 c0 (by decide) (by decide) (by rfl) (by decide) ?_
      refine zv_aload_n K 1 eL_law_160 rfl ?_
      refine zv_aload_n K 0 eL_law_161 rfl ?_
      refine zv_iload_n K 3 eL_law_162 rfl ?_
      refine zv_iconst K (1 : Int32) eL_law_163 (by decide) ?_
      refine zv_iadd K eL_law_164 ?_
      refine zv_aI K eL_law_165 hf (fun v3 hf => ?_)
      refine zv_aload_n K 0 eL_law_166 rfl ?_
      refine zv_iload_n K 3 eL_law_167 rfl ?_
      refine zv_iconst K (2 : Int32) eL_law_168 (by decide) ?_
      refine zv_iadd K eL_law_169 ?_
      refine zv_aI K eL_law_170 hf (fun v4 hf => ?_)
      refine zv_aload_n K 0 eL_law_171 rfl ?_
      refine zv_iload_n K 3 eL_law_172 rfl ?_
      refine zv_iconst K (3 : Int32) eL_law_173 (by decide) ?_
      refine zv_iadd K eL_law_174 ?_
      refine zv_aI K eL_law_175 hf (fun v5 hf => ?_)
      refine zv_if_eq K 183 eL_law_176 (by decide) hf (fun _ hf => ?_) (fun _ hf => ?_)
      · refine zv_iconst K (0 : Int32) eL_law_183 (by decide) ?_
        exact zv_sub [0, 1, 2, 3] rfl (v_L_law_b184 K hX (by omega) hf hp)
      · refine zv_iconst K (1 : Int32) eL_law_179 (by decide) ?_
        refine zv_goto K 184 eL_law_180 (by decide) ?_
        exact zv_sub [0, 1, 2, 3] rfl (v_L_law_b184 K hX (by omega) hf hp)
    refine z_ite_inv _ hf (fun c1 hf => ?_) (fun c1 hf => ?_)
    · refine zv_tswIn K (off := 186) (1 : Int32) 219 eL_law_33 c1 (by decide) (by decide) (by rfl) (by decide) ?_
      refine zv_aload_n K 1 eL_law_219 rfl ?_
      refine zv_aload_n K 0 eL_law_220 rfl ?_
      refine zv_iload_n K 3 eL_law_221 rfl ?_
      refine zv_iconst K (1 : Int32) eL_law_222 (by decide) ?_
      refine zv_iadd K eL_law_223 ?_
      refine zv_aI K eL_law_224 hf (fun v6 hf => ?_)
      obtain ⟨q7, hq7, hf⟩ := z_bind_inv hf
      obtain ⟨v9, h8, eh8, hf⟩ := z_b2_inv hf
      refine zv_cV0 K [tI v6] [] eL_law_225 lk_L_18 md_X10_walls im_X10_walls sl_X10_walls rfl rfl rfl rfl (Nat.le_of_ble_eq_true rfl) hq7 (c_X10_walls X.1.2.1 X.2.2.1 eh8) rfl rfl ⟨z_le (z_fr hX) (by exact Nat.le_of_ble_eq_true rfl), z_le (z_lo hX) (by exact Nat.le_of_ble_eq_true rfl)⟩ (z_bd hp mB) ?_
      refine zv_aload_n K 2 eL_law_228 rfl ?_
      refine zv_aload_n K 0 eL_law_229 rfl ?_
      refine zv_iload_n K 3 eL_law_230 rfl ?_
      refine zv_iconst K (1 : Int32) eL_law_231 (by decide) ?_
      refine zv_iadd K eL_law_232 ?_
      refine zv_aI K eL_law_233 hf (fun v10 hf => ?_)
      obtain ⟨q11, hq11, hf⟩ := z_bind_inv hf
      obtain ⟨v13, h12, eh12, hf⟩ := z_b2_inv hf
      refine zv_cV0 K [tI v10] [tI v9] eL_law_234 lk_L_22 md_X11_walls im_X11_walls sl_X11_walls rfl rfl rfl rfl (Nat.le_of_ble_eq_true rfl) hq11 (c_X11_walls X.1.2.1 X.2.2.1 eh12) rfl rfl ⟨z_le (z_fr hX) (by exact Nat.le_of_ble_eq_true rfl), z_le (z_lo hX) (by exact Nat.le_of_ble_eq_true rfl)⟩ (z_bd hp mB) ?_
      refine zv_icmp_eq K 1200 eL_law_237 (by decide) hf (fun _ hf => ?_) (fun _ hf => ?_)
      · exact zv_sub [0, 1, 2, 3] rfl (v_L_law_b1200 K hX (by omega) hf hp)
      · obtain ⟨w9, hf9, e9⟩ := z_i1m_inv hf; clear hf; subst e9; have hf := hf9; clear hf9
        have hp : z_Pm X nx0 z0 (z_P0L X nx0 z0) _ := hp
        refine zv_iconst K (0 : Int32) eL_law_240 (by decide) ?_
        cases hf
        exact zv_lawret K eL_law_241 hp.2
    refine z_ite_inv _ hf (fun c2 hf => ?_) (fun c2 hf => ?_)
    · refine zv_tswIn K (off := 209) (2 : Int32) 242 eL_law_33 c2 (by decide) (by decide) (by rfl) (by decide) ?_
      refine zv_aload_n K 1 eL_law_242 rfl ?_
      refine zv_aload_n K 0 eL_law_243 rfl ?_
      refine zv_iload_n K 3 eL_law_244 rfl ?_
      refine zv_iconst K (1 : Int32) eL_law_245 (by decide) ?_
      refine zv_iadd K eL_law_246 ?_
      refine zv_aI K eL_law_247 hf (fun v14 hf => ?_)
      refine zv_aload_n K 0 eL_law_248 rfl ?_
      refine zv_iload_n K 3 eL_law_249 rfl ?_
      refine zv_iconst K (2 : Int32) eL_law_250 (by decide) ?_
      refine zv_iadd K eL_law_251 ?_
      refine zv_aI K eL_law_252 hf (fun v15 hf => ?_)
      refine zv_aload_n K 0 eL_law_253 rfl ?_
      refine zv_iload_n K 3 eL_law_254 rfl ?_
      refine zv_iconst K (3 : Int32) eL_law_255 (by decide) ?_
      refine zv_iadd K eL_law_256 ?_
      refine zv_aI K eL_law_257 hf (fun v16 hf => ?_)
      refine zv_aload_n K 0 eL_law_258 rfl ?_
      refine zv_iload_n K 3 eL_law_259 rfl ?_
      refine zv_iconst K (4 : Int32) eL_law_260 (by decide) ?_
      refine zv_iadd K eL_law_261 ?_
      refine zv_aI K eL_law_262 hf (fun v17 hf => ?_)
      obtain ⟨q18, hq18, hf⟩ := z_bind_inv hf
      obtain ⟨v20, h19, eh19, hf⟩ := z_b2_inv hf
      refine zv_cV0 K [tI v14, tI v15, tI v16, tI v17] [] eL_law_263 lk_L_23 md_X10_arm im_X10_arm sl_X10_arm rfl rfl rfl rfl (Nat.le_of_ble_eq_true rfl) hq18 (c_X10_arm X.1.2.1 X.2.2.1 eh19) rfl rfl ⟨z_le (z_fr hX) (by exact Nat.le_of_ble_eq_true rfl), z_le (z_lo hX) (by exact Nat.le_of_ble_eq_true rfl)⟩ (z_bd hp mB) ?_
      refine zv_aload_n K 2 eL_law_266 rfl ?_
      refine zv_aload_n K 0 eL_law_267 rfl ?_
      refine zv_iload_n K 3 eL_law_268 rfl ?_
      refine zv_iconst K (1 : Int32) eL_law_269 (by decide) ?_
      refine zv_iadd K eL_law_270 ?_
      refine zv_aI K eL_law_271 hf (fun v21 hf => ?_)
      refine zv_aload_n K 0 eL_law_272 rfl ?_
      refine zv_iload_n K 3 eL_law_273 rfl ?_
      refine zv_iconst K (2 : Int32) eL_law_274 (by decide) ?_
      refine zv_iadd K eL_law_275 ?_
      refine zv_aI K eL_law_276 hf (fun v22 hf => ?_)
      refine zv_aload_n K 0 eL_law_277 rfl ?_
      refine zv_iload_n K 3 eL_law_278 rfl ?_
      refine zv_iconst K (3 : Int32) eL_law_279 (by decide) ?_
      refine zv_iadd K eL_law_280 ?_
      refine zv_aI K eL_law_281 hf (fun v23 hf => ?_)
      refine zv_aload_n K 0 eL_law_282 rfl ?_
      refine zv_iload_n K 3 eL_law_283 rfl ?_
      refine zv_iconst K (4 : Int32) eL_law_284 (by decide) ?_
      refine zv_iadd K eL_law_285 ?_
      refine zv_aI K eL_law_286 hf (fun v24 hf => ?_)
      obtain ⟨q25, hq25, hf⟩ := z_bind_inv hf
      obtain ⟨v27, h26, eh26, hf⟩ := z_b2_inv hf
      refine zv_cV0 K [tI v21, tI v22, tI v23, tI v24] [tI v20] eL_law_287 lk_L_27 md_X11_arm im_X11_arm sl_X11_arm rfl rfl rfl rfl (Nat.le_of_ble_eq_true rfl) hq25 (c_X11_arm X.1.2.1 X.2.2.1 eh26) rfl rfl ⟨z_le (z_fr hX) (by exact Nat.le_of_ble_eq_true rfl), z_le (z_lo hX) (by exact Nat.le_of_ble_eq_true rfl)⟩ (z_bd hp mB) ?_
      refine zv_icmp_eq K 1200 eL_law_290 (by decide) hf (fun _ hf => ?_) (fun _ hf => ?_)
      · exact zv_sub [0, 1, 2, 3] rfl (v_L_law_b1200 K hX (by omega) hf hp)
      · obtain ⟨w9, hf9, e9⟩ := z_i1m_inv hf; clear hf; subst e9; have hf := hf9; clear hf9
        have hp : z_Pm X nx0 z0 (z_P0L X nx0 z0) _ := hp
        refine zv_iconst K (0 : Int32) eL_law_293 (by decide) ?_
        cases hf
        exact zv_lawret K eL_law_294 hp.2
    refine z_ite_inv _ hf (fun c3 hf => ?_) (fun c3 hf => ?_)
    · refine zv_tswIn K (off := 262) (3 : Int32) 295 eL_law_33 c3 (by decide) (by decide) (by rfl) (by decide) ?_
      refine zv_aload_n K 1 eL_law_295 rfl ?_
      refine zv_aload_n K 0 eL_law_296 rfl ?_
      refine zv_iload_n K 3 eL_law_297 rfl ?_
      refine zv_iconst K (1 : Int32) eL_law_298 (by decide) ?_
      refine zv_iadd K eL_law_299 ?_
      refine zv_aI K eL_law_300 hf (fun v28 hf => ?_)
      refine zv_aload_n K 0 eL_law_301 rfl ?_
      refine zv_iload_n K 3 eL_law_302 rfl ?_
      refine zv_iconst K (2 : Int32) eL_law_303 (by decide) ?_
      refine zv_iadd K eL_law_304 ?_
      refine zv_aI K eL_law_305 hf (fun v29 hf => ?_)
      refine zv_aload_n K 0 eL_law_306 rfl ?_
      refine zv_iload_n K 3 eL_law_307 rfl ?_
      refine zv_iconst K (3 : Int32) eL_law_308 (by decide) ?_
      refine zv_iadd K eL_law_309 ?_
      refine zv_aI K eL_law_310 hf (fun v30 hf => ?_)
      obtain ⟨q31, hq31, hf⟩ := z_bind_inv hf
      obtain ⟨v33, h32, eh32, hf⟩ := z_b2_inv hf
      refine zv_cV0 K [tI v28, tI v29, tI v30] [] eL_law_311 lk_L_28 md_X10_thing im_X10_thing sl_X10_thing rfl rfl rfl rfl (Nat.le_of_ble_eq_true rfl) hq31 (c_X10_thing X.1.2.1 X.2.2.1 eh32) rfl rfl ⟨z_le (z_fr hX) (by exact Nat.le_of_ble_eq_true rfl), z_le (z_lo hX) (by exact Nat.le_of_ble_eq_true rfl)⟩ (z_bd hp mB) ?_
      refine zv_aload_n K 2 eL_law_314 rfl ?_
      refine zv_aload_n K 0 eL_law_315 rfl ?_
      refine zv_iload_n K 3 eL_law_316 rfl ?_
      refine zv_iconst K (1 : Int32) eL_law_317 (by decide) ?_
      refine zv_iadd K eL_law_318 ?_
      refine zv_aI K eL_law_319 hf (fun v34 hf => ?_)
      refine zv_aload_n K 0 eL_law_320 rfl ?_
      refine zv_iload_n K 3 eL_law_321 rfl ?_
      refine zv_iconst K (2 : Int32) eL_law_322 (by decide) ?_
      refine zv_iadd K eL_law_323 ?_
      refine zv_aI K eL_law_324 hf (fun v35 hf => ?_)
      refine zv_aload_n K 0 eL_law_325 rfl ?_
      refine zv_iload_n K 3 eL_law_326 rfl ?_
      refine zv_iconst K (3 : Int32) eL_law_327 (by decide) ?_
      refine zv_iadd K eL_law_328 ?_
      refine zv_aI K eL_law_329 hf (fun v36 hf => ?_)
      obtain ⟨q37, hq37, hf⟩ := z_bind_inv hf
      obtain ⟨v39, h38, eh38, hf⟩ := z_b2_inv hf
      refine zv_cV0 K [tI v34, tI v35, tI v36] [tI v33] eL_law_330 lk_L_32 md_X11_thing im_X11_thing sl_X11_thing rfl rfl rfl rfl (Nat.le_of_ble_eq_true rfl) hq37 (c_X11_thing X.1.2.1 X.2.2.1 eh38) rfl rfl ⟨z_le (z_fr hX) (by exact Nat.le_of_ble_eq_true rfl), z_le (z_lo hX) (by exact Nat.le_of_ble_eq_true rfl)⟩ (z_bd hp mB) ?_
      refine zv_icmp_eq K 1200 eL_law_333 (by decide) hf (fun _ hf => ?_) (fun _ hf => ?_)
      · exact zv_sub [0, 1, 2, 3] rfl (v_L_law_b1200 K hX (by omega) hf hp)
      · obtain ⟨w9, hf9, e9⟩ := z_i1m_inv hf; clear hf; subst e9; have hf := hf9; clear hf9
        have hp : z_Pm X nx0 z0 (z_P0L X nx0 z0) _ := hp
        refine zv_iconst K (0 : Int32) eL_law_336 (by decide) ?_
        cases hf
        exact zv_lawret K eL_law_337 hp.2
    refine z_ite_inv _ hf (fun c4 hf => ?_) (fun c4 hf => ?_)
    · refine zv_tswIn K (off := 305) (4 : Int32) 338 eL_law_33 c4 (by decide) (by decide) (by rfl) (by decide) ?_
      refine zv_aload_n K 1 eL_law_338 rfl ?_
      refine zv_aload_n K 0 eL_law_339 rfl ?_
      refine zv_iload_n K 3 eL_law_340 rfl ?_
      refine zv_iconst K (1 : Int32) eL_law_341 (by decide) ?_
      refine zv_iadd K eL_law_342 ?_
      refine zv_aI K eL_law_343 hf (fun v40 hf => ?_)
      refine zv_aload_n K 0 eL_law_344 rfl ?_
      refine zv_iload_n K 3 eL_law_345 rfl ?_
      refine zv_iconst K (2 : Int32) eL_law_346 (by decide) ?_
      refine zv_iadd K eL_law_347 ?_
      refine zv_aI K eL_law_348 hf (fun v41 hf => ?_)
      refine zv_aload_n K 0 eL_law_349 rfl ?_
      refine zv_iload_n K 3 eL_law_350 rfl ?_
      refine zv_iconst K (3 : Int32) eL_law_351 (by decide) ?_
      refine zv_iadd K eL_law_352 ?_
      refine zv_aI K eL_law_353 hf (fun v42 hf => ?_)
      obtain ⟨q43, hq43, hf⟩ := z_bind_inv hf
      obtain ⟨v45, h44, eh44, hf⟩ := z_b2_inv hf
      refine zv_cV0 K [tI v40, tI v41, tI v42] [] eL_law_354 lk_L_33 md_X10_piece im_X10_piece sl_X10_piece rfl rfl rfl rfl (Nat.le_of_ble_eq_true rfl) hq43 (c_X10_piece X.1.2.1 X.2.2.1 eh44) rfl rfl ⟨z_le (z_fr hX) (by exact Nat.le_of_ble_eq_true rfl), z_le (z_lo hX) (by exact Nat.le_of_ble_eq_true rfl)⟩ (z_bd hp mB) ?_
      refine zv_aload_n K 2 eL_law_357 rfl ?_
      refine zv_aload_n K 0 eL_law_358 rfl ?_
      refine zv_iload_n K 3 eL_law_359 rfl ?_
      refine zv_iconst K (1 : Int32) eL_law_360 (by decide) ?_
      refine zv_iadd K eL_law_361 ?_
      refine zv_aI K eL_law_362 hf (fun v46 hf => ?_)
      refine zv_aload_n K 0 eL_law_363 rfl ?_
      refine zv_iload_n K 3 eL_law_364 rfl ?_
      refine zv_iconst K (2 : Int32) eL_law_365 (by decide) ?_
      refine zv_iadd K eL_law_366 ?_
      refine zv_aI K eL_law_367 hf (fun v47 hf => ?_)
      refine zv_aload_n K 0 eL_law_368 rfl ?_
      refine zv_iload_n K 3 eL_law_369 rfl ?_
      refine zv_iconst K (3 : Int32) eL_law_370 (by decide) ?_
      refine zv_iadd K eL_law_371 ?_
      refine zv_aI K eL_law_372 hf (fun v48 hf => ?_)
      obtain ⟨q49, hq49, hf⟩ := z_bind_inv hf
      obtain ⟨v51, h50, eh50, hf⟩ := z_b2_inv hf
      refine zv_cV0 K [tI v46, tI v47, tI v48] [tI v45] eL_law_373 lk_L_36 md_X11_piece im_X11_piece sl_X11_piece rfl rfl rfl rfl (Nat.le_of_ble_eq_true rfl) hq49 (c_X11_piece X.1.2.1 X.2.2.1 eh50) rfl rfl ⟨z_le (z_fr hX) (by exact Nat.le_of_ble_eq_true rfl), z_le (z_lo hX) (by exact Nat.le_of_ble_eq_true rfl)⟩ (z_bd hp mB) ?_
      refine zv_icmp_eq K 1200 eL_law_376 (by decide) hf (fun _ hf => ?_) (fun _ hf => ?_)
      · exact zv_sub [0, 1, 2, 3] rfl (v_L_law_b1200 K hX (by omega) hf hp)
      · obtain ⟨w9, hf9, e9⟩ := z_i1m_inv hf; clear hf; subst e9; have hf := hf9; clear hf9
        have hp : z_Pm X nx0 z0 (z_P0L X nx0 z0) _ := hp
        refine zv_iconst K (0 : Int32) eL_law_379 (by decide) ?_
        cases hf
        exact zv_lawret K eL_law_380 hp.2
    refine z_ite_inv _ hf (fun c5 hf => ?_) (fun c5 hf => ?_)
    · refine zv_tswIn K (off := 348) (5 : Int32) 381 eL_law_33 c5 (by decide) (by decide) (by rfl) (by decide) ?_
      refine zv_aload_n K 1 eL_law_381 rfl ?_
      refine zv_aload_n K 0 eL_law_382 rfl ?_
      refine zv_iload_n K 3 eL_law_383 rfl ?_
      refine zv_iconst K (1 : Int32) eL_law_384 (by decide) ?_
      refine zv_iadd K eL_law_385 ?_
      refine zv_aI K eL_law_386 hf (fun v52 hf => ?_)
      refine zv_aload_n K 0 eL_law_387 rfl ?_
      refine zv_iload_n K 3 eL_law_388 rfl ?_
      refine zv_iconst K (2 : Int32) eL_law_389 (by decide) ?_
      refine zv_iadd K eL_law_390 ?_
      refine zv_aI K eL_law_391 hf (fun v53 hf => ?_)
      obtain ⟨q54, hq54, hf⟩ := z_bind_inv hf
      obtain ⟨v56, h55, eh55, hf⟩ := z_b2_inv hf
      refine zv_cV0 K [tI v52, tI v53] [] eL_law_392 lk_L_37 md_X10_told im_X10_told sl_X10_told rfl rfl rfl rfl (Nat.le_of_ble_eq_true rfl) hq54 (c_X10_told X.1.2.1 X.2.2.1 eh55) rfl rfl ⟨z_le (z_fr hX) (by exact Nat.le_of_ble_eq_true rfl), z_le (z_lo hX) (by exact Nat.le_of_ble_eq_true rfl)⟩ (z_bd hp mB) ?_
      refine zv_aload_n K 2 eL_law_395 rfl ?_
      refine zv_aload_n K 0 eL_law_396 rfl ?_
      refine zv_iload_n K 3 eL_law_397 rfl ?_
      refine zv_iconst K (1 : Int32) eL_law_398 (by decide) ?_
      refine zv_iadd K eL_law_399 ?_
      refine zv_aI K eL_law_400 hf (fun v57 hf => ?_)
      refine zv_aload_n K 0 eL_law_401 rfl ?_
      refine zv_iload_n K 3 eL_law_402 rfl ?_
      refine zv_iconst K (2 : Int32) eL_law_403 (by decide) ?_
      refine zv_iadd K eL_law_404 ?_
      refine zv_aI K eL_law_405 hf (fun v58 hf => ?_)
      obtain ⟨q59, hq59, hf⟩ := z_bind_inv hf
      obtain ⟨v61, h60, eh60, hf⟩ := z_b2_inv hf
      refine zv_cV0 K [tI v57, tI v58] [tI v56] eL_law_406 lk_L_41 md_X11_told im_X11_told sl_X11_told rfl rfl rfl rfl (Nat.le_of_ble_eq_true rfl) hq59 (c_X11_told X.1.2.1 X.2.2.1 eh60) rfl rfl ⟨z_le (z_fr hX) (by exact Nat.le_of_ble_eq_true rfl), z_le (z_lo hX) (by exact Nat.le_of_ble_eq_true rfl)⟩ (z_bd hp mB) ?_
      refine zv_icmp_eq K 1200 eL_law_409 (by decide) hf (fun _ hf => ?_) (fun _ hf => ?_)
      · exact zv_sub [0, 1, 2, 3] rfl (v_L_law_b1200 K hX (by omega) hf hp)
      · obtain ⟨w9, hf9, e9⟩ := z_i1m_inv hf; clear hf; subst e9; have hf := hf9; clear hf9
        have hp : z_Pm X nx0 z0 (z_P0L X nx0 z0) _ := hp
        refine zv_iconst K (0 : Int32) eL_law_412 (by decide) ?_
        cases hf
        exact zv_lawret K eL_law_413 hp.2
    refine z_ite_inv _ hf (fun c6 hf => ?_) (fun c6 hf => ?_)
    · refine zv_tswIn K (off := 381) (6 : Int32) 414 eL_law_33 c6 (by decide) (by decide) (by rfl) (by decide) ?_
      refine zv_aload_n K 1 eL_law_414 rfl ?_
      refine zv_aload_n K 0 eL_law_415 rfl ?_
      refine zv_iload_n K 3 eL_law_416 rfl ?_
      refine zv_iconst K (1 : Int32) eL_law_417 (by decide) ?_
      refine zv_iadd K eL_law_418 ?_
      refine zv_aI K eL_law_419 hf (fun v62 hf => ?_)
      obtain ⟨q63, hq63, hf⟩ := z_bind_inv hf
      obtain ⟨v65, h64, eh64, hf⟩ := z_b2_inv hf
      refine zv_cV0 K [tI v62] [] eL_law_420 lk_L_42 md_X10_form im_X10_form sl_X10_form rfl rfl rfl rfl (Nat.le_of_ble_eq_true rfl) hq63 (c_X10_form X.1.2.1 X.2.2.1 eh64) rfl rfl ⟨z_le (z_fr hX) (by exact Nat.le_of_ble_eq_true rfl), z_le (z_lo hX) (by exact Nat.le_of_ble_eq_true rfl)⟩ (z_bd hp mB) ?_
      refine zv_aload_n K 2 eL_law_423 rfl ?_
      refine zv_aload_n K 0 eL_law_424 rfl ?_
      refine zv_iload_n K 3 eL_law_425 rfl ?_
      refine zv_iconst K (1 : Int32) eL_law_426 (by decide) ?_
      refine zv_iadd K eL_law_427 ?_
      refine zv_aI K eL_law_428 hf (fun v66 hf => ?_)
      obtain ⟨q67, hq67, hf⟩ := z_bind_inv hf
      obtain ⟨v69, h68, eh68, hf⟩ := z_b2_inv hf
      refine zv_cV0 K [tI v66] [tI v65] eL_law_429 lk_L_45 md_X11_form im_X11_form sl_X11_form rfl rfl rfl rfl (Nat.le_of_ble_eq_true rfl) hq67 (c_X11_form X.1.2.1 X.2.2.1 eh68) rfl rfl ⟨z_le (z_fr hX) (by exact Nat.le_of_ble_eq_true rfl), z_le (z_lo hX) (by exact Nat.le_of_ble_eq_true rfl)⟩ (z_bd hp mB) ?_
      refine zv_icmp_eq K 1200 eL_law_432 (by decide) hf (fun _ hf => ?_) (fun _ hf => ?_)
      · exact zv_sub [0, 1, 2, 3] rfl (v_L_law_b1200 K hX (by omega) hf hp)
      · obtain ⟨w9, hf9, e9⟩ := z_i1m_inv hf; clear hf; subst e9; have hf := hf9; clear hf9
        have hp : z_Pm X nx0 z0 (z_P0L X nx0 z0) _ := hp
        refine zv_iconst K (0 : Int32) eL_law_435 (by decide) ?_
        cases hf
        exact zv_lawret K eL_law_436 hp.2
    refine z_ite_inv _ hf (fun c7 hf => ?_) (fun c7 hf => ?_)
    · refine zv_tswIn K (off := 404) (7 : Int32) 437 eL_law_33 c7 (by decide) (by decide) (by rfl) (by decide) ?_
      refine zv_aload_n K 1 eL_law_437 rfl ?_
      refine zv_aload_n K 0 eL_law_438 rfl ?_
      refine zv_iload_n K 3 eL_law_439 rfl ?_
      refine zv_iconst K (1 : Int32) eL_law_440 (by decide) ?_
      refine zv_iadd K eL_law_441 ?_
      refine zv_aI K eL_law_442 hf (fun v70 hf => ?_)
      refine zv_aload_n K 0 eL_law_443 rfl ?_
      refine zv_iload_n K 3 eL_law_444 rfl ?_
      refine zv_iconst K (2 : Int32) eL_law_445 (by decide) ?_
      refine zv_iadd K eL_law_446 ?_
      refine zv_aI K eL_law_447 hf (fun v71 hf => ?_)
      obtain ⟨q72, hq72, hf⟩ := z_bind_inv hf
      obtain ⟨v74, h73, eh73, hf⟩ := z_b2_inv hf
      refine zv_cV0 K [tI v70, tI v71] [] eL_law_448 lk_L_46 md_X10_flip im_X10_flip sl_X10_flip rfl rfl rfl rfl (Nat.le_of_ble_eq_true rfl) hq72 (c_X10_flip X.1.2.1 X.2.2.1 eh73) rfl rfl ⟨z_le (z_fr hX) (by exact Nat.le_of_ble_eq_true rfl), z_le (z_lo hX) (by exact Nat.le_of_ble_eq_true rfl)⟩ (z_bd hp mB) ?_
      refine zv_aload_n K 2 eL_law_451 rfl ?_
      refine zv_aload_n K 0 eL_law_452 rfl ?_
      refine zv_iload_n K 3 eL_law_453 rfl ?_
      refine zv_iconst K (1 : Int32) eL_law_454 (by decide) ?_
      refine zv_iadd K eL_law_455 ?_
      refine zv_aI K eL_law_456 hf (fun v75 hf => ?_)
      refine zv_aload_n K 0 eL_law_457 rfl ?_
      refine zv_iload_n K 3 eL_law_458 rfl ?_
      refine zv_iconst K (2 : Int32) eL_law_459 (by decide) ?_
      refine zv_iadd K eL_law_460 ?_
      refine zv_aI K eL_law_461 hf (fun v76 hf => ?_)
      obtain ⟨q77, hq77, hf⟩ := z_bind_inv hf
      obtain ⟨v79, h78, eh78, hf⟩ := z_b2_inv hf
      refine zv_cV0 K [tI v75, tI v76] [tI v74] eL_law_462 lk_L_49 md_X11_flip im_X11_flip sl_X11_flip rfl rfl rfl rfl (Nat.le_of_ble_eq_true rfl) hq77 (c_X11_flip X.1.2.1 X.2.2.1 eh78) rfl rfl ⟨z_le (z_fr hX) (by exact Nat.le_of_ble_eq_true rfl), z_le (z_lo hX) (by exact Nat.le_of_ble_eq_true rfl)⟩ (z_bd hp mB) ?_
      refine zv_icmp_eq K 1200 eL_law_465 (by decide) hf (fun _ hf => ?_) (fun _ hf => ?_)
      · exact zv_sub [0, 1, 2, 3] rfl (v_L_law_b1200 K hX (by omega) hf hp)
      · obtain ⟨w9, hf9, e9⟩ := z_i1m_inv hf; clear hf; subst e9; have hf := hf9; clear hf9
        have hp : z_Pm X nx0 z0 (z_P0L X nx0 z0) _ := hp
        refine zv_iconst K (0 : Int32) eL_law_468 (by decide) ?_
        cases hf
        exact zv_lawret K eL_law_469 hp.2
    refine z_ite_inv _ hf (fun c8 hf => ?_) (fun c8 hf => ?_)
    · refine zv_tswIn K (off := 437) (8 : Int32) 470 eL_law_33 c8 (by decide) (by decide) (by rfl) (by decide) ?_
      refine zv_aload_n K 1 eL_law_470 rfl ?_
      refine zv_aload_n K 0 eL_law_471 rfl ?_
      refine zv_iload_n K 3 eL_law_472 rfl ?_
      refine zv_iconst K (1 : Int32) eL_law_473 (by decide) ?_
      refine zv_iadd K eL_law_474 ?_
      refine zv_aI K eL_law_475 hf (fun v80 hf => ?_)
      refine zv_i2l K eL_law_476 ?_
      refine zv_bipush K (32 : Int32) eL_law_477 (by decide) ?_
      refine zv_lshl K eL_law_479 ?_
      refine zv_aload_n K 0 eL_law_480 rfl ?_
      refine zv_iload_n K 3 eL_law_481 rfl ?_
      refine zv_iconst K (2 : Int32) eL_law_482 (by decide) ?_
      refine zv_iadd K eL_law_483 ?_
      refine zv_aI K eL_law_484 hf (fun v81 hf => ?_)
      refine zv_i2l K eL_law_485 ?_
      refine zv_ldc2 K (4294967295 : Int64) eL_law_486 kl_L_50 ?_
      refine zv_land K eL_law_489 ?_
      refine zv_lor K eL_law_490 ?_
      refine zv_aload_n K 0 eL_law_491 rfl ?_
      refine zv_iload_n K 3 eL_law_492 rfl ?_
      refine zv_iconst K (3 : Int32) eL_law_493 (by decide) ?_
      refine zv_iadd K eL_law_494 ?_
      refine zv_aI K eL_law_495 hf (fun v82 hf => ?_)
      obtain ⟨q83, hq83, hf⟩ := z_bind_inv hf
      obtain ⟨v85, h84, eh84, hf⟩ := z_b2_inv hf
      refine zv_cV0 K [tJ (((Int32.toInt64 v80) <<< (Int32.toInt64 (32 : Int32) &&& 63)) ||| ((Int32.toInt64 v81) &&& (4294967295 : Int64))), tI v82] [] eL_law_496 lk_L_52 md_X10_type im_X10_type sl_X10_type rfl rfl rfl rfl (Nat.le_of_ble_eq_true rfl) hq83 (c_X10_type X.1.2.1 X.2.2.1 eh84) rfl rfl ⟨z_le (z_fr hX) (by exact Nat.le_of_ble_eq_true rfl), z_le (z_lo hX) (by exact Nat.le_of_ble_eq_true rfl)⟩ (z_bd hp mB) ?_
      refine zv_aload_n K 2 eL_law_499 rfl ?_
      refine zv_aload_n K 0 eL_law_500 rfl ?_
      refine zv_iload_n K 3 eL_law_501 rfl ?_
      refine zv_iconst K (1 : Int32) eL_law_502 (by decide) ?_
      refine zv_iadd K eL_law_503 ?_
      refine zv_aI K eL_law_504 hf (fun v86 hf => ?_)
      refine zv_i2l K eL_law_505 ?_
      refine zv_bipush K (32 : Int32) eL_law_506 (by decide) ?_
      refine zv_lshl K eL_law_508 ?_
      refine zv_aload_n K 0 eL_law_509 rfl ?_
      refine zv_iload_n K 3 eL_law_510 rfl ?_
      refine zv_iconst K (2 : Int32) eL_law_511 (by decide) ?_
      refine zv_iadd K eL_law_512 ?_
      refine zv_aI K eL_law_513 hf (fun v87 hf => ?_)
      refine zv_i2l K eL_law_514 ?_
      refine zv_ldc2 K (4294967295 : Int64) eL_law_515 kl_L_50 ?_
      refine zv_land K eL_law_518 ?_
      refine zv_lor K eL_law_519 ?_
      refine zv_aload_n K 0 eL_law_520 rfl ?_
      refine zv_iload_n K 3 eL_law_521 rfl ?_
      refine zv_iconst K (3 : Int32) eL_law_522 (by decide) ?_
      refine zv_iadd K eL_law_523 ?_
      refine zv_aI K eL_law_524 hf (fun v88 hf => ?_)
      obtain ⟨q89, hq89, hf⟩ := z_bind_inv hf
      obtain ⟨v91, h90, eh90, hf⟩ := z_b2_inv hf
      refine zv_cV0 K [tJ (((Int32.toInt64 v86) <<< (Int32.toInt64 (32 : Int32) &&& 63)) ||| ((Int32.toInt64 v87) &&& (4294967295 : Int64))), tI v88] [tI v85] eL_law_525 lk_L_56 md_X11_type im_X11_type sl_X11_type rfl rfl rfl rfl (Nat.le_of_ble_eq_true rfl) hq89 (c_X11_type X.1.2.1 X.2.2.1 eh90) rfl rfl ⟨z_le (z_fr hX) (by exact Nat.le_of_ble_eq_true rfl), z_le (z_lo hX) (by exact Nat.le_of_ble_eq_true rfl)⟩ (z_bd hp mB) ?_
      refine zv_icmp_eq K 1200 eL_law_528 (by decide) hf (fun _ hf => ?_) (fun _ hf => ?_)
      · exact zv_sub [0, 1, 2, 3] rfl (v_L_law_b1200 K hX (by omega) hf hp)
      · obtain ⟨w9, hf9, e9⟩ := z_i1m_inv hf; clear hf; subst e9; have hf := hf9; clear hf9
        have hp : z_Pm X nx0 z0 (z_P0L X nx0 z0) _ := hp
        refine zv_iconst K (0 : Int32) eL_law_531 (by decide) ?_
        cases hf
        exact zv_lawret K eL_law_532 hp.2
    refine z_ite_inv _ hf (fun c9 hf => ?_) (fun c9 hf => ?_)
    · refine zv_tswIn K (off := 500) (9 : Int32) 533 eL_law_33 c9 (by decide) (by decide) (by rfl) (by decide) ?_
      refine zv_aload_n K 1 eL_law_533 rfl ?_
      refine zv_aload_n K 0 eL_law_534 rfl ?_
      refine zv_iload_n K 3 eL_law_535 rfl ?_
      refine zv_iconst K (1 : Int32) eL_law_536 (by decide) ?_
      refine zv_iadd K eL_law_537 ?_
      refine zv_aI K eL_law_538 hf (fun v92 hf => ?_)
      obtain ⟨q93, hq93, hf⟩ := z_bind_inv hf
      obtain ⟨n96, eh94, hf⟩ := z_bind_inv hf
      have mn96 := m_X10_rules eh94
      have m9 := m_L_law_b542 hf
      refine zv_cV1 K [tI v92] [] (n96.1.1 - nx0) (n96.1.2 - z0) eL_law_539 lk_L_57 md_X10_rules im_X10_rules sl_X10_rules rfl rfl rfl rfl (Nat.le_of_ble_eq_true rfl) hq93 (c_X10_rules X.1.2.1 X.2.2.1 eh94) rfl rfl ⟨z_le (z_fr hX) (by exact Nat.le_of_ble_eq_true rfl), z_le (z_lo hX) (by exact Nat.le_of_ble_eq_true rfl)⟩ (by omega) (by omega) (by omega) (z_bd hp m9) ?_
      exact zv_sub [0, 1, 2, 3] rfl (v_L_law_b542 K hX (by omega) hf hp)
    refine z_ite_inv _ hf (fun c10 hf => ?_) (fun c10 hf => ?_)
    · refine zv_tswIn K (off := 523) (10 : Int32) 556 eL_law_33 c10 (by decide) (by decide) (by rfl) (by decide) ?_
      refine zv_aload_n K 1 eL_law_556 rfl ?_
      refine zv_aload_n K 0 eL_law_557 rfl ?_
      refine zv_iload_n K 3 eL_law_558 rfl ?_
      refine zv_iconst K (1 : Int32) eL_law_559 (by decide) ?_
      refine zv_iadd K eL_law_560 ?_
      refine zv_aI K eL_law_561 hf (fun v97 hf => ?_)
      refine zv_aload_n K 0 eL_law_562 rfl ?_
      refine zv_iload_n K 3 eL_law_563 rfl ?_
      refine zv_iconst K (2 : Int32) eL_law_564 (by decide) ?_
      refine zv_iadd K eL_law_565 ?_
      refine zv_aI K eL_law_566 hf (fun v98 hf => ?_)
      obtain ⟨q99, hq99, hf⟩ := z_bind_inv hf
      obtain ⟨v101, h100, eh100, hf⟩ := z_b2_inv hf
      refine zv_cV0 K [tI v97, tI v98] [] eL_law_567 lk_L_61 md_X10_head im_X10_head sl_X10_head rfl rfl rfl rfl (Nat.le_of_ble_eq_true rfl) hq99 (c_X10_head X.1.2.1 X.2.2.1 eh100) rfl rfl ⟨z_le (z_fr hX) (by exact Nat.le_of_ble_eq_true rfl), z_le (z_lo hX) (by exact Nat.le_of_ble_eq_true rfl)⟩ (z_bd hp mB) ?_
      refine zv_aload_n K 2 eL_law_570 rfl ?_
      refine zv_aload_n K 0 eL_law_571 rfl ?_
      refine zv_iload_n K 3 eL_law_572 rfl ?_
      refine zv_iconst K (1 : Int32) eL_law_573 (by decide) ?_
      refine zv_iadd K eL_law_574 ?_
      refine zv_aI K eL_law_575 hf (fun v102 hf => ?_)
      refine zv_aload_n K 0 eL_law_576 rfl ?_
      refine zv_iload_n K 3 eL_law_577 rfl ?_
      refine zv_iconst K (2 : Int32) eL_law_578 (by decide) ?_
      refine zv_iadd K eL_law_579 ?_
      refine zv_aI K eL_law_580 hf (fun v103 hf => ?_)
      obtain ⟨q104, hq104, hf⟩ := z_bind_inv hf
      obtain ⟨v106, h105, eh105, hf⟩ := z_b2_inv hf
      refine zv_cV0 K [tI v102, tI v103] [tI v101] eL_law_581 lk_L_64 md_X11_head im_X11_head sl_X11_head rfl rfl rfl rfl (Nat.le_of_ble_eq_true rfl) hq104 (c_X11_head X.1.2.1 X.2.2.1 eh105) rfl rfl ⟨z_le (z_fr hX) (by exact Nat.le_of_ble_eq_true rfl), z_le (z_lo hX) (by exact Nat.le_of_ble_eq_true rfl)⟩ (z_bd hp mB) ?_
      refine zv_icmp_eq K 1200 eL_law_584 (by decide) hf (fun _ hf => ?_) (fun _ hf => ?_)
      · exact zv_sub [0, 1, 2, 3] rfl (v_L_law_b1200 K hX (by omega) hf hp)
      · obtain ⟨w9, hf9, e9⟩ := z_i1m_inv hf; clear hf; subst e9; have hf := hf9; clear hf9
        have hp : z_Pm X nx0 z0 (z_P0L X nx0 z0) _ := hp
        refine zv_iconst K (0 : Int32) eL_law_587 (by decide) ?_
        cases hf
        exact zv_lawret K eL_law_588 hp.2
    refine z_ite_inv _ hf (fun c11 hf => ?_) (fun c11 hf => ?_)
    · refine zv_tswIn K (off := 556) (11 : Int32) 589 eL_law_33 c11 (by decide) (by decide) (by rfl) (by decide) ?_
      refine zv_aload_n K 1 eL_law_589 rfl ?_
      refine zv_aload_n K 0 eL_law_590 rfl ?_
      refine zv_iload_n K 3 eL_law_591 rfl ?_
      refine zv_iconst K (1 : Int32) eL_law_592 (by decide) ?_
      refine zv_iadd K eL_law_593 ?_
      refine zv_aI K eL_law_594 hf (fun v107 hf => ?_)
      obtain ⟨q108, hq108, hf⟩ := z_bind_inv hf
      obtain ⟨v110, h109, eh109, hf⟩ := z_b2_inv hf
      refine zv_cV0 K [tI v107] [] eL_law_595 lk_L_65 md_X10_skin im_X10_skin sl_X10_skin rfl rfl rfl rfl (Nat.le_of_ble_eq_true rfl) hq108 (c_X10_skin X.1.2.1 X.2.2.1 eh109) rfl rfl ⟨z_le (z_fr hX) (by exact Nat.le_of_ble_eq_true rfl), z_le (z_lo hX) (by exact Nat.le_of_ble_eq_true rfl)⟩ (z_bd hp mB) ?_
      refine zv_aload_n K 2 eL_law_598 rfl ?_
      refine zv_aload_n K 0 eL_law_599 rfl ?_
      refine zv_iload_n K 3 eL_law_600 rfl ?_
      refine zv_iconst K (1 : Int32) eL_law_601 (by decide) ?_
      refine zv_iadd K eL_law_602 ?_
      refine zv_aI K eL_law_603 hf (fun v111 hf => ?_)
      obtain ⟨q112, hq112, hf⟩ := z_bind_inv hf
      obtain ⟨v114, h113, eh113, hf⟩ := z_b2_inv hf
      refine zv_cV0 K [tI v111] [tI v110] eL_law_604 lk_L_68 md_X11_skin im_X11_skin sl_X11_skin rfl rfl rfl rfl (Nat.le_of_ble_eq_true rfl) hq112 (c_X11_skin X.1.2.1 X.2.2.1 eh113) rfl rfl ⟨z_le (z_fr hX) (by exact Nat.le_of_ble_eq_true rfl), z_le (z_lo hX) (by exact Nat.le_of_ble_eq_true rfl)⟩ (z_bd hp mB) ?_
      refine zv_icmp_eq K 1200 eL_law_607 (by decide) hf (fun _ hf => ?_) (fun _ hf => ?_)
      · exact zv_sub [0, 1, 2, 3] rfl (v_L_law_b1200 K hX (by omega) hf hp)
      · obtain ⟨w9, hf9, e9⟩ := z_i1m_inv hf; clear hf; subst e9; have hf := hf9; clear hf9
        have hp : z_Pm X nx0 z0 (z_P0L X nx0 z0) _ := hp
        refine zv_iconst K (0 : Int32) eL_law_610 (by decide) ?_
        cases hf
        exact zv_lawret K eL_law_611 hp.2
    refine z_ite_inv _ hf (fun c12 hf => ?_) (fun c12 hf => ?_)
    · refine zv_tswIn K (off := 579) (12 : Int32) 612 eL_law_33 c12 (by decide) (by decide) (by rfl) (by decide) ?_
      refine zv_aload_n K 1 eL_law_612 rfl ?_
      refine zv_aload_n K 0 eL_law_613 rfl ?_
      refine zv_iload_n K 3 eL_law_614 rfl ?_
      refine zv_iconst K (1 : Int32) eL_law_615 (by decide) ?_
      refine zv_iadd K eL_law_616 ?_
      refine zv_aI K eL_law_617 hf (fun v115 hf => ?_)
      obtain ⟨q116, hq116, hf⟩ := z_bind_inv hf
      obtain ⟨v118, h117, eh117, hf⟩ := z_b2_inv hf
      refine zv_cV0 K [tI v115] [] eL_law_618 lk_L_69 md_X10_ticks im_X10_ticks sl_X10_ticks rfl rfl rfl rfl (Nat.le_of_ble_eq_true rfl) hq116 (c_X10_ticks X.1.2.1 X.2.2.1 eh117) rfl rfl ⟨z_le (z_fr hX) (by exact Nat.le_of_ble_eq_true rfl), z_le (z_lo hX) (by exact Nat.le_of_ble_eq_true rfl)⟩ (z_bd hp mB) ?_
      refine zv_aload_n K 2 eL_law_621 rfl ?_
      refine zv_aload_n K 0 eL_law_622 rfl ?_
      refine zv_iload_n K 3 eL_law_623 rfl ?_
      refine zv_iconst K (1 : Int32) eL_law_624 (by decide) ?_
      refine zv_iadd K eL_law_625 ?_
      refine zv_aI K eL_law_626 hf (fun v119 hf => ?_)
      obtain ⟨q120, hq120, hf⟩ := z_bind_inv hf
      obtain ⟨v122, h121, eh121, hf⟩ := z_b2_inv hf
      refine zv_cV0 K [tI v119] [tI v118] eL_law_627 lk_L_72 md_X11_ticks im_X11_ticks sl_X11_ticks rfl rfl rfl rfl (Nat.le_of_ble_eq_true rfl) hq120 (c_X11_ticks X.1.2.1 X.2.2.1 eh121) rfl rfl ⟨z_le (z_fr hX) (by exact Nat.le_of_ble_eq_true rfl), z_le (z_lo hX) (by exact Nat.le_of_ble_eq_true rfl)⟩ (z_bd hp mB) ?_
      refine zv_icmp_eq K 1200 eL_law_630 (by decide) hf (fun _ hf => ?_) (fun _ hf => ?_)
      · exact zv_sub [0, 1, 2, 3] rfl (v_L_law_b1200 K hX (by omega) hf hp)
      · obtain ⟨w9, hf9, e9⟩ := z_i1m_inv hf; clear hf; subst e9; have hf := hf9; clear hf9
        have hp : z_Pm X nx0 z0 (z_P0L X nx0 z0) _ := hp
        refine zv_iconst K (0 : Int32) eL_law_633 (by decide) ?_
        cases hf
        exact zv_lawret K eL_law_634 hp.2
    refine z_ite_inv _ hf (fun c13 hf => ?_) (fun c13 hf => ?_)
    · refine zv_tswIn K (off := 602) (13 : Int32) 635 eL_law_33 c13 (by decide) (by decide) (by rfl) (by decide) ?_
      refine zv_aload_n K 1 eL_law_635 rfl ?_
      refine zv_aload_n K 0 eL_law_636 rfl ?_
      refine zv_iload_n K 3 eL_law_637 rfl ?_
      refine zv_iconst K (1 : Int32) eL_law_638 (by decide) ?_
      refine zv_iadd K eL_law_639 ?_
      refine zv_aI K eL_law_640 hf (fun v123 hf => ?_)
      refine zv_aload_n K 0 eL_law_641 rfl ?_
      refine zv_iload_n K 3 eL_law_642 rfl ?_
      refine zv_iconst K (2 : Int32) eL_law_643 (by decide) ?_
      refine zv_iadd K eL_law_644 ?_
      refine zv_aI K eL_law_645 hf (fun v124 hf => ?_)
      obtain ⟨q125, hq125, hf⟩ := z_bind_inv hf
      obtain ⟨v127, h126, eh126, hf⟩ := z_b2_inv hf
      refine zv_cV0 K [tI v123, tI v124] [] eL_law_646 lk_L_73 md_X10_finds im_X10_finds sl_X10_finds rfl rfl rfl rfl (Nat.le_of_ble_eq_true rfl) hq125 (c_X10_finds X.1.2.1 X.2.2.1 eh126) rfl rfl ⟨z_le (z_fr hX) (by exact Nat.le_of_ble_eq_true rfl), z_le (z_lo hX) (by exact Nat.le_of_ble_eq_true rfl)⟩ (z_bd hp mB) ?_
      refine zv_aload_n K 2 eL_law_649 rfl ?_
      refine zv_aload_n K 0 eL_law_650 rfl ?_
      refine zv_iload_n K 3 eL_law_651 rfl ?_
      refine zv_iconst K (1 : Int32) eL_law_652 (by decide) ?_
      refine zv_iadd K eL_law_653 ?_
      refine zv_aI K eL_law_654 hf (fun v128 hf => ?_)
      refine zv_aload_n K 0 eL_law_655 rfl ?_
      refine zv_iload_n K 3 eL_law_656 rfl ?_
      refine zv_iconst K (2 : Int32) eL_law_657 (by decide) ?_
      refine zv_iadd K eL_law_658 ?_
      refine zv_aI K eL_law_659 hf (fun v129 hf => ?_)
      obtain ⟨q130, hq130, hf⟩ := z_bind_inv hf
      obtain ⟨v132, h131, eh131, hf⟩ := z_b2_inv hf
      refine zv_cV0 K [tI v128, tI v129] [tI v127] eL_law_660 lk_L_76 md_X11_finds im_X11_finds sl_X11_finds rfl rfl rfl rfl (Nat.le_of_ble_eq_true rfl) hq130 (c_X11_finds X.1.2.1 X.2.2.1 eh131) rfl rfl ⟨z_le (z_fr hX) (by exact Nat.le_of_ble_eq_true rfl), z_le (z_lo hX) (by exact Nat.le_of_ble_eq_true rfl)⟩ (z_bd hp mB) ?_
      refine zv_icmp_eq K 1200 eL_law_663 (by decide) hf (fun _ hf => ?_) (fun _ hf => ?_)
      · exact zv_sub [0, 1, 2, 3] rfl (v_L_law_b1200 K hX (by omega) hf hp)
      · obtain ⟨w9, hf9, e9⟩ := z_i1m_inv hf; clear hf; subst e9; have hf := hf9; clear hf9
        have hp : z_Pm X nx0 z0 (z_P0L X nx0 z0) _ := hp
        refine zv_iconst K (0 : Int32) eL_law_666 (by decide) ?_
        cases hf
        exact zv_lawret K eL_law_667 hp.2
    refine z_ite_inv _ hf (fun c14 hf => ?_) (fun c14 hf => ?_)
    · refine zv_tswIn K (off := 635) (14 : Int32) 668 eL_law_33 c14 (by decide) (by decide) (by rfl) (by decide) ?_
      refine zv_aload_n K 1 eL_law_668 rfl ?_
      refine zv_aload_n K 0 eL_law_669 rfl ?_
      refine zv_iload_n K 3 eL_law_670 rfl ?_
      refine zv_iconst K (1 : Int32) eL_law_671 (by decide) ?_
      refine zv_iadd K eL_law_672 ?_
      refine zv_aI K eL_law_673 hf (fun v133 hf => ?_)
      refine zv_aload_n K 0 eL_law_674 rfl ?_
      refine zv_iload_n K 3 eL_law_675 rfl ?_
      refine zv_iconst K (2 : Int32) eL_law_676 (by decide) ?_
      refine zv_iadd K eL_law_677 ?_
      refine zv_aI K eL_law_678 hf (fun v134 hf => ?_)
      obtain ⟨q135, hq135, hf⟩ := z_bind_inv hf
      obtain ⟨v137, h136, eh136, hf⟩ := z_b2_inv hf
      refine zv_cV0 K [tI v133, tI v134] [] eL_law_679 lk_L_77 md_X10_cut im_X10_cut sl_X10_cut rfl rfl rfl rfl (Nat.le_of_ble_eq_true rfl) hq135 (c_X10_cut X.1.2.1 X.2.2.1 eh136) rfl rfl ⟨z_le (z_fr hX) (by exact Nat.le_of_ble_eq_true rfl), z_le (z_lo hX) (by exact Nat.le_of_ble_eq_true rfl)⟩ (z_bd hp mB) ?_
      refine zv_aload_n K 2 eL_law_682 rfl ?_
      refine zv_aload_n K 0 eL_law_683 rfl ?_
      refine zv_iload_n K 3 eL_law_684 rfl ?_
      refine zv_iconst K (1 : Int32) eL_law_685 (by decide) ?_
      refine zv_iadd K eL_law_686 ?_
      refine zv_aI K eL_law_687 hf (fun v138 hf => ?_)
      refine zv_aload_n K 0 eL_law_688 rfl ?_
      refine zv_iload_n K 3 eL_law_689 rfl ?_
      refine zv_iconst K (2 : Int32) eL_law_690 (by decide) ?_
      refine zv_iadd K eL_law_691 ?_
      refine zv_aI K eL_law_692 hf (fun v139 hf => ?_)
      obtain ⟨q140, hq140, hf⟩ := z_bind_inv hf
      obtain ⟨v142, h141, eh141, hf⟩ := z_b2_inv hf
      refine zv_cV0 K [tI v138, tI v139] [tI v137] eL_law_693 lk_L_80 md_X11_cut im_X11_cut sl_X11_cut rfl rfl rfl rfl (Nat.le_of_ble_eq_true rfl) hq140 (c_X11_cut X.1.2.1 X.2.2.1 eh141) rfl rfl ⟨z_le (z_fr hX) (by exact Nat.le_of_ble_eq_true rfl), z_le (z_lo hX) (by exact Nat.le_of_ble_eq_true rfl)⟩ (z_bd hp mB) ?_
      refine zv_icmp_eq K 1200 eL_law_696 (by decide) hf (fun _ hf => ?_) (fun _ hf => ?_)
      · exact zv_sub [0, 1, 2, 3] rfl (v_L_law_b1200 K hX (by omega) hf hp)
      · obtain ⟨w9, hf9, e9⟩ := z_i1m_inv hf; clear hf; subst e9; have hf := hf9; clear hf9
        have hp : z_Pm X nx0 z0 (z_P0L X nx0 z0) _ := hp
        refine zv_iconst K (0 : Int32) eL_law_699 (by decide) ?_
        cases hf
        exact zv_lawret K eL_law_700 hp.2
    refine z_ite_inv _ hf (fun c15 hf => ?_) (fun c15 hf => ?_)
    · refine zv_tswIn K (off := 668) (15 : Int32) 701 eL_law_33 c15 (by decide) (by decide) (by rfl) (by decide) ?_
      refine zv_aload_n K 1 eL_law_701 rfl ?_
      refine zv_aload_n K 0 eL_law_702 rfl ?_
      refine zv_iload_n K 3 eL_law_703 rfl ?_
      refine zv_iconst K (1 : Int32) eL_law_704 (by decide) ?_
      refine zv_iadd K eL_law_705 ?_
      refine zv_aI K eL_law_706 hf (fun v143 hf => ?_)
      obtain ⟨q144, hq144, hf⟩ := z_bind_inv hf
      obtain ⟨v146, h145, eh145, hf⟩ := z_b2_inv hf
      refine zv_cV0 K [tI v143] [] eL_law_707 lk_L_81 md_X10_count im_X10_count sl_X10_count rfl rfl rfl rfl (Nat.le_of_ble_eq_true rfl) hq144 (c_X10_count X.1.2.1 X.2.2.1 eh145) rfl rfl ⟨z_le (z_fr hX) (by exact Nat.le_of_ble_eq_true rfl), z_le (z_lo hX) (by exact Nat.le_of_ble_eq_true rfl)⟩ (z_bd hp mB) ?_
      refine zv_aload_n K 2 eL_law_710 rfl ?_
      refine zv_aload_n K 0 eL_law_711 rfl ?_
      refine zv_iload_n K 3 eL_law_712 rfl ?_
      refine zv_iconst K (1 : Int32) eL_law_713 (by decide) ?_
      refine zv_iadd K eL_law_714 ?_
      refine zv_aI K eL_law_715 hf (fun v147 hf => ?_)
      obtain ⟨q148, hq148, hf⟩ := z_bind_inv hf
      obtain ⟨v150, h149, eh149, hf⟩ := z_b2_inv hf
      refine zv_cV0 K [tI v147] [tI v146] eL_law_716 lk_L_84 md_X11_count im_X11_count sl_X11_count rfl rfl rfl rfl (Nat.le_of_ble_eq_true rfl) hq148 (c_X11_count X.1.2.1 X.2.2.1 eh149) rfl rfl ⟨z_le (z_fr hX) (by exact Nat.le_of_ble_eq_true rfl), z_le (z_lo hX) (by exact Nat.le_of_ble_eq_true rfl)⟩ (z_bd hp mB) ?_
      refine zv_icmp_eq K 1200 eL_law_719 (by decide) hf (fun _ hf => ?_) (fun _ hf => ?_)
      · exact zv_sub [0, 1, 2, 3] rfl (v_L_law_b1200 K hX (by omega) hf hp)
      · obtain ⟨w9, hf9, e9⟩ := z_i1m_inv hf; clear hf; subst e9; have hf := hf9; clear hf9
        have hp : z_Pm X nx0 z0 (z_P0L X nx0 z0) _ := hp
        refine zv_iconst K (0 : Int32) eL_law_722 (by decide) ?_
        cases hf
        exact zv_lawret K eL_law_723 hp.2
    refine z_ite_inv _ hf (fun c16 hf => ?_) (fun c16 hf => ?_)
    · refine zv_tswIn K (off := 691) (16 : Int32) 724 eL_law_33 c16 (by decide) (by decide) (by rfl) (by decide) ?_
      refine zv_aload_n K 1 eL_law_724 rfl ?_
      refine zv_aload_n K 0 eL_law_725 rfl ?_
      refine zv_iload_n K 3 eL_law_726 rfl ?_
      refine zv_iconst K (1 : Int32) eL_law_727 (by decide) ?_
      refine zv_iadd K eL_law_728 ?_
      refine zv_aI K eL_law_729 hf (fun v151 hf => ?_)
      obtain ⟨q152, hq152, hf⟩ := z_bind_inv hf
      obtain ⟨v154, h153, eh153, hf⟩ := z_b2_inv hf
      refine zv_cV0 K [tI v151] [] eL_law_730 lk_L_85 md_X10_forms im_X10_forms sl_X10_forms rfl rfl rfl rfl (Nat.le_of_ble_eq_true rfl) hq152 (c_X10_forms X.1.2.1 X.2.2.1 eh153) rfl rfl ⟨z_le (z_fr hX) (by exact Nat.le_of_ble_eq_true rfl), z_le (z_lo hX) (by exact Nat.le_of_ble_eq_true rfl)⟩ (z_bd hp mB) ?_
      refine zv_aload_n K 2 eL_law_733 rfl ?_
      refine zv_aload_n K 0 eL_law_734 rfl ?_
      refine zv_iload_n K 3 eL_law_735 rfl ?_
      refine zv_iconst K (1 : Int32) eL_law_736 (by decide) ?_
      refine zv_iadd K eL_law_737 ?_
      refine zv_aI K eL_law_738 hf (fun v155 hf => ?_)
      obtain ⟨q156, hq156, hf⟩ := z_bind_inv hf
      obtain ⟨v158, h157, eh157, hf⟩ := z_b2_inv hf
      refine zv_cV0 K [tI v155] [tI v154] eL_law_739 lk_L_88 md_X11_forms im_X11_forms sl_X11_forms rfl rfl rfl rfl (Nat.le_of_ble_eq_true rfl) hq156 (c_X11_forms X.1.2.1 X.2.2.1 eh157) rfl rfl ⟨z_le (z_fr hX) (by exact Nat.le_of_ble_eq_true rfl), z_le (z_lo hX) (by exact Nat.le_of_ble_eq_true rfl)⟩ (z_bd hp mB) ?_
      refine zv_icmp_eq K 1200 eL_law_742 (by decide) hf (fun _ hf => ?_) (fun _ hf => ?_)
      · exact zv_sub [0, 1, 2, 3] rfl (v_L_law_b1200 K hX (by omega) hf hp)
      · obtain ⟨w9, hf9, e9⟩ := z_i1m_inv hf; clear hf; subst e9; have hf := hf9; clear hf9
        have hp : z_Pm X nx0 z0 (z_P0L X nx0 z0) _ := hp
        refine zv_iconst K (0 : Int32) eL_law_745 (by decide) ?_
        cases hf
        exact zv_lawret K eL_law_746 hp.2
    refine z_ite_inv _ hf (fun c17 hf => ?_) (fun c17 hf => ?_)
    · refine zv_tswIn K (off := 714) (17 : Int32) 747 eL_law_33 c17 (by decide) (by decide) (by rfl) (by decide) ?_
      refine zv_aload_n K 1 eL_law_747 rfl ?_
      refine zv_aload_n K 0 eL_law_748 rfl ?_
      refine zv_iload_n K 3 eL_law_749 rfl ?_
      refine zv_iconst K (1 : Int32) eL_law_750 (by decide) ?_
      refine zv_iadd K eL_law_751 ?_
      refine zv_aI K eL_law_752 hf (fun v159 hf => ?_)
      obtain ⟨q160, hq160, hf⟩ := z_bind_inv hf
      obtain ⟨v162, h161, eh161, hf⟩ := z_b2_inv hf
      refine zv_cV0 K [tI v159] [] eL_law_753 lk_L_89 md_X10_reach im_X10_reach sl_X10_reach rfl rfl rfl rfl (Nat.le_of_ble_eq_true rfl) hq160 (c_X10_reach X.1.2.1 X.2.2.1 eh161) rfl rfl ⟨z_le (z_fr hX) (by exact Nat.le_of_ble_eq_true rfl), z_le (z_lo hX) (by exact Nat.le_of_ble_eq_true rfl)⟩ (z_bd hp mB) ?_
      refine zv_aload_n K 2 eL_law_756 rfl ?_
      refine zv_aload_n K 0 eL_law_757 rfl ?_
      refine zv_iload_n K 3 eL_law_758 rfl ?_
      refine zv_iconst K (1 : Int32) eL_law_759 (by decide) ?_
      refine zv_iadd K eL_law_760 ?_
      refine zv_aI K eL_law_761 hf (fun v163 hf => ?_)
      obtain ⟨q164, hq164, hf⟩ := z_bind_inv hf
      obtain ⟨v166, h165, eh165, hf⟩ := z_b2_inv hf
      refine zv_cV0 K [tI v163] [tI v162] eL_law_762 lk_L_92 md_X11_reach im_X11_reach sl_X11_reach rfl rfl rfl rfl (Nat.le_of_ble_eq_true rfl) hq164 (c_X11_reach X.1.2.1 X.2.2.1 eh165) rfl rfl ⟨z_le (z_fr hX) (by exact Nat.le_of_ble_eq_true rfl), z_le (z_lo hX) (by exact Nat.le_of_ble_eq_true rfl)⟩ (z_bd hp mB) ?_
      refine zv_icmp_eq K 1200 eL_law_765 (by decide) hf (fun _ hf => ?_) (fun _ hf => ?_)
      · exact zv_sub [0, 1, 2, 3] rfl (v_L_law_b1200 K hX (by omega) hf hp)
      · obtain ⟨w9, hf9, e9⟩ := z_i1m_inv hf; clear hf; subst e9; have hf := hf9; clear hf9
        have hp : z_Pm X nx0 z0 (z_P0L X nx0 z0) _ := hp
        refine zv_iconst K (0 : Int32) eL_law_768 (by decide) ?_
        cases hf
        exact zv_lawret K eL_law_769 hp.2
    refine z_ite_inv _ hf (fun c18 hf => ?_) (fun c18 hf => ?_)
    · refine zv_tswIn K (off := 737) (18 : Int32) 770 eL_law_33 c18 (by decide) (by decide) (by rfl) (by decide) ?_
      refine zv_aload_n K 1 eL_law_770 rfl ?_
      refine zv_aload_n K 0 eL_law_771 rfl ?_
      refine zv_iload_n K 3 eL_law_772 rfl ?_
      refine zv_iconst K (1 : Int32) eL_law_773 (by decide) ?_
      refine zv_iadd K eL_law_774 ?_
      refine zv_aI K eL_law_775 hf (fun v167 hf => ?_)
      refine zv_aload_n K 0 eL_law_776 rfl ?_
      refine zv_iload_n K 3 eL_law_777 rfl ?_
      refine zv_iconst K (2 : Int32) eL_law_778 (by decide) ?_
      refine zv_iadd K eL_law_779 ?_
      refine zv_aI K eL_law_780 hf (fun v168 hf => ?_)
      refine zv_aload_n K 0 eL_law_781 rfl ?_
      refine zv_iload_n K 3 eL_law_782 rfl ?_
      refine zv_iconst K (3 : Int32) eL_law_783 (by decide) ?_
      refine zv_iadd K eL_law_784 ?_
      refine zv_aI K eL_law_785 hf (fun v169 hf => ?_)
      obtain ⟨q170, hq170, hf⟩ := z_bind_inv hf
      obtain ⟨v172, h171, eh171, hf⟩ := z_b2_inv hf
      refine zv_cV0 K [tI v167, tI v168, tI v169] [] eL_law_786 lk_L_93 md_X10_far im_X10_far sl_X10_far rfl rfl rfl rfl (Nat.le_of_ble_eq_true rfl) hq170 (c_X10_far X.1.2.1 X.2.2.1 eh171) rfl rfl ⟨z_le (z_fr hX) (by exact Nat.le_of_ble_eq_true rfl), z_le (z_lo hX) (by exact Nat.le_of_ble_eq_true rfl)⟩ (z_bd hp mB) ?_
      refine zv_aload_n K 2 eL_law_789 rfl ?_
      refine zv_aload_n K 0 eL_law_790 rfl ?_
      refine zv_iload_n K 3 eL_law_791 rfl ?_
      refine zv_iconst K (1 : Int32) eL_law_792 (by decide) ?_
      refine zv_iadd K eL_law_793 ?_
      refine zv_aI K eL_law_794 hf (fun v173 hf => ?_)
      refine zv_aload_n K 0 eL_law_795 rfl ?_
      refine zv_iload_n K 3 eL_law_796 rfl ?_
      refine zv_iconst K (2 : Int32) eL_law_797 (by decide) ?_
      refine zv_iadd K eL_law_798 ?_
      refine zv_aI K eL_law_799 hf (fun v174 hf => ?_)
      refine zv_aload_n K 0 eL_law_800 rfl ?_
      refine zv_iload_n K 3 eL_law_801 rfl ?_
      refine zv_iconst K (3 : Int32) eL_law_802 (by decide) ?_
      refine zv_iadd K eL_law_803 ?_
      refine zv_aI K eL_law_804 hf (fun v175 hf => ?_)
      obtain ⟨q176, hq176, hf⟩ := z_bind_inv hf
      obtain ⟨v178, h177, eh177, hf⟩ := z_b2_inv hf
      refine zv_cV0 K [tI v173, tI v174, tI v175] [tI v172] eL_law_805 lk_L_96 md_X11_far im_X11_far sl_X11_far rfl rfl rfl rfl (Nat.le_of_ble_eq_true rfl) hq176 (c_X11_far X.1.2.1 X.2.2.1 eh177) rfl rfl ⟨z_le (z_fr hX) (by exact Nat.le_of_ble_eq_true rfl), z_le (z_lo hX) (by exact Nat.le_of_ble_eq_true rfl)⟩ (z_bd hp mB) ?_
      refine zv_icmp_eq K 1200 eL_law_808 (by decide) hf (fun _ hf => ?_) (fun _ hf => ?_)
      · exact zv_sub [0, 1, 2, 3] rfl (v_L_law_b1200 K hX (by omega) hf hp)
      · obtain ⟨w9, hf9, e9⟩ := z_i1m_inv hf; clear hf; subst e9; have hf := hf9; clear hf9
        have hp : z_Pm X nx0 z0 (z_P0L X nx0 z0) _ := hp
        refine zv_iconst K (0 : Int32) eL_law_811 (by decide) ?_
        cases hf
        exact zv_lawret K eL_law_812 hp.2
    refine z_ite_inv _ hf (fun c19 hf => ?_) (fun c19 hf => ?_)
    · refine zv_tswIn K (off := 780) (19 : Int32) 813 eL_law_33 c19 (by decide) (by decide) (by rfl) (by decide) ?_
      refine zv_aload_n K 1 eL_law_813 rfl ?_
      refine zv_aload_n K 0 eL_law_814 rfl ?_
      refine zv_iload_n K 3 eL_law_815 rfl ?_
      refine zv_iconst K (1 : Int32) eL_law_816 (by decide) ?_
      refine zv_iadd K eL_law_817 ?_
      refine zv_aI K eL_law_818 hf (fun v179 hf => ?_)
      refine zv_aload_n K 0 eL_law_819 rfl ?_
      refine zv_iload_n K 3 eL_law_820 rfl ?_
      refine zv_iconst K (2 : Int32) eL_law_821 (by decide) ?_
      refine zv_iadd K eL_law_822 ?_
      refine zv_aI K eL_law_823 hf (fun v180 hf => ?_)
      refine zv_aload_n K 0 eL_law_824 rfl ?_
      refine zv_iload_n K 3 eL_law_825 rfl ?_
      refine zv_iconst K (3 : Int32) eL_law_826 (by decide) ?_
      refine zv_iadd K eL_law_827 ?_
      refine zv_aI K eL_law_828 hf (fun v181 hf => ?_)
      refine zv_aload_n K 0 eL_law_829 rfl ?_
      refine zv_iload_n K 3 eL_law_830 rfl ?_
      refine zv_iconst K (4 : Int32) eL_law_831 (by decide) ?_
      refine zv_iadd K eL_law_832 ?_
      refine zv_aI K eL_law_833 hf (fun v182 hf => ?_)
      obtain ⟨q183, hq183, hf⟩ := z_bind_inv hf
      obtain ⟨v185, h184, eh184, hf⟩ := z_b2_inv hf
      refine zv_cV0 K [tI v179, tI v180, tI v181, tI v182] [] eL_law_834 lk_L_97 md_X10_fewest im_X10_fewest sl_X10_fewest rfl rfl rfl rfl (Nat.le_of_ble_eq_true rfl) hq183 (c_X10_fewest X.1.2.1 X.2.2.1 eh184) rfl rfl ⟨z_le (z_fr hX) (by exact Nat.le_of_ble_eq_true rfl), z_le (z_lo hX) (by exact Nat.le_of_ble_eq_true rfl)⟩ (z_bd hp mB) ?_
      refine zv_aload_n K 2 eL_law_837 rfl ?_
      refine zv_aload_n K 0 eL_law_838 rfl ?_
      refine zv_iload_n K 3 eL_law_839 rfl ?_
      refine zv_iconst K (1 : Int32) eL_law_840 (by decide) ?_
      refine zv_iadd K eL_law_841 ?_
      refine zv_aI K eL_law_842 hf (fun v186 hf => ?_)
      refine zv_aload_n K 0 eL_law_843 rfl ?_
      refine zv_iload_n K 3 eL_law_844 rfl ?_
      refine zv_iconst K (2 : Int32) eL_law_845 (by decide) ?_
      refine zv_iadd K eL_law_846 ?_
      refine zv_aI K eL_law_847 hf (fun v187 hf => ?_)
      refine zv_aload_n K 0 eL_law_848 rfl ?_
      refine zv_iload_n K 3 eL_law_849 rfl ?_
      refine zv_iconst K (3 : Int32) eL_law_850 (by decide) ?_
      refine zv_iadd K eL_law_851 ?_
      refine zv_aI K eL_law_852 hf (fun v188 hf => ?_)
      refine zv_aload_n K 0 eL_law_853 rfl ?_
      refine zv_iload_n K 3 eL_law_854 rfl ?_
      refine zv_iconst K (4 : Int32) eL_law_855 (by decide) ?_
      refine zv_iadd K eL_law_856 ?_
      refine zv_aI K eL_law_857 hf (fun v189 hf => ?_)
      obtain ⟨q190, hq190, hf⟩ := z_bind_inv hf
      obtain ⟨v192, h191, eh191, hf⟩ := z_b2_inv hf
      refine zv_cV0 K [tI v186, tI v187, tI v188, tI v189] [tI v185] eL_law_858 lk_L_100 md_X11_fewest im_X11_fewest sl_X11_fewest rfl rfl rfl rfl (Nat.le_of_ble_eq_true rfl) hq190 (c_X11_fewest X.1.2.1 X.2.2.1 eh191) rfl rfl ⟨z_le (z_fr hX) (by exact Nat.le_of_ble_eq_true rfl), z_le (z_lo hX) (by exact Nat.le_of_ble_eq_true rfl)⟩ (z_bd hp mB) ?_
      refine zv_icmp_eq K 1200 eL_law_861 (by decide) hf (fun _ hf => ?_) (fun _ hf => ?_)
      · exact zv_sub [0, 1, 2, 3] rfl (v_L_law_b1200 K hX (by omega) hf hp)
      · obtain ⟨w9, hf9, e9⟩ := z_i1m_inv hf; clear hf; subst e9; have hf := hf9; clear hf9
        have hp : z_Pm X nx0 z0 (z_P0L X nx0 z0) _ := hp
        refine zv_iconst K (0 : Int32) eL_law_864 (by decide) ?_
        cases hf
        exact zv_lawret K eL_law_865 hp.2
    refine z_ite_inv _ hf (fun c20 hf => ?_) (fun c20 hf => ?_)
    · refine zv_tswIn K (off := 833) (20 : Int32) 866 eL_law_33 c20 (by decide) (by decide) (by rfl) (by decide) ?_
      refine zv_aload_n K 1 eL_law_866 rfl ?_
      refine zv_aload_n K 0 eL_law_867 rfl ?_
      refine zv_iload_n K 3 eL_law_868 rfl ?_
      refine zv_iconst K (1 : Int32) eL_law_869 (by decide) ?_
      refine zv_iadd K eL_law_870 ?_
      refine zv_aI K eL_law_871 hf (fun v193 hf => ?_)
      obtain ⟨q194, hq194, hf⟩ := z_bind_inv hf
      obtain ⟨n197, eh195, hf⟩ := z_bind_inv hf
      have mn197 := m_X10_image eh195
      have m9 := m_L_law_b875 hf
      refine zv_cV1 K [tI v193] [] (n197.1.1 - nx0) (n197.1.2 - z0) eL_law_872 lk_L_101 md_X10_image im_X10_image sl_X10_image rfl rfl rfl rfl (Nat.le_of_ble_eq_true rfl) hq194 (c_X10_image X.1.2.1 X.2.2.1 eh195) rfl rfl ⟨z_le (z_fr hX) (by exact Nat.le_of_ble_eq_true rfl), z_le (z_lo hX) (by exact Nat.le_of_ble_eq_true rfl)⟩ (by omega) (by omega) (by omega) (z_bd hp m9) ?_
      exact zv_sub [0, 1, 2, 3] rfl (v_L_law_b875 K hX (by omega) hf hp)
    refine z_ite_inv _ hf (fun c21 hf => ?_) (fun c21 hf => ?_)
    · refine zv_tswIn K (off := 856) (21 : Int32) 889 eL_law_33 c21 (by decide) (by decide) (by rfl) (by decide) ?_
      refine zv_aload_n K 1 eL_law_889 rfl ?_
      refine zv_aload_n K 0 eL_law_890 rfl ?_
      refine zv_iload_n K 3 eL_law_891 rfl ?_
      refine zv_iconst K (1 : Int32) eL_law_892 (by decide) ?_
      refine zv_iadd K eL_law_893 ?_
      refine zv_aI K eL_law_894 hf (fun v198 hf => ?_)
      obtain ⟨q199, hq199, hf⟩ := z_bind_inv hf
      obtain ⟨v201, h200, eh200, hf⟩ := z_b2_inv hf
      refine zv_cV0 K [tI v198] [] eL_law_895 lk_L_105 md_X10_restore im_X10_restore sl_X10_restore rfl rfl rfl rfl (Nat.le_of_ble_eq_true rfl) hq199 (c_X10_restore X.1.2.1 X.2.2.1 eh200) rfl rfl ⟨z_le (z_fr hX) (by exact Nat.le_of_ble_eq_true rfl), z_le (z_lo hX) (by exact Nat.le_of_ble_eq_true rfl)⟩ (z_bd hp mB) ?_
      refine zv_aload_n K 2 eL_law_898 rfl ?_
      refine zv_aload_n K 0 eL_law_899 rfl ?_
      refine zv_iload_n K 3 eL_law_900 rfl ?_
      refine zv_iconst K (1 : Int32) eL_law_901 (by decide) ?_
      refine zv_iadd K eL_law_902 ?_
      refine zv_aI K eL_law_903 hf (fun v202 hf => ?_)
      obtain ⟨q203, hq203, hf⟩ := z_bind_inv hf
      obtain ⟨v205, h204, eh204, hf⟩ := z_b2_inv hf
      refine zv_cV0 K [tI v202] [tI v201] eL_law_904 lk_L_108 md_X11_restore im_X11_restore sl_X11_restore rfl rfl rfl rfl (Nat.le_of_ble_eq_true rfl) hq203 (c_X11_restore X.1.2.1 X.2.2.1 eh204) rfl rfl ⟨z_le (z_fr hX) (by exact Nat.le_of_ble_eq_true rfl), z_le (z_lo hX) (by exact Nat.le_of_ble_eq_true rfl)⟩ (z_bd hp mB) ?_
      refine zv_icmp_eq K 1200 eL_law_907 (by decide) hf (fun _ hf => ?_) (fun _ hf => ?_)
      · exact zv_sub [0, 1, 2, 3] rfl (v_L_law_b1200 K hX (by omega) hf hp)
      · obtain ⟨w9, hf9, e9⟩ := z_i1m_inv hf; clear hf; subst e9; have hf := hf9; clear hf9
        have hp : z_Pm X nx0 z0 (z_P0L X nx0 z0) _ := hp
        refine zv_iconst K (0 : Int32) eL_law_910 (by decide) ?_
        cases hf
        exact zv_lawret K eL_law_911 hp.2
    refine z_ite_inv _ hf (fun c22 hf => ?_) (fun c22 hf => ?_)
    · refine zv_tswIn K (off := 879) (22 : Int32) 912 eL_law_33 c22 (by decide) (by decide) (by rfl) (by decide) ?_
      refine zv_aload_n K 1 eL_law_912 rfl ?_
      refine zv_aload_n K 0 eL_law_913 rfl ?_
      refine zv_iload_n K 3 eL_law_914 rfl ?_
      refine zv_iconst K (1 : Int32) eL_law_915 (by decide) ?_
      refine zv_iadd K eL_law_916 ?_
      refine zv_aI K eL_law_917 hf (fun v206 hf => ?_)
      refine zv_aload_n K 0 eL_law_918 rfl ?_
      refine zv_iload_n K 3 eL_law_919 rfl ?_
      refine zv_iconst K (2 : Int32) eL_law_920 (by decide) ?_
      refine zv_iadd K eL_law_921 ?_
      refine zv_aI K eL_law_922 hf (fun v207 hf => ?_)
      refine zv_aload_n K 0 eL_law_923 rfl ?_
      refine zv_iload_n K 3 eL_law_924 rfl ?_
      refine zv_iconst K (3 : Int32) eL_law_925 (by decide) ?_
      refine zv_iadd K eL_law_926 ?_
      refine zv_aI K eL_law_927 hf (fun v208 hf => ?_)
      refine zv_aload_n K 0 eL_law_928 rfl ?_
      refine zv_iload_n K 3 eL_law_929 rfl ?_
      refine zv_iconst K (4 : Int32) eL_law_930 (by decide) ?_
      refine zv_iadd K eL_law_931 ?_
      refine zv_aI K eL_law_932 hf (fun v209 hf => ?_)
      obtain ⟨q210, hq210, hf⟩ := z_bind_inv hf
      obtain ⟨v212, h211, eh211, hf⟩ := z_b2_inv hf
      refine zv_cV0 K [tI v206, tI v207, tI v208, tI v209] [] eL_law_933 lk_L_109 md_X10_film im_X10_film sl_X10_film rfl rfl rfl rfl (Nat.le_of_ble_eq_true rfl) hq210 (c_X10_film X.1.2.1 X.2.2.1 eh211) rfl rfl ⟨z_le (z_fr hX) (by exact Nat.le_of_ble_eq_true rfl), z_le (z_lo hX) (by exact Nat.le_of_ble_eq_true rfl)⟩ (z_bd hp mB) ?_
      refine zv_aload_n K 2 eL_law_936 rfl ?_
      refine zv_aload_n K 0 eL_law_937 rfl ?_
      refine zv_iload_n K 3 eL_law_938 rfl ?_
      refine zv_iconst K (1 : Int32) eL_law_939 (by decide) ?_
      refine zv_iadd K eL_law_940 ?_
      refine zv_aI K eL_law_941 hf (fun v213 hf => ?_)
      refine zv_aload_n K 0 eL_law_942 rfl ?_
      refine zv_iload_n K 3 eL_law_943 rfl ?_
      refine zv_iconst K (2 : Int32) eL_law_944 (by decide) ?_
      refine zv_iadd K eL_law_945 ?_
      refine zv_aI K eL_law_946 hf (fun v214 hf => ?_)
      refine zv_aload_n K 0 eL_law_947 rfl ?_
      refine zv_iload_n K 3 eL_law_948 rfl ?_
      refine zv_iconst K (3 : Int32) eL_law_949 (by decide) ?_
      refine zv_iadd K eL_law_950 ?_
      refine zv_aI K eL_law_951 hf (fun v215 hf => ?_)
      refine zv_aload_n K 0 eL_law_952 rfl ?_
      refine zv_iload_n K 3 eL_law_953 rfl ?_
      refine zv_iconst K (4 : Int32) eL_law_954 (by decide) ?_
      refine zv_iadd K eL_law_955 ?_
      refine zv_aI K eL_law_956 hf (fun v216 hf => ?_)
      obtain ⟨q217, hq217, hf⟩ := z_bind_inv hf
      obtain ⟨v219, h218, eh218, hf⟩ := z_b2_inv hf
      refine zv_cV0 K [tI v213, tI v214, tI v215, tI v216] [tI v212] eL_law_957 lk_L_112 md_X11_film im_X11_film sl_X11_film rfl rfl rfl rfl (Nat.le_of_ble_eq_true rfl) hq217 (c_X11_film X.1.2.1 X.2.2.1 eh218) rfl rfl ⟨z_le (z_fr hX) (by exact Nat.le_of_ble_eq_true rfl), z_le (z_lo hX) (by exact Nat.le_of_ble_eq_true rfl)⟩ (z_bd hp mB) ?_
      refine zv_icmp_eq K 1200 eL_law_960 (by decide) hf (fun _ hf => ?_) (fun _ hf => ?_)
      · exact zv_sub [0, 1, 2, 3] rfl (v_L_law_b1200 K hX (by omega) hf hp)
      · obtain ⟨w9, hf9, e9⟩ := z_i1m_inv hf; clear hf; subst e9; have hf := hf9; clear hf9
        have hp : z_Pm X nx0 z0 (z_P0L X nx0 z0) _ := hp
        refine zv_iconst K (0 : Int32) eL_law_963 (by decide) ?_
        cases hf
        exact zv_lawret K eL_law_964 hp.2
    refine z_ite_inv _ hf (fun c23 hf => ?_) (fun c23 hf => ?_)
    · refine zv_tswIn K (off := 932) (23 : Int32) 965 eL_law_33 c23 (by decide) (by decide) (by rfl) (by decide) ?_
      refine zv_aload_n K 1 eL_law_965 rfl ?_
      refine zv_aload_n K 0 eL_law_966 rfl ?_
      refine zv_iload_n K 3 eL_law_967 rfl ?_
      refine zv_iconst K (1 : Int32) eL_law_968 (by decide) ?_
      refine zv_iadd K eL_law_969 ?_
      refine zv_aI K eL_law_970 hf (fun v220 hf => ?_)
      refine zv_aload_n K 0 eL_law_971 rfl ?_
      refine zv_iload_n K 3 eL_law_972 rfl ?_
      refine zv_iconst K (2 : Int32) eL_law_973 (by decide) ?_
      refine zv_iadd K eL_law_974 ?_
      refine zv_aI K eL_law_975 hf (fun v221 hf => ?_)
      refine zv_aload_n K 0 eL_law_976 rfl ?_
      refine zv_iload_n K 3 eL_law_977 rfl ?_
      refine zv_iconst K (3 : Int32) eL_law_978 (by decide) ?_
      refine zv_iadd K eL_law_979 ?_
      refine zv_aI K eL_law_980 hf (fun v222 hf => ?_)
      refine zv_aload_n K 0 eL_law_981 rfl ?_
      refine zv_iload_n K 3 eL_law_982 rfl ?_
      refine zv_iconst K (4 : Int32) eL_law_983 (by decide) ?_
      refine zv_iadd K eL_law_984 ?_
      refine zv_aI K eL_law_985 hf (fun v223 hf => ?_)
      obtain ⟨q224, hq224, hf⟩ := z_bind_inv hf
      obtain ⟨v226, h225, eh225, hf⟩ := z_b2_inv hf
      refine zv_cV0 K [tI v220, tI v221, tI v222, tI v223] [] eL_law_986 lk_L_113 md_X10_differs im_X10_differs sl_X10_differs rfl rfl rfl rfl (Nat.le_of_ble_eq_true rfl) hq224 (c_X10_differs X.1.2.1 X.2.2.1 eh225) rfl rfl ⟨z_le (z_fr hX) (by exact Nat.le_of_ble_eq_true rfl), z_le (z_lo hX) (by exact Nat.le_of_ble_eq_true rfl)⟩ (z_bd hp mB) ?_
      refine zv_aload_n K 2 eL_law_989 rfl ?_
      refine zv_aload_n K 0 eL_law_990 rfl ?_
      refine zv_iload_n K 3 eL_law_991 rfl ?_
      refine zv_iconst K (1 : Int32) eL_law_992 (by decide) ?_
      refine zv_iadd K eL_law_993 ?_
      refine zv_aI K eL_law_994 hf (fun v227 hf => ?_)
      refine zv_aload_n K 0 eL_law_995 rfl ?_
      refine zv_iload_n K 3 eL_law_996 rfl ?_
      refine zv_iconst K (2 : Int32) eL_law_997 (by decide) ?_
      refine zv_iadd K eL_law_998 ?_
      refine zv_aI K eL_law_999 hf (fun v228 hf => ?_)
      refine zv_aload_n K 0 eL_law_1000 rfl ?_
      refine zv_iload_n K 3 eL_law_1001 rfl ?_
      refine zv_iconst K (3 : Int32) eL_law_1002 (by decide) ?_
      refine zv_iadd K eL_law_1003 ?_
      refine zv_aI K eL_law_1004 hf (fun v229 hf => ?_)
      refine zv_aload_n K 0 eL_law_1005 rfl ?_
      refine zv_iload_n K 3 eL_law_1006 rfl ?_
      refine zv_iconst K (4 : Int32) eL_law_1007 (by decide) ?_
      refine zv_iadd K eL_law_1008 ?_
      refine zv_aI K eL_law_1009 hf (fun v230 hf => ?_)
      obtain ⟨q231, hq231, hf⟩ := z_bind_inv hf
      obtain ⟨v233, h232, eh232, hf⟩ := z_b2_inv hf
      refine zv_cV0 K [tI v227, tI v228, tI v229, tI v230] [tI v226] eL_law_1010 lk_L_116 md_X11_differs im_X11_differs sl_X11_differs rfl rfl rfl rfl (Nat.le_of_ble_eq_true rfl) hq231 (c_X11_differs X.1.2.1 X.2.2.1 eh232) rfl rfl ⟨z_le (z_fr hX) (by exact Nat.le_of_ble_eq_true rfl), z_le (z_lo hX) (by exact Nat.le_of_ble_eq_true rfl)⟩ (z_bd hp mB) ?_
      refine zv_icmp_eq K 1200 eL_law_1013 (by decide) hf (fun _ hf => ?_) (fun _ hf => ?_)
      · exact zv_sub [0, 1, 2, 3] rfl (v_L_law_b1200 K hX (by omega) hf hp)
      · obtain ⟨w9, hf9, e9⟩ := z_i1m_inv hf; clear hf; subst e9; have hf := hf9; clear hf9
        have hp : z_Pm X nx0 z0 (z_P0L X nx0 z0) _ := hp
        refine zv_iconst K (0 : Int32) eL_law_1016 (by decide) ?_
        cases hf
        exact zv_lawret K eL_law_1017 hp.2
    refine z_ite_inv _ hf (fun c24 hf => ?_) (fun c24 hf => ?_)
    · refine zv_tswIn K (off := 985) (24 : Int32) 1018 eL_law_33 c24 (by decide) (by decide) (by rfl) (by decide) ?_
      refine zv_aload_n K 1 eL_law_1018 rfl ?_
      refine zv_aload_n K 0 eL_law_1019 rfl ?_
      refine zv_iload_n K 3 eL_law_1020 rfl ?_
      refine zv_iconst K (1 : Int32) eL_law_1021 (by decide) ?_
      refine zv_iadd K eL_law_1022 ?_
      refine zv_aI K eL_law_1023 hf (fun v234 hf => ?_)
      refine zv_aload_n K 0 eL_law_1024 rfl ?_
      refine zv_iload_n K 3 eL_law_1025 rfl ?_
      refine zv_iconst K (2 : Int32) eL_law_1026 (by decide) ?_
      refine zv_iadd K eL_law_1027 ?_
      refine zv_aI K eL_law_1028 hf (fun v235 hf => ?_)
      refine zv_aload_n K 0 eL_law_1029 rfl ?_
      refine zv_iload_n K 3 eL_law_1030 rfl ?_
      refine zv_iconst K (3 : Int32) eL_law_1031 (by decide) ?_
      refine zv_iadd K eL_law_1032 ?_
      refine zv_aI K eL_law_1033 hf (fun v236 hf => ?_)
      obtain ⟨q237, hq237, hf⟩ := z_bind_inv hf
      obtain ⟨v239, h238, eh238, hf⟩ := z_b2_inv hf
      refine zv_cV0 K [tI v234, tI v235, tI v236] [] eL_law_1034 lk_L_117 md_X10_sheet im_X10_sheet sl_X10_sheet rfl rfl rfl rfl (Nat.le_of_ble_eq_true rfl) hq237 (c_X10_sheet X.1.2.1 X.2.2.1 eh238) rfl rfl ⟨z_le (z_fr hX) (by exact Nat.le_of_ble_eq_true rfl), z_le (z_lo hX) (by exact Nat.le_of_ble_eq_true rfl)⟩ (z_bd hp mB) ?_
      refine zv_aload_n K 2 eL_law_1037 rfl ?_
      refine zv_aload_n K 0 eL_law_1038 rfl ?_
      refine zv_iload_n K 3 eL_law_1039 rfl ?_
      refine zv_iconst K (1 : Int32) eL_law_1040 (by decide) ?_
      refine zv_iadd K eL_law_1041 ?_
      refine zv_aI K eL_law_1042 hf (fun v240 hf => ?_)
      refine zv_aload_n K 0 eL_law_1043 rfl ?_
      refine zv_iload_n K 3 eL_law_1044 rfl ?_
      refine zv_iconst K (2 : Int32) eL_law_1045 (by decide) ?_
      refine zv_iadd K eL_law_1046 ?_
      refine zv_aI K eL_law_1047 hf (fun v241 hf => ?_)
      refine zv_aload_n K 0 eL_law_1048 rfl ?_
      refine zv_iload_n K 3 eL_law_1049 rfl ?_
      refine zv_iconst K (3 : Int32) eL_law_1050 (by decide) ?_
      refine zv_iadd K eL_law_1051 ?_
      refine zv_aI K eL_law_1052 hf (fun v242 hf => ?_)
      obtain ⟨q243, hq243, hf⟩ := z_bind_inv hf
      obtain ⟨v245, h244, eh244, hf⟩ := z_b2_inv hf
      refine zv_cV0 K [tI v240, tI v241, tI v242] [tI v239] eL_law_1053 lk_L_120 md_X11_sheet im_X11_sheet sl_X11_sheet rfl rfl rfl rfl (Nat.le_of_ble_eq_true rfl) hq243 (c_X11_sheet X.1.2.1 X.2.2.1 eh244) rfl rfl ⟨z_le (z_fr hX) (by exact Nat.le_of_ble_eq_true rfl), z_le (z_lo hX) (by exact Nat.le_of_ble_eq_true rfl)⟩ (z_bd hp mB) ?_
      refine zv_icmp_eq K 1200 eL_law_1056 (by decide) hf (fun _ hf => ?_) (fun _ hf => ?_)
      · exact zv_sub [0, 1, 2, 3] rfl (v_L_law_b1200 K hX (by omega) hf hp)
      · obtain ⟨w9, hf9, e9⟩ := z_i1m_inv hf; clear hf; subst e9; have hf := hf9; clear hf9
        have hp : z_Pm X nx0 z0 (z_P0L X nx0 z0) _ := hp
        refine zv_iconst K (0 : Int32) eL_law_1059 (by decide) ?_
        cases hf
        exact zv_lawret K eL_law_1060 hp.2
    refine z_ite_inv _ hf (fun c25 hf => ?_) (fun c25 hf => ?_)
    · refine zv_tswIn K (off := 1028) (25 : Int32) 1061 eL_law_33 c25 (by decide) (by decide) (by rfl) (by decide) ?_
      refine zv_aload_n K 1 eL_law_1061 rfl ?_
      refine zv_aload_n K 0 eL_law_1062 rfl ?_
      refine zv_iload_n K 3 eL_law_1063 rfl ?_
      refine zv_iconst K (1 : Int32) eL_law_1064 (by decide) ?_
      refine zv_iadd K eL_law_1065 ?_
      refine zv_aI K eL_law_1066 hf (fun v246 hf => ?_)
      obtain ⟨q247, hq247, hf⟩ := z_bind_inv hf
      obtain ⟨v249, h248, eh248, hf⟩ := z_b2_inv hf
      refine zv_cV0 K [tI v246] [] eL_law_1067 lk_L_121 md_X10_drop im_X10_drop sl_X10_drop rfl rfl rfl rfl (Nat.le_of_ble_eq_true rfl) hq247 (c_X10_drop X.1.2.1 X.2.2.1 eh248) rfl rfl ⟨z_le (z_fr hX) (by exact Nat.le_of_ble_eq_true rfl), z_le (z_lo hX) (by exact Nat.le_of_ble_eq_true rfl)⟩ (z_bd hp mB) ?_
      refine zv_aload_n K 2 eL_law_1070 rfl ?_
      refine zv_aload_n K 0 eL_law_1071 rfl ?_
      refine zv_iload_n K 3 eL_law_1072 rfl ?_
      refine zv_iconst K (1 : Int32) eL_law_1073 (by decide) ?_
      refine zv_iadd K eL_law_1074 ?_
      refine zv_aI K eL_law_1075 hf (fun v250 hf => ?_)
      obtain ⟨q251, hq251, hf⟩ := z_bind_inv hf
      obtain ⟨v253, h252, eh252, hf⟩ := z_b2_inv hf
      refine zv_cV0 K [tI v250] [tI v249] eL_law_1076 lk_L_124 md_X11_drop im_X11_drop sl_X11_drop rfl rfl rfl rfl (Nat.le_of_ble_eq_true rfl) hq251 (c_X11_drop X.1.2.1 X.2.2.1 eh252) rfl rfl ⟨z_le (z_fr hX) (by exact Nat.le_of_ble_eq_true rfl), z_le (z_lo hX) (by exact Nat.le_of_ble_eq_true rfl)⟩ (z_bd hp mB) ?_
      refine zv_icmp_eq K 1200 eL_law_1079 (by decide) hf (fun _ hf => ?_) (fun _ hf => ?_)
      · exact zv_sub [0, 1, 2, 3] rfl (v_L_law_b1200 K hX (by omega) hf hp)
      · obtain ⟨w9, hf9, e9⟩ := z_i1m_inv hf; clear hf; subst e9; have hf := hf9; clear hf9
        have hp : z_Pm X nx0 z0 (z_P0L X nx0 z0) _ := hp
        refine zv_iconst K (0 : Int32) eL_law_1082 (by decide) ?_
        cases hf
        exact zv_lawret K eL_law_1083 hp.2
    refine z_ite_inv _ hf (fun c26 hf => ?_) (fun c26 hf => ?_)
    · refine zv_tswIn K (off := 1051) (26 : Int32) 1084 eL_law_33 c26 (by decide) (by decide) (by rfl) (by decide) ?_
      refine zv_aload_n K 1 eL_law_1084 rfl ?_
      refine zv_aload_n K 0 eL_law_1085 rfl ?_
      refine zv_iload_n K 3 eL_law_1086 rfl ?_
      refine zv_iconst K (1 : Int32) eL_law_1087 (by decide) ?_
      refine zv_iadd K eL_law_1088 ?_
      refine zv_aI K eL_law_1089 hf (fun v254 hf => ?_)
      refine zv_aload_n K 0 eL_law_1090 rfl ?_
      refine zv_iload_n K 3 eL_law_1091 rfl ?_
      refine zv_iconst K (2 : Int32) eL_law_1092 (by decide) ?_
      refine zv_iadd K eL_law_1093 ?_
      refine zv_aI K eL_law_1094 hf (fun v255 hf => ?_)
      refine zv_aload_n K 0 eL_law_1095 rfl ?_
      refine zv_iload_n K 3 eL_law_1096 rfl ?_
      refine zv_iconst K (3 : Int32) eL_law_1097 (by decide) ?_
      refine zv_iadd K eL_law_1098 ?_
      refine zv_aI K eL_law_1099 hf (fun v256 hf => ?_)
      refine zv_aload_n K 0 eL_law_1100 rfl ?_
      refine zv_iload_n K 3 eL_law_1101 rfl ?_
      refine zv_iconst K (4 : Int32) eL_law_1102 (by decide) ?_
      refine zv_iadd K eL_law_1103 ?_
      refine zv_aI K eL_law_1104 hf (fun v257 hf => ?_)
      obtain ⟨q258, hq258, hf⟩ := z_bind_inv hf
      obtain ⟨v260, h259, eh259, hf⟩ := z_b2_inv hf
      refine zv_cV0 K [tI v254, tI v255, tI v256, tI v257] [] eL_law_1105 lk_L_125 md_X10_item im_X10_item sl_X10_item rfl rfl rfl rfl (Nat.le_of_ble_eq_true rfl) hq258 (c_X10_item X.1.2.1 X.2.2.1 eh259) rfl rfl ⟨z_le (z_fr hX) (by exact Nat.le_of_ble_eq_true rfl), z_le (z_lo hX) (by exact Nat.le_of_ble_eq_true rfl)⟩ (z_bd hp mB) ?_
      refine zv_aload_n K 2 eL_law_1108 rfl ?_
      refine zv_aload_n K 0 eL_law_1109 rfl ?_
      refine zv_iload_n K 3 eL_law_1110 rfl ?_
      refine zv_iconst K (1 : Int32) eL_law_1111 (by decide) ?_
      refine zv_iadd K eL_law_1112 ?_
      refine zv_aI K eL_law_1113 hf (fun v261 hf => ?_)
      refine zv_aload_n K 0 eL_law_1114 rfl ?_
      refine zv_iload_n K 3 eL_law_1115 rfl ?_
      refine zv_iconst K (2 : Int32) eL_law_1116 (by decide) ?_
      refine zv_iadd K eL_law_1117 ?_
      refine zv_aI K eL_law_1118 hf (fun v262 hf => ?_)
      refine zv_aload_n K 0 eL_law_1119 rfl ?_
      refine zv_iload_n K 3 eL_law_1120 rfl ?_
      refine zv_iconst K (3 : Int32) eL_law_1121 (by decide) ?_
      refine zv_iadd K eL_law_1122 ?_
      refine zv_aI K eL_law_1123 hf (fun v263 hf => ?_)
      refine zv_aload_n K 0 eL_law_1124 rfl ?_
      refine zv_iload_n K 3 eL_law_1125 rfl ?_
      refine zv_iconst K (4 : Int32) eL_law_1126 (by decide) ?_
      refine zv_iadd K eL_law_1127 ?_
      refine zv_aI K eL_law_1128 hf (fun v264 hf => ?_)
      obtain ⟨q265, hq265, hf⟩ := z_bind_inv hf
      obtain ⟨v267, h266, eh266, hf⟩ := z_b2_inv hf
      refine zv_cV0 K [tI v261, tI v262, tI v263, tI v264] [tI v260] eL_law_1129 lk_L_128 md_X11_item im_X11_item sl_X11_item rfl rfl rfl rfl (Nat.le_of_ble_eq_true rfl) hq265 (c_X11_item X.1.2.1 X.2.2.1 eh266) rfl rfl ⟨z_le (z_fr hX) (by exact Nat.le_of_ble_eq_true rfl), z_le (z_lo hX) (by exact Nat.le_of_ble_eq_true rfl)⟩ (z_bd hp mB) ?_
      refine zv_icmp_eq K 1200 eL_law_1132 (by decide) hf (fun _ hf => ?_) (fun _ hf => ?_)
      · exact zv_sub [0, 1, 2, 3] rfl (v_L_law_b1200 K hX (by omega) hf hp)
      · obtain ⟨w9, hf9, e9⟩ := z_i1m_inv hf; clear hf; subst e9; have hf := hf9; clear hf9
        have hp : z_Pm X nx0 z0 (z_P0L X nx0 z0) _ := hp
        refine zv_iconst K (0 : Int32) eL_law_1135 (by decide) ?_
        cases hf
        exact zv_lawret K eL_law_1136 hp.2
    refine z_ite_inv _ hf (fun c27 hf => ?_) (fun c27 hf => ?_)
    · refine zv_tswIn K (off := 1104) (27 : Int32) 1137 eL_law_33 c27 (by decide) (by decide) (by rfl) (by decide) ?_
      refine zv_aload_n K 1 eL_law_1137 rfl ?_
      refine zv_aload_n K 0 eL_law_1138 rfl ?_
      refine zv_iload_n K 3 eL_law_1139 rfl ?_
      refine zv_iconst K (1 : Int32) eL_law_1140 (by decide) ?_
      refine zv_iadd K eL_law_1141 ?_
      refine zv_aI K eL_law_1142 hf (fun v268 hf => ?_)
      refine zv_aload_n K 0 eL_law_1143 rfl ?_
      refine zv_iload_n K 3 eL_law_1144 rfl ?_
      refine zv_iconst K (2 : Int32) eL_law_1145 (by decide) ?_
      refine zv_iadd K eL_law_1146 ?_
      refine zv_aI K eL_law_1147 hf (fun v269 hf => ?_)
      refine zv_aload_n K 0 eL_law_1148 rfl ?_
      refine zv_iload_n K 3 eL_law_1149 rfl ?_
      refine zv_iconst K (3 : Int32) eL_law_1150 (by decide) ?_
      refine zv_iadd K eL_law_1151 ?_
      refine zv_aI K eL_law_1152 hf (fun v270 hf => ?_)
      refine zv_aload_n K 0 eL_law_1153 rfl ?_
      refine zv_iload_n K 3 eL_law_1154 rfl ?_
      refine zv_iconst K (4 : Int32) eL_law_1155 (by decide) ?_
      refine zv_iadd K eL_law_1156 ?_
      refine zv_aI K eL_law_1157 hf (fun v271 hf => ?_)
      refine zv_aload_n K 0 eL_law_1158 rfl ?_
      refine zv_iload_n K 3 eL_law_1159 rfl ?_
      refine zv_iconst K (5 : Int32) eL_law_1160 (by decide) ?_
      refine zv_iadd K eL_law_1161 ?_
      refine zv_aI K eL_law_1162 hf (fun v272 hf => ?_)
      obtain ⟨q273, hq273, hf⟩ := z_bind_inv hf
      obtain ⟨v275, h274, eh274, hf⟩ := z_b2_inv hf
      refine zv_cV0 K [tI v268, tI v269, tI v270, tI v271, tI v272] [] eL_law_1163 lk_L_129 md_X10_copy im_X10_copy sl_X10_copy rfl rfl rfl rfl (Nat.le_of_ble_eq_true rfl) hq273 (c_X10_copy X.1.2.1 X.2.2.1 eh274) rfl rfl ⟨z_le (z_fr hX) (by exact Nat.le_of_ble_eq_true rfl), z_le (z_lo hX) (by exact Nat.le_of_ble_eq_true rfl)⟩ (z_bd hp mB) ?_
      refine zv_aload_n K 2 eL_law_1166 rfl ?_
      refine zv_aload_n K 0 eL_law_1167 rfl ?_
      refine zv_iload_n K 3 eL_law_1168 rfl ?_
      refine zv_iconst K (1 : Int32) eL_law_1169 (by decide) ?_
      refine zv_iadd K eL_law_1170 ?_
      refine zv_aI K eL_law_1171 hf (fun v276 hf => ?_)
      refine zv_aload_n K 0 eL_law_1172 rfl ?_
      refine zv_iload_n K 3 eL_law_1173 rfl ?_
      refine zv_iconst K (2 : Int32) eL_law_1174 (by decide) ?_
      refine zv_iadd K eL_law_1175 ?_
      refine zv_aI K eL_law_1176 hf (fun v277 hf => ?_)
      refine zv_aload_n K 0 eL_law_1177 rfl ?_
      refine zv_iload_n K 3 eL_law_1178 rfl ?_
      refine zv_iconst K (3 : Int32) eL_law_1179 (by decide) ?_
      refine zv_iadd K eL_law_1180 ?_
      refine zv_aI K eL_law_1181 hf (fun v278 hf => ?_)
      refine zv_aload_n K 0 eL_law_1182 rfl ?_
      refine zv_iload_n K 3 eL_law_1183 rfl ?_
      refine zv_iconst K (4 : Int32) eL_law_1184 (by decide) ?_
      refine zv_iadd K eL_law_1185 ?_
      refine zv_aI K eL_law_1186 hf (fun v279 hf => ?_)
      refine zv_aload_n K 0 eL_law_1187 rfl ?_
      refine zv_iload_n K 3 eL_law_1188 rfl ?_
      refine zv_iconst K (5 : Int32) eL_law_1189 (by decide) ?_
      refine zv_iadd K eL_law_1190 ?_
      refine zv_aI K eL_law_1191 hf (fun v280 hf => ?_)
      obtain ⟨q281, hq281, hf⟩ := z_bind_inv hf
      obtain ⟨v283, h282, eh282, hf⟩ := z_b2_inv hf
      refine zv_cV0 K [tI v276, tI v277, tI v278, tI v279, tI v280] [tI v275] eL_law_1192 lk_L_133 md_X11_copy im_X11_copy sl_X11_copy rfl rfl rfl rfl (Nat.le_of_ble_eq_true rfl) hq281 (c_X11_copy X.1.2.1 X.2.2.1 eh282) rfl rfl ⟨z_le (z_fr hX) (by exact Nat.le_of_ble_eq_true rfl), z_le (z_lo hX) (by exact Nat.le_of_ble_eq_true rfl)⟩ (z_bd hp mB) ?_
      refine zv_icmp_eq K 1200 eL_law_1195 (by decide) hf (fun _ hf => ?_) (fun _ hf => ?_)
      · exact zv_sub [0, 1, 2, 3] rfl (v_L_law_b1200 K hX (by omega) hf hp)
      · obtain ⟨w9, hf9, e9⟩ := z_i1m_inv hf; clear hf; subst e9; have hf := hf9; clear hf9
        have hp : z_Pm X nx0 z0 (z_P0L X nx0 z0) _ := hp
        refine zv_iconst K (0 : Int32) eL_law_1198 (by decide) ?_
        cases hf
        exact zv_lawret K eL_law_1199 hp.2
    have ec0 := lv_neT (a := 0) c0 (by decide)
    have ec1 := lv_neT (a := 1) c1 (by decide)
    have ec2 := lv_neT (a := 2) c2 (by decide)
    have ec3 := lv_neT (a := 3) c3 (by decide)
    have ec4 := lv_neT (a := 4) c4 (by decide)
    have ec5 := lv_neT (a := 5) c5 (by decide)
    have ec6 := lv_neT (a := 6) c6 (by decide)
    have ec7 := lv_neT (a := 7) c7 (by decide)
    have ec8 := lv_neT (a := 8) c8 (by decide)
    have ec9 := lv_neT (a := 9) c9 (by decide)
    have ec10 := lv_neT (a := 10) c10 (by decide)
    have ec11 := lv_neT (a := 11) c11 (by decide)
    have ec12 := lv_neT (a := 12) c12 (by decide)
    have ec13 := lv_neT (a := 13) c13 (by decide)
    have ec14 := lv_neT (a := 14) c14 (by decide)
    have ec15 := lv_neT (a := 15) c15 (by decide)
    have ec16 := lv_neT (a := 16) c16 (by decide)
    have ec17 := lv_neT (a := 17) c17 (by decide)
    have ec18 := lv_neT (a := 18) c18 (by decide)
    have ec19 := lv_neT (a := 19) c19 (by decide)
    have ec20 := lv_neT (a := 20) c20 (by decide)
    have ec21 := lv_neT (a := 21) c21 (by decide)
    have ec22 := lv_neT (a := 22) c22 (by decide)
    have ec23 := lv_neT (a := 23) c23 (by decide)
    have ec24 := lv_neT (a := 24) c24 (by decide)
    have ec25 := lv_neT (a := 25) c25 (by decide)
    have ec26 := lv_neT (a := 26) c26 (by decide)
    have ec27 := lv_neT (a := 27) c27 (by decide)
    refine zv_tswOut K 1200 eL_law_33 (by omega) (by decide) ?_
    exact zv_sub [0, 1, 2, 3] rfl (v_L_law_b1200 K hX (by omega) hf hp)
theorem m_L_law_b18  {tS : Nat} {x0 : Option Nat} {x1 : Option Nat} {x2 : Option Nat} {x3 : Int32} {h : zH} {nx z : Nat} {x : ((Nat × Nat) × (Int32 × zH))} (hf : f_L_law_b18 tS x0 x1 x2 x3 h nx z = some x) : nx ≤ x.1.1 ∧ z ≤ x.1.2 :=
  z_itmo (body := fun q : (Nat × Nat) × ((Option Nat) × (Option Nat) × (Option Nat) × Int32 × zH) => f_L_law_c18 tS q.2.1 q.2.2.1 q.2.2.2.1 q.2.2.2.2.1 q.2.2.2.2.2 q.1.1 q.1.2) (nz := (nx, z)) (fun s nz y hb => m_L_law_c18 hb) hf
theorem v_L_law_b18 {X : zX} {nx0 z0 : Nat} {lnm : String} (K : z_Ok X cL_law (some .boolean) RL lnm) (hX : z_Xo X room_1 4) {x0 : Option Nat} {x1 : Option Nat} {x2 : Option Nat} {x3 : Int32} {h : zH} {nx z : Nat} (hm : nx0 ≤ nx ∧ z0 ≤ z) {x : ((Nat × Nat) × (Int32 × zH))} (hf : f_L_law_b18 X.2.2.1.2.2.1 x0 x1 x2 x3 h nx z = some x) (hp : z_Pm X nx0 z0 (z_P0L X nx0 z0) x) : zV X 18 [(0, tA x0), (1, tA x1), (2, tA x2), (3, tI x3)] [] h nx (nx - nx0) (z - z0) :=
  z_itm (body := fun q : (Nat × Nat) × ((Option Nat) × (Option Nat) × (Option Nat) × Int32 × zH) => f_L_law_c18 X.2.2.1.2.2.1 q.2.1 q.2.2.1 q.2.2.2.1 q.2.2.2.2.1 q.2.2.2.2.2 q.1.1 q.1.2) (nz := (nx, z)) (P := fun s nz => zV X 18 [(0, tA s.1), (1, tA s.2.1), (2, tA s.2.2.1), (3, tI s.2.2.2.1)] [] s.2.2.2.2 nz.1 (nz.1 - nx0) (nz.2 - z0)) (Q := z_P0L X nx0 z0) (fun s nz y hm hb hy => v_L_law_c18 K hX hm hb hy) (fun s nz y hb => m_L_law_c18 hb) hm hp hf
theorem m_L_law_b15  {tS : Nat} {x0 : Option Nat} {x1 : Option Nat} {s0 : Option Nat} {h : zH} {nx z : Nat} {x : ((Nat × Nat) × (Int32 × zH))} (hf : f_L_law_b15 tS x0 x1 s0 h nx z = some x) : nx ≤ x.1.1 ∧ z ≤ x.1.2 := by
  unfold f_L_law_b15 at hf
  have m9 := m_L_law_b18 hf
  exact ⟨by (try dsimp only at *); omega, by (try dsimp only at *); omega⟩
set_option maxHeartbeats 4000000 in
set_option maxRecDepth 100000 in
theorem v_L_law_b15 {X : zX} {nx0 z0 : Nat} {lnm : String} (K : z_Ok X cL_law (some .boolean) RL lnm) (hX : z_Xo X room_1 4) {x0 : Option Nat} {x1 : Option Nat} {s0 : Option Nat} {h : zH} {nx z : Nat} (hm : nx0 ≤ nx ∧ z0 ≤ z) {x : ((Nat × Nat) × (Int32 × zH))} (hf : f_L_law_b15 X.2.2.1.2.2.1 x0 x1 s0 h nx z = some x) (hp : z_Pm X nx0 z0 (z_P0L X nx0 z0) x) : zV X 15 [(0, tA x0), (1, tA x1)] [tA s0] h nx (nx - nx0) (z - z0) := by
  have mB := m_L_law_b15 hf
  unfold f_L_law_b15 at hf
  refine zv_astore_n K [(2, tA s0), (0, tA x0), (1, tA x1)] eL_law_15 (z_lt hX.2 (by decide)) rfl ?_
  refine zv_iconst K (0 : Int32) eL_law_16 (by decide) ?_
  refine zv_istore_n K [(3, tI (0 : Int32)), (2, tA s0), (0, tA x0), (1, tA x1)] eL_law_17 (z_lt hX.2 (by decide)) rfl ?_
  exact zv_sub [2, 3, 1, 0] rfl (v_L_law_b18 K hX (by omega) hf hp)
theorem m_L_law_b11  {tS : Nat} {x0 : Option Nat} {x1 : Option Nat} {s0 : Option Nat} {h : zH} {nx z : Nat} {x : ((Nat × Nat) × (Int32 × zH))} (hf : f_L_law_b11 tS x0 x1 s0 h nx z = some x) : nx ≤ x.1.1 ∧ z ≤ x.1.2 := by
  unfold f_L_law_b11 at hf
  obtain ⟨_, _, hf⟩ := z_bind_inv hf
  obtain ⟨n3, eh2, hf⟩ := z_bind_inv hf
  have mn3 := m_X11_init eh2
  have m9 := m_L_law_b15 hf
  exact ⟨by (try dsimp only at *); omega, by (try dsimp only at *); omega⟩
set_option maxHeartbeats 4000000 in
set_option maxRecDepth 100000 in
theorem v_L_law_b11 {X : zX} {nx0 z0 : Nat} {lnm : String} (K : z_Ok X cL_law (some .boolean) RL lnm) (hX : z_Xo X room_1 4) {x0 : Option Nat} {x1 : Option Nat} {s0 : Option Nat} {h : zH} {nx z : Nat} (hm : nx0 ≤ nx ∧ z0 ≤ z) {x : ((Nat × Nat) × (Int32 × zH))} (hf : f_L_law_b11 X.2.2.1.2.2.1 x0 x1 s0 h nx z = some x) (hp : z_Pm X nx0 z0 (z_P0L X nx0 z0) x) : zV X 11 [(0, tA x0), (1, tA x1)] [tA s0] h nx (nx - nx0) (z - z0) := by
  have mB := m_L_law_b11 hf
  unfold f_L_law_b11 at hf
  refine zv_dup K eL_law_11 rfl ?_
  obtain ⟨q1, hq1, hf⟩ := z_bind_inv hf
  obtain ⟨n3, eh2, hf⟩ := z_bind_inv hf
  have mn3 := m_X11_init eh2
  have m9 := m_L_law_b15 hf
  refine zv_cI1 K [] [tA s0] (n3.1.1 - nx0) (n3.1.2 - z0) eL_law_12 lk_L_12 md_X11_init im_X11_init rfl rfl rfl (Nat.le_of_ble_eq_true rfl) hq1 (c_X11_init X.1.2.1 X.2.2.1 eh2) rfl rfl ⟨z_le (z_fr hX) (by exact Nat.le_of_ble_eq_true rfl), z_le (z_lo hX) (by exact Nat.le_of_ble_eq_true rfl)⟩ (by omega) (by omega) (by omega) (z_bd hp m9) ?_
  exact zv_sub [0, 1] rfl (v_L_law_b15 K hX (by omega) hf hp)
theorem m_L_law_b7  {tS : Nat} {x0 : Option Nat} {s0 : Option Nat} {h : zH} {nx z : Nat} {x : ((Nat × Nat) × (Int32 × zH))} (hf : f_L_law_b7 tS x0 s0 h nx z = some x) : nx ≤ x.1.1 ∧ z ≤ x.1.2 := by
  unfold f_L_law_b7 at hf
  have m9 := m_L_law_b11 hf
  exact ⟨by (try dsimp only at *); omega, by (try dsimp only at *); omega⟩
set_option maxHeartbeats 4000000 in
set_option maxRecDepth 100000 in
theorem v_L_law_b7 {X : zX} {nx0 z0 : Nat} {lnm : String} (K : z_Ok X cL_law (some .boolean) RL lnm) (hX : z_Xo X room_1 4) {x0 : Option Nat} {s0 : Option Nat} {h : zH} {nx z : Nat} (hm : nx0 ≤ nx ∧ z0 ≤ z) {x : ((Nat × Nat) × (Int32 × zH))} (hf : f_L_law_b7 X.2.2.1.2.2.1 x0 s0 h nx z = some x) (hp : z_Pm X nx0 z0 (z_P0L X nx0 z0) x) : zV X 7 [(0, tA x0)] [tA s0] h nx (nx - nx0) (z - z0) := by
  have mB := m_L_law_b7 hf
  unfold f_L_law_b7 at hf
  refine zv_astore_n K [(1, tA s0), (0, tA x0)] eL_law_7 (z_lt hX.2 (by decide)) rfl ?_
  have m9 := m_L_law_b11 hf
  refine zv_new K 11 _ [tA none, tA none, tA none, tA none, tI 0, tA none, tA none, tA none, tA none, tA none, tI 0, tA none, tA none, tA none, tI 0, tA none, tA none, tA none, tA none, tI 0, tA none, tA none] (nx + 1 - nx0) (z + 22 - z0) eL_law_8 rfl cl_L_10 nb_11 nt_11 df_11 (by omega) (by show _ + 22 = _; omega) (z_bd hp m9) ?_
  exact zv_sub [1, 0] rfl (v_L_law_b11 K hX (by omega) hf hp)
theorem m_L_law_b3  {tS : Nat} {x0 : Option Nat} {s0 : Option Nat} {h : zH} {nx z : Nat} {x : ((Nat × Nat) × (Int32 × zH))} (hf : f_L_law_b3 tS x0 s0 h nx z = some x) : nx ≤ x.1.1 ∧ z ≤ x.1.2 := by
  unfold f_L_law_b3 at hf
  obtain ⟨_, _, hf⟩ := z_bind_inv hf
  obtain ⟨n3, eh2, hf⟩ := z_bind_inv hf
  have mn3 := m_X10_init eh2
  have m9 := m_L_law_b7 hf
  exact ⟨by (try dsimp only at *); omega, by (try dsimp only at *); omega⟩
set_option maxHeartbeats 4000000 in
set_option maxRecDepth 100000 in
theorem v_L_law_b3 {X : zX} {nx0 z0 : Nat} {lnm : String} (K : z_Ok X cL_law (some .boolean) RL lnm) (hX : z_Xo X room_1 4) {x0 : Option Nat} {s0 : Option Nat} {h : zH} {nx z : Nat} (hm : nx0 ≤ nx ∧ z0 ≤ z) {x : ((Nat × Nat) × (Int32 × zH))} (hf : f_L_law_b3 X.2.2.1.2.2.1 x0 s0 h nx z = some x) (hp : z_Pm X nx0 z0 (z_P0L X nx0 z0) x) : zV X 3 [(0, tA x0)] [tA s0] h nx (nx - nx0) (z - z0) := by
  have mB := m_L_law_b3 hf
  unfold f_L_law_b3 at hf
  refine zv_dup K eL_law_3 rfl ?_
  obtain ⟨q1, hq1, hf⟩ := z_bind_inv hf
  obtain ⟨n3, eh2, hf⟩ := z_bind_inv hf
  have mn3 := m_X10_init eh2
  have m9 := m_L_law_b7 hf
  refine zv_cI1 K [] [tA s0] (n3.1.1 - nx0) (n3.1.2 - z0) eL_law_4 lk_L_9 md_X10_init im_X10_init rfl rfl rfl (Nat.le_of_ble_eq_true rfl) hq1 (c_X10_init X.1.2.1 X.2.2.1 eh2) rfl rfl ⟨z_le (z_fr hX) (by exact Nat.le_of_ble_eq_true rfl), z_le (z_lo hX) (by exact Nat.le_of_ble_eq_true rfl)⟩ (by omega) (by omega) (by omega) (z_bd hp m9) ?_
  exact zv_sub [0] rfl (v_L_law_b7 K hX (by omega) hf hp)
theorem m_L_law  {tS : Nat} {x0 : Option Nat} {h : zH} {nx z : Nat} {x : ((Nat × Nat) × (Int32 × zH))} (hf : f_L_law tS x0 h nx z = some x) : nx ≤ x.1.1 ∧ z ≤ x.1.2 := by
  unfold f_L_law at hf
  have m9 := m_L_law_b3 hf
  exact ⟨by (try dsimp only at *); omega, by (try dsimp only at *); omega⟩
set_option maxHeartbeats 4000000 in
set_option maxRecDepth 100000 in
theorem v_L_law {X : zX} {nx0 z0 : Nat} {lnm : String} (K : z_Ok X cL_law (some .boolean) RL lnm) (hX : z_Xo X room_1 4) {x0 : Option Nat} {h : zH} {nx z : Nat} (hm : nx0 ≤ nx ∧ z0 ≤ z) {x : ((Nat × Nat) × (Int32 × zH))} (hf : f_L_law X.2.2.1.2.2.1 x0 h nx z = some x) (hp : z_Pm X nx0 z0 (z_P0L X nx0 z0) x) : zV X 0 [(0, tA x0)] [] h nx (nx - nx0) (z - z0) := by
  have mB := m_L_law hf
  unfold f_L_law at hf
  have m9 := m_L_law_b3 hf
  refine zv_new K 10 _ [tA none, tA none, tA none, tA none, tI 0, tA none, tA none, tA none, tA none] (nx + 1 - nx0) (z + 9 - z0) eL_law_0 rfl cl_L_7 nb_10 nt_10 df_10 (by omega) (by show _ + 9 = _; omega) (z_bd hp m9) ?_
  exact zv_sub [0] rfl (v_L_law_b3 K hX (by omega) hf hp)
