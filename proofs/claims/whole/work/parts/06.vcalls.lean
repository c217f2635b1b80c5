/-! new cells, calls, answers, contracts -/
def z_Pc (G : zG) (as : List zTV) (h : zH) (nx : Nat) : Array Value → State → Prop := fun v U => v = (as.map z_tv).toArray ∧ z_Hp G h nx U.heap ∧ U.heap.size = nx ∧ z_St G U
def z_Qc (G : zG) (r : Option zTV) (h : zH) (nx : Nat) : Array Value → State → Outcome → State → Prop := fun _ st o t => o = .returned (r.map z_tv) ∧ z_Hp G h nx t.heap ∧ va_F (z_A G) st t
def z_Ct (l : Launch) (G : zG) (y : MethodName) (cc : ByteArray) (maxL : Nat) (ret : Option FieldType) (rm : Room) (as : List zTV) (h : zH) (nx : Nat) (r : Option zTV) (h' : zH) (nx' mc ms : Nat) : Prop :=
  Met l y (.code y cc maxL ret :: z_tb) rm (z_Pc G as h nx) (z_Qc G r h' nx') mc ms (z_A G)
theorem z_St_go {G : zG} {s U : State} {H : Heap} {locs : List Loc} (h : z_St G s) (hS : va_S (z_A G) s.heap H locs) (hU : U.heap = H) (hW : s.WarmedH U.vm) : z_St G U := by
  obtain ⟨⟨a1, a2, a3⟩, b1, b2, b3, b4, b5, b6⟩ := h
  have hkeep : ∀ a : Nat, a < s.heap.size → ¬ z_A G a → U.heap[a]? = s.heap[a]? := fun a h1 h2 => by rw [hU]; exact hS.2.1 a h1 h2
  refine ⟨⟨by rw [hU]; exact Nat.le_trans a1 hS.1, a2, a3⟩, ?_, ?_, ?_, ?_, ?_, ?_⟩
  · exact (va_X.kept b1 (hkeep _ (by omega) (Nat.not_le.mpr a2))).moved hW.alike
  · exact va_Z.moved hW.alike (va_Z.kept b2 hkeep)
  · exact va_T.moved hW.alike (va_T.kept b3 hkeep)
  · exact va_K.moved hW.alike b4
  · intro w hw
    have h0 := b5 w hw
    have hn := (List.mem_filter.mp hw).2
    cases w <;> first | exact va_Nw.warmF hW h0 | exact va_Nw.warmM hW h0 | (simp [z_isN] at hn)
  · exact ⟨va_AO.moved hW.alike b6.1, va_AO.moved hW.alike b6.2.1, va_AO.moved hW.alike b6.2.2.1, va_AO.moved hW.alike b6.2.2.2.1, va_AO.moved hW.alike b6.2.2.2.2⟩
theorem z_St_blind {G : zG} {U : State} (g : JFrame) (mk : MethodId) (a : Array Value) (h : z_St G U) : z_St G (U.calling g mk a) := by
  obtain ⟨a1, b1, b2, b3, b4, b5, b6⟩ := h
  refine ⟨a1, va_X.moved (u := U) (U := U.calling g mk a) (Vm.Alike.refl U.vm) b1, va_Z.moved (u := U) (U := U.calling g mk a) (Vm.Alike.refl U.vm) b2, va_T.moved (u := U) (U := U.calling g mk a) (Vm.Alike.refl U.vm) b3, va_K.moved (u := U) (U := U.calling g mk a) (Vm.Alike.refl U.vm) b4, fun w hw => ?_, ?_⟩
  · have h0 := b5 w hw
    have hn := (List.mem_filter.mp hw).2
    refine va_Nw.same (u := U) (U := U.calling g mk a) ?_ rfl h0
    cases w <;> first | rfl | (simp [z_isN] at hn)
  · exact ⟨va_AO.moved (u := U) (U := U.calling g mk a) (Vm.Alike.refl U.vm) b6.1, va_AO.moved (u := U) (U := U.calling g mk a) (Vm.Alike.refl U.vm) b6.2.1, va_AO.moved (u := U) (U := U.calling g mk a) (Vm.Alike.refl U.vm) b6.2.2.1, va_AO.moved (u := U) (U := U.calling g mk a) (Vm.Alike.refl U.vm) b6.2.2.2.1, va_AO.moved (u := U) (U := U.calling g mk a) (Vm.Alike.refl U.vm) b6.2.2.2.2⟩
theorem z_Pc_blind (G : zG) (as : List zTV) (h : zH) (nx : Nat) : FrameBlind (z_Pc G as h nx) := fun a U g mk hp => ⟨hp.1, hp.2.1, hp.2.2.1, z_St_blind g mk a hp.2.2.2⟩
theorem z_goodIn {w : Cond} (hm : w ∈ lw_tbl) (hg : goodWord w = true) : GoodIn z_tb (w :: z_tb) := by
  intro v hv
  rcases List.mem_cons.mp hv with rfl | hv
  · exact ⟨List.mem_filter.mpr ⟨hm, hg⟩, good_of_word hg⟩
  · exact ⟨hv, good_of_word (List.mem_filter.mp hv).2⟩
theorem z_szT {p : Program} {l : Launch} {e : Env} {R : Room} {s : State} {m : MethodId} {args : Array Value} {below : List Frame} {meth : Method} {c : Code} {T : State} {locs : List Loc} {cells slots : Nat} (S : Stand p l e R s m args below meth c T locs cells slots) : T.heap.size ≤ s.heap.size + cells := S.same.2.2.1
section ZC
variable {X : zX} {cc : ByteArray} {ret : Option FieldType} {own nm : String} {pc pc' : Nat} {lv lv' : List (Nat × zTV)} {rest : List zTV} {h : zH} {nx k z : Nat} {α : Type} {T E : Option α} {a : α}
theorem z_catsum (l : List zTV) : ((l.map z_tv).map fun v => v.category).sum = (l.map z_cat).sum := by
  rw [List.map_map]
  have : (fun v => v.category) ∘ z_tv = z_cat := funext z_tv_cat
  rw [this]
theorem zv_objInit (K : z_Ok X cc ret own nm) {idx : Nat} {r : Option Nat} {F : Nat → Option α} (d : z_D cc pc (.invokespecial idx) 3 pc') (hL : Cond.methodLink own idx objectInit ∈ lw_tbl) (hI : Cond.instanceMethod objectInit ∈ lw_tbl) (hC : Cond.code objectInit ⟨#[0xb1]⟩ 1 none ∈ lw_tbl) (hR : 1 ≤ X.2.1.frames ∧ 20 ≤ X.2.1.locals) (hrest : (rest.map z_cat).sum ≤ 8) (hf : r.bind F = some a) (kk : ∀ v, F v = some a → zV X pc' lv rest h nx k z) : zV X pc lv (tA r :: rest) h nx k z := by
  obtain ⟨v, he, hf⟩ := z_bind_inv hf
  subst he
  have kk := kk v hf
  intro H locs ls hH hS hl; obtain ⟨d, rfl⟩ := d
  exact W.objInit K.1 K.2.1 K.2.2.2.2.1 (z_word K hL rfl) (z_word K hI rfl) (z_word K hC rfl) rfl (hl.1.trans K.2.2.2.1.symm) rfl d hR.1 (by
    have := z_catsum rest
    show 2 * 0 + _ + 12 ≤ _
    omega) (kk H locs ls hH hS hl)
theorem z_sized {H : Heap} {locs : List Loc} {g : JFrame} (hH : z_Hs X h nx k H) (kk : H.size = nx → W X.1.1 X.1.2.1 X.1.2.2.1 X.2.1 X.1.2.2.2.1 X.1.2.2.2.2.1 X.1.2.2.2.2.2.1 X.1.2.2.2.2.2.2.1 X.1.2.2.2.2.2.2.2.1 X.1.2.2.2.2.2.2.2.2 H locs k z X.2.2.2.2 g) : W X.1.1 X.1.2.1 X.1.2.2.1 X.2.1 X.1.2.2.2.1 X.1.2.2.2.2.1 X.1.2.2.2.2.2.1 X.1.2.2.2.2.2.2.1 X.1.2.2.2.2.2.2.2.1 X.1.2.2.2.2.2.2.2.2 H locs k z X.2.2.2.2 g :=
  fun T hT XX => kk (by have h1 := z_szT XX; rw [hT] at h1; have h2 := hH.1.2.1; have h3 := hH.2; omega) T hT XX
theorem zv_new (K : z_Ok X cc ret own nm) {idx : Nat} (ci : Nat) (q : vw_C) (fs : List zTV) (k' z' : Nat) (d : z_D cc pc (.new idx) 3 pc') (hc : vwCl[ci]? = some q) (hL : Cond.classLink own idx q.1 ∈ lw_tbl) (hI : Cond.instantiable q.1 q.2.2 ∈ lw_tbl) (hT : Cond.initialized q.1 ∈ lw_tbl) (hfs : ∀ j, j < q.2.2 → defaultValue (z_ft ci j) = vp_V (fs.map z_tv) j) (hk : k + 1 = k') (hz : z + q.2.2 = z') (hR : k' ≤ X.2.1.cells ∧ z' ≤ X.2.1.slots)
    (kk : zV X pc' lv (tA (some nx) :: rest) (z_up h nx (.inr (ci, fs))) (nx + 1) k' z') : zV X pc lv rest h nx k z := by
  subst hk; subst hz
  intro H locs ls hH hS hl; obtain ⟨d, rfl⟩ := d
  refine z_sized hH (fun hsz => ?_)
  have hKn := K.2.2.2.2.2.2.2.2.2.2.2.2.1.1 ci _ hc
  refine W.newcK K.1 K.2.1 K.2.2.2.2.1 (z_word K hL rfl) (z_word K hI rfl) (z_word K hT rfl) rfl d hR.1 hR.2 hKn.2.1 hsz (fun H1 kC hkC e1 z1 o1 => ?_)
  have hkp : ∀ (j : Nat) (x : Nat × va_E), (z_ws X.2.2.1 h nx)[j]? = some x → H1[x.1]? = H[x.1]? := fun j x hx => o1 x.1 (by rw [← hsz]; exact (hH.1.1 j x hx).lt)
  have hP1 : va_P X.2.2.1.2.2.2.2.2.1 vwCl (z_ws X.2.2.1 h nx ++ [(nx, z_E X.2.2.1.2.2.2.2.2.2 (.inr (ci, fs)))]) H1 := by
    refine (va_P.kept hH.1.1 hkp).app (fun j x hx => ?_)
    have hj : j < 1 := (List.getElem?_eq_some_iff.mp hx).1
    rw [show j = 0 by omega] at hx
    cases hx
    exact ⟨_, hc, (u_born (z_ft ci) K.2.2.2.2.2.1 (z_in hc) hKn hkC e1 (z_ft_ok hc).1).to hfs⟩
  rw [z_ws_push hH.1.2.2.1] at hP1
  exact kk H1 locs ls ⟨⟨hP1, by omega, by have := hH.1.2.2.1; omega, z_dom_push hH.1.2.2.2 K.2.2.2.2.2.2.2.2.1.2 hH.1.2.2.1 _ (fun n f e => by cases e)⟩, by have := hH.2; omega⟩ ⟨by have := hS.1; omega, fun x h1 h2 => (o1 x (by have := hS.1; omega)).trans (hS.2.1 x h1 h2), hS.2.2⟩ hl
theorem z_newP {kd N : Nat} {c : zMC} {H H1 : Heap} {v : Value} (hP : va_P X.2.2.1.2.2.2.2.2.1 vwCl (z_ws X.2.2.1 h nx) H) (hsz : H.size = nx) (o1 : ∀ q, q < nx → H1[q]? = H[q]?) (hn : X.2.2.1.1 ≤ nx) (hat : va_at X.2.2.1.2.2.2.2.2.1 vwCl (nx, z_E X.2.2.1.2.2.2.2.2.2 c) H1) : va_P X.2.2.1.2.2.2.2.2.1 vwCl (z_ws X.2.2.1 (z_up h nx c) (nx + 1)) H1 := by
  rw [← z_ws_push hn]
  refine (va_P.kept hP (fun j x hx => o1 x.1 (by rw [← hsz]; exact (hP j x hx).lt))).app (fun j x hx => ?_)
  have hj : j < 1 := (List.getElem?_eq_some_iff.mp hx).1
  rw [show j = 0 by omega] at hx
  cases hx
  exact hat
theorem zv_newarr (K : z_Ok X cc ret own nm) {atype : ArrayType} {n : Int32} (kd N : Nat) (c : zMC) (k' z' : Nat) (d : z_D cc pc (.newarray atype) 2 pc') (harr : Cond.arrayClass (newarray.typeOf atype) ∈ lw_tbl) (hkd : ∀ cy, (z_tys cy)[kd]? = some (cy kd, newarray.typeOf atype)) (hra : ∀ U cA, va_RA U cA (newarray.typeOf atype) → U.vm.findClass ("[" ++ (newarray.typeOf atype).toString) = some cA) (hat : ∀ (cy : Nat → ClassId), ∃ x, z_E cy c = .inl (cy kd, x) ∧ ∀ cA, vp_cell cA x = arrV cA N (fun _ => defaultValue (newarray.typeOf atype))) (hnk : z_nk c) (hn : ¬ n < 0) (hN : n.toNatClampNeg = N) (hb : N * componentBytes (newarray.typeOf atype) ≤ 536870912) (hk : k + 1 = k') (hz : z + N = z') (hR : k' ≤ X.2.1.cells ∧ z' ≤ X.2.1.slots)
    (kk : zV X pc' lv (tA (some nx) :: rest) (z_up h nx c) (nx + 1) k' z') : zV X pc lv (tI n :: rest) h nx k z := by
  subst hk; subst hz
  intro H locs ls hH hS hl; obtain ⟨d, rfl⟩ := d
  refine z_sized hH (fun hsz => ?_)
  refine va_newaK K.1 K.2.1 (z_word K harr rfl) rfl d rfl hn hN hb hR.1 hR.2 hsz (fun H1 cA e1 z1 o1 hAr hNm => ?_)
  have hcy := hra _ _ (K.2.2.2.2.2.2.2.2.2.2.2.2.1.2 kd _ (hkd X.2.2.1.2.2.2.2.2.2)).2
  have hcA : cA = X.2.2.1.2.2.2.2.2.2 kd := Option.some.inj (hNm.symm.trans hcy)
  obtain ⟨x, hx1, hx2⟩ := hat X.2.2.1.2.2.2.2.2.2
  have hP1 := z_newP (c := c) (kd := kd) (N := N) (v := .null) hH.1.1 hsz o1 hH.1.2.2.1 (by
    rw [hx1]
    show H1[nx]? = some (vp_cell _ _)
    rw [hx2, ← hcA]
    exact e1)
  exact kk H1 locs ls ⟨⟨hP1, by omega, by have := hH.1.2.2.1; omega, z_dom_push hH.1.2.2.2 K.2.2.2.2.2.2.2.2.1.2 hH.1.2.2.1 _ hnk⟩, by have := hH.2; omega⟩ ⟨by have := hS.1; omega, fun x h1 h2 => (o1 x (by have := hS.1; omega)).trans (hS.2.1 x h1 h2), hS.2.2⟩ hl
theorem zv_newI (K : z_Ok X cc ret own nm) {n : Int32} (N k' z' : Nat) (d : z_D cc pc (.newarray .int) 2 pc') (harr : Cond.arrayClass .int ∈ lw_tbl) (hn : ¬ n < 0) (hN : n.toNatClampNeg = N) (hb : N * 4 ≤ 536870912) (hk : k + 1 = k') (hz : z + N = z') (hR : k' ≤ X.2.1.cells ∧ z' ≤ X.2.1.slots)
    (kk : zV X pc' lv (tA (some nx) :: rest) (z_up h nx (.inl (0, N, .inl (fun _ => 0)))) (nx + 1) k' z') : zV X pc lv (tI n :: rest) h nx k z :=
  zv_newarr K 0 N _ k' z' d harr (fun _ => rfl) (fun _ _ e => e) (fun cy => ⟨(N, .inl (fun _ => 0)), rfl, fun _ => rfl⟩) (fun n f e => by injection e with e; injection e with e _; cases e) hn hN hb hk hz hR kk
theorem zv_newB (K : z_Ok X cc ret own nm) {n : Int32} (N k' z' : Nat) (d : z_D cc pc (.newarray .byte) 2 pc') (harr : Cond.arrayClass .byte ∈ lw_tbl) (hn : ¬ n < 0) (hN : n.toNatClampNeg = N) (hb : N * 1 ≤ 536870912) (hk : k + 1 = k') (hz : z + N = z') (hR : k' ≤ X.2.1.cells ∧ z' ≤ X.2.1.slots)
    (kk : zV X pc' lv (tA (some nx) :: rest) (z_up h nx (.inl (1, N, .inl (fun _ => 0)))) (nx + 1) k' z') : zV X pc lv (tI n :: rest) h nx k z :=
  zv_newarr K 1 N _ k' z' d harr (fun _ => rfl) (fun _ _ e => e) (fun cy => ⟨(N, .inl (fun _ => 0)), rfl, fun _ => rfl⟩) (fun n f e => by injection e with e; injection e with e _; cases e) hn hN hb hk hz hR kk
theorem zv_newZ (K : z_Ok X cc ret own nm) {n : Int32} (N k' z' : Nat) (d : z_D cc pc (.newarray .boolean) 2 pc') (harr : Cond.arrayClass .boolean ∈ lw_tbl) (hn : ¬ n < 0) (hN : n.toNatClampNeg = N) (hb : N * 1 ≤ 536870912) (hk : k + 1 = k') (hz : z + N = z') (hR : k' ≤ X.2.1.cells ∧ z' ≤ X.2.1.slots)
    (kk : zV X pc' lv (tA (some nx) :: rest) (z_up h nx (.inl (2, N, .inl (fun _ => 0)))) (nx + 1) k' z') : zV X pc lv (tI n :: rest) h nx k z :=
  zv_newarr K 2 N _ k' z' d harr (fun _ => rfl) (fun _ _ e => e) (fun cy => ⟨(N, .inl (fun _ => 0)), rfl, fun _ => rfl⟩) (fun n f e => by injection e with e; injection e with e _; cases e) hn hN hb hk hz hR kk
theorem zv_newJ (K : z_Ok X cc ret own nm) {n : Int32} (N k' z' : Nat) (d : z_D cc pc (.newarray .long) 2 pc') (harr : Cond.arrayClass .long ∈ lw_tbl) (hn : ¬ n < 0) (hN : n.toNatClampNeg = N) (hb : N * 8 ≤ 536870912) (hk : k + 1 = k') (hz : z + N = z') (hR : k' ≤ X.2.1.cells ∧ z' ≤ X.2.1.slots)
    (kk : zV X pc' lv (tA (some nx) :: rest) (z_up h nx (.inl (3, N, .inr (.inl (fun _ => 0))))) (nx + 1) k' z') : zV X pc lv (tI n :: rest) h nx k z :=
  zv_newarr K 3 N _ k' z' d harr (fun _ => rfl) (fun _ _ e => e) (fun cy => ⟨(N, .inr (.inl (fun _ => 0))), rfl, fun _ => rfl⟩) (fun n f e => by injection e with e; injection e with e _; cases e) hn hN hb hk hz hR kk
theorem z_over (K : z_Ok X cc ret own nm) {kd : Nat} (h1 : 4 ≤ kd) (h2 : kd ≤ 8) {r : vw_C} (hr : vwCl[z_kc kd]? = some r) : va_AO r.1 X.1.2.2.2.1 := by
  have b6 := K.2.2.2.2.2.2.2.2.2.2.2.2.2.2
  rcases (show kd = 4 ∨ kd = 5 ∨ kd = 6 ∨ kd = 7 ∨ kd = 8 by omega) with rfl | rfl | rfl | rfl | rfl <;> cases hr
  · exact b6.1
  · exact b6.2.1
  · exact b6.2.2.1
  · exact b6.2.2.2.1
  · exact b6.2.2.2.2
theorem zv_newA (K : z_Ok X cc ret own nm) {idx : Nat} {n : Int32} (kd N k' z' : Nat) (r : vw_C) (d : z_D cc pc (.anewarray idx) 3 pc') (hkd : 4 ≤ kd ∧ kd ≤ 8) (hr : vwCl[z_kc kd]? = some r) (hL : Cond.classLink own idx r.1 ∈ lw_tbl) (hn : ¬ n < 0) (hN : n.toNatClampNeg = N) (hb : N * 4 ≤ 536870912) (hk : k + 1 = k') (hz : z + N = z') (hR : k' ≤ X.2.1.cells ∧ z' ≤ X.2.1.slots)
    (kk : zV X pc' lv (tA (some nx) :: rest) (z_up h nx (.inl (kd, N, .inr (.inr (fun _ => none))))) (nx + 1) k' z') : zV X pc lv (tI n :: rest) h nx k z := by
  subst hk; subst hz; subst hN
  intro H locs ls hH hS hl; obtain ⟨d, rfl⟩ := d
  refine z_sized hH (fun hsz => ?_)
  refine W.anew K.1 K.2.1 K.2.2.2.2.1 (z_word K hL rfl) (va_AO.use (z_over K hkd.1 hkd.2 hr)) rfl d rfl hn hb hR.1 hR.2 (fun cA kA comp f1 f2 f3 f4 => ?_)
  obtain ⟨rr, hrr, htt⟩ := z_kt (cy := X.2.2.1.2.2.2.2.2.2) hkd.1 hkd.2
  cases hr.symm.trans hrr
  obtain ⟨kA', comp', g1, g2, g3, g4⟩ := (K.2.2.2.2.2.2.2.2.2.2.2.2.1.2 kd _ htt).2
  have hcA : cA = X.2.2.1.2.2.2.2.2.2 kd := Option.some.inj (f1.symm.trans g4)
  generalize hH1 : H.push ({ cls := cA, slots := Array.replicate n.toNatClampNeg .null, vm := .none } : Cell) = H1
  have z1 : H1.size = H.size + 1 := by rw [← hH1, Array.size_push]
  have e1 : H1[H.size]? = some (arrV cA n.toNatClampNeg (fun _ => .null)) := by rw [← hH1, Array.getElem?_push_size, ← arrV_new]
  have o1 : ∀ q : Nat, q < H.size → H1[q]? = H[q]? := fun q hq => by rw [← hH1, Array.getElem?_push, if_neg (Nat.ne_of_lt hq)]
  rw [hsz] at z1 e1 o1 ⊢
  have hP1 := z_newP (c := .inl (kd, n.toNatClampNeg, .inr (.inr (fun _ => none)))) (kd := kd) (N := 0) (v := .null) hH.1.1 hsz o1 hH.1.2.2.1 (by
    show H1[nx]? = some (vp_cell (X.2.2.1.2.2.2.2.2.2 kd) (n.toNatClampNeg, .inr (.inr (.inr (.inr (fun _ => none))))))
    rw [vp_cell_q, ← hcA]
    exact e1)
  exact kk H1 locs ls ⟨⟨hP1, by omega, by have := hH.1.2.2.1; omega, z_dom_push hH.1.2.2.2 K.2.2.2.2.2.2.2.2.1.2 hH.1.2.2.1 _ (fun n f e => by injection e with e; injection e with _ e; injection e with _ e; cases e)⟩, by have := hH.2; omega⟩ ⟨by have := hS.1; omega, fun x h1 h2 => (o1 x (by have := hS.1; omega)).trans (hS.2.1 x h1 h2), hS.2.2⟩ hl
/-! calls -/
theorem z_pre (K : z_Ok X cc ret own nm) {as : List zTV} {H : Heap} {locs : List Loc} (hH : z_Hs X h nx k H) (hS : va_S (z_A X.2.2.1) X.1.2.2.2.1.heap H locs) (hsz : H.size = nx) : PreS X.1.2.2.2.1 H (z_Pc X.2.2.1 as h nx) (as.map z_tv) :=
  ⟨z_Pc_blind _ _ _ _, fun U hU hW => ⟨rfl, by rw [hU]; exact hH.1, by rw [hU]; exact hsz, z_St_go K.2.2.2.2.2.2.2.2 hS hU hW⟩⟩
theorem z_after {r : Option zTV} {h' : zH} {nx' mc ms : Nat} {H : Heap} {locs : List Loc} {ls : Array Slot} {st0 : List Value} {ar : Array Value} (hr : va_Run X.1.1 X.1.2.1 X.1.2.2.1 X.2.1 X.1.2.2.2.1 X.1.2.2.2.2.1 X.1.2.2.2.2.2.1 X.1.2.2.2.2.2.2.1 X.1.2.2.2.2.2.2.2.1 X.1.2.2.2.2.2.2.2.2 H locs k z mc ms (F0 X.1.2.2.2.2.1 pc ls st0) (rest.map z_tv) (z_Qc X.2.2.1 r h' nx' ar) (z_A X.2.2.1)) (hH : z_Hs X h nx k H) (hS : va_S (z_A X.2.2.1) X.1.2.2.2.1.heap H locs) (hl : lv_has ls X.2.2.2.1 (lv.map z_lm)) (hnx : nx + mc = nx') (kk : zV X (pc + 3) lv (r.toList ++ rest) h' nx' (k + mc) (z + ms)) :
    W X.1.1 X.1.2.1 X.1.2.2.1 X.2.1 X.1.2.2.2.1 X.1.2.2.2.2.1 X.1.2.2.2.2.2.1 X.1.2.2.2.2.2.2.1 X.1.2.2.2.2.2.2.2.1 X.1.2.2.2.2.2.2.2.2 H locs k z X.2.2.2.2 (F0 X.1.2.2.2.2.1 pc ls st0) := by
  intro T hT XX
  obtain ⟨v, st₀, t, T', L, h0, X', hL, e1, e2, ⟨hv, hHp, hF⟩, st⟩ := hr T hT XX
  cases hv
  obtain ⟨hz, hk⟩ := hF
  rw [h0] at hz hk
  obtain ⟨t2, a1, b1⟩ := kk T'.heap (locs ++ L) ls ⟨by rw [e1]; exact hHp, by have := hH.2; omega⟩ ⟨by rw [e1]; exact Nat.le_trans hS.1 hz, fun q g1 g2 => by rw [e1, hk q (Nat.lt_of_lt_of_le g1 hS.1) g2]; exact hS.2.1 q g1 g2, fun q hq => by
      rcases List.mem_append.mp hq with g | g
      · exact hS.2.2 q g
      · exact hL q g⟩ hl T' rfl X'
  refine ⟨t2, st t2 ?_, b1⟩
  have : (r.toList ++ rest).map z_tv = (r.map z_tv).toList ++ rest.map z_tv := by cases r <;> simp
  rw [this] at a1
  exact a1
/-- a method's words, beside its link -/
def z_Md (y : MethodName) (cc2 : ByteArray) (maxL : Nat) (ret2 : Option FieldType) (n : Nat) : Prop := Cond.initialized y.cls ∈ lw_tbl ∧ Cond.code y cc2 maxL ret2 ∈ lw_tbl ∧ (y.cls ≠ "java/lang/invoke/MethodHandle" ∧ y.cls ≠ "java/lang/invoke/VarHandle" ∧ (parseMethodDescriptor y.desc).map (fun d => d.parameters.length) = some n)
def z_Lk (own : String) (idx : Nat) (y : MethodName) : Prop := Cond.methodLink own idx y ∈ lw_tbl ∨ ∃ host, Cond.methodLinkNest own idx y host ∈ lw_tbl
theorem zv_callS (K : z_Ok X cc ret own nm) {idx n maxL mc ms nx' : Nat} {y : MethodName} {cc2 : ByteArray} {ret2 : Option FieldType} {rm : Room} {r : Option zTV} {h' : zH} (as : List zTV) (rest : List zTV) {st : List zTV} (d : z_D cc pc (.invokestatic idx) 3 pc') (hL : z_Lk own idx y) (hM : z_Md y cc2 maxL ret2 n) (hst : Cond.static y ∈ lw_tbl) (hn : as.length = n) (hse : st = as.reverse ++ rest) (hrest : (rest.map z_cat).sum ≤ 8)
    (hc : z_Ct X.1.2.1 X.2.2.1 y cc2 maxL ret2 rm as h nx r h' nx' mc ms) (hrc : rm.cells = mc) (hrs : rm.slots = ms) (hR : rm.frames + 1 ≤ X.2.1.frames ∧ 8 + (maxL + 11) + rm.locals ≤ X.2.1.locals) (hf : k + mc ≤ X.2.1.cells ∧ z + ms ≤ X.2.1.slots) (hnx : nx + mc = nx') (kk : zV X pc' lv (r.toList ++ rest) h' nx' (k + mc) (z + ms)) : zV X pc lv st h nx k z := by
  subst hse
  intro H locs ls hH hS hl; obtain ⟨d, rfl⟩ := d
  intro T0 hT0 XX
  have hsz : H.size = nx := by have h1 := z_szT XX; rw [hT0] at h1; have h2 := hH.1.2.1; have h3 := hH.2; omega
  have hpre := z_pre (as := as) K hH hS hsz
  have hlr : 2 * (F0 X.1.2.2.2.2.1 pc ls (((as.reverse ++ rest).map z_tv))).monitorRoom + ((rest.map z_tv).map fun v => v.category).sum ≤ 8 := by have := z_catsum rest; exact lv_room (by omega)
  have hstk : (as.reverse ++ rest).map z_tv = (as.map z_tv).reverse ++ rest.map z_tv := by rw [List.map_append, List.map_reverse]
  have hG : GoodIn z_tb (Cond.code y cc2 maxL ret2 :: z_tb) := z_goodIn hM.2.1 rfl
  rcases hL with hL | ⟨host, hL⟩
  · exact z_after (ar := (as.map z_tv).toArray) (va_runS (n := n) (g := F0 X.1.2.2.2.2.1 pc ls ((as.reverse ++ rest).map z_tv)) ⟨K.1, K.2.1, K.2.2.2.1, K.2.2.2.2.1, K.2.2.2.2.2.1⟩ hc ⟨callB_of n K.2.2.2.2.2.1 hG rfl hrc hrs (z_word K hM.1 rfl) (z_word K hL rfl) hM.2.2 hR, z_word K hst rfl⟩ hpre rfl (by rw [List.length_map]; exact hn) hl.1 hstk hlr d hf) hH hS hl hnx kk T0 hT0 XX
  · exact z_after (ar := (as.map z_tv).toArray) (va_runSN (n := n) (host := host) (g := F0 X.1.2.2.2.2.1 pc ls ((as.reverse ++ rest).map z_tv)) ⟨K.1, K.2.1, K.2.2.2.1, K.2.2.2.2.1, K.2.2.2.2.2.1⟩ hc ⟨va_cnB n K.2.2.2.2.2.1 hG rfl hrc hrs (va_Nw.of rfl (z_nword K hL rfl rfl)) (z_word K hM.1 rfl) hM.2.2 hR, z_word K hst rfl, trivial⟩ hpre rfl (by rw [List.length_map]; exact hn) hl.1 hstk hlr d hf) hH hS hl hnx kk T0 hT0 XX
theorem z_ck_inv {ci q : Nat} {r : Option Nat} (he : z_ck h ci r = some q) : r = some q ∧ ∃ fs, h q = .inr (ci, fs) := by
  cases r with
  | none => cases he
  | some b =>
    simp only [z_ck, Option.bind_some] at he
    split at he
    · rename_i c fs hq
      split at he
      · rename_i hc; cases he; subst hc; exact ⟨rfl, fs, hq⟩
      · cases he
    · cases he
theorem zv_callV (K : z_Ok X cc ret own nm) {idx n maxL mc ms nx' ci q : Nat} {y : MethodName} {cc2 : ByteArray} {ret2 : Option FieldType} {rm : Room} {r : Option zTV} {h' : zH} {b : Option Nat} {qc : vw_C} (as : List zTV) (rest : List zTV) {st : List zTV} (d : z_D cc pc (.invokevirtual idx) 3 pc') (hL : z_Lk own idx y) (hM : z_Md y cc2 maxL ret2 n) (hi : Cond.instanceMethod y ∈ lw_tbl) (hsl : Cond.selects qc.1 y y ∈ lw_tbl) (hcl : vwCl[ci]? = some qc) (hn : as.length = n) (hse : st = as.reverse ++ tA b :: rest) (hrest : (rest.map z_cat).sum ≤ 8) (hck : z_ck h ci b = some q)
    (hc : z_Ct X.1.2.1 X.2.2.1 y cc2 maxL ret2 rm (tA b :: as) h nx r h' nx' mc ms) (hrc : rm.cells = mc) (hrs : rm.slots = ms) (hR : rm.frames + 1 ≤ X.2.1.frames ∧ 8 + (maxL + 11) + rm.locals ≤ X.2.1.locals) (hf : k + mc ≤ X.2.1.cells ∧ z + ms ≤ X.2.1.slots) (hnx : nx + mc = nx') (kk : zV X pc' lv (r.toList ++ rest) h' nx' (k + mc) (z + ms)) : zV X pc lv st h nx k z := by
  obtain ⟨rfl, fs, hq⟩ := z_ck_inv hck
  subst hse
  intro H locs ls hH hS hl; obtain ⟨d, rfl⟩ := d
  intro T0 hT0 XX
  have hsz : H.size = nx := by have h1 := z_szT XX; rw [hT0] at h1; have h2 := hH.1.2.1; have h3 := hH.2; omega
  have hpre := z_pre (as := tA (some q) :: as) K hH hS hsz
  have hlt := z_cls_lt hcl
  obtain ⟨i1, i2⟩ := z_dom_in hH.1.2.2.2 (a := q) (by rw [hq]; intro e; injection e with e; injection e with e _; omega) (by intro n f e; rw [hq] at e; cases e)
  have hw : (z_ws X.2.2.1 h nx)[q - X.2.2.1.1]? = some (q, .inr (ci, fs.map z_tv)) := by rw [z_ws_get i1 i2, hq]; rfl
  have hpv : PreV X.1.2.2.2.1 H qc.1 q (z_Pc X.2.2.1 (tA (some q) :: as) h nx) (as.map z_tv) := ⟨hpre.1, va_recv K.2.2.2.2.2.2.2.2.2.2.2.2.1 hH.1.1 hcl hw, hpre.2⟩
  have hlr : 2 * (F0 X.1.2.2.2.2.1 pc ls (((as.reverse ++ tA (some q) :: rest).map z_tv))).monitorRoom + ((rest.map z_tv).map fun v => v.category).sum ≤ 8 := by have := z_catsum rest; exact lv_room (by omega)
  have hstk : (as.reverse ++ tA (some q) :: rest).map z_tv = (as.map z_tv).reverse ++ .ref q :: rest.map z_tv := by rw [List.map_append, List.map_reverse]; rfl
  have hG : GoodIn z_tb (Cond.code y cc2 maxL ret2 :: z_tb) := z_goodIn hM.2.1 rfl
  rcases hL with hL | ⟨host, hL⟩
  · exact z_after (ar := (Value.ref q :: as.map z_tv).toArray) (va_runV (n := n) (g := F0 X.1.2.2.2.2.1 pc ls ((as.reverse ++ tA (some q) :: rest).map z_tv)) ⟨K.1, K.2.1, K.2.2.2.1, K.2.2.2.2.1, K.2.2.2.2.2.1⟩ hc ⟨callB_of n K.2.2.2.2.2.1 hG rfl hrc hrs (z_word K hM.1 rfl) (z_word K hL rfl) hM.2.2 hR, z_word K hi rfl, z_word K hsl rfl⟩ hpv rfl (by rw [List.length_map]; exact hn) hl.1 hstk hlr d hf) hH hS hl hnx kk T0 hT0 XX
  · exact z_after (ar := (Value.ref q :: as.map z_tv).toArray) (va_runVN (n := n) (host := host) (g := F0 X.1.2.2.2.2.1 pc ls ((as.reverse ++ tA (some q) :: rest).map z_tv)) ⟨K.1, K.2.1, K.2.2.2.1, K.2.2.2.2.1, K.2.2.2.2.2.1⟩ hc ⟨va_cnB n K.2.2.2.2.2.1 hG rfl hrc hrs (va_Nw.of rfl (z_nword K hL rfl rfl)) (z_word K hM.1 rfl) hM.2.2 hR, z_word K hi rfl, z_word K hsl rfl⟩ hpv rfl (by rw [List.length_map]; exact hn) hl.1 hstk hlr d hf) hH hS hl hnx kk T0 hT0 XX
theorem zv_callI (K : z_Ok X cc ret own nm) {idx n maxL mc ms nx' q : Nat} {y : MethodName} {cc2 : ByteArray} {rm : Room} {r : Option zTV} {h' : zH} {b : Option Nat} (as : List zTV) (rest : List zTV) {st : List zTV} (d : z_D cc pc (.invokespecial idx) 3 pc') (hL : z_Lk own idx y) (hM : z_Md y cc2 maxL none n) (hi : Cond.instanceMethod y ∈ lw_tbl) (hnm : y.name = "<init>") (hn : as.length = n) (hse : st = as.reverse ++ tA b :: rest) (hrest : (rest.map z_cat).sum ≤ 8) (hck : b = some q)
    (hc : z_Ct X.1.2.1 X.2.2.1 y cc2 maxL none rm (tA b :: as) h nx r h' nx' mc ms) (hrc : rm.cells = mc) (hrs : rm.slots = ms) (hR : rm.frames + 1 ≤ X.2.1.frames ∧ 8 + (maxL + 11) + rm.locals ≤ X.2.1.locals) (hf : k + mc ≤ X.2.1.cells ∧ z + ms ≤ X.2.1.slots) (hnx : nx + mc = nx') (kk : zV X pc' lv (r.toList ++ rest) h' nx' (k + mc) (z + ms)) : zV X pc lv st h nx k z := by
  subst hck
  subst hse
  intro H locs ls hH hS hl; obtain ⟨d, rfl⟩ := d
  intro T0 hT0 XX
  have hsz : H.size = nx := by have h1 := z_szT XX; rw [hT0] at h1; have h2 := hH.1.2.1; have h3 := hH.2; omega
  have hpre := z_pre (as := tA (some q) :: as) K hH hS hsz
  have hlr : 2 * (F0 X.1.2.2.2.2.1 pc ls (((as.reverse ++ tA (some q) :: rest).map z_tv))).monitorRoom + ((rest.map z_tv).map fun v => v.category).sum ≤ 8 := by have := z_catsum rest; exact lv_room (by omega)
  have hstk : (as.reverse ++ tA (some q) :: rest).map z_tv = (as.map z_tv).reverse ++ .ref q :: rest.map z_tv := by rw [List.map_append, List.map_reverse]; rfl
  have hG : GoodIn z_tb (Cond.code y cc2 maxL none :: z_tb) := z_goodIn hM.2.1 rfl
  rcases hL with hL | ⟨host, hL⟩
  · exact z_after (ar := (Value.ref q :: as.map z_tv).toArray) (va_runI (n := n) (g := F0 X.1.2.2.2.2.1 pc ls ((as.reverse ++ tA (some q) :: rest).map z_tv)) ⟨K.1, K.2.1, K.2.2.2.1, K.2.2.2.2.1, K.2.2.2.2.2.1⟩ hc ⟨callB_of n K.2.2.2.2.2.1 hG rfl hrc hrs (z_word K hM.1 rfl) (z_word K hL rfl) hM.2.2 hR, hnm, z_word K hi rfl⟩ hpre rfl (by rw [List.length_map]; exact hn) hl.1 hstk hlr d hf) hH hS hl hnx kk T0 hT0 XX
  · exact z_after (ar := (Value.ref q :: as.map z_tv).toArray) (va_runIN (n := n) (host := host) (g := F0 X.1.2.2.2.2.1 pc ls ((as.reverse ++ tA (some q) :: rest).map z_tv)) ⟨K.1, K.2.1, K.2.2.2.1, K.2.2.2.2.1, K.2.2.2.2.2.1⟩ hc ⟨va_cnB n K.2.2.2.2.2.1 hG rfl hrc hrs (va_Nw.of rfl (z_nword K hL rfl rfl)) (z_word K hM.1 rfl) hM.2.2 hR, hnm, z_word K hi rfl⟩ hpre rfl (by rw [List.length_map]; exact hn) hl.1 hstk hlr d hf) hH hS hl hnx kk T0 hT0 XX
/-! answers -/
def z_Rt (X : zX) (r : Option zTV) (h : zH) (nx k z : Nat) : Prop := X.2.2.2.2 = MQ X.1.2.2.2.2.2.2.1 (z_Qc X.2.2.1 r h nx) X.1.2.2.2.2.2.1 X.1.2.2.2.1 k z (z_A X.2.2.1)
theorem zv_iret (K : z_Ok X cc (some .int) own nm) {v : Int32} (d : z_D cc pc .ireturn 1 pc') (hq : z_Rt X (some (tI v)) h nx k z) : zV X pc lv [tI v] h nx k z := by
  intro H locs ls hH hS hl; obtain ⟨d, rfl⟩ := d
  rw [hq]
  exact W.iret K.1 K.2.1 K.2.2.1 (fun t ht hW => ⟨rfl, by rw [ht]; exact hH.1, hS.F ht⟩) hS.2.2 d K.2.2.2.2.2.2.1
theorem zv_zret (K : z_Ok X cc (some .boolean) own nm) {v : Int32} (d : z_D cc pc .ireturn 1 pc') (hv : v = 0 ∨ v = 1) (hq : z_Rt X (some (tI v)) h nx k z) : zV X pc lv [tI v] h nx k z := by
  intro H locs ls hH hS hl; obtain ⟨d, rfl⟩ := d
  rw [hq]
  exact W.zret (ty := .boolean) K.1 K.2.1 K.2.2.1 (by rcases hv with rfl | rfl <;> rfl) (fun t ht hW => ⟨rfl, by rw [ht]; exact hH.1, hS.F ht⟩) hS.2.2 d K.2.2.2.2.2.2.1
theorem zv_lret (K : z_Ok X cc (some .long) own nm) {v : Int64} (d : z_D cc pc .lreturn 1 pc') (hq : z_Rt X (some (tJ v)) h nx k z) : zV X pc lv [tJ v] h nx k z := by
  intro H locs ls hH hS hl; obtain ⟨d, rfl⟩ := d
  rw [hq]
  exact W.lret K.1 K.2.1 K.2.2.1 (fun t ht hW => ⟨rfl, by rw [ht]; exact hH.1, hS.F ht⟩) hS.2.2 d K.2.2.2.2.2.2.1
theorem zv_vret (K : z_Ok X cc none own nm) (d : z_D cc pc .return_ 1 pc') (hq : z_Rt X none h nx k z) : zV X pc lv [] h nx k z := by
  intro H locs ls hH hS hl; obtain ⟨d, rfl⟩ := d
  rw [hq]
  exact W.vret K.1 K.2.1 K.2.2.1 (fun t ht hW => ⟨rfl, by rw [ht]; exact hH.1, hS.F ht⟩) hS.2.2 d K.2.2.2.2.2.2.1
theorem zv_aret {C : String} (K : z_Ok X cc (some (.object C)) own nm) {v : Option Nat} (d : z_D cc pc .areturn 1 pc') (hq : z_Rt X (some (tA v)) h nx k z) : zV X pc lv [tA v] h nx k z := by
  intro H locs ls hH hS hl; obtain ⟨d, rfl⟩ := d
  rw [hq]
  exact W.aret (v := z_tv (tA v)) K.1 K.2.1 K.2.2.1 (Or.inl ⟨C, rfl⟩) (by cases v with
    | none => exact Or.inl rfl
    | some q => exact Or.inr ⟨q, rfl⟩) (fun t ht hW => ⟨rfl, by rw [ht]; exact hH.1, hS.F ht⟩) hS.2.2 d K.2.2.2.2.2.2.1
end ZC
def z_args : Nat → List zTV → List (Nat × zTV)
  | _, [] => []
  | i, v :: vs => (i, v) :: z_args (if z_cat v = 2 then i + 2 else i + 1) vs
theorem z_args_map : ∀ (as : List zTV) (i : Nat), lv_args i (as.map z_tv) = (z_args i as).map z_lm
  | [], _ => rfl
  | v :: vs, i => by
    show (i, z_tv v) :: lv_args (if (z_tv v).category = 2 then i + 2 else i + 1) (vs.map z_tv) = _
    rw [z_tv_cat, z_args_map vs]
    rfl
theorem z_sl_len : ∀ (as : List zTV), (lg_sl (as.map z_tv)).length = (as.map z_cat).sum
  | [] => rfl
  | v :: vs => by
    have ih := z_sl_len vs
    have e : lg_sl ((v :: vs).map z_tv) = (if (z_tv v).category = 2 then [Slot.val (z_tv v), Slot.second] else [Slot.val (z_tv v)]) ++ lg_sl (vs.map z_tv) := rfl
    rw [e, List.length_append, ih, z_tv_cat, List.map_cons, List.sum_cons]
    rcases v with x | x | x <;> rfl
theorem z_enter {l : Launch} {G : zG} {y : MethodName} {cc : ByteArray} {maxL : Nat} {ret : Option FieldType} {rm : Room} {as : List zTV} {h : zH} {nx : Nat} {r : Option zTV} {h' : zH} {nx' mc ms : Nat} (lv0 : List (Nat × zTV)) (hy : plainName y.cls = true) (hlen : (as.map z_cat).sum ≤ maxL) (hlv : z_args 0 as = lv0)
    (body : ∀ X : zX, X.1.2.1 = l → X.2.1 = rm → X.2.2.1 = G → X.2.2.2.1 = maxL → z_Ok X cc ret y.cls y.name → z_Rt X r h' nx' mc ms → zV X 0 lv0 [] h nx 0 0) : z_Ct l G y cc maxL ret rm as h nx r h' nx' mc ms := by
  refine Met.ofW (cc := cc) (maxL := maxL) (ret := ret) hy rfl ?_
  intro p e s m args below meth c s₁ B hml hv
  obtain ⟨rfl, hHp, hsz, hSt⟩ := hv
  have hts := atoms_spec (ws := Cond.code y cc maxL ret :: z_tb) B.pre
  have hown : s.vm.findClass y.cls = some m.cls := findClass_of_methodNamed B.named
  have hl := lv_entry (as.map z_tv) (n := maxL) (by rw [z_sl_len]; exact hlen)
  rw [lg_entry_eq]
  generalize (lg_sl (as.map z_tv) ++ List.replicate (maxL - (lg_sl (as.map z_tv)).length) Slot.unset).toArray = ls at hl ⊢
  rw [z_args_map, hlv] at hl
  exact body ((p, l, e, s, m, (as.map z_tv).toArray, below, meth, c), rm, G, maxL, MQ below (z_Qc G r h' nx') (as.map z_tv).toArray s mc ms (z_A G)) rfl rfl rfl rfl ⟨B.exec, B.bytes, B.returns, hml, hown, fun w hw => hts w (List.mem_cons_of_mem _ hw), B.notSynchronized, (name_of_methodNamed B.named B.method).1, hSt⟩ rfl s.heap [] ls ⟨hHp, hsz⟩ va_S.rf hl
