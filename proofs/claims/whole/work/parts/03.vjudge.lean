/-! THE JUDGEMENT over the small heap -/
abbrev zC : Type := Program × Launch × Env × State × MethodId × Array Value × List Frame × Method × Code
/-- n0 (where our cells begin), the script's cell, the table STEP's cell, the script's length, its values, the classes' numbers, the array classes -/
abbrev zG : Type := Nat × Nat × Nat × Nat × (Nat → Int32) × va_G × (Nat → ClassId)
def z_step : Nat → Int32 := fun j => match j with
  | 0 => 1
  | 1 => 8
  | 2 => -1
  | _ => -8
def z_A (G : zG) : Nat → Prop := fun q => G.1 ≤ q
def z_tys (cy : Nat → ClassId) : List (ClassId × FieldType) := [(cy 0, .int), (cy 1, .byte), (cy 2, .boolean), (cy 3, .long), (cy 4, .object RX0), (cy 5, .object RX8), (cy 6, .object RX6), (cy 7, .object RX7), (cy 8, .object RX2)]
def z_E (cy : Nat → ClassId) : zMC → va_E
  | .inl (k, n, .inl f) => .inl (cy k, n, .inl f)
  | .inl (k, n, .inr (.inl f)) => .inl (cy k, n, .inr (.inl f))
  | .inl (k, n, .inr (.inr f)) => .inl (cy k, n, .inr (.inr (.inr (.inr f))))
  | .inr (c, fs) => .inr (c, fs.map z_tv)
def z_ws (G : zG) (h : zH) (nx : Nat) : va_W := (List.range (nx - G.1)).map fun k => (G.1 + k, z_E G.2.2.2.2.2.2 (h (G.1 + k)))
def z_isN : Cond → Bool
  | .fieldLinkNest .. => true
  | .methodLinkNest .. => true
  | _ => false
def z_nst : List Cond := lw_tbl.filter z_isN
/-- what holds of a state beside our own cells -/
def z_St (G : zG) (U : State) : Prop := (G.1 ≤ U.heap.size ∧ G.2.1 < G.1 ∧ G.2.2.1 < G.1) ∧ va_X G.2.1 G.2.2.2.1 G.2.2.2.2.1 U U.heap ∧ va_Z "ThinkingArms" "STEP" "[I" (.ref G.2.2.1) (z_A G) U U.heap ∧ va_T .int G.2.2.1 4 (fun j => .int (z_step j)) (z_A G) U U.heap ∧ va_K G.2.2.2.2.2.1 vwCl (z_tys G.2.2.2.2.2.2) U ∧ (∀ w ∈ z_nst, va_Nw w U) ∧ (va_AO RX0 U ∧ va_AO RX8 U ∧ va_AO RX6 U ∧ va_AO RX7 U ∧ va_AO RX2 U)
/-- no table that nobody writes -/
def z_nk (c : zMC) : Prop := ∀ (n : Nat) (f : Nat → Int32), c ≠ .inl (100, n, .inl f)
def z_dom (G : zG) (h : zH) (nx : Nat) : Prop := h G.2.1 = .inl (100, G.2.2.2.1, .inl G.2.2.2.2.1) ∧ h G.2.2.1 = .inl (100, 4, .inl z_step) ∧ (∀ a : Nat, (a < G.1 ∨ nx ≤ a) → a ≠ G.2.1 → a ≠ G.2.2.1 → h a = .inr (999, [])) ∧ ∀ a : Nat, a ≠ G.2.1 → a ≠ G.2.2.1 → z_nk (h a)
def z_Hp (G : zG) (h : zH) (nx : Nat) (H : Heap) : Prop := va_P G.2.2.2.2.2.1 vwCl (z_ws G h nx) H ∧ nx ≤ H.size ∧ G.1 ≤ nx ∧ z_dom G h nx
def z_lm (q : Nat × zTV) : Nat × Value := (q.1, z_tv q.2)
/-- the machine, the room, the world, how many locals, what is to be come to -/
abbrev zX : Type := zC × Room × zG × Nat × (State → Prop)
def z_Ok (X : zX) (cc : ByteArray) (ret : Option FieldType) (own nm : String) : Prop :=
  X.1.1.tables.exec = Jvm.exec ∧ X.1.2.2.2.2.2.2.2.2.code = cc ∧ X.1.2.2.2.2.2.2.2.1.sig.returnType = ret ∧ X.1.2.2.2.2.2.2.2.2.maxLocals = X.2.2.2.1 ∧ X.1.2.2.2.1.vm.findClass own = some X.1.2.2.2.2.1.cls ∧ (∀ w ∈ z_tb, w.before X.1.2.2.2.2.2.1 X.1.2.2.2.1 = true) ∧ X.1.2.2.2.2.2.2.2.1.locks = false ∧ X.1.2.2.2.2.2.2.2.1.name = nm ∧ z_St X.2.2.1 X.1.2.2.2.1
/-- the heap holds our cells; how many there are is told by the count of the new ones -/
def z_Hs (X : zX) (h : zH) (nx k : Nat) (H : Heap) : Prop := z_Hp X.2.2.1 h nx H ∧ X.1.2.2.2.1.heap.size + k = nx
def zV (X : zX) (pc : Nat) (lv : List (Nat × zTV)) (st : List zTV) (h : zH) (nx k z : Nat) : Prop :=
  ∀ (H : Heap) (locs : List Loc) (ls : Array Slot), z_Hs X h nx k H → va_S (z_A X.2.2.1) X.1.2.2.2.1.heap H locs → lv_has ls X.2.2.2.1 (lv.map z_lm) →
    W X.1.1 X.1.2.1 X.1.2.2.1 X.2.1 X.1.2.2.2.1 X.1.2.2.2.2.1 X.1.2.2.2.2.2.1 X.1.2.2.2.2.2.2.1 X.1.2.2.2.2.2.2.2.1 X.1.2.2.2.2.2.2.2.2 H locs k z X.2.2.2.2 (F0 X.1.2.2.2.2.1 pc ls (st.map z_tv))
def z_D (cc : ByteArray) (pc : Nat) (i : Instr) (n pc' : Nat) : Prop := decode cc pc = .ok (i, n) ∧ pc + n = pc'
theorem z_in {ci : Nat} {q : vw_C} (hc : vwCl[ci]? = some q) : ∀ w ∈ u_ws q.1 q.2.1 q.2.2, w ∈ z_tb := by
  have key : ∀ w ∈ u_ws q.1 q.2.1 q.2.2, w ∈ lw_tbl := by
    match ci, hc with
    | 0, hc => cases hc; exact zinX0
    | 1, hc => cases hc; exact zinX1
    | 2, hc => cases hc; exact zinX2
    | 3, hc => cases hc; exact zinX3
    | 4, hc => cases hc; exact zinX4
    | 5, hc => cases hc; exact zinX5
    | 6, hc => cases hc; exact zinX6
    | 7, hc => cases hc; exact zinX7
    | 8, hc => cases hc; exact zinX8
    | 9, hc => cases hc; exact zinX9
    | 10, hc => cases hc; exact zinX10
    | 11, hc => cases hc; exact zinX11
    | n + 12, hc => simp [vwCl] at hc
  intro w hw
  refine List.mem_filter.mpr ⟨key w hw, ?_⟩
  obtain ⟨k, -, rfl⟩ := List.mem_map.mp hw
  unfold u_lay
  split <;> rfl
def z_ft (ci : Nat) : Nat → FieldType := match ci with
  | 0 => tyX0
  | 1 => tyX1
  | 2 => tyX2
  | 3 => tyX3
  | 4 => tyX4
  | 5 => tyX5
  | 6 => tyX6
  | 7 => tyX7
  | 8 => tyX8
  | 9 => tyX9
  | 10 => tyX10
  | _ => tyX11
theorem z_ft_ok {ci : Nat} {q : vw_C} (hc : vwCl[ci]? = some q) : (∀ k, k < q.2.2 → parseFieldDescriptor (q.2.1 k).2.2.1 = some (z_ft ci k)) ∧ ∀ a, a < q.2.2 → ∀ b, b < q.2.2 → a ≠ b → (q.2.1 a).2.1 ≠ (q.2.1 b).2.1 := by
  match ci, hc with
  | 0, hc => cases hc; exact ⟨tyX0_ok, nmX0⟩
  | 1, hc => cases hc; exact ⟨tyX1_ok, nmX1⟩
  | 2, hc => cases hc; exact ⟨tyX2_ok, nmX2⟩
  | 3, hc => cases hc; exact ⟨tyX3_ok, nmX3⟩
  | 4, hc => cases hc; exact ⟨tyX4_ok, nmX4⟩
  | 5, hc => cases hc; exact ⟨tyX5_ok, nmX5⟩
  | 6, hc => cases hc; exact ⟨tyX6_ok, nmX6⟩
  | 7, hc => cases hc; exact ⟨tyX7_ok, nmX7⟩
  | 8, hc => cases hc; exact ⟨tyX8_ok, nmX8⟩
  | 9, hc => cases hc; exact ⟨tyX9_ok, nmX9⟩
  | 10, hc => cases hc; exact ⟨tyX10_ok, nmX10⟩
  | 11, hc => cases hc; exact ⟨tyX11_ok, nmX11⟩
  | n + 12, hc => simp [vwCl] at hc
/-! the world as a list -/
theorem z_ws_get {G : zG} {h : zH} {nx a : Nat} (h1 : G.1 ≤ a) (h2 : a < nx) : (z_ws G h nx)[a - G.1]? = some (a, z_E G.2.2.2.2.2.2 (h a)) := by
  unfold z_ws
  rw [List.getElem?_map, List.getElem?_range (by omega)]
  simp only [Option.map_some, Option.some.injEq, Prod.mk.injEq]
  have : G.1 + (a - G.1) = a := by omega
  rw [this]
  exact ⟨rfl, rfl⟩
theorem z_ws_set {G : zG} {h : zH} {nx a : Nat} (h1 : G.1 ≤ a) (h2 : a < nx) (c : zMC) : (z_ws G h nx).set (a - G.1) (a, z_E G.2.2.2.2.2.2 c) = z_ws G (z_up h a c) nx := by
  apply List.ext_getElem?
  intro i
  by_cases hi : i = a - G.1
  · subst hi
    rw [List.getElem?_set_self (by unfold z_ws; simp; omega), z_ws_get h1 h2, z_up_s]
  · rw [List.getElem?_set_ne (Ne.symm hi)]
    unfold z_ws
    rw [List.getElem?_map, List.getElem?_map]
    by_cases hl : i < nx - G.1
    · rw [List.getElem?_range hl]
      simp only [Option.map_some]
      rw [z_up_n h c (by omega : G.1 + i ≠ a)]
    · rw [List.getElem?_eq_none (by simp; omega)]
      rfl
theorem z_ws_push {G : zG} {h : zH} {nx : Nat} (h1 : G.1 ≤ nx) (c : zMC) : z_ws G h nx ++ [(nx, z_E G.2.2.2.2.2.2 c)] = z_ws G (z_up h nx c) (nx + 1) := by
  unfold z_ws
  rw [show nx + 1 - G.1 = (nx - G.1) + 1 by omega, List.range_succ, List.map_append]
  congr 1
  · apply List.map_congr_left
    intro k hk
    have := List.mem_range.mp hk
    rw [z_up_n h c (by omega : G.1 + k ≠ nx)]
  · simp only [List.map_cons, List.map_nil]
    rw [show G.1 + (nx - G.1) = nx by omega, z_up_s]
theorem z_ws_D {G : zG} {h : zH} {nx : Nat} : va_D (z_A G) (z_ws G h nx) := by
  have key : ∀ (k : Nat) (q : Nat × va_E), (z_ws G h nx)[k]? = some q → q.1 = G.1 + k := by
    intro k q hk
    unfold z_ws at hk
    rw [List.getElem?_map] at hk
    cases hr : (List.range (nx - G.1))[k]? with
    | none => rw [hr] at hk; cases hk
    | some j =>
      rw [hr] at hk
      have hj := List.getElem?_eq_some_iff.mp hr
      obtain ⟨hj1, hj2⟩ := hj
      rw [List.getElem_range] at hj2
      subst hj2
      cases hk
      rfl
  refine ⟨fun i j p q hi hj hpq => ?_, fun k q hk => ?_⟩
  · have := key i p hi
    have := key j q hj
    omega
  · have := key k q hk
    show G.1 ≤ q.1
    omega
/-- a cell that is none of the dead ones, nor a table's, is ours -/
theorem z_dom_in {G : zG} {h : zH} {nx a : Nat} (hd : z_dom G h nx) (h1 : h a ≠ .inr (999, [])) (h2 : ∀ n f, h a ≠ .inl (100, n, .inl f)) : G.1 ≤ a ∧ a < nx := by
  by_cases hb : a = G.2.1
  · subst hb; exact absurd hd.1 (h2 _ _)
  · by_cases ht : a = G.2.2.1
    · subst ht; exact absurd hd.2.1 (h2 _ _)
    · by_cases hr : a < G.1 ∨ nx ≤ a
      · exact absurd (hd.2.2.1 a hr hb ht) h1
      · omega
theorem z_dom_up {G : zG} {h : zH} {nx a : Nat} (hd : z_dom G h nx) (hbt : G.2.1 < G.1 ∧ G.2.2.1 < G.1) (h1 : G.1 ≤ a) (h2 : a < nx) (c : zMC) (hc : z_nk c) : z_dom G (z_up h a c) nx := by
  refine ⟨?_, ?_, fun q hq hb ht => ?_, fun q hb ht => ?_⟩
  · rw [z_up_n h c (by omega : G.2.1 ≠ a)]; exact hd.1
  · rw [z_up_n h c (by omega : G.2.2.1 ≠ a)]; exact hd.2.1
  · rw [z_up_n h c (by omega : q ≠ a)]; exact hd.2.2.1 q hq hb ht
  · by_cases hq : q = a
    · subst hq; rw [z_up_s]; exact hc
    · rw [z_up_n h c hq]; exact hd.2.2.2 q hb ht
theorem z_dom_push {G : zG} {h : zH} {nx : Nat} (hd : z_dom G h nx) (hbt : G.2.1 < G.1 ∧ G.2.2.1 < G.1) (h1 : G.1 ≤ nx) (c : zMC) (hc : z_nk c) : z_dom G (z_up h nx c) (nx + 1) := by
  refine ⟨?_, ?_, fun q hq hb ht => ?_, fun q hb ht => ?_⟩
  · rw [z_up_n h c (by omega : G.2.1 ≠ nx)]; exact hd.1
  · rw [z_up_n h c (by omega : G.2.2.1 ≠ nx)]; exact hd.2.1
  · rw [z_up_n h c (by omega : q ≠ nx)]; exact hd.2.2.1 q (by omega) hb ht
  · by_cases hq : q = nx
    · subst hq; rw [z_up_s]; exact hc
    · rw [z_up_n h c hq]; exact hd.2.2.2 q hb ht
section ZV
variable {X : zX} {cc : ByteArray} {ret : Option FieldType} {own nm : String} {pc pc' : Nat} {lv lv' : List (Nat × zTV)} {rest : List zTV} {h : zH} {nx k z : Nat}
theorem z_word (K : z_Ok X cc ret own nm) {w : Cond} (hm : w ∈ lw_tbl) (hg : goodWord w = true) : w.before X.1.2.2.2.2.2.1 X.1.2.2.2.1 = true := K.2.2.2.2.2.1 w (List.mem_filter.mpr ⟨hm, hg⟩)
theorem z_nword (K : z_Ok X cc ret own nm) {w : Cond} (hm : w ∈ lw_tbl) (hg : z_isN w = true) (ht : w.onTables = true) : w.before X.1.2.2.2.2.2.1 X.1.2.2.2.1 = true := va_Nw.use ht (K.2.2.2.2.2.2.2.2.2.2.2.2.2.1 w (List.mem_filter.mpr ⟨hm, hg⟩))
theorem zv_sub (ks : List Nat) (hl : ks.filterMap (fun k => lv[k]?) = lv') (kk : zV X pc lv' rest h nx k z) : zV X pc lv rest h nx k z := by
  intro H locs ls hH hS hv
  refine kk H locs ls hH hS ⟨hv.1, hv.2.1, fun q hq => ?_⟩
  subst hl
  obtain ⟨q0, h0, rfl⟩ := List.mem_map.mp hq
  obtain ⟨j, -, hj⟩ := List.mem_filterMap.mp h0
  exact hv.2.2 _ (List.mem_map.mpr ⟨q0, List.mem_of_getElem? hj, rfl⟩)
theorem z_lvat {ls : Array Slot} {nL j i : Nat} {v : zTV} (hv : lv_has ls nL (lv.map z_lm)) (hj : lv[j]? = some (i, v)) : ls[i]? = some (.val (z_tv v)) :=
  lv_at hv j (by rw [List.getElem?_map, hj]; rfl)
-- constants
theorem zv_iconst (K : z_Ok X cc ret own nm) {n : Int} (v : Int32) (d : z_D cc pc (.iconst n) 1 pc') (hv : Int32.ofInt n = v) (kk : zV X pc' lv (tI v :: rest) h nx k z) : zV X pc lv rest h nx k z := by
  intro H locs ls hH hS hl; obtain ⟨d, rfl⟩ := d; exact lv_iconst K.1 K.2.1 d hv (kk H locs ls hH hS hl)
theorem zv_bipush (K : z_Ok X cc ret own nm) {n : Int} (v : Int32) (d : z_D cc pc (.bipush n) 2 pc') (hv : (Int8.ofInt n).toInt32 = v) (kk : zV X pc' lv (tI v :: rest) h nx k z) : zV X pc lv rest h nx k z := by
  intro H locs ls hH hS hl; obtain ⟨d, rfl⟩ := d; exact lv_bipush K.1 K.2.1 d hv (kk H locs ls hH hS hl)
theorem zv_sipush (K : z_Ok X cc ret own nm) {n : Int} (v : Int32) (d : z_D cc pc (.sipush n) 3 pc') (hv : (Int16.ofInt n).toInt32 = v) (kk : zV X pc' lv (tI v :: rest) h nx k z) : zV X pc lv rest h nx k z := by
  intro H locs ls hH hS hl; obtain ⟨d, rfl⟩ := d; exact lv_sipush K.1 K.2.1 d hv (kk H locs ls hH hS hl)
theorem zv_lconst (K : z_Ok X cc ret own nm) {n : Fin 2} (v : Int64) (d : z_D cc pc (.lconst n) 1 pc') (hv : Int64.ofNat (n : Nat) = v) (kk : zV X pc' lv (tJ v :: rest) h nx k z) : zV X pc lv rest h nx k z := by
  intro H locs ls hH hS hl; obtain ⟨d, rfl⟩ := d; exact lv_lconst K.1 K.2.1 d hv (kk H locs ls hH hS hl)
theorem zv_ldc2 (K : z_Ok X cc ret own nm) {index : Nat} (v : Int64) (d : z_D cc pc (.ldc2_w index) 3 pc') (hm : Cond.constantLong own index v ∈ lw_tbl) (kk : zV X pc' lv (tJ v :: rest) h nx k z) : zV X pc lv rest h nx k z := by
  intro H locs ls hH hS hl; obtain ⟨d, rfl⟩ := d; exact lv_ldc2 K.1 K.2.1 K.2.2.2.2.1 (z_word K hm rfl) d (kk H locs ls hH hS hl)
theorem zv_anull (K : z_Ok X cc ret own nm) (d : z_D cc pc .aconst_null 1 pc') (kk : zV X pc' lv (tA none :: rest) h nx k z) : zV X pc lv rest h nx k z := by
  intro H locs ls hH hS hl; obtain ⟨d, rfl⟩ := d; exact lv_null K.1 K.2.1 d (kk H locs ls hH hS hl)
-- locals
theorem zv_iload_n (K : z_Ok X cc ret own nm) {i : Fin 4} {x : Int32} (j : Nat) (d : z_D cc pc (.iload_n i) 1 pc') (hj : lv[j]? = some ((i : Nat), tI x)) (kk : zV X pc' lv (tI x :: rest) h nx k z) : zV X pc lv rest h nx k z := by
  intro H locs ls hH hS hl; obtain ⟨d, rfl⟩ := d; exact lv_iload_n K.1 K.2.1 d rfl (z_lvat hl hj) (kk H locs ls hH hS hl)
theorem zv_iload (K : z_Ok X cc ret own nm) {i : Nat} {x : Int32} (j : Nat) (d : z_D cc pc (.iload i) 2 pc') (hj : lv[j]? = some (i, tI x)) (kk : zV X pc' lv (tI x :: rest) h nx k z) : zV X pc lv rest h nx k z := by
  intro H locs ls hH hS hl; obtain ⟨d, rfl⟩ := d; exact lv_iload K.1 K.2.1 d (z_lvat hl hj) (kk H locs ls hH hS hl)
theorem zv_lload_n (K : z_Ok X cc ret own nm) {i : Fin 4} {x : Int64} (j : Nat) (d : z_D cc pc (.lload_n i) 1 pc') (hj : lv[j]? = some ((i : Nat), tJ x)) (kk : zV X pc' lv (tJ x :: rest) h nx k z) : zV X pc lv rest h nx k z := by
  intro H locs ls hH hS hl; obtain ⟨d, rfl⟩ := d; exact lv_lload_n K.1 K.2.1 d rfl (z_lvat hl hj) (kk H locs ls hH hS hl)
theorem zv_lload (K : z_Ok X cc ret own nm) {i : Nat} {x : Int64} (j : Nat) (d : z_D cc pc (.lload i) 2 pc') (hj : lv[j]? = some (i, tJ x)) (kk : zV X pc' lv (tJ x :: rest) h nx k z) : zV X pc lv rest h nx k z := by
  intro H locs ls hH hS hl; obtain ⟨d, rfl⟩ := d; exact lv_lload K.1 K.2.1 d (z_lvat hl hj) (kk H locs ls hH hS hl)
theorem zv_aload_n (K : z_Ok X cc ret own nm) {i : Fin 4} {x : Option Nat} (j : Nat) (d : z_D cc pc (.aload_n i) 1 pc') (hj : lv[j]? = some ((i : Nat), tA x)) (kk : zV X pc' lv (tA x :: rest) h nx k z) : zV X pc lv rest h nx k z := by
  intro H locs ls hH hS hl; obtain ⟨d, rfl⟩ := d
  cases x with
  | none => exact lv_aload_nN K.1 K.2.1 d rfl (z_lvat hl hj) (kk H locs ls hH hS hl)
  | some a => exact lv_aload_n K.1 K.2.1 d rfl (z_lvat hl hj) (kk H locs ls hH hS hl)
theorem zv_aload (K : z_Ok X cc ret own nm) {i : Nat} {x : Option Nat} (j : Nat) (d : z_D cc pc (.aload i) 2 pc') (hj : lv[j]? = some (i, tA x)) (kk : zV X pc' lv (tA x :: rest) h nx k z) : zV X pc lv rest h nx k z := by
  intro H locs ls hH hS hl; obtain ⟨d, rfl⟩ := d
  cases x with
  | none => exact lv_aloadN K.1 K.2.1 d (z_lvat hl hj) (kk H locs ls hH hS hl)
  | some a => exact lv_aload K.1 K.2.1 d (z_lvat hl hj) (kk H locs ls hH hS hl)
def z_s1 (i : Nat) (v : zTV) (lv : List (Nat × zTV)) : List (Nat × zTV) := (i, v) :: lv.filter (fun q => !(q.1 == i) && !(q.1 + 1 == i && z_cat q.2 == 2))
def z_s2 (i : Nat) (v : zTV) (lv : List (Nat × zTV)) : List (Nat × zTV) := (i, v) :: lv.filter (fun q => !(q.1 == i) && (!(q.1 == i + 1) && !(q.1 + 1 == i && z_cat q.2 == 2)))
theorem z_s1_map (i : Nat) (v : zTV) : (i, z_tv v) :: (lv.map z_lm).filter (fun q => !(q.1 == i) && !(q.1 + 1 == i && q.2.category == 2)) = (z_s1 i v lv).map z_lm := by
  unfold z_s1
  rw [List.map_cons, List.filter_map]
  congr 2
  apply List.filter_congr
  intro q _
  simp only [Function.comp, z_lm, z_tv_cat]
theorem z_s2_map (i : Nat) (v : zTV) : (i, z_tv v) :: (lv.map z_lm).filter (fun q => !(q.1 == i) && (!(q.1 == i + 1) && !(q.1 + 1 == i && q.2.category == 2))) = (z_s2 i v lv).map z_lm := by
  unfold z_s2
  rw [List.map_cons, List.filter_map]
  congr 2
  apply List.filter_congr
  intro q _
  simp only [Function.comp, z_lm, z_tv_cat]
theorem zv_istore_n (K : z_Ok X cc ret own nm) {i : Fin 4} {x : Int32} (lv' : List (Nat × zTV)) (d : z_D cc pc (.istore_n i) 1 pc') (hn : (i : Nat) < X.2.2.2.1) (he : z_s1 i (tI x) lv = lv') (kk : zV X pc' lv' rest h nx k z) : zV X pc lv (tI x :: rest) h nx k z := by
  intro H locs ls hH hS hl; obtain ⟨d, rfl⟩ := d; subst he; exact lv_istore_n K.1 K.2.1 d rfl hl hn (z_s1_map i (tI x)) (fun ls' hl' => kk H locs ls' hH hS hl')
theorem zv_istore (K : z_Ok X cc ret own nm) {i : Nat} {x : Int32} (lv' : List (Nat × zTV)) (d : z_D cc pc (.istore i) 2 pc') (hn : i < X.2.2.2.1) (he : z_s1 i (tI x) lv = lv') (kk : zV X pc' lv' rest h nx k z) : zV X pc lv (tI x :: rest) h nx k z := by
  intro H locs ls hH hS hl; obtain ⟨d, rfl⟩ := d; subst he; exact lv_istore K.1 K.2.1 d hl hn (z_s1_map i (tI x)) (fun ls' hl' => kk H locs ls' hH hS hl')
theorem zv_lstore_n (K : z_Ok X cc ret own nm) {i : Fin 4} {x : Int64} (lv' : List (Nat × zTV)) (d : z_D cc pc (.lstore_n i) 1 pc') (hn : (i : Nat) + 1 < X.2.2.2.1) (he : z_s2 i (tJ x) lv = lv') (kk : zV X pc' lv' rest h nx k z) : zV X pc lv (tJ x :: rest) h nx k z := by
  intro H locs ls hH hS hl; obtain ⟨d, rfl⟩ := d; subst he; exact lv_lstore_n K.1 K.2.1 d rfl hl hn (z_s2_map i (tJ x)) (fun ls' hl' => kk H locs ls' hH hS hl')
theorem zv_lstore (K : z_Ok X cc ret own nm) {i : Nat} {x : Int64} (lv' : List (Nat × zTV)) (d : z_D cc pc (.lstore i) 2 pc') (hn : i + 1 < X.2.2.2.1) (he : z_s2 i (tJ x) lv = lv') (kk : zV X pc' lv' rest h nx k z) : zV X pc lv (tJ x :: rest) h nx k z := by
  intro H locs ls hH hS hl; obtain ⟨d, rfl⟩ := d; subst he; exact lv_lstore K.1 K.2.1 d hl hn (z_s2_map i (tJ x)) (fun ls' hl' => kk H locs ls' hH hS hl')
theorem zv_astore_n (K : z_Ok X cc ret own nm) {i : Fin 4} {x : Option Nat} (lv' : List (Nat × zTV)) (d : z_D cc pc (.astore_n i) 1 pc') (hn : (i : Nat) < X.2.2.2.1) (he : z_s1 i (tA x) lv = lv') (kk : zV X pc' lv' rest h nx k z) : zV X pc lv (tA x :: rest) h nx k z := by
  intro H locs ls hH hS hl; obtain ⟨d, rfl⟩ := d; subst he
  cases x with
  | none => exact lv_astore_nN K.1 K.2.1 d rfl hl hn (z_s1_map i (tA none)) (fun ls' hl' => kk H locs ls' hH hS hl')
  | some a => exact lv_astore_n K.1 K.2.1 d rfl hl hn (z_s1_map i (tA (some a))) (fun ls' hl' => kk H locs ls' hH hS hl')
theorem zv_astore (K : z_Ok X cc ret own nm) {i : Nat} {x : Option Nat} (lv' : List (Nat × zTV)) (d : z_D cc pc (.astore i) 2 pc') (hn : i < X.2.2.2.1) (he : z_s1 i (tA x) lv = lv') (kk : zV X pc' lv' rest h nx k z) : zV X pc lv (tA x :: rest) h nx k z := by
  intro H locs ls hH hS hl; obtain ⟨d, rfl⟩ := d; subst he
  cases x with
  | none => exact lv_astoreN K.1 K.2.1 d hl hn (z_s1_map i (tA none)) (fun ls' hl' => kk H locs ls' hH hS hl')
  | some a => exact lv_astore K.1 K.2.1 d hl hn (z_s1_map i (tA (some a))) (fun ls' hl' => kk H locs ls' hH hS hl')
theorem zv_iinc (K : z_Ok X cc ret own nm) {i : Nat} {n : Int} {x : Int32} (v : Int32) (j : Nat) (lv' : List (Nat × zTV)) (d : z_D cc pc (.iinc i n) 3 pc') (hj : lv[j]? = some (i, tI x)) (hv : x + Int32.ofInt n = v) (hn : i < X.2.2.2.1) (he : z_s1 i (tI v) lv = lv') (kk : zV X pc' lv' rest h nx k z) : zV X pc lv rest h nx k z := by
  intro H locs ls hH hS hl; obtain ⟨d, rfl⟩ := d; subst he
  exact lv_iinc (k := j) K.1 K.2.1 d hl (by rw [List.getElem?_map, hj]; rfl) hv hn (z_s1_map i (tI v)) (fun ls' hl' => kk H locs ls' hH hS hl')
-- arithmetic
theorem zv_iadd (K : z_Ok X cc ret own nm) {x y : Int32} (d : z_D cc pc .iadd 1 pc') (kk : zV X pc' lv (tI (x + y) :: rest) h nx k z) : zV X pc lv (tI y :: tI x :: rest) h nx k z := by
  intro H locs ls hH hS hl; obtain ⟨d, rfl⟩ := d; exact lv_iadd K.1 K.2.1 d (kk H locs ls hH hS hl)
theorem zv_isub (K : z_Ok X cc ret own nm) {x y : Int32} (d : z_D cc pc .isub 1 pc') (kk : zV X pc' lv (tI (x - y) :: rest) h nx k z) : zV X pc lv (tI y :: tI x :: rest) h nx k z := by
  intro H locs ls hH hS hl; obtain ⟨d, rfl⟩ := d; exact lv_isub K.1 K.2.1 d (kk H locs ls hH hS hl)
theorem zv_imul (K : z_Ok X cc ret own nm) {x y : Int32} (d : z_D cc pc .imul 1 pc') (kk : zV X pc' lv (tI (x * y) :: rest) h nx k z) : zV X pc lv (tI y :: tI x :: rest) h nx k z := by
  intro H locs ls hH hS hl; obtain ⟨d, rfl⟩ := d; exact lv_imul K.1 K.2.1 d (kk H locs ls hH hS hl)
theorem zv_iand (K : z_Ok X cc ret own nm) {x y : Int32} (d : z_D cc pc .iand 1 pc') (kk : zV X pc' lv (tI (x &&& y) :: rest) h nx k z) : zV X pc lv (tI y :: tI x :: rest) h nx k z := by
  intro H locs ls hH hS hl; obtain ⟨d, rfl⟩ := d; exact lv_iand K.1 K.2.1 d (kk H locs ls hH hS hl)
theorem zv_ior (K : z_Ok X cc ret own nm) {x y : Int32} (d : z_D cc pc .ior 1 pc') (kk : zV X pc' lv (tI (x ||| y) :: rest) h nx k z) : zV X pc lv (tI y :: tI x :: rest) h nx k z := by
  intro H locs ls hH hS hl; obtain ⟨d, rfl⟩ := d; exact lv_ior K.1 K.2.1 d (kk H locs ls hH hS hl)
theorem zv_ixor (K : z_Ok X cc ret own nm) {x y : Int32} (d : z_D cc pc .ixor 1 pc') (kk : zV X pc' lv (tI (x ^^^ y) :: rest) h nx k z) : zV X pc lv (tI y :: tI x :: rest) h nx k z := by
  intro H locs ls hH hS hl; obtain ⟨d, rfl⟩ := d; exact lv_ixor K.1 K.2.1 d (kk H locs ls hH hS hl)
theorem zv_idiv (K : z_Ok X cc ret own nm) {x y : Int32} (d : z_D cc pc .idiv 1 pc') (hne : ¬ y = 0) (kk : zV X pc' lv (tI (x / y) :: rest) h nx k z) : zV X pc lv (tI y :: tI x :: rest) h nx k z := by
  intro H locs ls hH hS hl; obtain ⟨d, rfl⟩ := d; exact lv_idiv K.1 K.2.1 d hne (kk H locs ls hH hS hl)
theorem zv_irem (K : z_Ok X cc ret own nm) {x y : Int32} (d : z_D cc pc .irem 1 pc') (hne : ¬ y = 0) (kk : zV X pc' lv (tI (x - x / y * y) :: rest) h nx k z) : zV X pc lv (tI y :: tI x :: rest) h nx k z := by
  intro H locs ls hH hS hl; obtain ⟨d, rfl⟩ := d; exact lv_irem K.1 K.2.1 d hne (kk H locs ls hH hS hl)
theorem zv_ladd (K : z_Ok X cc ret own nm) {x y : Int64} (d : z_D cc pc .ladd 1 pc') (kk : zV X pc' lv (tJ (x + y) :: rest) h nx k z) : zV X pc lv (tJ y :: tJ x :: rest) h nx k z := by
  intro H locs ls hH hS hl; obtain ⟨d, rfl⟩ := d; exact lv_ladd K.1 K.2.1 d (kk H locs ls hH hS hl)
theorem zv_lsub (K : z_Ok X cc ret own nm) {x y : Int64} (d : z_D cc pc .lsub 1 pc') (kk : zV X pc' lv (tJ (x - y) :: rest) h nx k z) : zV X pc lv (tJ y :: tJ x :: rest) h nx k z := by
  intro H locs ls hH hS hl; obtain ⟨d, rfl⟩ := d; exact lv_lsub K.1 K.2.1 d (kk H locs ls hH hS hl)
theorem zv_land (K : z_Ok X cc ret own nm) {x y : Int64} (d : z_D cc pc .land 1 pc') (kk : zV X pc' lv (tJ (x &&& y) :: rest) h nx k z) : zV X pc lv (tJ y :: tJ x :: rest) h nx k z := by
  intro H locs ls hH hS hl; obtain ⟨d, rfl⟩ := d; exact lv_land K.1 K.2.1 d (kk H locs ls hH hS hl)
theorem zv_lor (K : z_Ok X cc ret own nm) {x y : Int64} (d : z_D cc pc .lor 1 pc') (kk : zV X pc' lv (tJ (x ||| y) :: rest) h nx k z) : zV X pc lv (tJ y :: tJ x :: rest) h nx k z := by
  intro H locs ls hH hS hl; obtain ⟨d, rfl⟩ := d; exact lv_lor K.1 K.2.1 d (kk H locs ls hH hS hl)
theorem zv_lxor (K : z_Ok X cc ret own nm) {x y : Int64} (d : z_D cc pc .lxor 1 pc') (kk : zV X pc' lv (tJ (x ^^^ y) :: rest) h nx k z) : zV X pc lv (tJ y :: tJ x :: rest) h nx k z := by
  intro H locs ls hH hS hl; obtain ⟨d, rfl⟩ := d; exact lv_lxor K.1 K.2.1 d (kk H locs ls hH hS hl)
theorem zv_ishl (K : z_Ok X cc ret own nm) {x y : Int32} (d : z_D cc pc .ishl 1 pc') (kk : zV X pc' lv (tI (x <<< (y &&& 31)) :: rest) h nx k z) : zV X pc lv (tI y :: tI x :: rest) h nx k z := by
  intro H locs ls hH hS hl; obtain ⟨d, rfl⟩ := d; exact lv_ishl K.1 K.2.1 d (kk H locs ls hH hS hl)
theorem zv_ishr (K : z_Ok X cc ret own nm) {x y : Int32} (d : z_D cc pc .ishr 1 pc') (kk : zV X pc' lv (tI (x >>> (y &&& 31)) :: rest) h nx k z) : zV X pc lv (tI y :: tI x :: rest) h nx k z := by
  intro H locs ls hH hS hl; obtain ⟨d, rfl⟩ := d; exact lv_ishr K.1 K.2.1 d (kk H locs ls hH hS hl)
theorem zv_i2l (K : z_Ok X cc ret own nm) {x : Int32} (d : z_D cc pc .i2l 1 pc') (kk : zV X pc' lv (tJ x.toInt64 :: rest) h nx k z) : zV X pc lv (tI x :: rest) h nx k z := by
  intro H locs ls hH hS hl; obtain ⟨d, rfl⟩ := d; exact lv_i2l K.1 K.2.1 d rfl (kk H locs ls hH hS hl)
theorem zv_l2i (K : z_Ok X cc ret own nm) {x : Int64} (d : z_D cc pc .l2i 1 pc') (kk : zV X pc' lv (tI x.toInt32 :: rest) h nx k z) : zV X pc lv (tJ x :: rest) h nx k z := by
  intro H locs ls hH hS hl; obtain ⟨d, rfl⟩ := d; exact lv_l2i K.1 K.2.1 d rfl (kk H locs ls hH hS hl)
theorem zv_i2b (K : z_Ok X cc ret own nm) {x : Int32} (d : z_D cc pc .i2b 1 pc') (kk : zV X pc' lv (tI x.toInt8.toInt32 :: rest) h nx k z) : zV X pc lv (tI x :: rest) h nx k z := by
  intro H locs ls hH hS hl; obtain ⟨d, rfl⟩ := d; exact lv_i2b K.1 K.2.1 d rfl (kk H locs ls hH hS hl)
theorem zv_lushr (K : z_Ok X cc ret own nm) {x : Int64} {y : Int32} (d : z_D cc pc .lushr 1 pc') (kk : zV X pc' lv (tJ (x.toUInt64 >>> (y.toInt64.toUInt64 &&& Int64.toUInt64 63)).toInt64 :: rest) h nx k z) : zV X pc lv (tI y :: tJ x :: rest) h nx k z := by
  intro H locs ls hH hS hl; obtain ⟨d, rfl⟩ := d; exact lv_lushr K.1 K.2.1 d rfl (kk H locs ls hH hS hl)
theorem zv_lshl (K : z_Ok X cc ret own nm) {x : Int64} {y : Int32} (d : z_D cc pc .lshl 1 pc') (kk : zV X pc' lv (tJ (x <<< (y.toInt64 &&& 63)) :: rest) h nx k z) : zV X pc lv (tI y :: tJ x :: rest) h nx k z := by
  intro H locs ls hH hS hl; obtain ⟨d, rfl⟩ := d; exact lv_lshl K.1 K.2.1 d rfl (kk H locs ls hH hS hl)
theorem zv_lshr (K : z_Ok X cc ret own nm) {x : Int64} {y : Int32} (d : z_D cc pc .lshr 1 pc') (kk : zV X pc' lv (tJ (x >>> (y.toInt64 &&& 63)) :: rest) h nx k z) : zV X pc lv (tI y :: tJ x :: rest) h nx k z := by
  intro H locs ls hH hS hl; obtain ⟨d, rfl⟩ := d; exact lv_lshr K.1 K.2.1 d rfl (kk H locs ls hH hS hl)
theorem zv_lcmp (K : z_Ok X cc ret own nm) {x y : Int64} (d : z_D cc pc .lcmp 1 pc') (kk : zV X pc' lv (tI (lg_cmp x y) :: rest) h nx k z) : zV X pc lv (tJ y :: tJ x :: rest) h nx k z := by
  intro H locs ls hH hS hl; obtain ⟨d, rfl⟩ := d; exact W.lcmp K.1 K.2.1 d (kk H locs ls hH hS hl)
-- the stack
theorem zv_dup (K : z_Ok X cc ret own nm) {v : zTV} (d : z_D cc pc .dup 1 pc') (hv : z_cat v = 1) (kk : zV X pc' lv (v :: v :: rest) h nx k z) : zV X pc lv (v :: rest) h nx k z := by
  intro H locs ls hH hS hl; obtain ⟨d, rfl⟩ := d; exact lv_dup K.1 K.2.1 d (by rw [z_tv_cat, hv]) (kk H locs ls hH hS hl)
theorem zv_pop (K : z_Ok X cc ret own nm) {v : zTV} (d : z_D cc pc .pop 1 pc') (hv : z_cat v = 1) (kk : zV X pc' lv rest h nx k z) : zV X pc lv (v :: rest) h nx k z := by
  intro H locs ls hH hS hl; obtain ⟨d, rfl⟩ := d; exact lv_pop K.1 K.2.1 d (by rw [z_tv_cat, hv]) (kk H locs ls hH hS hl)
theorem zv_dup2 (K : z_Ok X cc ret own nm) {v w : zTV} (d : z_D cc pc .dup2 1 pc') (hv : z_cat v = 1) (hw : z_cat w = 1) (kk : zV X pc' lv (v :: w :: v :: w :: rest) h nx k z) : zV X pc lv (v :: w :: rest) h nx k z := by
  intro H locs ls hH hS hl; obtain ⟨d, rfl⟩ := d; exact lv_dup2_11 K.1 K.2.1 d (by rw [z_tv_cat, hv]) (by rw [z_tv_cat, hw]) (kk H locs ls hH hS hl)
-- branches
theorem zv_goto (K : z_Ok X cc ret own nm) {off : Int} (tgt : Nat) (d : z_D cc pc (.goto off) 3 pc') (ht : (pc : Int) + off = (tgt : Int)) (kk : zV X tgt lv rest h nx k z) : zV X pc lv rest h nx k z := by
  intro H locs ls hH hS hl; obtain ⟨d, rfl⟩ := d; exact lv_goto K.1 K.2.1 d ht (kk H locs ls hH hS hl)
end ZV
