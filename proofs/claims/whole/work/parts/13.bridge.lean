/-! THE BRIDGE: what is left to show is a matter of f_L_law alone -/
def z_h0 (b t L : Nat) (xs : Nat → Int32) : zH := fun q => if q = b then .inl (100, L, .inl xs) else if q = t then .inl (100, 4, .inl z_step) else .inr (999, [])
def PureLaw : Prop := ∀ (n0 b t L : Nat) (xs : Nat → Int32), b < n0 → t < n0 → b ≠ t → L ≤ 3072 → ∃ x, f_L_law t (some b) (z_h0 b t L xs) n0 0 = some x ∧ x.2.1 = 1 ∧ x.1.1 ≤ n0 + 600000 ∧ x.1.2 ≤ 7302250
theorem z_arrP {s : State} {args : Array Value} {ty : FieldType} (h : (Cond.arrayClass ty).before args s = true) : ∃ cA : ClassId, ArrOfT s cA ty ∧ s.vm.findClass ("[" ++ ty.toString) = some cA := by
  obtain ⟨cA, kA, comp, h1, h2, h3⟩ := Cond.arrayClass_spec h
  exact ⟨cA, fun n z => ⟨fun k h => (by cases h), kA, h2, comp, h3⟩, h1⟩
theorem z_arrQ {s : State} {args : Array Value} {C : String} (h : (Cond.arrayOver (.object C)).before args s = true) : ∃ cA : ClassId, ArrOfT s cA (.object C) ∧ va_RA s cA (.object C) := by
  obtain ⟨comp, cA, kA, h1, -, h2, h3, h4⟩ := Cond.arrayOver_spec h
  exact ⟨cA, fun n z => ⟨fun k h => (by cases h), kA, h2, comp, h3⟩, kA, comp, h2, h3, h1, h4⟩
set_option maxHeartbeats 4000000 in
set_option maxRecDepth 100000 in
theorem whole_open (hpure : PureLaw) {p : Program} {e : Env} {s : State} {m : MethodId} {below : List Frame} {meth : Method} {c : Code} (l : Launch) {b L : Nat} {xs : Nat → Int32} (hL : L ≤ 3072) (C0 : lw_At p s m meth c b L xs) : W p l e room_1 s m #[Value.ref b] below meth c s.heap [] 0 0 (lw_Z below #[Value.ref b] s) (entryFrame m ([Value.ref b] : List Value).toArray 4) := by
  obtain ⟨hx, hb, hr, hml, hown, hts, hX, hbl, hlocks, hgv⟩ := C0
  have hA : ∀ a : Nat, a < s.heap.size → ¬ (fun q : Nat => s.heap.size ≤ q) a := fun a h => Nat.not_le.mpr h
  have hfl := flat_of_before _ hgv
  -- the table STEP
  obtain ⟨t, htv, hT⟩ := va_Tof (args := #[Value.ref b]) (s := s) (tm := .static "ThinkingArms" "STEP" "[I") (ty := .int) (N := 4) (f := fun j => .int (z_step j)) (A := fun q : Nat => s.heap.size ≤ q) (by decide) (hfl _ (by decide +kernel)) (va_eqt (hfl _ (by decide +kernel))) (fun j hj => by
    rcases (show j = 0 ∨ j = 1 ∨ j = 2 ∨ j = 3 by omega) with rfl | rfl | rfl | rfl
    · exact va_eqt (hfl (.eq (.elem (.static "ThinkingArms" "STEP" "[I") (.int 0)) (.int 1)) (by decide +kernel))
    · exact va_eqt (hfl (.eq (.elem (.static "ThinkingArms" "STEP" "[I") (.int 1)) (.int 8)) (by decide +kernel))
    · exact va_eqt (hfl (.eq (.elem (.static "ThinkingArms" "STEP" "[I") (.int 2)) (.int (-1))) (by decide +kernel))
    · exact va_eqt (hfl (.eq (.elem (.static "ThinkingArms" "STEP" "[I") (.int 3)) (.int (-8))) (by decide +kernel))) hA
  have hZ : va_Z "ThinkingArms" "STEP" "[I" (.ref t) (fun q : Nat => s.heap.size ≤ q) s s.heap := va_Zref (hts (.laysStatic "ThinkingArms" "STEP" "[I") (by decide +kernel)) (hts (.initialized "ThinkingArms") (by decide +kernel)) htv hA
  have htl : t < s.heap.size := by obtain ⟨cell, h1, -⟩ := hT; exact (Array.getElem?_eq_some_iff.mp h1).1
  have hbt : b ≠ t := va_neR (hfl (.not (.eq (.arg 0) (.static "ThinkingArms" "STEP" "[I"))) (by decide +kernel)) (show (Term.arg 0).eval #[Value.ref b] s none [] s = some (.ref b) from rfl) htv
  -- the classes
  have hkn : ∀ (k : Nat) (q : vw_C), vwCl[k]? = some q → ∃ (cC : ClassId) (iS : Nat → Nat), u_Kn s q.1 q.2.1 q.2.2 cC iS := by
    intro k q hq
    have hin : ∀ w ∈ u_ws q.1 q.2.1 q.2.2, w ∈ lw_tbl := fun w hw => (List.mem_filter.mp (z_in hq w hw)).1
    match k, hq with
    | 0, hq => cases hq; exact u_known hts hin (hts _ nb_0)
    | 1, hq => cases hq; exact u_known hts hin (hts _ nb_1)
    | 2, hq => cases hq; exact u_known hts hin (hts _ nb_2)
    | 3, hq => cases hq; exact u_known hts hin (hts _ nb_3)
    | 4, hq => cases hq; exact u_known hts hin (hts _ nb_4)
    | 5, hq => cases hq; exact u_known hts hin (hts _ nb_5)
    | 6, hq => cases hq; exact u_known hts hin (hts _ nb_6)
    | 7, hq => cases hq; exact u_known hts hin (hts _ nb_7)
    | 8, hq => cases hq; exact u_known hts hin (hts _ nb_8)
    | 9, hq => cases hq; exact u_known hts hin (hts _ nb_9)
    | 10, hq => cases hq; exact u_known hts hin (hts _ nb_10)
    | 11, hq => cases hq; exact u_known hts hin (hts _ nb_11)
    | n + 12, hq => simp [vwCl] at hq
  have hkn2 : ∀ k : Nat, ∃ z : ClassId × (Nat → Nat), ∀ q : vw_C, vwCl[k]? = some q → u_Kn s q.1 q.2.1 q.2.2 z.1 z.2 := by
    intro k
    cases hk : vwCl[k]? with
    | none => exact ⟨(0, fun _ => 0), fun q h => by cases h⟩
    | some q0 =>
      obtain ⟨cC, iS, h⟩ := hkn k q0 hk
      exact ⟨(cC, iS), fun q hq => by cases hq; exact h⟩
  obtain ⟨D, hD⟩ : ∃ D : Nat → ClassId × (Nat → Nat), ∀ (k : Nat) (q : vw_C), vwCl[k]? = some q → u_Kn s q.1 q.2.1 q.2.2 (D k).1 (D k).2 := ⟨fun k => Classical.choose (hkn2 k), fun k => Classical.choose_spec (hkn2 k)⟩
  obtain ⟨c0, a0, n0⟩ := z_arrP (hts _ ar_int)
  obtain ⟨c1, a1, n1⟩ := z_arrP (hts _ ar_byte)
  obtain ⟨c2, a2, n2⟩ := z_arrP (hts _ ar_boolean)
  obtain ⟨c3, a3, n3⟩ := z_arrP (hts _ ar_long)
  have o0 : (Cond.arrayOver (.object RX0)).before #[Value.ref b] s = true := hts _ (by decide +kernel)
  have o8 : (Cond.arrayOver (.object RX8)).before #[Value.ref b] s = true := hts _ (by decide +kernel)
  have o6 : (Cond.arrayOver (.object RX6)).before #[Value.ref b] s = true := hts _ (by decide +kernel)
  have o7 : (Cond.arrayOver (.object RX7)).before #[Value.ref b] s = true := hts _ (by decide +kernel)
  have o2 : (Cond.arrayOver (.object RX2)).before #[Value.ref b] s = true := hts _ (by decide +kernel)
  obtain ⟨c4, a4, n4⟩ := z_arrQ o0
  obtain ⟨c5, a5, n5⟩ := z_arrQ o8
  obtain ⟨c6, a6, n6⟩ := z_arrQ o6
  obtain ⟨c7, a7, n7⟩ := z_arrQ o7
  obtain ⟨c8, a8, n8⟩ := z_arrQ o2
  obtain ⟨cy, e0, e1, e2, e3, e4, e5, e6, e7, e8⟩ : ∃ cy : Nat → ClassId, cy 0 = c0 ∧ cy 1 = c1 ∧ cy 2 = c2 ∧ cy 3 = c3 ∧ cy 4 = c4 ∧ cy 5 = c5 ∧ cy 6 = c6 ∧ cy 7 = c7 ∧ cy 8 = c8 :=
    ⟨fun k => [c0, c1, c2, c3, c4, c5, c6, c7, c8].getD k c0, rfl, rfl, rfl, rfl, rfl, rfl, rfl, rfl, rfl⟩
  subst e0 e1 e2 e3 e4 e5 e6 e7 e8
  have hK : va_K (fun k => (D k).1, fun k => (D k).2) vwCl (z_tys cy) s := by
    refine ⟨fun k q hq => hD k q hq, fun k q hq => ?_⟩
    match k, hq with
    | 0, hq => cases hq; exact ⟨a0, n0⟩
    | 1, hq => cases hq; exact ⟨a1, n1⟩
    | 2, hq => cases hq; exact ⟨a2, n2⟩
    | 3, hq => cases hq; exact ⟨a3, n3⟩
    | 4, hq => cases hq; exact ⟨a4, n4⟩
    | 5, hq => cases hq; exact ⟨a5, n5⟩
    | 6, hq => cases hq; exact ⟨a6, n6⟩
    | 7, hq => cases hq; exact ⟨a7, n7⟩
    | 8, hq => cases hq; exact ⟨a8, n8⟩
    | n + 9, hq => simp [z_tys] at hq
  obtain ⟨x, hf, h1, h2, h3⟩ := hpure s.heap.size b t L xs hbl htl hbt hL
  have hl := lv_entry ([.ref b]) (n := 4) (Nat.le_of_ble_eq_true rfl)
  rw [lg_entry_eq]
  generalize (lg_sl ([.ref b]) ++ List.replicate (4 - (lg_sl ([.ref b])).length) Slot.unset).toArray = ls at hl ⊢
  have hSt : z_St (s.heap.size, b, t, L, xs, (fun k => (D k).1, fun k => (D k).2), cy) s := by
    refine ⟨⟨Nat.le_refl _, hbl, htl⟩, hX, hZ, hT, hK, fun w hw => ?_, va_AO.of o0, va_AO.of o8, va_AO.of o6, va_AO.of o7, va_AO.of o2⟩
    obtain ⟨hm, hn⟩ := List.mem_filter.mp hw
    refine va_Nw.of ?_ (hts w hm)
    cases w <;> first | rfl | (simp [z_isN] at hn)
  have hV := v_L_law (X := ((p, l, e, s, m, #[Value.ref b], below, meth, c), room_1, (s.heap.size, b, t, L, xs, (fun k => (D k).1, fun k => (D k).2), cy), 4, lw_Z below #[Value.ref b] s)) (lnm := meth.name) (nx0 := s.heap.size) (z0 := 0)
    ⟨hx, hb, hr, hml, hown, fun w hw => hts w (List.mem_filter.mp hw).1, hlocks, rfl, hSt⟩ ⟨rfl, rfl⟩ ⟨Nat.le_refl _, Nat.le_refl _⟩ hf ⟨⟨h2, by rw [Nat.zero_add]; exact h3⟩, h1, ⟨b, rfl⟩, rfl, rfl, rfl, by omega, by omega⟩
  rw [Nat.sub_self, Nat.sub_self] at hV
  refine hV s.heap [] ls ⟨⟨?_, Nat.le_refl _, Nat.le_refl _, ?_⟩, rfl⟩ va_S.rf hl
  · intro k q h
    exfalso
    unfold z_ws at h
    rw [Nat.sub_self] at h
    simp at h
  · refine ⟨if_pos rfl, ?_, fun a _ hb ht => ?_, fun a hb ht => ?_⟩
    · show z_h0 b t L xs t = _
      unfold z_h0
      rw [if_neg (Ne.symm hbt), if_pos rfl]
    · show z_h0 b t L xs a = _
      unfold z_h0
      rw [if_neg hb, if_neg ht]
    · show z_nk (z_h0 b t L xs a)
      unfold z_h0
      rw [if_neg hb, if_neg ht]
      intro n f e; cases e
