section ZA
variable {X : zX} {cc : ByteArray} {ret : Option FieldType} {own nm : String} {pc pc' : Nat} {lv lv' : List (Nat × zTV)} {rest : List zTV} {h : zH} {nx k z : Nat} {α : Type} {T E : Option α} {a : α}
theorem z_own_i {G : zG} {q kd n : Nat} {f : Nat → Int32} (hd : z_dom G h nx) (hq : h q = .inl (kd, n, .inl f)) (hk : kd ≠ 100) : G.1 ≤ q ∧ q < nx :=
  z_dom_in hd (by rw [hq]; intro e; cases e) (by intro n f e; rw [hq] at e; injection e with e; injection e with e _; exact hk e)
theorem z_own_o {G : zG} {q kd n : Nat} {f : (Nat → Int64) ⊕ (Nat → Option Nat)} (hd : z_dom G h nx) (hq : h q = .inl (kd, n, .inr f)) : G.1 ≤ q ∧ q < nx :=
  z_dom_in hd (by rw [hq]; intro e; cases e) (by intro n f e; rw [hq] at e; injection e with e; injection e with _ e; injection e with _ e; cases e)
theorem zv_aI (K : z_Ok X cc ret own nm) {r : Option Nat} {i : Int32} {F : Int32 → Option α} (d : z_D cc pc .iaload 1 pc') (hf : (z_aI h r i).bind F = some a) (kk : ∀ v, F v = some a → zV X pc' lv (tI v :: rest) h nx k z) : zV X pc lv (tI i :: tA r :: rest) h nx k z := by
  obtain ⟨v, he, hf⟩ := z_bind_inv hf
  have kk := kk v hf
  intro H locs ls hH hS hl; obtain ⟨d, rfl⟩ := d
  cases r with
  | none => cases he
  | some q =>
    simp only [z_aI, Option.bind_some] at he
    split at he
    · rename_i kd n f hq
      split at he
      · rename_i hc
        obtain ⟨hkd, hin⟩ := hc
        cases he
        rcases hkd with rfl | rfl
        · obtain ⟨i1, i2⟩ := z_own_i hH.1.2.2.2 hq (by omega)
          exact va_iald K.1 K.2.1 K.2.2.2.2.2.2.2.2.2.2.2.2.1 hH.1.1 _ 0 (by rw [z_ws_get i1 i2, hq]; rfl) rfl hin d (kk H locs ls hH hS hl)
        · by_cases hb : q = X.2.2.1.2.1
          · subst hb
            have e := hq.symm.trans hH.1.2.2.2.1
            injection e with e; injection e with _ e; injection e with e1 e2; injection e2 with e2
            subst e1; subst e2
            exact va_sld (H0 := X.1.2.2.2.1.heap) K.1 K.2.1 K.2.2.2.2.2.2.2.2.2.1 (Nat.lt_of_lt_of_le K.2.2.2.2.2.2.2.2.1.2.1 K.2.2.2.2.2.2.2.2.1.1) (Nat.not_le.mpr K.2.2.2.2.2.2.2.2.1.2.1) hS hin d (kk H locs ls hH hS hl)
          · by_cases ht : q = X.2.2.1.2.2.1
            · subst ht
              have e := hq.symm.trans hH.1.2.2.2.2.1
              injection e with e; injection e with _ e; injection e with e1 e2; injection e2 with e2
              subst e1; subst e2
              exact va_ti K.1 K.2.1 K.2.2.2.2.2.2.2.2.2.2.2.1 hS hin rfl d (kk H locs ls hH hS hl)
            · exact absurd hq (hH.1.2.2.2.2.2.2 q hb ht n f)
      · cases he
    · cases he
theorem zv_aB (K : z_Ok X cc ret own nm) {r : Option Nat} {i : Int32} {F : Int32 → Option α} (d : z_D cc pc .baload 1 pc') (hf : (z_aB h r i).bind F = some a) (kk : ∀ v, F v = some a → zV X pc' lv (tI v :: rest) h nx k z) : zV X pc lv (tI i :: tA r :: rest) h nx k z := by
  obtain ⟨v, he, hf⟩ := z_bind_inv hf
  have kk := kk v hf
  intro H locs ls hH hS hl; obtain ⟨d, rfl⟩ := d
  cases r with
  | none => cases he
  | some q =>
    simp only [z_aB, Option.bind_some] at he
    split at he
    · rename_i kd n f hq
      split at he
      · rename_i hc
        obtain ⟨hkd, hin⟩ := hc
        cases he
        obtain ⟨i1, i2⟩ := z_own_i hH.1.2.2.2 hq (by omega)
        rcases hkd with rfl | rfl
        · exact va_bald K.1 K.2.1 K.2.2.2.2.2.2.2.2.2.2.2.2.1 hH.1.1 _ 1 (by rw [z_ws_get i1 i2, hq]; rfl) rfl hin d (kk H locs ls hH hS hl)
        · exact va_zald K.1 K.2.1 K.2.2.2.2.2.2.2.2.2.2.2.2.1 hH.1.1 _ 2 (by rw [z_ws_get i1 i2, hq]; rfl) rfl hin d (kk H locs ls hH hS hl)
      · cases he
    · cases he
theorem zv_aJ (K : z_Ok X cc ret own nm) {r : Option Nat} {i : Int32} {F : Int64 → Option α} (d : z_D cc pc .laload 1 pc') (hf : (z_aJ h r i).bind F = some a) (kk : ∀ v, F v = some a → zV X pc' lv (tJ v :: rest) h nx k z) : zV X pc lv (tI i :: tA r :: rest) h nx k z := by
  obtain ⟨v, he, hf⟩ := z_bind_inv hf
  have kk := kk v hf
  intro H locs ls hH hS hl; obtain ⟨d, rfl⟩ := d
  cases r with
  | none => cases he
  | some q =>
    simp only [z_aJ, Option.bind_some] at he
    split at he
    · rename_i kd n f hq
      split at he
      · rename_i hc
        obtain ⟨rfl, hin⟩ := hc
        cases he
        obtain ⟨i1, i2⟩ := z_own_o hH.1.2.2.2 hq
        exact va_lald K.1 K.2.1 K.2.2.2.2.2.2.2.2.2.2.2.2.1 hH.1.1 _ 3 (by rw [z_ws_get i1 i2, hq]; rfl) rfl hin d (kk H locs ls hH hS hl)
      · cases he
    · cases he
theorem z_kt {cy : Nat → ClassId} {kd : Nat} (h1 : 4 ≤ kd) (h2 : kd ≤ 8) : ∃ r : vw_C, vwCl[z_kc kd]? = some r ∧ (z_tys cy)[kd]? = some (cy kd, .object r.1) := by
  rcases (show kd = 4 ∨ kd = 5 ∨ kd = 6 ∨ kd = 7 ∨ kd = 8 by omega) with rfl | rfl | rfl | rfl | rfl <;> exact ⟨_, rfl, rfl⟩
theorem zv_aA (K : z_Ok X cc ret own nm) {r : Option Nat} {i : Int32} {F : Option Nat → Option α} (d : z_D cc pc .aaload 1 pc') (hf : (z_aA h r i).bind F = some a) (kk : ∀ v, F v = some a → zV X pc' lv (tA v :: rest) h nx k z) : zV X pc lv (tI i :: tA r :: rest) h nx k z := by
  obtain ⟨v, he, hf⟩ := z_bind_inv hf
  have kk := kk v hf
  intro H locs ls hH hS hl; obtain ⟨d, rfl⟩ := d
  cases r with
  | none => cases he
  | some q =>
    simp only [z_aA, Option.bind_some] at he
    split at he
    · rename_i kd n f hq
      split at he
      · rename_i hc
        obtain ⟨hkd, hin⟩ := hc
        cases he
        obtain ⟨i1, i2⟩ := z_own_o hH.1.2.2.2 hq
        obtain ⟨rr, -, ht⟩ := z_kt (cy := X.2.2.1.2.2.2.2.2.2) hkd.1 hkd.2
        exact va_aldq K.1 K.2.1 K.2.2.2.2.2.2.2.2.2.2.2.2.1 hH.1.1 _ kd (by rw [z_ws_get i1 i2, hq]; rfl) ht hin d (kk H locs ls hH hS hl)
      · cases he
    · cases he
theorem z_tyk {cy : Nat → ClassId} {kd : Nat} (hk : kd ≤ 8) : ∃ ty, (z_tys cy)[kd]? = some (cy kd, ty) := by
  rcases (show kd = 0 ∨ kd = 1 ∨ kd = 2 ∨ kd = 3 ∨ kd = 4 ∨ kd = 5 ∨ kd = 6 ∨ kd = 7 ∨ kd = 8 by omega) with rfl | rfl | rfl | rfl | rfl | rfl | rfl | rfl | rfl <;> exact ⟨_, rfl⟩
theorem zv_len (K : z_Ok X cc ret own nm) {r : Option Nat} {F : Int32 → Option α} (d : z_D cc pc .arraylength 1 pc') (hf : (z_len h r).bind F = some a) (kk : ∀ v, F v = some a → zV X pc' lv (tI v :: rest) h nx k z) : zV X pc lv (tA r :: rest) h nx k z := by
  obtain ⟨v, he, hf⟩ := z_bind_inv hf
  have kk := kk v hf
  intro H locs ls hH hS hl; obtain ⟨d, rfl⟩ := d
  cases r with
  | none => cases he
  | some q =>
    simp only [z_len, Option.bind_some] at he
    split at he
    · rename_i kd n f hq
      split at he
      · rename_i hkd
        cases he
        by_cases hk : kd = 100
        · subst hk
          by_cases hb : q = X.2.2.1.2.1
          · subst hb
            have e := hq.symm.trans hH.1.2.2.2.1
            injection e with e; injection e with _ e; injection e with e1 e2
            subst e1
            exact va_slen (H0 := X.1.2.2.2.1.heap) K.1 K.2.1 K.2.2.2.2.2.2.2.2.2.1 (Nat.lt_of_lt_of_le K.2.2.2.2.2.2.2.2.1.2.1 K.2.2.2.2.2.2.2.2.1.1) (Nat.not_le.mpr K.2.2.2.2.2.2.2.2.1.2.1) hS d (kk H locs ls hH hS hl)
          · by_cases ht : q = X.2.2.1.2.2.1
            · subst ht
              have e := hq.symm.trans hH.1.2.2.2.2.1
              injection e with e; injection e with _ e; injection e with e1 e2
              subst e1
              exact va_tlen K.1 K.2.1 K.2.2.2.2.2.2.2.2.2.2.2.1 hS rfl d (kk H locs ls hH hS hl)
            · exact absurd hq (hH.1.2.2.2.2.2.2 q hb ht n f)
        · have hkd : kd ≤ 8 := by omega
          obtain ⟨i1, i2⟩ := z_own_i hH.1.2.2.2 hq hk
          obtain ⟨ty, hty⟩ := z_tyk (cy := X.2.2.1.2.2.2.2.2.2) hkd
          exact va_alen (x := (n, .inl f)) K.1 K.2.1 K.2.2.2.2.2.2.2.2.2.2.2.2.1 hH.1.1 _ kd (by rw [z_ws_get i1 i2, hq]; rfl) hty rfl d (kk H locs ls hH hS hl)
      · cases he
    · rename_i kd n g hq
      split at he
      · rename_i hkd
        cases he
        obtain ⟨i1, i2⟩ := z_own_o hH.1.2.2.2 hq
        obtain ⟨ty, hty⟩ := z_tyk (cy := X.2.2.1.2.2.2.2.2.2) hkd
        rcases g with f | f
        · exact va_alen (x := (n, .inr (.inl f))) K.1 K.2.1 K.2.2.2.2.2.2.2.2.2.2.2.2.1 hH.1.1 _ kd (by rw [z_ws_get i1 i2, hq]; rfl) hty rfl d (kk H locs ls hH hS hl)
        · exact va_alen (x := (n, .inr (.inr (.inr (.inr f))))) K.1 K.2.1 K.2.2.2.2.2.2.2.2.2.2.2.2.1 hH.1.1 _ kd (by rw [z_ws_get i1 i2, hq]; rfl) hty rfl d (kk H locs ls hH hS hl)
      · cases he
    · cases he
theorem zv_sI (K : z_Ok X cc ret own nm) {r : Option Nat} {i x : Int32} {F : zH → Option α} (d : z_D cc pc .iastore 1 pc') (hf : (z_sI h r i x).bind F = some a) (kk : ∀ h1, F h1 = some a → zV X pc' lv rest h1 nx k z) : zV X pc lv (tI x :: tI i :: tA r :: rest) h nx k z := by
  obtain ⟨v, he, hf⟩ := z_bind_inv hf
  have kk := kk v hf
  intro H locs ls hH hS hl; obtain ⟨d, rfl⟩ := d
  cases r with
  | none => cases he
  | some q =>
    simp only [z_sI, Option.bind_some] at he
    split at he
    · rename_i kd n f hq
      split at he
      · rename_i hc
        obtain ⟨rfl, hin⟩ := hc
        cases he
        obtain ⟨i1, i2⟩ := z_own_i hH.1.2.2.2 hq (by omega)
        exact va_iast K.1 K.2.1 K.2.2.2.2.2.2.2.2.2.2.2.2.1 hH.1.1 z_ws_D (z_S_rf hS) _ 0 (by rw [z_ws_get i1 i2, hq]; rfl) rfl hin d (fun H1 locs1 hP _ hS1 => z_wr K hH hS hl i1 i2 (fun n f e => by injection e with e; injection e with e _; cases e) kk H1 locs1 hP hS1)
      · cases he
    · cases he
theorem zv_sB (K : z_Ok X cc ret own nm) {r : Option Nat} {i x : Int32} {F : zH → Option α} (d : z_D cc pc .bastore 1 pc') (hf : (z_sB h r i x).bind F = some a) (kk : ∀ h1, F h1 = some a → zV X pc' lv rest h1 nx k z) : zV X pc lv (tI x :: tI i :: tA r :: rest) h nx k z := by
  obtain ⟨v, he, hf⟩ := z_bind_inv hf
  have kk := kk v hf
  intro H locs ls hH hS hl; obtain ⟨d, rfl⟩ := d
  cases r with
  | none => cases he
  | some q =>
    simp only [z_sB, Option.bind_some] at he
    split at he
    · rename_i kd n f hq
      split at he
      · rename_i hc
        obtain ⟨hkd, hin⟩ := hc
        cases he
        obtain ⟨i1, i2⟩ := z_own_i hH.1.2.2.2 hq (by omega)
        rcases hkd with rfl | rfl
        · exact va_bast K.1 K.2.1 K.2.2.2.2.2.2.2.2.2.2.2.2.1 hH.1.1 z_ws_D (z_S_rf hS) _ 1 (by rw [z_ws_get i1 i2, hq]; rfl) rfl hin d (fun H1 locs1 hP _ hS1 => z_wr K hH hS hl i1 i2 (fun n f e => by injection e with e; injection e with e _; cases e) kk H1 locs1 hP hS1)
        · exact va_zast K.1 K.2.1 K.2.2.2.2.2.2.2.2.2.2.2.2.1 hH.1.1 z_ws_D (z_S_rf hS) _ 2 (by rw [z_ws_get i1 i2, hq]; rfl) rfl hin d (fun H1 locs1 hP _ hS1 => z_wr K hH hS hl i1 i2 (fun n f e => by injection e with e; injection e with e _; cases e) kk H1 locs1 hP hS1)
      · cases he
    · cases he
theorem zv_sJ (K : z_Ok X cc ret own nm) {r : Option Nat} {i : Int32} {x : Int64} {F : zH → Option α} (d : z_D cc pc .lastore 1 pc') (hf : (z_sJ h r i x).bind F = some a) (kk : ∀ h1, F h1 = some a → zV X pc' lv rest h1 nx k z) : zV X pc lv (tJ x :: tI i :: tA r :: rest) h nx k z := by
  obtain ⟨v, he, hf⟩ := z_bind_inv hf
  have kk := kk v hf
  intro H locs ls hH hS hl; obtain ⟨d, rfl⟩ := d
  cases r with
  | none => cases he
  | some q =>
    simp only [z_sJ, Option.bind_some] at he
    split at he
    · rename_i kd n f hq
      split at he
      · rename_i hc
        obtain ⟨rfl, hin⟩ := hc
        cases he
        obtain ⟨i1, i2⟩ := z_own_o hH.1.2.2.2 hq
        exact va_last K.1 K.2.1 K.2.2.2.2.2.2.2.2.2.2.2.2.1 hH.1.1 z_ws_D (z_S_rf hS) _ 3 (by rw [z_ws_get i1 i2, hq]; rfl) rfl hin d (fun H1 locs1 hP _ hS1 => z_wr K hH hS hl i1 i2 (fun n f e => by injection e with e; injection e with e _; cases e) kk H1 locs1 hP hS1)
      · cases he
    · cases he
theorem zv_sA (K : z_Ok X cc ret own nm) {r : Option Nat} {i : Int32} {x : Option Nat} {F : zH → Option α} (d : z_D cc pc .aastore 1 pc') (hf : (z_sA h r i x).bind F = some a) (kk : ∀ h1, F h1 = some a → zV X pc' lv rest h1 nx k z) : zV X pc lv (tA x :: tI i :: tA r :: rest) h nx k z := by
  obtain ⟨v, he, hf⟩ := z_bind_inv hf
  have kk := kk v hf
  intro H locs ls hH hS hl; obtain ⟨d, rfl⟩ := d
  cases r with
  | none => cases he
  | some q =>
    cases x with
    | none => cases he
    | some w =>
      simp only [z_sA, Option.bind_some] at he
      split at he
      · rename_i kd n f c fs hq hw
        split at he
        · rename_i hc
          obtain ⟨⟨hkd, rfl⟩, hin⟩ := hc
          cases he
          obtain ⟨i1, i2⟩ := z_own_o hH.1.2.2.2 hq
          obtain ⟨rr, hrr, ht⟩ := z_kt (cy := X.2.2.1.2.2.2.2.2.2) hkd.1 hkd.2
          have hlt := z_cls_lt hrr
          obtain ⟨j1, j2⟩ := z_dom_in hH.1.2.2.2 (a := w) (by rw [hw]; intro e; injection e with e; injection e with e _; omega) (by intro n f e; rw [hw] at e; cases e)
          exact va_astq K.1 K.2.1 K.2.2.2.2.2.2.2.2.2.2.2.2.1 hH.1.1 z_ws_D (z_S_rf hS) _ kd (w - X.2.2.1.1) (z_kc kd) (vs := fs.map z_tv) (by rw [z_ws_get i1 i2, hq]; rfl) ht (by rw [z_ws_get j1 j2, hw]; rfl) hrr hin d (fun H1 locs1 hP _ hS1 => z_wr K hH hS hl i1 i2 (fun n f e => by injection e with e; injection e with e _; omega) kk H1 locs1 hP hS1)
        · cases he
      · cases he
/-- System.arraycopy's link -/
def z_AC (own : String) (idx : Nat) : Prop := Cond.methodLink own idx arraycopyName ∈ lw_tbl ∧ Cond.native arraycopyName ∈ lw_tbl ∧ Cond.static arraycopyName ∈ lw_tbl ∧ Cond.initialized "java/lang/System" ∈ lw_tbl
theorem zv_cp (K : z_Ok X cc ret own nm) {idx : Nat} {r w : Option Nat} {sp dp n : Int32} {F : zH → Option α} (d : z_D cc pc (.invokestatic idx) 3 pc') (hL : z_AC own idx) (hR : 1 ≤ X.2.1.frames ∧ 26 ≤ X.2.1.locals) (hrest : (rest.map z_cat).sum ≤ 8) (hf : (z_cp h r sp w dp n).bind F = some a) (kk : ∀ h1, F h1 = some a → zV X pc' lv rest h1 nx k z) : zV X pc lv (tI n :: tI dp :: tA w :: tI sp :: tA r :: rest) h nx k z := by
  obtain ⟨v, he, hf⟩ := z_bind_inv hf
  have kk := kk v hf
  intro H locs ls hH hS hl; obtain ⟨d, rfl⟩ := d
  obtain ⟨l1, l2, l3, l4⟩ := hL
  have hcat : ((rest.map z_tv).map fun v => v.category).sum ≤ 8 := by
    rw [List.map_map]
    have : (fun v => v.category) ∘ z_tv = z_cat := funext z_tv_cat
    rw [this]; exact hrest
  have hlo : ((rest.map z_tv).map fun v => v.category).sum + (nativeFrameWords "java/lang/System" "arraycopy" 5 + 11) ≤ X.2.1.locals := by
    have : nativeFrameWords "java/lang/System" "arraycopy" 5 = 7 := by decide +kernel
    omega
  cases r with
  | none => cases he
  | some q =>
    cases w with
    | none => cases he
    | some b =>
      simp only [z_cp, Option.bind_some] at he
      split at he
      · rename_i ka na f kb nb g hq hb
        split at he
        · rename_i hc
          obtain ⟨⟨rfl, rfl⟩, ⟨c1, c2, c3⟩, c4, c5⟩ := hc
          cases he
          obtain ⟨i1, i2⟩ := z_own_i hH.1.2.2.2 hq (by omega)
          obtain ⟨j1, j2⟩ := z_own_i hH.1.2.2.2 hb (by omega)
          exact va_copyi (ty := .int) K.1 K.2.1 (K.2.2.2.1.trans hl.1.symm) K.2.2.2.2.1 (z_word K l1 rfl) (z_word K l2 rfl) (z_word K l3 rfl) (z_word K l4 rfl) K.2.2.2.2.2.2.2.2.2.2.2.2.1 hH.1.1 z_ws_D (z_S_rf hS) (q - X.2.2.1.1) (b - X.2.2.1.1) 0 0 (by rw [z_ws_get i1 i2, hq]; rfl) (by rw [z_ws_get j1 j2, hb]; rfl) rfl rfl rfl c1 c2 c3 c4 c5 (fun _ _ => rfl) hR.1 hlo d (fun H1 locs1 hP _ hS1 => z_wr K hH hS hl j1 j2 (fun n f e => by injection e with e; injection e with e _; cases e) kk H1 locs1 hP hS1)
        · cases he
      · rename_i ka na f kb nb g hq hb
        split at he
        · rename_i hc
          obtain ⟨⟨rfl, rfl⟩, ⟨c1, c2, c3⟩, c4, c5⟩ := hc
          cases he
          obtain ⟨i1, i2⟩ := z_own_o hH.1.2.2.2 hq
          obtain ⟨j1, j2⟩ := z_own_o hH.1.2.2.2 hb
          exact va_copyl (ty := .long) K.1 K.2.1 (K.2.2.2.1.trans hl.1.symm) K.2.2.2.2.1 (z_word K l1 rfl) (z_word K l2 rfl) (z_word K l3 rfl) (z_word K l4 rfl) K.2.2.2.2.2.2.2.2.2.2.2.2.1 hH.1.1 z_ws_D (z_S_rf hS) (q - X.2.2.1.1) (b - X.2.2.1.1) 3 3 (by rw [z_ws_get i1 i2, hq]; rfl) (by rw [z_ws_get j1 j2, hb]; rfl) rfl rfl rfl c1 c2 c3 c4 c5 (fun _ _ => rfl) hR.1 hlo d (fun H1 locs1 hP _ hS1 => z_wr K hH hS hl j1 j2 (fun n f e => by injection e with e; injection e with e _; cases e) kk H1 locs1 hP hS1)
        · cases he
      · cases he
theorem zv_step (K : z_Ok X cc ret own nm) {idx : Nat} (d : z_D cc pc (.getstatic idx) 3 pc') (hL : Cond.fieldLink own idx "ThinkingArms" "STEP" "[I" ∈ lw_tbl ∨ ∃ host, Cond.fieldLinkNest own idx "ThinkingArms" "STEP" "[I" host ∈ lw_tbl) (kk : zV X pc' lv (tA (some X.2.2.1.2.2.1) :: rest) h nx k z) : zV X pc lv rest h nx k z := by
  intro H locs ls hH hS hl; obtain ⟨d, rfl⟩ := d
  rcases hL with hL | ⟨host, hL⟩
  · exact va_gets K.1 K.2.1 K.2.2.2.2.2.2.2.2.2.2.1 hS K.2.2.2.2.1 (z_word K hL rfl) (fun _ e => e) d (kk H locs ls hH hS hl)
  · exact va_getsN K.1 K.2.1 K.2.2.2.2.2.2.2.2.2.2.1 hS K.2.2.2.2.1 (z_nword K hL rfl rfl) (fun _ e => e) d (kk H locs ls hH hS hl)
end ZA
