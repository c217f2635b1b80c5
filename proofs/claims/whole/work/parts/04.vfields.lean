/-! branches, fields, arrays: with the answer of f beside them -/
section ZW
variable {X : zX} {cc : ByteArray} {ret : Option FieldType} {own nm : String} {pc pc' : Nat} {lv lv' : List (Nat × zTV)} {rest : List zTV} {h : zH} {nx k z : Nat} {α : Type} {T E : Option α} {a : α}
theorem z_ite_inv {c : Prop} (dc : Decidable c) (hf : (@ite _ c dc T E) = some a) {G : Prop} (kt : c → T = some a → G) (kf : ¬ c → E = some a → G) : G := by
  by_cases hc : c
  · rw [if_pos hc] at hf; exact kt hc hf
  · rw [if_neg hc] at hf; exact kf hc hf
theorem zv_if_eq (K : z_Ok X cc ret own nm) {x : Int32} {off : Int} (tgt : Nat) (d : z_D cc pc (.ifCond .eq off) 3 pc') (ht : (pc : Int) + off = (tgt : Int)) (hf : (if x = 0 then T else E) = some a)
    (kt : x = 0 → T = some a → zV X tgt lv rest h nx k z) (kf : ¬ (x = 0) → E = some a → zV X pc' lv rest h nx k z) : zV X pc lv (tI x :: rest) h nx k z := by
  intro H locs ls hH hS hl; obtain ⟨d, rfl⟩ := d
  exact lv_if_eq K.1 K.2.1 d ht (fun c => kt c (by rw [if_pos c] at hf; exact hf) H locs ls hH hS hl) (fun c => kf c (by rw [if_neg c] at hf; exact hf) H locs ls hH hS hl)
theorem zv_if_ne (K : z_Ok X cc ret own nm) {x : Int32} {off : Int} (tgt : Nat) (d : z_D cc pc (.ifCond .ne off) 3 pc') (ht : (pc : Int) + off = (tgt : Int)) (hf : (if x = 0 then E else T) = some a)
    (kt : ¬ x = 0 → T = some a → zV X tgt lv rest h nx k z) (kf : x = 0 → E = some a → zV X pc' lv rest h nx k z) : zV X pc lv (tI x :: rest) h nx k z := by
  intro H locs ls hH hS hl; obtain ⟨d, rfl⟩ := d
  exact lv_if_ne K.1 K.2.1 d ht (fun c => kt c (by rw [if_neg c] at hf; exact hf) H locs ls hH hS hl) (fun c => kf c (by rw [if_pos c] at hf; exact hf) H locs ls hH hS hl)
theorem zv_if_lt (K : z_Ok X cc ret own nm) {x : Int32} {off : Int} (tgt : Nat) (d : z_D cc pc (.ifCond .lt off) 3 pc') (ht : (pc : Int) + off = (tgt : Int)) (hf : (if x < 0 then T else E) = some a)
    (kt : x < 0 → T = some a → zV X tgt lv rest h nx k z) (kf : ¬ (x < 0) → E = some a → zV X pc' lv rest h nx k z) : zV X pc lv (tI x :: rest) h nx k z := by
  intro H locs ls hH hS hl; obtain ⟨d, rfl⟩ := d
  exact lv_if_lt K.1 K.2.1 d ht (fun c => kt c (by rw [if_pos c] at hf; exact hf) H locs ls hH hS hl) (fun c => kf c (by rw [if_neg c] at hf; exact hf) H locs ls hH hS hl)
theorem zv_if_ge (K : z_Ok X cc ret own nm) {x : Int32} {off : Int} (tgt : Nat) (d : z_D cc pc (.ifCond .ge off) 3 pc') (ht : (pc : Int) + off = (tgt : Int)) (hf : (if 0 ≤ x then T else E) = some a)
    (kt : 0 ≤ x → T = some a → zV X tgt lv rest h nx k z) (kf : ¬ (0 ≤ x) → E = some a → zV X pc' lv rest h nx k z) : zV X pc lv (tI x :: rest) h nx k z := by
  intro H locs ls hH hS hl; obtain ⟨d, rfl⟩ := d
  exact lv_if_ge K.1 K.2.1 d ht (fun c => kt c (by rw [if_pos c] at hf; exact hf) H locs ls hH hS hl) (fun c => kf c (by rw [if_neg c] at hf; exact hf) H locs ls hH hS hl)
theorem zv_if_gt (K : z_Ok X cc ret own nm) {x : Int32} {off : Int} (tgt : Nat) (d : z_D cc pc (.ifCond .gt off) 3 pc') (ht : (pc : Int) + off = (tgt : Int)) (hf : (if 0 < x then T else E) = some a)
    (kt : 0 < x → T = some a → zV X tgt lv rest h nx k z) (kf : ¬ (0 < x) → E = some a → zV X pc' lv rest h nx k z) : zV X pc lv (tI x :: rest) h nx k z := by
  intro H locs ls hH hS hl; obtain ⟨d, rfl⟩ := d
  exact lv_if_gt K.1 K.2.1 d ht (fun c => kt c (by rw [if_pos c] at hf; exact hf) H locs ls hH hS hl) (fun c => kf c (by rw [if_neg c] at hf; exact hf) H locs ls hH hS hl)
theorem zv_if_le (K : z_Ok X cc ret own nm) {x : Int32} {off : Int} (tgt : Nat) (d : z_D cc pc (.ifCond .le off) 3 pc') (ht : (pc : Int) + off = (tgt : Int)) (hf : (if x ≤ 0 then T else E) = some a)
    (kt : x ≤ 0 → T = some a → zV X tgt lv rest h nx k z) (kf : ¬ (x ≤ 0) → E = some a → zV X pc' lv rest h nx k z) : zV X pc lv (tI x :: rest) h nx k z := by
  intro H locs ls hH hS hl; obtain ⟨d, rfl⟩ := d
  exact lv_if_le K.1 K.2.1 d ht (fun c => kt c (by rw [if_pos c] at hf; exact hf) H locs ls hH hS hl) (fun c => kf c (by rw [if_neg c] at hf; exact hf) H locs ls hH hS hl)
theorem zv_icmp_eq (K : z_Ok X cc ret own nm) {x y : Int32} {off : Int} (tgt : Nat) (d : z_D cc pc (.if_icmp .eq off) 3 pc') (ht : (pc : Int) + off = (tgt : Int)) (hf : (if x = y then T else E) = some a)
    (kt : x = y → T = some a → zV X tgt lv rest h nx k z) (kf : ¬ (x = y) → E = some a → zV X pc' lv rest h nx k z) : zV X pc lv (tI y :: tI x :: rest) h nx k z := by
  intro H locs ls hH hS hl; obtain ⟨d, rfl⟩ := d
  exact lv_icmp_eq K.1 K.2.1 d ht (fun c => kt c (by rw [if_pos c] at hf; exact hf) H locs ls hH hS hl) (fun c => kf c (by rw [if_neg c] at hf; exact hf) H locs ls hH hS hl)
theorem zv_icmp_ne (K : z_Ok X cc ret own nm) {x y : Int32} {off : Int} (tgt : Nat) (d : z_D cc pc (.if_icmp .ne off) 3 pc') (ht : (pc : Int) + off = (tgt : Int)) (hf : (if x = y then E else T) = some a)
    (kt : ¬ x = y → T = some a → zV X tgt lv rest h nx k z) (kf : x = y → E = some a → zV X pc' lv rest h nx k z) : zV X pc lv (tI y :: tI x :: rest) h nx k z := by
  intro H locs ls hH hS hl; obtain ⟨d, rfl⟩ := d
  exact lv_icmp_ne K.1 K.2.1 d ht (fun c => kt c (by rw [if_neg c] at hf; exact hf) H locs ls hH hS hl) (fun c => kf c (by rw [if_pos c] at hf; exact hf) H locs ls hH hS hl)
theorem zv_icmp_lt (K : z_Ok X cc ret own nm) {x y : Int32} {off : Int} (tgt : Nat) (d : z_D cc pc (.if_icmp .lt off) 3 pc') (ht : (pc : Int) + off = (tgt : Int)) (hf : (if x < y then T else E) = some a)
    (kt : x < y → T = some a → zV X tgt lv rest h nx k z) (kf : ¬ (x < y) → E = some a → zV X pc' lv rest h nx k z) : zV X pc lv (tI y :: tI x :: rest) h nx k z := by
  intro H locs ls hH hS hl; obtain ⟨d, rfl⟩ := d
  exact lv_icmp_lt K.1 K.2.1 d ht (fun c => kt c (by rw [if_pos c] at hf; exact hf) H locs ls hH hS hl) (fun c => kf c (by rw [if_neg c] at hf; exact hf) H locs ls hH hS hl)
theorem zv_icmp_ge (K : z_Ok X cc ret own nm) {x y : Int32} {off : Int} (tgt : Nat) (d : z_D cc pc (.if_icmp .ge off) 3 pc') (ht : (pc : Int) + off = (tgt : Int)) (hf : (if y ≤ x then T else E) = some a)
    (kt : y ≤ x → T = some a → zV X tgt lv rest h nx k z) (kf : ¬ (y ≤ x) → E = some a → zV X pc' lv rest h nx k z) : zV X pc lv (tI y :: tI x :: rest) h nx k z := by
  intro H locs ls hH hS hl; obtain ⟨d, rfl⟩ := d
  exact lv_icmp_ge K.1 K.2.1 d ht (fun c => kt c (by rw [if_pos c] at hf; exact hf) H locs ls hH hS hl) (fun c => kf c (by rw [if_neg c] at hf; exact hf) H locs ls hH hS hl)
theorem zv_icmp_gt (K : z_Ok X cc ret own nm) {x y : Int32} {off : Int} (tgt : Nat) (d : z_D cc pc (.if_icmp .gt off) 3 pc') (ht : (pc : Int) + off = (tgt : Int)) (hf : (if y < x then T else E) = some a)
    (kt : y < x → T = some a → zV X tgt lv rest h nx k z) (kf : ¬ (y < x) → E = some a → zV X pc' lv rest h nx k z) : zV X pc lv (tI y :: tI x :: rest) h nx k z := by
  intro H locs ls hH hS hl; obtain ⟨d, rfl⟩ := d
  exact lv_icmp_gt K.1 K.2.1 d ht (fun c => kt c (by rw [if_pos c] at hf; exact hf) H locs ls hH hS hl) (fun c => kf c (by rw [if_neg c] at hf; exact hf) H locs ls hH hS hl)
theorem zv_icmp_le (K : z_Ok X cc ret own nm) {x y : Int32} {off : Int} (tgt : Nat) (d : z_D cc pc (.if_icmp .le off) 3 pc') (ht : (pc : Int) + off = (tgt : Int)) (hf : (if x ≤ y then T else E) = some a)
    (kt : x ≤ y → T = some a → zV X tgt lv rest h nx k z) (kf : ¬ (x ≤ y) → E = some a → zV X pc' lv rest h nx k z) : zV X pc lv (tI y :: tI x :: rest) h nx k z := by
  intro H locs ls hH hS hl; obtain ⟨d, rfl⟩ := d
  exact lv_icmp_le K.1 K.2.1 d ht (fun c => kt c (by rw [if_pos c] at hf; exact hf) H locs ls hH hS hl) (fun c => kf c (by rw [if_neg c] at hf; exact hf) H locs ls hH hS hl)
theorem zv_ifnull (K : z_Ok X cc ret own nm) {x : Option Nat} {off : Int} (tgt : Nat) (d : z_D cc pc (.ifnull off) 3 pc') (ht : (pc : Int) + off = (tgt : Int)) (hf : (if x = none then T else E) = some a)
    (kt : x = none → T = some a → zV X tgt lv rest h nx k z) (kf : ¬ (x = none) → E = some a → zV X pc' lv rest h nx k z) : zV X pc lv (tA x :: rest) h nx k z := by
  intro H locs ls hH hS hl; obtain ⟨d, rfl⟩ := d
  cases x with
  | none => exact lv_ifnullN K.1 K.2.1 d ht (kt rfl (by rw [if_pos rfl] at hf; exact hf) H locs ls hH hS hl)
  | some q => exact lv_ifnull K.1 K.2.1 d (kf (by simp) (by rw [if_neg (by simp)] at hf; exact hf) H locs ls hH hS hl)
theorem zv_ifnonnull (K : z_Ok X cc ret own nm) {x : Option Nat} {off : Int} (tgt : Nat) (d : z_D cc pc (.ifnonnull off) 3 pc') (ht : (pc : Int) + off = (tgt : Int)) (hf : (if x = none then E else T) = some a)
    (kt : ¬ x = none → T = some a → zV X tgt lv rest h nx k z) (kf : x = none → E = some a → zV X pc' lv rest h nx k z) : zV X pc lv (tA x :: rest) h nx k z := by
  intro H locs ls hH hS hl; obtain ⟨d, rfl⟩ := d
  cases x with
  | none => exact lv_ifnonnullN K.1 K.2.1 d (kf rfl (by rw [if_pos rfl] at hf; exact hf) H locs ls hH hS hl)
  | some q => exact lv_ifnonnull K.1 K.2.1 d ht (kt (by simp) (by rw [if_neg (by simp)] at hf; exact hf) H locs ls hH hS hl)
theorem zv_tswIn (K : z_Ok X cc ret own nm) {dflt lo hi off : Int} {offs : Array Int} {len : Nat} {x : Int32} (c : Int32) (tgt : Nat) (d : z_D cc pc (.tableswitch dflt lo hi offs) len pc') (hx : x = c) (h1 : ¬ c.toInt < lo) (h2 : ¬ hi < c.toInt) (ho : offs[(c.toInt - lo).toNat]? = some off) (ht : (pc : Int) + off = (tgt : Int))
    (kk : zV X tgt lv rest h nx k z) : zV X pc lv (tI x :: rest) h nx k z := by
  intro H locs ls hH hS hl; obtain ⟨d, rfl⟩ := d; subst hx
  exact lv_tableIn K.1 K.2.1 d h1 h2 ho ht (kk H locs ls hH hS hl)
theorem zv_tswOut (K : z_Ok X cc ret own nm) {dflt lo hi : Int} {offs : Array Int} {len : Nat} {x : Int32} (tgt : Nat) (d : z_D cc pc (.tableswitch dflt lo hi offs) len pc') (hx : x.toInt < lo ∨ hi < x.toInt) (ht : (pc : Int) + dflt = (tgt : Int))
    (kk : zV X tgt lv rest h nx k z) : zV X pc lv (tI x :: rest) h nx k z := by
  intro H locs ls hH hS hl; obtain ⟨d, rfl⟩ := d
  exact lv_tableOut K.1 K.2.1 d hx ht (kk H locs ls hH hS hl)
theorem zv_lsw (K : z_Ok X cc ret own nm) {dflt off : Int} {ps : Array (Int × Int)} {len : Nat} {x : Int32} (tgt : Nat) (d : z_D cc pc (.lookupswitch dflt ps) len pc') (hp : (ps.toList.zip (ps.toList.drop 1)).all (fun (a, next) => a.1 < next.1) = true) (ho : Op.lookupswitch.offset ps.toList dflt x.toInt = off) (ht : (pc : Int) + off = (tgt : Int))
    (kk : zV X tgt lv rest h nx k z) : zV X pc lv (tI x :: rest) h nx k z := by
  intro H locs ls hH hS hl; obtain ⟨d, rfl⟩ := d
  exact lv_lookup K.1 K.2.1 d hp ho ht (kk H locs ls hH hS hl)
/-- a field's link, of the own class or of a nest mate's -/
def z_FL (own : String) (idx ci fk : Nat) : Prop := ∃ q : vw_C, vwCl[ci]? = some q ∧ fk < q.2.2 ∧ (Cond.fieldLink own idx (q.2.1 fk).1 (q.2.1 fk).2.1 (q.2.1 fk).2.2.1 ∈ lw_tbl ∨ ∃ host, Cond.fieldLinkNest own idx (q.2.1 fk).1 (q.2.1 fk).2.1 (q.2.1 fk).2.2.1 host ∈ lw_tbl)
theorem z_gF_inv {ci fk : Nat} {r : Option Nat} {v : zTV} (he : z_gF h ci fk r = some v) : ∃ (q : Nat) (fs : List zTV), r = some q ∧ h q = .inr (ci, fs) ∧ fs[fk]? = some v := by
  cases r with
  | none => cases he
  | some q =>
    simp only [z_gF, Option.bind_some] at he
    split at he
    · rename_i c fs hq
      split at he
      · rename_i hc; subst hc; exact ⟨q, fs, rfl, hq, he⟩
      · cases he
    · cases he
theorem z_cls_lt {ci : Nat} {q : vw_C} (hc : vwCl[ci]? = some q) : ci < 12 := (List.getElem?_eq_some_iff.mp hc).1
theorem zv_gF (K : z_Ok X cc ret own nm) {idx ci fk : Nat} {r : Option Nat} {v : zTV} (d : z_D cc pc (.getfield idx) 3 pc') (hL : z_FL own idx ci fk) (he : z_gF h ci fk r = some v) (kk : zV X pc' lv (v :: rest) h nx k z) : zV X pc lv (tA r :: rest) h nx k z := by
  intro H locs ls hH hS hl; obtain ⟨d, rfl⟩ := d
  obtain ⟨q, fs, rfl, hq, hv⟩ := z_gF_inv he
  obtain ⟨qc, hc, hk, hlk⟩ := hL
  have hlt := z_cls_lt hc
  obtain ⟨i1, i2⟩ := z_dom_in hH.1.2.2.2 (a := q) (by rw [hq]; intro e; injection e with e; injection e with e _; omega) (by intro n f e; rw [hq] at e; cases e)
  have hw : (z_ws X.2.2.1 h nx)[q - X.2.2.1.1]? = some (q, .inr (ci, fs.map z_tv)) := by rw [z_ws_get i1 i2, hq]; rfl
  have hv' : (fs.map z_tv)[fk]? = some (z_tv v) := by rw [List.getElem?_map, hv]; rfl
  rcases hlk with hlk | ⟨host, hlk⟩
  · exact va_get K.1 K.2.1 K.2.2.2.2.2.1 (z_in hc) K.2.2.2.2.1 K.2.2.2.2.2.2.2.2.2.2.2.2.1 hH.1.1 _ hw hc fk hk (z_word K hlk rfl) (fun _ e => e) hv' d (kk H locs ls hH hS hl)
  · exact va_getN (host := host) K.1 K.2.1 K.2.2.2.2.2.1 (z_in hc) K.2.2.2.2.1 K.2.2.2.2.2.2.2.2.2.2.2.2.1 hH.1.1 _ hw hc fk hk (z_nword K hlk rfl rfl) (fun _ e => e) hv' d (kk H locs ls hH hS hl)
theorem zv_gI (K : z_Ok X cc ret own nm) {idx ci fk : Nat} {r : Option Nat} {F : Int32 → Option α} (d : z_D cc pc (.getfield idx) 3 pc') (hL : z_FL own idx ci fk) (hf : (z_gI h ci fk r).bind F = some a) (kk : ∀ v, F v = some a → zV X pc' lv (tI v :: rest) h nx k z) : zV X pc lv (tA r :: rest) h nx k z := by
  obtain ⟨v, he, hf⟩ := z_bind_inv hf
  obtain ⟨w, h1, h2⟩ := z_bind_inv he
  rcases w with x | x | x
  · cases h2; exact zv_gF K d hL h1 (kk v hf)
  · cases h2
  · cases h2
theorem zv_gJ (K : z_Ok X cc ret own nm) {idx ci fk : Nat} {r : Option Nat} {F : Int64 → Option α} (d : z_D cc pc (.getfield idx) 3 pc') (hL : z_FL own idx ci fk) (hf : (z_gJ h ci fk r).bind F = some a) (kk : ∀ v, F v = some a → zV X pc' lv (tJ v :: rest) h nx k z) : zV X pc lv (tA r :: rest) h nx k z := by
  obtain ⟨v, he, hf⟩ := z_bind_inv hf
  obtain ⟨w, h1, h2⟩ := z_bind_inv he
  rcases w with x | x | x
  · cases h2
  · cases h2; exact zv_gF K d hL h1 (kk v hf)
  · cases h2
theorem zv_gA (K : z_Ok X cc ret own nm) {idx ci fk : Nat} {r : Option Nat} {F : Option Nat → Option α} (d : z_D cc pc (.getfield idx) 3 pc') (hL : z_FL own idx ci fk) (hf : (z_gA h ci fk r).bind F = some a) (kk : ∀ v, F v = some a → zV X pc' lv (tA v :: rest) h nx k z) : zV X pc lv (tA r :: rest) h nx k z := by
  obtain ⟨v, he, hf⟩ := z_bind_inv hf
  obtain ⟨w, h1, h2⟩ := z_bind_inv he
  rcases w with x | x | x
  · cases h2
  · cases h2
  · cases h2; exact zv_gF K d hL h1 (kk v hf)
theorem z_pF_inv {ci fk : Nat} {r : Option Nat} {v : zTV} {h1 : zH} (he : z_pF h ci fk r v = some h1) : ∃ (q : Nat) (fs : List zTV), r = some q ∧ h q = .inr (ci, fs) ∧ fk < fs.length ∧ h1 = z_up h q (.inr (ci, fs.set fk v)) := by
  cases r with
  | none => cases he
  | some q =>
    simp only [z_pF, Option.bind_some] at he
    split at he
    · rename_i c fs hq
      split at he
      · rename_i hc; obtain ⟨rfl, h2⟩ := hc; cases he; exact ⟨q, fs, rfl, hq, h2, rfl⟩
      · cases he
    · cases he
theorem z_Hp_up {G : zG} {H1 : Heap} {q : Nat} {c : zMC} (hd : z_dom G h nx) (hn : G.1 ≤ nx) (hbt : G.2.1 < G.1 ∧ G.2.2.1 < G.1) (i1 : G.1 ≤ q) (i2 : q < nx) (hP : va_P G.2.2.2.2.2.1 vwCl ((z_ws G h nx).set (q - G.1) (q, z_E G.2.2.2.2.2.2 c)) H1) (hz : nx ≤ H1.size) (hc : z_nk c) : z_Hp G (z_up h q c) nx H1 := by
  rw [z_ws_set i1 i2] at hP
  exact ⟨hP, hz, hn, z_dom_up hd hbt i1 i2 c hc⟩
theorem z_S_tr {A : Nat → Prop} {H0 H H1 : Heap} {locs locs1 : List Loc} (h1 : va_S A H0 H locs) (h2 : va_S A H H1 locs1) : va_S A H0 H1 locs1 :=
  ⟨Nat.le_trans h1.1 h2.1, fun q g1 g2 => (h2.2.1 q (Nat.lt_of_lt_of_le g1 h1.1) g2).trans (h1.2.1 q g1 g2), h2.2.2⟩
theorem z_S_rf {A : Nat → Prop} {H0 H : Heap} {locs : List Loc} (h1 : va_S A H0 H locs) : va_S A H H locs := ⟨Nat.le_refl _, fun _ _ _ => rfl, h1.2.2⟩
/-- what a kit's write leaves: the rest of the walk -/
theorem z_wr {q : Nat} {c : zMC} {H : Heap} {locs : List Loc} {ls : Array Slot} (K : z_Ok X cc ret own nm) (hH : z_Hs X h nx k H) (hS : va_S (z_A X.2.2.1) X.1.2.2.2.1.heap H locs) (hl : lv_has ls X.2.2.2.1 (lv.map z_lm)) (i1 : X.2.2.1.1 ≤ q) (i2 : q < nx) (hc : z_nk c) (kk : zV X pc' lv rest (z_up h q c) nx k z) (H1 : Heap) (locs1 : List Loc)
    (hP : va_P X.2.2.1.2.2.2.2.2.1 vwCl ((z_ws X.2.2.1 h nx).set (q - X.2.2.1.1) (q, z_E X.2.2.1.2.2.2.2.2.2 c)) H1) (hS1 : va_S (z_A X.2.2.1) H H1 locs1) :
    W X.1.1 X.1.2.1 X.1.2.2.1 X.2.1 X.1.2.2.2.1 X.1.2.2.2.2.1 X.1.2.2.2.2.2.1 X.1.2.2.2.2.2.2.1 X.1.2.2.2.2.2.2.2.1 X.1.2.2.2.2.2.2.2.2 H1 locs1 k z X.2.2.2.2 (F0 X.1.2.2.2.2.1 pc' ls (rest.map z_tv)) :=
  kk H1 locs1 ls ⟨z_Hp_up hH.1.2.2.2 hH.1.2.2.1 K.2.2.2.2.2.2.2.2.1.2 i1 i2 hP (Nat.le_trans hH.1.2.1 hS1.1) hc, hH.2⟩ (z_S_tr hS hS1) hl
theorem zv_pF (K : z_Ok X cc ret own nm) {idx ci fk : Nat} {r : Option Nat} {v : zTV} {h1 : zH} (d : z_D cc pc (.putfield idx) 3 pc') (hL : z_FL own idx ci fk) (hfin : ∀ q, vwCl[ci]? = some q → (q.2.1 fk).2.2.2 = false) (hn : narrow (z_ft ci fk) (z_tv v) = z_tv v) (hfit : fits (z_ft ci fk) (z_tv v) = true) (he : z_pF h ci fk r v = some h1) (kk : zV X pc' lv rest h1 nx k z) : zV X pc lv (v :: tA r :: rest) h nx k z := by
  intro H locs ls hH hS hl; obtain ⟨d, rfl⟩ := d
  obtain ⟨q, fs, rfl, hq, hfk, rfl⟩ := z_pF_inv he
  obtain ⟨qc, hc, hk, hlk⟩ := hL
  have hlt := z_cls_lt hc
  obtain ⟨i1, i2⟩ := z_dom_in hH.1.2.2.2 (a := q) (by rw [hq]; intro e; injection e with e; injection e with e _; omega) (by intro n f e; rw [hq] at e; cases e)
  have hw : (z_ws X.2.2.1 h nx)[q - X.2.2.1.1]? = some (q, .inr (ci, fs.map z_tv)) := by rw [z_ws_get i1 i2, hq]; rfl
  have hset : (fs.map z_tv).set fk (z_tv v) = (fs.set fk v).map z_tv := (List.map_set).symm
  have go := z_wr (c := .inr (ci, fs.set fk v)) K hH hS hl i1 i2 (fun n f e => by cases e) kk
  rcases hlk with hlk | ⟨host, hlk⟩
  · refine va_put K.1 K.2.1 K.2.2.2.2.2.1 (z_in hc) (z_ft ci) (z_ft_ok hc).1 (z_ft_ok hc).2 K.2.2.2.2.1 K.2.2.2.2.2.2.2.2.2.2.2.2.1 hH.1.1 z_ws_D (z_S_rf hS) _ hw hc fk hk (z_word K hlk rfl) (fun _ e => e) (hfin _ hc) ((z_ft_ok hc).1 fk hk) hn hfit (by rw [List.length_map]; exact hfk) d (fun H1 locs1 hP _ hS1 => ?_)
    rw [hset] at hP
    exact go H1 locs1 hP hS1
  · refine va_putN (host := host) K.1 K.2.1 K.2.2.2.2.2.1 (z_in hc) (z_ft ci) (z_ft_ok hc).1 (z_ft_ok hc).2 K.2.2.2.2.1 K.2.2.2.2.2.2.2.2.2.2.2.2.1 hH.1.1 z_ws_D (z_S_rf hS) _ hw hc fk hk (z_nword K hlk rfl rfl) (fun _ e => e) (hfin _ hc) ((z_ft_ok hc).1 fk hk) hn hfit (by rw [List.length_map]; exact hfk) d (fun H1 locs1 hP _ hS1 => ?_)
    rw [hset] at hP
    exact go H1 locs1 hP hS1
/-- a final field, in its own class's constructor -/
theorem zv_pX (K : z_Ok X cc ret own "<init>") {idx ci fk : Nat} {r : Option Nat} {v : zTV} {h1 : zH} (d : z_D cc pc (.putfield idx) 3 pc') (hL : ∃ q : vw_C, vwCl[ci]? = some q ∧ fk < q.2.2 ∧ (q.2.1 fk).2.2.2 = true ∧ (q.2.1 fk).1 = own ∧ Cond.fieldLink own idx (q.2.1 fk).1 (q.2.1 fk).2.1 (q.2.1 fk).2.2.1 ∈ lw_tbl) (hn : narrow (z_ft ci fk) (z_tv v) = z_tv v) (hfit : fits (z_ft ci fk) (z_tv v) = true) (he : z_pF h ci fk r v = some h1) (kk : zV X pc' lv rest h1 nx k z) : zV X pc lv (v :: tA r :: rest) h nx k z := by
  intro H locs ls hH hS hl; obtain ⟨d, rfl⟩ := d
  obtain ⟨q, fs, rfl, hq, hfk, rfl⟩ := z_pF_inv he
  obtain ⟨qc, hc, hk, hfin, hdecl, hlk⟩ := hL
  have hlt := z_cls_lt hc
  obtain ⟨i1, i2⟩ := z_dom_in hH.1.2.2.2 (a := q) (by rw [hq]; intro e; injection e with e; injection e with e _; omega) (by intro n f e; rw [hq] at e; cases e)
  have hw : (z_ws X.2.2.1 h nx)[q - X.2.2.1.1]? = some (q, .inr (ci, fs.map z_tv)) := by rw [z_ws_get i1 i2, hq]; rfl
  have hset : (fs.map z_tv).set fk (z_tv v) = (fs.set fk v).map z_tv := (List.map_set).symm
  have go := z_wr (c := .inr (ci, fs.set fk v)) K hH hS hl i1 i2 (fun n f e => by cases e) kk
  refine va_putF K.1 K.2.1 K.2.2.2.2.2.1 (z_in hc) (z_ft ci) (z_ft_ok hc).1 (z_ft_ok hc).2 K.2.2.2.2.1 K.2.2.2.2.2.2.2.2.2.2.2.2.1 hH.1.1 z_ws_D (z_S_rf hS) _ hw hc fk hk (z_word K hlk rfl) (fun _ e => e) hfin K.2.2.2.2.2.2.2.1 hdecl ((z_ft_ok hc).1 fk hk) hn hfit (by rw [List.length_map]; exact hfk) d (fun H1 locs1 hP _ hS1 => ?_)
  rw [hset] at hP
  exact go H1 locs1 hP hS1
theorem zv_pI (K : z_Ok X cc ret own nm) {idx ci fk : Nat} {r : Option Nat} {x : Int32} {F : zH → Option α} (d : z_D cc pc (.putfield idx) 3 pc') (hL : z_FL own idx ci fk) (hfin : ∀ q, vwCl[ci]? = some q → (q.2.1 fk).2.2.2 = false) (hty : z_ft ci fk = .int) (hf : (z_pF h ci fk r (tI x)).bind F = some a) (kk : ∀ h1, F h1 = some a → zV X pc' lv rest h1 nx k z) : zV X pc lv (tI x :: tA r :: rest) h nx k z := by
  obtain ⟨v, he, hf⟩ := z_bind_inv hf
  exact zv_pF K d hL hfin (by rw [hty]; rfl) (by rw [hty]; rfl) he (kk v hf)
theorem zv_pJ (K : z_Ok X cc ret own nm) {idx ci fk : Nat} {r : Option Nat} {x : Int64} {F : zH → Option α} (d : z_D cc pc (.putfield idx) 3 pc') (hL : z_FL own idx ci fk) (hfin : ∀ q, vwCl[ci]? = some q → (q.2.1 fk).2.2.2 = false) (hty : z_ft ci fk = .long) (hf : (z_pF h ci fk r (tJ x)).bind F = some a) (kk : ∀ h1, F h1 = some a → zV X pc' lv rest h1 nx k z) : zV X pc lv (tJ x :: tA r :: rest) h nx k z := by
  obtain ⟨v, he, hf⟩ := z_bind_inv hf
  exact zv_pF K d hL hfin (by rw [hty]; rfl) (by rw [hty]; rfl) he (kk v hf)
theorem z_rf_fits (ty : FieldType) (x : Option Nat) (hty : (∃ C, ty = .object C) ∨ ∃ t, ty = .array t) : narrow ty (z_tv (tA x)) = z_tv (tA x) ∧ fits ty (z_tv (tA x)) = true := by
  rcases hty with ⟨C, rfl⟩ | ⟨t, rfl⟩ <;> cases x <;> exact ⟨rfl, rfl⟩
theorem zv_pA (K : z_Ok X cc ret own nm) {idx ci fk : Nat} {r : Option Nat} {x : Option Nat} {F : zH → Option α} (d : z_D cc pc (.putfield idx) 3 pc') (hL : z_FL own idx ci fk) (hfin : ∀ q, vwCl[ci]? = some q → (q.2.1 fk).2.2.2 = false) (hty : (∃ C, z_ft ci fk = .object C) ∨ ∃ t, z_ft ci fk = .array t) (hf : (z_pF h ci fk r (tA x)).bind F = some a) (kk : ∀ h1, F h1 = some a → zV X pc' lv rest h1 nx k z) : zV X pc lv (tA x :: tA r :: rest) h nx k z := by
  obtain ⟨v, he, hf⟩ := z_bind_inv hf
  exact zv_pF K d hL hfin (z_rf_fits _ x hty).1 (z_rf_fits _ x hty).2 he (kk v hf)
theorem zv_pXA (K : z_Ok X cc ret own "<init>") {idx ci fk : Nat} {r : Option Nat} {x : Option Nat} {F : zH → Option α} (d : z_D cc pc (.putfield idx) 3 pc') (hL : ∃ q : vw_C, vwCl[ci]? = some q ∧ fk < q.2.2 ∧ (q.2.1 fk).2.2.2 = true ∧ (q.2.1 fk).1 = own ∧ Cond.fieldLink own idx (q.2.1 fk).1 (q.2.1 fk).2.1 (q.2.1 fk).2.2.1 ∈ lw_tbl) (hty : (∃ C, z_ft ci fk = .object C) ∨ ∃ t, z_ft ci fk = .array t) (hf : (z_pF h ci fk r (tA x)).bind F = some a) (kk : ∀ h1, F h1 = some a → zV X pc' lv rest h1 nx k z) : zV X pc lv (tA x :: tA r :: rest) h nx k z := by
  obtain ⟨v, he, hf⟩ := z_bind_inv hf
  exact zv_pX K d hL (z_rf_fits _ x hty).1 (z_rf_fits _ x hty).2 he (kk v hf)
theorem zv_pZ (K : z_Ok X cc ret own nm) {idx ci fk : Nat} {r : Option Nat} {x : Int32} {F : zH → Option α} (d : z_D cc pc (.putfield idx) 3 pc') (hL : z_FL own idx ci fk) (hfin : ∀ q, vwCl[ci]? = some q → (q.2.1 fk).2.2.2 = false) (hty : z_ft ci fk = .boolean) (hf : (z_pZ h ci fk r x).bind F = some a) (kk : ∀ h1, F h1 = some a → zV X pc' lv rest h1 nx k z) : zV X pc lv (tI x :: tA r :: rest) h nx k z := by
  obtain ⟨v, he, hf2⟩ := z_bind_inv hf
  unfold z_pZ at he
  split at he
  · rename_i hx
    rcases hx with rfl | rfl
    · exact zv_pF K d hL hfin (by rw [hty]; rfl) (by rw [hty]; rfl) he (kk v hf2)
    · exact zv_pF K d hL hfin (by rw [hty]; rfl) (by rw [hty]; rfl) he (kk v hf2)
  · cases he
end ZW
