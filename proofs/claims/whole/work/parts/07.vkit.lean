/-! what the printed walks take -/
def z_Xo (X : zX) (rm : Room) (L : Nat) : Prop := X.2.1 = rm ∧ X.2.2.2.1 = L
theorem z_lt {n m i : Nat} (h : n = m) (hi : i < m) : i < n := h ▸ hi
theorem z_le {n m i : Nat} (h : n = m) (hi : i ≤ m) : i ≤ n := h ▸ hi
theorem z_fr {X : zX} {rm : Room} {L : Nat} (h : z_Xo X rm L) : X.2.1.frames = rm.frames := by rw [h.1]
theorem z_lo {X : zX} {rm : Room} {L : Nat} (h : z_Xo X rm L) : X.2.1.locals = rm.locals := by rw [h.1]
def z_P0I (X : zX) (nx : Nat) (x : Int32 × zH) : Prop := z_Rt X (some (tI x.1)) x.2 nx 0 0
def z_P0J (X : zX) (nx : Nat) (x : Int64 × zH) : Prop := z_Rt X (some (tJ x.1)) x.2 nx 0 0
def z_P0A (X : zX) (nx : Nat) (x : Option Nat × zH) : Prop := z_Rt X (some (tA x.1)) x.2 nx 0 0
def z_P0V (X : zX) (nx : Nat) (x : zH) : Prop := z_Rt X none x nx 0 0
def z_P0Im (X : zX) (nx0 z0 : Nat) (nz : Nat × Nat) (x : Int32 × zH) : Prop := z_Rt X (some (tI x.1)) x.2 nz.1 (nz.1 - nx0) (nz.2 - z0)
def z_P0Am (X : zX) (nx0 z0 : Nat) (nz : Nat × Nat) (x : Option Nat × zH) : Prop := z_Rt X (some (tA x.1)) x.2 nz.1 (nz.1 - nx0) (nz.2 - z0)
def z_P0Vm (X : zX) (nx0 z0 : Nat) (nz : Nat × Nat) (x : zH) : Prop := z_Rt X none x nz.1 (nz.1 - nx0) (nz.2 - z0)
def z_PL {σ α : Type} (P : σ → Prop) (Q : α → Prop) : σ ⊕ α → Prop
  | .inl s => P s
  | .inr a => Q a
theorem z_PL_of {σ α : Type} {P : σ → Prop} {Q : α → Prop} {x : α} {y : σ ⊕ α} (hy : match y with
    | .inl s' => P s'
    | .inr b => b = x) (hp : Q x) : z_PL P Q y := by
  cases y with
  | inl s => exact hy
  | inr b =>
    have hy : b = x := hy
    subst hy
    exact hp
def z_i1 {σ α : Type} (x : Option α) : Option (σ ⊕ α) := x.map Sum.inr
theorem z_i1_inv {σ α : Type} {x : Option α} {y : σ ⊕ α} (h : z_i1 x = some y) : ∃ a, x = some a ∧ y = Sum.inr a := by
  cases x with
  | none => cases h
  | some a => cases h; exact ⟨a, rfl, rfl⟩
theorem z_i1_some {σ α : Type} (a : α) : (z_i1 (some a) : Option (σ ⊕ α)) = some (Sum.inr a) := rfl
def z_i1m {σ α : Type} (x : Option ((Nat × Nat) × α)) : Option ((Nat × Nat) × (σ ⊕ α)) := x.map fun p => (p.1, Sum.inr p.2)
theorem z_i1m_inv {σ α : Type} {x : Option ((Nat × Nat) × α)} {y : (Nat × Nat) × (σ ⊕ α)} (h : z_i1m x = some y) : ∃ a, x = some a ∧ y = (a.1, Sum.inr a.2) := by
  cases x with
  | none => cases h
  | some a => cases h; exact ⟨a, rfl, rfl⟩
def z_ds {σ α : Type} (y : (Nat × Nat) × (σ ⊕ α)) : ((Nat × Nat) × σ) ⊕ ((Nat × Nat) × α) := match y.2 with
  | .inl s => .inl (y.1, s)
  | .inr a => .inr (y.1, a)
def z_Pm {α : Type} (X : zX) (nx0 z0 : Nat) (P : Nat × Nat → α → Prop) (x : (Nat × Nat) × α) : Prop := (x.1.1 ≤ nx0 + X.2.1.cells ∧ x.1.2 ≤ z0 + X.2.1.slots) ∧ P x.1 x.2
theorem z_bd {α : Type} {X : zX} {nx0 z0 n1 z1 : Nat} {P : Nat × Nat → α → Prop} {x : (Nat × Nat) × α} (hp : z_Pm X nx0 z0 P x) (hb : n1 ≤ x.1.1 ∧ z1 ≤ x.1.2) : n1 - nx0 ≤ X.2.1.cells ∧ z1 - z0 ≤ X.2.1.slots := by
  obtain ⟨⟨h1, h2⟩, -⟩ := hp
  omega
theorem z_itm {σ α : Type} {body : (Nat × Nat) × σ → Option ((Nat × Nat) × (σ ⊕ α))} {P : σ → Nat × Nat → Prop} {Q : Nat × Nat → α → Prop} {X : zX} {nx0 z0 : Nat}
    (step : ∀ (s : σ) (nz : Nat × Nat) (y : (Nat × Nat) × (σ ⊕ α)), (nx0 ≤ nz.1 ∧ z0 ≤ nz.2) → body (nz, s) = some y → z_Pm X nx0 z0 (fun nz => z_PL (fun s => P s nz) (Q nz)) y → P s nz)
    (mono : ∀ (s : σ) (nz : Nat × Nat) (y : (Nat × Nat) × (σ ⊕ α)), body (nz, s) = some y → nz.1 ≤ y.1.1 ∧ nz.2 ≤ y.1.2)
    {s : σ} {nz : Nat × Nat} {x : (Nat × Nat) × α} (hm : nx0 ≤ nz.1 ∧ z0 ≤ nz.2) (hp : z_Pm X nx0 z0 Q x) (hf : z_it (fun q => (body q).map z_ds) (nz, s) = some x) : P s nz := by
  have key : ∀ q : (Nat × Nat) × σ, z_it (fun q => (body q).map z_ds) q = some x → ((nx0 ≤ q.1.1 ∧ z0 ≤ q.1.2) → P q.2 q.1) ∧ q.1.1 ≤ nx0 + X.2.1.cells ∧ q.1.2 ≤ z0 + X.2.1.slots := by
    intro q hq
    refine z_it_ind (P := fun q : (Nat × Nat) × σ => ((nx0 ≤ q.1.1 ∧ z0 ≤ q.1.2) → P q.2 q.1) ∧ q.1.1 ≤ nx0 + X.2.1.cells ∧ q.1.2 ≤ z0 + X.2.1.slots) (fun q' w hb hw => ?_) hq
    obtain ⟨nz', s'⟩ := q'
    cases hbb : body (nz', s') with
    | none => simp [hbb] at hb
    | some y =>
      rw [hbb] at hb
      have hb : some (z_ds y) = some w := hb
      cases hb
      have hmo := mono s' nz' y hbb
      obtain ⟨ny, y2⟩ := y
      cases y2 with
      | inl t =>
        have hw : ((nx0 ≤ ny.1 ∧ z0 ≤ ny.2) → P t ny) ∧ ny.1 ≤ nx0 + X.2.1.cells ∧ ny.2 ≤ z0 + X.2.1.slots := hw
        refine ⟨fun h0 => step s' nz' _ h0 hbb ⟨hw.2, hw.1 ?_⟩, ?_, ?_⟩
        · have h0' : nx0 ≤ nz'.1 ∧ z0 ≤ nz'.2 := h0
          have hmo' : nz'.1 ≤ ny.1 ∧ nz'.2 ≤ ny.2 := hmo
          omega
        · have hmo' : nz'.1 ≤ ny.1 ∧ nz'.2 ≤ ny.2 := hmo
          show nz'.1 ≤ _
          omega
        · have hmo' : nz'.1 ≤ ny.1 ∧ nz'.2 ≤ ny.2 := hmo
          show nz'.2 ≤ _
          omega
      | inr b =>
        have hw : (ny, b) = x := hw
        subst hw
        have hmo' : nz'.1 ≤ ny.1 ∧ nz'.2 ≤ ny.2 := hmo
        have hp1 : ny.1 ≤ nx0 + X.2.1.cells ∧ ny.2 ≤ z0 + X.2.1.slots := hp.1
        refine ⟨fun h0 => step s' nz' _ h0 hbb ⟨hp.1, hp.2⟩, ?_, ?_⟩
        · show nz'.1 ≤ _
          omega
        · show nz'.2 ≤ _
          omega
  exact (key (nz, s) hf).1 hm
theorem z_itmo {σ α : Type} {body : (Nat × Nat) × σ → Option ((Nat × Nat) × (σ ⊕ α))}
    (mono : ∀ (s : σ) (nz : Nat × Nat) (y : (Nat × Nat) × (σ ⊕ α)), body (nz, s) = some y → nz.1 ≤ y.1.1 ∧ nz.2 ≤ y.1.2)
    {s : σ} {nz : Nat × Nat} {x : (Nat × Nat) × α} (hf : z_it (fun q => (body q).map z_ds) (nz, s) = some x) : nz.1 ≤ x.1.1 ∧ nz.2 ≤ x.1.2 := by
  refine z_it_ind (P := fun q : (Nat × Nat) × σ => q.1.1 ≤ x.1.1 ∧ q.1.2 ≤ x.1.2) (fun q' w hb hw => ?_) hf
  obtain ⟨nz', s'⟩ := q'
  cases hbb : body (nz', s') with
  | none => simp [hbb] at hb
  | some y =>
    rw [hbb] at hb
    have hb : some (z_ds y) = some w := hb
    cases hb
    have hmo := mono s' nz' y hbb
    obtain ⟨ny, y2⟩ := y
    have hmo' : nz'.1 ≤ ny.1 ∧ nz'.2 ≤ ny.2 := hmo
    cases y2 with
    | inl t =>
      have hw : ny.1 ≤ x.1.1 ∧ ny.2 ≤ x.1.2 := hw
      show nz'.1 ≤ x.1.1 ∧ nz'.2 ≤ x.1.2
      omega
    | inr b =>
      have hw : (ny, b) = x := hw
      subst hw
      exact hmo'
section ZK
variable {X : zX} {cc : ByteArray} {ret : Option FieldType} {own nm : String} {pc pc' : Nat} {lv : List (Nat × zTV)} {h : zH} {nx k z : Nat}
theorem zv_cS0 (K : z_Ok X cc ret own nm) {idx n maxL : Nat} {y : MethodName} {cc2 : ByteArray} {ret2 : Option FieldType} {rm : Room} {r : Option zTV} {h' : zH} (as : List zTV) (rest : List zTV) {st : List zTV} (d : z_D cc pc (.invokestatic idx) 3 pc') (hL : z_Lk own idx y) (hM : z_Md y cc2 maxL ret2 n) (hst : Cond.static y ∈ lw_tbl) (hn : as.length = n) (hse : st = as.reverse ++ rest) (hrest : (rest.map z_cat).sum ≤ 8)
    (hc : z_Ct X.1.2.1 X.2.2.1 y cc2 maxL ret2 rm as h nx r h' nx 0 0) (hrc : rm.cells = 0) (hrs : rm.slots = 0) (hR : rm.frames + 1 ≤ X.2.1.frames ∧ 8 + (maxL + 11) + rm.locals ≤ X.2.1.locals) (hk : k ≤ X.2.1.cells ∧ z ≤ X.2.1.slots) (kk : zV X pc' lv (r.toList ++ rest) h' nx k z) : zV X pc lv st h nx k z :=
  zv_callS K as rest d hL hM hst hn hse hrest hc hrc hrs hR hk rfl kk
theorem zv_cV0 (K : z_Ok X cc ret own nm) {idx n maxL ci q : Nat} {y : MethodName} {cc2 : ByteArray} {ret2 : Option FieldType} {rm : Room} {r : Option zTV} {h' : zH} {b : Option Nat} {qc : vw_C} (as : List zTV) (rest : List zTV) {st : List zTV} (d : z_D cc pc (.invokevirtual idx) 3 pc') (hL : z_Lk own idx y) (hM : z_Md y cc2 maxL ret2 n) (hi : Cond.instanceMethod y ∈ lw_tbl) (hsl : Cond.selects y.cls y y ∈ lw_tbl) (hcl : vwCl[ci]? = some qc) (hqc : qc.1 = y.cls) (hn : as.length = n) (hse : st = as.reverse ++ tA b :: rest) (hrest : (rest.map z_cat).sum ≤ 8) (hck : z_ck h ci b = some q)
    (hc : z_Ct X.1.2.1 X.2.2.1 y cc2 maxL ret2 rm (tA b :: as) h nx r h' nx 0 0) (hrc : rm.cells = 0) (hrs : rm.slots = 0) (hR : rm.frames + 1 ≤ X.2.1.frames ∧ 8 + (maxL + 11) + rm.locals ≤ X.2.1.locals) (hk : k ≤ X.2.1.cells ∧ z ≤ X.2.1.slots) (kk : zV X pc' lv (r.toList ++ rest) h' nx k z) : zV X pc lv st h nx k z :=
  zv_callV K as rest d hL hM hi (by rw [hqc]; exact hsl) hcl hn hse hrest hck hc hrc hrs hR hk rfl kk
theorem zv_cI0 (K : z_Ok X cc ret own nm) {idx n maxL q : Nat} {y : MethodName} {cc2 : ByteArray} {rm : Room} {r : Option zTV} {h' : zH} {b : Option Nat} (as : List zTV) (rest : List zTV) {st : List zTV} (d : z_D cc pc (.invokespecial idx) 3 pc') (hL : z_Lk own idx y) (hM : z_Md y cc2 maxL none n) (hi : Cond.instanceMethod y ∈ lw_tbl) (hnm : y.name = "<init>") (hn : as.length = n) (hse : st = as.reverse ++ tA b :: rest) (hrest : (rest.map z_cat).sum ≤ 8) (hck : b = some q)
    (hc : z_Ct X.1.2.1 X.2.2.1 y cc2 maxL none rm (tA b :: as) h nx r h' nx 0 0) (hrc : rm.cells = 0) (hrs : rm.slots = 0) (hR : rm.frames + 1 ≤ X.2.1.frames ∧ 8 + (maxL + 11) + rm.locals ≤ X.2.1.locals) (hk : k ≤ X.2.1.cells ∧ z ≤ X.2.1.slots) (kk : zV X pc' lv (r.toList ++ rest) h' nx k z) : zV X pc lv st h nx k z :=
  zv_callI K as rest d hL hM hi hnm hn hse hrest hck hc hrc hrs hR hk rfl kk
theorem zv_cV1 (K : z_Ok X cc ret own nm) {idx n maxL mc ms nx' ci q : Nat} {y : MethodName} {cc2 : ByteArray} {ret2 : Option FieldType} {rm : Room} {r : Option zTV} {h' : zH} {b : Option Nat} {qc : vw_C} (as : List zTV) (rest : List zTV) {st : List zTV} (k' z' : Nat) (d : z_D cc pc (.invokevirtual idx) 3 pc') (hL : z_Lk own idx y) (hM : z_Md y cc2 maxL ret2 n) (hi : Cond.instanceMethod y ∈ lw_tbl) (hsl : Cond.selects y.cls y y ∈ lw_tbl) (hcl : vwCl[ci]? = some qc) (hqc : qc.1 = y.cls) (hn : as.length = n) (hse : st = as.reverse ++ tA b :: rest) (hrest : (rest.map z_cat).sum ≤ 8) (hck : z_ck h ci b = some q)
    (hc : z_Ct X.1.2.1 X.2.2.1 y cc2 maxL ret2 rm (tA b :: as) h nx r h' nx' mc ms) (hrc : rm.cells = mc) (hrs : rm.slots = ms) (hR : rm.frames + 1 ≤ X.2.1.frames ∧ 8 + (maxL + 11) + rm.locals ≤ X.2.1.locals) (hnx : nx + mc = nx') (hk : k + mc = k') (hz : z + ms = z') (hf : k' ≤ X.2.1.cells ∧ z' ≤ X.2.1.slots) (kk : zV X pc' lv (r.toList ++ rest) h' nx' k' z') : zV X pc lv st h nx k z := by
  subst hk; subst hz
  exact zv_callV K as rest d hL hM hi (by rw [hqc]; exact hsl) hcl hn hse hrest hck hc hrc hrs hR hf hnx kk
theorem zv_cI1 (K : z_Ok X cc ret own nm) {idx n maxL mc ms nx' q : Nat} {y : MethodName} {cc2 : ByteArray} {rm : Room} {r : Option zTV} {h' : zH} {b : Option Nat} (as : List zTV) (rest : List zTV) {st : List zTV} (k' z' : Nat) (d : z_D cc pc (.invokespecial idx) 3 pc') (hL : z_Lk own idx y) (hM : z_Md y cc2 maxL none n) (hi : Cond.instanceMethod y ∈ lw_tbl) (hnm : y.name = "<init>") (hn : as.length = n) (hse : st = as.reverse ++ tA b :: rest) (hrest : (rest.map z_cat).sum ≤ 8) (hck : b = some q)
    (hc : z_Ct X.1.2.1 X.2.2.1 y cc2 maxL none rm (tA b :: as) h nx r h' nx' mc ms) (hrc : rm.cells = mc) (hrs : rm.slots = ms) (hR : rm.frames + 1 ≤ X.2.1.frames ∧ 8 + (maxL + 11) + rm.locals ≤ X.2.1.locals) (hnx : nx + mc = nx') (hk : k + mc = k') (hz : z + ms = z') (hf : k' ≤ X.2.1.cells ∧ z' ≤ X.2.1.slots) (kk : zV X pc' lv (r.toList ++ rest) h' nx' k' z') : zV X pc lv st h nx k z := by
  subst hk; subst hz
  exact zv_callI K as rest d hL hM hi hnm hn hse hrest hck hc hrc hrs hR hf hnx kk
end ZK
