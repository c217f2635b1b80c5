/-! THE SMALL HEAP: typed values, cells, and what reads and writes of them answer -/
abbrev zTV : Type := Int32 ⊕ (Int64 ⊕ Option Nat)
abbrev tI (x : Int32) : zTV := Sum.inl x
abbrev tJ (x : Int64) : zTV := Sum.inr (Sum.inl x)
abbrev tA (x : Option Nat) : zTV := Sum.inr (Sum.inr x)
def z_tv : zTV → Value
  | .inl x => .int x
  | .inr (.inl x) => .long x
  | .inr (.inr r) => va_rf r
def z_cat : zTV → Nat
  | .inr (.inl _) => 2
  | _ => 1
theorem z_tv_cat (v : zTV) : (z_tv v).category = z_cat v := by
  rcases v with x | x | x
  · rfl
  · rfl
  · cases x <;> rfl
abbrev zMC : Type := (Nat × Nat × ((Nat → Int32) ⊕ ((Nat → Int64) ⊕ (Nat → Option Nat)))) ⊕ (Nat × List zTV)
abbrev zH : Type := Nat → zMC
def z_up (h : zH) (a : Nat) (c : zMC) : zH := fun q => if q = a then c else h q
theorem z_up_s (h : zH) (a : Nat) (c : zMC) : z_up h a c a = c := if_pos rfl
theorem z_up_n (h : zH) {a q : Nat} (c : zMC) (hq : q ≠ a) : z_up h a c q = h q := if_neg hq
def z_gF (h : zH) (ci k : Nat) (r : Option Nat) : Option zTV :=
  r.bind fun a => match h a with
    | .inr (c, fs) => if c = ci then fs[k]? else none
    | .inl _ => none
def z_tvI (v : zTV) : Option Int32 := match v with
  | .inl x => some x
  | .inr _ => none
def z_tvJ (v : zTV) : Option Int64 := match v with
  | .inr (.inl x) => some x
  | _ => none
def z_tvA (v : zTV) : Option (Option Nat) := match v with
  | .inr (.inr x) => some x
  | _ => none
def z_gI (h : zH) (ci k : Nat) (r : Option Nat) : Option Int32 := (z_gF h ci k r).bind z_tvI
def z_gJ (h : zH) (ci k : Nat) (r : Option Nat) : Option Int64 := (z_gF h ci k r).bind z_tvJ
def z_gA (h : zH) (ci k : Nat) (r : Option Nat) : Option (Option Nat) := (z_gF h ci k r).bind z_tvA
def z_pF (h : zH) (ci k : Nat) (r : Option Nat) (v : zTV) : Option zH :=
  r.bind fun a => match h a with
    | .inr (c, fs) => if c = ci ∧ k < fs.length then some (z_up h a (.inr (c, fs.set k v))) else none
    | .inl _ => none
def z_pZ (h : zH) (ci k : Nat) (r : Option Nat) (x : Int32) : Option zH := if x = 0 ∨ x = 1 then z_pF h ci k r (tI x) else none
def z_ck (h : zH) (ci : Nat) (r : Option Nat) : Option Nat :=
  r.bind fun a => match h a with
    | .inr (c, _) => if c = ci then some a else none
    | .inl _ => none
def z_inb (i : Int32) (n : Nat) : Prop := ¬ (i < 0 ∨ n ≤ i.toNatClampNeg)
def z_aI (h : zH) (r : Option Nat) (i : Int32) : Option Int32 :=
  r.bind fun a => match h a with
    | .inl (kd, n, .inl f) => if (kd = 0 ∨ kd = 100) ∧ ¬ (i < 0 ∨ n ≤ i.toNatClampNeg) then some (f i.toNatClampNeg) else none
    | _ => none
def z_aB (h : zH) (r : Option Nat) (i : Int32) : Option Int32 :=
  r.bind fun a => match h a with
    | .inl (kd, n, .inl f) => if (kd = 1 ∨ kd = 2) ∧ ¬ (i < 0 ∨ n ≤ i.toNatClampNeg) then some (f i.toNatClampNeg) else none
    | _ => none
def z_aJ (h : zH) (r : Option Nat) (i : Int32) : Option Int64 :=
  r.bind fun a => match h a with
    | .inl (kd, n, .inr (.inl f)) => if kd = 3 ∧ ¬ (i < 0 ∨ n ≤ i.toNatClampNeg) then some (f i.toNatClampNeg) else none
    | _ => none
def z_aA (h : zH) (r : Option Nat) (i : Int32) : Option (Option Nat) :=
  r.bind fun a => match h a with
    | .inl (kd, n, .inr (.inr f)) => if (4 ≤ kd ∧ kd ≤ 8) ∧ ¬ (i < 0 ∨ n ≤ i.toNatClampNeg) then some (f i.toNatClampNeg) else none
    | _ => none
def z_len (h : zH) (r : Option Nat) : Option Int32 :=
  r.bind fun a => match h a with
    | .inl (kd, n, .inl _) => if kd ≤ 8 ∨ kd = 100 then some (Int32.ofNat n) else none
    | .inl (kd, n, .inr _) => if kd ≤ 8 then some (Int32.ofNat n) else none
    | .inr _ => none
def z_sI (h : zH) (r : Option Nat) (i x : Int32) : Option zH :=
  r.bind fun a => match h a with
    | .inl (kd, n, .inl f) => if kd = 0 ∧ ¬ (i < 0 ∨ n ≤ i.toNatClampNeg) then some (z_up h a (.inl (kd, n, .inl (upd f i.toNatClampNeg x)))) else none
    | _ => none
def z_sB (h : zH) (r : Option Nat) (i x : Int32) : Option zH :=
  r.bind fun a => match h a with
    | .inl (kd, n, .inl f) => if (kd = 1 ∨ kd = 2) ∧ ¬ (i < 0 ∨ n ≤ i.toNatClampNeg) then some (z_up h a (.inl (kd, n, .inl (upd f i.toNatClampNeg (if kd = 1 then vp_nar .byte x else vp_nar .boolean x))))) else none
    | _ => none
def z_sJ (h : zH) (r : Option Nat) (i : Int32) (x : Int64) : Option zH :=
  r.bind fun a => match h a with
    | .inl (kd, n, .inr (.inl f)) => if kd = 3 ∧ ¬ (i < 0 ∨ n ≤ i.toNatClampNeg) then some (z_up h a (.inl (kd, n, .inr (.inl (vp_updL f i.toNatClampNeg x))))) else none
    | _ => none
/-- the class of the elements of an array of references of that kind -/
def z_kc (kd : Nat) : Nat := match kd with
  | 4 => 0
  | 5 => 8
  | 6 => 6
  | 7 => 7
  | _ => 2
def z_sA (h : zH) (r : Option Nat) (i : Int32) (v : Option Nat) : Option zH :=
  r.bind fun a => v.bind fun q => match h a, h q with
    | .inl (kd, n, .inr (.inr f)), .inr (c, _) => if ((4 ≤ kd ∧ kd ≤ 8) ∧ c = z_kc kd) ∧ ¬ (i < 0 ∨ n ≤ i.toNatClampNeg) then some (z_up h a (.inl (kd, n, .inr (.inr (va_up f i.toNatClampNeg (some q)))))) else none
    | _, _ => none
def z_cp (h : zH) (r : Option Nat) (sp : Int32) (w : Option Nat) (dp n : Int32) : Option zH :=
  r.bind fun a => w.bind fun b => match h a, h b with
    | .inl (ka, na, .inl f), .inl (kb, nb, .inl g) => if (ka = 0 ∧ kb = 0) ∧ (¬ sp < 0 ∧ ¬ dp < 0 ∧ ¬ n < 0) ∧ sp.toNatClampNeg + n.toNatClampNeg ≤ na ∧ dp.toNatClampNeg + n.toNatClampNeg ≤ nb then some (z_up h b (.inl (kb, nb, .inl (va_cpy f g sp.toNatClampNeg dp.toNatClampNeg n.toNatClampNeg)))) else none
    | .inl (ka, na, .inr (.inl f)), .inl (kb, nb, .inr (.inl g)) => if (ka = 3 ∧ kb = 3) ∧ (¬ sp < 0 ∧ ¬ dp < 0 ∧ ¬ n < 0) ∧ sp.toNatClampNeg + n.toNatClampNeg ≤ na ∧ dp.toNatClampNeg + n.toNatClampNeg ≤ nb then some (z_up h b (.inl (kb, nb, .inr (.inl (va_cpy f g sp.toNatClampNeg dp.toNatClampNeg n.toNatClampNeg))))) else none
    | _, _ => none
/-- an answer that is two things -/
def z_b2 {α β γ : Type} (x : Option (α × β)) (k : α → β → Option γ) : Option γ := x.bind fun p => k p.1 p.2
theorem z_b2_some {α β γ : Type} (a : α) (b : β) (k : α → β → Option γ) : z_b2 (some (a, b)) k = k a b := rfl
theorem z_b2_inv {α β γ : Type} {x : Option (α × β)} {k : α → β → Option γ} {c : γ} (h : z_b2 x k = some c) : ∃ a b, x = some (a, b) ∧ k a b = some c := by
  cases x with
  | none => cases h
  | some p => exact ⟨p.1, p.2, rfl, h⟩
theorem z_bind_inv {α γ : Type} {x : Option α} {k : α → Option γ} {c : γ} (h : x.bind k = some c) : ∃ a, x = some a ∧ k a = some c := by
  cases x with
  | none => cases h
  | some p => exact ⟨p, rfl, h⟩
/-! LOOPS -/
def z_itF {σ α : Type} (body : σ → Option (σ ⊕ α)) : Nat → σ → Option α
  | 0, _ => none
  | n + 1, s => match body s with
    | none => none
    | some (.inl s') => z_itF body n s'
    | some (.inr a) => some a
theorem z_itF_mono {σ α : Type} {body : σ → Option (σ ⊕ α)} : ∀ (n m : Nat) (s : σ) (a : α), z_itF body n s = some a → n ≤ m → z_itF body m s = some a
  | 0, _, _, _, h, _ => by cases h
  | n + 1, 0, _, _, _, hm => absurd hm (by omega)
  | n + 1, m + 1, s, a, h, hm => by
    unfold z_itF at h ⊢
    cases hb : body s with
    | none => rw [hb] at h; cases h
    | some x =>
      rw [hb] at h
      cases x with
      | inl s' => exact z_itF_mono n m s' a h (by omega)
      | inr b => exact h

noncomputable def z_it {σ α : Type} (body : σ → Option (σ ⊕ α)) (s : σ) : Option α := @dite (Option α) (∃ a, ∃ n, z_itF body n s = some a) (Classical.propDecidable _) (fun h => some (Classical.choose h)) (fun _ => none)
theorem z_it_of {σ α : Type} {body : σ → Option (σ ⊕ α)} {s : σ} {a : α} {n : Nat} (h : z_itF body n s = some a) : z_it body s = some a := by
  have hx : ∃ a, ∃ n, z_itF body n s = some a := ⟨a, n, h⟩
  obtain ⟨m, hm⟩ := Classical.choose_spec hx
  have h1 := z_itF_mono n (max n m) s a h (by omega)
  have h2 := z_itF_mono m (max n m) s _ hm (by omega)
  rw [z_it, dif_pos hx]
  exact h2.symm.trans h1
theorem z_it_to {σ α : Type} {body : σ → Option (σ ⊕ α)} {s : σ} {a : α} (h : z_it body s = some a) : ∃ n, z_itF body n s = some a := by
  unfold z_it at h
  split at h
  · rename_i hx
    cases h
    exact Classical.choose_spec hx
  · cases h
/-- a loop, unrolled once -/
theorem z_it_eq {σ α : Type} (body : σ → Option (σ ⊕ α)) (s : σ) : z_it body s = match body s with
    | none => none
    | some (.inl s') => z_it body s'
    | some (.inr a) => some a := by
  cases hb : body s with
  | none =>
    cases hi : z_it body s with
    | none => rfl
    | some a =>
      obtain ⟨n, hn⟩ := z_it_to hi
      cases n with
      | zero => cases hn
      | succ n => unfold z_itF at hn; rw [hb] at hn; cases hn
  | some x =>
    cases x with
    | inl s' =>
      show z_it body s = z_it body s'
      cases hi : z_it body s' with
      | some a =>
        obtain ⟨n, hn⟩ := z_it_to hi
        exact z_it_of (n := n + 1) (by unfold z_itF; rw [hb]; exact hn)
      | none =>
        cases hj : z_it body s with
        | none => rfl
        | some a =>
          obtain ⟨n, hn⟩ := z_it_to hj
          cases n with
          | zero => cases hn
          | succ n =>
            unfold z_itF at hn
            rw [hb] at hn
            have := z_it_of (body := body) (s := s') hn
            rw [hi] at this
            cases this
    | inr a => exact z_it_of (n := 1) (by unfold z_itF; rw [hb])
/-- what holds of a loop's states: from behind -/
theorem z_it_ind {σ α : Type} {body : σ → Option (σ ⊕ α)} {a : α} (P : σ → Prop) (step : ∀ (s : σ) (x : σ ⊕ α), body s = some x → (match x with
    | .inl s' => P s'
    | .inr b => b = a) → P s) {s : σ} (h : z_it body s = some a) : P s := by
  obtain ⟨n, hn⟩ := z_it_to h
  clear h
  induction n generalizing s with
  | zero => cases hn
  | succ n ih =>
    unfold z_itF at hn
    cases hb : body s with
    | none => rw [hb] at hn; cases hn
    | some x =>
      rw [hb] at hn
      refine step s x hb ?_
      cases x with
      | inl s' => exact ih hn
      | inr b => exact Option.some.inj hn
