/-! THE CLASS's RULES -/
def bitv (y : Int × Int) : Int32 := if y.1 = 119 then iI 1 <<< (iI y.2 &&& iI 31) else if y.1 = 116 then iI 16 <<< (iI y.2 &&& iI 31) else if y.1 = 109 then iI 256 <<< (iI y.2 &&& iI 31) else if y.1 = 104 then iI 4096 else if y.1 = 120 then iI 8192 else iI 16384
def CHs (D : Nat → Prop) (h : zH) {β : Type} (cx : Option Nat → Int32 → β → Prop) : Option Nat → List (Bool × Bool × β) → Prop
  | t, [] => t = none
  | t, i :: l => ∃ (k : Nat) (bit : Int32) (ins nx : Option Nat), t = some k ∧ D k ∧ h k = .inr (1, [tI (tb (i.1 = true)), tI (tb (i.2.1 = true)), tI bit, tA ins, tA nx]) ∧ cx ins bit i.2.2 ∧ CHs D h cx nx l
def CX (D : Nat → Prop) (h : zH) : (d : Nat) → Option Nat → Int32 → ((Int × Int) ⊕ zE d) → Prop
  | 0 => fun ins bit => Sum.elim (fun y => ins = none ∧ bit = bitv y) (fun _ => False)
  | d + 1 => fun ins bit => Sum.elim (fun y => ins = none ∧ bit = bitv y) (fun e => CHs D h (CX D h d) ins e)
def KL (D : Nat → Prop) (h : zH) (k : Nat) (c : zKl) : Prop := ∃ (t : Option Nat) (ka kd : Nat) (fa fd : Nat → Int32), (D k ∧ D ka ∧ D kd) ∧ h k = .inr (2, [tA t, tA (some ka), tA (some kd), tI (iI c.2.length)]) ∧ h ka = .inl (0, 4, .inl fa) ∧ h kd = .inl (0, 4, .inl fd) ∧ (∀ (i : Nat) (y : Int × Int), c.2[i]? = some y → fa i = iI y.1 ∧ fd i = iI y.2) ∧ CHs D h (CX D h 4) t c.1
def RU (D : Nat → Prop) (h : zH) (u : Option Nat) (q : List zKl) : Prop := (u = none ∧ q = []) ∨ ∃ (r rc : Nat) (f : Nat → Option Nat), u = some r ∧ (D r ∧ D rc) ∧ h r = .inr (5, [tA (some rc), tI (iI q.length)]) ∧ h rc = .inl (8, 6, .inr (.inr f)) ∧ ∀ (j : Nat) (c : zKl), q[j]? = some c → ∃ k, f j = some k ∧ KL D h k c
section CHm
variable {D D' : Nat → Prop} {h h' : zH}
theorem CHs_mono (hm : ∀ a, D a → D' a ∧ h' a = h a) {β : Type} {cx cx' : Option Nat → Int32 → β → Prop} (hx : ∀ i b x, cx i b x → cx' i b x) : ∀ (l : List (Bool × Bool × β)) (t : Option Nat), CHs D h cx t l → CHs D' h' cx' t l
  | [], t, hc => hc
  | i :: l, t, hc => by
    obtain ⟨k, bit, ins, nx, h1, h2, h3, h4, h5⟩ := hc
    exact ⟨k, bit, ins, nx, h1, (hm k h2).1, by rw [(hm k h2).2]; exact h3, hx _ _ _ h4, CHs_mono hm hx l nx h5⟩
theorem CX_mono (hm : ∀ a, D a → D' a ∧ h' a = h a) : ∀ (d : Nat) (ins : Option Nat) (bit : Int32) (x : (Int × Int) ⊕ zE d), CX D h d ins bit x → CX D' h' d ins bit x
  | 0, ins, bit, x, hc => by
    match x, hc with
    | .inl y, hc => exact hc
  | d + 1, ins, bit, x, hc => by
    match x, hc with
    | .inl y, hc => exact hc
    | .inr e, hc => exact CHs_mono hm (CX_mono hm d) e ins hc
theorem KL_mono (hm : ∀ a, D a → D' a ∧ h' a = h a) {k : Nat} {c : zKl} (hk : KL D h k c) : KL D' h' k c := by
  obtain ⟨t, ka, kd, fa, fd, ⟨d1, d2, d3⟩, h1, h2, h3, h4, h5⟩ := hk
  exact ⟨t, ka, kd, fa, fd, ⟨(hm _ d1).1, (hm _ d2).1, (hm _ d3).1⟩, by rw [(hm _ d1).2]; exact h1, by rw [(hm _ d2).2]; exact h2, by rw [(hm _ d3).2]; exact h3, h4, CHs_mono hm (CX_mono hm 4) _ _ h5⟩
theorem RU_mono (hm : ∀ a, D a → D' a ∧ h' a = h a) {u : Option Nat} {q : List zKl} (hr : RU D h u q) : RU D' h' u q := by
  rcases hr with hr | ⟨r, rc, f, h1, ⟨d1, d2⟩, h2, h3, h4⟩
  · exact Or.inl hr
  · refine Or.inr ⟨r, rc, f, h1, ⟨(hm _ d1).1, (hm _ d2).1⟩, by rw [(hm _ d1).2]; exact h2, by rw [(hm _ d2).2]; exact h3, fun j c hc => ?_⟩
    obtain ⟨k, k1, k2⟩ := h4 j c hc
    exact ⟨k, k1, KL_mono hm k2⟩
end CHm
section CH
variable {D : Nat → Prop} {h : zH} {bits : Int32} {s : Int → Int → Prop} {rec : Option Nat → Int32 → Int32 → zH → Option (Int32 × zH)}
theorem xr_f (P : Prop) : xr P false = P := by unfold xr; simp
theorem xr_t (P : Prop) : xr P true = ¬ P := by unfold xr; simp
theorem C_b75 {c : Nat} {o n : Bool} {bit : Int32} {ins nx : Option Nat} (hc : h c = .inr (1, [tI (tb (o = true)), tI (tb (n = true)), tI bit, tA ins, tA nx])) (x2 : Int32) (P : Prop) : f_X1_holds_b75 rec bits x2 (some c) (tb P) h = some (.inl (bits, x2, tb (xr P n), nx, h)) := by
  have fin : ∀ v : Int32, f_X1_holds_b92 rec bits x2 (some c) v h = some (.inl (bits, x2, v, nx, h)) := by
    intro v
    rw [f_X1_holds_b92, f_X1_holds_b93, z_gA_k hc rfl, Option.bind_some]
  unfold f_X1_holds_b75
  rw [z_gI_k hc rfl, Option.bind_some, fin, fin]
  cases n with
  | false =>
    have e0 : tb (false = true) = iI 0 := tb_f (by simp)
    rw [xr_f, e0]
    by_cases q : P
    · rw [tb_t q, if_neg iI_01]; rfl
    · rw [tb_f q, if_pos rfl]; rfl
  | true =>
    have e0 : tb (true = true) = iI 1 := tb_t rfl
    rw [xr_t, e0]
    by_cases q : P
    · rw [tb_t q, tb_f (fun e => e q), if_pos rfl]; rfl
    · rw [tb_f q, tb_t q, if_neg (fun e => iI_01 e.symm)]; rfl
/-- what the inner call answers -/
def RC (D : Nat → Prop) (h : zH) (bits : Int32) (s : Int → Int → Prop) (rec : Option Nat → Int32 → Int32 → zH → Option (Int32 × zH)) (k : Int) : Nat → Prop
  | 0 => True
  | d + 1 => ∀ (e : List (Bool × Bool × ((Int × Int) ⊕ zE d))) (t : Option Nat), vT (vX d) e → CHs D h (CX D h d) t e → rec t bits (iI (k + 1)) h = some (tb (evL (evX s d) e True), h)
theorem C_b33a (hb : ∀ y, vA y → (bits &&& bitv y = 0) = ¬ s y.1 y.2) {c : Nat} {o n : Bool} {nx : Option Nat} {y : Int × Int} (hy : vA y) (hc : h c = .inr (1, [tI (tb (o = true)), tI (tb (n = true)), tI (bitv y), tA none, tA nx])) (x2 : Int32) : f_X1_holds_b33 rec bits x2 (iI 1) (some c) h = some (.inl (bits, x2, tb (xr (s y.1 y.2) n), nx, h)) := by
  unfold f_X1_holds_b33
  rw [if_neg (show ¬ iI 1 = (0 : Int32) by decide), z_gA_k hc rfl, Option.bind_some, if_pos rfl, z_gI_k hc rfl, Option.bind_some]
  by_cases q : s y.1 y.2
  · rw [if_neg (by rw [hb y hy]; exact fun e => e q)]
    have := C_b75 (rec := rec) (bits := bits) hc x2 (s y.1 y.2)
    rw [tb_t q] at this
    exact this
  · rw [if_pos (by rw [hb y hy]; exact q)]
    have := C_b75 (rec := rec) (bits := bits) hc x2 (s y.1 y.2)
    rw [tb_f q] at this
    exact this
theorem C_b33 (hb : ∀ y, vA y → (bits &&& bitv y = 0) = ¬ s y.1 y.2) : ∀ (d : Nat) {k : Int}, RC D h bits s rec k d → ∀ {c : Nat} {o n : Bool} {bit : Int32} {ins nx : Option Nat} {x : (Int × Int) ⊕ zE d}, vX d x → h c = .inr (1, [tI (tb (o = true)), tI (tb (n = true)), tI bit, tA ins, tA nx]) → CX D h d ins bit x → f_X1_holds_b33 rec bits (iI k) (iI 1) (some c) h = some (.inl (bits, iI k, tb (xr (evX s d x) n), nx, h))
  | 0, k, hR, c, o, n, bit, ins, nx, x, hx, hc, hX => by
    match x, hx, hX with
    | .inl y, hx, hX =>
      obtain ⟨rfl, rfl⟩ := hX
      exact C_b33a hb hx hc _
  | d + 1, k, hR, c, o, n, bit, ins, nx, x, hx, hc, hX => by
    match x, hx, hX with
    | .inl y, hx, hX =>
      obtain ⟨rfl, rfl⟩ := hX
      exact C_b33a hb hx hc _
    | .inr e, hx, hX =>
      have r := hR e ins hx hX
      have hne : ins ≠ none := by
        match e, hx, hX with
        | i :: l, _, hX =>
          obtain ⟨k', _, _, _, h1, _⟩ := hX
          rw [h1]; simp
      unfold f_X1_holds_b33
      rw [if_neg (show ¬ iI 1 = (0 : Int32) by decide), z_gA_k hc rfl, Option.bind_some, if_neg hne, Option.bind_some, iI_lit, iI_add]
      have r' : rec ins bits (iI (k + 1)) h = some (tb (evL (evX s d) e True), h) := r
      rw [r', z_b2_some]
      exact C_b75 hc _ _
theorem C_b12 (hb : ∀ y, vA y → (bits &&& bitv y = 0) = ¬ s y.1 y.2) {d : Nat} {k : Int} (hR : RC D h bits s rec k d) : ∀ (l : List (Bool × Bool × ((Int × Int) ⊕ zE d))) (t : Option Nat) (all : Prop), (∀ j, j ∈ l → vX d j.2.2) → CHs D h (CX D h d) t l → f_X1_holds_b12 rec bits (iI k) (tb all) t h = some (tb (evL (evX s d) l all), h)
  | [], t, all, hv, hc => by
    have hc : t = none := hc
    subst hc
    unfold f_X1_holds_b12
    refine z_it_done ?_
    show f_X1_holds_c12 rec bits (iI k) (tb all) none h = _
    unfold f_X1_holds_c12
    rw [if_pos rfl, if_pos (tb_01 all)]
    rfl
  | (o, n, x) :: l, t, all, hv, hc => by
    obtain ⟨c, bit, ins, nx, rfl, h2, h3, h4, h5⟩ := hc
    have hx := hv _ (List.mem_cons_self ..)
    have b33 := C_b33 hb d hR hx h3 h4
    have ih := fun all' => C_b12 hb hR l nx all' (fun j hj => hv j (List.mem_cons_of_mem _ hj)) h5
    have nxt : ∀ all', f_X1_holds_c12 rec bits (iI k) (tb all) (some c) h = some (.inl (bits, iI k, tb all', nx, h)) → f_X1_holds_b12 rec bits (iI k) (tb all) (some c) h = some (tb (evL (evX s d) l all'), h) := by
      intro all' q
      rw [← ih all']
      unfold f_X1_holds_b12
      exact z_it_next q
    have pre : (z_gI h 1 0 (some c)) = some (tb (o = true)) := z_gI_k h3 rfl
    have hne : ¬ (some c : Option Nat) = none := by simp
    cases o with
    | false =>
      have e0 : tb (false = true) = (0 : Int32) := tb_f (by simp)
      by_cases q : all
      · have e : evL (evX s d) ((false, n, x) :: l) all = evL (evX s d) l (xr (evX s d x) n) := by
          simp only [evL, Bool.false_eq_true, if_false]
          exact evL_cg _ _ ⟨fun z => z.2, fun z => ⟨q, z⟩⟩
        rw [e]
        refine nxt _ ?_
        unfold f_X1_holds_c12
        rw [if_neg hne, pre, Option.bind_some, e0, if_pos rfl, tb_t q]
        exact b33
      · have e : evL (evX s d) ((false, n, x) :: l) all = evL (evX s d) l all := by
          simp only [evL, Bool.false_eq_true, if_false]
          exact evL_cg _ _ ⟨fun z => z.1, fun z => absurd z q⟩
        rw [e]
        refine nxt _ ?_
        unfold f_X1_holds_c12
        rw [if_neg hne, pre, Option.bind_some, e0, if_pos rfl, tb_f q, f_X1_holds_b33, if_pos (by decide), f_X1_holds_b93, z_gA_k h3 rfl, Option.bind_some]
    | true =>
      have e1 : ¬ tb (true = true) = (0 : Int32) := by rw [tb_t rfl]; decide
      by_cases q : all
      · have e : evL (evX s d) ((true, n, x) :: l) all = True := by
          simp only [evL, if_true]
          exact propext ⟨fun _ => trivial, fun _ => Or.inl q⟩
        rw [e, tb_t trivial]
        unfold f_X1_holds_b12
        refine z_it_done ?_
        show f_X1_holds_c12 rec bits (iI k) (tb all) (some c) h = _
        unfold f_X1_holds_c12
        rw [if_neg hne, pre, Option.bind_some, if_neg e1, tb_t q, if_neg (by decide)]
        rfl
      · have e : evL (evX s d) ((true, n, x) :: l) all = evL (evX s d) l (xr (evX s d x) n) := by
          simp only [evL, if_true]
          exact propext ⟨fun z => z.elim (fun z => absurd z q) id, fun z => Or.inr z⟩
        rw [e]
        refine nxt _ ?_
        unfold f_X1_holds_c12
        rw [if_neg hne, pre, Option.bind_some, if_neg e1, tb_f q, if_pos (by decide)]
        exact b33
theorem C_holds (hb : ∀ y, vA y → (bits &&& bitv y = 0) = ¬ s y.1 y.2) : ∀ (d n : Nat) (k : Int), d < n → 0 ≤ k → k + d ≤ 4 → ∀ (l : List (Bool × Bool × ((Int × Int) ⊕ zE d))) (t : Option Nat), vT (vX d) l → CHs D h (CX D h d) t l → f_X1_holds n t bits (iI k) h = some (tb (evL (evX s d) l True), h)
  | 0, n + 1, k, hn, h0, hk, l, t, hv, hc => by
    show f_X1_holds_r (f_X1_holds n) t bits (iI k) h = _
    unfold f_X1_holds_r
    rw [iI_lit, if_pos (cLe (by omega)), iI_lit, tbT]
    refine C_b12 hb (d := 0) (k := k) trivial l t True (fun j hj => ?_) hc
    match l, hv with
    | i :: l, hv =>
      rcases List.mem_cons.mp hj with e | e
      · subst e; exact hv.2.1
      · exact hv.2.2 j e
  | d + 1, n + 1, k, hn, h0, hk, l, t, hv, hc => by
    show f_X1_holds_r (f_X1_holds n) t bits (iI k) h = _
    unfold f_X1_holds_r
    rw [iI_lit, if_pos (cLe (by omega)), iI_lit, tbT]
    refine C_b12 hb (d := d + 1) (k := k) (fun e t' h1 h2 => C_holds hb d n (k + 1) (by omega) (by omega) (by omega) e t' h1 h2) l t True (fun j hj => ?_) hc
    match l, hv with
    | i :: l, hv =>
      rcases List.mem_cons.mp hj with e | e
      · subst e; exact hv.2.1
      · exact hv.2.2 j e
end CH
