/-! THE CLASS's SEARCH OF FORMS -/
theorem C_fill {h : zH} {x n : Nat} {g : Nat → Int32} (hx : h x = .inl (0, n, .inl g)) (hn : n < 2147483648) (v : Int32) : ∃ h' g', f_J7_fill_53178 (some x) v h = some h' ∧ h' x = .inl (0, n, .inl g') ∧ (∀ i, i < n → g' i = v) ∧ ∀ q, q ≠ x → h' q = h q := by
  have key := z_forI (body := fun s : (Option Nat) × Int32 × Int32 × Int32 × zH => f_J7_fill_53178_c5 s.1 s.2.1 s.2.2.1 s.2.2.2.1 s.2.2.2.2) (Q := fun h' => ∃ g', h' x = .inl (0, n, .inl g') ∧ (∀ i, i < n → g' i = v) ∧ ∀ q, q ≠ x → h' q = h q)
    (fun i s => ∃ h1 g1, s = (some x, v, iI (i : Int), iI (n : Int), h1) ∧ h1 x = .inl (0, n, .inl g1) ∧ (∀ j, j < i → g1 j = v) ∧ ∀ q, q ≠ x → h1 q = h q) n ?_ ?_ n 0 (some x, v, iI 0, iI (n : Int), h) (by omega) ⟨h, g, rfl, hx, fun j hj => absurd hj (by omega), fun _ _ => rfl⟩
  · obtain ⟨h', k1, g', k2⟩ := key
    refine ⟨h', g', ?_, k2⟩
    unfold f_J7_fill_53178
    rw [z_len_i hx (by omega), Option.bind_some, iI_lit]
    exact k1
  · rintro i s hi ⟨h1, g1, rfl, k1, k2, k3⟩
    refine Or.inl ⟨_, ?_, z_up h1 x (.inl (0, n, .inl (upd g1 i v))), upd g1 i v, rfl, z_up_s _ _ _, fun j hj => ?_, fun q hq => by rw [z_up_n _ _ hq]; exact k3 q hq⟩
    · show f_J7_fill_53178_c5 (some x) v (iI (i : Int)) (iI (n : Int)) h1 = _
      unfold f_J7_fill_53178_c5
      rw [if_neg (nLe (by omega)), z_sI_k k1 (by omega) (by omega) (by omega), Option.bind_some, show (i : Int).toNat = i by omega, iI_lit, iI_add]
      rfl
    · by_cases e : j = i
      · subst e; rw [pk_us]
      · rw [pk_un e]; exact k2 j (by omega)
  · rintro s ⟨h1, g1, rfl, k1, k2, k3⟩
    refine ⟨h1, ?_, g1, k1, k2, k3⟩
    show f_J7_fill_53178_c5 (some x) v (iI (n : Int)) (iI (n : Int)) h1 = _
    unfold f_J7_fill_53178_c5
    rw [if_pos (Int32.le_refl _)]; rfl
theorem C_fillR {h : zH} {x n M : Nat} {g : Nat → Int32} (hx : h x = .inl (0, n, .inl g)) (hn : n < 2147483648) (hM : M ≤ n) (v : Int32) : ∃ h' g', f_J7_fill_fda19 (some x) (iI 0) (iI (M : Int)) v h = some h' ∧ h' x = .inl (0, n, .inl g') ∧ (∀ i, i < M → g' i = v) ∧ ∀ q, q ≠ x → h' q = h q := by
  have key := z_forI (body := fun s : (Option Nat) × Int32 × Int32 × Int32 × zH => f_J7_fill_fda19_c10 s.1 s.2.1 s.2.2.1 s.2.2.2.1 s.2.2.2.2) (Q := fun h' => ∃ g', h' x = .inl (0, n, .inl g') ∧ (∀ i, i < M → g' i = v) ∧ ∀ q, q ≠ x → h' q = h q)
    (fun i s => ∃ h1 g1, s = (some x, iI (M : Int), v, iI (i : Int), h1) ∧ h1 x = .inl (0, n, .inl g1) ∧ (∀ j, j < i → g1 j = v) ∧ ∀ q, q ≠ x → h1 q = h q) M ?_ ?_ M 0 (some x, iI (M : Int), v, iI 0, h) (by omega) ⟨h, g, rfl, hx, fun j hj => absurd hj (by omega), fun _ _ => rfl⟩
  · obtain ⟨h', k1, g', k2⟩ := key
    refine ⟨h', g', ?_, k2⟩
    unfold f_J7_fill_fda19 f_J7_rangeCheck_23922
    simp only [iI_lit, iI_add, iI_sub, iI_mul, iI_neg]
    rw [z_len_i hx (by omega), Option.bind_some, if_pos (cLe (by omega)), if_pos (cLe (by omega)), if_pos (cLe (by omega)), Option.bind_some]
    exact k1
  · rintro i s hi ⟨h1, g1, rfl, k1, k2, k3⟩
    refine Or.inl ⟨_, ?_, z_up h1 x (.inl (0, n, .inl (upd g1 i v))), upd g1 i v, rfl, z_up_s _ _ _, fun j hj => ?_, fun q hq => by rw [z_up_n _ _ hq]; exact k3 q hq⟩
    · show f_J7_fill_fda19_c10 (some x) (iI (M : Int)) v (iI (i : Int)) h1 = _
      unfold f_J7_fill_fda19_c10
      rw [if_neg (nLe (by omega)), z_sI_k k1 (by omega) (by omega) (by omega), Option.bind_some, show (i : Int).toNat = i by omega, iI_lit, iI_add]
      rfl
    · by_cases e : j = i
      · subst e; rw [pk_us]
      · rw [pk_un e]; exact k2 j (by omega)
  · rintro s ⟨h1, g1, rfl, k1, k2, k3⟩
    refine ⟨h1, ?_, g1, k1, k2, k3⟩
    show f_J7_fill_fda19_c10 (some x) (iI (M : Int)) v (iI (M : Int)) h1 = _
    unfold f_J7_fill_fda19_c10
    rw [if_pos (Int32.le_refl _)]; rfl
def cRc (rc : Nat) (fc cc : Int32) (c0 : Int) (N f0 : Nat) (w ot : Int64) : zMC := .inr (3, [tA (some (rc + 1)), tA (some (rc + 2)), tA (some (rc + 3)), tA (some (rc + 4)), tI fc, tI cc, tI (iI c0), tI (iI (N : Int)), tI (iI (f0 : Int)), tJ w, tJ ot])
def RcS (h : zH) (rc : Nat) (g0 g1 g2 g3 : Nat → Int32) (fc cc : Int32) (c0 : Int) (N f0 : Nat) (w ot : Int64) : Prop := h rc = cRc rc fc cc c0 N f0 w ot ∧ h (rc + 1) = .inl (0, 4096, .inl g0) ∧ h (rc + 2) = .inl (0, 4096, .inl g1) ∧ h (rc + 3) = .inl (0, 64, .inl g2) ∧ h (rc + 4) = .inl (0, 7, .inl g3)
def CBr (N : Nat) (g0 g1 g2 : Nat → Int32) (fc cc : Int32) (B : zB) : Prop := (∀ f, f < 4 ^ (N - 1) → g0 f = iI (if B.1 f < 0 then -1 else B.1 f)) ∧ (∀ i, i < B.2.2.1 → g1 i = iI ((B.2.1 i : Nat) : Int)) ∧ (∀ c, c < 64 → g2 c = iI (B.2.2.2 c)) ∧ fc = iI (B.2.2.1 : Int) ∧ cc = iI ((cntN B.2.2.2 64 : Nat) : Int)
section CRe
variable {rc tS : Nat} {c0 : Int} {N f0 : Nat} {w ot : Int64}
theorem Rck {h : zH} {g0 g1 g2 g3 : Nat → Int32} {fc cc : Int32} (hS : RcS h rc g0 g1 g2 g3 fc cc c0 N f0 w ot) : z_ck h 3 (some rc) = some rc := z_ck_k hS.1
theorem Rg0 {h : zH} {g0 g1 g2 g3 : Nat → Int32} {fc cc : Int32} (hS : RcS h rc g0 g1 g2 g3 fc cc c0 N f0 w ot) : z_gA h 3 0 (some rc) = some (some (rc + 1)) := z_gA_k hS.1 rfl
theorem Rg1 {h : zH} {g0 g1 g2 g3 : Nat → Int32} {fc cc : Int32} (hS : RcS h rc g0 g1 g2 g3 fc cc c0 N f0 w ot) : z_gA h 3 1 (some rc) = some (some (rc + 2)) := z_gA_k hS.1 rfl
theorem Rg2 {h : zH} {g0 g1 g2 g3 : Nat → Int32} {fc cc : Int32} (hS : RcS h rc g0 g1 g2 g3 fc cc c0 N f0 w ot) : z_gA h 3 2 (some rc) = some (some (rc + 3)) := z_gA_k hS.1 rfl
theorem Rg3 {h : zH} {g0 g1 g2 g3 : Nat → Int32} {fc cc : Int32} (hS : RcS h rc g0 g1 g2 g3 fc cc c0 N f0 w ot) : z_gA h 3 3 (some rc) = some (some (rc + 4)) := z_gA_k hS.1 rfl
theorem Ri4 {h : zH} {g0 g1 g2 g3 : Nat → Int32} {fc cc : Int32} (hS : RcS h rc g0 g1 g2 g3 fc cc c0 N f0 w ot) : z_gI h 3 4 (some rc) = some fc := z_gI_k hS.1 rfl
theorem Ri5 {h : zH} {g0 g1 g2 g3 : Nat → Int32} {fc cc : Int32} (hS : RcS h rc g0 g1 g2 g3 fc cc c0 N f0 w ot) : z_gI h 3 5 (some rc) = some cc := z_gI_k hS.1 rfl
theorem Ri6 {h : zH} {g0 g1 g2 g3 : Nat → Int32} {fc cc : Int32} (hS : RcS h rc g0 g1 g2 g3 fc cc c0 N f0 w ot) : z_gI h 3 6 (some rc) = some (iI c0) := z_gI_k hS.1 rfl
theorem Ri7 {h : zH} {g0 g1 g2 g3 : Nat → Int32} {fc cc : Int32} (hS : RcS h rc g0 g1 g2 g3 fc cc c0 N f0 w ot) : z_gI h 3 7 (some rc) = some (iI (N : Int)) := z_gI_k hS.1 rfl
theorem Ri8 {h : zH} {g0 g1 g2 g3 : Nat → Int32} {fc cc : Int32} (hS : RcS h rc g0 g1 g2 g3 fc cc c0 N f0 w ot) : z_gI h 3 8 (some rc) = some (iI (f0 : Int)) := z_gI_k hS.1 rfl
theorem Rj9 {h : zH} {g0 g1 g2 g3 : Nat → Int32} {fc cc : Int32} (hS : RcS h rc g0 g1 g2 g3 fc cc c0 N f0 w ot) : z_gJ h 3 9 (some rc) = some w := z_gJ_k hS.1 rfl
theorem Rj10 {h : zH} {g0 g1 g2 g3 : Nat → Int32} {fc cc : Int32} (hS : RcS h rc g0 g1 g2 g3 fc cc c0 N f0 w ot) : z_gJ h 3 10 (some rc) = some ot := z_gJ_k hS.1 rfl
theorem Rp4 {h : zH} {g0 g1 g2 g3 : Nat → Int32} {fc cc : Int32} (hS : RcS h rc g0 g1 g2 g3 fc cc c0 N f0 w ot) (x : Int32) : z_pF h 3 4 (some rc) (tI x) = some (z_up h rc (cRc rc x cc c0 N f0 w ot)) ∧ RcS (z_up h rc (cRc rc x cc c0 N f0 w ot)) rc g0 g1 g2 g3 x cc c0 N f0 w ot :=
  ⟨z_pF_k hS.1 (Nat.le_of_ble_eq_true rfl), z_up_s _ _ _, by rw [z_up_n _ _ (by omega)]; exact hS.2.1, by rw [z_up_n _ _ (by omega)]; exact hS.2.2.1, by rw [z_up_n _ _ (by omega)]; exact hS.2.2.2.1, by rw [z_up_n _ _ (by omega)]; exact hS.2.2.2.2⟩
theorem Rp5 {h : zH} {g0 g1 g2 g3 : Nat → Int32} {fc cc : Int32} (hS : RcS h rc g0 g1 g2 g3 fc cc c0 N f0 w ot) (x : Int32) : z_pF h 3 5 (some rc) (tI x) = some (z_up h rc (cRc rc fc x c0 N f0 w ot)) ∧ RcS (z_up h rc (cRc rc fc x c0 N f0 w ot)) rc g0 g1 g2 g3 fc x c0 N f0 w ot :=
  ⟨z_pF_k hS.1 (Nat.le_of_ble_eq_true rfl), z_up_s _ _ _, by rw [z_up_n _ _ (by omega)]; exact hS.2.1, by rw [z_up_n _ _ (by omega)]; exact hS.2.2.1, by rw [z_up_n _ _ (by omega)]; exact hS.2.2.2.1, by rw [z_up_n _ _ (by omega)]; exact hS.2.2.2.2⟩
theorem Rs0 {h : zH} {g0 g1 g2 g3 : Nat → Int32} {fc cc : Int32} (hS : RcS h rc g0 g1 g2 g3 fc cc c0 N f0 w ot) {e : Nat} (he : e < 4096) (x : Int32) : z_sI h (some (rc + 1)) (iI (e : Int)) x = some (z_up h (rc + 1) (.inl (0, 4096, .inl (upd g0 e x)))) ∧ RcS (z_up h (rc + 1) (.inl (0, 4096, .inl (upd g0 e x)))) rc (upd g0 e x) g1 g2 g3 fc cc c0 N f0 w ot :=
  ⟨by rw [z_sI_k hS.2.1 (by omega) (by omega) (by decide), show (e : Int).toNat = e by omega], by rw [z_up_n _ _ (by omega)]; exact hS.1, z_up_s _ _ _, by rw [z_up_n _ _ (by omega)]; exact hS.2.2.1, by rw [z_up_n _ _ (by omega)]; exact hS.2.2.2.1, by rw [z_up_n _ _ (by omega)]; exact hS.2.2.2.2⟩
theorem Rs1 {h : zH} {g0 g1 g2 g3 : Nat → Int32} {fc cc : Int32} (hS : RcS h rc g0 g1 g2 g3 fc cc c0 N f0 w ot) {e : Nat} (he : e < 4096) (x : Int32) : z_sI h (some (rc + 2)) (iI (e : Int)) x = some (z_up h (rc + 2) (.inl (0, 4096, .inl (upd g1 e x)))) ∧ RcS (z_up h (rc + 2) (.inl (0, 4096, .inl (upd g1 e x)))) rc g0 (upd g1 e x) g2 g3 fc cc c0 N f0 w ot :=
  ⟨by rw [z_sI_k hS.2.2.1 (by omega) (by omega) (by decide), show (e : Int).toNat = e by omega], by rw [z_up_n _ _ (by omega)]; exact hS.1, by rw [z_up_n _ _ (by omega)]; exact hS.2.1, z_up_s _ _ _, by rw [z_up_n _ _ (by omega)]; exact hS.2.2.2.1, by rw [z_up_n _ _ (by omega)]; exact hS.2.2.2.2⟩
theorem Rs2 {h : zH} {g0 g1 g2 g3 : Nat → Int32} {fc cc : Int32} (hS : RcS h rc g0 g1 g2 g3 fc cc c0 N f0 w ot) {e : Nat} (he : e < 64) (x : Int32) : z_sI h (some (rc + 3)) (iI (e : Int)) x = some (z_up h (rc + 3) (.inl (0, 64, .inl (upd g2 e x)))) ∧ RcS (z_up h (rc + 3) (.inl (0, 64, .inl (upd g2 e x)))) rc g0 g1 (upd g2 e x) g3 fc cc c0 N f0 w ot :=
  ⟨by rw [z_sI_k hS.2.2.2.1 (by omega) (by omega) (by decide), show (e : Int).toNat = e by omega], by rw [z_up_n _ _ (by omega)]; exact hS.1, by rw [z_up_n _ _ (by omega)]; exact hS.2.1, by rw [z_up_n _ _ (by omega)]; exact hS.2.2.1, z_up_s _ _ _, by rw [z_up_n _ _ (by omega)]; exact hS.2.2.2.2⟩
theorem Rs3 {h : zH} {g0 g1 g2 g3 : Nat → Int32} {fc cc : Int32} (hS : RcS h rc g0 g1 g2 g3 fc cc c0 N f0 w ot) {e : Nat} (he : e < 7) (x : Int32) : z_sI h (some (rc + 4)) (iI (e : Int)) x = some (z_up h (rc + 4) (.inl (0, 7, .inl (upd g3 e x)))) ∧ RcS (z_up h (rc + 4) (.inl (0, 7, .inl (upd g3 e x)))) rc g0 g1 g2 (upd g3 e x) fc cc c0 N f0 w ot :=
  ⟨by rw [z_sI_k hS.2.2.2.2 (by omega) (by omega) (by decide), show (e : Int).toNat = e by omega], by rw [z_up_n _ _ (by omega)]; exact hS.1, by rw [z_up_n _ _ (by omega)]; exact hS.2.1, by rw [z_up_n _ _ (by omega)]; exact hS.2.2.1, by rw [z_up_n _ _ (by omega)]; exact hS.2.2.2.1, z_up_s _ _ _⟩
theorem Ra0 {h : zH} {g0 g1 g2 g3 : Nat → Int32} {fc cc : Int32} (hS : RcS h rc g0 g1 g2 g3 fc cc c0 N f0 w ot) {e : Nat} (he : e < 4096) : z_aI h (some (rc + 1)) (iI (e : Int)) = some (g0 e) := by rw [z_aI_k hS.2.1 (Or.inl rfl) (by omega) (by omega) (by decide), show (e : Int).toNat = e by omega]
theorem Ra1 {h : zH} {g0 g1 g2 g3 : Nat → Int32} {fc cc : Int32} (hS : RcS h rc g0 g1 g2 g3 fc cc c0 N f0 w ot) {e : Nat} (he : e < 4096) : z_aI h (some (rc + 2)) (iI (e : Int)) = some (g1 e) := by rw [z_aI_k hS.2.2.1 (Or.inl rfl) (by omega) (by omega) (by decide), show (e : Int).toNat = e by omega]
theorem Ra2 {h : zH} {g0 g1 g2 g3 : Nat → Int32} {fc cc : Int32} (hS : RcS h rc g0 g1 g2 g3 fc cc c0 N f0 w ot) {e : Nat} (he : e < 64) : z_aI h (some (rc + 3)) (iI (e : Int)) = some (g2 e) := by rw [z_aI_k hS.2.2.2.1 (Or.inl rfl) (by omega) (by omega) (by decide), show (e : Int).toNat = e by omega]
theorem Ra3 {h : zH} {g0 g1 g2 g3 : Nat → Int32} {fc cc : Int32} (hS : RcS h rc g0 g1 g2 g3 fc cc c0 N f0 w ot) {e : Nat} (he : e < 7) : z_aI h (some (rc + 4)) (iI (e : Int)) = some (g3 e) := by rw [z_aI_k hS.2.2.2.2 (Or.inl rfl) (by omega) (by omega) (by decide), show (e : Int).toNat = e by omega]
theorem fr5 {h : zH} {x : Nat} {c : zMC} (h1 : rc ≤ x) (h2 : x < rc + 5) : fr rc 5 h (z_up h x c) := fr_up h1 h2
theorem hST5 {h h' : zH} (hT : hST h tS) (hb : tS < rc ∨ rc + 5 ≤ tS) (hf : fr rc 5 h h') : hST h' tS := by unfold hST; rw [hf tS hb]; exact hT
/-- the cells of a form -/
theorem C_layOut (hN : 2 ≤ N ∧ N ≤ 7) (hb : tS < rc ∨ rc + 5 ≤ tS) {f : Nat} (hf : f < 4096) (hp : ∀ p, p < N → 0 ≤ pth c0 f p ∧ pth c0 f p < 64) {h : zH} {g0 g1 g2 g3 : Nat → Int32} {fc cc : Int32} (hT : hST h tS) (hS : RcS h rc g0 g1 g2 g3 fc cc c0 N f0 w ot) :
    ∃ h' g3', f_X3_layOut tS (some rc) (iI (f : Int)) h = some (bset (inP c0 N f), h') ∧ RcS h' rc g0 g1 g2 g3' fc cc c0 N f0 w ot ∧ (∀ p, p < N → g3' p = iI (pth c0 f p)) ∧ fr rc 5 h h' := by
  have v0 := hp 0 (by omega)
  obtain ⟨w1, S1⟩ := Rs3 hS (e := 0) (by omega) (iI c0)
  have key := z_forI (body := fun s : (Option Nat) × Int32 × Int64 × Int32 × zH => f_X3_layOut_c20 tS s.1 s.2.1 s.2.2.1 s.2.2.2.1 s.2.2.2.2) (Q := fun r => ∃ g3', r.1 = bset (inP c0 N f) ∧ RcS r.2 rc g0 g1 g2 g3' fc cc c0 N f0 w ot ∧ (∀ p, p < N → g3' p = iI (pth c0 f p)) ∧ fr rc 5 h r.2)
    (fun i s => ∃ h1 g3', s = (some rc, iI (f : Int), bset (inP c0 (i + 1) f), iI ((i : Int) + 1), h1) ∧ RcS h1 rc g0 g1 g2 g3' fc cc c0 N f0 w ot ∧ (∀ p, p < i + 1 → g3' p = iI (pth c0 f p)) ∧ fr rc 5 h h1) (N - 1) ?_ ?_ (N - 1) 0 (some rc, iI (f : Int), (1 : Int64) <<< (Int32.toInt64 (iI c0) &&& 63), iI 1, z_up h (rc + 4) (.inl (0, 7, .inl (upd g3 0 (iI c0))))) (by omega) ⟨_, _, ?_, S1, fun p hp => ?_, fr5 (by omega) (by omega)⟩
  · obtain ⟨r, k1, g3', k2, k3⟩ := key
    refine ⟨r.2, g3', ?_, k3⟩
    unfold f_X3_layOut f_X3_layOut_b20
    simp only [iI_lit, iI_add, iI_sub, iI_mul, iI_neg]
    have w1' : z_sI h (some (rc + 4)) (iI 0) (iI c0) = some (z_up h (rc + 4) (.inl (0, 7, .inl (upd g3 0 (iI c0))))) := w1
    rw [Rg3 hS, Option.bind_some, Ri6 hS, Option.bind_some, w1', Option.bind_some, Ri6 S1, Option.bind_some]
    have e : r = (bset (inP c0 N f), r.2) := by rw [← k2]
    rw [← e]; exact k1
  · rintro i s hi ⟨h1, g3', rfl, k1, k2, k3⟩
    have vi := hp i (by omega)
    have vj := hp (i + 1) (by omega)
    have d := dgf_lt f i
    have sa := (side_adj (s := ((dgf f i : Nat) : Int)) vi.1 vi.2 (by omega) (by omega) vj.1).2
    have hst := z_stp (hST5 hT hb k3) (s := ((dgf f i : Nat) : Int)) (by omega) (by omega)
    obtain ⟨w2, S2⟩ := Rs3 k1 (e := i + 1) (by omega) (iI (pth c0 f (i + 1)))
    have ev : iI (pth c0 f i) + iI (if ((dgf f i : Nat) : Int) = 0 then 1 else if ((dgf f i : Nat) : Int) = 1 then 8 else if ((dgf f i : Nat) : Int) = 2 then -1 else -8) = iI (pth c0 f (i + 1)) := by
      rw [iI_add]
      congr 1
      show _ = bes (pth c0 f i) ((dgf f i : Nat) : Int)
      omega
    have eb : bset (fun x => inP c0 (i + 1) f x ∨ x = pth c0 f (i + 1)) = bset (inP c0 (i + 1 + 1) f) := bset_cg (fun c _ _ => ⟨fun q => by
      rcases q with ⟨p, q1, q2⟩ | q
      · exact ⟨p, by omega, q2⟩
      · exact ⟨i + 1, by omega, q.symm⟩, fun q => by
      obtain ⟨p, q1, q2⟩ := q
      by_cases e : p = i + 1
      · subst e; exact Or.inr q2.symm
      · exact Or.inl ⟨p, by omega, q2⟩⟩)
    refine Or.inl ⟨_, ?_, _, _, rfl, S2, fun p hp' => ?_, fr_tr k3 (fr5 (by omega) (by omega))⟩
    · show f_X3_layOut_c20 tS (some rc) (iI (f : Int)) (bset (inP c0 (i + 1) f)) (iI ((i : Int) + 1)) h1 = _
      unfold f_X3_layOut_c20
      simp only [iI_lit, iI_add, iI_sub, iI_mul, iI_neg]
      have w2' : z_sI h1 (some (rc + 4)) (iI ((i : Int) + 1)) (iI (pth c0 f (i + 1))) = some (z_up h1 (rc + 4) (.inl (0, 7, .inl (upd g3' (i + 1) (iI (pth c0 f (i + 1))))))) := w2
      have ra : z_aI (z_up h1 (rc + 4) (.inl (0, 7, .inl (upd g3' (i + 1) (iI (pth c0 f (i + 1))))))) (some (rc + 4)) (iI ((i : Int) + 1)) = some (iI (pth c0 f (i + 1))) := by
        have := Ra3 S2 (e := i + 1) (by omega)
        rw [pk_us] at this
        exact this
      have hdd : iI ((f / 4 ^ i % 4 : Nat) : Int) = iI ((dgf f i : Nat) : Int) := rfl
      rw [Ri7 k1, Option.bind_some, if_neg (nLe (by omega)), Rg3 k1, Option.bind_some, Option.bind_some, show (i : Int) + 1 - 1 = (i : Int) by omega, Ra3 k1 (by omega), Option.bind_some, k2 i (by omega), dg4 (by omega) (by omega), hdd, hst, Option.bind_some, ev, w2', Option.bind_some, Rg3 S2, Option.bind_some, ra, Option.bind_some, bset_one vj.1 vj.2, bset_or]
      rw [eb]
      rfl
    · by_cases e : p = i + 1
      · subst e; rw [pk_us]
      · rw [pk_un e]; exact k2 p (by omega)
  · rintro s ⟨h1, g3', rfl, k1, k2, k3⟩
    have eN : N - 1 + 1 = N := by omega
    rw [eN] at k2 ⊢
    refine ⟨(bset (inP c0 N f), h1), ?_, g3', rfl, k1, k2, k3⟩
    show f_X3_layOut_c20 tS (some rc) (iI (f : Int)) (bset (inP c0 N f)) (iI (((N - 1 : Nat) : Int) + 1)) h1 = _
    unfold f_X3_layOut_c20
    rw [Ri7 k1, Option.bind_some, if_pos (cLe (by omega))]
    rfl
  · have eb : bset (fun x => x = c0) = bset (inP c0 (0 + 1) f) := bset_cg (fun c _ _ => ⟨fun q => ⟨0, by omega, q.symm⟩, fun q => by
      obtain ⟨p, q1, q2⟩ := q
      have : p = 0 := by omega
      subst this; exact q2.symm⟩)
    have v0' : 0 ≤ c0 ∧ c0 < 64 := v0
    rw [bset_one v0'.1 v0'.2, eb]
    rfl
  · have : p = 0 := by omega
    subst this; rw [pk_us]; rfl
end CRe
