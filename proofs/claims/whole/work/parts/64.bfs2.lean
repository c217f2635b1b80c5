/-! THE SEARCH, told once -/
abbrev zB : Type := (Nat → Int) × (Nat → Nat) × Nat × (Nat → Int)
noncomputable def cntN (mv : Nat → Int) : Nat → Nat
  | 0 => 0
  | k + 1 => cntN mv k + if 0 ≤ mv k then 1 else 0
theorem cntN_le (mv : Nat → Int) : ∀ k, cntN mv k ≤ k
  | 0 => Nat.le_refl _
  | k + 1 => by
    have := cntN_le mv k
    unfold cntN
    split <;> omega
theorem cntN_cg {mv mv' : Nat → Int} : ∀ k, (∀ j, j < k → mv j = mv' j) → cntN mv k = cntN mv' k
  | 0, _ => rfl
  | k + 1, h => by
    unfold cntN
    rw [cntN_cg k (fun j hj => h j (by omega)), h k (by omega)]
theorem cntN_up {mv : Nat → Int} {f : Nat} {v : Int} (hf : mv f < 0) (hv : 0 ≤ v) : ∀ k, f < k → cntN (updR mv f v) k = cntN mv k + 1
  | 0, h => absurd h (by omega)
  | k + 1, h => by
    unfold cntN
    by_cases e : f = k
    · subst e
      rw [updR_s, if_pos hv, if_neg (by omega), cntN_cg (mv := updR mv f v) (mv' := mv) f (fun j hj => updR_n _ _ (by omega))]
    · rw [cntN_up hf hv k (by omega), updR_n _ _ (by omega)]
      omega
theorem cntN_neg (mv : Nat → Int) : ∀ k, (∀ j, j < k → mv j < 0) → cntN mv k = 0
  | 0, _ => rfl
  | k + 1, h => by
    unfold cntN
    rw [cntN_neg mv k (fun j hj => h j (by omega)), if_neg (by have := h k (by omega); omega)]
noncomputable def seeB (B : zB) (f : Nat) (v : Int) : zB := if B.1 f < 0 then (updR B.1 f v, updR B.2.1 B.2.2.1 f, B.2.2.1 + 1, B.2.2.2) else B
noncomputable def seeO (B : zB) (o : Option Nat) (v : Int) : zB := match o with
  | none => B
  | some f => seeB B f v
noncomputable def tipB (B : zB) (c : Nat) (v : Int) : zB := if B.2.2.2 c < 0 then (B.1, B.2.1, B.2.2.1, updR B.2.2.2 c v) else B
noncomputable def flB (w : Int64) (c0 : Int) (N f0 f : Nat) (v : Int) (B : zB) : Nat → zB
  | 0 => B
  | p + 1 => seeO (flB w c0 N f0 f v B p) (fl w c0 N f0 f p) (v + 1)
noncomputable def tnB (w : Int64) (c0 : Int) (N f0 f : Nat) (v : Int) (B : zB) : Nat → zB
  | 0 => B
  | s + 1 => seeO (tnB w c0 N f0 f v B s) (tn w c0 N f0 f s) (v + 1)
noncomputable def prB (w : Int64) (c0 : Int) (N f0 : Nat) (B : zB) (k : Nat) : zB :=
  tnB w c0 N f0 (B.2.1 k) (B.1 (B.2.1 k)) (flB w c0 N f0 (B.2.1 k) (B.1 (B.2.1 k)) (tipB B (pth c0 (B.2.1 k) (N - 1)).toNat (B.1 (B.2.1 k))) (N - 2)) 4
noncomputable def B0 : zB := (fun _ => -4, fun _ => 0, 0, fun _ => -4)
noncomputable def bf (w : Int64) (c0 : Int) (N f0 : Nat) : Nat → zB
  | 0 => seeB B0 f0 0
  | k + 1 => if k < (bf w c0 N f0 k).2.2.1 then prB w c0 N f0 (bf w c0 N f0 k) k else bf w c0 N f0 k
def bI (w : Int64) (c0 : Int) (N f0 : Nat) (B : zB) : Prop :=
  (∀ i, i < B.2.2.1 → VF w c0 N f0 (B.2.1 i) ∧ 0 ≤ B.1 (B.2.1 i) ∧ B.1 (B.2.1 i) ≤ (i : Int)) ∧ (∀ f, B.1 f = -4 ∨ (0 ≤ B.1 f ∧ B.1 f ≤ 4096)) ∧ (∀ f, 4 ^ (N - 1) ≤ f → B.1 f = -4) ∧ B.2.2.1 = cntN B.1 (4 ^ (N - 1)) ∧ ∀ c, B.2.2.2 c = -4 ∨ (0 ≤ B.2.2.2 c ∧ B.2.2.2 c ≤ 4096)
section BG1
variable {w : Int64} {c0 : Int} {N f0 : Nat}
theorem bI_cn (hN : 2 ≤ N ∧ N ≤ 7) {B : zB} (hB : bI w c0 N f0 B) : B.2.2.1 ≤ 4 ^ (N - 1) ∧ 4 ^ (N - 1) ≤ 4096 := ⟨by rw [hB.2.2.2.1]; exact cntN_le _ _, pow_le6 (by omega)⟩
theorem seeB_I (hN : 2 ≤ N ∧ N ≤ 7) {B : zB} (hB : bI w c0 N f0 B) {f : Nat} (hf : VF w c0 N f0 f) {v : Int} (hv : 0 ≤ v ∧ v ≤ (B.2.2.1 : Int)) : bI w c0 N f0 (seeB B f v) ∧ B.2.2.1 ≤ (seeB B f v).2.2.1 ∧ (seeB B f v).2.2.2 = B.2.2.2 ∧ (∀ i, i < B.2.2.1 → (seeB B f v).2.1 i = B.2.1 i) ∧ ∀ x, 0 ≤ B.1 x → (seeB B f v).1 x = B.1 x := by
  unfold seeB
  by_cases q : B.1 f < 0
  · rw [if_pos q]
    have hc := cntN_up (mv := B.1) (f := f) q hv.1 (4 ^ (N - 1)) hf.1
    have hle := cntN_le (updR B.1 f v) (4 ^ (N - 1))
    have h4 := pow_le6 (k := N - 1) (by omega)
    have hcn := hB.2.2.2.1
    have ne : ∀ x, 0 ≤ B.1 x → x ≠ f := fun x hx e => by subst e; omega
    refine ⟨⟨fun i hi => ?_, fun x => ?_, fun x hx => ?_, ?_, hB.2.2.2.2⟩, by simp only; omega, rfl, fun i hi => updR_n _ _ (by omega), fun x hx => updR_n _ _ (ne x hx)⟩
    · simp only at hi ⊢
      by_cases e : i = B.2.2.1
      · subst e; rw [updR_s, updR_s]; exact ⟨hf, hv⟩
      · rw [updR_n _ _ e]
        have hi' := hB.1 i (by omega)
        rw [updR_n _ _ (ne _ hi'.2.1)]; exact hi'
    · simp only
      by_cases e : x = f
      · subst e; rw [updR_s]; right; omega
      · rw [updR_n _ _ e]; exact hB.2.1 x
    · simp only
      rw [updR_n _ _ (by have := hf.1; omega)]; exact hB.2.2.1 x hx
    · simp only; omega
  · rw [if_neg q]
    exact ⟨hB, Nat.le_refl _, rfl, fun _ _ => rfl, fun _ _ => rfl⟩
theorem seeO_I (hN : 2 ≤ N ∧ N ≤ 7) {B : zB} (hB : bI w c0 N f0 B) {o : Option Nat} (ho : ∀ f, o = some f → VF w c0 N f0 f) {v : Int} (hv : 0 ≤ v ∧ v ≤ (B.2.2.1 : Int)) : bI w c0 N f0 (seeO B o v) ∧ B.2.2.1 ≤ (seeO B o v).2.2.1 ∧ (seeO B o v).2.2.2 = B.2.2.2 ∧ (∀ i, i < B.2.2.1 → (seeO B o v).2.1 i = B.2.1 i) ∧ ∀ x, 0 ≤ B.1 x → (seeO B o v).1 x = B.1 x := by
  match o, ho with
  | none, _ => exact ⟨hB, Nat.le_refl _, rfl, fun _ _ => rfl, fun _ _ => rfl⟩
  | some f, ho => exact seeB_I hN hB (ho f rfl) hv
theorem tipB_I {B : zB} (hB : bI w c0 N f0 B) (c : Nat) {v : Int} (hv : 0 ≤ v ∧ v ≤ 4096) : bI w c0 N f0 (tipB B c v) ∧ (tipB B c v).1 = B.1 ∧ (tipB B c v).2.1 = B.2.1 ∧ (tipB B c v).2.2.1 = B.2.2.1 := by
  unfold tipB
  split
  · refine ⟨⟨hB.1, hB.2.1, hB.2.2.1, hB.2.2.2.1, fun x => ?_⟩, rfl, rfl, rfl⟩
    simp only
    by_cases e : x = c
    · subst e; rw [updR_s]; right; omega
    · rw [updR_n _ _ e]; exact hB.2.2.2.2 x
  · exact ⟨hB, rfl, rfl, rfl⟩
theorem flB_I (hN : 2 ≤ N ∧ N ≤ 7) {B : zB} (hB : bI w c0 N f0 B) {f : Nat} (hf : VF w c0 N f0 f) {v : Int} (hv : 0 ≤ v ∧ v + 1 ≤ (B.2.2.1 : Int)) : ∀ p, p + 2 ≤ N → bI w c0 N f0 (flB w c0 N f0 f v B p) ∧ B.2.2.1 ≤ (flB w c0 N f0 f v B p).2.2.1 ∧ (flB w c0 N f0 f v B p).2.2.2 = B.2.2.2
  | 0, _ => ⟨hB, Nat.le_refl _, rfl⟩
  | p + 1, hp => by
    obtain ⟨h1, h2, h3⟩ := flB_I hN hB hf hv p (by omega)
    obtain ⟨k1, k2, k3, -⟩ := seeO_I hN h1 (o := fl w c0 N f0 f p) (fun f' e => VF_fl hN (by omega) hf e) (v := v + 1) (by omega)
    exact ⟨k1, by simp only [flB]; omega, k3.trans h3⟩
theorem tnB_I (hN : 2 ≤ N ∧ N ≤ 7) {B : zB} (hB : bI w c0 N f0 B) {f : Nat} (hf : VF w c0 N f0 f) {v : Int} (hv : 0 ≤ v ∧ v + 1 ≤ (B.2.2.1 : Int)) : ∀ s, s ≤ 4 → bI w c0 N f0 (tnB w c0 N f0 f v B s) ∧ B.2.2.1 ≤ (tnB w c0 N f0 f v B s).2.2.1 ∧ (tnB w c0 N f0 f v B s).2.2.2 = B.2.2.2
  | 0, _ => ⟨hB, Nat.le_refl _, rfl⟩
  | s + 1, hs => by
    obtain ⟨h1, h2, h3⟩ := tnB_I hN hB hf hv s (by omega)
    obtain ⟨k1, k2, k3, -⟩ := seeO_I hN h1 (o := tn w c0 N f0 f s) (fun f' e => VF_tn hN (by omega) hf e) (v := v + 1) (by omega)
    exact ⟨k1, by simp only [tnB]; omega, k3.trans h3⟩
/-- one form: what holds on the way -/
theorem prB_I (hN : 2 ≤ N ∧ N ≤ 7) {B : zB} (hB : bI w c0 N f0 B) {k : Nat} (hk : k < B.2.2.1) :
    VF w c0 N f0 (B.2.1 k) ∧ (0 ≤ B.1 (B.2.1 k) ∧ B.1 (B.2.1 k) + 1 ≤ (B.2.2.1 : Int)) ∧ bI w c0 N f0 (tipB B (pth c0 (B.2.1 k) (N - 1)).toNat (B.1 (B.2.1 k))) ∧ (tipB B (pth c0 (B.2.1 k) (N - 1)).toNat (B.1 (B.2.1 k))).2.2.1 = B.2.2.1 ∧ bI w c0 N f0 (flB w c0 N f0 (B.2.1 k) (B.1 (B.2.1 k)) (tipB B (pth c0 (B.2.1 k) (N - 1)).toNat (B.1 (B.2.1 k))) (N - 2)) ∧ B.2.2.1 ≤ (flB w c0 N f0 (B.2.1 k) (B.1 (B.2.1 k)) (tipB B (pth c0 (B.2.1 k) (N - 1)).toNat (B.1 (B.2.1 k))) (N - 2)).2.2.1 ∧ bI w c0 N f0 (prB w c0 N f0 B k) := by
  have h1 := hB.1 k hk
  have hc := bI_cn hN hB
  obtain ⟨t1, t2, t3, t4⟩ := tipB_I hB (pth c0 (B.2.1 k) (N - 1)).toNat (v := B.1 (B.2.1 k)) (by omega)
  obtain ⟨u1, u2, u3⟩ := flB_I hN t1 h1.1 (v := B.1 (B.2.1 k)) (by omega) (N - 2) (by omega)
  obtain ⟨x1, x2, x3⟩ := tnB_I hN u1 h1.1 (v := B.1 (B.2.1 k)) (by omega) 4 (by omega)
  exact ⟨h1.1, by omega, t1, t4, u1, by omega, x1⟩
theorem bf_I (hN : 2 ≤ N ∧ N ≤ 7) (h0 : VF w c0 N f0 f0) : ∀ k, bI w c0 N f0 (bf w c0 N f0 k)
  | 0 => by
    have hb : bI w c0 N f0 B0 := ⟨fun i hi => absurd hi (by simp [B0]), fun _ => Or.inl rfl, fun _ _ => rfl, (cntN_neg _ _ (fun _ _ => by simp [B0])).symm, fun _ => Or.inl rfl⟩
    exact (seeB_I hN hb h0 (v := 0) (by simp [B0])).1
  | k + 1 => by
    simp only [bf]
    split
    · rename_i q; exact (prB_I hN (bf_I hN h0 k) q).2.2.2.2.2.2
    · exact bf_I hN h0 k
theorem bf_end {k : Nat} (hk : (bf w c0 N f0 k).2.2.1 ≤ k) : ∀ d, bf w c0 N f0 (k + d) = bf w c0 N f0 k
  | 0 => rfl
  | d + 1 => by
    have ih := bf_end hk d
    show (if k + d < (bf w c0 N f0 (k + d)).2.2.1 then _ else bf w c0 N f0 (k + d)) = _
    rw [ih, if_neg (by omega)]
/-- the search's end -/
theorem bf_fin (hN : 2 ≤ N ∧ N ≤ 7) (h0 : VF w c0 N f0 f0) {k : Nat} (hk : (bf w c0 N f0 k).2.2.1 ≤ k) (hk2 : k ≤ 4096) : bf w c0 N f0 4096 = bf w c0 N f0 k := by
  have := bf_end hk (4096 - k)
  rwa [show k + (4096 - k) = 4096 by omega] at this
end BG1
