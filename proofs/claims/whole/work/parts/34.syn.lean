/-! THE RULES' TEXT -/
def zE : Nat → Type
  | 0 => Unit
  | d + 1 => List (Bool × Bool × ((Int × Int) ⊕ zE d))
def xr (P : Prop) (n : Bool) : Prop := if n = true then ¬ P else P
def evL {β : Type} (hd : β → Prop) : List (Bool × Bool × β) → Prop → Prop
  | [], all => all
  | i :: l, all => if i.1 = true then all ∨ evL hd l (xr (hd i.2.2) i.2.1) else evL hd l (all ∧ xr (hd i.2.2) i.2.1)
def evX (sn : Int → Int → Prop) : (d : Nat) → ((Int × Int) ⊕ zE d) → Prop
  | 0 => Sum.elim (fun y => sn y.1 y.2) (fun _ => False)
  | d + 1 => Sum.elim (fun y => sn y.1 y.2) (fun e => evL (evX sn d) e True)
def prA (y : Int × Int) : List Int := if y.1 = 119 ∨ y.1 = 116 ∨ y.1 = 109 then [y.1, 48 + y.2] else [y.1]
def prN (n : Bool) : List Int := if n = true then [33] else []
def prS (o : Bool) : List Int := if o = true then [124] else [38]
def prR {β : Type} (f : β → List Int) : List (Bool × Bool × β) → List Int
  | [] => []
  | i :: l => prS i.1 ++ (prN i.2.1 ++ (f i.2.2 ++ prR f l))
def prT {β : Type} (f : β → List Int) : List (Bool × Bool × β) → List Int
  | [] => []
  | i :: l => prN i.2.1 ++ (f i.2.2 ++ prR f l)
def prX : (d : Nat) → ((Int × Int) ⊕ zE d) → List Int
  | 0 => Sum.elim prA (fun _ => [])
  | d + 1 => Sum.elim prA (fun e => [40] ++ (prT (prX d) e ++ [41]))
def vA (y : Int × Int) : Prop := ((y.1 = 119 ∨ y.1 = 116 ∨ y.1 = 109) ∧ 0 ≤ y.2 ∧ y.2 ≤ 3) ∨ ((y.1 = 104 ∨ y.1 = 120 ∨ y.1 = 42) ∧ y.2 = 0)
def vT {β : Type} (v : β → Prop) : List (Bool × Bool × β) → Prop
  | [] => False
  | i :: l => i.1 = false ∧ v i.2.2 ∧ ∀ j, j ∈ l → v j.2.2
def vX : (d : Nat) → ((Int × Int) ⊕ zE d) → Prop
  | 0 => Sum.elim vA (fun _ => False)
  | d + 1 => Sum.elim vA (fun e => vT (vX d) e)
def tx (A : Int → Int) : Int → List Int → Prop
  | _, [] => True
  | e, c :: l => A e = c ∧ tx A (e + 1) l
theorem tx_app (A : Int → Int) : ∀ (l1 l2 : List Int) (e : Int), tx A e (l1 ++ l2) ↔ tx A e l1 ∧ tx A (e + l1.length) l2
  | [], l2, e => by simp [tx]
  | c :: l1, l2, e => by
    have ih := tx_app A l1 l2 (e + 1)
    simp only [List.cons_append, tx, ih, List.length_cons]
    rw [show e + 1 + (l1.length : Int) = e + ((l1.length + 1 : Nat) : Int) by omega]
    exact and_assoc.symm
section HT
variable {h : zH} {m : Nat} {Y : Nat → Nat → Int32} {A : Int → Int}
theorem MR_up (hM : MR h m A Y) {k : Nat} (hk : k < 19) (h1 : k ≠ 1) (r : Nat → Int32) : MR (z_up h (m + k) (mL m k r)) m A (updR Y k r) :=
  ⟨MAt_up hM.1 hk r, fun j hj => by rw [updR_n _ _ (Ne.symm h1)]; exact hM.2 j hj⟩
def uat (Y : Nat → Nat → Int32) (x : Int) : Nat → Nat → Int32 := updR Y 0 (upd (Y 0) 14 (iI x))
def hat (h : zH) (m : Nat) (Y : Nat → Nat → Int32) (x : Int) : zH := z_up h m (mL m 0 (upd (Y 0) 14 (iI x)))
theorem M_at (hM : MR h m A Y) (x : Int) : z_pF h 11 14 (some m) (tI (iI x)) = some (hat h m Y x) := Mp14 hM.1 (iI x)
theorem MR_at (hM : MR h m A Y) (x : Int) : MR (hat h m Y x) m A (uat Y x) := MR_up hM (k := 0) (by omega) (by omega) _
theorem uat_s (Y : Nat → Nat → Int32) (x : Int) : uat Y x 0 14 = iI x := by unfold uat; rw [updR_s, pk_us]
theorem uat_n (Y : Nat → Nat → Int32) (x : Int) {k : Nat} (hk : k ≠ 0) : uat Y x k = Y k := updR_n _ _ hk
theorem uat_0 (Y : Nat → Nat → Int32) (x : Int) {k : Nat} (hk : k ≠ 14) : uat Y x 0 k = Y 0 k := by unfold uat; rw [updR_s, pk_un hk]
theorem hat_fr (h : zH) (m : Nat) (Y : Nat → Nat → Int32) (x : Int) : fr m 19 h (hat h m Y x) := fr_up (by omega) (by omega)
theorem Ma10 (hM : MAt h m Y) {e : Int} (h1 : 0 ≤ e) (h2 : e < 6) : z_aB h (some (m + 10)) (iI e) = some (Y 10 e.toNat) := z_aB_k (hM 10 (by omega)) (Or.inr rfl) h1 (by simpa using h2) (by decide)
theorem Ma11 (hM : MAt h m Y) {e : Int} (h1 : 0 ≤ e) (h2 : e < 6) : z_aB h (some (m + 11)) (iI e) = some (Y 11 e.toNat) := z_aB_k (hM 11 (by omega)) (Or.inr rfl) h1 (by simpa using h2) (by decide)
theorem Ma12 (hM : MAt h m Y) {e : Int} (h1 : 0 ≤ e) (h2 : e < 6) : z_aB h (some (m + 12)) (iI e) = some (Y 12 e.toNat) := z_aB_k (hM 12 (by omega)) (Or.inr rfl) h1 (by simpa using h2) (by decide)
noncomputable def ubt (Y : Nat → Nat → Int32) (k j : Nat) (P : Prop) : Nat → Nat → Int32 := updR Y k (upd (Y k) j (tb P))
noncomputable def hbt (h : zH) (m : Nat) (Y : Nat → Nat → Int32) (k j : Nat) (P : Prop) : zH := z_up h (m + k) (mL m k (upd (Y k) j (tb P)))
theorem tbF : iI 0 = tb False := (tb_f (fun q => q)).symm
theorem tbT : iI 1 = tb True := (tb_t trivial).symm
theorem Mb (hM : MAt h m Y) {k : Nat} (hk : k = 10 ∨ k = 11 ∨ k = 12) {e : Int} (P : Prop) (h1 : 0 ≤ e) (h2 : e < 6) : z_sB h (some (m + k)) (iI e) (tb P) = some (hbt h m Y k e.toNat P) := by
  have hx : tb P = 0 ∨ tb P = 1 := tb_01 P
  rcases hk with rfl | rfl | rfl
  · rw [z_sB2_k (hM 10 (by omega)) h1 (by simpa using h2) (by decide) hx]; rfl
  · rw [z_sB2_k (hM 11 (by omega)) h1 (by simpa using h2) (by decide) hx]; rfl
  · rw [z_sB2_k (hM 12 (by omega)) h1 (by simpa using h2) (by decide) hx]; rfl
theorem Mb0 (hM : MAt h m Y) {k : Nat} {e : Int} (hk : k = 10 ∨ k = 11 ∨ k = 12) (h1 : 0 ≤ e) (h2 : e < 6) : z_sB h (some (m + k)) (iI e) (iI 0) = some (hbt h m Y k e.toNat False) := by rw [tbF]; exact Mb hM hk False h1 h2
theorem Mb1 (hM : MAt h m Y) {k : Nat} {e : Int} (hk : k = 10 ∨ k = 11 ∨ k = 12) (h1 : 0 ≤ e) (h2 : e < 6) : z_sB h (some (m + k)) (iI e) (iI 1) = some (hbt h m Y k e.toNat True) := by rw [tbT]; exact Mb hM hk True h1 h2
theorem MR_bt (hM : MR h m A Y) {k : Nat} (hk : k = 10 ∨ k = 11 ∨ k = 12) (j : Nat) (P : Prop) : MR (hbt h m Y k j P) m A (ubt Y k j P) := MR_up hM (by omega) (by omega) _
theorem hbt_fr (h : zH) (m : Nat) (Y : Nat → Nat → Int32) {k : Nat} (hk : k = 10 ∨ k = 11 ∨ k = 12) (j : Nat) (P : Prop) : fr m 19 h (hbt h m Y k j P) := fr_up (by omega) (by omega)
theorem ubt_s (Y : Nat → Nat → Int32) (k j : Nat) (P : Prop) : ubt Y k j P k j = tb P := by unfold ubt; rw [updR_s, pk_us]
theorem ubt_n (Y : Nat → Nat → Int32) {k j k' : Nat} (P : Prop) (hn : k' ≠ k) : ubt Y k j P k' = Y k' := updR_n _ _ hn
theorem ubt_j (Y : Nat → Nat → Int32) {k j j' : Nat} (P : Prop) (hn : j' ≠ j) : ubt Y k j P k j' = Y k j' := by unfold ubt; rw [updR_s, pk_un hn]
/-- what the reading of a test at depth k leaves -/
def sm (k : Nat) (Y Y' : Nat → Nat → Int32) : Prop := (∀ j, j ≠ 0 → j ≠ 10 → j ≠ 11 → j ≠ 12 → Y' j = Y j) ∧ (∀ j, j ≠ 14 → Y' 0 j = Y 0 j) ∧ (∀ j, j < k → Y' 10 j = Y 10 j ∧ Y' 11 j = Y 11 j) ∧ (∀ j, j ≤ k → Y' 12 j = Y 12 j)
theorem sm_rf (k : Nat) (Y : Nat → Nat → Int32) : sm k Y Y := ⟨fun _ _ _ _ _ => rfl, fun _ _ => rfl, fun _ _ => ⟨rfl, rfl⟩, fun _ _ => rfl⟩
theorem sm_tr {k : Nat} {Y Y1 Y2 : Nat → Nat → Int32} (a : sm k Y Y1) (c : sm k Y1 Y2) : sm k Y Y2 :=
  ⟨fun j h0 h1 h2 h3 => (c.1 j h0 h1 h2 h3).trans (a.1 j h0 h1 h2 h3), fun j hj => (c.2.1 j hj).trans (a.2.1 j hj), fun j hj => ⟨(c.2.2.1 j hj).1.trans (a.2.2.1 j hj).1, (c.2.2.1 j hj).2.trans (a.2.2.1 j hj).2⟩, fun j hj => (c.2.2.2 j hj).trans (a.2.2.2 j hj)⟩
theorem sm_up {k : Nat} {Y Y1 : Nat → Nat → Int32} (a : sm (k + 1) Y Y1) : sm k Y Y1 := ⟨a.1, a.2.1, fun j hj => a.2.2.1 j (by omega), fun j hj => a.2.2.2 j (by omega)⟩
theorem sm_at (k : Nat) (Y : Nat → Nat → Int32) (x : Int) : sm k Y (uat Y x) := ⟨fun j h0 _ _ _ => uat_n _ _ h0, fun j hj => uat_0 _ _ hj, fun j _ => ⟨by rw [uat_n _ _ (by omega)], by rw [uat_n _ _ (by omega)]⟩, fun j _ => by rw [uat_n _ _ (by omega)]⟩
theorem sm_10 (k : Nat) (Y : Nat → Nat → Int32) {j : Nat} (P : Prop) (hj : k ≤ j) : sm k Y (ubt Y 10 j P) := ⟨fun _ _ h1 _ _ => ubt_n _ _ h1, fun _ _ => by rw [ubt_n _ _ (by omega)], fun i hi => ⟨ubt_j _ _ (by omega), by rw [ubt_n _ _ (by omega)]⟩, fun _ _ => by rw [ubt_n _ _ (by omega)]⟩
theorem sm_11 (k : Nat) (Y : Nat → Nat → Int32) {j : Nat} (P : Prop) (hj : k ≤ j) : sm k Y (ubt Y 11 j P) := ⟨fun _ _ _ h1 _ => ubt_n _ _ h1, fun _ _ => by rw [ubt_n _ _ (by omega)], fun i hi => ⟨by rw [ubt_n _ _ (by omega)], ubt_j _ _ (by omega)⟩, fun _ _ => by rw [ubt_n _ _ (by omega)]⟩
theorem sm_12 (k : Nat) (Y : Nat → Nat → Int32) {j : Nat} (P : Prop) (hj : k < j) : sm k Y (ubt Y 12 j P) := ⟨fun _ _ _ _ h1 => ubt_n _ _ h1, fun _ _ => by rw [ubt_n _ _ (by omega)], fun i hi => ⟨by rw [ubt_n _ _ (by omega)], by rw [ubt_n _ _ (by omega)]⟩, fun i _ => ubt_j _ _ (by omega)⟩
/-- what a piece senses -/
def sn (A : Int → Int) (a p c g : Int) : Prop :=
  if c = 119 then A (96 + 40 * a + (p - 1)) = g else if c = 116 then near A (A (75 + 40 * a + p)) g else if c = 109 then A (82 + 40 * a + p) = g else if c = 104 then 0 ≤ A (89 + 40 * a + p) else if c = 120 then isTip A a p else True
theorem R_claims (hM : MR h m A Y) (hW : WF A) {a p c g : Int} (hv : vP A a p) (hp : 1 ≤ p) (hy : vA (c, g)) : f_X11_claims (some m) (iI a) (iI p) (iI c) (iI g) h = some (tb (sn A a p c g), h) := by
  have hn := hW.n
  have v1 := hW.vp hv
  have hv2 := hv.2
  have hc := hW.ce hv
  have hm := hW.me hv
  have hs := hW.sa (a := a) (p := p - 1) ⟨hv.1, by omega, by omega⟩
  have ho := hW.ho hv
  have e26 : 70 + 40 * a + 26 + p - 1 = 96 + 40 * a + (p - 1) := by omega
  have e12 : 70 + 40 * a + 12 + p = 82 + 40 * a + p := by omega
  have e19 : 70 + 40 * a + 19 + p = 89 + 40 * a + p := by omega
  unfold sn
  rcases hy with ⟨h1 | h1 | h1, h2⟩ | ⟨h1 | h1 | h1, h2⟩ <;> simp only at h1 h2 <;> subst h1
  · simp (disch := omega) only [f_X11_claims, iI_lit, iI_add, iI_sub, iI_mul, iI_neg, iI_eq, if_neg, if_pos, Mg0 hM.1, R_of, Option.bind_some, z_b2_some, z_i1_some, e26, M_all hM, if_true]
    refine ite_c (fun q => ?_) (fun q => ?_)
    · rw [tb_t q]
    · rw [tb_f q]
  · simp (disch := omega) only [f_X11_claims, iI_lit, iI_add, iI_sub, iI_mul, iI_neg, iI_eq, if_neg, if_pos, Mck hM.1, R_cell hM, R_isNear hM hW, Option.bind_some, z_b2_some, z_i1_some, tb_or, if_true]
  · simp (disch := omega) only [f_X11_claims, iI_lit, iI_add, iI_sub, iI_mul, iI_neg, iI_eq, if_neg, if_pos, Mg0 hM.1, R_of, Option.bind_some, z_b2_some, z_i1_some, e12, M_all hM, if_true]
    refine ite_c (fun q => ?_) (fun q => ?_)
    · rw [tb_t q]
    · rw [tb_f q]
  · simp (disch := omega) only [f_X11_claims, iI_lit, iI_add, iI_sub, iI_mul, iI_neg, iI_eq, iI_lt, if_neg, if_pos, Mg0 hM.1, R_of, Option.bind_some, z_b2_some, z_i1_some, e19, M_all hM, if_true]
    refine ite_c (fun q => ?_) (fun q => ?_)
    · rw [tb_f (by omega)]
    · rw [tb_t (by omega)]
  · simp (disch := omega) only [f_X11_claims, iI_lit, iI_add, iI_sub, iI_mul, iI_neg, iI_eq, if_neg, if_pos, Mck hM.1, R_isTip hM hW hv, Option.bind_some, z_b2_some, z_i1_some, tb_or, if_true]
  · simp (disch := omega) only [f_X11_claims, iI_lit, iI_add, iI_sub, iI_mul, iI_neg, iI_eq, if_neg]
    rw [tb_t trivial]
end HT
