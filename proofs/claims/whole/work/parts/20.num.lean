/-! NUMBERS: the machine's ints as whole numbers -/
def iI (x : Int) : Int32 := Int32.ofInt x
theorem iI_lit (n : Nat) : (OfNat.ofNat n : Int32) = iI (OfNat.ofNat n) := (Int32.ofInt_eq_ofNat (n := n)).symm
theorem iI_nat (n : Nat) : Int32.ofNat n = iI (n : Int) := (Int32.ofInt_eq_ofNat (n := n)).symm
theorem iI_add (a b : Int) : iI a + iI b = iI (a + b) := (Int32.ofInt_add a b).symm
theorem iI_sub (a b : Int) : iI a - iI b = iI (a - b) := (Int32.ofInt_sub a b).symm
theorem iI_mul (a b : Int) : iI a * iI b = iI (a * b) := (Int32.ofInt_mul a b).symm
theorem iI_neg (a : Int) : -iI a = iI (-a) := (Int32.ofInt_neg a).symm
theorem iI_toInt {a : Int} (h1 : -2147483648 ≤ a) (h2 : a < 2147483648) : (iI a).toInt = a := Int32.toInt_ofInt_of_le h1 h2
theorem iI_of (x : Int32) : x = iI x.toInt := (Int32.ofInt_toInt x).symm
theorem iI_rg (x : Int32) : -2147483648 ≤ x.toInt ∧ x.toInt < 2147483648 := ⟨x.le_toInt, x.toInt_lt⟩
theorem iI_lt {a b : Int} (h1 : -2147483648 ≤ a) (h2 : a < 2147483648) (h3 : -2147483648 ≤ b) (h4 : b < 2147483648) : (iI a < iI b) = (a < b) := by
  rw [Int32.lt_iff_toInt_lt, iI_toInt h1 h2, iI_toInt h3 h4]
theorem iI_le {a b : Int} (h1 : -2147483648 ≤ a) (h2 : a < 2147483648) (h3 : -2147483648 ≤ b) (h4 : b < 2147483648) : (iI a ≤ iI b) = (a ≤ b) := by
  rw [Int32.le_iff_toInt_le, iI_toInt h1 h2, iI_toInt h3 h4]
theorem iI_eq {a b : Int} (h1 : -2147483648 ≤ a) (h2 : a < 2147483648) (h3 : -2147483648 ≤ b) (h4 : b < 2147483648) : (iI a = iI b) = (a = b) := by
  apply propext
  rw [← Int32.toInt_inj, iI_toInt h1 h2, iI_toInt h3 h4]
theorem iI_cl {a : Int} (h1 : 0 ≤ a) (h2 : a < 2147483648) : (iI a).toNatClampNeg = a.toNat := by
  rw [← Int32.toNat_toInt, iI_toInt (by omega) h2]
theorem iI_div {a b : Int} (h1 : 0 ≤ a) (h2 : a < 2147483648) (h3 : 0 < b) (h4 : b < 2147483648) : iI a / iI b = iI (a / b) := by
  apply Int32.toInt_inj.mp
  have hb : iI b ≠ -1 := by
    intro h
    have := congrArg Int32.toInt h
    rw [iI_toInt (by omega) h4] at this
    have e : (-1 : Int32).toInt = -1 := by decide
    omega
  have hd : 0 ≤ a / b := Int.ediv_nonneg h1 (by omega)
  have hd2 : a / b ≤ a := Int.ediv_le_self b h1
  rw [Int32.toInt_div_of_ne_right _ _ hb, iI_toInt (by omega) h2, iI_toInt (by omega) h4, iI_toInt (by omega) (by omega), Int.tdiv_eq_ediv_of_nonneg h1]
theorem iI_rem {a b : Int} (h1 : 0 ≤ a) (h2 : a < 2147483648) (h3 : 0 < b) (h4 : b < 2147483648) : iI a - iI a / iI b * iI b = iI (a % b) := by
  rw [iI_div h1 h2 h3 h4, iI_mul, iI_sub]
  congr 1
  have := Int.emod_add_mul_ediv a b
  rw [Int.mul_comm] at this
  omega
theorem iI_inb {a : Int} {n : Nat} (h1 : 0 ≤ a) (h2 : a < n) (h3 : (n : Int) < 2147483648) : ¬ (iI a < 0 ∨ n ≤ (iI a).toNatClampNeg) := by
  rw [iI_cl h1 (by omega)]
  have : ¬ iI a < 0 := by
    rw [iI_lit, iI_lt (by omega) (by omega) (by omega) (by omega)]
    omega
  rintro (h | h)
  · exact this h
  · omega
/-- a truth value, as the machine has it -/
noncomputable def tb (P : Prop) : Int32 := @ite _ P (Classical.propDecidable P) (iI 1) (iI 0)
theorem tb_t {P : Prop} (h : P) : tb P = iI 1 := if_pos h
theorem tb_f {P : Prop} (h : ¬ P) : tb P = iI 0 := if_neg h
theorem iI_01 : ¬ iI 1 = iI 0 := by decide
theorem tb_or (P : Prop) : (tb P = iI 0 ∨ tb P = iI 1) = True := by
  apply propext
  by_cases h : P
  · exact ⟨fun _ => trivial, fun _ => Or.inr (tb_t h)⟩
  · exact ⟨fun _ => trivial, fun _ => Or.inl (tb_f h)⟩
theorem tb_eq0 (P : Prop) : (tb P = iI 0) = ¬ P := by
  apply propext
  by_cases h : P
  · rw [tb_t h]; exact ⟨fun e => absurd e iI_01, fun e => absurd h e⟩
  · rw [tb_f h]; exact ⟨fun _ => h, fun _ => rfl⟩
theorem tb_eq1 (P : Prop) : (tb P = iI 1) = P := by
  apply propext
  by_cases h : P
  · rw [tb_t h]; exact ⟨fun _ => h, fun _ => rfl⟩
  · rw [tb_f h]; exact ⟨fun e => absurd e.symm iI_01, fun e => absurd e h⟩
theorem tb_cg {P Q : Prop} (h : P ↔ Q) : tb P = tb Q := by rw [propext h]
theorem tb_01 (P : Prop) : tb P = 0 ∨ tb P = 1 := by
  by_cases h : P
  · exact Or.inr (tb_t h)
  · exact Or.inl (tb_f h)
theorem if_tb {α : Type} (P : Prop) (d : Decidable P) (d2 : Decidable ¬ P) (a b : α) : @ite _ (¬ P) d2 a b = @ite _ P d b a := by
  by_cases h : P
  · rw [if_pos h, if_neg (fun q => q h)]
  · rw [if_neg h, if_pos h]
theorem ite_tb {α : Type} {P : Prop} {d : Decidable (tb P = iI 0)} {a b : α} : @ite α (tb P = iI 0) d a b = @ite α P (Classical.propDecidable P) b a := by
  by_cases h : P
  · rw [if_pos h, if_neg (by rw [tb_eq0]; exact fun q => q h)]
  · rw [if_neg h, if_pos (by rw [tb_eq0]; exact h)]
/-- what an 'if' says, by cases -/
theorem ite_c {α : Type} {P : Prop} {d : Decidable P} {a b c : α} (h1 : P → a = c) (h2 : ¬ P → b = c) : @ite _ P d a b = c := by
  by_cases h : P
  · rw [if_pos h]; exact h1 h
  · rw [if_neg h]; exact h2 h
/-! LOOPS -/
theorem z_it_next {σ α : Type} {body : σ → Option (σ ⊕ α)} {s s' : σ} (h : body s = some (.inl s')) : z_it body s = z_it body s' := by rw [z_it_eq, h]
theorem z_it_done {σ α : Type} {body : σ → Option (σ ⊕ α)} {s : σ} {a : α} (h : body s = some (.inr a)) : z_it body s = some a := by rw [z_it_eq, h]
/-- a loop whose states are told: it leaves at n -/
theorem z_for {σ α : Type} {body : σ → Option (σ ⊕ α)} (st : Nat → σ) {a : α} {n : Nat} (hs : ∀ i, i < n → body (st i) = some (.inl (st (i + 1)))) (hd : body (st n) = some (.inr a)) : ∀ (k i : Nat), i + k = n → z_it body (st i) = some a
  | 0, i, h => by
    have : i = n := by omega
    subst this
    exact z_it_done hd
  | k + 1, i, h => by
    rw [z_it_next (hs i (by omega))]
    exact z_for st hs hd k (i + 1) (by omega)
theorem z_for0 {σ α : Type} {body : σ → Option (σ ⊕ α)} (st : Nat → σ) {a : α} (n : Nat) (hs : ∀ i, i < n → body (st i) = some (.inl (st (i + 1)))) (hd : body (st n) = some (.inr a)) : z_it body (st 0) = some a := z_for st hs hd n 0 (by omega)
/-- a loop with something that stays true; it leaves at n at the latest -/
theorem z_forI {σ α : Type} {body : σ → Option (σ ⊕ α)} {Q : α → Prop} (I : Nat → σ → Prop) (n : Nat) (hs : ∀ i s, i < n → I i s → (∃ s', body s = some (.inl s') ∧ I (i + 1) s') ∨ ∃ a, body s = some (.inr a) ∧ Q a) (hd : ∀ s, I n s → ∃ a, body s = some (.inr a) ∧ Q a) : ∀ (k i : Nat) (s : σ), i + k = n → I i s → ∃ a, z_it body s = some a ∧ Q a
  | 0, i, s, h, hI => by
    have : i = n := by omega
    subst this
    obtain ⟨a, h1, h2⟩ := hd s hI
    exact ⟨a, z_it_done h1, h2⟩
  | k + 1, i, s, h, hI => by
    rcases hs i s (by omega) hI with ⟨s', h1, h2⟩ | ⟨a, h1, h2⟩
    · rw [z_it_next h1]
      exact z_forI I n hs hd k (i + 1) s' (by omega) h2
    · exact ⟨a, z_it_done h1, h2⟩
/-! READS AND WRITES -/
theorem z_gI_k {h : zH} {c k a : Nat} {fs : List zTV} {x : Int32} (hh : h a = .inr (c, fs)) (hk : fs[k]? = some (tI x)) : z_gI h c k (some a) = some x := by
  simp only [z_gI, z_gF, Option.bind_some, hh, if_pos, hk]; rfl
theorem z_gJ_k {h : zH} {c k a : Nat} {fs : List zTV} {x : Int64} (hh : h a = .inr (c, fs)) (hk : fs[k]? = some (tJ x)) : z_gJ h c k (some a) = some x := by
  simp only [z_gJ, z_gF, Option.bind_some, hh, if_pos, hk]; rfl
theorem z_gA_k {h : zH} {c k a : Nat} {fs : List zTV} {x : Option Nat} (hh : h a = .inr (c, fs)) (hk : fs[k]? = some (tA x)) : z_gA h c k (some a) = some x := by
  simp only [z_gA, z_gF, Option.bind_some, hh, if_pos, hk]; rfl
theorem z_pF_k {h : zH} {c k a : Nat} {fs : List zTV} {v : zTV} (hh : h a = .inr (c, fs)) (hk : k < fs.length) : z_pF h c k (some a) v = some (z_up h a (.inr (c, fs.set k v))) := by
  simp only [z_pF, Option.bind_some, hh, true_and, hk, if_pos]
theorem z_ck_k {h : zH} {c a : Nat} {fs : List zTV} (hh : h a = .inr (c, fs)) : z_ck h c (some a) = some a := by
  simp only [z_ck, Option.bind_some, hh, if_pos]
theorem z_aI_k {h : zH} {kd a n : Nat} {f : Nat → Int32} {e : Int} (hh : h a = .inl (kd, n, .inl f)) (hk : kd = 0 ∨ kd = 100) (h1 : 0 ≤ e) (h2 : e < n) (h3 : (n : Int) < 2147483648) : z_aI h (some a) (iI e) = some (f e.toNat) := by
  simp only [z_aI, Option.bind_some, hh]
  rw [if_pos ⟨hk, iI_inb h1 h2 h3⟩, iI_cl h1 (by omega)]
theorem z_sI_k {h : zH} {a n : Nat} {f : Nat → Int32} {e : Int} {x : Int32} (hh : h a = .inl (0, n, .inl f)) (h1 : 0 ≤ e) (h2 : e < n) (h3 : (n : Int) < 2147483648) : z_sI h (some a) (iI e) x = some (z_up h a (.inl (0, n, .inl (upd f e.toNat x)))) := by
  simp only [z_sI, Option.bind_some, hh]
  rw [if_pos ⟨trivial, iI_inb h1 h2 h3⟩, iI_cl h1 (by omega)]
theorem z_aB_k {h : zH} {kd a n : Nat} {f : Nat → Int32} {e : Int} (hh : h a = .inl (kd, n, .inl f)) (hk : kd = 1 ∨ kd = 2) (h1 : 0 ≤ e) (h2 : e < n) (h3 : (n : Int) < 2147483648) : z_aB h (some a) (iI e) = some (f e.toNat) := by
  simp only [z_aB, Option.bind_some, hh]
  rw [if_pos ⟨hk, iI_inb h1 h2 h3⟩, iI_cl h1 (by omega)]
theorem z_sB1_k {h : zH} {a n : Nat} {f : Nat → Int32} {e : Int} {x : Int32} (hh : h a = .inl (1, n, .inl f)) (h1 : 0 ≤ e) (h2 : e < n) (h3 : (n : Int) < 2147483648) : z_sB h (some a) (iI e) x = some (z_up h a (.inl (1, n, .inl (upd f e.toNat x.toInt8.toInt32)))) := by
  simp only [z_sB, Option.bind_some, hh]
  rw [if_pos ⟨Or.inl trivial, iI_inb h1 h2 h3⟩, iI_cl h1 (by omega), if_pos trivial, vp_nar_byte]
theorem z_sB2_k {h : zH} {a n : Nat} {f : Nat → Int32} {e : Int} {x : Int32} (hh : h a = .inl (2, n, .inl f)) (h1 : 0 ≤ e) (h2 : e < n) (h3 : (n : Int) < 2147483648) (hx : x = 0 ∨ x = 1) : z_sB h (some a) (iI e) x = some (z_up h a (.inl (2, n, .inl (upd f e.toNat x)))) := by
  simp only [z_sB, Option.bind_some, hh]
  rw [if_pos ⟨Or.inr trivial, iI_inb h1 h2 h3⟩, iI_cl h1 (by omega), if_neg (by decide)]
  rcases hx with rfl | rfl <;> rfl
theorem z_aJ_k {h : zH} {a n : Nat} {f : Nat → Int64} {e : Int} (hh : h a = .inl (3, n, .inr (.inl f))) (h1 : 0 ≤ e) (h2 : e < n) (h3 : (n : Int) < 2147483648) : z_aJ h (some a) (iI e) = some (f e.toNat) := by
  simp only [z_aJ, Option.bind_some, hh]
  rw [if_pos ⟨trivial, iI_inb h1 h2 h3⟩, iI_cl h1 (by omega)]
theorem z_sJ_k {h : zH} {a n : Nat} {f : Nat → Int64} {e : Int} {x : Int64} (hh : h a = .inl (3, n, .inr (.inl f))) (h1 : 0 ≤ e) (h2 : e < n) (h3 : (n : Int) < 2147483648) : z_sJ h (some a) (iI e) x = some (z_up h a (.inl (3, n, .inr (.inl (vp_updL f e.toNat x))))) := by
  simp only [z_sJ, Option.bind_some, hh]
  rw [if_pos ⟨trivial, iI_inb h1 h2 h3⟩, iI_cl h1 (by omega)]
theorem z_aA_k {h : zH} {kd a n : Nat} {f : Nat → Option Nat} {e : Int} (hh : h a = .inl (kd, n, .inr (.inr f))) (hk : 4 ≤ kd ∧ kd ≤ 8) (h1 : 0 ≤ e) (h2 : e < n) (h3 : (n : Int) < 2147483648) : z_aA h (some a) (iI e) = some (f e.toNat) := by
  simp only [z_aA, Option.bind_some, hh]
  rw [if_pos ⟨hk, iI_inb h1 h2 h3⟩, iI_cl h1 (by omega)]
theorem z_len_i {h : zH} {kd a n : Nat} {f : Nat → Int32} (hh : h a = .inl (kd, n, .inl f)) (hk : kd ≤ 8 ∨ kd = 100) : z_len h (some a) = some (iI n) := by
  simp only [z_len, Option.bind_some, hh, hk, if_pos, iI_nat]
theorem z_len_o {h : zH} {kd a n : Nat} {f : (Nat → Int64) ⊕ (Nat → Option Nat)} (hh : h a = .inl (kd, n, .inr f)) (hk : kd ≤ 8) : z_len h (some a) = some (iI n) := by
  simp only [z_len, Option.bind_some, hh, hk, if_pos, iI_nat]
