/-! THE CLASS's sea: 30 cells -/
def zS : Type := Int64 × Int64 × (Nat → Int64) × (Nat → Int32) × (Nat → Nat → Int32) × (Nat → Option Nat) × (Nat → Nat → Nat → Int32) × (Nat → Nat → Int32)
def zS.W (S : zS) : Int64 := S.1
def zS.T (S : zS) : Int64 := S.2.1
def zS.L (S : zS) : Nat → Int64 := S.2.2.1
def zS.z (S : zS) : Nat → Int32 := S.2.2.2.1
def zS.n (S : zS) : Nat → Nat → Int32 := S.2.2.2.2.1
def zS.u (S : zS) : Nat → Option Nat := S.2.2.2.2.2.1
def zS.r (S : zS) : Nat → Nat → Nat → Int32 := S.2.2.2.2.2.2.1
def zS.v (S : zS) : Nat → Nat → Int32 := S.2.2.2.2.2.2.2
def sW (S : zS) (x : Int64) : zS := (x, S.2)
def sT (S : zS) (x : Int64) : zS := (S.1, x, S.2.2)
def sL (S : zS) (f : Nat → Int64) : zS := (S.1, S.2.1, f, S.2.2.2)
def sZ (S : zS) (k : Nat) (x : Int32) : zS := (S.1, S.2.1, S.2.2.1, upd S.z k x, S.2.2.2.2)
def sN (S : zS) (i j : Nat) (x : Int32) : zS := (S.1, S.2.1, S.2.2.1, S.2.2.2.1, updR S.n i (upd (S.n i) j x), S.2.2.2.2.2)
def sU (S : zS) (i : Nat) (x : Option Nat) : zS := (S.1, S.2.1, S.2.2.1, S.2.2.2.1, S.2.2.2.2.1, updR S.u i x, S.2.2.2.2.2.2)
def sR (S : zS) (i j : Nat) (f : Nat → Int32) : zS := (S.1, S.2.1, S.2.2.1, S.2.2.2.1, S.2.2.2.2.1, S.2.2.2.2.2.1, updR S.r i (updR (S.r i) j f), S.2.2.2.2.2.2.2)
def sV (S : zS) (i : Nat) (f : Nat → Int32) : zS := (S.1, S.2.1, S.2.2.1, S.2.2.2.1, S.2.2.2.2.1, S.2.2.2.2.2.1, S.2.2.2.2.2.2.1, updR S.v i f)
def c0 (b : Nat) (S : zS) : zMC := .inr (6, [tJ S.W, tJ S.T, tA (some (b + 1)), tA (some (b + 2)), tI (S.z 4), tA (some (b + 3)), tI (S.z 6), tI (S.z 7), tI (S.z 8)])
def cA (b i : Nat) (S : zS) : zMC := .inr (0, [tI (S.n i 0), tI (S.n i 1), tI (S.n i 2), tA (S.u i), tA (some (b + 5 + 6 * i + 0)), tA (some (b + 5 + 6 * i + 1)), tA (some (b + 5 + 6 * i + 2)), tA (some (b + 5 + 6 * i + 3)), tA (some (b + 5 + 6 * i + 4))])
def cT (i : Nat) (S : zS) : zMC := .inr (8, [tI (S.v i 0), tI (S.v i 1), tI (S.v i 2), tI (S.v i 3), tI (S.v i 4)])
def SAt (h : zH) (b : Nat) (S : zS) : Prop :=
  (h b = c0 b S) ∧
  (h (b + 1) = .inl (3, 4, .inr (.inl S.L))) ∧
  (h (b + 2) = .inl (4, 3, .inr (.inr (fun i => if i < 3 then some (b + 4 + 6 * i) else none)))) ∧
  (h (b + 3) = .inl (5, 8, .inr (.inr (fun i => if i < 8 then some (b + 22 + i) else none)))) ∧
  (∀ i, i < 3 → h (b + 4 + 6 * i) = cA b i S) ∧
  (∀ i j, i < 3 → j < 5 → h (b + 5 + 6 * i + j) = .inl (0, 7, .inl (S.r i j))) ∧
  (∀ i, i < 8 → h (b + 22 + i) = cT i S)
theorem SAt.o {h : zH} {b : Nat} {S : zS} (q : SAt h b S) : h b = c0 b S := q.1
theorem SAt.l {h : zH} {b : Nat} {S : zS} (q : SAt h b S) : h (b + 1) = .inl (3, 4, .inr (.inl S.L)) := q.2.1
theorem SAt.a {h : zH} {b : Nat} {S : zS} (q : SAt h b S) : h (b + 2) = .inl (4, 3, .inr (.inr (fun i => if i < 3 then some (b + 4 + 6 * i) else none))) := q.2.2.1
theorem SAt.t {h : zH} {b : Nat} {S : zS} (q : SAt h b S) : h (b + 3) = .inl (5, 8, .inr (.inr (fun i => if i < 8 then some (b + 22 + i) else none))) := q.2.2.2.1
theorem SAt.m {h : zH} {b : Nat} {S : zS} (q : SAt h b S) : ∀ i, i < 3 → h (b + 4 + 6 * i) = cA b i S := q.2.2.2.2.1
theorem SAt.r {h : zH} {b : Nat} {S : zS} (q : SAt h b S) : ∀ i j, i < 3 → j < 5 → h (b + 5 + 6 * i + j) = .inl (0, 7, .inl (S.r i j)) := q.2.2.2.2.2.1
theorem SAt.v {h : zH} {b : Nat} {S : zS} (q : SAt h b S) : ∀ i, i < 8 → h (b + 22 + i) = cT i S := q.2.2.2.2.2.2
theorem SAt_fr {h h' : zH} {b : Nat} {S : zS} (hS : SAt h b S) (hf : ∀ q : Nat, b ≤ q → q < b + 30 → h' q = h q) : SAt h' b S := ⟨
  by rw [hf _ (by omega) (by omega)]; exact hS.o,
  by rw [hf _ (by omega) (by omega)]; exact hS.l,
  by rw [hf _ (by omega) (by omega)]; exact hS.a,
  by rw [hf _ (by omega) (by omega)]; exact hS.t,
  fun i hi => by rw [hf _ (by omega) (by omega)]; exact hS.m i hi,
  fun i j hi hj => by rw [hf _ (by omega) (by omega)]; exact hS.r i j hi hj,
  fun i hi => by rw [hf _ (by omega) (by omega)]; exact hS.v i hi⟩
section SA
variable {h : zH} {b : Nat} {S : zS}
/-- the sea itself is another -/
theorem SAt_o (hS : SAt h b S) {S' : zS} (h1 : S'.L = S.L) (h2 : S'.n = S.n) (h3 : S'.u = S.u) (h4 : S'.r = S.r) (h5 : S'.v = S.v) : SAt (z_up h b (c0 b S')) b S' := ⟨
  z_up_s _ _ _,
  by rw [z_up_n _ _ (by omega), h1]; exact hS.l,
  by rw [z_up_n _ _ (by omega)]; exact hS.a,
  by rw [z_up_n _ _ (by omega)]; exact hS.t,
  fun i hi => by rw [z_up_n _ _ (by omega)]; unfold cA; rw [h2, h3]; exact hS.m i hi,
  fun i j hi hj => by rw [z_up_n _ _ (by omega), h4]; exact hS.r i j hi hj,
  fun i hi => by rw [z_up_n _ _ (by omega)]; unfold cT; rw [h5]; exact hS.v i hi⟩
theorem SAt_l (hS : SAt h b S) (f : Nat → Int64) : SAt (z_up h (b + 1) (.inl (3, 4, .inr (.inl f)))) b (sL S f) := ⟨
  by rw [z_up_n _ _ (by omega)]; exact hS.o,
  z_up_s _ _ _,
  by rw [z_up_n _ _ (by omega)]; exact hS.a,
  by rw [z_up_n _ _ (by omega)]; exact hS.t,
  fun i hi => by rw [z_up_n _ _ (by omega)]; exact hS.m i hi,
  fun i j hi hj => by rw [z_up_n _ _ (by omega)]; exact hS.r i j hi hj,
  fun i hi => by rw [z_up_n _ _ (by omega)]; exact hS.v i hi⟩
theorem SAt_m (hS : SAt h b S) {i : Nat} (hi : i < 3) {S' : zS} (e1 : S'.W = S.W) (e2 : S'.T = S.T) (e3 : S'.L = S.L) (e4 : S'.z = S.z) (e5 : S'.r = S.r) (e6 : S'.v = S.v) (e7 : ∀ j, j ≠ i → S'.n j = S.n j) (e8 : ∀ j, j ≠ i → S'.u j = S.u j) : SAt (z_up h (b + 4 + 6 * i) (cA b i S')) b S' := ⟨
  by rw [z_up_n _ _ (by omega)]; unfold c0; rw [e1, e2, e4]; exact hS.o,
  by rw [z_up_n _ _ (by omega), e3]; exact hS.l,
  by rw [z_up_n _ _ (by omega)]; exact hS.a,
  by rw [z_up_n _ _ (by omega)]; exact hS.t,
  fun j hj => by
    by_cases e : j = i
    · subst e; exact z_up_s _ _ _
    · rw [z_up_n _ _ (by omega)]; unfold cA; rw [e7 j e, e8 j e]; exact hS.m j hj,
  fun j k hj hk => by rw [z_up_n _ _ (by omega), e5]; exact hS.r j k hj hk,
  fun j hj => by rw [z_up_n _ _ (by omega)]; unfold cT; rw [e6]; exact hS.v j hj⟩
theorem sR_s (S : zS) (i j : Nat) (f : Nat → Int32) : (sR S i j f).r i j = f := by
  show updR S.r i (updR (S.r i) j f) i j = f
  rw [updR_s, updR_s]
theorem sR_n (S : zS) {i j i' j' : Nat} (f : Nat → Int32) (hn : i' ≠ i ∨ j' ≠ j) : (sR S i j f).r i' j' = S.r i' j' := by
  show updR S.r i (updR (S.r i) j f) i' j' = _
  by_cases e : i' = i
  · subst e; rw [updR_s, updR_n _ _ (by omega)]
  · rw [updR_n _ _ e]
theorem SAt_r (hS : SAt h b S) {i j : Nat} (hi : i < 3) (hj : j < 5) (f : Nat → Int32) : SAt (z_up h (b + 5 + 6 * i + j) (.inl (0, 7, .inl f))) b (sR S i j f) := ⟨
  by rw [z_up_n _ _ (by omega)]; exact hS.o,
  by rw [z_up_n _ _ (by omega)]; exact hS.l,
  by rw [z_up_n _ _ (by omega)]; exact hS.a,
  by rw [z_up_n _ _ (by omega)]; exact hS.t,
  fun k hk => by rw [z_up_n _ _ (by omega)]; exact hS.m k hk,
  fun i' j' hi' hj' => by
    by_cases e : i' = i ∧ j' = j
    · obtain ⟨rfl, rfl⟩ := e; rw [z_up_s, sR_s]
    · rw [z_up_n _ _ (by omega), sR_n S f (by omega)]; exact hS.r i' j' hi' hj',
  fun k hk => by rw [z_up_n _ _ (by omega)]; exact hS.v k hk⟩
theorem sV_s (S : zS) (i : Nat) (f : Nat → Int32) : (sV S i f).v i = f := updR_s _ _ _
theorem sV_n (S : zS) {i i' : Nat} (f : Nat → Int32) (hn : i' ≠ i) : (sV S i f).v i' = S.v i' := updR_n _ _ hn
theorem SAt_v (hS : SAt h b S) {i : Nat} (hi : i < 8) (f : Nat → Int32) : SAt (z_up h (b + 22 + i) (cT i (sV S i f))) b (sV S i f) := ⟨
  by rw [z_up_n _ _ (by omega)]; exact hS.o,
  by rw [z_up_n _ _ (by omega)]; exact hS.l,
  by rw [z_up_n _ _ (by omega)]; exact hS.a,
  by rw [z_up_n _ _ (by omega)]; exact hS.t,
  fun k hk => by rw [z_up_n _ _ (by omega)]; exact hS.m k hk,
  fun i' j' hi' hj' => by rw [z_up_n _ _ (by omega)]; exact hS.r i' j' hi' hj',
  fun k hk => by
    by_cases e : k = i
    · subst e; exact z_up_s _ _ _
    · rw [z_up_n _ _ (by omega)]; unfold cT; rw [sV_n S f e]; exact hS.v k hk⟩
/-! reads -/
theorem Sck (hS : SAt h b S) : z_ck h 6 (some b) = some b := z_ck_k hS.o
theorem SW (hS : SAt h b S) : z_gJ h 6 0 (some b) = some S.W := z_gJ_k hS.o rfl
theorem ST (hS : SAt h b S) : z_gJ h 6 1 (some b) = some S.T := z_gJ_k hS.o rfl
theorem Sg2 (hS : SAt h b S) : z_gA h 6 2 (some b) = some (some (b + 1)) := z_gA_k hS.o rfl
theorem Sg3 (hS : SAt h b S) : z_gA h 6 3 (some b) = some (some (b + 2)) := z_gA_k hS.o rfl
theorem Sz4 (hS : SAt h b S) : z_gI h 6 4 (some b) = some (S.z 4) := z_gI_k hS.o rfl
theorem Sg5 (hS : SAt h b S) : z_gA h 6 5 (some b) = some (some (b + 3)) := z_gA_k hS.o rfl
theorem Sz6 (hS : SAt h b S) : z_gI h 6 6 (some b) = some (S.z 6) := z_gI_k hS.o rfl
theorem Sz7 (hS : SAt h b S) : z_gI h 6 7 (some b) = some (S.z 7) := z_gI_k hS.o rfl
theorem Sz8 (hS : SAt h b S) : z_gI h 6 8 (some b) = some (S.z 8) := z_gI_k hS.o rfl
theorem SL (hS : SAt h b S) {e : Int} (h1 : 0 ≤ e) (h2 : e < 4) : z_aJ h (some (b + 1)) (iI e) = some (S.L e.toNat) := z_aJ_k hS.l h1 (by simpa using h2) (by decide)
theorem Slen1 (hS : SAt h b S) : z_len h (some (b + 1)) = some (iI 4) := z_len_o hS.l (by omega)
theorem Sarm (hS : SAt h b S) {e : Int} (h1 : 0 ≤ e) (h2 : e < 3) : z_aA h (some (b + 2)) (iI e) = some (some (b + 4 + 6 * e.toNat)) := by
  rw [z_aA_k hS.a (by omega) h1 (by simpa using h2) (by decide), if_pos (by omega)]
theorem Sthg (hS : SAt h b S) {e : Int} (h1 : 0 ≤ e) (h2 : e < 8) : z_aA h (some (b + 3)) (iI e) = some (some (b + 22 + e.toNat)) := by
  rw [z_aA_k hS.t (by omega) h1 (by simpa using h2) (by decide), if_pos (by omega)]
theorem Ack (hS : SAt h b S) {i : Nat} (hi : i < 3) : z_ck h 0 (some (b + 4 + 6 * i)) = some (b + 4 + 6 * i) := z_ck_k (hS.m i hi)
theorem An0 (hS : SAt h b S) {i : Nat} (hi : i < 3) : z_gI h 0 0 (some (b + 4 + 6 * i)) = some (S.n i 0) := z_gI_k (hS.m i hi) rfl
theorem An1 (hS : SAt h b S) {i : Nat} (hi : i < 3) : z_gI h 0 1 (some (b + 4 + 6 * i)) = some (S.n i 1) := z_gI_k (hS.m i hi) rfl
theorem An2 (hS : SAt h b S) {i : Nat} (hi : i < 3) : z_gI h 0 2 (some (b + 4 + 6 * i)) = some (S.n i 2) := z_gI_k (hS.m i hi) rfl
theorem Au (hS : SAt h b S) {i : Nat} (hi : i < 3) : z_gA h 0 3 (some (b + 4 + 6 * i)) = some (S.u i) := z_gA_k (hS.m i hi) rfl
theorem Ag4 (hS : SAt h b S) {i : Nat} (hi : i < 3) : z_gA h 0 4 (some (b + 4 + 6 * i)) = some (some (b + 5 + 6 * i + 0)) := z_gA_k (hS.m i hi) rfl
theorem Ag5 (hS : SAt h b S) {i : Nat} (hi : i < 3) : z_gA h 0 5 (some (b + 4 + 6 * i)) = some (some (b + 5 + 6 * i + 1)) := z_gA_k (hS.m i hi) rfl
theorem Ag6 (hS : SAt h b S) {i : Nat} (hi : i < 3) : z_gA h 0 6 (some (b + 4 + 6 * i)) = some (some (b + 5 + 6 * i + 2)) := z_gA_k (hS.m i hi) rfl
theorem Ag7 (hS : SAt h b S) {i : Nat} (hi : i < 3) : z_gA h 0 7 (some (b + 4 + 6 * i)) = some (some (b + 5 + 6 * i + 3)) := z_gA_k (hS.m i hi) rfl
theorem Ag8 (hS : SAt h b S) {i : Nat} (hi : i < 3) : z_gA h 0 8 (some (b + 4 + 6 * i)) = some (some (b + 5 + 6 * i + 4)) := z_gA_k (hS.m i hi) rfl
theorem Arow (hS : SAt h b S) {i j : Nat} {e : Int} (hi : i < 3) (hj : j < 5) (h1 : 0 ≤ e) (h2 : e < 7) : z_aI h (some (b + 5 + 6 * i + j)) (iI e) = some (S.r i j e.toNat) := z_aI_k (hS.r i j hi hj) (Or.inl rfl) h1 (by simpa using h2) (by decide)
theorem Tv0 (hS : SAt h b S) {i : Nat} (hi : i < 8) : z_gI h 8 0 (some (b + 22 + i)) = some (S.v i 0) := z_gI_k (hS.v i hi) rfl
theorem Tv1 (hS : SAt h b S) {i : Nat} (hi : i < 8) : z_gI h 8 1 (some (b + 22 + i)) = some (S.v i 1) := z_gI_k (hS.v i hi) rfl
theorem Tv2 (hS : SAt h b S) {i : Nat} (hi : i < 8) : z_gI h 8 2 (some (b + 22 + i)) = some (S.v i 2) := z_gI_k (hS.v i hi) rfl
theorem Tv3 (hS : SAt h b S) {i : Nat} (hi : i < 8) : z_gI h 8 3 (some (b + 22 + i)) = some (S.v i 3) := z_gI_k (hS.v i hi) rfl
theorem Tv4 (hS : SAt h b S) {i : Nat} (hi : i < 8) : z_gI h 8 4 (some (b + 22 + i)) = some (S.v i 4) := z_gI_k (hS.v i hi) rfl
theorem Tck (hS : SAt h b S) {i : Nat} (hi : i < 8) : z_ck h 8 (some (b + 22 + i)) = some (b + 22 + i) := z_ck_k (hS.v i hi)
/-! writes -/
theorem SpW (hS : SAt h b S) (x : Int64) : z_pF h 6 0 (some b) (tJ x) = some (z_up h b (c0 b (sW S x))) := z_pF_k hS.o (Nat.le_of_ble_eq_true rfl)
theorem SpT (hS : SAt h b S) (x : Int64) : z_pF h 6 1 (some b) (tJ x) = some (z_up h b (c0 b (sT S x))) := z_pF_k hS.o (Nat.le_of_ble_eq_true rfl)
theorem Sp4 (hS : SAt h b S) (x : Int32) : z_pF h 6 4 (some b) (tI x) = some (z_up h b (c0 b (sZ S 4 x))) := z_pF_k hS.o (Nat.le_of_ble_eq_true rfl)
theorem Sp6 (hS : SAt h b S) (x : Int32) : z_pF h 6 6 (some b) (tI x) = some (z_up h b (c0 b (sZ S 6 x))) := z_pF_k hS.o (Nat.le_of_ble_eq_true rfl)
theorem Sp7 (hS : SAt h b S) (x : Int32) : z_pF h 6 7 (some b) (tI x) = some (z_up h b (c0 b (sZ S 7 x))) := z_pF_k hS.o (Nat.le_of_ble_eq_true rfl)
theorem Sp8 (hS : SAt h b S) (x : Int32) : z_pF h 6 8 (some b) (tI x) = some (z_up h b (c0 b (sZ S 8 x))) := z_pF_k hS.o (Nat.le_of_ble_eq_true rfl)
theorem SwL (hS : SAt h b S) {e : Int} (x : Int64) (h1 : 0 ≤ e) (h2 : e < 4) : z_sJ h (some (b + 1)) (iI e) x = some (z_up h (b + 1) (.inl (3, 4, .inr (.inl (vp_updL S.L e.toNat x))))) := z_sJ_k hS.l h1 (by simpa using h2) (by decide)
theorem sN_s (S : zS) (i j : Nat) (x : Int32) : (sN S i j x).n i = upd (S.n i) j x := updR_s _ _ _
theorem Ap0 (hS : SAt h b S) {i : Nat} (x : Int32) (hi : i < 3) : z_pF h 0 0 (some (b + 4 + 6 * i)) (tI x) = some (z_up h (b + 4 + 6 * i) (cA b i (sN S i 0 x))) := by
  rw [z_pF_k (hS.m i hi) (Nat.le_of_ble_eq_true rfl)]; unfold cA; rw [sN_s]; rfl
theorem Ap1 (hS : SAt h b S) {i : Nat} (x : Int32) (hi : i < 3) : z_pF h 0 1 (some (b + 4 + 6 * i)) (tI x) = some (z_up h (b + 4 + 6 * i) (cA b i (sN S i 1 x))) := by
  rw [z_pF_k (hS.m i hi) (Nat.le_of_ble_eq_true rfl)]; unfold cA; rw [sN_s]; rfl
theorem Ap2 (hS : SAt h b S) {i : Nat} (x : Int32) (hi : i < 3) : z_pF h 0 2 (some (b + 4 + 6 * i)) (tI x) = some (z_up h (b + 4 + 6 * i) (cA b i (sN S i 2 x))) := by
  rw [z_pF_k (hS.m i hi) (Nat.le_of_ble_eq_true rfl)]; unfold cA; rw [sN_s]; rfl
theorem ApU (hS : SAt h b S) {i : Nat} (x : Option Nat) (hi : i < 3) : z_pF h 0 3 (some (b + 4 + 6 * i)) (tA x) = some (z_up h (b + 4 + 6 * i) (cA b i (sU S i x))) := by
  rw [z_pF_k (hS.m i hi) (Nat.le_of_ble_eq_true rfl)]
  have : (sU S i x).u i = x := updR_s _ _ _
  unfold cA; rw [this]; rfl
theorem SAt_n (hS : SAt h b S) {i j : Nat} (x : Int32) (hi : i < 3) : SAt (z_up h (b + 4 + 6 * i) (cA b i (sN S i j x))) b (sN S i j x) := SAt_m hS hi rfl rfl rfl rfl rfl rfl (fun k hk => updR_n _ _ hk) (fun _ _ => rfl)
theorem SAt_u (hS : SAt h b S) {i : Nat} (x : Option Nat) (hi : i < 3) : SAt (z_up h (b + 4 + 6 * i) (cA b i (sU S i x))) b (sU S i x) := SAt_m hS hi rfl rfl rfl rfl rfl rfl (fun _ _ => rfl) (fun k hk => updR_n _ _ hk)
theorem AwR (hS : SAt h b S) {i j : Nat} {e : Int} {x : Int32} (hi : i < 3) (hj : j < 5) (h1 : 0 ≤ e) (h2 : e < 7) : z_sI h (some (b + 5 + 6 * i + j)) (iI e) x = some (z_up h (b + 5 + 6 * i + j) (.inl (0, 7, .inl (upd (S.r i j) e.toNat x)))) := z_sI_k (hS.r i j hi hj) h1 (by simpa using h2) (by decide)
theorem Tp {k : Nat} (hS : SAt h b S) {i : Nat} (x : Int32) (hi : i < 8) (hk : k < 5) : z_pF h 8 k (some (b + 22 + i)) (tI x) = some (z_up h (b + 22 + i) (cT i (sV S i (upd (S.v i) k x)))) := by
  rw [z_pF_k (hS.v i hi) hk]; unfold cT; rw [sV_s]
  rcases (show k = 0 ∨ k = 1 ∨ k = 2 ∨ k = 3 ∨ k = 4 by omega) with rfl | rfl | rfl | rfl | rfl <;> rfl
end SA
/-! what the class's sea says of the numbers -/
def cutv (x : Int) : Int := if x < 0 then 0 else x
def SRel (A : Int → Int) (U : Int → Option Nat) (F : Nat → Nat → Int32) (S : zS) : Prop :=
  (S.W = bset (fun c => A c = 1)) ∧
  (S.T = bset (hasP A)) ∧
  (∀ x : Int, 0 ≤ x → x ≤ 3 → S.L x.toNat = bset (fun c => ∃ t, ly A t c ∧ A (492 + 4 * t) = x)) ∧
  (S.z 4 = iI (A 64)) ∧
  (S.z 6 = iI (A 65)) ∧
  (S.z 7 = iI (A 66)) ∧
  (S.z 8 = iI (A 67)) ∧
  (∀ a, 0 ≤ a → a < A 64 → S.n a.toNat 0 = iI (A (70 + 40 * a))) ∧
  (∀ a, 0 ≤ a → a < A 64 → S.n a.toNat 1 = iI (cutv (A (71 + 40 * a)))) ∧
  (∀ a, 0 ≤ a → a < A 64 → S.n a.toNat 2 = iI (A (72 + 40 * a))) ∧
  (∀ a, 0 ≤ a → a < A 64 → S.u a.toNat = U a) ∧
  (∀ a p, 0 ≤ a → a < A 64 → 0 ≤ p → p < A (70 + 40 * a) → S.r a.toNat 0 p.toNat = iI (A (75 + 40 * a + p))) ∧
  (∀ a p, 0 ≤ a → a < A 64 → 0 ≤ p → p < A (70 + 40 * a) → S.r a.toNat 1 p.toNat = iI (A (82 + 40 * a + p))) ∧
  (∀ a p, 0 ≤ a → a < A 64 → 0 ≤ p → p < A (70 + 40 * a) → S.r a.toNat 2 p.toNat = iI (A (89 + 40 * a + p))) ∧
  (∀ a p, 0 ≤ a → a < A 64 → 0 ≤ p → p < A (70 + 40 * a) → S.r a.toNat 3 p.toNat = iI (A (96 + 40 * a + p))) ∧
  (∀ i, S.r i 4 = F i) ∧
  (∀ t, 0 ≤ t → t < A 65 → S.v t.toNat 0 = iI (A (492 + 4 * t))) ∧
  (∀ t, 0 ≤ t → t < A 65 → S.v t.toNat 1 = iI (A (490 + 4 * t))) ∧
  (∀ t, 0 ≤ t → t < A 65 → A (490 + 4 * t) = 0 → S.v t.toNat 2 = iI (A (491 + 4 * t))) ∧
  (∀ t, 0 ≤ t → t < A 65 → A (490 + 4 * t) ≠ 0 → S.v t.toNat 3 = iI (A (493 + 4 * t) / 10)) ∧
  (∀ t, 0 ≤ t → t < A 65 → A (490 + 4 * t) ≠ 0 → S.v t.toNat 4 = iI (A (493 + 4 * t) % 10))
theorem SRel.w {A : Int → Int} {U : Int → Option Nat} {F : Nat → Nat → Int32} {S : zS} (q : SRel A U F S) : S.W = bset (fun c => A c = 1) := q.1
theorem SRel.k {A : Int → Int} {U : Int → Option Nat} {F : Nat → Nat → Int32} {S : zS} (q : SRel A U F S) : S.T = bset (hasP A) := q.2.1
theorem SRel.l {A : Int → Int} {U : Int → Option Nat} {F : Nat → Nat → Int32} {S : zS} (q : SRel A U F S) : ∀ x : Int, 0 ≤ x → x ≤ 3 → S.L x.toNat = bset (fun c => ∃ t, ly A t c ∧ A (492 + 4 * t) = x) := q.2.2.1
theorem SRel.n4 {A : Int → Int} {U : Int → Option Nat} {F : Nat → Nat → Int32} {S : zS} (q : SRel A U F S) : S.z 4 = iI (A 64) := q.2.2.2.1
theorem SRel.n6 {A : Int → Int} {U : Int → Option Nat} {F : Nat → Nat → Int32} {S : zS} (q : SRel A U F S) : S.z 6 = iI (A 65) := q.2.2.2.2.1
theorem SRel.n7 {A : Int → Int} {U : Int → Option Nat} {F : Nat → Nat → Int32} {S : zS} (q : SRel A U F S) : S.z 7 = iI (A 66) := q.2.2.2.2.2.1
theorem SRel.n8 {A : Int → Int} {U : Int → Option Nat} {F : Nat → Nat → Int32} {S : zS} (q : SRel A U F S) : S.z 8 = iI (A 67) := q.2.2.2.2.2.2.1
theorem SRel.m0 {A : Int → Int} {U : Int → Option Nat} {F : Nat → Nat → Int32} {S : zS} (q : SRel A U F S) : ∀ a, 0 ≤ a → a < A 64 → S.n a.toNat 0 = iI (A (70 + 40 * a)) := q.2.2.2.2.2.2.2.1
theorem SRel.m1 {A : Int → Int} {U : Int → Option Nat} {F : Nat → Nat → Int32} {S : zS} (q : SRel A U F S) : ∀ a, 0 ≤ a → a < A 64 → S.n a.toNat 1 = iI (cutv (A (71 + 40 * a))) := q.2.2.2.2.2.2.2.2.1
theorem SRel.m2 {A : Int → Int} {U : Int → Option Nat} {F : Nat → Nat → Int32} {S : zS} (q : SRel A U F S) : ∀ a, 0 ≤ a → a < A 64 → S.n a.toNat 2 = iI (A (72 + 40 * a)) := q.2.2.2.2.2.2.2.2.2.1
theorem SRel.u {A : Int → Int} {U : Int → Option Nat} {F : Nat → Nat → Int32} {S : zS} (q : SRel A U F S) : ∀ a, 0 ≤ a → a < A 64 → S.u a.toNat = U a := q.2.2.2.2.2.2.2.2.2.2.1
theorem SRel.r0 {A : Int → Int} {U : Int → Option Nat} {F : Nat → Nat → Int32} {S : zS} (q : SRel A U F S) : ∀ a p, 0 ≤ a → a < A 64 → 0 ≤ p → p < A (70 + 40 * a) → S.r a.toNat 0 p.toNat = iI (A (75 + 40 * a + p)) := q.2.2.2.2.2.2.2.2.2.2.2.1
theorem SRel.r1 {A : Int → Int} {U : Int → Option Nat} {F : Nat → Nat → Int32} {S : zS} (q : SRel A U F S) : ∀ a p, 0 ≤ a → a < A 64 → 0 ≤ p → p < A (70 + 40 * a) → S.r a.toNat 1 p.toNat = iI (A (82 + 40 * a + p)) := q.2.2.2.2.2.2.2.2.2.2.2.2.1
theorem SRel.r2 {A : Int → Int} {U : Int → Option Nat} {F : Nat → Nat → Int32} {S : zS} (q : SRel A U F S) : ∀ a p, 0 ≤ a → a < A 64 → 0 ≤ p → p < A (70 + 40 * a) → S.r a.toNat 2 p.toNat = iI (A (89 + 40 * a + p)) := q.2.2.2.2.2.2.2.2.2.2.2.2.2.1
theorem SRel.r3 {A : Int → Int} {U : Int → Option Nat} {F : Nat → Nat → Int32} {S : zS} (q : SRel A U F S) : ∀ a p, 0 ≤ a → a < A 64 → 0 ≤ p → p < A (70 + 40 * a) → S.r a.toNat 3 p.toNat = iI (A (96 + 40 * a + p)) := q.2.2.2.2.2.2.2.2.2.2.2.2.2.2.1
theorem SRel.f {A : Int → Int} {U : Int → Option Nat} {F : Nat → Nat → Int32} {S : zS} (q : SRel A U F S) : ∀ i, S.r i 4 = F i := q.2.2.2.2.2.2.2.2.2.2.2.2.2.2.2.1
theorem SRel.v0 {A : Int → Int} {U : Int → Option Nat} {F : Nat → Nat → Int32} {S : zS} (q : SRel A U F S) : ∀ t, 0 ≤ t → t < A 65 → S.v t.toNat 0 = iI (A (492 + 4 * t)) := q.2.2.2.2.2.2.2.2.2.2.2.2.2.2.2.2.1
theorem SRel.v1 {A : Int → Int} {U : Int → Option Nat} {F : Nat → Nat → Int32} {S : zS} (q : SRel A U F S) : ∀ t, 0 ≤ t → t < A 65 → S.v t.toNat 1 = iI (A (490 + 4 * t)) := q.2.2.2.2.2.2.2.2.2.2.2.2.2.2.2.2.2.1
theorem SRel.v2 {A : Int → Int} {U : Int → Option Nat} {F : Nat → Nat → Int32} {S : zS} (q : SRel A U F S) : ∀ t, 0 ≤ t → t < A 65 → A (490 + 4 * t) = 0 → S.v t.toNat 2 = iI (A (491 + 4 * t)) := q.2.2.2.2.2.2.2.2.2.2.2.2.2.2.2.2.2.2.1
theorem SRel.v3 {A : Int → Int} {U : Int → Option Nat} {F : Nat → Nat → Int32} {S : zS} (q : SRel A U F S) : ∀ t, 0 ≤ t → t < A 65 → A (490 + 4 * t) ≠ 0 → S.v t.toNat 3 = iI (A (493 + 4 * t) / 10) := q.2.2.2.2.2.2.2.2.2.2.2.2.2.2.2.2.2.2.2.1
theorem SRel.v4 {A : Int → Int} {U : Int → Option Nat} {F : Nat → Nat → Int32} {S : zS} (q : SRel A U F S) : ∀ t, 0 ≤ t → t < A 65 → A (490 + 4 * t) ≠ 0 → S.v t.toNat 4 = iI (A (493 + 4 * t) % 10) := q.2.2.2.2.2.2.2.2.2.2.2.2.2.2.2.2.2.2.2.2
