section CS
variable {ws tS b : Nat} {D : Nat → Prop} {A : Int → Int} {Q : Int → List zKl} {U : Int → Option Nat} {a t : Int} {n : Nat}
theorem C_searchL (hg : good A Q A) (ha : 0 ≤ a ∧ a < A 64) (ht : 0 ≤ t ∧ t < A 65) (h2 : A (490 + 4 * t) ≠ 2) (hn : 1 ≤ n ∧ n ≤ 20) (hts : tS < ws ∨ ws + 153 ≤ tS) (hD : ∀ q, D q → q < ws ∨ ws + 153 ≤ q) {h0 : zH} {F : Nat → Nat → Int32} (hST0 : hST h0 tS) (hRU : RUs D h0 A U Q) (hS : SR h0 (ws + 3) A U F) : ∀ (d c : Nat) (h : zH) (g : Nat → Int32), c + d = 5 → 1 ≤ c → fw ws 0 h0 h → WSAt h ws (iI a) (iI t) (iI (n : Int)) g → (∀ j, 0 < j → j ≤ 4 → ∃ S, SAt h (ws + 3 + 30 * j) S) → (∀ c', 1 ≤ c' → c' < c → ∀ r', r' < 4 ^ c' → ¬ EV A Q a t n c' r') →
    ∃ res h' g', f_X9_search_b29 tS (some ws) (iI (c : Int)) h = some (res, h') ∧ fw ws 0 h0 h' ∧ WSAt h' ws (iI a) (iI t) (iI (n : Int)) g' ∧ (∀ j, 0 < j → j ≤ 4 → ∃ S, SAt h' (ws + 3 + 30 * j) S) ∧ ((res = iI 0 ∧ FN A Q a t n) ∨ ∃ c' r, FW A Q a t n c' r ∧ res = iI (c' : Int) ∧ ∀ i, i < c' → g' i = iI ((dgt c' r i : Nat) : Int)) := by
  intro d
  induction d with
  | zero =>
    intro c h g hc _ hf hWS hsea hsh
    refine ⟨iI 0, h, g, ?_, hf, hWS, hsea, Or.inl ⟨rfl, fun c' q1 q2 => hsh c' q1 (by omega)⟩⟩
    unfold f_X9_search_b29
    refine z_it_done ?_
    show f_X9_search_c29 tS (some ws) (iI (c : Int)) h = _
    unfold f_X9_search_c29
    simp only [iI_lit, iI_add, iI_sub, iI_mul, iI_neg]
    rw [if_pos (cLt (by omega))]; rfl
  | succ d ih =>
    intro c h g hc hc1 hf hWS hsea hsh
    have ST1 : hST h tS := by unfold hST; rw [hf tS (by omega) (by omega)]; exact hST0
    have S1 : SR h (ws + 3) A U F := SR_fr hS (fun q q1 q2 => hf q (by omega) (by omega))
    obtain ⟨res, h1, z1, g1, z2, z3, z4, z5⟩ := C_few1 (U := U) hg ha ht h2 hn hts hD (c := c) (by omega) hsh (c - 1) 6 0 (by omega) (by omega) 0 h g F (by decide) ST1 (RUs_fw hD hRU hf) hWS (fun i hi => absurd hi (by omega)) S1 hsea
    have pre : f_X9_search_c29 tS (some ws) (iI (c : Int)) h = if res = iI 0 then some (.inl (some ws, iI ((c + 1 : Nat) : Int), h1)) else some (.inr (iI (c : Int), h1)) := by
      have z1' : f_X9_isEatenBy tS 6 (some ws) (iI (c : Int)) (iI 0) h = some (res, h1) := z1
      unfold f_X9_search_c29
      simp only [iI_lit, iI_add, iI_sub, iI_mul, iI_neg]
      rw [if_neg (nLt (by omega)), WSck hWS, Option.bind_some, z1', z_b2_some]
      split <;> rfl
    have d0 : ∀ r, r < 4 ^ c → r / 4 ^ (c - 0) = 0 := fun r hr => Nat.div_eq_of_lt hr
    rcases z5 with ⟨rfl, r, y1, y2, y3, y4⟩ | ⟨rfl, y1, y2⟩
    · have hr : r < 4 ^ c := by
        rw [Nat.sub_zero] at y1
        exact (Nat.div_eq_zero_iff_lt (pow4_pos c)).mp y1
      refine ⟨_, h1, g1, ?_, fw_tr hf z2, z3, z4, Or.inr ⟨c, r, ⟨⟨hc1, by omega, hr⟩, y2, fun r' q => y3 r' q (d0 r' (by omega)), hsh⟩, rfl, y4⟩⟩
      unfold f_X9_search_b29
      refine z_it_done (s := (some ws, iI (c : Int), h)) ?_
      rw [pre, if_neg iI_01]
    · obtain ⟨res, h', g', x1, x2⟩ := ih (c + 1) h1 g1 (by omega) (by omega) (fw_tr hf z2) z3 z4 (fun c' q1 q2 r' hr' => by
        by_cases e : c' = c
        · subst e; exact y1 r' (d0 r' hr')
        · exact hsh c' q1 (by omega) r' hr')
      refine ⟨res, h', g', ?_, x2⟩
      rw [← x1]
      unfold f_X9_search_b29
      refine z_it_next (s := (some ws, iI (c : Int), h)) ?_
      rw [pre, if_pos rfl]
theorem C_search (hg : good A Q A) (ha : 0 ≤ a ∧ a < A 64) (ht : 0 ≤ t ∧ t < A 65) (h2 : A (490 + 4 * t) ≠ 2) (hn : 1 ≤ n ∧ n ≤ 20) (hts : tS < ws ∨ ws + 153 ≤ tS) (hD : ∀ q, D q → q < ws ∨ ws + 153 ≤ q) (hb : b + 30 ≤ ws ∨ ws + 153 ≤ b) {h : zH} {F : Nat → Nat → Int32} {x y z : Int32} {g : Nat → Int32} (hST0 : hST h tS) (hRU : RUs D h A U Q) (hS : SR h b A U F) (hWS : WSAt h ws x y z g) (hsea : ∀ j, j ≤ 4 → ∃ S, SAt h (ws + 3 + 30 * j) S) :
    ∃ res h' g', f_X9_search tS (some ws) (some b) (iI a) (iI t) (iI (n : Int)) h = some (res, h') ∧ fr ws 153 h h' ∧ WSAt h' ws (iI a) (iI t) (iI (n : Int)) g' ∧ (∀ j, j ≤ 4 → ∃ S, SAt h' (ws + 3 + 30 * j) S) ∧ ((res = iI 0 ∧ FN A Q a t n) ∨ ∃ c' r, FW A Q a t n c' r ∧ res = iI (c' : Int) ∧ ∀ i, i < c' → g' i = iI ((dgt c' r i : Nat) : Int)) := by
  have w1 : z_pF h 9 2 (some ws) (tI (iI a)) = some (z_up h ws (.inr (9, [tA (some (ws + 1)), tA (some (ws + 2)), tI (iI a), tI y, tI z]))) := z_pF_k hWS.1 (Nat.le_of_ble_eq_true rfl)
  have w2 : z_pF (z_up h ws (.inr (9, [tA (some (ws + 1)), tA (some (ws + 2)), tI (iI a), tI y, tI z]))) 9 3 (some ws) (tI (iI t)) = some (z_up (z_up h ws (.inr (9, [tA (some (ws + 1)), tA (some (ws + 2)), tI (iI a), tI y, tI z]))) ws (.inr (9, [tA (some (ws + 1)), tA (some (ws + 2)), tI (iI a), tI (iI t), tI z]))) := z_pF_k (z_up_s _ _ _) (Nat.le_of_ble_eq_true rfl)
  have w3 : z_pF (z_up (z_up h ws (.inr (9, [tA (some (ws + 1)), tA (some (ws + 2)), tI (iI a), tI y, tI z]))) ws (.inr (9, [tA (some (ws + 1)), tA (some (ws + 2)), tI (iI a), tI (iI t), tI z]))) 9 4 (some ws) (tI (iI (n : Int))) = some (z_up (z_up (z_up h ws (.inr (9, [tA (some (ws + 1)), tA (some (ws + 2)), tI (iI a), tI y, tI z]))) ws (.inr (9, [tA (some (ws + 1)), tA (some (ws + 2)), tI (iI a), tI (iI t), tI z]))) ws (.inr (9, [tA (some (ws + 1)), tA (some (ws + 2)), tI (iI a), tI (iI t), tI (iI (n : Int))]))) := z_pF_k (z_up_s _ _ _) (Nat.le_of_ble_eq_true rfl)
  have hx : ∃ h3, h3 = z_up (z_up (z_up h ws (.inr (9, [tA (some (ws + 1)), tA (some (ws + 2)), tI (iI a), tI y, tI z]))) ws (.inr (9, [tA (some (ws + 1)), tA (some (ws + 2)), tI (iI a), tI (iI t), tI z]))) ws (.inr (9, [tA (some (ws + 1)), tA (some (ws + 2)), tI (iI a), tI (iI t), tI (iI (n : Int))])) := ⟨_, rfl⟩
  obtain ⟨h3, e3⟩ := hx
  rw [← e3] at w3
  have o3 : ∀ q, q ≠ ws → h3 q = h q := fun q hq => by rw [e3, z_up_n _ _ hq, z_up_n _ _ hq, z_up_n _ _ hq]
  have ws3 : WSAt h3 ws (iI a) (iI t) (iI (n : Int)) g := ⟨by rw [e3, z_up_s], by rw [o3 _ (by omega)]; exact hWS.2.1, by rw [o3 _ (by omega)]; exact hWS.2.2⟩
  obtain ⟨S, s1, s2⟩ := SR_fr (h' := h3) hS (fun q q1 q2 => o3 q (by omega))
  obtain ⟨S0, s0⟩ := hsea 0 (by omega)
  have s0' : SAt h3 (ws + 3) S0 := SAt_fr (b := ws + 3) s0 (fun q q1 q2 => o3 q (by omega))
  obtain ⟨h4, b1, b2, b3⟩ := C_become s0' s1 s2 hg.1 (by omega)
  have o4 : ∀ q, q ≠ ws → (q < ws + 3 ∨ ws + 33 ≤ q) → h4 q = h q := fun q q1 q2 => by rw [b3 q (by omega)]; exact o3 q q1
  have ws4 := WSAt_fr ws3 (h' := h4) (fun q q1 q2 => b3 q (by omega))
  obtain ⟨res, h5, g5, x1, x2, x3, x4, x5⟩ := C_searchL (U := U) (h0 := h4) hg ha ht h2 hn hts hD (by unfold hST; rw [o4 tS (by omega) (by omega)]; exact hST0) (fun a' g1 g2 => RU_mono (fun q hq => ⟨hq, by have := hD q hq; exact o4 q (by omega) (by omega)⟩) (hRU a' g1 g2)) b2 4 1 h4 g (by omega) (by omega) (fw_rf _ _ _) ws4 (fun j j1 j2 => by
    obtain ⟨Sj, sj⟩ := hsea j j2
    exact ⟨Sj, SAt_fr sj (fun q q1 q2 => o4 q (by omega) (by omega))⟩) (fun c' q1 q2 => absurd q2 (by omega))
  refine ⟨res, h5, g5, ?_, fun q hq => ?_, x3, fun j hj => ?_, x5⟩
  · unfold f_X9_search
    simp only [iI_lit, iI_add, iI_sub, iI_mul, iI_neg]
    rw [w1, Option.bind_some, w2, Option.bind_some, w3, Option.bind_some, WS1 ws3, Option.bind_some, WSb ws3 (by omega) (by omega), Option.bind_some]
    show ((z_ck h3 6 (some (ws + 3))).bind fun _ => (f_X6_become (some (ws + 3)) (some b) h3).bind fun h7 => f_X9_search_b29 tS (some ws) (iI 1) h7) = _
    rw [Sck s0', Option.bind_some, b1, Option.bind_some]
    exact x1
  · rw [x2 q (by omega) (by omega)]; exact o4 q (by omega) (by omega)
  · by_cases e : j = 0
    · subst e
      obtain ⟨S4, s4, -⟩ := b2
      exact ⟨S4, SAt_fr (b := ws + 3) s4 (fun q q1 q2 => x2 q (by omega) (by omega))⟩
    · exact x4 j (by omega) hj
end CS
