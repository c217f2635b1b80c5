/-! THE TEXT's FAULTS: the reference's machine -/
abbrev zM : Type := Int × Int × Int × Int
def smStep (s : zM) (c : Int) : Option zM :=
  if c = 32 then some s
  else if s.1 < 2 then
    (if c = 119 ∨ c = 116 ∨ c = 109 then some (2, s.2.1, s.2.2.1, s.2.2.2)
     else if c = 104 ∨ c = 120 ∨ c = 42 then some (3, s.2.1, s.2.2.1, s.2.2.2)
     else if c = 33 ∧ s.1 = 0 then some (1, s.2.1, s.2.2.1, s.2.2.2)
     else if c = 40 ∧ s.2.1 < 4 then some (0, s.2.1 + 1, s.2.2.1, s.2.2.2)
     else none)
  else if s.1 = 2 ∨ s.1 = 6 then (if 48 ≤ c ∧ c ≤ 51 then some ((if s.1 = 2 then 3 else 5), s.2.1, s.2.2.1, s.2.2.2) else none)
  else if s.1 = 3 then
    (if c = 38 ∨ c = 124 then some (0, s.2.1, 0, s.2.2.2)
     else if c = 41 ∧ 0 < s.2.1 then some (3, s.2.1 - 1, 0, s.2.2.2)
     else if c = 58 ∧ s.2.1 = 0 then some (4, s.2.1, 0, s.2.2.2)
     else none)
  else if c = 59 ∧ s.1 = 5 ∧ s.2.2.2 < 6 then some (0, s.2.1, s.2.2.1, s.2.2.2 + 1)
  else if s.2.2.1 < 4 then
    (if c = 102 ∨ c = 103 ∨ c = 112 ∨ c = 100 then some (5, s.2.1, s.2.2.1 + 1, s.2.2.2)
     else if c = 115 ∨ c = 111 then some (6, s.2.1, s.2.2.1 + 1, s.2.2.2)
     else none)
  else none
def smf (T : Nat → Int) : Nat → Nat → zM → Int × Int
  | 0, k, s => (if s.1 = 5 then -4 else (k : Int), s.2.2.2)
  | n + 1, k, s => match smStep s (T k) with
    | none => ((k : Int), s.2.2.2)
    | some s' => smf T n (k + 1) s'
def smOk (s : zM) : Prop := (0 ≤ s.1 ∧ s.1 ≤ 6) ∧ (0 ≤ s.2.1 ∧ s.2.1 ≤ 4) ∧ (0 ≤ s.2.2.1 ∧ s.2.2.1 ≤ 4) ∧ (1 ≤ s.2.2.2 ∧ s.2.2.2 ≤ 6)
theorem smStep_ok {s s' : zM} {c : Int} (hs : smOk s) (h : smStep s c = some s') : smOk s' := by
  obtain ⟨st, op, ac, cl⟩ := s
  unfold smOk at hs ⊢
  simp only at hs
  unfold smStep at h
  simp only at h
  repeat' split at h
  all_goals first
    | (cases h; done)
    | (cases h; simp only; omega)
    | (cases h; simp only; split <;> omega)
/-- what is left of the text, without blanks -/
def rs (T : Nat → Int) : Nat → Nat → List Int
  | 0, _ => []
  | n + 1, k => if T k = 32 then rs T n (k + 1) else T k :: rs T n (k + 1)
section RF
variable {m : Nat} {A : Int → Int} {T : Nat → Int} {N : Nat}
def ucl (Y : Nat → Nat → Int32) (x : Int) : Nat → Nat → Int32 := updR Y 0 (upd (Y 0) 10 (iI x))
def hcl (h : zH) (m : Nat) (Y : Nat → Nat → Int32) (x : Int) : zH := z_up h m (mL m 0 (upd (Y 0) 10 (iI x)))
theorem MR_cl {h : zH} {Y : Nat → Nat → Int32} (hM : MR h m A Y) (x : Int) : MR (hcl h m Y x) m A (ucl Y x) := MR_up hM (k := 0) (by omega) (by omega) _
/-- only the count of clauses has changed -/
def oc (Y Y' : Nat → Nat → Int32) : Prop := (∀ k, k ≠ 0 → Y' k = Y k) ∧ ∀ j, j ≠ 10 → Y' 0 j = Y 0 j
theorem oc_rf (Y : Nat → Nat → Int32) : oc Y Y := ⟨fun _ _ => rfl, fun _ _ => rfl⟩
theorem oc_tr {Y Y1 Y2 : Nat → Nat → Int32} (a : oc Y Y1) (c : oc Y1 Y2) : oc Y Y2 := ⟨fun k hk => (c.1 k hk).trans (a.1 k hk), fun j hj => (c.2 j hj).trans (a.2 j hj)⟩
theorem oc_cl (Y : Nat → Nat → Int32) (x : Int) : oc Y (ucl Y x) := ⟨fun k hk => updR_n _ _ hk, fun j hj => by unfold ucl; rw [updR_s, pk_un hj]⟩
theorem ucl_s (Y : Nat → Nat → Int32) (x : Int) : ucl Y x 0 10 = iI x := by unfold ucl; rw [updR_s, pk_us]
theorem Ma5 {h : zH} {Y : Nat → Nat → Int32} (hM : MR h m A Y) {e : Int} (h1 : 0 ≤ e) (h2 : e < 100) : z_aI h (some (m + 5)) (iI e) = some (Y 5 e.toNat) := z_aI_k (hM.1 5 (by omega)) (Or.inl rfl) h1 (by simpa using h2) (by decide)
theorem R_in2 {h : zH} {v lo hi : Int} (hv : (-2147483648 ≤ v ∧ v < 2147483648) ∧ (-2147483648 ≤ lo ∧ lo < 2147483648) ∧ (-2147483648 ≤ hi ∧ hi < 2147483648)) : f_X11_in (iI v) (iI lo) (iI hi) h = some (tb (lo ≤ v ∧ v ≤ hi), h) := by
  rw [R_in, iI_le hv.2.1.1 hv.2.1.2 hv.1.1 hv.1.2, iI_le hv.1.1 hv.1.2 hv.2.2.1 hv.2.2.2]
/-- the machine's answer to one byte -/
def smAns (m : Nat) (k : Int) (h h' : zH) (r : Option zM) : Option (((Option Nat) × Int32 × Int32 × Int32 × Int32 × zH) ⊕ (Int32 × zH)) := match r with
  | none => some (.inr (iI k, h))
  | some s => some (.inl (some m, iI s.1, iI s.2.1, iI s.2.2.1, iI (k + 1), h'))
theorem b397_y {h : zH} {op ac k st : Int} (hs : 0 ≤ st ∧ st ≤ 6) : f_X11_faultOf_b397 (some m) (iI op) (iI ac) (iI k) (iI st) h = some (.inl (some m, iI st, iI op, iI ac, iI (k + 1), h)) := by
  unfold f_X11_faultOf_b397
  simp only [iI_lit, iI_add, iI_sub, iI_mul, iI_neg]
  rw [if_pos (cLe (by omega))]
theorem b397_n {h : zH} {op ac k : Int} : f_X11_faultOf_b397 (some m) (iI op) (iI ac) (iI k) (iI (-4)) h = some (.inr (iI k, h)) := by
  unfold f_X11_faultOf_b397
  simp only [iI_lit, iI_add, iI_sub, iI_mul, iI_neg]
  rw [if_neg (nLe (by omega))]; rfl
theorem sm_c0 {h : zH} {st op ac cl k c : Int} (hs : smOk (st, op, ac, cl)) (hc : 33 ≤ c ∧ c ≤ 126) (h2 : st < 2) : (if iI c = iI 40 then (if iI 4 ≤ iI op then f_X11_faultOf_b70 (some m) (iI st) (iI op) (iI ac) (iI k) (iI c) h else f_X11_faultOf_b71 (some m) (iI st) (iI op) (iI ac) (iI k) (iI c) (iI 1) h) else f_X11_faultOf_b70 (some m) (iI st) (iI op) (iI ac) (iI k) (iI c) h) = smAns m k h h (smStep (st, op, ac, cl) c) := by
  unfold smOk at hs
  simp only at hs
  have e32 : ¬ c = 32 := by omega
  unfold smStep
  simp only
  rw [if_neg e32, if_pos h2]
  by_cases q1 : c = 119 ∨ c = 116 ∨ c = 109
  · rw [if_pos q1]
    have hx : f_X11_faultOf_b94 (some m) (iI op) (iI ac) (iI k) (iI 0) h = some (.inl (some m, iI 2, iI op, iI ac, iI (k + 1), h)) := by
      simp (disch := omega) only [f_X11_faultOf_b94, f_X11_faultOf_b149, f_X11_faultOf_b162, iI_lit, iI_add, iI_sub, iI_mul, iI_neg, iteEq, if_pos, if_true, b397_y, Int.add_zero]
    simp (disch := omega) only [f_X11_faultOf_b70, f_X11_faultOf_b71, iI_lit, iI_add, iI_sub, iI_mul, iI_neg, iteEq, if_neg, smAns]
    rcases q1 with q | q | q <;> simp (disch := omega) only [q, if_pos, if_neg, if_true, if_false, hx]
  · rw [if_neg q1]
    by_cases q2 : c = 104 ∨ c = 120 ∨ c = 42
    · rw [if_pos q2]
      have hx : f_X11_faultOf_b119 (some m) (iI op) (iI ac) (iI k) (iI 0) h = some (.inl (some m, iI 3, iI op, iI ac, iI (k + 1), h)) := by
        simp (disch := omega) only [f_X11_faultOf_b119, f_X11_faultOf_b149, f_X11_faultOf_b162, iI_lit, iI_add, iI_sub, iI_mul, iI_neg, iteEq, if_pos, if_true, b397_y, Int.add_zero]
      simp (disch := omega) only [f_X11_faultOf_b70, f_X11_faultOf_b71, iI_lit, iI_add, iI_sub, iI_mul, iI_neg, iteEq, if_neg, smAns]
      rcases q2 with q | q | q <;> simp (disch := omega) only [q, if_pos, if_neg, if_true, if_false, hx]
    · rw [if_neg q2]
      have hn : f_X11_faultOf_b138 (some m) (iI op) (iI ac) (iI k) (iI 0) h = some (.inr (iI k, h)) := by
        simp (disch := omega) only [f_X11_faultOf_b138, f_X11_faultOf_b149, f_X11_faultOf_b162, iI_lit, iI_add, iI_sub, iI_mul, iI_neg, iteEq, if_pos, if_true, b397_n, Int.add_zero]
      by_cases q3 : c = 33
      · have e40 : ¬ c = 40 := by omega
        simp (disch := omega) only [f_X11_faultOf_b70, f_X11_faultOf_b71, iI_lit, iI_add, iI_sub, iI_mul, iI_neg, iteEq, if_neg, if_pos, if_true, if_false]
        by_cases q4 : st = 0
        · rw [if_pos (show c = 33 ∧ st = 0 from ⟨q3, q4⟩), if_pos q4]
          simp (disch := omega) only [f_X11_faultOf_b149, f_X11_faultOf_b162, iI_lit, iI_add, iI_sub, iI_mul, iI_neg, iteEq, if_pos, if_true, b397_y, Int.add_zero, smAns]
        · rw [if_neg (show ¬ (c = 33 ∧ st = 0) from fun e => q4 e.2), if_neg q4, hn]; rfl
      · rw [if_neg (show ¬ (c = 33 ∧ st = 0) from fun e => q3 e.1)]
        by_cases q5 : c = 40
        · by_cases q6 : op < 4
          · rw [if_pos (show c = 40 ∧ op < 4 from ⟨q5, q6⟩)]
            simp (disch := omega) only [f_X11_faultOf_b71, f_X11_faultOf_b138, f_X11_faultOf_b149, f_X11_faultOf_b162, iI_lit, iI_add, iI_sub, iI_mul, iI_neg, iteEq, iteLe, if_neg, if_pos, if_true, b397_y, smAns]
          · rw [if_neg (show ¬ (c = 40 ∧ op < 4) from fun e => q6 e.2)]
            simp (disch := omega) only [f_X11_faultOf_b70, f_X11_faultOf_b71, iI_lit, iI_add, iI_sub, iI_mul, iI_neg, iteEq, iteLe, if_neg, if_pos, if_true, if_false, hn, smAns]
        · rw [if_neg (show ¬ (c = 40 ∧ op < 4) from fun e => q5 e.1)]
          simp (disch := omega) only [f_X11_faultOf_b70, f_X11_faultOf_b71, iI_lit, iI_add, iI_sub, iI_mul, iI_neg, iteEq, if_neg, if_pos, if_true, if_false, hn, smAns]
theorem sm_c2 {h : zH} {st op ac cl k c : Int} (hs : smOk (st, op, ac, cl)) (hc : 33 ≤ c ∧ c ≤ 126) (h2 : st = 2 ∨ st = 6) : f_X11_faultOf_b178 (some m) (iI st) (iI op) (iI ac) (iI k) (iI c) h = smAns m k h h (smStep (st, op, ac, cl) c) := by
  unfold smOk at hs
  simp only at hs
  unfold smStep
  simp only
  rw [if_neg (show ¬ c = 32 by omega), if_neg (show ¬ st < 2 by omega), if_pos h2]
  unfold f_X11_faultOf_b178
  simp only [iI_lit, iI_add, iI_sub, iI_mul, iI_neg]
  rw [R_in2 (by omega), z_b2_some, ite_tb]
  by_cases q : 48 ≤ c ∧ c ≤ 51
  · rw [if_pos q, if_pos q, iteEq (by omega)]
    by_cases q2 : st = 2
    · rw [if_pos q2, if_pos q2, f_X11_faultOf_b205, b397_y (by omega)]; rfl
    · rw [if_neg q2, if_neg q2, f_X11_faultOf_b205, b397_y (by omega)]; rfl
  · rw [if_neg q, if_neg q, f_X11_faultOf_b205, b397_n]; rfl
theorem sm_c3 {h : zH} {op ac cl k c : Int} (hs : smOk (3, op, ac, cl)) (hc : 33 ≤ c ∧ c ≤ 126) : (if iI c = iI 41 then (if iI op ≤ iI 0 then f_X11_faultOf_b230 (some m) (iI op) (iI k) (iI c) h else f_X11_faultOf_b231 (some m) (iI op) (iI k) (iI c) (iI 1) h) else f_X11_faultOf_b230 (some m) (iI op) (iI k) (iI c) h) = smAns m k h h (smStep (3, op, ac, cl) c) := by
  unfold smOk at hs
  simp only at hs
  unfold smStep
  simp only
  rw [if_neg (show ¬ c = 32 by omega), if_neg (show ¬ (3 : Int) < 2 by omega), if_neg (show ¬ ((3 : Int) = 2 ∨ (3 : Int) = 6) by omega), if_true]
  have hn : f_X11_faultOf_b275 (some m) (iI op) (iI k) (iI 0) h = some (.inr (iI k, h)) := by
    simp (disch := omega) only [f_X11_faultOf_b275, f_X11_faultOf_b277, f_X11_faultOf_b290, iI_lit, iI_add, iI_sub, iI_mul, iI_neg, iteEq, if_pos, if_true, b397_n]
  by_cases q1 : c = 38 ∨ c = 124
  · rw [if_pos q1]
    have hx : f_X11_faultOf_b247 (some m) (iI op) (iI k) (iI 0) h = some (.inl (some m, iI 0, iI op, iI 0, iI (k + 1), h)) := by
      simp (disch := omega) only [f_X11_faultOf_b247, f_X11_faultOf_b277, f_X11_faultOf_b290, iI_lit, iI_add, iI_sub, iI_mul, iI_neg, iteEq, if_pos, if_true, b397_y, Int.sub_zero]
    simp (disch := omega) only [f_X11_faultOf_b230, f_X11_faultOf_b231, iI_lit, iI_add, iI_sub, iI_mul, iI_neg, iteEq, if_neg, smAns]
    rcases q1 with q | q <;> simp (disch := omega) only [q, if_pos, if_neg, if_true, if_false, hx]
  · rw [if_neg q1]
    by_cases q2 : c = 41
    · by_cases q3 : 0 < op
      · rw [if_pos (show c = 41 ∧ 0 < op from ⟨q2, q3⟩)]
        simp (disch := omega) only [f_X11_faultOf_b231, f_X11_faultOf_b277, f_X11_faultOf_b290, iI_lit, iI_add, iI_sub, iI_mul, iI_neg, iteEq, iteLe, if_neg, if_pos, if_true, b397_y, smAns]
      · rw [if_neg (show ¬ (c = 41 ∧ 0 < op) from fun e => q3 e.2), if_neg (show ¬ (c = 58 ∧ op = 0) by omega)]
        simp (disch := omega) only [f_X11_faultOf_b230, f_X11_faultOf_b231, iI_lit, iI_add, iI_sub, iI_mul, iI_neg, iteEq, iteLe, if_neg, if_pos, if_true, if_false, hn, smAns]
    · rw [if_neg (show ¬ (c = 41 ∧ 0 < op) from fun e => q2 e.1)]
      by_cases q4 : c = 58
      · by_cases q5 : op = 0
        · rw [if_pos (show c = 58 ∧ op = 0 from ⟨q4, q5⟩)]
          simp (disch := omega) only [f_X11_faultOf_b230, f_X11_faultOf_b231, f_X11_faultOf_b277, f_X11_faultOf_b290, iI_lit, iI_add, iI_sub, iI_mul, iI_neg, iteEq, iteLe, if_neg, if_pos, if_true, b397_y, smAns, Int.sub_zero]
        · rw [if_neg (show ¬ (c = 58 ∧ op = 0) from fun e => q5 e.2)]
          simp (disch := omega) only [f_X11_faultOf_b230, f_X11_faultOf_b231, iI_lit, iI_add, iI_sub, iI_mul, iI_neg, iteEq, iteLe, if_neg, if_pos, if_true, if_false, hn, smAns]
      · rw [if_neg (show ¬ (c = 58 ∧ op = 0) from fun e => q4 e.1)]
        simp (disch := omega) only [f_X11_faultOf_b230, f_X11_faultOf_b231, iI_lit, iI_add, iI_sub, iI_mul, iI_neg, iteEq, iteLe, if_neg, if_pos, if_true, if_false, hn, smAns]
theorem sm_c4 {h : zH} {st op ac cl k c : Int} (hs : smOk (st, op, ac, cl)) (hc : 33 ≤ c ∧ c ≤ 126) (h4 : st = 4 ∨ st = 5) (h5 : ¬ (c = 59 ∧ st = 5 ∧ cl < 6)) : f_X11_faultOf_b334 (some m) (iI op) (iI ac) (iI k) (iI c) (iI (-4)) h = smAns m k h h (smStep (st, op, ac, cl) c) := by
  unfold smOk at hs
  simp only at hs
  unfold smStep
  simp only
  rw [if_neg (show ¬ c = 32 by omega), if_neg (show ¬ st < 2 by omega), if_neg (show ¬ (st = 2 ∨ st = 6) by omega), if_neg (show ¬ st = 3 by omega), if_neg h5]
  by_cases q0 : ac < 4
  · rw [if_pos q0]
    by_cases q1 : c = 102 ∨ c = 103 ∨ c = 112 ∨ c = 100
    · rw [if_pos q1]
      have hx : f_X11_faultOf_b367 (some m) (iI op) (iI ac) (iI k) h = some (.inl (some m, iI 5, iI op, iI (ac + 1), iI (k + 1), h)) := by
        simp (disch := omega) only [f_X11_faultOf_b367, f_X11_faultOf_b392, iI_lit, iI_add, iI_sub, iI_mul, iI_neg, b397_y]
      simp (disch := omega) only [f_X11_faultOf_b334, iI_lit, iI_add, iI_sub, iI_mul, iI_neg, iteEq, iteLe, if_neg, smAns]
      rcases q1 with q | q | q | q <;> simp (disch := omega) only [q, if_pos, if_neg, if_true, if_false, hx]
    · rw [if_neg q1]
      by_cases q2 : c = 115 ∨ c = 111
      · rw [if_pos q2]
        have hx : f_X11_faultOf_b385 (some m) (iI op) (iI ac) (iI k) h = some (.inl (some m, iI 6, iI op, iI (ac + 1), iI (k + 1), h)) := by
          simp (disch := omega) only [f_X11_faultOf_b385, f_X11_faultOf_b392, iI_lit, iI_add, iI_sub, iI_mul, iI_neg, b397_y]
        simp (disch := omega) only [f_X11_faultOf_b334, iI_lit, iI_add, iI_sub, iI_mul, iI_neg, iteEq, iteLe, if_neg, smAns]
        rcases q2 with q | q <;> simp (disch := omega) only [q, if_pos, if_neg, if_true, if_false, hx]
      · rw [if_neg q2]
        simp (disch := omega) only [f_X11_faultOf_b334, f_X11_faultOf_b392, iI_lit, iI_add, iI_sub, iI_mul, iI_neg, iteEq, iteLe, if_neg, if_false, b397_n, smAns]
  · rw [if_neg q0]
    simp (disch := omega) only [f_X11_faultOf_b334, iI_lit, iI_add, iI_sub, iI_mul, iI_neg, iteLe, if_pos, if_true, b397_n, smAns]
theorem R_sm {h : zH} {Y : Nat → Nat → Int32} (hM : MR h m A Y) (hN : Y 0 4 = iI (N : Int)) (hN1 : N ≤ 100) {k : Nat} (hk : k < N) (hT : Y 5 k = iI (T k)) (hc : 32 ≤ T k ∧ T k ≤ 126) {s : zM} (hs : smOk s) (hcl0 : Y 0 10 = iI s.2.2.2) :
    ∃ h' Y', f_X11_faultOf_c14 (some m) (iI s.1) (iI s.2.1) (iI s.2.2.1) (iI (k : Int)) h = smAns m (k : Int) h h' (smStep s (T k)) ∧ MR h' m A Y' ∧ oc Y Y' ∧ fr m 19 h h' ∧ ∀ s', smStep s (T k) = some s' → Y' 0 10 = iI s'.2.2.2 := by
  obtain ⟨st, op, ac, cl⟩ := s
  have hs' := hs
  unfold smOk at hs'
  simp only at hs' hcl0 ⊢
  unfold f_X11_faultOf_c14
  rw [Mi4 hM.1, Option.bind_some, hN, if_neg (nLe (by omega)), Mg5 hM.1, Option.bind_some, Ma5 hM (by omega) (by omega), Option.bind_some, show (k : Int).toNat = k by omega, hT]
  simp only [iI_lit, iI_add, iI_sub, iI_mul, iI_neg]
  by_cases q0 : T k = 32
  · refine ⟨h, Y, ?_, hM, oc_rf Y, fr_rf _ _ _, fun s' e => ?_⟩
    · rw [if_pos (cEq q0), b397_y (by omega)]
      unfold smStep
      rw [if_pos q0]; rfl
    · unfold smStep at e
      rw [if_pos q0] at e
      cases e; exact hcl0
  · rw [if_neg (nEq (by omega))]
    have same : ∀ x, ¬ (T k = 59 ∧ st = 5 ∧ cl < 6) → x = smAns m (k : Int) h h (smStep (st, op, ac, cl) (T k)) → ∃ h' Y', x = smAns m (k : Int) h h' (smStep (st, op, ac, cl) (T k)) ∧ MR h' m A Y' ∧ oc Y Y' ∧ fr m 19 h h' ∧ ∀ s', smStep (st, op, ac, cl) (T k) = some s' → Y' 0 10 = iI s'.2.2.2 := by
      intro x hno hx
      refine ⟨h, Y, hx, hM, oc_rf Y, fr_rf _ _ _, fun s' e => ?_⟩
      rw [hcl0]
      congr 1
      unfold smStep at e
      simp only at e
      rw [if_neg q0, if_neg hno] at e
      repeat' split at e
      all_goals first
        | (cases e; done)
        | (cases e; rfl)
    by_cases q1 : st < 2
    · rw [if_neg (nLe (by omega))]
      exact same _ (by omega) (sm_c0 hs (by omega) q1)
    · rw [if_pos (cLe (by omega))]
      by_cases q2 : st = 2
      · rw [if_pos (cEq q2)]
        exact same _ (by omega) (sm_c2 hs (by omega) (Or.inl q2))
      · rw [if_neg (nEq (by omega))]
        by_cases q6 : st = 6
        · rw [if_pos (cEq q6)]
          exact same _ (by omega) (sm_c2 hs (by omega) (Or.inr q6))
        · rw [if_neg (nEq (by omega))]
          by_cases q3 : st = 3
          · rw [if_pos (cEq q3)]
            subst q3
            exact same _ (by omega) (sm_c3 hs (by omega))
          · rw [if_neg (nEq (by omega))]
            have q4 : st = 4 ∨ st = 5 := by omega
            by_cases c59 : T k = 59
            · rw [if_pos (cEq c59)]
              by_cases q5 : st = 5
              · rw [if_pos (cEq q5), Mi10 hM.1, Option.bind_some, hcl0]
                by_cases c6 : cl < 6
                · have M1 := MR_cl hM (cl + 1)
                  have st1 : smStep (st, op, ac, cl) (T k) = some (0, op, ac, cl + 1) := by
                    unfold smStep
                    simp only
                    rw [if_neg q0, if_neg (by omega), if_neg (by omega), if_neg (by omega), if_pos ⟨c59, q5, c6⟩]
                  refine ⟨hcl h m Y (cl + 1), ucl Y (cl + 1), ?_, M1, oc_cl _ _, fr_up (by omega) (by omega), fun s' e => ?_⟩
                  · rw [if_neg (nLe (by omega)), Option.bind_some, iI_add]
                    have hp : z_pF h 11 10 (some m) (tI (iI (cl + 1))) = some (hcl h m Y (cl + 1)) := Mp10 hM.1 _
                    rw [hp, Option.bind_some, b397_y (by omega), st1]; rfl
                  · rw [st1] at e
                    cases e; exact ucl_s _ _
                · rw [if_pos (cLe (by omega))]
                  exact same _ (by omega) (sm_c4 hs (by omega) q4 (by omega))
              · rw [if_neg (nEq (by omega))]
                exact same _ (by omega) (sm_c4 hs (by omega) q4 (by omega))
            · rw [if_neg (nEq (by omega))]
              exact same _ (by omega) (sm_c4 hs (by omega) q4 (by omega))
end RF
