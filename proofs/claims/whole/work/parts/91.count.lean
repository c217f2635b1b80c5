section CO
variable {tS X m : Nat} {D : Nat → Prop} {Q : Int → List zKl} {U : Int → Option Nat} {A : Int → Int}
theorem bitE_w (hW : WF A) {i : Nat} (hi : i < 64) : ((bitE (fun c => A c = 1) i : Nat) : Int) = A (i : Int) := by
  have w := hW.w (c := (i : Int)) (by omega) (by omega)
  unfold bitE
  by_cases q : A (i : Int) = 1
  · rw [if_pos q]; omega
  · rw [if_neg q]; omega
theorem R_cnt5 {h : zH} {Y : Nat → Nat → Int32} (hM : MR h m A Y) (hW : WF A) : f_X11_count_b70 (some m) (iI 0) (iI 0) h = some (iI ((cN (bitE (fun c => A c = 1)) 64 : Nat) : Int), h) := by
  refine z_for0 (fun i : Nat => ((some m, iI ((cN (bitE (fun c => A c = 1)) i : Nat) : Int), iI i, h) : Option Nat × Int32 × Int32 × zH)) 64 (fun i hi => ?_) ?_
  · show f_X11_count_c70 (some m) (iI ((cN (bitE (fun c => A c = 1)) i : Nat) : Int)) (iI (i : Int)) h = _
    have e := bitE_w hW hi
    unfold f_X11_count_c70
    simp only [iI_lit, iI_add, iI_sub, iI_mul, iI_neg]
    rw [if_neg (nLe (by omega)), Mg0 hM.1, Option.bind_some, M_all hM (by omega) (by omega), Option.bind_some, iI_add]
    have e2 : ((cN (bitE (fun c => A c = 1)) i : Nat) : Int) + A (i : Int) = ((cN (bitE (fun c => A c = 1)) (i + 1) : Nat) : Int) := by
      show _ = ((cN (bitE (fun c => A c = 1)) i + bitE (fun c => A c = 1) i : Nat) : Int)
      omega
    rw [e2]
    rfl
  · show f_X11_count_c70 (some m) (iI ((cN (bitE (fun c => A c = 1)) 64 : Nat) : Int)) (iI ((64 : Nat) : Int)) h = _
    unfold f_X11_count_c70
    simp only [iI_lit, iI_add, iI_sub, iI_mul, iI_neg]
    rw [if_pos (cLe (by omega))]
    rfl
theorem K_count (hW : WF A) {w : Int} (hw : rgI w) : KS tS X m D Q U A (f_X10_count (some X) (iI w)) (f_X11_count (some m) (iI w)) := by
  have hn := hW.n
  have hw' : -2147483648 ≤ w ∧ w < 2147483648 := hw
  refine KS_no (if w = 0 then iI (A 64) else if w = 1 then iI (A 65) else if w = 2 then iI (cnT A 0 : Nat) else if w = 3 then iI (cnT A 1 : Nat) else if w = 4 then iI (cnT A 2 : Nat) else if w = 5 then iI ((cN (bitE (fun c => A c = 1)) 64 : Nat) : Int) else if w = 6 then iI (A 67) else iI (-1)) hW (fun h n F S hX hQ s1 s2 => ?_) (fun h Y hM => ?_)
  · unfold f_X10_count
    simp only [iI_lit, iI_add, iI_sub, iI_mul, iI_neg]
    by_cases w0 : w = 0
    · rw [if_pos (cEq w0), if_pos w0, Xg0 hX, Option.bind_some, Sz4 s1, Option.bind_some, s2.n4]
    rw [if_neg (nEq (by omega)), if_neg w0]
    by_cases w1 : w = 1
    · rw [if_pos (cEq w1), if_pos w1, Xg0 hX, Option.bind_some, Sz6 s1, Option.bind_some, s2.n6]
    rw [if_neg (nEq (by omega)), if_neg w1]
    by_cases w2 : w = 2
    · rw [if_pos (cEq w2), if_pos w2, Xg0 hX, Option.bind_some, Sck s1, Option.bind_some, C_countT s1 s2 hW (by omega), z_b2_some]
    rw [if_neg (nEq (by omega)), if_neg w2]
    by_cases w3 : w = 3
    · rw [if_pos (cEq w3), if_pos w3, Xg0 hX, Option.bind_some, Sck s1, Option.bind_some, C_countT s1 s2 hW (by omega), z_b2_some]
    rw [if_neg (nEq (by omega)), if_neg w3]
    by_cases w4 : w = 4
    · rw [if_pos (cEq w4), if_pos w4, Xg0 hX, Option.bind_some, Sck s1, Option.bind_some, C_countT s1 s2 hW (by omega), z_b2_some]
    rw [if_neg (nEq (by omega)), if_neg w4]
    by_cases w5 : w = 5
    · rw [if_pos (cEq w5), if_pos w5, Xg0 hX, Option.bind_some, SW s1, Option.bind_some, s2.w, bcount_set, z_b2_some]
    rw [if_neg (nEq (by omega)), if_neg w5]
    by_cases w6 : w = 6
    · rw [if_pos (cEq w6), if_pos w6, Xg0 hX, Option.bind_some, Sz8 s1, Option.bind_some, s2.n8]
    rw [if_neg (nEq (by omega)), if_neg w6]
  · unfold f_X11_count f_X11_count_b60
    simp only [iI_lit, iI_add, iI_sub, iI_mul, iI_neg]
    by_cases w0 : w = 0
    · rw [if_pos (cEq w0), if_pos w0, Mg0 hM.1, Option.bind_some, M_all hM (by omega) (by omega), Option.bind_some]
    rw [if_neg (nEq (by omega)), if_neg w0]
    by_cases w1 : w = 1
    · rw [if_pos (cEq w1), if_pos w1, Mg0 hM.1, Option.bind_some, M_all hM (by omega) (by omega), Option.bind_some]
    rw [if_neg (nEq (by omega)), if_neg w1]
    by_cases w2 : w = 2
    · subst w2
      rw [if_pos rfl, if_pos rfl, Mck hM.1, Option.bind_some, show (2 : Int) - 2 = 0 by omega, R_countT hM hW (by omega), z_b2_some]
    rw [if_neg (nEq (by omega)), if_neg w2]
    by_cases w3 : w = 3
    · subst w3
      rw [if_pos rfl, if_pos rfl, Mck hM.1, Option.bind_some, show (3 : Int) - 2 = 1 by omega, R_countT hM hW (by omega), z_b2_some]
    rw [if_neg (nEq (by omega)), if_neg w3]
    by_cases w4 : w = 4
    · subst w4
      rw [if_pos rfl, if_pos rfl, Mck hM.1, Option.bind_some, show (4 : Int) - 2 = 2 by omega, R_countT hM hW (by omega), z_b2_some]
    rw [if_neg (nEq (by omega)), if_neg w4]
    by_cases w5 : w = 5
    · rw [if_pos (cEq w5), if_pos w5, R_cnt5 hM hW]
    rw [if_neg (nEq (by omega)), if_neg w5]
    by_cases w6 : w = 6
    · rw [if_pos (cEq w6), if_pos w6, Mg0 hM.1, Option.bind_some, M_all hM (by omega) (by omega), Option.bind_some]
    rw [if_neg (nEq (by omega)), if_neg w6]
end CO
