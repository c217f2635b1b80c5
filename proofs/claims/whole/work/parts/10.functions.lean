noncomputable def f_X0_init_b41 (s0 : Option Nat) (s1 : Option Nat) (h : zH) (nx z : Nat) : Option ((Nat × Nat) × (zH)) :=
  (z_pF h 0 8 s0 (tA s1)).bind fun h1 =>
  some ((nx, z), h1)
noncomputable def f_X0_init_b33 (x0 : Option Nat) (s0 : Option Nat) (s1 : Option Nat) (h : zH) (nx z : Nat) : Option ((Nat × Nat) × (zH)) :=
  (z_pF h 0 7 s0 (tA s1)).bind fun h1 =>
  f_X0_init_b41 x0 (some nx) (z_up h1 nx (.inl (0, 7, .inl (fun _ => 0)))) (nx + 1) (z + 7)
noncomputable def f_X0_init_b25 (x0 : Option Nat) (s0 : Option Nat) (s1 : Option Nat) (h : zH) (nx z : Nat) : Option ((Nat × Nat) × (zH)) :=
  (z_pF h 0 6 s0 (tA s1)).bind fun h1 =>
  f_X0_init_b33 x0 x0 (some nx) (z_up h1 nx (.inl (0, 7, .inl (fun _ => 0)))) (nx + 1) (z + 7)
noncomputable def f_X0_init_b17 (x0 : Option Nat) (s0 : Option Nat) (s1 : Option Nat) (h : zH) (nx z : Nat) : Option ((Nat × Nat) × (zH)) :=
  (z_pF h 0 5 s0 (tA s1)).bind fun h1 =>
  f_X0_init_b25 x0 x0 (some nx) (z_up h1 nx (.inl (0, 7, .inl (fun _ => 0)))) (nx + 1) (z + 7)
noncomputable def f_X0_init_b9 (x0 : Option Nat) (s0 : Option Nat) (s1 : Option Nat) (h : zH) (nx z : Nat) : Option ((Nat × Nat) × (zH)) :=
  (z_pF h 0 4 s0 (tA s1)).bind fun h1 =>
  f_X0_init_b17 x0 x0 (some nx) (z_up h1 nx (.inl (0, 7, .inl (fun _ => 0)))) (nx + 1) (z + 7)
noncomputable def f_X0_init (x0 : Option Nat) (h : zH) (nx z : Nat) : Option ((Nat × Nat) × (zH)) :=
  Option.bind x0 fun v1 =>
  f_X0_init_b9 x0 x0 (some nx) (z_up h nx (.inl (0, 7, .inl (fun _ => 0)))) (nx + 1) (z + 7)
noncomputable def f_J7_fill_53178_c5 (x0 : Option Nat) (x1 : Int32) (x2 : Int32) (x3 : Int32) (h : zH) : Option (((Option Nat) × Int32 × Int32 × Int32 × zH) ⊕ (zH)) :=
  if x3 ≤ x2 then
    z_i1 (
    some h)
  else
    (z_sI h x0 x2 x1).bind fun h1 =>
    some (Sum.inl (x0, x1, x2 + (1 : Int32), x3, h1))
noncomputable def f_J7_fill_53178_b5 (x0 : Option Nat) (x1 : Int32) (x2 : Int32) (x3 : Int32) (h : zH) : Option (zH) := z_it (fun s : (Option Nat) × Int32 × Int32 × Int32 × zH => f_J7_fill_53178_c5 s.1 s.2.1 s.2.2.1 s.2.2.2.1 s.2.2.2.2) (x0, x1, x2, x3, h)
noncomputable def f_J7_fill_53178 (x0 : Option Nat) (x1 : Int32) (h : zH) : Option (zH) :=
  (z_len h x0).bind fun v1 =>
  f_J7_fill_53178_b5 x0 x1 (0 : Int32) v1 h
noncomputable def f_X0_begin (x0 : Option Nat) (x1 : Option Nat) (x2 : Int32) (h : zH) : Option (zH) :=
  (z_pF h 0 0 x0 (tI x2)).bind fun h1 =>
  (z_pF h1 0 1 x0 (tI (0 : Int32))).bind fun h2 =>
  (z_pF h2 0 2 x0 (tI (0 : Int32))).bind fun h3 =>
  (z_pF h3 0 3 x0 (tA none)).bind fun h4 =>
  (z_gA h4 0 4 x0).bind fun v5 =>
  (z_cp h4 x1 (0 : Int32) v5 (0 : Int32) x2).bind fun h6 =>
  (z_gA h6 0 5 x0).bind fun v7 =>
  (f_J7_fill_53178 v7 (0 : Int32) h6).bind fun h8 =>
  (z_gA h8 0 6 x0).bind fun v9 =>
  (f_J7_fill_53178 v9 (-4 : Int32) h8).bind fun h10 =>
  (z_gA h10 0 7 x0).bind fun v11 =>
  (f_J7_fill_53178 v11 (0 : Int32) h10).bind fun h12 =>
  some h12
noncomputable def f_X0_become (x0 : Option Nat) (x1 : Option Nat) (h : zH) : Option (zH) :=
  (z_gI h 0 0 x1).bind fun v1 =>
  (z_pF h 0 0 x0 (tI v1)).bind fun h2 =>
  (z_gI h2 0 1 x1).bind fun v3 =>
  (z_pF h2 0 1 x0 (tI v3)).bind fun h4 =>
  (z_gI h4 0 2 x1).bind fun v5 =>
  (z_pF h4 0 2 x0 (tI v5)).bind fun h6 =>
  (z_gA h6 0 3 x1).bind fun v7 =>
  (z_pF h6 0 3 x0 (tA v7)).bind fun h8 =>
  (z_gA h8 0 4 x1).bind fun v9 =>
  (z_gA h8 0 4 x0).bind fun v10 =>
  (z_gI h8 0 0 x0).bind fun v11 =>
  (z_cp h8 v9 (0 : Int32) v10 (0 : Int32) v11).bind fun h12 =>
  (z_gA h12 0 5 x1).bind fun v13 =>
  (z_gA h12 0 5 x0).bind fun v14 =>
  (z_gI h12 0 0 x0).bind fun v15 =>
  (z_cp h12 v13 (0 : Int32) v14 (0 : Int32) v15).bind fun h16 =>
  (z_gA h16 0 6 x1).bind fun v17 =>
  (z_gA h16 0 6 x0).bind fun v18 =>
  (z_gI h16 0 0 x0).bind fun v19 =>
  (z_cp h16 v17 (0 : Int32) v18 (0 : Int32) v19).bind fun h20 =>
  (z_gA h20 0 7 x1).bind fun v21 =>
  (z_gA h20 0 7 x0).bind fun v22 =>
  (z_gI h20 0 0 x0).bind fun v23 =>
  (z_cp h20 v21 (0 : Int32) v22 (0 : Int32) v23).bind fun h24 =>
  some h24
noncomputable def f_X0_isCut (x0 : Option Nat) (h : zH) : Option (Int32 × zH) :=
  (z_gI h 0 1 x0).bind fun v1 =>
  if v1 ≤ (0 : Int32) then
    some ((0 : Int32), h)
  else
    some ((1 : Int32), h)
noncomputable def f_X0_isCutOff (x0 : Option Nat) (x1 : Int32) (h : zH) : Option (Int32 × zH) :=
  (z_ck h 0 x0).bind fun _ =>
  z_b2 (f_X0_isCut x0 h) fun v3 h2 =>
  if v3 = (0 : Int32) then
    some ((0 : Int32), h2)
  else
    (z_gI h2 0 1 x0).bind fun v4 =>
    if x1 < v4 then
      some ((0 : Int32), h2)
    else
      some ((1 : Int32), h2)
noncomputable def f_X0_isTip (x0 : Option Nat) (x1 : Int32) (h : zH) : Option (Int32 × zH) :=
  (z_gI h 0 0 x0).bind fun v1 =>
  if x1 = (v1 - (1 : Int32)) then
    some ((1 : Int32), h)
  else
    (z_gI h 0 1 x0).bind fun v2 =>
    if x1 = (v2 - (1 : Int32)) then
      some ((1 : Int32), h)
    else
      some ((0 : Int32), h)
noncomputable def f_X0_canEverMove (x0 : Option Nat) (x1 : Int32) (h : zH) : Option (Int32 × zH) :=
  if x1 ≤ (0 : Int32) then
    some ((0 : Int32), h)
  else
    (z_gI h 0 1 x0).bind fun v1 =>
    if x1 = v1 then
      some ((0 : Int32), h)
    else
      some ((1 : Int32), h)
noncomputable def f_X10_sideOf (x0 : Int32) (x1 : Int32) (h : zH) : Option (Int32 × zH) :=
  if (x1 - x0) = (-1 : Int32) then
    some ((2 : Int32), h)
  else
  if (x1 - x0) = (1 : Int32) then
    some ((0 : Int32), h)
  else
  if (x1 - x0) = (8 : Int32) then
    some ((1 : Int32), h)
  else
    some ((3 : Int32), h)
noncomputable def f_X0_formNow_c4 (x0 : Option Nat) (x1 : Int32) (x2 : Int32) (h : zH) : Option (((Option Nat) × Int32 × Int32 × zH) ⊕ (Int32 × zH)) :=
  (z_gI h 0 0 x0).bind fun v1 =>
  if v1 ≤ x2 then
    z_i1 (
    some (x1, h))
  else
    (z_gA h 0 4 x0).bind fun v2 =>
    (z_aI h v2 (x2 - (1 : Int32))).bind fun v3 =>
    (z_gA h 0 4 x0).bind fun v4 =>
    (z_aI h v4 x2).bind fun v5 =>
    z_b2 (f_X10_sideOf v3 v5 h) fun v7 h6 =>
    some (Sum.inl (x0, x1 ||| (v7 <<< (((2 : Int32) * (x2 - (1 : Int32))) &&& 31)), x2 + (1 : Int32), h6))
noncomputable def f_X0_formNow_b4 (x0 : Option Nat) (x1 : Int32) (x2 : Int32) (h : zH) : Option (Int32 × zH) := z_it (fun s : (Option Nat) × Int32 × Int32 × zH => f_X0_formNow_c4 s.1 s.2.1 s.2.2.1 s.2.2.2) (x0, x1, x2, h)
noncomputable def f_X0_formNow (x0 : Option Nat) (h : zH) : Option (Int32 × zH) :=
  f_X0_formNow_b4 x0 (0 : Int32) (1 : Int32) h
noncomputable def f_X1_init (x0 : Option Nat) (h : zH) : Option (zH) :=
  Option.bind x0 fun v1 =>
  some h
noncomputable def f_X1_holds_b93 (rec : Option Nat → Int32 → Int32 → zH → Option (Int32 × zH)) (x1 : Int32) (x2 : Int32) (x3 : Int32) (x4 : Option Nat) (h : zH) : Option ((Int32 × Int32 × Int32 × (Option Nat) × zH) ⊕ (Int32 × zH)) :=
  (z_gA h 1 4 x4).bind fun v1 =>
  some (Sum.inl (x1, x2, x3, v1, h))
noncomputable def f_X1_holds_b92 (rec : Option Nat → Int32 → Int32 → zH → Option (Int32 × zH)) (x1 : Int32) (x2 : Int32) (x4 : Option Nat) (s0 : Int32) (h : zH) : Option ((Int32 × Int32 × Int32 × (Option Nat) × zH) ⊕ (Int32 × zH)) :=
  f_X1_holds_b93 rec x1 x2 s0 x4 h
noncomputable def f_X1_holds_b75 (rec : Option Nat → Int32 → Int32 → zH → Option (Int32 × zH)) (x1 : Int32) (x2 : Int32) (x4 : Option Nat) (s0 : Int32) (h : zH) : Option ((Int32 × Int32 × Int32 × (Option Nat) × zH) ⊕ (Int32 × zH)) :=
  (z_gI h 1 1 x4).bind fun v1 =>
  if s0 = v1 then
    f_X1_holds_b92 rec x1 x2 x4 (0 : Int32) h
  else
    f_X1_holds_b92 rec x1 x2 x4 (1 : Int32) h
noncomputable def f_X1_holds_b33 (rec : Option Nat → Int32 → Int32 → zH → Option (Int32 × zH)) (x1 : Int32) (x2 : Int32) (x3 : Int32) (x4 : Option Nat) (h : zH) : Option ((Int32 × Int32 × Int32 × (Option Nat) × zH) ⊕ (Int32 × zH)) :=
  if x3 = (0 : Int32) then
    f_X1_holds_b93 rec x1 x2 x3 x4 h
  else
    (z_gA h 1 3 x4).bind fun v1 =>
    if v1 = none then
      (z_gI h 1 2 x4).bind fun v5 =>
      if (x1 &&& v5) = (0 : Int32) then
        f_X1_holds_b75 rec x1 x2 x4 (0 : Int32) h
      else
        f_X1_holds_b75 rec x1 x2 x4 (1 : Int32) h
    else
      (z_gA h 1 3 x4).bind fun v2 =>
      z_b2 (rec v2 x1 (x2 + (1 : Int32)) h) fun v4 h3 =>
      f_X1_holds_b75 rec x1 x2 x4 v4 h3
noncomputable def f_X1_holds_c12 (rec : Option Nat → Int32 → Int32 → zH → Option (Int32 × zH)) (x1 : Int32) (x2 : Int32) (x3 : Int32) (x4 : Option Nat) (h : zH) : Option ((Int32 × Int32 × Int32 × (Option Nat) × zH) ⊕ (Int32 × zH)) :=
  if x4 = none then
    z_i1 (
    if x3 = 0 ∨ x3 = 1 then some (x3, h) else none)
  else
    (z_gI h 1 0 x4).bind fun v1 =>
    if v1 = (0 : Int32) then
      f_X1_holds_b33 rec x1 x2 x3 x4 h
    else
      if x3 = (0 : Int32) then
        f_X1_holds_b33 rec x1 x2 (1 : Int32) x4 h
      else
        z_i1 (
        some ((1 : Int32), h))
noncomputable def f_X1_holds_b12 (rec : Option Nat → Int32 → Int32 → zH → Option (Int32 × zH)) (x1 : Int32) (x2 : Int32) (x3 : Int32) (x4 : Option Nat) (h : zH) : Option (Int32 × zH) := z_it (fun s : Int32 × Int32 × Int32 × (Option Nat) × zH => f_X1_holds_c12 rec s.1 s.2.1 s.2.2.1 s.2.2.2.1 s.2.2.2.2) (x1, x2, x3, x4, h)
noncomputable def f_X1_holds_r (rec : Option Nat → Int32 → Int32 → zH → Option (Int32 × zH)) (x0 : Option Nat) (x1 : Int32) (x2 : Int32) (h : zH) : Option (Int32 × zH) :=
  if x2 ≤ (4 : Int32) then
    f_X1_holds_b12 rec x1 x2 (1 : Int32) x0 h
  else
    some ((0 : Int32), h)
noncomputable def f_X1_holds : Nat → Option Nat → Int32 → Int32 → zH → Option (Int32 × zH)
  | 0 => fun _ _ _ _ => none
  | d + 1 => f_X1_holds_r (f_X1_holds d)
noncomputable def f_X2_init_b15 (s0 : Option Nat) (s1 : Option Nat) (h : zH) (nx z : Nat) : Option ((Nat × Nat) × (zH)) :=
  (z_pF h 2 2 s0 (tA s1)).bind fun h1 =>
  some ((nx, z), h1)
noncomputable def f_X2_init_b8 (x0 : Option Nat) (s0 : Option Nat) (s1 : Option Nat) (h : zH) (nx z : Nat) : Option ((Nat × Nat) × (zH)) :=
  (z_pF h 2 1 s0 (tA s1)).bind fun h1 =>
  f_X2_init_b15 x0 (some nx) (z_up h1 nx (.inl (0, 4, .inl (fun _ => 0)))) (nx + 1) (z + 4)
noncomputable def f_X2_init (x0 : Option Nat) (h : zH) (nx z : Nat) : Option ((Nat × Nat) × (zH)) :=
  Option.bind x0 fun v1 =>
  f_X2_init_b8 x0 x0 (some nx) (z_up h nx (.inl (0, 4, .inl (fun _ => 0)))) (nx + 1) (z + 4)
noncomputable def f_X3_init_b35 (s0 : Option Nat) (s1 : Option Nat) (h : zH) (nx z : Nat) : Option ((Nat × Nat) × (zH)) :=
  (z_pF h 3 3 s0 (tA s1)).bind fun h1 =>
  some ((nx, z), h1)
noncomputable def f_X3_init_b27 (x0 : Option Nat) (s0 : Option Nat) (s1 : Option Nat) (h : zH) (nx z : Nat) : Option ((Nat × Nat) × (zH)) :=
  (z_pF h 3 2 s0 (tA s1)).bind fun h1 =>
  f_X3_init_b35 x0 (some nx) (z_up h1 nx (.inl (0, 7, .inl (fun _ => 0)))) (nx + 1) (z + 7)
noncomputable def f_X3_init_b19 (x0 : Option Nat) (s0 : Option Nat) (s1 : Option Nat) (h : zH) (nx z : Nat) : Option ((Nat × Nat) × (zH)) :=
  (z_pF h 3 1 s0 (tA s1)).bind fun h1 =>
  f_X3_init_b27 x0 x0 (some nx) (z_up h1 nx (.inl (0, 64, .inl (fun _ => 0)))) (nx + 1) (z + 64)
noncomputable def f_X3_init_b10 (x0 : Option Nat) (s0 : Option Nat) (s1 : Option Nat) (h : zH) (nx z : Nat) : Option ((Nat × Nat) × (zH)) :=
  (z_pF h 3 0 s0 (tA s1)).bind fun h1 =>
  f_X3_init_b19 x0 x0 (some nx) (z_up h1 nx (.inl (0, 4096, .inl (fun _ => 0)))) (nx + 1) (z + 4096)
noncomputable def f_X3_init (x0 : Option Nat) (h : zH) (nx z : Nat) : Option ((Nat × Nat) × (zH)) :=
  Option.bind x0 fun v1 =>
  f_X3_init_b10 x0 x0 (some nx) (z_up h nx (.inl (0, 4096, .inl (fun _ => 0)))) (nx + 1) (z + 4096)
noncomputable def f_X3_layOut_c20 (tS : Nat) (x0 : Option Nat) (x1 : Int32) (x2 : Int64) (x4 : Int32) (h : zH) : Option (((Option Nat) × Int32 × Int64 × Int32 × zH) ⊕ (Int64 × zH)) :=
  (z_gI h 3 7 x0).bind fun v1 =>
  if v1 ≤ x4 then
    z_i1 (
    some (x2, h))
  else
    (z_gA h 3 3 x0).bind fun v2 =>
    (z_gA h 3 3 x0).bind fun v3 =>
    (z_aI h v3 (x4 - (1 : Int32))).bind fun v4 =>
    (z_aI h (some tS) ((x1 >>> (((2 : Int32) * (x4 - (1 : Int32))) &&& 31)) &&& (3 : Int32))).bind fun v5 =>
    (z_sI h v2 x4 (v4 + v5)).bind fun h6 =>
    (z_gA h6 3 3 x0).bind fun v7 =>
    (z_aI h6 v7 x4).bind fun v8 =>
    some (Sum.inl (x0, x1, x2 ||| ((1 : Int64) <<< (Int32.toInt64 v8 &&& 63)), x4 + (1 : Int32), h6))
noncomputable def f_X3_layOut_b20 (tS : Nat) (x0 : Option Nat) (x1 : Int32) (x2 : Int64) (x4 : Int32) (h : zH) : Option (Int64 × zH) := z_it (fun s : (Option Nat) × Int32 × Int64 × Int32 × zH => f_X3_layOut_c20 tS s.1 s.2.1 s.2.2.1 s.2.2.2.1 s.2.2.2.2) (x0, x1, x2, x4, h)
noncomputable def f_X3_layOut (tS : Nat) (x0 : Option Nat) (x1 : Int32) (h : zH) : Option (Int64 × zH) :=
  (z_gA h 3 3 x0).bind fun v1 =>
  (z_gI h 3 6 x0).bind fun v2 =>
  (z_sI h v1 (0 : Int32) v2).bind fun h3 =>
  (z_gI h3 3 6 x0).bind fun v4 =>
  f_X3_layOut_b20 tS x0 x1 ((1 : Int64) <<< (Int32.toInt64 v4 &&& 63)) (1 : Int32) h3
noncomputable def f_X10_formsOf (x0 : Int32) (h : zH) : Option (Int32 × zH) :=
  some ((1 : Int32) <<< (((2 : Int32) * (x0 - (1 : Int32))) &&& 31), h)
noncomputable def f_J7_rangeCheck_23922 (x0 : Int32) (x1 : Int32) (x2 : Int32) (h : zH) : Option (zH) :=
  if x1 ≤ x2 then
    if (0 : Int32) ≤ x1 then
      if x2 ≤ x0 then
        some h
      else
        none
    else
      none
  else
    none
noncomputable def f_J7_fill_fda19_c10 (x0 : Option Nat) (x2 : Int32) (x3 : Int32) (x4 : Int32) (h : zH) : Option (((Option Nat) × Int32 × Int32 × Int32 × zH) ⊕ (zH)) :=
  if x2 ≤ x4 then
    z_i1 (
    some h)
  else
    (z_sI h x0 x4 x3).bind fun h1 =>
    some (Sum.inl (x0, x2, x3, x4 + (1 : Int32), h1))
noncomputable def f_J7_fill_fda19_b10 (x0 : Option Nat) (x2 : Int32) (x3 : Int32) (x4 : Int32) (h : zH) : Option (zH) := z_it (fun s : (Option Nat) × Int32 × Int32 × Int32 × zH => f_J7_fill_fda19_c10 s.1 s.2.1 s.2.2.1 s.2.2.2.1 s.2.2.2.2) (x0, x2, x3, x4, h)
noncomputable def f_J7_fill_fda19 (x0 : Option Nat) (x1 : Int32) (x2 : Int32) (x3 : Int32) (h : zH) : Option (zH) :=
  (z_len h x0).bind fun v1 =>
  (f_J7_rangeCheck_23922 v1 x1 x2 h).bind fun h2 =>
  f_J7_fill_fda19_b10 x0 x2 x3 x1 h2
noncomputable def f_X3_see (x0 : Option Nat) (x1 : Int32) (x2 : Int32) (h : zH) : Option (zH) :=
  (z_gA h 3 0 x0).bind fun v1 =>
  (z_aI h v1 x1).bind fun v2 =>
  if v2 = (-1 : Int32) then
    (z_gA h 3 0 x0).bind fun v3 =>
    (z_sI h v3 x1 x2).bind fun h4 =>
    (z_gA h4 3 1 x0).bind fun v5 =>
    (z_gI h4 3 4 x0).bind fun v6 =>
    (z_sI h4 v5 v6 x1).bind fun h7 =>
    (z_gI h7 3 4 x0).bind fun v8 =>
    (z_pF h7 3 4 x0 (tI (v8 + (1 : Int32)))).bind fun h9 =>
    some h9
  else
    some h
noncomputable def f_X3_seeFlip (tS : Nat) (x0 : Option Nat) (x1 : Int32) (x2 : Int32) (x3 : Int64) (x5 : Int32) (h : zH) : Option (zH) :=
  if ((((x1 >>> (((2 : Int32) * (x2 - (1 : Int32))) &&& 31)) &&& (3 : Int32)) ^^^ ((x1 >>> ((((2 : Int32) * (x2 - (1 : Int32))) + (2 : Int32)) &&& 31)) &&& (3 : Int32))) &&& (1 : Int32)) = (0 : Int32) then
    some h
  else
    (z_gA h 3 3 x0).bind fun v1 =>
    (z_aI h v1 (x2 - (1 : Int32))).bind fun v2 =>
    (z_aI h (some tS) ((x1 >>> ((((2 : Int32) * (x2 - (1 : Int32))) + (2 : Int32)) &&& 31)) &&& (3 : Int32))).bind fun v3 =>
    if (lg_cmp (x3 &&& ((1 : Int64) <<< (Int32.toInt64 (v2 + v3) &&& 63))) (0 : Int64)) = (0 : Int32) then
      (z_ck h 3 x0).bind fun _ =>
      (f_X3_see x0 ((x1 ^^^ ((((x1 >>> (((2 : Int32) * (x2 - (1 : Int32))) &&& 31)) &&& (3 : Int32)) ^^^ ((x1 >>> ((((2 : Int32) * (x2 - (1 : Int32))) + (2 : Int32)) &&& 31)) &&& (3 : Int32))) <<< (((2 : Int32) * (x2 - (1 : Int32))) &&& 31))) ^^^ ((((x1 >>> (((2 : Int32) * (x2 - (1 : Int32))) &&& 31)) &&& (3 : Int32)) ^^^ ((x1 >>> ((((2 : Int32) * (x2 - (1 : Int32))) + (2 : Int32)) &&& 31)) &&& (3 : Int32))) <<< ((((2 : Int32) * (x2 - (1 : Int32))) + (2 : Int32)) &&& 31))) x5 h).bind fun h5 =>
      some h5
    else
      some h
noncomputable def f_X10_beside_b72 (tS : Nat) (x0 : Int32) (x1 : Int32) (s0 : Int32) (h : zH) : Option (Int32 × zH) :=
  if s0 = (0 : Int32) then
    some ((-4 : Int32), h)
  else
    (z_aI h (some tS) (x1 &&& (3 : Int32))).bind fun v1 =>
    some (x0 + v1, h)
noncomputable def f_X10_beside (tS : Nat) (x0 : Int32) (x1 : Int32) (h : zH) : Option (Int32 × zH) :=
  if x1 = (0 : Int32) then
    if (7 : Int32) ≤ (x0 &&& (7 : Int32)) then
      f_X10_beside_b72 tS x0 x1 (0 : Int32) h
    else
      f_X10_beside_b72 tS x0 x1 (1 : Int32) h
  else
    if x1 = (1 : Int32) then
      if (7 : Int32) ≤ (x0 >>> ((3 : Int32) &&& 31)) then
        f_X10_beside_b72 tS x0 x1 (0 : Int32) h
      else
        f_X10_beside_b72 tS x0 x1 (1 : Int32) h
    else
      if x1 = (2 : Int32) then
        if (x0 &&& (7 : Int32)) ≤ (0 : Int32) then
          f_X10_beside_b72 tS x0 x1 (0 : Int32) h
        else
          f_X10_beside_b72 tS x0 x1 (1 : Int32) h
      else
        if (x0 >>> ((3 : Int32) &&& 31)) ≤ (0 : Int32) then
          f_X10_beside_b72 tS x0 x1 (0 : Int32) h
        else
          f_X10_beside_b72 tS x0 x1 (1 : Int32) h
noncomputable def f_X3_seeTurns_b73 (tS : Nat) (x0 : Option Nat) (x1 : Int32) (x2 : Int64) (x4 : Int32) (x5 : Int32) (x6 : Int32) (h : zH) : Option (((Option Nat) × Int32 × Int64 × Int32 × Int32 × Int32 × zH) ⊕ (zH)) :=
  some (Sum.inl (x0, x1, x2, x4, x5, x6 + (1 : Int32), h))
noncomputable def f_X3_seeTurns_c13 (tS : Nat) (x0 : Option Nat) (x1 : Int32) (x2 : Int64) (x4 : Int32) (x5 : Int32) (x6 : Int32) (h : zH) : Option (((Option Nat) × Int32 × Int64 × Int32 × Int32 × Int32 × zH) ⊕ (zH)) :=
  if (4 : Int32) ≤ x6 then
    z_i1 (
    some h)
  else
    (z_gA h 3 3 x0).bind fun v1 =>
    (z_gI h 3 7 x0).bind fun v2 =>
    (z_aI h v1 (v2 - (2 : Int32))).bind fun v3 =>
    z_b2 (f_X10_beside tS v3 x6 h) fun v5 h4 =>
    if v5 < (0 : Int32) then
      f_X3_seeTurns_b73 tS x0 x1 x2 x4 x5 x6 h4
    else
      if (lg_cmp (x2 &&& ((1 : Int64) <<< (Int32.toInt64 v5 &&& 63))) (0 : Int64)) = (0 : Int32) then
        (z_ck h4 3 x0).bind fun _ =>
        (f_X3_see x0 ((x1 &&& (((3 : Int32) <<< (x5 &&& 31)) ^^^ (-1 : Int32))) ||| (x6 <<< (x5 &&& 31))) x4 h4).bind fun h7 =>
        f_X3_seeTurns_b73 tS x0 x1 x2 x4 x5 x6 h7
      else
        f_X3_seeTurns_b73 tS x0 x1 x2 x4 x5 x6 h4
noncomputable def f_X3_seeTurns_b13 (tS : Nat) (x0 : Option Nat) (x1 : Int32) (x2 : Int64) (x4 : Int32) (x5 : Int32) (x6 : Int32) (h : zH) : Option (zH) := z_it (fun s : (Option Nat) × Int32 × Int64 × Int32 × Int32 × Int32 × zH => f_X3_seeTurns_c13 tS s.1 s.2.1 s.2.2.1 s.2.2.2.1 s.2.2.2.2.1 s.2.2.2.2.2.1 s.2.2.2.2.2.2) (x0, x1, x2, x4, x5, x6, h)
noncomputable def f_X3_seeTurns (tS : Nat) (x0 : Option Nat) (x1 : Int32) (x2 : Int64) (x4 : Int32) (h : zH) : Option (zH) :=
  (z_gI h 3 7 x0).bind fun v1 =>
  f_X3_seeTurns_b13 tS x0 x1 x2 x4 ((2 : Int32) * (v1 - (2 : Int32))) (0 : Int32) h
noncomputable def f_X3_goOnFrom_c57 (tS : Nat) (x0 : Option Nat) (x1 : Int32) (x2 : Int32) (x3 : Int64) (x6 : Int32) (h : zH) : Option (((Option Nat) × Int32 × Int32 × Int64 × Int32 × zH) ⊕ (zH)) :=
  (z_gI h 3 7 x0).bind fun v1 =>
  if (v1 - (1 : Int32)) ≤ x6 then
    z_i1 (
    (z_ck h 3 x0).bind fun _ =>
    (f_X3_seeTurns tS x0 x1 x3 (x2 + (1 : Int32)) h).bind fun h3 =>
    some h3)
  else
    (z_ck h 3 x0).bind fun _ =>
    (f_X3_seeFlip tS x0 x1 x6 x3 (x2 + (1 : Int32)) h).bind fun h5 =>
    some (Sum.inl (x0, x1, x2, x3, x6 + (1 : Int32), h5))
noncomputable def f_X3_goOnFrom_b57 (tS : Nat) (x0 : Option Nat) (x1 : Int32) (x2 : Int32) (x3 : Int64) (x6 : Int32) (h : zH) : Option (zH) := z_it (fun s : (Option Nat) × Int32 × Int32 × Int64 × Int32 × zH => f_X3_goOnFrom_c57 tS s.1 s.2.1 s.2.2.1 s.2.2.2.1 s.2.2.2.2.1 s.2.2.2.2.2) (x0, x1, x2, x3, x6, h)
noncomputable def f_X3_goOnFrom_b54 (tS : Nat) (x0 : Option Nat) (x1 : Int32) (x2 : Int32) (x3 : Int64) (h : zH) : Option (zH) :=
  f_X3_goOnFrom_b57 tS x0 x1 x2 x3 (1 : Int32) h
noncomputable def f_X3_goOnFrom (tS : Nat) (x0 : Option Nat) (x1 : Int32) (x2 : Int32) (h : zH) : Option (zH) :=
  (z_gJ h 3 10 x0).bind fun v1 =>
  (z_ck h 3 x0).bind fun _ =>
  z_b2 (f_X3_layOut tS x0 x1 h) fun v4 h3 =>
  (z_gA h3 3 3 x0).bind fun v5 =>
  (z_gI h3 3 7 x0).bind fun v6 =>
  (z_aI h3 v5 (v6 - (1 : Int32))).bind fun v7 =>
  (z_gA h3 3 2 x0).bind fun v8 =>
  (z_aI h3 v8 v7).bind fun v9 =>
  if v9 = (-4 : Int32) then
    (z_gA h3 3 2 x0).bind fun v10 =>
    (z_sI h3 v10 v7 x2).bind fun h11 =>
    (z_gI h11 3 5 x0).bind fun v12 =>
    (z_pF h11 3 5 x0 (tI (v12 + (1 : Int32)))).bind fun h13 =>
    f_X3_goOnFrom_b54 tS x0 x1 x2 (v1 ||| v4) h13
  else
    f_X3_goOnFrom_b54 tS x0 x1 x2 (v1 ||| v4) h3
noncomputable def f_X3_searchAnew_c46 (tS : Nat) (x0 : Option Nat) (x1 : Int32) (h : zH) : Option (((Option Nat) × Int32 × zH) ⊕ (zH)) :=
  (z_gI h 3 4 x0).bind fun v1 =>
  if v1 ≤ x1 then
    z_i1 (
    some h)
  else
    (z_gA h 3 1 x0).bind fun v2 =>
    (z_len h v2).bind fun v3 =>
    if v3 ≤ x1 then
      z_i1 (
      some h)
    else
      (z_gA h 3 1 x0).bind fun v4 =>
      (z_aI h v4 x1).bind fun v5 =>
      (z_gA h 3 0 x0).bind fun v6 =>
      (z_gA h 3 1 x0).bind fun v7 =>
      (z_aI h v7 x1).bind fun v8 =>
      (z_aI h v6 v8).bind fun v9 =>
      (z_ck h 3 x0).bind fun _ =>
      (f_X3_goOnFrom tS x0 v5 v9 h).bind fun h11 =>
      some (Sum.inl (x0, x1 + (1 : Int32), h11))
noncomputable def f_X3_searchAnew_b46 (tS : Nat) (x0 : Option Nat) (x1 : Int32) (h : zH) : Option (zH) := z_it (fun s : (Option Nat) × Int32 × zH => f_X3_searchAnew_c46 tS s.1 s.2.1 s.2.2) (x0, x1, h)
noncomputable def f_X3_searchAnew (tS : Nat) (x0 : Option Nat) (h : zH) : Option (zH) :=
  (z_gA h 3 0 x0).bind fun v1 =>
  (z_gI h 3 7 x0).bind fun v2 =>
  z_b2 (f_X10_formsOf v2 h) fun v4 h3 =>
  (f_J7_fill_fda19 v1 (0 : Int32) v4 (-1 : Int32) h3).bind fun h5 =>
  (z_gA h5 3 2 x0).bind fun v6 =>
  (f_J7_fill_53178 v6 (-4 : Int32) h5).bind fun h7 =>
  (z_pF h7 3 4 x0 (tI (0 : Int32))).bind fun h8 =>
  (z_pF h8 3 5 x0 (tI (0 : Int32))).bind fun h9 =>
  (z_gI h9 3 8 x0).bind fun v10 =>
  (z_ck h9 3 x0).bind fun _ =>
  (f_X3_see x0 v10 (0 : Int32) h9).bind fun h12 =>
  f_X3_searchAnew_b46 tS x0 (0 : Int32) h12
noncomputable def f_X3_search_b59 (tS : Nat) (x0 : Option Nat) (x2 : Option Nat) (x3 : Int32) (x4 : Int64) (h : zH) : Option (zH) :=
  (z_gA h 0 4 x2).bind fun v1 =>
  (z_aI h v1 (0 : Int32)).bind fun v2 =>
  (z_pF h 3 6 x0 (tI v2)).bind fun h3 =>
  (z_gI h3 0 0 x2).bind fun v4 =>
  (z_pF h3 3 7 x0 (tI v4)).bind fun h5 =>
  (z_pF h5 3 8 x0 (tI x3)).bind fun h6 =>
  (z_pF h6 3 9 x0 (tJ x4)).bind fun h7 =>
  (z_gJ h7 3 9 x0).bind fun v8 =>
  (z_gI h7 3 8 x0).bind fun v9 =>
  (z_ck h7 3 x0).bind fun _ =>
  z_b2 (f_X3_layOut tS x0 v9 h7) fun v12 h11 =>
  (z_pF h11 3 10 x0 (tJ (v8 &&& (v12 ^^^ (-1 : Int64))))).bind fun h13 =>
  (z_ck h13 3 x0).bind fun _ =>
  (f_X3_searchAnew tS x0 h13).bind fun h15 =>
  some h15
noncomputable def f_X3_search (tS : Nat) (x0 : Option Nat) (x1 : Option Nat) (x2 : Option Nat) (h : zH) : Option (zH) :=
  (z_ck h 0 x2).bind fun _ =>
  z_b2 (f_X0_formNow x2 h) fun v3 h2 =>
  (z_gJ h2 6 0 x1).bind fun v4 =>
  (z_gJ h2 6 1 x1).bind fun v5 =>
  (z_gI h2 3 6 x0).bind fun v6 =>
  (z_gA h2 0 4 x2).bind fun v7 =>
  (z_aI h2 v7 (0 : Int32)).bind fun v8 =>
  if v6 = v8 then
    (z_gI h2 3 7 x0).bind fun v9 =>
    (z_gI h2 0 0 x2).bind fun v10 =>
    if v9 = v10 then
      (z_gI h2 3 8 x0).bind fun v11 =>
      if v11 = v3 then
        (z_gJ h2 3 9 x0).bind fun v12 =>
        if (lg_cmp v12 (v4 ||| v5)) = (0 : Int32) then
          some h2
        else
          f_X3_search_b59 tS x0 x2 v3 (v4 ||| v5) h2
      else
        f_X3_search_b59 tS x0 x2 v3 (v4 ||| v5) h2
    else
      f_X3_search_b59 tS x0 x2 v3 (v4 ||| v5) h2
  else
    f_X3_search_b59 tS x0 x2 v3 (v4 ||| v5) h2
noncomputable def f_X4_init (x0 : Option Nat) (h : zH) : Option (zH) :=
  Option.bind x0 fun v1 =>
  some h
noncomputable def f_X4_goTo_b43 (x0 : Option Nat) (h : zH) : Option (zH) :=
  (z_gI h 4 2 x0).bind fun v1 =>
  (z_gI h 4 1 x0).bind fun v2 =>
  if v2 ≤ v1 then
    (z_pF h 4 3 x0 (tI (-1 : Int32))).bind fun h3 =>
    some h3
  else
    (z_gA h 4 0 x0).bind fun v4 =>
    (z_gI h 4 2 x0).bind fun v5 =>
    (z_aB h v4 v5).bind fun v6 =>
    (z_pF h 4 3 x0 (tI v6)).bind fun h7 =>
    some h7
noncomputable def f_X4_goTo_c5 (x0 : Option Nat) (h : zH) : Option (((Option Nat) × zH) ⊕ (zH)) :=
  (z_gI h 4 2 x0).bind fun v1 =>
  (z_gI h 4 1 x0).bind fun v2 =>
  if v2 ≤ v1 then
    z_i1 (f_X4_goTo_b43 x0 h)
  else
    (z_gA h 4 0 x0).bind fun v3 =>
    (z_gI h 4 2 x0).bind fun v4 =>
    (z_aB h v3 v4).bind fun v5 =>
    if v5 = (32 : Int32) then
      (z_gI h 4 2 x0).bind fun v6 =>
      (z_pF h 4 2 x0 (tI (v6 + (1 : Int32)))).bind fun h7 =>
      some (Sum.inl (x0, h7))
    else
      z_i1 (f_X4_goTo_b43 x0 h)
noncomputable def f_X4_goTo_b5 (x0 : Option Nat) (h : zH) : Option (zH) := z_it (fun s : (Option Nat) × zH => f_X4_goTo_c5 s.1 s.2) (x0, h)
noncomputable def f_X4_goTo (x0 : Option Nat) (x1 : Int32) (h : zH) : Option (zH) :=
  (z_pF h 4 2 x0 (tI x1)).bind fun h1 =>
  f_X4_goTo_b5 x0 h1
noncomputable def f_X5_init_b10 (s0 : Option Nat) (s1 : Option Nat) (h : zH) (nx z : Nat) : Option ((Nat × Nat) × (zH)) :=
  (z_pF h 5 0 s0 (tA s1)).bind fun h1 =>
  some ((nx, z), h1)
noncomputable def f_X5_init (x0 : Option Nat) (h : zH) (nx z : Nat) : Option ((Nat × Nat) × (zH)) :=
  Option.bind x0 fun v1 =>
  f_X5_init_b10 x0 (some nx) (z_up h nx (.inl (8, 6, .inr (.inr (fun _ => none))))) (nx + 1) (z + 6)
noncomputable def f_X4_takes (x0 : Option Nat) (x1 : Int32) (h : zH) : Option (Int32 × zH) :=
  (z_gI h 4 3 x0).bind fun v1 =>
  if v1 = x1 then
    (z_gI h 4 2 x0).bind fun v2 =>
    (z_ck h 4 x0).bind fun _ =>
    (f_X4_goTo x0 (v2 + (1 : Int32)) h).bind fun h4 =>
    some ((1 : Int32), h4)
  else
    some ((0 : Int32), h)
noncomputable def f_X4_fail (x0 : Option Nat) (h : zH) : Option (zH) :=
  (z_gI h 4 4 x0).bind fun v1 =>
  if v1 = (-1 : Int32) then
    (z_gI h 4 2 x0).bind fun v3 =>
    (z_pF h 4 4 x0 (tI v3)).bind fun h4 =>
    (z_pF h4 4 3 x0 (tI (-1 : Int32))).bind fun h5 =>
    some h5
  else
    (z_pF h 4 3 x0 (tI (-1 : Int32))).bind fun h2 =>
    some h2
noncomputable def f_X4_need (x0 : Option Nat) (x1 : Int32) (h : zH) : Option (zH) :=
  (z_gI h 4 3 x0).bind fun v1 =>
  if v1 = x1 then
    (z_gI h 4 2 x0).bind fun v4 =>
    (z_ck h 4 x0).bind fun _ =>
    (f_X4_goTo x0 (v4 + (1 : Int32)) h).bind fun h6 =>
    some h6
  else
    (z_ck h 4 x0).bind fun _ =>
    (f_X4_fail x0 h).bind fun h3 =>
    some h3
noncomputable def f_X10_isDigit (x0 : Int32) (h : zH) : Option (Int32 × zH) :=
  if x0 < (0 : Int32) then
    some ((0 : Int32), h)
  else
    if (3 : Int32) < x0 then
      some ((0 : Int32), h)
    else
      some ((1 : Int32), h)
noncomputable def f_X4_readDigit (x0 : Option Nat) (h : zH) : Option (Int32 × zH) :=
  (z_gI h 4 3 x0).bind fun v1 =>
  z_b2 (f_X10_isDigit (v1 - (48 : Int32)) h) fun v3 h2 =>
  if v3 = (0 : Int32) then
    (z_ck h2 4 x0).bind fun _ =>
    (f_X4_fail x0 h2).bind fun h8 =>
    some ((0 : Int32), h8)
  else
    (z_gI h2 4 2 x0).bind fun v4 =>
    (z_ck h2 4 x0).bind fun _ =>
    (f_X4_goTo x0 (v4 + (1 : Int32)) h2).bind fun h6 =>
    some (v1 - (48 : Int32), h6)
noncomputable def f_X4_readSense (x0 : Option Nat) (h : zH) : Option (Int32 × zH) :=
  (z_ck h 4 x0).bind fun _ =>
  z_b2 (f_X4_takes x0 (119 : Int32) h) fun v3 h2 =>
  if v3 = (0 : Int32) then
    (z_ck h2 4 x0).bind fun _ =>
    z_b2 (f_X4_takes x0 (116 : Int32) h2) fun v6 h5 =>
    if v6 = (0 : Int32) then
      (z_ck h5 4 x0).bind fun _ =>
      z_b2 (f_X4_takes x0 (109 : Int32) h5) fun v9 h8 =>
      if v9 = (0 : Int32) then
        (z_ck h8 4 x0).bind fun _ =>
        z_b2 (f_X4_takes x0 (104 : Int32) h8) fun v12 h11 =>
        if v12 = (0 : Int32) then
          (z_ck h11 4 x0).bind fun _ =>
          z_b2 (f_X4_takes x0 (120 : Int32) h11) fun v15 h14 =>
          if v15 = (0 : Int32) then
            (z_ck h14 4 x0).bind fun _ =>
            (f_X4_need x0 (42 : Int32) h14).bind fun h17 =>
            some ((16384 : Int32), h17)
          else
            some ((8192 : Int32), h14)
        else
          some ((4096 : Int32), h11)
      else
        (z_ck h8 4 x0).bind fun _ =>
        z_b2 (f_X4_readDigit x0 h8) fun v20 h19 =>
        some ((256 : Int32) <<< (v20 &&& 31), h19)
    else
      (z_ck h5 4 x0).bind fun _ =>
      z_b2 (f_X4_readDigit x0 h5) fun v23 h22 =>
      some ((16 : Int32) <<< (v23 &&& 31), h22)
  else
    (z_ck h2 4 x0).bind fun _ =>
    z_b2 (f_X4_readDigit x0 h2) fun v26 h25 =>
    some ((1 : Int32) <<< (v26 &&& 31), h25)
noncomputable def f_X4_readClaim_b52 (rec : Option Nat → Int32 → zH → Nat → Nat → Option ((Nat × Nat) × (Option Nat × zH))) (x0 : Option Nat) (x2 : Option Nat) (h : zH) (nx z : Nat) : Option ((Nat × Nat) × (Option Nat × zH)) :=
  (z_ck h 4 x0).bind fun _ =>
  z_b2 (f_X4_readSense x0 h) fun v3 h2 =>
  (z_pF h2 1 2 x2 (tI v3)).bind fun h4 =>
  some ((nx, z), (x2, h4))
noncomputable def f_X4_readClaim_b40 (rec : Option Nat → Int32 → zH → Nat → Nat → Option ((Nat × Nat) × (Option Nat × zH))) (x0 : Option Nat) (x2 : Option Nat) (s0 : Option Nat) (s1 : Option Nat) (h : zH) (nx z : Nat) : Option ((Nat × Nat) × (Option Nat × zH)) :=
  (z_pF h 1 3 s0 (tA s1)).bind fun h1 =>
  (z_ck h1 4 x0).bind fun _ =>
  (f_X4_need x0 (41 : Int32) h1).bind fun h3 =>
  some ((nx, z), (x2, h3))
noncomputable def f_X4_readClaim_b3 (rec : Option Nat → Int32 → zH → Nat → Nat → Option ((Nat × Nat) × (Option Nat × zH))) (x0 : Option Nat) (x1 : Int32) (s0 : Option Nat) (h : zH) (nx z : Nat) : Option ((Nat × Nat) × (Option Nat × zH)) :=
  Option.bind s0 fun _ =>
  (f_X1_init s0 h).bind fun h2 =>
  (z_ck h2 4 x0).bind fun _ =>
  z_b2 (f_X4_takes x0 (33 : Int32) h2) fun v5 h4 =>
  (z_pZ h4 1 1 s0 v5).bind fun h6 =>
  if (4 : Int32) ≤ x1 then
    f_X4_readClaim_b52 rec x0 s0 h6 nx z
  else
    (z_ck h6 4 x0).bind fun _ =>
    z_b2 (f_X4_takes x0 (40 : Int32) h6) fun v9 h8 =>
    if v9 = (0 : Int32) then
      f_X4_readClaim_b52 rec x0 s0 h8 nx z
    else
      (z_ck h8 4 x0).bind fun _ =>
      (rec x0 (x1 + (1 : Int32)) h8 nx z).bind fun n13 =>
      f_X4_readClaim_b40 rec x0 s0 s0 n13.2.1 n13.2.2 n13.1.1 n13.1.2
noncomputable def f_X4_readClaim_r (rec : Option Nat → Int32 → zH → Nat → Nat → Option ((Nat × Nat) × (Option Nat × zH))) (x0 : Option Nat) (x1 : Int32) (h : zH) (nx z : Nat) : Option ((Nat × Nat) × (Option Nat × zH)) :=
  f_X4_readClaim_b3 rec x0 x1 (some nx) (z_up h nx (.inr (1, [tI 0, tI 0, tI 0, tA none, tA none]))) (nx + 1) (z + 5)
noncomputable def f_X4_readTest_b48 (rec : Option Nat → Int32 → zH → Nat → Nat → Option ((Nat × Nat) × (Option Nat × zH))) (x0 : Option Nat) (x1 : Int32) (x2 : Option Nat) (x3 : Option Nat) (x4 : Int32) (x5 : Int32) (s0 : Option Nat) (s1 : Option Nat) (h : zH) (nx z : Nat) : Option ((Nat × Nat) × (((Option Nat) × Int32 × (Option Nat) × (Option Nat) × Int32 × zH) ⊕ (Option Nat × zH))) :=
  (z_pF h 1 4 s0 (tA s1)).bind fun h1 =>
  (z_gA h1 1 4 x3).bind fun v2 =>
  (z_pZ h1 1 0 v2 x5).bind fun h3 =>
  some ((nx, z), Sum.inl (x0, x1, x2, v2, x4 + (1 : Int32), h3))
noncomputable def f_X4_readTest_b42 (rec : Option Nat → Int32 → zH → Nat → Nat → Option ((Nat × Nat) × (Option Nat × zH))) (x0 : Option Nat) (x1 : Int32) (x2 : Option Nat) (x3 : Option Nat) (x4 : Int32) (x5 : Int32) (h : zH) (nx z : Nat) : Option ((Nat × Nat) × (((Option Nat) × Int32 × (Option Nat) × (Option Nat) × Int32 × zH) ⊕ (Option Nat × zH))) :=
  (z_ck h 4 x0).bind fun _ =>
  (rec x0 x1 h nx z).bind fun n4 =>
  f_X4_readTest_b48 rec x0 x1 x2 x3 x4 x5 x3 n4.2.1 n4.2.2 n4.1.1 n4.1.2
noncomputable def f_X4_readTest_c11 (rec : Option Nat → Int32 → zH → Nat → Nat → Option ((Nat × Nat) × (Option Nat × zH))) (x0 : Option Nat) (x1 : Int32) (x2 : Option Nat) (x3 : Option Nat) (x4 : Int32) (h : zH) (nx z : Nat) : Option ((Nat × Nat) × (((Option Nat) × Int32 × (Option Nat) × (Option Nat) × Int32 × zH) ⊕ (Option Nat × zH))) :=
  if (100 : Int32) ≤ x4 then
    z_i1m (
    some ((nx, z), (x2, h)))
  else
    (z_ck h 4 x0).bind fun _ =>
    z_b2 (f_X4_takes x0 (124 : Int32) h) fun v3 h2 =>
    if v3 = (0 : Int32) then
      (z_ck h2 4 x0).bind fun _ =>
      z_b2 (f_X4_takes x0 (38 : Int32) h2) fun v6 h5 =>
      if v6 = (0 : Int32) then
        z_i1m (
        some ((nx, z), (x2, h5)))
      else
        f_X4_readTest_b42 rec x0 x1 x2 x3 x4 v3 h5 nx z
    else
      f_X4_readTest_b42 rec x0 x1 x2 x3 x4 v3 h2 nx z
noncomputable def f_X4_readTest_b11 (rec : Option Nat → Int32 → zH → Nat → Nat → Option ((Nat × Nat) × (Option Nat × zH))) (x0 : Option Nat) (x1 : Int32) (x2 : Option Nat) (x3 : Option Nat) (x4 : Int32) (h : zH) (nx z : Nat) : Option ((Nat × Nat) × (Option Nat × zH)) := z_it (fun q : (Nat × Nat) × ((Option Nat) × Int32 × (Option Nat) × (Option Nat) × Int32 × zH) => (f_X4_readTest_c11 rec q.2.1 q.2.2.1 q.2.2.2.1 q.2.2.2.2.1 q.2.2.2.2.2.1 q.2.2.2.2.2.2 q.1.1 q.1.2).map z_ds) ((nx, z), (x0, x1, x2, x3, x4, h))
noncomputable def f_X4_readTest_b5 (rec : Option Nat → Int32 → zH → Nat → Nat → Option ((Nat × Nat) × (Option Nat × zH))) (x0 : Option Nat) (x1 : Int32) (s0 : Option Nat) (h : zH) (nx z : Nat) : Option ((Nat × Nat) × (Option Nat × zH)) :=
  f_X4_readTest_b11 rec x0 x1 s0 s0 (0 : Int32) h nx z
noncomputable def f_X4_readTest_r (rec : Option Nat → Int32 → zH → Nat → Nat → Option ((Nat × Nat) × (Option Nat × zH))) (x0 : Option Nat) (x1 : Int32) (h : zH) (nx z : Nat) : Option ((Nat × Nat) × (Option Nat × zH)) :=
  (z_ck h 4 x0).bind fun _ =>
  (rec x0 x1 h nx z).bind fun n4 =>
  f_X4_readTest_b5 rec x0 x1 n4.2.1 n4.2.2 n4.1.1 n4.1.2
noncomputable def f_X4_readTest : Nat → Option Nat → Int32 → zH → Nat → Nat → Option ((Nat × Nat) × (Option Nat × zH))
  | 0 => fun _ _ _ _ _ => none
  | d + 1 => f_X4_readTest_r (f_X4_readClaim_r (f_X4_readTest d))
noncomputable def f_X4_readClaim (d : Nat) : Option Nat → Int32 → zH → Nat → Nat → Option ((Nat × Nat) × (Option Nat × zH)) := f_X4_readClaim_r (f_X4_readTest d)
noncomputable def f_X4_isAct (x0 : Int32) (h : zH) : Option (Int32 × zH) :=
  if x0 = (102 : Int32) then
    some ((1 : Int32), h)
  else
    if x0 = (103 : Int32) then
      some ((1 : Int32), h)
    else
      if x0 = (112 : Int32) then
        some ((1 : Int32), h)
      else
        if x0 = (100 : Int32) then
          some ((1 : Int32), h)
        else
          if x0 = (115 : Int32) then
            some ((1 : Int32), h)
          else
            if x0 = (111 : Int32) then
              some ((1 : Int32), h)
            else
              some ((0 : Int32), h)
noncomputable def f_X4_readAct_b62 (x1 : Option Nat) (h : zH) : Option (zH) :=
  (z_gI h 2 3 x1).bind fun v1 =>
  (z_pF h 2 3 x1 (tI (v1 + (1 : Int32)))).bind fun h2 =>
  some h2
noncomputable def f_X4_readAct_b49 (x0 : Option Nat) (x1 : Option Nat) (h : zH) : Option (zH) :=
  (z_gA h 2 2 x1).bind fun v1 =>
  (z_gI h 2 3 x1).bind fun v2 =>
  (z_ck h 4 x0).bind fun _ =>
  z_b2 (f_X4_readDigit x0 h) fun v5 h4 =>
  (z_sI h4 v1 v2 v5).bind fun h6 =>
  f_X4_readAct_b62 x1 h6
noncomputable def f_X4_readAct (x0 : Option Nat) (x1 : Option Nat) (h : zH) : Option (zH) :=
  (z_gI h 4 3 x0).bind fun v1 =>
  z_b2 (f_X4_isAct v1 h) fun v3 h2 =>
  if v3 = (0 : Int32) then
    (z_ck h2 4 x0).bind fun _ =>
    (f_X4_fail x0 h2).bind fun h11 =>
    some h11
  else
    (z_gI h2 4 2 x0).bind fun v4 =>
    (z_ck h2 4 x0).bind fun _ =>
    (f_X4_goTo x0 (v4 + (1 : Int32)) h2).bind fun h6 =>
    (z_gA h6 2 1 x1).bind fun v7 =>
    (z_gI h6 2 3 x1).bind fun v8 =>
    (z_sI h6 v7 v8 v1).bind fun h9 =>
    if v1 = (115 : Int32) then
      f_X4_readAct_b49 x0 x1 h9
    else
      if v1 = (111 : Int32) then
        f_X4_readAct_b49 x0 x1 h9
      else
        f_X4_readAct_b62 x1 h9
noncomputable def f_X4_readClause_c30 (x0 : Option Nat) (x1 : Option Nat) (x2 : Int32) (h : zH) (nx z : Nat) : Option ((Nat × Nat) × (((Option Nat) × (Option Nat) × Int32 × zH) ⊕ (Option Nat × zH))) :=
  if (4 : Int32) ≤ x2 then
    z_i1m (
    some ((nx, z), (x1, h)))
  else
    (z_gI h 4 3 x0).bind fun v1 =>
    z_b2 (f_X4_isAct v1 h) fun v3 h2 =>
    if v3 = (0 : Int32) then
      z_i1m (
      some ((nx, z), (x1, h2)))
    else
      (z_ck h2 4 x0).bind fun _ =>
      (f_X4_readAct x0 x1 h2).bind fun h5 =>
      some ((nx, z), Sum.inl (x0, x1, x2 + (1 : Int32), h5))
noncomputable def f_X4_readClause_b30 (x0 : Option Nat) (x1 : Option Nat) (x2 : Int32) (h : zH) (nx z : Nat) : Option ((Nat × Nat) × (Option Nat × zH)) := z_it (fun q : (Nat × Nat) × ((Option Nat) × (Option Nat) × Int32 × zH) => (f_X4_readClause_c30 q.2.1 q.2.2.1 q.2.2.2.1 q.2.2.2.2 q.1.1 q.1.2).map z_ds) ((nx, z), (x0, x1, x2, h))
noncomputable def f_X4_readClause_b14 (x0 : Option Nat) (x1 : Option Nat) (s0 : Option Nat) (s1 : Option Nat) (h : zH) (nx z : Nat) : Option ((Nat × Nat) × (Option Nat × zH)) :=
  (z_pF h 2 0 s0 (tA s1)).bind fun h1 =>
  (z_ck h1 4 x0).bind fun _ =>
  (f_X4_need x0 (58 : Int32) h1).bind fun h3 =>
  (z_ck h3 4 x0).bind fun _ =>
  (f_X4_readAct x0 x1 h3).bind fun h5 =>
  f_X4_readClause_b30 x0 x1 (1 : Int32) h5 nx z
noncomputable def f_X4_readClause_b7 (x0 : Option Nat) (s0 : Option Nat) (h : zH) (nx z : Nat) : Option ((Nat × Nat) × (Option Nat × zH)) :=
  (z_ck h 4 x0).bind fun _ =>
  (f_X4_readTest 6 x0 (0 : Int32) h nx z).bind fun n4 =>
  f_X4_readClause_b14 x0 s0 s0 n4.2.1 n4.2.2 n4.1.1 n4.1.2
noncomputable def f_X4_readClause_b3 (x0 : Option Nat) (s0 : Option Nat) (h : zH) (nx z : Nat) : Option ((Nat × Nat) × (Option Nat × zH)) :=
  Option.bind s0 fun _ =>
  (f_X2_init s0 h nx z).bind fun n3 =>
  f_X4_readClause_b7 x0 s0 n3.2 n3.1.1 n3.1.2
noncomputable def f_X4_readClause (x0 : Option Nat) (h : zH) (nx z : Nat) : Option ((Nat × Nat) × (Option Nat × zH)) :=
  f_X4_readClause_b3 x0 (some nx) (z_up h nx (.inr (2, [tA none, tA none, tA none, tI 0]))) (nx + 1) (z + 4)
noncomputable def f_X4_read_b81 (x0 : Option Nat) (x3 : Option Nat) (h : zH) (nx z : Nat) : Option ((Nat × Nat) × (Option Nat × zH)) :=
  (z_gI h 4 4 x0).bind fun v1 =>
  if v1 = (-1 : Int32) then
    some ((nx, z), (x3, h))
  else
    some ((nx, z), (none, h))
noncomputable def f_X4_read_b69 (x0 : Option Nat) (x3 : Option Nat) (h : zH) (nx z : Nat) : Option ((Nat × Nat) × (Option Nat × zH)) :=
  (z_gI h 4 3 x0).bind fun v1 =>
  if v1 = (-1 : Int32) then
    f_X4_read_b81 x0 x3 h nx z
  else
    (z_ck h 4 x0).bind fun _ =>
    (f_X4_fail x0 h).bind fun h3 =>
    f_X4_read_b81 x0 x3 h3 nx z
noncomputable def f_X4_read_b40 (x0 : Option Nat) (x3 : Option Nat) (s0 : Option Nat) (s1 : Int32) (s2 : Option Nat) (h : zH) (nx z : Nat) : Option ((Nat × Nat) × (((Option Nat) × (Option Nat) × zH) ⊕ (Option Nat × zH))) :=
  (z_sA h s0 s1 s2).bind fun h1 =>
  (z_gI h1 5 1 x3).bind fun v2 =>
  (z_pF h1 5 1 x3 (tI (v2 + (1 : Int32)))).bind fun h3 =>
  (z_gI h3 5 1 x3).bind fun v4 =>
  if (6 : Int32) ≤ v4 then
    z_i1m (f_X4_read_b69 x0 x3 h3 nx z)
  else
    (z_ck h3 4 x0).bind fun _ =>
    z_b2 (f_X4_takes x0 (59 : Int32) h3) fun v7 h6 =>
    if v7 = (0 : Int32) then
      z_i1m (f_X4_read_b69 x0 x3 h6 nx z)
    else
      some ((nx, z), Sum.inl (x0, x3, h6))
noncomputable def f_X4_read_c28 (x0 : Option Nat) (x3 : Option Nat) (h : zH) (nx z : Nat) : Option ((Nat × Nat) × (((Option Nat) × (Option Nat) × zH) ⊕ (Option Nat × zH))) :=
  (z_gA h 5 0 x3).bind fun v1 =>
  (z_gI h 5 1 x3).bind fun v2 =>
  (z_ck h 4 x0).bind fun _ =>
  (f_X4_readClause x0 h nx z).bind fun n6 =>
  f_X4_read_b40 x0 x3 v1 v2 n6.2.1 n6.2.2 n6.1.1 n6.1.2
noncomputable def f_X4_read_b28 (x0 : Option Nat) (x3 : Option Nat) (h : zH) (nx z : Nat) : Option ((Nat × Nat) × (Option Nat × zH)) := z_it (fun q : (Nat × Nat) × ((Option Nat) × (Option Nat) × zH) => (f_X4_read_c28 q.2.1 q.2.2.1 q.2.2.2 q.1.1 q.1.2).map z_ds) ((nx, z), (x0, x3, h))
noncomputable def f_X4_read_b27 (x0 : Option Nat) (s0 : Option Nat) (h : zH) (nx z : Nat) : Option ((Nat × Nat) × (Option Nat × zH)) :=
  f_X4_read_b28 x0 s0 h nx z
noncomputable def f_X4_read_b23 (x0 : Option Nat) (s0 : Option Nat) (h : zH) (nx z : Nat) : Option ((Nat × Nat) × (Option Nat × zH)) :=
  Option.bind s0 fun _ =>
  (f_X5_init s0 h nx z).bind fun n3 =>
  f_X4_read_b27 x0 s0 n3.2 n3.1.1 n3.1.2
noncomputable def f_X4_read (x0 : Option Nat) (x1 : Option Nat) (x2 : Int32) (h : zH) (nx z : Nat) : Option ((Nat × Nat) × (Option Nat × zH)) :=
  (z_pF h 4 0 x0 (tA x1)).bind fun h1 =>
  (z_pF h1 4 1 x0 (tI x2)).bind fun h2 =>
  (z_pF h2 4 4 x0 (tI (-1 : Int32))).bind fun h3 =>
  (z_ck h3 4 x0).bind fun _ =>
  (f_X4_goTo x0 (0 : Int32) h3).bind fun h5 =>
  f_X4_read_b23 x0 (some nx) (z_up h5 nx (.inr (5, [tA none, tI 0]))) (nx + 1) (z + 2)
noncomputable def f_X5_firstFor_c2 (x0 : Option Nat) (x1 : Int32) (x2 : Int32) (h : zH) : Option (((Option Nat) × Int32 × Int32 × zH) ⊕ (Int32 × zH)) :=
  (z_gI h 5 1 x0).bind fun v1 =>
  if v1 ≤ x2 then
    z_i1 (
    some ((-4 : Int32), h))
  else
    (z_gA h 5 0 x0).bind fun v2 =>
    (z_aA h v2 x2).bind fun v3 =>
    (z_gA h 2 0 v3).bind fun v4 =>
    z_b2 (f_X1_holds 6 v4 x1 (0 : Int32) h) fun v6 h5 =>
    if v6 = (0 : Int32) then
      some (Sum.inl (x0, x1, x2 + (1 : Int32), h5))
    else
      z_i1 (
      some (x2, h5))
noncomputable def f_X5_firstFor_b2 (x0 : Option Nat) (x1 : Int32) (x2 : Int32) (h : zH) : Option (Int32 × zH) := z_it (fun s : (Option Nat) × Int32 × Int32 × zH => f_X5_firstFor_c2 s.1 s.2.1 s.2.2.1 s.2.2.2) (x0, x1, x2, h)
noncomputable def f_X5_firstFor (x0 : Option Nat) (x1 : Int32) (h : zH) : Option (Int32 × zH) :=
  f_X5_firstFor_b2 x0 x1 (0 : Int32) h
noncomputable def f_X8_init (x0 : Option Nat) (h : zH) : Option (zH) :=
  Option.bind x0 fun v1 =>
  some h
noncomputable def f_X6_init_b82 (x0 : Option Nat) (x1 : Int32) (s0 : Option Nat) (s1 : Int32) (s2 : Option Nat) (h : zH) (nx z : Nat) : Option ((Nat × Nat) × (((Option Nat) × Int32 × zH) ⊕ (zH))) :=
  Option.bind s2 fun _ =>
  (f_X8_init s2 h).bind fun h2 =>
  (z_sA h2 s0 s1 s2).bind fun h3 =>
  some ((nx, z), Sum.inl (x0, x1 + (1 : Int32), h3))
noncomputable def f_X6_init_c65 (x0 : Option Nat) (x1 : Int32) (h : zH) (nx z : Nat) : Option ((Nat × Nat) × (((Option Nat) × Int32 × zH) ⊕ (zH))) :=
  (z_gA h 6 5 x0).bind fun v1 =>
  (z_len h v1).bind fun v2 =>
  if v2 ≤ x1 then
    z_i1m (
    some ((nx, z), h))
  else
    (z_gA h 6 5 x0).bind fun v3 =>
    f_X6_init_b82 x0 x1 v3 x1 (some nx) (z_up h nx (.inr (8, [tI 0, tI 0, tI 0, tI 0, tI 0]))) (nx + 1) (z + 5)
noncomputable def f_X6_init_b65 (x0 : Option Nat) (x1 : Int32) (h : zH) (nx z : Nat) : Option ((Nat × Nat) × (zH)) := z_it (fun q : (Nat × Nat) × ((Option Nat) × Int32 × zH) => (f_X6_init_c65 q.2.1 q.2.2.1 q.2.2.2 q.1.1 q.1.2).map z_ds) ((nx, z), (x0, x1, h))
noncomputable def f_X6_init_b56 (x0 : Option Nat) (x1 : Int32) (s0 : Option Nat) (s1 : Int32) (s2 : Option Nat) (h : zH) (nx z : Nat) : Option ((Nat × Nat) × (((Option Nat) × Int32 × zH) ⊕ (zH))) :=
  (z_sA h s0 s1 s2).bind fun h1 =>
  some ((nx, z), Sum.inl (x0, x1 + (1 : Int32), h1))
noncomputable def f_X6_init_b52 (x0 : Option Nat) (x1 : Int32) (s0 : Option Nat) (s1 : Int32) (s2 : Option Nat) (h : zH) (nx z : Nat) : Option ((Nat × Nat) × (((Option Nat) × Int32 × zH) ⊕ (zH))) :=
  Option.bind s2 fun _ =>
  (f_X0_init s2 h nx z).bind fun n3 =>
  f_X6_init_b56 x0 x1 s0 s1 s2 n3.2 n3.1.1 n3.1.2
noncomputable def f_X6_init_c35 (x0 : Option Nat) (x1 : Int32) (h : zH) (nx z : Nat) : Option ((Nat × Nat) × (((Option Nat) × Int32 × zH) ⊕ (zH))) :=
  (z_gA h 6 3 x0).bind fun v1 =>
  (z_len h v1).bind fun v2 =>
  if v2 ≤ x1 then
    z_i1m (
    f_X6_init_b65 x0 (0 : Int32) h nx z)
  else
    (z_gA h 6 3 x0).bind fun v3 =>
    f_X6_init_b52 x0 x1 v3 x1 (some nx) (z_up h nx (.inr (0, [tI 0, tI 0, tI 0, tA none, tA none, tA none, tA none, tA none, tA none]))) (nx + 1) (z + 9)
noncomputable def f_X6_init_b35 (x0 : Option Nat) (x1 : Int32) (h : zH) (nx z : Nat) : Option ((Nat × Nat) × (zH)) := z_it (fun q : (Nat × Nat) × ((Option Nat) × Int32 × zH) => (f_X6_init_c35 q.2.1 q.2.2.1 q.2.2.2 q.1.1 q.1.2).map z_ds) ((nx, z), (x0, x1, h))
noncomputable def f_X6_init_b25 (x0 : Option Nat) (s0 : Option Nat) (s1 : Option Nat) (h : zH) (nx z : Nat) : Option ((Nat × Nat) × (zH)) :=
  (z_pF h 6 5 s0 (tA s1)).bind fun h1 =>
  (z_pF h1 6 7 x0 (tI (3 : Int32))).bind fun h2 =>
  f_X6_init_b35 x0 (0 : Int32) h2 nx z
noncomputable def f_X6_init_b16 (x0 : Option Nat) (s0 : Option Nat) (s1 : Option Nat) (h : zH) (nx z : Nat) : Option ((Nat × Nat) × (zH)) :=
  (z_pF h 6 3 s0 (tA s1)).bind fun h1 =>
  f_X6_init_b25 x0 x0 (some nx) (z_up h1 nx (.inl (5, 8, .inr (.inr (fun _ => none))))) (nx + 1) (z + 8)
noncomputable def f_X6_init_b8 (x0 : Option Nat) (s0 : Option Nat) (s1 : Option Nat) (h : zH) (nx z : Nat) : Option ((Nat × Nat) × (zH)) :=
  (z_pF h 6 2 s0 (tA s1)).bind fun h1 =>
  f_X6_init_b16 x0 x0 (some nx) (z_up h1 nx (.inl (4, 3, .inr (.inr (fun _ => none))))) (nx + 1) (z + 3)
noncomputable def f_X6_init (x0 : Option Nat) (h : zH) (nx z : Nat) : Option ((Nat × Nat) × (zH)) :=
  Option.bind x0 fun v1 =>
  f_X6_init_b8 x0 x0 (some nx) (z_up h nx (.inl (3, 4, .inr (.inl (fun _ => 0))))) (nx + 1) (z + 4)
noncomputable def f_X8_become (x0 : Option Nat) (x1 : Option Nat) (h : zH) : Option (zH) :=
  (z_gI h 8 0 x1).bind fun v1 =>
  (z_pF h 8 0 x0 (tI v1)).bind fun h2 =>
  (z_gI h2 8 1 x1).bind fun v3 =>
  (z_pF h2 8 1 x0 (tI v3)).bind fun h4 =>
  (z_gI h4 8 2 x1).bind fun v5 =>
  (z_pF h4 8 2 x0 (tI v5)).bind fun h6 =>
  (z_gI h6 8 3 x1).bind fun v7 =>
  (z_pF h6 8 3 x0 (tI v7)).bind fun h8 =>
  (z_gI h8 8 4 x1).bind fun v9 =>
  (z_pF h8 8 4 x0 (tI v9)).bind fun h10 =>
  some h10
noncomputable def f_X6_become_c83 (x0 : Option Nat) (x1 : Option Nat) (x2 : Int32) (h : zH) : Option (((Option Nat) × (Option Nat) × Int32 × zH) ⊕ (zH)) :=
  (z_gI h 6 6 x0).bind fun v1 =>
  if v1 ≤ x2 then
    z_i1 (
    (z_gI h 6 7 x1).bind fun v2 =>
    (z_pF h 6 7 x0 (tI v2)).bind fun h3 =>
    (z_gI h3 6 8 x1).bind fun v4 =>
    (z_pF h3 6 8 x0 (tI v4)).bind fun h5 =>
    some h5)
  else
    (z_gA h 6 5 x0).bind fun v6 =>
    (z_aA h v6 x2).bind fun v7 =>
    (z_gA h 6 5 x1).bind fun v8 =>
    (z_aA h v8 x2).bind fun v9 =>
    (z_ck h 8 v7).bind fun _ =>
    (f_X8_become v7 v9 h).bind fun h11 =>
    some (Sum.inl (x0, x1, x2 + (1 : Int32), h11))
noncomputable def f_X6_become_b83 (x0 : Option Nat) (x1 : Option Nat) (x2 : Int32) (h : zH) : Option (zH) := z_it (fun s : (Option Nat) × (Option Nat) × Int32 × zH => f_X6_become_c83 s.1 s.2.1 s.2.2.1 s.2.2.2) (x0, x1, x2, h)
noncomputable def f_X6_become_c44 (x0 : Option Nat) (x1 : Option Nat) (x2 : Int32) (h : zH) : Option (((Option Nat) × (Option Nat) × Int32 × zH) ⊕ (zH)) :=
  (z_gI h 6 4 x0).bind fun v1 =>
  if v1 ≤ x2 then
    z_i1 (
    (z_gI h 6 6 x1).bind fun v2 =>
    (z_pF h 6 6 x0 (tI v2)).bind fun h3 =>
    f_X6_become_b83 x0 x1 (0 : Int32) h3)
  else
    (z_gA h 6 3 x0).bind fun v4 =>
    (z_aA h v4 x2).bind fun v5 =>
    (z_gA h 6 3 x1).bind fun v6 =>
    (z_aA h v6 x2).bind fun v7 =>
    (z_ck h 0 v5).bind fun _ =>
    (f_X0_become v5 v7 h).bind fun h9 =>
    some (Sum.inl (x0, x1, x2 + (1 : Int32), h9))
noncomputable def f_X6_become_b44 (x0 : Option Nat) (x1 : Option Nat) (x2 : Int32) (h : zH) : Option (zH) := z_it (fun s : (Option Nat) × (Option Nat) × Int32 × zH => f_X6_become_c44 s.1 s.2.1 s.2.2.1 s.2.2.2) (x0, x1, x2, h)
noncomputable def f_X6_become (x0 : Option Nat) (x1 : Option Nat) (h : zH) : Option (zH) :=
  (z_gJ h 6 0 x1).bind fun v1 =>
  (z_pF h 6 0 x0 (tJ v1)).bind fun h2 =>
  (z_gJ h2 6 1 x1).bind fun v3 =>
  (z_pF h2 6 1 x0 (tJ v3)).bind fun h4 =>
  (z_gA h4 6 2 x1).bind fun v5 =>
  (z_gA h4 6 2 x0).bind fun v6 =>
  (z_gA h4 6 2 x0).bind fun v7 =>
  (z_len h4 v7).bind fun v8 =>
  (z_cp h4 v5 (0 : Int32) v6 (0 : Int32) v8).bind fun h9 =>
  (z_gI h9 6 4 x1).bind fun v10 =>
  (z_pF h9 6 4 x0 (tI v10)).bind fun h11 =>
  f_X6_become_b44 x0 x1 (0 : Int32) h11
noncomputable def f_X6_lyingCells (x0 : Option Nat) (h : zH) : Option (Int64 × zH) :=
  (z_gA h 6 2 x0).bind fun v1 =>
  (z_aJ h v1 (0 : Int32)).bind fun v2 =>
  (z_gA h 6 2 x0).bind fun v3 =>
  (z_aJ h v3 (1 : Int32)).bind fun v4 =>
  (z_gA h 6 2 x0).bind fun v5 =>
  (z_aJ h v5 (2 : Int32)).bind fun v6 =>
  (z_gA h 6 2 x0).bind fun v7 =>
  (z_aJ h v7 (3 : Int32)).bind fun v8 =>
  some (((v2 ||| v4) ||| v6) ||| v8, h)
noncomputable def f_X6_inUse (x0 : Option Nat) (h : zH) : Option (Int64 × zH) :=
  (z_gJ h 6 1 x0).bind fun v1 =>
  (z_ck h 6 x0).bind fun _ =>
  z_b2 (f_X6_lyingCells x0 h) fun v4 h3 =>
  some (v1 ||| v4, h3)
noncomputable def f_X6_isFree (x0 : Option Nat) (x1 : Int32) (h : zH) : Option (Int32 × zH) :=
  if x1 < (0 : Int32) then
    some ((0 : Int32), h)
  else
    (z_gJ h 6 0 x0).bind fun v1 =>
    (z_gJ h 6 1 x0).bind fun v2 =>
    if (lg_cmp ((v1 ||| v2) &&& ((1 : Int64) <<< (Int32.toInt64 x1 &&& 63))) (0 : Int64)) = (0 : Int32) then
      some ((1 : Int32), h)
    else
      some ((0 : Int32), h)
noncomputable def f_X6_canLie_b37 (tS : Nat) (x0 : Option Nat) (x2 : Int32) (x3 : Int32) (x4 : Option Nat) (x5 : Int64) (x7 : Int32) (x8 : Int32) (h : zH) : Option (((Option Nat) × Int32 × Int32 × (Option Nat) × Int64 × Int32 × Int32 × zH) ⊕ (Int32 × zH)) :=
  (z_ck h 6 x0).bind fun _ =>
  z_b2 (f_X6_isFree x0 x7 h) fun v3 h2 =>
  if v3 = (0 : Int32) then
    z_i1 (
    some ((0 : Int32), h2))
  else
    if (lg_cmp (x5 &&& ((1 : Int64) <<< (Int32.toInt64 x7 &&& 63))) (0 : Int64)) = (0 : Int32) then
      (z_sI h2 x4 x8 x7).bind fun h4 =>
      some (Sum.inl (x0, x2, x3, x4, x5 ||| ((1 : Int64) <<< (Int32.toInt64 x7 &&& 63)), x7, x8 + (1 : Int32), h4))
    else
      z_i1 (
      some ((0 : Int32), h2))
noncomputable def f_X6_canLie_c9 (tS : Nat) (x0 : Option Nat) (x2 : Int32) (x3 : Int32) (x4 : Option Nat) (x5 : Int64) (x7 : Int32) (x8 : Int32) (h : zH) : Option (((Option Nat) × Int32 × Int32 × (Option Nat) × Int64 × Int32 × Int32 × zH) ⊕ (Int32 × zH)) :=
  if x2 ≤ x8 then
    z_i1 (
    some ((1 : Int32), h))
  else
    if x8 ≤ (0 : Int32) then
      f_X6_canLie_b37 tS x0 x2 x3 x4 x5 x7 x8 h
    else
      z_b2 (f_X10_beside tS x7 ((x3 >>> (((2 : Int32) * (x8 - (1 : Int32))) &&& 31)) &&& (3 : Int32)) h) fun v2 h1 =>
      f_X6_canLie_b37 tS x0 x2 x3 x4 x5 v2 x8 h1
noncomputable def f_X6_canLie_b9 (tS : Nat) (x0 : Option Nat) (x2 : Int32) (x3 : Int32) (x4 : Option Nat) (x5 : Int64) (x7 : Int32) (x8 : Int32) (h : zH) : Option (Int32 × zH) := z_it (fun s : (Option Nat) × Int32 × Int32 × (Option Nat) × Int64 × Int32 × Int32 × zH => f_X6_canLie_c9 tS s.1 s.2.1 s.2.2.1 s.2.2.2.1 s.2.2.2.2.1 s.2.2.2.2.2.1 s.2.2.2.2.2.2.1 s.2.2.2.2.2.2.2) (x0, x2, x3, x4, x5, x7, x8, h)
noncomputable def f_X6_canLie (tS : Nat) (x0 : Option Nat) (x1 : Int32) (x2 : Int32) (x3 : Int32) (x4 : Option Nat) (h : zH) : Option (Int32 × zH) :=
  f_X6_canLie_b9 tS x0 x2 x3 x4 (0 : Int64) x1 (0 : Int32) h
noncomputable def f_X6_addArm_c26 (x0 : Option Nat) (x1 : Option Nat) (x2 : Int32) (x3 : Int32) (h : zH) : Option (((Option Nat) × (Option Nat) × Int32 × Int32 × zH) ⊕ (zH)) :=
  if x2 ≤ x3 then
    z_i1 (
    some h)
  else
    (z_gJ h 6 1 x0).bind fun v1 =>
    (z_aI h x1 x3).bind fun v2 =>
    (z_pF h 6 1 x0 (tJ (v1 ||| ((1 : Int64) <<< (Int32.toInt64 v2 &&& 63))))).bind fun h3 =>
    some (Sum.inl (x0, x1, x2, x3 + (1 : Int32), h3))
noncomputable def f_X6_addArm_b26 (x0 : Option Nat) (x1 : Option Nat) (x2 : Int32) (x3 : Int32) (h : zH) : Option (zH) := z_it (fun s : (Option Nat) × (Option Nat) × Int32 × Int32 × zH => f_X6_addArm_c26 s.1 s.2.1 s.2.2.1 s.2.2.2.1 s.2.2.2.2) (x0, x1, x2, x3, h)
noncomputable def f_X6_addArm (x0 : Option Nat) (x1 : Option Nat) (x2 : Int32) (h : zH) : Option (zH) :=
  (z_gA h 6 3 x0).bind fun v1 =>
  (z_gI h 6 4 x0).bind fun v2 =>
  (z_aA h v1 v2).bind fun v3 =>
  (z_ck h 0 v3).bind fun _ =>
  (f_X0_begin v3 x1 x2 h).bind fun h5 =>
  (z_gI h5 6 4 x0).bind fun v6 =>
  (z_pF h5 6 4 x0 (tI (v6 + (1 : Int32)))).bind fun h7 =>
  f_X6_addArm_b26 x0 x1 x2 (0 : Int32) h7
noncomputable def f_X6_lay (x0 : Option Nat) (x1 : Int32) (x2 : Int32) (h : zH) : Option (zH) :=
  (z_gA h 6 5 x0).bind fun v1 =>
  (z_aA h v1 x1).bind fun v2 =>
  (z_pF h 8 1 v2 (tI (0 : Int32))).bind fun h3 =>
  (z_gA h3 6 5 x0).bind fun v4 =>
  (z_aA h3 v4 x1).bind fun v5 =>
  (z_pF h3 8 2 v5 (tI x2)).bind fun h6 =>
  (z_gA h6 6 2 x0).bind fun v7 =>
  (z_gA h6 6 5 x0).bind fun v8 =>
  (z_aA h6 v8 x1).bind fun v9 =>
  (z_gI h6 8 0 v9).bind fun v10 =>
  (z_aJ h6 v7 v10).bind fun v11 =>
  (z_sJ h6 v7 v10 (v11 ||| ((1 : Int64) <<< (Int32.toInt64 x2 &&& 63)))).bind fun h12 =>
  some h12
noncomputable def f_X6_addThing (x0 : Option Nat) (x1 : Int32) (x2 : Int32) (h : zH) : Option (zH) :=
  (z_gA h 6 5 x0).bind fun v1 =>
  (z_gI h 6 6 x0).bind fun v2 =>
  (z_aA h v1 v2).bind fun v3 =>
  (z_pF h 8 0 v3 (tI x2)).bind fun h4 =>
  (z_gI h4 6 6 x0).bind fun v5 =>
  (z_ck h4 6 x0).bind fun _ =>
  (f_X6_lay x0 v5 x1 h4).bind fun h7 =>
  (z_gI h7 6 6 x0).bind fun v8 =>
  (z_pF h7 6 6 x0 (tI (v8 + (1 : Int32)))).bind fun h9 =>
  some h9
noncomputable def f_X6_countThings_b28 (x0 : Option Nat) (x1 : Int32) (x2 : Int32) (x3 : Int32) (h : zH) : Option (((Option Nat) × Int32 × Int32 × Int32 × zH) ⊕ (Int32 × zH)) :=
  some (Sum.inl (x0, x1, x2, x3 + (1 : Int32), h))
noncomputable def f_X6_countThings_c4 (x0 : Option Nat) (x1 : Int32) (x2 : Int32) (x3 : Int32) (h : zH) : Option (((Option Nat) × Int32 × Int32 × Int32 × zH) ⊕ (Int32 × zH)) :=
  (z_gI h 6 6 x0).bind fun v1 =>
  if v1 ≤ x3 then
    z_i1 (
    some (x2, h))
  else
    (z_gA h 6 5 x0).bind fun v2 =>
    (z_aA h v2 x3).bind fun v3 =>
    (z_gI h 8 1 v3).bind fun v4 =>
    if v4 = x1 then
      f_X6_countThings_b28 x0 x1 (x2 + (1 : Int32)) x3 h
    else
      f_X6_countThings_b28 x0 x1 x2 x3 h
noncomputable def f_X6_countThings_b4 (x0 : Option Nat) (x1 : Int32) (x2 : Int32) (x3 : Int32) (h : zH) : Option (Int32 × zH) := z_it (fun s : (Option Nat) × Int32 × Int32 × Int32 × zH => f_X6_countThings_c4 s.1 s.2.1 s.2.2.1 s.2.2.2.1 s.2.2.2.2) (x0, x1, x2, x3, h)
noncomputable def f_X6_countThings (x0 : Option Nat) (x1 : Int32) (h : zH) : Option (Int32 × zH) :=
  f_X6_countThings_b4 x0 x1 (0 : Int32) (0 : Int32) h
noncomputable def f_X6_cellOfThing (x0 : Option Nat) (x1 : Option Nat) (h : zH) : Option (Int32 × zH) :=
  (z_gI h 8 1 x1).bind fun v1 =>
  if v1 = (2 : Int32) then
    some ((-4 : Int32), h)
  else
    (z_gI h 8 1 x1).bind fun v2 =>
    if v2 = (0 : Int32) then
      (z_gI h 8 2 x1).bind fun v9 =>
      some (v9, h)
    else
      (z_gA h 6 3 x0).bind fun v3 =>
      (z_gI h 8 3 x1).bind fun v4 =>
      (z_aA h v3 v4).bind fun v5 =>
      (z_gA h 0 4 v5).bind fun v6 =>
      (z_gI h 8 4 x1).bind fun v7 =>
      (z_aI h v6 v7).bind fun v8 =>
      some (v8, h)
noncomputable def f_X6_lift (x0 : Option Nat) (x1 : Int32) (h : zH) : Option (zH) :=
  (z_gA h 6 2 x0).bind fun v1 =>
  (z_gA h 6 5 x0).bind fun v2 =>
  (z_aA h v2 x1).bind fun v3 =>
  (z_gI h 8 0 v3).bind fun v4 =>
  (z_aJ h v1 v4).bind fun v5 =>
  (z_gA h 6 5 x0).bind fun v6 =>
  (z_aA h v6 x1).bind fun v7 =>
  (z_gI h 8 2 v7).bind fun v8 =>
  (z_sJ h v1 v4 (v5 &&& (((1 : Int64) <<< (Int32.toInt64 v8 &&& 63)) ^^^ (-1 : Int64)))).bind fun h9 =>
  some h9
noncomputable def f_X6_lyingAt_b37 (x0 : Option Nat) (x1 : Int32) (x2 : Int32) (h : zH) : Option (((Option Nat) × Int32 × Int32 × zH) ⊕ (Int32 × zH)) :=
  some (Sum.inl (x0, x1, x2 + (1 : Int32), h))
noncomputable def f_X6_lyingAt_c2 (x0 : Option Nat) (x1 : Int32) (x2 : Int32) (h : zH) : Option (((Option Nat) × Int32 × Int32 × zH) ⊕ (Int32 × zH)) :=
  (z_gI h 6 6 x0).bind fun v1 =>
  if v1 ≤ x2 then
    z_i1 (
    some ((-4 : Int32), h))
  else
    (z_gA h 6 5 x0).bind fun v2 =>
    (z_aA h v2 x2).bind fun v3 =>
    (z_gI h 8 1 v3).bind fun v4 =>
    if v4 = (0 : Int32) then
      (z_gA h 6 5 x0).bind fun v5 =>
      (z_aA h v5 x2).bind fun v6 =>
      (z_gI h 8 2 v6).bind fun v7 =>
      if v7 = x1 then
        z_i1 (
        some (x2, h))
      else
        f_X6_lyingAt_b37 x0 x1 x2 h
    else
      f_X6_lyingAt_b37 x0 x1 x2 h
noncomputable def f_X6_lyingAt_b2 (x0 : Option Nat) (x1 : Int32) (x2 : Int32) (h : zH) : Option (Int32 × zH) := z_it (fun s : (Option Nat) × Int32 × Int32 × zH => f_X6_lyingAt_c2 s.1 s.2.1 s.2.2.1 s.2.2.2) (x0, x1, x2, h)
noncomputable def f_X6_lyingAt (x0 : Option Nat) (x1 : Int32) (h : zH) : Option (Int32 × zH) :=
  f_X6_lyingAt_b2 x0 x1 (0 : Int32) h
noncomputable def f_X6_turned_c9 (tS : Nat) (x0 : Option Nat) (x1 : Int32) (x3 : Int32) (x4 : Int32) (h : zH) : Option (((Option Nat) × Int32 × Int32 × Int32 × zH) ⊕ (Int32 × zH)) :=
  if (3 : Int32) < x4 then
    z_i1 (
    some ((-4 : Int32), h))
  else
    z_b2 (f_X10_beside tS x1 ((x3 + x4) &&& (3 : Int32)) h) fun v2 h1 =>
    (z_ck h1 6 x0).bind fun _ =>
    z_b2 (f_X6_isFree x0 v2 h1) fun v5 h4 =>
    if v5 = (0 : Int32) then
      some (Sum.inl (x0, x1, x3, x4 + (1 : Int32), h4))
    else
      z_i1 (
      some (v2, h4))
noncomputable def f_X6_turned_b9 (tS : Nat) (x0 : Option Nat) (x1 : Int32) (x3 : Int32) (x4 : Int32) (h : zH) : Option (Int32 × zH) := z_it (fun s : (Option Nat) × Int32 × Int32 × Int32 × zH => f_X6_turned_c9 tS s.1 s.2.1 s.2.2.1 s.2.2.2.1 s.2.2.2.2) (x0, x1, x3, x4, h)
noncomputable def f_X6_turned (tS : Nat) (x0 : Option Nat) (x1 : Int32) (x2 : Int32) (h : zH) : Option (Int32 × zH) :=
  z_b2 (f_X10_sideOf x1 x2 h) fun v2 h1 =>
  f_X6_turned_b9 tS x0 x1 v2 (1 : Int32) h1
noncomputable def f_X10_touchByCorner (x0 : Int32) (x1 : Int32) (h : zH) : Option (Int32 × zH) :=
  if (((x0 &&& (7 : Int32)) - (x1 &&& (7 : Int32))) * ((x0 &&& (7 : Int32)) - (x1 &&& (7 : Int32)))) = (1 : Int32) then
    if (((x0 >>> ((3 : Int32) &&& 31)) - (x1 >>> ((3 : Int32) &&& 31))) * ((x0 >>> ((3 : Int32) &&& 31)) - (x1 >>> ((3 : Int32) &&& 31)))) = (1 : Int32) then
      some ((1 : Int32), h)
    else
      some ((0 : Int32), h)
  else
    some ((0 : Int32), h)
noncomputable def f_X6_flipped (x0 : Option Nat) (x1 : Int32) (x2 : Int32) (x3 : Int32) (h : zH) : Option (Int32 × zH) :=
  z_b2 (f_X10_touchByCorner x1 x3 h) fun v2 h1 =>
  if v2 = (0 : Int32) then
    some ((-4 : Int32), h1)
  else
    (z_ck h1 6 x0).bind fun _ =>
    z_b2 (f_X6_isFree x0 ((x1 + x3) - x2) h1) fun v5 h4 =>
    if v5 = (0 : Int32) then
      some ((-4 : Int32), h4)
    else
      some ((x1 + x3) - x2, h4)
noncomputable def f_X6_move_b55 (tS : Nat) (x0 : Option Nat) (x1 : Option Nat) (x2 : Int32) (s0 : Int32) (h : zH) : Option (Int32 × zH) :=
  if (0 : Int32) ≤ s0 then
    (z_gJ h 6 1 x0).bind fun v1 =>
    (z_gA h 0 4 x1).bind fun v2 =>
    (z_aI h v2 x2).bind fun v3 =>
    (z_pF h 6 1 x0 (tJ ((v1 &&& (((1 : Int64) <<< (Int32.toInt64 v3 &&& 63)) ^^^ (-1 : Int64))) ||| ((1 : Int64) <<< (Int32.toInt64 s0 &&& 63))))).bind fun h4 =>
    (z_gA h4 0 4 x1).bind fun v5 =>
    (z_sI h4 v5 x2 s0).bind fun h6 =>
    some ((1 : Int32), h6)
  else
    some ((0 : Int32), h)
noncomputable def f_X6_move (tS : Nat) (x0 : Option Nat) (x1 : Option Nat) (x2 : Int32) (h : zH) : Option (Int32 × zH) :=
  (z_ck h 0 x1).bind fun _ =>
  z_b2 (f_X0_isTip x1 x2 h) fun v3 h2 =>
  if v3 = (0 : Int32) then
    (z_gA h2 0 4 x1).bind fun v4 =>
    (z_aI h2 v4 (x2 - (1 : Int32))).bind fun v5 =>
    (z_gA h2 0 4 x1).bind fun v6 =>
    (z_aI h2 v6 x2).bind fun v7 =>
    (z_gA h2 0 4 x1).bind fun v8 =>
    (z_aI h2 v8 (x2 + (1 : Int32))).bind fun v9 =>
    (z_ck h2 6 x0).bind fun _ =>
    z_b2 (f_X6_flipped x0 v5 v7 v9 h2) fun v12 h11 =>
    f_X6_move_b55 tS x0 x1 x2 v12 h11
  else
    (z_gA h2 0 4 x1).bind fun v13 =>
    (z_aI h2 v13 (x2 - (1 : Int32))).bind fun v14 =>
    (z_gA h2 0 4 x1).bind fun v15 =>
    (z_aI h2 v15 x2).bind fun v16 =>
    (z_ck h2 6 x0).bind fun _ =>
    z_b2 (f_X6_turned tS x0 v14 v16 h2) fun v19 h18 =>
    f_X6_move_b55 tS x0 x1 x2 v19 h18
noncomputable def f_X10_near (x0 : Int32) (h : zH) : Option (Int64 × zH) :=
  some (((((1 : Int64) <<< (Int32.toInt64 x0 &&& 63)) ||| (((1 : Int64) <<< (Int32.toInt64 x0 &&& 63)) <<< (Int32.toInt64 (8 : Int32) &&& 63))) ||| (((Int64.toUInt64 ((1 : Int64) <<< (Int32.toInt64 x0 &&& 63))) >>> ((Int32.toInt64 (8 : Int32)).toUInt64 &&& Int64.toUInt64 63)).toInt64)) ||| (((((1 : Int64) <<< (Int32.toInt64 x0 &&& 63)) &&& (9187201950435737471 : Int64)) <<< (Int32.toInt64 (1 : Int32) &&& 63)) ||| (((Int64.toUInt64 (((1 : Int64) <<< (Int32.toInt64 x0 &&& 63)) &&& (-72340172838076674 : Int64))) >>> ((Int32.toInt64 (1 : Int32)).toUInt64 &&& Int64.toUInt64 63)).toInt64)), h)
noncomputable def f_X6_senses_b102 (x0 : Option Nat) (x3 : Int32) (x4 : Int64) (x6 : Int32) (h : zH) : Option (((Option Nat) × Int32 × Int64 × Int32 × zH) ⊕ (Int32 × zH)) :=
  some (Sum.inl (x0, x3, x4, x6 + (1 : Int32), h))
noncomputable def f_X6_senses_c69 (x0 : Option Nat) (x3 : Int32) (x4 : Int64) (x6 : Int32) (h : zH) : Option (((Option Nat) × Int32 × Int64 × Int32 × zH) ⊕ (Int32 × zH)) :=
  (z_gA h 6 2 x0).bind fun v1 =>
  (z_len h v1).bind fun v2 =>
  if v2 ≤ x6 then
    z_i1 (
    some (x3, h))
  else
    (z_gA h 6 2 x0).bind fun v3 =>
    (z_aJ h v3 x6).bind fun v4 =>
    if (lg_cmp (v4 &&& x4) (0 : Int64)) = (0 : Int32) then
      f_X6_senses_b102 x0 x3 x4 x6 h
    else
      f_X6_senses_b102 x0 (x3 ||| ((16 : Int32) <<< (x6 &&& 31))) x4 x6 h
noncomputable def f_X6_senses_b69 (x0 : Option Nat) (x3 : Int32) (x4 : Int64) (x6 : Int32) (h : zH) : Option (Int32 × zH) := z_it (fun s : (Option Nat) × Int32 × Int64 × Int32 × zH => f_X6_senses_c69 s.1 s.2.1 s.2.2.1 s.2.2.2.1 s.2.2.2.2) (x0, x3, x4, x6, h)
noncomputable def f_X6_senses_b55 (x0 : Option Nat) (x1 : Option Nat) (x2 : Int32) (x3 : Int32) (h : zH) : Option (Int32 × zH) :=
  (z_gA h 0 4 x1).bind fun v1 =>
  (z_aI h v1 x2).bind fun v2 =>
  z_b2 (f_X10_near v2 h) fun v4 h3 =>
  f_X6_senses_b69 x0 x3 v4 (0 : Int32) h3
noncomputable def f_X6_senses_b41 (x0 : Option Nat) (x1 : Option Nat) (x2 : Int32) (x3 : Int32) (h : zH) : Option (Int32 × zH) :=
  (z_ck h 0 x1).bind fun _ =>
  z_b2 (f_X0_isTip x1 x2 h) fun v3 h2 =>
  if v3 = (0 : Int32) then
    f_X6_senses_b55 x0 x1 x2 x3 h2
  else
    f_X6_senses_b55 x0 x1 x2 (x3 ||| (8192 : Int32)) h2
noncomputable def f_X6_senses (x0 : Option Nat) (x1 : Option Nat) (x2 : Int32) (h : zH) : Option (Int32 × zH) :=
  (z_gA h 0 7 x1).bind fun v1 =>
  (z_aI h v1 (x2 - (1 : Int32))).bind fun v2 =>
  (z_gA h 0 5 x1).bind fun v3 =>
  (z_aI h v3 x2).bind fun v4 =>
  (z_gA h 0 6 x1).bind fun v5 =>
  (z_aI h v5 x2).bind fun v6 =>
  if v6 < (0 : Int32) then
    f_X6_senses_b41 x0 x1 x2 (((16384 : Int32) ||| ((1 : Int32) <<< (v2 &&& 31))) ||| ((256 : Int32) <<< (v4 &&& 31))) h
  else
    f_X6_senses_b41 x0 x1 x2 ((((16384 : Int32) ||| ((1 : Int32) <<< (v2 &&& 31))) ||| ((256 : Int32) <<< (v4 &&& 31))) ||| (4096 : Int32)) h
noncomputable def f_X6_clauseFor (x0 : Option Nat) (x1 : Option Nat) (x2 : Int32) (h : zH) : Option (Int32 × zH) :=
  (z_gA h 0 3 x1).bind fun v1 =>
  if v1 = none then
    some ((-4 : Int32), h)
  else
    (z_gA h 0 3 x1).bind fun v2 =>
    (z_ck h 6 x0).bind fun _ =>
    z_b2 (f_X6_senses x0 x1 x2 h) fun v5 h4 =>
    (z_ck h4 5 v2).bind fun _ =>
    z_b2 (f_X5_firstFor v2 v5 h4) fun v8 h7 =>
    some (v8, h7)
noncomputable def f_X6_give (x0 : Option Nat) (x1 : Int32) (x2 : Int32) (x3 : Int32) (h : zH) : Option (zH) :=
  (z_gA h 6 3 x0).bind fun v1 =>
  (z_aA h v1 x2).bind fun v2 =>
  (z_gA h 0 6 v2).bind fun v3 =>
  (z_sI h v3 x3 x1).bind fun h4 =>
  (z_gA h4 6 5 x0).bind fun v5 =>
  (z_aA h4 v5 x1).bind fun v6 =>
  (z_pF h4 8 1 v6 (tI (1 : Int32))).bind fun h7 =>
  (z_gA h7 6 5 x0).bind fun v8 =>
  (z_aA h7 v8 x1).bind fun v9 =>
  (z_pF h7 8 3 v9 (tI x2)).bind fun h10 =>
  (z_gA h10 6 5 x0).bind fun v11 =>
  (z_aA h10 v11 x1).bind fun v12 =>
  (z_pF h10 8 4 v12 (tI x3)).bind fun h13 =>
  some h13
noncomputable def f_X6_grab_b92 (tS : Nat) (x0 : Option Nat) (x1 : Int32) (x2 : Int32) (x3 : Int32) (x4 : Int32) (h : zH) : Option (((Option Nat) × Int32 × Int32 × Int32 × Int32 × zH) ⊕ (zH)) :=
  some (Sum.inl (x0, x1, x2, x3, x4 + (1 : Int32), h))
noncomputable def f_X6_grab_b51 (tS : Nat) (x0 : Option Nat) (x1 : Int32) (x2 : Int32) (x3 : Int32) (x4 : Int32) (s0 : Option Nat) (s1 : Int32) (h : zH) : Option (((Option Nat) × Int32 × Int32 × Int32 × Int32 × zH) ⊕ (zH)) :=
  (z_ck h 6 s0).bind fun _ =>
  z_b2 (f_X6_lyingAt s0 s1 h) fun v3 h2 =>
  if v3 < (0 : Int32) then
    f_X6_grab_b92 tS x0 x1 x2 x3 x4 h2
  else
    (z_gA h2 6 5 x0).bind fun v4 =>
    (z_aA h2 v4 v3).bind fun v5 =>
    (z_gI h2 8 0 v5).bind fun v6 =>
    (z_gI h2 6 7 x0).bind fun v7 =>
    if v6 = v7 then
      f_X6_grab_b92 tS x0 x1 x2 x3 x4 h2
    else
      (z_ck h2 6 x0).bind fun _ =>
      (f_X6_lift x0 v3 h2).bind fun h9 =>
      (z_ck h9 6 x0).bind fun _ =>
      (f_X6_give x0 v3 x1 x2 h9).bind fun h11 =>
      f_X6_grab_b92 tS x0 x1 x2 x3 x4 h11
noncomputable def f_X6_grab_c15 (tS : Nat) (x0 : Option Nat) (x1 : Int32) (x2 : Int32) (x3 : Int32) (x4 : Int32) (h : zH) : Option (((Option Nat) × Int32 × Int32 × Int32 × Int32 × zH) ⊕ (zH)) :=
  if (4 : Int32) ≤ x4 then
    z_i1 (
    some h)
  else
    (z_gA h 6 3 x0).bind fun v1 =>
    (z_aA h v1 x1).bind fun v2 =>
    (z_gA h 0 6 v2).bind fun v3 =>
    (z_aI h v3 x2).bind fun v4 =>
    if (0 : Int32) ≤ v4 then
      z_i1 (
      some h)
    else
      if (0 : Int32) ≤ x4 then
        z_b2 (f_X10_beside tS x3 x4 h) fun v6 h5 =>
        f_X6_grab_b51 tS x0 x1 x2 x3 x4 x0 v6 h5
      else
        f_X6_grab_b51 tS x0 x1 x2 x3 x4 x0 x3 h
noncomputable def f_X6_grab_b15 (tS : Nat) (x0 : Option Nat) (x1 : Int32) (x2 : Int32) (x3 : Int32) (x4 : Int32) (h : zH) : Option (zH) := z_it (fun s : (Option Nat) × Int32 × Int32 × Int32 × Int32 × zH => f_X6_grab_c15 tS s.1 s.2.1 s.2.2.1 s.2.2.2.1 s.2.2.2.2.1 s.2.2.2.2.2) (x0, x1, x2, x3, x4, h)
noncomputable def f_X6_grab (tS : Nat) (x0 : Option Nat) (x1 : Int32) (x2 : Int32) (h : zH) : Option (zH) :=
  (z_gA h 6 3 x0).bind fun v1 =>
  (z_aA h v1 x1).bind fun v2 =>
  (z_gA h 0 4 v2).bind fun v3 =>
  (z_aI h v3 x2).bind fun v4 =>
  f_X6_grab_b15 tS x0 x1 x2 v4 (-1 : Int32) h
noncomputable def f_X6_passOn_b50 (x0 : Option Nat) (x1 : Int32) (x2 : Int32) (x3 : Option Nat) (x4 : Int32) (x5 : Int32) (h : zH) : Option (zH) :=
  (z_gA h 0 6 x3).bind fun v1 =>
  (z_sI h v1 x2 (-4 : Int32)).bind fun h2 =>
  if x5 ≤ (0 : Int32) then
    (z_gA h2 6 5 x0).bind fun v3 =>
    (z_aA h2 v3 x4).bind fun v4 =>
    (z_pF h2 8 1 v4 (tI (2 : Int32))).bind fun h5 =>
    (z_gA h5 6 5 x0).bind fun v6 =>
    (z_aA h5 v6 x4).bind fun v7 =>
    (z_pF h5 8 4 v7 (tI (0 : Int32))).bind fun h8 =>
    some h8
  else
    (z_ck h2 6 x0).bind fun _ =>
    (f_X6_give x0 x4 x1 x5 h2).bind fun h10 =>
    some h10
noncomputable def f_X6_passOn (x0 : Option Nat) (x1 : Int32) (x2 : Int32) (h : zH) : Option (zH) :=
  (z_gA h 6 3 x0).bind fun v1 =>
  (z_aA h v1 x1).bind fun v2 =>
  (z_gA h 0 6 v2).bind fun v3 =>
  (z_aI h v3 x2).bind fun v4 =>
  if v4 < (0 : Int32) then
    some h
  else
    if (x2 - (1 : Int32)) ≤ (0 : Int32) then
      f_X6_passOn_b50 x0 x1 x2 v2 v4 (x2 - (1 : Int32)) h
    else
      (z_gI h 0 1 v2).bind fun v5 =>
      if (x2 - (1 : Int32)) = v5 then
        some h
      else
        (z_gA h 0 6 v2).bind fun v6 =>
        (z_aI h v6 (x2 - (1 : Int32))).bind fun v7 =>
        if v7 < (0 : Int32) then
          f_X6_passOn_b50 x0 x1 x2 v2 v4 (x2 - (1 : Int32)) h
        else
          some h
noncomputable def f_X6_letGo (x0 : Option Nat) (x1 : Option Nat) (x2 : Int32) (h : zH) : Option (zH) :=
  (z_gA h 0 6 x1).bind fun v1 =>
  (z_aI h v1 x2).bind fun v2 =>
  if v2 < (0 : Int32) then
    some h
  else
    (z_ck h 6 x0).bind fun _ =>
    z_b2 (f_X6_lyingCells x0 h) fun v5 h4 =>
    (z_gA h4 0 4 x1).bind fun v6 =>
    (z_aI h4 v6 x2).bind fun v7 =>
    if (lg_cmp (v5 &&& ((1 : Int64) <<< (Int32.toInt64 v7 &&& 63))) (0 : Int64)) = (0 : Int32) then
      (z_gA h4 0 6 x1).bind fun v8 =>
      (z_sI h4 v8 x2 (-4 : Int32)).bind fun h9 =>
      (z_gA h9 0 4 x1).bind fun v10 =>
      (z_aI h9 v10 x2).bind fun v11 =>
      (z_ck h9 6 x0).bind fun _ =>
      (f_X6_lay x0 v2 v11 h9).bind fun h13 =>
      some h13
    else
      some h4
noncomputable def f_X6_doActs_b184 (tS : Nat) (x0 : Option Nat) (x1 : Int32) (x2 : Int32) (x3 : Option Nat) (x5 : Option Nat) (x6 : Int32) (x7 : Int32) (h : zH) : Option (((Option Nat) × Int32 × Int32 × (Option Nat) × (Option Nat) × Int32 × Int32 × zH) ⊕ (Int32 × zH)) :=
  some (Sum.inl (x0, x1, x2, x3, x5, x6, x7 + (1 : Int32), h))
noncomputable def f_X6_doActs_c55 (tS : Nat) (x0 : Option Nat) (x1 : Int32) (x2 : Int32) (x3 : Option Nat) (x5 : Option Nat) (x6 : Int32) (x7 : Int32) (h : zH) : Option (((Option Nat) × Int32 × Int32 × (Option Nat) × (Option Nat) × Int32 × Int32 × zH) ⊕ (Int32 × zH)) :=
  (z_gI h 2 3 x5).bind fun v1 =>
  if v1 ≤ x7 then
    z_i1 (
    some (x6, h))
  else
    (z_gA h 2 2 x5).bind fun v2 =>
    (z_aI h v2 x7).bind fun v3 =>
    (z_gA h 2 1 x5).bind fun v4 =>
    (z_aI h v4 x7).bind fun v5 =>
    if v5 = (100 : Int32) then
      (z_ck h 6 x0).bind fun _ =>
      (f_X6_letGo x0 x3 x2 h).bind fun h7 =>
      f_X6_doActs_b184 tS x0 x1 x2 x3 x5 x6 x7 h7
    else
    if v5 = (102 : Int32) then
      (z_ck h 6 x0).bind fun _ =>
      z_b2 (f_X6_move tS x0 x3 x2 h) fun v10 h9 =>
      f_X6_doActs_b184 tS x0 x1 x2 x3 x5 x6 x7 h9
    else
    if v5 = (103 : Int32) then
      (z_ck h 6 x0).bind fun _ =>
      (f_X6_grab tS x0 x1 x2 h).bind fun h12 =>
      f_X6_doActs_b184 tS x0 x1 x2 x3 x5 x6 x7 h12
    else
    if v5 = (112 : Int32) then
      (z_ck h 6 x0).bind fun _ =>
      (f_X6_passOn x0 x1 x2 h).bind fun h14 =>
      f_X6_doActs_b184 tS x0 x1 x2 x3 x5 x6 x7 h14
    else
    if v5 = (115 : Int32) then
      (z_gA h 0 5 x3).bind fun v15 =>
      (z_sI h v15 x2 v3).bind fun h16 =>
      f_X6_doActs_b184 tS x0 x1 x2 x3 x5 x6 x7 h16
    else
      f_X6_doActs_b184 tS x0 x1 x2 x3 x5 v3 x7 h
noncomputable def f_X6_doActs_b55 (tS : Nat) (x0 : Option Nat) (x1 : Int32) (x2 : Int32) (x3 : Option Nat) (x5 : Option Nat) (x6 : Int32) (x7 : Int32) (h : zH) : Option (Int32 × zH) := z_it (fun s : (Option Nat) × Int32 × Int32 × (Option Nat) × (Option Nat) × Int32 × Int32 × zH => f_X6_doActs_c55 tS s.1 s.2.1 s.2.2.1 s.2.2.2.1 s.2.2.2.2.1 s.2.2.2.2.2.1 s.2.2.2.2.2.2.1 s.2.2.2.2.2.2.2) (x0, x1, x2, x3, x5, x6, x7, h)
noncomputable def f_X6_doActs (tS : Nat) (x0 : Option Nat) (x1 : Int32) (x2 : Int32) (h : zH) : Option (Int32 × zH) :=
  (z_gA h 6 3 x0).bind fun v1 =>
  (z_aA h v1 x1).bind fun v2 =>
  (z_gA h 0 8 v2).bind fun v3 =>
  (z_aI h v3 x2).bind fun v4 =>
  if v4 < (0 : Int32) then
    some ((0 : Int32), h)
  else
    (z_gA h 0 3 v2).bind fun v5 =>
    if v5 = none then
      some ((0 : Int32), h)
    else
      (z_gI h 0 1 v2).bind fun v6 =>
      if x2 = v6 then
        some ((0 : Int32), h)
      else
        (z_gA h 0 3 v2).bind fun v7 =>
        (z_gA h 5 0 v7).bind fun v8 =>
        (z_aA h v8 v4).bind fun v9 =>
        f_X6_doActs_b55 tS x0 x1 x2 v2 v9 (0 : Int32) (0 : Int32) h
noncomputable def f_X6_tick_c91 (tS : Nat) (x0 : Option Nat) (x1 : Int32) (x2 : Int32) (h : zH) : Option (((Option Nat) × Int32 × Int32 × zH) ⊕ (((Option Nat) × Int32 × zH) ⊕ (zH))) :=
  (z_gA h 6 3 x0).bind fun v1 =>
  (z_aA h v1 x1).bind fun v2 =>
  (z_gI h 0 0 v2).bind fun v3 =>
  if v3 ≤ x2 then
    z_i1 (
    some (Sum.inl (x0, x1 + (1 : Int32), h)))
  else
    (z_gA h 6 3 x0).bind fun v4 =>
    (z_aA h v4 x1).bind fun v5 =>
    (z_gA h 0 7 v5).bind fun v6 =>
    (z_ck h 6 x0).bind fun _ =>
    z_b2 (f_X6_doActs tS x0 x1 x2 h) fun v9 h8 =>
    (z_sI h8 v6 x2 v9).bind fun h10 =>
    some (Sum.inl (x0, x1, x2 + (1 : Int32), h10))
noncomputable def f_X6_tick_b91 (tS : Nat) (x0 : Option Nat) (x1 : Int32) (x2 : Int32) (h : zH) : Option (((Option Nat) × Int32 × zH) ⊕ (zH)) := z_it (fun s : (Option Nat) × Int32 × Int32 × zH => f_X6_tick_c91 tS s.1 s.2.1 s.2.2.1 s.2.2.2) (x0, x1, x2, h)
noncomputable def f_X6_tick_c61 (tS : Nat) (x0 : Option Nat) (x1 : Int32) (h : zH) : Option (((Option Nat) × Int32 × zH) ⊕ (zH)) :=
  (z_gI h 6 4 x0).bind fun v1 =>
  if v1 ≤ x1 then
    z_i1 (
    (z_gI h 6 8 x0).bind fun v2 =>
    (z_pF h 6 8 x0 (tI (v2 + (1 : Int32)))).bind fun h3 =>
    some h3)
  else
    (z_gA h 6 3 x0).bind fun v4 =>
    (z_aA h v4 x1).bind fun v5 =>
    (z_gA h 0 7 v5).bind fun v6 =>
    (z_gA h 6 3 x0).bind fun v7 =>
    (z_aA h v7 x1).bind fun v8 =>
    (z_gI h 0 2 v8).bind fun v9 =>
    (z_sI h v6 (0 : Int32) v9).bind fun h10 =>
    f_X6_tick_b91 tS x0 x1 (1 : Int32) h10
noncomputable def f_X6_tick_b61 (tS : Nat) (x0 : Option Nat) (x1 : Int32) (h : zH) : Option (zH) := z_it (fun s : (Option Nat) × Int32 × zH => f_X6_tick_c61 tS s.1 s.2.1 s.2.2) (x0, x1, h)
noncomputable def f_X6_tick_c12 (tS : Nat) (x0 : Option Nat) (x1 : Int32) (x2 : Int32) (h : zH) : Option (((Option Nat) × Int32 × Int32 × zH) ⊕ (((Option Nat) × Int32 × zH) ⊕ (zH))) :=
  (z_gA h 6 3 x0).bind fun v1 =>
  (z_aA h v1 x1).bind fun v2 =>
  (z_gI h 0 0 v2).bind fun v3 =>
  if v3 ≤ x2 then
    z_i1 (
    some (Sum.inl (x0, x1 + (1 : Int32), h)))
  else
    (z_gA h 6 3 x0).bind fun v4 =>
    (z_aA h v4 x1).bind fun v5 =>
    (z_gA h 0 8 v5).bind fun v6 =>
    (z_gA h 6 3 x0).bind fun v7 =>
    (z_aA h v7 x1).bind fun v8 =>
    (z_ck h 6 x0).bind fun _ =>
    z_b2 (f_X6_clauseFor x0 v8 x2 h) fun v11 h10 =>
    (z_sI h10 v6 x2 v11).bind fun h12 =>
    some (Sum.inl (x0, x1, x2 + (1 : Int32), h12))
noncomputable def f_X6_tick_b12 (tS : Nat) (x0 : Option Nat) (x1 : Int32) (x2 : Int32) (h : zH) : Option (((Option Nat) × Int32 × zH) ⊕ (zH)) := z_it (fun s : (Option Nat) × Int32 × Int32 × zH => f_X6_tick_c12 tS s.1 s.2.1 s.2.2.1 s.2.2.2) (x0, x1, x2, h)
noncomputable def f_X6_tick_c2 (tS : Nat) (x0 : Option Nat) (x1 : Int32) (h : zH) : Option (((Option Nat) × Int32 × zH) ⊕ (zH)) :=
  (z_gI h 6 4 x0).bind fun v1 =>
  if v1 ≤ x1 then
    z_i1 (
    f_X6_tick_b61 tS x0 (0 : Int32) h)
  else
    f_X6_tick_b12 tS x0 x1 (1 : Int32) h
noncomputable def f_X6_tick_b2 (tS : Nat) (x0 : Option Nat) (x1 : Int32) (h : zH) : Option (zH) := z_it (fun s : (Option Nat) × Int32 × zH => f_X6_tick_c2 tS s.1 s.2.1 s.2.2) (x0, x1, h)
noncomputable def f_X6_tick (tS : Nat) (x0 : Option Nat) (h : zH) : Option (zH) :=
  f_X6_tick_b2 tS x0 (0 : Int32) h
noncomputable def f_X7_init_b14 (s0 : Option Nat) (s1 : Option Nat) (h : zH) (nx z : Nat) : Option ((Nat × Nat) × (zH)) :=
  (z_pF h 7 2 s0 (tA s1)).bind fun h1 =>
  some ((nx, z), h1)
noncomputable def f_X7_init (x0 : Option Nat) (h : zH) (nx z : Nat) : Option ((Nat × Nat) × (zH)) :=
  Option.bind x0 fun v1 =>
  (z_pF h 7 0 x0 (tI (-1 : Int32))).bind fun h2 =>
  f_X7_init_b14 x0 (some nx) (z_up h2 nx (.inl (0, 64, .inl (fun _ => 0)))) (nx + 1) (z + 64)
noncomputable def f_X7_begin (x0 : Option Nat) (x1 : Int32) (x2 : Int32) (h : zH) : Option (zH) :=
  (z_pF h 7 0 x0 (tI x1)).bind fun h1 =>
  (z_pF h1 7 1 x0 (tI x2)).bind fun h2 =>
  (z_gA h2 7 2 x0).bind fun v3 =>
  (f_J7_fill_53178 v3 (0 : Int32) h2).bind fun h4 =>
  some h4
noncomputable def f_X7_forget (x0 : Option Nat) (h : zH) : Option (zH) :=
  (z_pF h 7 0 x0 (tI (-1 : Int32))).bind fun h1 =>
  (z_pF h1 7 1 x0 (tI (0 : Int32))).bind fun h2 =>
  some h2
noncomputable def f_X7_holdsNothing (x0 : Option Nat) (h : zH) : Option (Int32 × zH) :=
  (z_gI h 7 0 x0).bind fun v1 =>
  if v1 = (-1 : Int32) then
    some ((1 : Int32), h)
  else
    some ((0 : Int32), h)
noncomputable def f_X7_spans (x0 : Option Nat) (x1 : Int32) (x2 : Int32) (h : zH) : Option (Int32 × zH) :=
  if x1 < (0 : Int32) then
    some ((0 : Int32), h)
  else
    if x2 < (0 : Int32) then
      some ((0 : Int32), h)
    else
      (z_gI h 7 1 x0).bind fun v1 =>
      if v1 < x2 then
        some ((0 : Int32), h)
      else
        (z_gI h 7 1 x0).bind fun v2 =>
        if (v2 - x2) < x1 then
          some ((0 : Int32), h)
        else
          some ((1 : Int32), h)
noncomputable def f_X7_refuses (x0 : Option Nat) (x1 : Int32) (x2 : Int32) (x3 : Int32) (h : zH) : Option (Int32 × zH) :=
  (z_ck h 7 x0).bind fun _ =>
  z_b2 (f_X7_holdsNothing x0 h) fun v3 h2 =>
  if v3 = (0 : Int32) then
    (z_gI h2 7 0 x0).bind fun v4 =>
    if v4 = x1 then
      (z_ck h2 7 x0).bind fun _ =>
      z_b2 (f_X7_spans x0 x2 x3 h2) fun v7 h6 =>
      if v7 = (0 : Int32) then
        some ((-13 : Int32), h6)
      else
        some ((0 : Int32), h6)
    else
      some ((-12 : Int32), h2)
  else
    some ((-11 : Int32), h2)
noncomputable def f_X7_asCells_b25 (x0 : Option Nat) (x1 : Int64) (x3 : Int32) (h : zH) : Option (((Option Nat) × Int64 × Int32 × zH) ⊕ (Int64 × zH)) :=
  some (Sum.inl (x0, x1, x3 + (1 : Int32), h))
noncomputable def f_X7_asCells_c4 (x0 : Option Nat) (x1 : Int64) (x3 : Int32) (h : zH) : Option (((Option Nat) × Int64 × Int32 × zH) ⊕ (Int64 × zH)) :=
  if (64 : Int32) ≤ x3 then
    z_i1 (
    some (x1, h))
  else
    (z_gA h 7 2 x0).bind fun v1 =>
    (z_aI h v1 x3).bind fun v2 =>
    if v2 = (0 : Int32) then
      f_X7_asCells_b25 x0 x1 x3 h
    else
      f_X7_asCells_b25 x0 (x1 ||| ((1 : Int64) <<< (Int32.toInt64 x3 &&& 63))) x3 h
noncomputable def f_X7_asCells_b4 (x0 : Option Nat) (x1 : Int64) (x3 : Int32) (h : zH) : Option (Int64 × zH) := z_it (fun s : (Option Nat) × Int64 × Int32 × zH => f_X7_asCells_c4 s.1 s.2.1 s.2.2.1 s.2.2.2) (x0, x1, x3, h)
noncomputable def f_X7_asCells (x0 : Option Nat) (h : zH) : Option (Int64 × zH) :=
  f_X7_asCells_b4 x0 (0 : Int64) (0 : Int32) h
noncomputable def f_X9_init_b42 (x0 : Option Nat) (x1 : Int32) (s0 : Option Nat) (s1 : Int32) (s2 : Option Nat) (h : zH) (nx z : Nat) : Option ((Nat × Nat) × (((Option Nat) × Int32 × zH) ⊕ (zH))) :=
  (z_sA h s0 s1 s2).bind fun h1 =>
  some ((nx, z), Sum.inl (x0, x1 + (1 : Int32), h1))
noncomputable def f_X9_init_b38 (x0 : Option Nat) (x1 : Int32) (s0 : Option Nat) (s1 : Int32) (s2 : Option Nat) (h : zH) (nx z : Nat) : Option ((Nat × Nat) × (((Option Nat) × Int32 × zH) ⊕ (zH))) :=
  Option.bind s2 fun _ =>
  (f_X6_init s2 h nx z).bind fun n3 =>
  f_X9_init_b42 x0 x1 s0 s1 s2 n3.2 n3.1.1 n3.1.2
noncomputable def f_X9_init_c21 (x0 : Option Nat) (x1 : Int32) (h : zH) (nx z : Nat) : Option ((Nat × Nat) × (((Option Nat) × Int32 × zH) ⊕ (zH))) :=
  (z_gA h 9 1 x0).bind fun v1 =>
  (z_len h v1).bind fun v2 =>
  if v2 ≤ x1 then
    z_i1m (
    some ((nx, z), h))
  else
    (z_gA h 9 1 x0).bind fun v3 =>
    f_X9_init_b38 x0 x1 v3 x1 (some nx) (z_up h nx (.inr (6, [tJ 0, tJ 0, tA none, tA none, tI 0, tA none, tI 0, tI 0, tI 0]))) (nx + 1) (z + 9)
noncomputable def f_X9_init_b21 (x0 : Option Nat) (x1 : Int32) (h : zH) (nx z : Nat) : Option ((Nat × Nat) × (zH)) := z_it (fun q : (Nat × Nat) × ((Option Nat) × Int32 × zH) => (f_X9_init_c21 q.2.1 q.2.2.1 q.2.2.2 q.1.1 q.1.2).map z_ds) ((nx, z), (x0, x1, h))
noncomputable def f_X9_init_b16 (x0 : Option Nat) (s0 : Option Nat) (s1 : Option Nat) (h : zH) (nx z : Nat) : Option ((Nat × Nat) × (zH)) :=
  (z_pF h 9 1 s0 (tA s1)).bind fun h1 =>
  f_X9_init_b21 x0 (0 : Int32) h1 nx z
noncomputable def f_X9_init_b8 (x0 : Option Nat) (s0 : Option Nat) (s1 : Option Nat) (h : zH) (nx z : Nat) : Option ((Nat × Nat) × (zH)) :=
  (z_pF h 9 0 s0 (tA s1)).bind fun h1 =>
  f_X9_init_b16 x0 x0 (some nx) (z_up h1 nx (.inl (6, 5, .inr (.inr (fun _ => none))))) (nx + 1) (z + 5)
noncomputable def f_X9_init (x0 : Option Nat) (h : zH) (nx z : Nat) : Option ((Nat × Nat) × (zH)) :=
  Option.bind x0 fun v1 =>
  f_X9_init_b8 x0 x0 (some nx) (z_up h nx (.inl (0, 4, .inl (fun _ => 0)))) (nx + 1) (z + 4)
noncomputable def f_X9_isEatenBy_b210 (tS : Nat) (rec : Option Nat → Int32 → Int32 → zH → Option (Int32 × zH)) (x0 : Option Nat) (x1 : Int32) (x2 : Int32) (x3 : Int32) (x4 : Int32) (x5 : Int32) (h : zH) : Option (((Option Nat) × Int32 × Int32 × Int32 × Int32 × Int32 × zH) ⊕ (Int32 × zH)) :=
  some (Sum.inl (x0, x1, x2, x3, x4, x5 + (1 : Int32), h))
noncomputable def f_X9_isEatenBy_b172 (tS : Nat) (rec : Option Nat → Int32 → Int32 → zH → Option (Int32 × zH)) (x0 : Option Nat) (x1 : Int32) (x2 : Int32) (x3 : Int32) (x4 : Int32) (x5 : Int32) (x6 : Option Nat) (h : zH) : Option (((Option Nat) × Int32 × Int32 × Int32 × Int32 × Int32 × zH) ⊕ (Int32 × zH)) :=
  if x4 = (0 : Int32) then
    (z_ck h 9 x0).bind fun _ =>
    z_b2 (rec x0 x1 (x2 + (1 : Int32)) h) fun v3 h2 =>
    if v3 = (0 : Int32) then
      f_X9_isEatenBy_b210 tS rec x0 x1 x2 x3 x4 x5 h2
    else
      z_i1 (
      some ((1 : Int32), h2))
  else
    (z_gA h 6 5 x6).bind fun v4 =>
    (z_gI h 9 3 x0).bind fun v5 =>
    (z_aA h v4 v5).bind fun v6 =>
    (z_gI h 8 1 v6).bind fun v7 =>
    if v7 = (2 : Int32) then
      z_i1 (
      some ((1 : Int32), h))
    else
      f_X9_isEatenBy_b210 tS rec x0 x1 x2 x3 x4 x5 h
noncomputable def f_X9_isEatenBy_c137 (tS : Nat) (rec : Option Nat → Int32 → Int32 → zH → Option (Int32 × zH)) (x0 : Option Nat) (x1 : Int32) (x2 : Int32) (x3 : Int32) (x4 : Int32) (x5 : Int32) (x6 : Option Nat) (x7 : Int32) (x8 : Int32) (h : zH) : Option (((Option Nat) × Int32 × Int32 × Int32 × Int32 × Int32 × (Option Nat) × Int32 × Int32 × zH) ⊕ (((Option Nat) × Int32 × Int32 × Int32 × Int32 × Int32 × zH) ⊕ (Int32 × zH))) :=
  if x7 ≤ x8 then
    z_i1 (f_X9_isEatenBy_b172 tS rec x0 x1 x2 x3 x4 x5 x6 h)
  else
    (z_gA h 6 5 x6).bind fun v1 =>
    (z_gI h 9 3 x0).bind fun v2 =>
    (z_aA h v1 v2).bind fun v3 =>
    (z_gI h 8 1 v3).bind fun v4 =>
    if v4 = (2 : Int32) then
      z_i1 (f_X9_isEatenBy_b172 tS rec x0 x1 x2 x3 x4 x5 x6 h)
    else
      (z_ck h 6 x6).bind fun _ =>
      (f_X6_tick tS x6 h).bind fun h6 =>
      some (Sum.inl (x0, x1, x2, x3, x4, x5, x6, x7, x8 + (1 : Int32), h6))
noncomputable def f_X9_isEatenBy_b137 (tS : Nat) (rec : Option Nat → Int32 → Int32 → zH → Option (Int32 × zH)) (x0 : Option Nat) (x1 : Int32) (x2 : Int32) (x3 : Int32) (x4 : Int32) (x5 : Int32) (x6 : Option Nat) (x7 : Int32) (x8 : Int32) (h : zH) : Option (((Option Nat) × Int32 × Int32 × Int32 × Int32 × Int32 × zH) ⊕ (Int32 × zH)) := z_it (fun s : (Option Nat) × Int32 × Int32 × Int32 × Int32 × Int32 × (Option Nat) × Int32 × Int32 × zH => f_X9_isEatenBy_c137 tS rec s.1 s.2.1 s.2.2.1 s.2.2.2.1 s.2.2.2.2.1 s.2.2.2.2.2.1 s.2.2.2.2.2.2.1 s.2.2.2.2.2.2.2.1 s.2.2.2.2.2.2.2.2.1 s.2.2.2.2.2.2.2.2.2) (x0, x1, x2, x3, x4, x5, x6, x7, x8, h)
noncomputable def f_X9_isEatenBy_b132 (tS : Nat) (rec : Option Nat → Int32 → Int32 → zH → Option (Int32 × zH)) (x0 : Option Nat) (x1 : Int32) (x2 : Int32) (x3 : Int32) (x4 : Int32) (x5 : Int32) (x6 : Option Nat) (s0 : Int32) (h : zH) : Option (((Option Nat) × Int32 × Int32 × Int32 × Int32 × Int32 × zH) ⊕ (Int32 × zH)) :=
  f_X9_isEatenBy_b137 tS rec x0 x1 x2 x3 x4 x5 x6 s0 (0 : Int32) h
noncomputable def f_X9_isEatenBy_b78 (tS : Nat) (rec : Option Nat → Int32 → Int32 → zH → Option (Int32 × zH)) (x0 : Option Nat) (x1 : Int32) (x2 : Int32) (x3 : Int32) (x4 : Int32) (x5 : Int32) (h : zH) : Option (((Option Nat) × Int32 × Int32 × Int32 × Int32 × Int32 × zH) ⊕ (Int32 × zH)) :=
  (z_gA h 9 0 x0).bind fun v1 =>
  (z_sI h v1 x2 x5).bind fun h2 =>
  (z_gA h2 9 1 x0).bind fun v3 =>
  (z_aA h2 v3 (x2 + (1 : Int32))).bind fun v4 =>
  (z_gA h2 9 1 x0).bind fun v5 =>
  (z_aA h2 v5 x2).bind fun v6 =>
  (z_ck h2 6 v4).bind fun _ =>
  (f_X6_become v4 v6 h2).bind fun h8 =>
  (z_gA h8 6 3 v4).bind fun v9 =>
  (z_gI h8 9 2 x0).bind fun v10 =>
  (z_aA h8 v9 v10).bind fun v11 =>
  (z_pF h8 0 2 v11 (tI x5)).bind fun h12 =>
  if x4 = (0 : Int32) then
    f_X9_isEatenBy_b132 tS rec x0 x1 x2 x3 x4 x5 v4 (2 : Int32) h12
  else
    f_X9_isEatenBy_b132 tS rec x0 x1 x2 x3 x4 x5 v4 x3 h12
noncomputable def f_X9_isEatenBy_c47 (tS : Nat) (rec : Option Nat → Int32 → Int32 → zH → Option (Int32 × zH)) (x0 : Option Nat) (x1 : Int32) (x2 : Int32) (x3 : Int32) (x4 : Int32) (x5 : Int32) (h : zH) : Option (((Option Nat) × Int32 × Int32 × Int32 × Int32 × Int32 × zH) ⊕ (Int32 × zH)) :=
  if (3 : Int32) < x5 then
    z_i1 (
    some ((0 : Int32), h))
  else
    if x4 = (0 : Int32) then
      f_X9_isEatenBy_b78 tS rec x0 x1 x2 x3 x4 x5 h
    else
      if x2 ≤ (0 : Int32) then
        f_X9_isEatenBy_b78 tS rec x0 x1 x2 x3 x4 x5 h
      else
        (z_gA h 9 0 x0).bind fun v1 =>
        (z_aI h v1 (x2 - (1 : Int32))).bind fun v2 =>
        if x5 = v2 then
          f_X9_isEatenBy_b210 tS rec x0 x1 x2 x3 x4 x5 h
        else
          f_X9_isEatenBy_b78 tS rec x0 x1 x2 x3 x4 x5 h
noncomputable def f_X9_isEatenBy_b47 (tS : Nat) (rec : Option Nat → Int32 → Int32 → zH → Option (Int32 × zH)) (x0 : Option Nat) (x1 : Int32) (x2 : Int32) (x3 : Int32) (x4 : Int32) (x5 : Int32) (h : zH) : Option (Int32 × zH) := z_it (fun s : (Option Nat) × Int32 × Int32 × Int32 × Int32 × Int32 × zH => f_X9_isEatenBy_c47 tS rec s.1 s.2.1 s.2.2.1 s.2.2.2.1 s.2.2.2.2.1 s.2.2.2.2.2.1 s.2.2.2.2.2.2) (x0, x1, x2, x3, x4, x5, h)
noncomputable def f_X9_isEatenBy_b44 (tS : Nat) (rec : Option Nat → Int32 → Int32 → zH → Option (Int32 × zH)) (x0 : Option Nat) (x1 : Int32) (x2 : Int32) (x3 : Int32) (x4 : Int32) (h : zH) : Option (Int32 × zH) :=
  f_X9_isEatenBy_b47 tS rec x0 x1 x2 x3 x4 (0 : Int32) h
noncomputable def f_X9_isEatenBy_b21 (tS : Nat) (rec : Option Nat → Int32 → Int32 → zH → Option (Int32 × zH)) (x0 : Option Nat) (x1 : Int32) (x2 : Int32) (x3 : Int32) (s0 : Int32) (h : zH) : Option (Int32 × zH) :=
  if x1 ≤ x2 then
    some ((0 : Int32), h)
  else
    if x3 ≤ (0 : Int32) then
      some ((0 : Int32), h)
    else
      if s0 = (0 : Int32) then
        if (2 : Int32) < x3 then
          f_X9_isEatenBy_b44 tS rec x0 x1 x2 x3 s0 h
        else
          some ((0 : Int32), h)
      else
        f_X9_isEatenBy_b44 tS rec x0 x1 x2 x3 s0 h
noncomputable def f_X9_isEatenBy_r (tS : Nat) (rec : Option Nat → Int32 → Int32 → zH → Option (Int32 × zH)) (x0 : Option Nat) (x1 : Int32) (x2 : Int32) (h : zH) : Option (Int32 × zH) :=
  (z_gI h 9 4 x0).bind fun v1 =>
  if x2 = (x1 - (1 : Int32)) then
    f_X9_isEatenBy_b21 tS rec x0 x1 x2 (v1 - ((2 : Int32) * x2)) (1 : Int32) h
  else
    f_X9_isEatenBy_b21 tS rec x0 x1 x2 (v1 - ((2 : Int32) * x2)) (0 : Int32) h
noncomputable def f_X9_isEatenBy (tS : Nat) : Nat → Option Nat → Int32 → Int32 → zH → Option (Int32 × zH)
  | 0 => fun _ _ _ _ => none
  | d + 1 => f_X9_isEatenBy_r tS (f_X9_isEatenBy tS d)
noncomputable def f_X9_search_c29 (tS : Nat) (x0 : Option Nat) (x5 : Int32) (h : zH) : Option (((Option Nat) × Int32 × zH) ⊕ (Int32 × zH)) :=
  if (4 : Int32) < x5 then
    z_i1 (
    some ((0 : Int32), h))
  else
    (z_ck h 9 x0).bind fun _ =>
    z_b2 (f_X9_isEatenBy tS 6 x0 x5 (0 : Int32) h) fun v3 h2 =>
    if v3 = (0 : Int32) then
      some (Sum.inl (x0, x5 + (1 : Int32), h2))
    else
      z_i1 (
      some (x5, h2))
noncomputable def f_X9_search_b29 (tS : Nat) (x0 : Option Nat) (x5 : Int32) (h : zH) : Option (Int32 × zH) := z_it (fun s : (Option Nat) × Int32 × zH => f_X9_search_c29 tS s.1 s.2.1 s.2.2) (x0, x5, h)
noncomputable def f_X9_search (tS : Nat) (x0 : Option Nat) (x1 : Option Nat) (x2 : Int32) (x3 : Int32) (x4 : Int32) (h : zH) : Option (Int32 × zH) :=
  (z_pF h 9 2 x0 (tI x2)).bind fun h1 =>
  (z_pF h1 9 3 x0 (tI x3)).bind fun h2 =>
  (z_pF h2 9 4 x0 (tI x4)).bind fun h3 =>
  (z_gA h3 9 1 x0).bind fun v4 =>
  (z_aA h3 v4 (0 : Int32)).bind fun v5 =>
  (z_ck h3 6 v5).bind fun _ =>
  (f_X6_become v5 x1 h3).bind fun h7 =>
  f_X9_search_b29 tS x0 (1 : Int32) h7
noncomputable def f_X10_init_b103 (x0 : Option Nat) (x1 : Int32) (s0 : Option Nat) (s1 : Int32) (s2 : Option Nat) (h : zH) (nx z : Nat) : Option ((Nat × Nat) × (((Option Nat) × Int32 × zH) ⊕ (zH))) :=
  (z_sA h s0 s1 s2).bind fun h1 =>
  some ((nx, z), Sum.inl (x0, x1 + (1 : Int32), h1))
noncomputable def f_X10_init_b99 (x0 : Option Nat) (x1 : Int32) (s0 : Option Nat) (s1 : Int32) (s2 : Option Nat) (h : zH) (nx z : Nat) : Option ((Nat × Nat) × (((Option Nat) × Int32 × zH) ⊕ (zH))) :=
  Option.bind s2 fun _ =>
  (f_X7_init s2 h nx z).bind fun n3 =>
  f_X10_init_b103 x0 x1 s0 s1 s2 n3.2 n3.1.1 n3.1.2
noncomputable def f_X10_init_c82 (x0 : Option Nat) (x1 : Int32) (h : zH) (nx z : Nat) : Option ((Nat × Nat) × (((Option Nat) × Int32 × zH) ⊕ (zH))) :=
  (z_gA h 10 2 x0).bind fun v1 =>
  (z_len h v1).bind fun v2 =>
  if v2 ≤ x1 then
    z_i1m (
    some ((nx, z), h))
  else
    (z_gA h 10 2 x0).bind fun v3 =>
    f_X10_init_b99 x0 x1 v3 x1 (some nx) (z_up h nx (.inr (7, [tI 0, tI 0, tA none]))) (nx + 1) (z + 3)
noncomputable def f_X10_init_b82 (x0 : Option Nat) (x1 : Int32) (h : zH) (nx z : Nat) : Option ((Nat × Nat) × (zH)) := z_it (fun q : (Nat × Nat) × ((Option Nat) × Int32 × zH) => (f_X10_init_c82 q.2.1 q.2.2.1 q.2.2.2 q.1.1 q.1.2).map z_ds) ((nx, z), (x0, x1, h))
noncomputable def f_X10_init_b77 (x0 : Option Nat) (s0 : Option Nat) (s1 : Option Nat) (h : zH) (nx z : Nat) : Option ((Nat × Nat) × (zH)) :=
  (z_pF h 10 8 s0 (tA s1)).bind fun h1 =>
  f_X10_init_b82 x0 (0 : Int32) h1 nx z
noncomputable def f_X10_init_b69 (x0 : Option Nat) (s0 : Option Nat) (s1 : Option Nat) (h : zH) (nx z : Nat) : Option ((Nat × Nat) × (zH)) :=
  (z_pF h 10 7 s0 (tA s1)).bind fun h1 =>
  f_X10_init_b77 x0 x0 (some nx) (z_up h1 nx (.inl (0, 7, .inl (fun _ => 0)))) (nx + 1) (z + 7)
noncomputable def f_X10_init_b65 (x0 : Option Nat) (s0 : Option Nat) (s1 : Option Nat) (h : zH) (nx z : Nat) : Option ((Nat × Nat) × (zH)) :=
  Option.bind s1 fun _ =>
  (f_X9_init s1 h nx z).bind fun n3 =>
  f_X10_init_b69 x0 s0 s1 n3.2 n3.1.1 n3.1.2
noncomputable def f_X10_init_b58 (x0 : Option Nat) (s0 : Option Nat) (s1 : Option Nat) (h : zH) (nx z : Nat) : Option ((Nat × Nat) × (zH)) :=
  (z_pF h 10 6 s0 (tA s1)).bind fun h1 =>
  f_X10_init_b65 x0 x0 (some nx) (z_up h1 nx (.inr (9, [tA none, tA none, tI 0, tI 0, tI 0]))) (nx + 1) (z + 5)
noncomputable def f_X10_init_b54 (x0 : Option Nat) (s0 : Option Nat) (s1 : Option Nat) (h : zH) (nx z : Nat) : Option ((Nat × Nat) × (zH)) :=
  Option.bind s1 fun _ =>
  (f_X3_init s1 h nx z).bind fun n3 =>
  f_X10_init_b58 x0 s0 s1 n3.2 n3.1.1 n3.1.2
noncomputable def f_X10_init_b43 (x0 : Option Nat) (s0 : Option Nat) (s1 : Option Nat) (h : zH) (nx z : Nat) : Option ((Nat × Nat) × (zH)) :=
  Option.bind s1 fun _ =>
  (f_X4_init s1 h).bind fun h2 =>
  (z_pF h2 10 5 s0 (tA s1)).bind fun h3 =>
  f_X10_init_b54 x0 x0 (some nx) (z_up h3 nx (.inr (3, [tA none, tA none, tA none, tA none, tI 0, tI 0, tI 0, tI 0, tI 0, tJ 0, tJ 0]))) (nx + 1) (z + 11)
noncomputable def f_X10_init_b36 (x0 : Option Nat) (s0 : Option Nat) (s1 : Option Nat) (h : zH) (nx z : Nat) : Option ((Nat × Nat) × (zH)) :=
  (z_pF h 10 3 s0 (tA s1)).bind fun h1 =>
  f_X10_init_b43 x0 x0 (some nx) (z_up h1 nx (.inr (4, [tA none, tI 0, tI 0, tI 0, tI 0]))) (nx + 1) (z + 5)
noncomputable def f_X10_init_b28 (x0 : Option Nat) (s0 : Option Nat) (s1 : Option Nat) (h : zH) (nx z : Nat) : Option ((Nat × Nat) × (zH)) :=
  (z_pF h 10 2 s0 (tA s1)).bind fun h1 =>
  f_X10_init_b36 x0 x0 (some nx) (z_up h1 nx (.inl (1, 100, .inl (fun _ => 0)))) (nx + 1) (z + 100)
noncomputable def f_X10_init_b20 (x0 : Option Nat) (s0 : Option Nat) (s1 : Option Nat) (h : zH) (nx z : Nat) : Option ((Nat × Nat) × (zH)) :=
  (z_pF h 10 1 s0 (tA s1)).bind fun h1 =>
  f_X10_init_b28 x0 x0 (some nx) (z_up h1 nx (.inl (7, 4, .inr (.inr (fun _ => none))))) (nx + 1) (z + 4)
noncomputable def f_X10_init_b12 (x0 : Option Nat) (s0 : Option Nat) (s1 : Option Nat) (h : zH) (nx z : Nat) : Option ((Nat × Nat) × (zH)) :=
  (z_pF h 10 0 s0 (tA s1)).bind fun h1 =>
  f_X10_init_b20 x0 x0 (some nx) (z_up h1 nx (.inl (6, 2, .inr (.inr (fun _ => none))))) (nx + 1) (z + 2)
noncomputable def f_X10_init_b8 (x0 : Option Nat) (s0 : Option Nat) (s1 : Option Nat) (h : zH) (nx z : Nat) : Option ((Nat × Nat) × (zH)) :=
  Option.bind s1 fun _ =>
  (f_X6_init s1 h nx z).bind fun n3 =>
  f_X10_init_b12 x0 s0 s1 n3.2 n3.1.1 n3.1.2
noncomputable def f_X10_init (x0 : Option Nat) (h : zH) (nx z : Nat) : Option ((Nat × Nat) × (zH)) :=
  Option.bind x0 fun v1 =>
  f_X10_init_b8 x0 x0 (some nx) (z_up h nx (.inr (6, [tJ 0, tJ 0, tA none, tA none, tI 0, tA none, tI 0, tI 0, tI 0]))) (nx + 1) (z + 9)
noncomputable def f_X10_isCell (x0 : Int32) (x1 : Int32) (h : zH) : Option (Int32 × zH) :=
  if x0 < (0 : Int32) then
    some ((0 : Int32), h)
  else
    if (8 : Int32) ≤ x0 then
      some ((0 : Int32), h)
    else
      if x1 < (0 : Int32) then
        some ((0 : Int32), h)
      else
        if (8 : Int32) ≤ x1 then
          some ((0 : Int32), h)
        else
          some ((1 : Int32), h)
noncomputable def f_X10_cellOf (x0 : Int32) (x1 : Int32) (h : zH) : Option (Int32 × zH) :=
  some (((8 : Int32) * x1) + x0, h)
noncomputable def f_X10_wall_b98 (x6 : Int32) (s0 : Option Nat) (s1 : Int64) (h : zH) : Option (Int32 × zH) :=
  (z_pF h 6 0 s0 (tJ s1)).bind fun h1 =>
  if x6 = (0 : Int32) then
    some ((0 : Int32), h1)
  else
    some ((1 : Int32), h1)
noncomputable def f_X10_wall_b61 (x0 : Option Nat) (x3 : Int32) (x4 : Int64) (s0 : Int32) (h : zH) : Option (Int32 × zH) :=
  (z_gA h 10 0 x0).bind fun v1 =>
  if x3 = (0 : Int32) then
    (z_gA h 10 0 x0).bind fun v2 =>
    (z_gJ h 6 0 v2).bind fun v3 =>
    f_X10_wall_b98 s0 v1 (v3 &&& (x4 ^^^ (-1 : Int64))) h
  else
    (z_gA h 10 0 x0).bind fun v4 =>
    (z_gJ h 6 0 v4).bind fun v5 =>
    f_X10_wall_b98 s0 v1 (v5 ||| x4) h
noncomputable def f_X10_wall_b41 (x0 : Option Nat) (x3 : Int32) (x4 : Int64) (h : zH) : Option (Int32 × zH) :=
  (z_gA h 10 0 x0).bind fun v1 =>
  (z_gJ h 6 0 v1).bind fun v2 =>
  if (lg_cmp (v2 &&& x4) (0 : Int64)) = (0 : Int32) then
    f_X10_wall_b61 x0 x3 x4 (0 : Int32) h
  else
    f_X10_wall_b61 x0 x3 x4 (1 : Int32) h
noncomputable def f_X10_wall (x0 : Option Nat) (x1 : Int32) (x2 : Int32) (x3 : Int32) (h : zH) : Option (Int32 × zH) :=
  z_b2 (f_X10_isCell x1 x2 h) fun v2 h1 =>
  if v2 = (0 : Int32) then
    some ((-1 : Int32), h1)
  else
    z_b2 (f_X10_cellOf x1 x2 h1) fun v4 h3 =>
    if x3 = (0 : Int32) then
      f_X10_wall_b41 x0 x3 ((1 : Int64) <<< (Int32.toInt64 v4 &&& 63)) h3
    else
      (z_gA h3 10 0 x0).bind fun v5 =>
      (z_ck h3 6 v5).bind fun _ =>
      z_b2 (f_X6_inUse v5 h3) fun v8 h7 =>
      if (lg_cmp (v8 &&& ((1 : Int64) <<< (Int32.toInt64 v4 &&& 63))) (0 : Int64)) = (0 : Int32) then
        f_X10_wall_b41 x0 x3 ((1 : Int64) <<< (Int32.toInt64 v4 &&& 63)) h7
      else
        some ((-2 : Int32), h7)
noncomputable def f_X10_isSheet (x0 : Option Nat) (x1 : Int32) (h : zH) : Option (Int32 × zH) :=
  if x1 < (0 : Int32) then
    some ((0 : Int32), h)
  else
    (z_gA h 10 2 x0).bind fun v1 =>
    (z_len h v1).bind fun v2 =>
    if v2 ≤ x1 then
      some ((0 : Int32), h)
    else
      some ((1 : Int32), h)
noncomputable def f_J13_bitCount_95d88 (x0 : Int64) (h : zH) : Option (Int32 × zH) :=
  some ((Int64.toInt32 ((((((((x0 - ((((Int64.toUInt64 x0) >>> ((Int32.toInt64 (1 : Int32)).toUInt64 &&& Int64.toUInt64 63)).toInt64) &&& (6148914691236517205 : Int64))) &&& (3689348814741910323 : Int64)) + ((((Int64.toUInt64 (x0 - ((((Int64.toUInt64 x0) >>> ((Int32.toInt64 (1 : Int32)).toUInt64 &&& Int64.toUInt64 63)).toInt64) &&& (6148914691236517205 : Int64)))) >>> ((Int32.toInt64 (2 : Int32)).toUInt64 &&& Int64.toUInt64 63)).toInt64) &&& (3689348814741910323 : Int64))) + (((Int64.toUInt64 (((x0 - ((((Int64.toUInt64 x0) >>> ((Int32.toInt64 (1 : Int32)).toUInt64 &&& Int64.toUInt64 63)).toInt64) &&& (6148914691236517205 : Int64))) &&& (3689348814741910323 : Int64)) + ((((Int64.toUInt64 (x0 - ((((Int64.toUInt64 x0) >>> ((Int32.toInt64 (1 : Int32)).toUInt64 &&& Int64.toUInt64 63)).toInt64) &&& (6148914691236517205 : Int64)))) >>> ((Int32.toInt64 (2 : Int32)).toUInt64 &&& Int64.toUInt64 63)).toInt64) &&& (3689348814741910323 : Int64)))) >>> ((Int32.toInt64 (4 : Int32)).toUInt64 &&& Int64.toUInt64 63)).toInt64)) &&& (1085102592571150095 : Int64)) + (((Int64.toUInt64 (((((x0 - ((((Int64.toUInt64 x0) >>> ((Int32.toInt64 (1 : Int32)).toUInt64 &&& Int64.toUInt64 63)).toInt64) &&& (6148914691236517205 : Int64))) &&& (3689348814741910323 : Int64)) + ((((Int64.toUInt64 (x0 - ((((Int64.toUInt64 x0) >>> ((Int32.toInt64 (1 : Int32)).toUInt64 &&& Int64.toUInt64 63)).toInt64) &&& (6148914691236517205 : Int64)))) >>> ((Int32.toInt64 (2 : Int32)).toUInt64 &&& Int64.toUInt64 63)).toInt64) &&& (3689348814741910323 : Int64))) + (((Int64.toUInt64 (((x0 - ((((Int64.toUInt64 x0) >>> ((Int32.toInt64 (1 : Int32)).toUInt64 &&& Int64.toUInt64 63)).toInt64) &&& (6148914691236517205 : Int64))) &&& (3689348814741910323 : Int64)) + ((((Int64.toUInt64 (x0 - ((((Int64.toUInt64 x0) >>> ((Int32.toInt64 (1 : Int32)).toUInt64 &&& Int64.toUInt64 63)).toInt64) &&& (6148914691236517205 : Int64)))) >>> ((Int32.toInt64 (2 : Int32)).toUInt64 &&& Int64.toUInt64 63)).toInt64) &&& (3689348814741910323 : Int64)))) >>> ((Int32.toInt64 (4 : Int32)).toUInt64 &&& Int64.toUInt64 63)).toInt64)) &&& (1085102592571150095 : Int64))) >>> ((Int32.toInt64 (8 : Int32)).toUInt64 &&& Int64.toUInt64 63)).toInt64)) + (((Int64.toUInt64 ((((((x0 - ((((Int64.toUInt64 x0) >>> ((Int32.toInt64 (1 : Int32)).toUInt64 &&& Int64.toUInt64 63)).toInt64) &&& (6148914691236517205 : Int64))) &&& (3689348814741910323 : Int64)) + ((((Int64.toUInt64 (x0 - ((((Int64.toUInt64 x0) >>> ((Int32.toInt64 (1 : Int32)).toUInt64 &&& Int64.toUInt64 63)).toInt64) &&& (6148914691236517205 : Int64)))) >>> ((Int32.toInt64 (2 : Int32)).toUInt64 &&& Int64.toUInt64 63)).toInt64) &&& (3689348814741910323 : Int64))) + (((Int64.toUInt64 (((x0 - ((((Int64.toUInt64 x0) >>> ((Int32.toInt64 (1 : Int32)).toUInt64 &&& Int64.toUInt64 63)).toInt64) &&& (6148914691236517205 : Int64))) &&& (3689348814741910323 : Int64)) + ((((Int64.toUInt64 (x0 - ((((Int64.toUInt64 x0) >>> ((Int32.toInt64 (1 : Int32)).toUInt64 &&& Int64.toUInt64 63)).toInt64) &&& (6148914691236517205 : Int64)))) >>> ((Int32.toInt64 (2 : Int32)).toUInt64 &&& Int64.toUInt64 63)).toInt64) &&& (3689348814741910323 : Int64)))) >>> ((Int32.toInt64 (4 : Int32)).toUInt64 &&& Int64.toUInt64 63)).toInt64)) &&& (1085102592571150095 : Int64)) + (((Int64.toUInt64 (((((x0 - ((((Int64.toUInt64 x0) >>> ((Int32.toInt64 (1 : Int32)).toUInt64 &&& Int64.toUInt64 63)).toInt64) &&& (6148914691236517205 : Int64))) &&& (3689348814741910323 : Int64)) + ((((Int64.toUInt64 (x0 - ((((Int64.toUInt64 x0) >>> ((Int32.toInt64 (1 : Int32)).toUInt64 &&& Int64.toUInt64 63)).toInt64) &&& (6148914691236517205 : Int64)))) >>> ((Int32.toInt64 (2 : Int32)).toUInt64 &&& Int64.toUInt64 63)).toInt64) &&& (3689348814741910323 : Int64))) + (((Int64.toUInt64 (((x0 - ((((Int64.toUInt64 x0) >>> ((Int32.toInt64 (1 : Int32)).toUInt64 &&& Int64.toUInt64 63)).toInt64) &&& (6148914691236517205 : Int64))) &&& (3689348814741910323 : Int64)) + ((((Int64.toUInt64 (x0 - ((((Int64.toUInt64 x0) >>> ((Int32.toInt64 (1 : Int32)).toUInt64 &&& Int64.toUInt64 63)).toInt64) &&& (6148914691236517205 : Int64)))) >>> ((Int32.toInt64 (2 : Int32)).toUInt64 &&& Int64.toUInt64 63)).toInt64) &&& (3689348814741910323 : Int64)))) >>> ((Int32.toInt64 (4 : Int32)).toUInt64 &&& Int64.toUInt64 63)).toInt64)) &&& (1085102592571150095 : Int64))) >>> ((Int32.toInt64 (8 : Int32)).toUInt64 &&& Int64.toUInt64 63)).toInt64))) >>> ((Int32.toInt64 (16 : Int32)).toUInt64 &&& Int64.toUInt64 63)).toInt64)) + (((Int64.toUInt64 (((((((x0 - ((((Int64.toUInt64 x0) >>> ((Int32.toInt64 (1 : Int32)).toUInt64 &&& Int64.toUInt64 63)).toInt64) &&& (6148914691236517205 : Int64))) &&& (3689348814741910323 : Int64)) + ((((Int64.toUInt64 (x0 - ((((Int64.toUInt64 x0) >>> ((Int32.toInt64 (1 : Int32)).toUInt64 &&& Int64.toUInt64 63)).toInt64) &&& (6148914691236517205 : Int64)))) >>> ((Int32.toInt64 (2 : Int32)).toUInt64 &&& Int64.toUInt64 63)).toInt64) &&& (3689348814741910323 : Int64))) + (((Int64.toUInt64 (((x0 - ((((Int64.toUInt64 x0) >>> ((Int32.toInt64 (1 : Int32)).toUInt64 &&& Int64.toUInt64 63)).toInt64) &&& (6148914691236517205 : Int64))) &&& (3689348814741910323 : Int64)) + ((((Int64.toUInt64 (x0 - ((((Int64.toUInt64 x0) >>> ((Int32.toInt64 (1 : Int32)).toUInt64 &&& Int64.toUInt64 63)).toInt64) &&& (6148914691236517205 : Int64)))) >>> ((Int32.toInt64 (2 : Int32)).toUInt64 &&& Int64.toUInt64 63)).toInt64) &&& (3689348814741910323 : Int64)))) >>> ((Int32.toInt64 (4 : Int32)).toUInt64 &&& Int64.toUInt64 63)).toInt64)) &&& (1085102592571150095 : Int64)) + (((Int64.toUInt64 (((((x0 - ((((Int64.toUInt64 x0) >>> ((Int32.toInt64 (1 : Int32)).toUInt64 &&& Int64.toUInt64 63)).toInt64) &&& (6148914691236517205 : Int64))) &&& (3689348814741910323 : Int64)) + ((((Int64.toUInt64 (x0 - ((((Int64.toUInt64 x0) >>> ((Int32.toInt64 (1 : Int32)).toUInt64 &&& Int64.toUInt64 63)).toInt64) &&& (6148914691236517205 : Int64)))) >>> ((Int32.toInt64 (2 : Int32)).toUInt64 &&& Int64.toUInt64 63)).toInt64) &&& (3689348814741910323 : Int64))) + (((Int64.toUInt64 (((x0 - ((((Int64.toUInt64 x0) >>> ((Int32.toInt64 (1 : Int32)).toUInt64 &&& Int64.toUInt64 63)).toInt64) &&& (6148914691236517205 : Int64))) &&& (3689348814741910323 : Int64)) + ((((Int64.toUInt64 (x0 - ((((Int64.toUInt64 x0) >>> ((Int32.toInt64 (1 : Int32)).toUInt64 &&& Int64.toUInt64 63)).toInt64) &&& (6148914691236517205 : Int64)))) >>> ((Int32.toInt64 (2 : Int32)).toUInt64 &&& Int64.toUInt64 63)).toInt64) &&& (3689348814741910323 : Int64)))) >>> ((Int32.toInt64 (4 : Int32)).toUInt64 &&& Int64.toUInt64 63)).toInt64)) &&& (1085102592571150095 : Int64))) >>> ((Int32.toInt64 (8 : Int32)).toUInt64 &&& Int64.toUInt64 63)).toInt64)) + (((Int64.toUInt64 ((((((x0 - ((((Int64.toUInt64 x0) >>> ((Int32.toInt64 (1 : Int32)).toUInt64 &&& Int64.toUInt64 63)).toInt64) &&& (6148914691236517205 : Int64))) &&& (3689348814741910323 : Int64)) + ((((Int64.toUInt64 (x0 - ((((Int64.toUInt64 x0) >>> ((Int32.toInt64 (1 : Int32)).toUInt64 &&& Int64.toUInt64 63)).toInt64) &&& (6148914691236517205 : Int64)))) >>> ((Int32.toInt64 (2 : Int32)).toUInt64 &&& Int64.toUInt64 63)).toInt64) &&& (3689348814741910323 : Int64))) + (((Int64.toUInt64 (((x0 - ((((Int64.toUInt64 x0) >>> ((Int32.toInt64 (1 : Int32)).toUInt64 &&& Int64.toUInt64 63)).toInt64) &&& (6148914691236517205 : Int64))) &&& (3689348814741910323 : Int64)) + ((((Int64.toUInt64 (x0 - ((((Int64.toUInt64 x0) >>> ((Int32.toInt64 (1 : Int32)).toUInt64 &&& Int64.toUInt64 63)).toInt64) &&& (6148914691236517205 : Int64)))) >>> ((Int32.toInt64 (2 : Int32)).toUInt64 &&& Int64.toUInt64 63)).toInt64) &&& (3689348814741910323 : Int64)))) >>> ((Int32.toInt64 (4 : Int32)).toUInt64 &&& Int64.toUInt64 63)).toInt64)) &&& (1085102592571150095 : Int64)) + (((Int64.toUInt64 (((((x0 - ((((Int64.toUInt64 x0) >>> ((Int32.toInt64 (1 : Int32)).toUInt64 &&& Int64.toUInt64 63)).toInt64) &&& (6148914691236517205 : Int64))) &&& (3689348814741910323 : Int64)) + ((((Int64.toUInt64 (x0 - ((((Int64.toUInt64 x0) >>> ((Int32.toInt64 (1 : Int32)).toUInt64 &&& Int64.toUInt64 63)).toInt64) &&& (6148914691236517205 : Int64)))) >>> ((Int32.toInt64 (2 : Int32)).toUInt64 &&& Int64.toUInt64 63)).toInt64) &&& (3689348814741910323 : Int64))) + (((Int64.toUInt64 (((x0 - ((((Int64.toUInt64 x0) >>> ((Int32.toInt64 (1 : Int32)).toUInt64 &&& Int64.toUInt64 63)).toInt64) &&& (6148914691236517205 : Int64))) &&& (3689348814741910323 : Int64)) + ((((Int64.toUInt64 (x0 - ((((Int64.toUInt64 x0) >>> ((Int32.toInt64 (1 : Int32)).toUInt64 &&& Int64.toUInt64 63)).toInt64) &&& (6148914691236517205 : Int64)))) >>> ((Int32.toInt64 (2 : Int32)).toUInt64 &&& Int64.toUInt64 63)).toInt64) &&& (3689348814741910323 : Int64)))) >>> ((Int32.toInt64 (4 : Int32)).toUInt64 &&& Int64.toUInt64 63)).toInt64)) &&& (1085102592571150095 : Int64))) >>> ((Int32.toInt64 (8 : Int32)).toUInt64 &&& Int64.toUInt64 63)).toInt64))) >>> ((Int32.toInt64 (16 : Int32)).toUInt64 &&& Int64.toUInt64 63)).toInt64))) >>> ((Int32.toInt64 (32 : Int32)).toUInt64 &&& Int64.toUInt64 63)).toInt64))) &&& (127 : Int32), h)
noncomputable def f_X10_walls (x0 : Option Nat) (x1 : Int32) (h : zH) : Option (Int32 × zH) :=
  (z_ck h 10 x0).bind fun _ =>
  z_b2 (f_X10_isSheet x0 x1 h) fun v3 h2 =>
  if v3 = (0 : Int32) then
    some ((-1 : Int32), h2)
  else
    (z_gA h2 10 2 x0).bind fun v4 =>
    (z_aA h2 v4 x1).bind fun v5 =>
    (z_ck h2 7 v5).bind fun _ =>
    z_b2 (f_X7_refuses v5 (0 : Int32) (0 : Int32) (64 : Int32) h2) fun v8 h7 =>
    if v8 = (0 : Int32) then
      (z_gA h7 10 2 x0).bind fun v9 =>
      (z_aA h7 v9 x1).bind fun v10 =>
      (z_ck h7 7 v10).bind fun _ =>
      z_b2 (f_X7_asCells v10 h7) fun v13 h12 =>
      (z_gA h12 10 0 x0).bind fun v14 =>
      (z_ck h12 6 v14).bind fun _ =>
      z_b2 (f_X6_inUse v14 h12) fun v17 h16 =>
      if (lg_cmp (v17 &&& v13) (0 : Int64)) = (0 : Int32) then
        (z_gA h16 10 0 x0).bind fun v18 =>
        (z_pF h16 6 0 v18 (tJ v13)).bind fun h19 =>
        z_b2 (f_J13_bitCount_95d88 v13 h19) fun v21 h20 =>
        some (v21, h20)
      else
        some ((-2 : Int32), h16)
    else
      some (v8, h7)
noncomputable def f_X10_arm (tS : Nat) (x0 : Option Nat) (x1 : Int32) (x2 : Int32) (x3 : Int32) (x4 : Int32) (h : zH) : Option (Int32 × zH) :=
  z_b2 (f_X10_isCell x1 x2 h) fun v2 h1 =>
  if v2 = (0 : Int32) then
    some ((-1 : Int32), h1)
  else
    if x3 < (2 : Int32) then
      some ((-1 : Int32), h1)
    else
      if (7 : Int32) < x3 then
        some ((-1 : Int32), h1)
      else
        if x4 < (0 : Int32) then
          some ((-1 : Int32), h1)
        else
          z_b2 (f_X10_formsOf x3 h1) fun v4 h3 =>
          if x4 < v4 then
            (z_gA h3 10 0 x0).bind fun v5 =>
            z_b2 (f_X10_cellOf x1 x2 h3) fun v7 h6 =>
            (z_gA h6 10 8 x0).bind fun v8 =>
            (z_ck h6 6 v5).bind fun _ =>
            z_b2 (f_X6_canLie tS v5 v7 x3 x4 v8 h6) fun v11 h10 =>
            if v11 = (0 : Int32) then
              some ((-2 : Int32), h10)
            else
              (z_gA h10 10 0 x0).bind fun v12 =>
              (z_gI h10 6 4 v12).bind fun v13 =>
              if v13 < (3 : Int32) then
                (z_gA h10 10 0 x0).bind fun v14 =>
                (z_gA h10 10 8 x0).bind fun v15 =>
                (z_ck h10 6 v14).bind fun _ =>
                (f_X6_addArm v14 v15 x3 h10).bind fun h17 =>
                (z_gA h17 10 0 x0).bind fun v18 =>
                (z_gI h17 6 4 v18).bind fun v19 =>
                some (v19 - (1 : Int32), h17)
              else
                some ((-3 : Int32), h10)
          else
            some ((-1 : Int32), h3)
noncomputable def f_X10_thing (x0 : Option Nat) (x1 : Int32) (x2 : Int32) (x3 : Int32) (h : zH) : Option (Int32 × zH) :=
  z_b2 (f_X10_isCell x1 x2 h) fun v2 h1 =>
  if v2 = (0 : Int32) then
    some ((-1 : Int32), h1)
  else
    z_b2 (f_X10_isDigit x3 h1) fun v4 h3 =>
    if v4 = (0 : Int32) then
      some ((-1 : Int32), h3)
    else
      z_b2 (f_X10_cellOf x1 x2 h3) fun v6 h5 =>
      (z_gA h5 10 0 x0).bind fun v7 =>
      (z_gJ h5 6 0 v7).bind fun v8 =>
      (z_gA h5 10 0 x0).bind fun v9 =>
      (z_ck h5 6 v9).bind fun _ =>
      z_b2 (f_X6_lyingCells v9 h5) fun v12 h11 =>
      if (lg_cmp ((v8 ||| v12) &&& ((1 : Int64) <<< (Int32.toInt64 v6 &&& 63))) (0 : Int64)) = (0 : Int32) then
        (z_gA h11 10 0 x0).bind fun v13 =>
        (z_gI h11 6 6 v13).bind fun v14 =>
        if v14 < (8 : Int32) then
          (z_gA h11 10 0 x0).bind fun v15 =>
          (z_ck h11 6 v15).bind fun _ =>
          (f_X6_addThing v15 v6 x3 h11).bind fun h17 =>
          (z_gA h17 10 0 x0).bind fun v18 =>
          (z_gI h17 6 6 v18).bind fun v19 =>
          some (v19 - (1 : Int32), h17)
        else
          some ((-3 : Int32), h11)
      else
        some ((-2 : Int32), h11)
noncomputable def f_X10_isArm (x0 : Option Nat) (x1 : Int32) (h : zH) : Option (Int32 × zH) :=
  if x1 < (0 : Int32) then
    some ((0 : Int32), h)
  else
    (z_gA h 10 0 x0).bind fun v1 =>
    (z_gI h 6 4 v1).bind fun v2 =>
    if v2 ≤ x1 then
      some ((0 : Int32), h)
    else
      some ((1 : Int32), h)
noncomputable def f_X10_isPiece (x0 : Option Nat) (x1 : Int32) (x2 : Int32) (h : zH) : Option (Int32 × zH) :=
  (z_ck h 10 x0).bind fun _ =>
  z_b2 (f_X10_isArm x0 x1 h) fun v3 h2 =>
  if v3 = (0 : Int32) then
    some ((0 : Int32), h2)
  else
    if x2 < (0 : Int32) then
      some ((0 : Int32), h2)
    else
      (z_gA h2 10 0 x0).bind fun v4 =>
      (z_gA h2 6 3 v4).bind fun v5 =>
      (z_aA h2 v5 x1).bind fun v6 =>
      (z_gI h2 0 0 v6).bind fun v7 =>
      if v7 ≤ x2 then
        some ((0 : Int32), h2)
      else
        some ((1 : Int32), h2)
noncomputable def f_X10_piece (x0 : Option Nat) (x1 : Int32) (x2 : Int32) (x3 : Int32) (h : zH) : Option (Int32 × zH) :=
  (z_ck h 10 x0).bind fun _ =>
  z_b2 (f_X10_isPiece x0 x1 x2 h) fun v3 h2 =>
  if v3 = (0 : Int32) then
    some ((-1 : Int32), h2)
  else
    (z_gA h2 10 0 x0).bind fun v4 =>
    (z_gA h2 6 3 v4).bind fun v5 =>
    (z_aA h2 v5 x1).bind fun v6 =>
    if x3 = (0 : Int32) then
      (z_gA h2 0 4 v6).bind fun v7 =>
      (z_aI h2 v7 x2).bind fun v8 =>
      some (v8, h2)
    else
    if x3 = (1 : Int32) then
      (z_gA h2 0 5 v6).bind fun v9 =>
      (z_aI h2 v9 x2).bind fun v10 =>
      some (v10, h2)
    else
    if x3 = (2 : Int32) then
      (z_gA h2 0 6 v6).bind fun v11 =>
      (z_aI h2 v11 x2).bind fun v12 =>
      some (v12, h2)
    else
    if x3 = (3 : Int32) then
      (z_gA h2 0 7 v6).bind fun v13 =>
      (z_aI h2 v13 x2).bind fun v14 =>
      some (v14, h2)
    else
    if x3 = (4 : Int32) then
      (z_ck h2 0 v6).bind fun _ =>
      z_b2 (f_X0_isCutOff v6 x2 h2) fun v17 h16 =>
      if v17 = (0 : Int32) then
        some ((0 : Int32), h16)
      else
        some ((1 : Int32), h16)
    else
    if x3 = (5 : Int32) then
      (z_ck h2 0 v6).bind fun _ =>
      z_b2 (f_X0_isTip v6 x2 h2) fun v20 h19 =>
      if v20 = (0 : Int32) then
        some ((0 : Int32), h19)
      else
        some ((1 : Int32), h19)
    else
      some ((-1 : Int32), h2)
noncomputable def f_X10_isThing (x0 : Option Nat) (x1 : Int32) (h : zH) : Option (Int32 × zH) :=
  if x1 < (0 : Int32) then
    some ((0 : Int32), h)
  else
    (z_gA h 10 0 x0).bind fun v1 =>
    (z_gI h 6 6 v1).bind fun v2 =>
    if v2 ≤ x1 then
      some ((0 : Int32), h)
    else
      some ((1 : Int32), h)
noncomputable def f_X10_told (x0 : Option Nat) (x1 : Int32) (x2 : Int32) (h : zH) : Option (Int32 × zH) :=
  (z_ck h 10 x0).bind fun _ =>
  z_b2 (f_X10_isThing x0 x1 h) fun v3 h2 =>
  if v3 = (0 : Int32) then
    some ((-1 : Int32), h2)
  else
    (z_gA h2 10 0 x0).bind fun v4 =>
    (z_gA h2 6 5 v4).bind fun v5 =>
    (z_aA h2 v5 x1).bind fun v6 =>
    if x2 = (0 : Int32) then
      (z_gI h2 8 1 v6).bind fun v7 =>
      some (v7, h2)
    else
    if x2 = (1 : Int32) then
      (z_gA h2 10 0 x0).bind fun v8 =>
      (z_ck h2 6 v8).bind fun _ =>
      z_b2 (f_X6_cellOfThing v8 v6 h2) fun v11 h10 =>
      some (v11, h10)
    else
    if x2 = (2 : Int32) then
      (z_gI h2 8 0 v6).bind fun v12 =>
      some (v12, h2)
    else
    if x2 = (3 : Int32) then
      (z_gI h2 8 1 v6).bind fun v13 =>
      if v13 = (0 : Int32) then
        some ((-4 : Int32), h2)
      else
        (z_gI h2 8 3 v6).bind fun v14 =>
        (z_gI h2 8 4 v6).bind fun v15 =>
        some (((10 : Int32) * v14) + v15, h2)
    else
      some ((-1 : Int32), h2)
noncomputable def f_X10_form (x0 : Option Nat) (x1 : Int32) (h : zH) : Option (Int32 × zH) :=
  (z_ck h 10 x0).bind fun _ =>
  z_b2 (f_X10_isArm x0 x1 h) fun v3 h2 =>
  if v3 = (0 : Int32) then
    some ((-1 : Int32), h2)
  else
    (z_gA h2 10 0 x0).bind fun v4 =>
    (z_gA h2 6 3 v4).bind fun v5 =>
    (z_aA h2 v5 x1).bind fun v6 =>
    (z_ck h2 0 v6).bind fun _ =>
    z_b2 (f_X0_isCut v6 h2) fun v9 h8 =>
    if v9 = (0 : Int32) then
      (z_gA h8 10 0 x0).bind fun v10 =>
      (z_gA h8 6 3 v10).bind fun v11 =>
      (z_aA h8 v11 x1).bind fun v12 =>
      (z_ck h8 0 v12).bind fun _ =>
      z_b2 (f_X0_formNow v12 h8) fun v15 h14 =>
      some (v15, h14)
    else
      some ((-2 : Int32), h8)
noncomputable def f_X10_flip (tS : Nat) (x0 : Option Nat) (x1 : Int32) (x2 : Int32) (h : zH) : Option (Int32 × zH) :=
  (z_ck h 10 x0).bind fun _ =>
  z_b2 (f_X10_isPiece x0 x1 x2 h) fun v3 h2 =>
  if v3 = (0 : Int32) then
    some ((-1 : Int32), h2)
  else
    (z_gA h2 10 0 x0).bind fun v4 =>
    (z_gA h2 6 3 v4).bind fun v5 =>
    (z_aA h2 v5 x1).bind fun v6 =>
    (z_ck h2 0 v6).bind fun _ =>
    z_b2 (f_X0_canEverMove v6 x2 h2) fun v9 h8 =>
    if v9 = (0 : Int32) then
      some ((-1 : Int32), h8)
    else
      (z_gA h8 10 0 x0).bind fun v10 =>
      (z_gA h8 10 0 x0).bind fun v11 =>
      (z_gA h8 6 3 v11).bind fun v12 =>
      (z_aA h8 v12 x1).bind fun v13 =>
      (z_ck h8 6 v10).bind fun _ =>
      z_b2 (f_X6_move tS v10 v13 x2 h8) fun v16 h15 =>
      if v16 = (0 : Int32) then
        some ((-2 : Int32), h15)
      else
        (z_gA h15 10 0 x0).bind fun v17 =>
        (z_gA h15 6 3 v17).bind fun v18 =>
        (z_aA h15 v18 x1).bind fun v19 =>
        (z_gA h15 0 4 v19).bind fun v20 =>
        (z_aI h15 v20 x2).bind fun v21 =>
        some (v21, h15)
noncomputable def f_X10_byteOf (x0 : Int64) (x2 : Int32) (h : zH) : Option (Int32 × zH) :=
  some ((Int64.toInt32 (((Int64.toUInt64 x0) >>> ((Int32.toInt64 ((8 : Int32) * x2)).toUInt64 &&& Int64.toUInt64 63)).toInt64)) &&& (255 : Int32), h)
noncomputable def f_X10_type_c71 (x0 : Option Nat) (x1 : Int64) (x4 : Int32) (h : zH) : Option (((Option Nat) × Int64 × Int32 × zH) ⊕ (Int32 × zH)) :=
  if x4 < (0 : Int32) then
    z_i1 (
    (z_gI h 10 4 x0).bind fun v1 =>
    some (v1, h))
  else
    (z_gA h 10 3 x0).bind fun v2 =>
    (z_gI h 10 4 x0).bind fun v3 =>
    z_b2 (f_X10_byteOf x1 x4 h) fun v5 h4 =>
    (z_sB h4 v2 v3 ((Int32.toInt8 v5).toInt32)).bind fun h6 =>
    (z_gI h6 10 4 x0).bind fun v7 =>
    (z_pF h6 10 4 x0 (tI (v7 + (1 : Int32)))).bind fun h8 =>
    some (Sum.inl (x0, x1, x4 + (-1 : Int32), h8))
noncomputable def f_X10_type_b71 (x0 : Option Nat) (x1 : Int64) (x4 : Int32) (h : zH) : Option (Int32 × zH) := z_it (fun s : (Option Nat) × Int64 × Int32 × zH => f_X10_type_c71 s.1 s.2.1 s.2.2.1 s.2.2.2) (x0, x1, x4, h)
noncomputable def f_X10_type_c16 (x0 : Option Nat) (x1 : Int64) (x3 : Int32) (x4 : Int32) (h : zH) : Option (((Option Nat) × Int64 × Int32 × Int32 × zH) ⊕ (Int32 × zH)) :=
  if x3 ≤ x4 then
    z_i1 (
    (z_gI h 10 4 x0).bind fun v1 =>
    if (v1 + x3) ≤ (100 : Int32) then
      f_X10_type_b71 x0 x1 (x3 - (1 : Int32)) h
    else
      some ((-3 : Int32), h))
  else
    z_b2 (f_X10_byteOf x1 x4 h) fun v3 h2 =>
    if v3 < (32 : Int32) then
      z_i1 (
      some ((-1 : Int32), h2))
    else
      if v3 ≤ (126 : Int32) then
        some (Sum.inl (x0, x1, x3, x4 + (1 : Int32), h2))
      else
        z_i1 (
        some ((-1 : Int32), h2))
noncomputable def f_X10_type_b16 (x0 : Option Nat) (x1 : Int64) (x3 : Int32) (x4 : Int32) (h : zH) : Option (Int32 × zH) := z_it (fun s : (Option Nat) × Int64 × Int32 × Int32 × zH => f_X10_type_c16 s.1 s.2.1 s.2.2.1 s.2.2.2.1 s.2.2.2.2) (x0, x1, x3, x4, h)
noncomputable def f_X10_type (x0 : Option Nat) (x1 : Int64) (x3 : Int32) (h : zH) : Option (Int32 × zH) :=
  if x3 < (1 : Int32) then
    some ((-1 : Int32), h)
  else
    if x3 ≤ (8 : Int32) then
      f_X10_type_b16 x0 x1 x3 (0 : Int32) h
    else
      some ((-1 : Int32), h)
noncomputable def f_X10_rules_b25 (x0 : Option Nat) (x1 : Int32) (s0 : Option Nat) (h : zH) (nx z : Nat) : Option ((Nat × Nat) × (Int32 × zH)) :=
  (z_pF h 10 4 x0 (tI (0 : Int32))).bind fun h1 =>
  if s0 = none then
    (z_gA h1 10 5 x0).bind fun v7 =>
    (z_gI h1 4 4 v7).bind fun v8 =>
    some ((nx, z), ((-20 : Int32) - v8, h1))
  else
    (z_gA h1 10 0 x0).bind fun v2 =>
    (z_gA h1 6 3 v2).bind fun v3 =>
    (z_aA h1 v3 x1).bind fun v4 =>
    (z_pF h1 0 3 v4 (tA s0)).bind fun h5 =>
    (z_gI h5 5 1 s0).bind fun v6 =>
    some ((nx, z), (v6, h5))
noncomputable def f_X10_rules (x0 : Option Nat) (x1 : Int32) (h : zH) (nx z : Nat) : Option ((Nat × Nat) × (Int32 × zH)) :=
  (z_ck h 10 x0).bind fun _ =>
  z_b2 (f_X10_isArm x0 x1 h) fun v3 h2 =>
  if v3 = (0 : Int32) then
    some ((nx, z), ((-1 : Int32), h2))
  else
    (z_gA h2 10 5 x0).bind fun v4 =>
    (z_gA h2 10 3 x0).bind fun v5 =>
    (z_gI h2 10 4 x0).bind fun v6 =>
    (z_ck h2 4 v4).bind fun _ =>
    (f_X4_read v4 v5 v6 h2 nx z).bind fun n10 =>
    f_X10_rules_b25 x0 x1 n10.2.1 n10.2.2 n10.1.1 n10.1.2
noncomputable def f_X10_head (x0 : Option Nat) (x1 : Int32) (x2 : Int32) (h : zH) : Option (Int32 × zH) :=
  (z_ck h 10 x0).bind fun _ =>
  z_b2 (f_X10_isArm x0 x1 h) fun v3 h2 =>
  if v3 = (0 : Int32) then
    some ((-1 : Int32), h2)
  else
    z_b2 (f_X10_isDigit x2 h2) fun v5 h4 =>
    if v5 = (0 : Int32) then
      some ((-1 : Int32), h4)
    else
      (z_gA h4 10 0 x0).bind fun v6 =>
      (z_gA h4 6 3 v6).bind fun v7 =>
      (z_aA h4 v7 x1).bind fun v8 =>
      (z_gI h4 0 2 v8).bind fun v9 =>
      (z_gA h4 10 0 x0).bind fun v10 =>
      (z_gA h4 6 3 v10).bind fun v11 =>
      (z_aA h4 v11 x1).bind fun v12 =>
      (z_pF h4 0 2 v12 (tI x2)).bind fun h13 =>
      some (v9, h13)
noncomputable def f_X10_skin (x0 : Option Nat) (x1 : Int32) (h : zH) : Option (Int32 × zH) :=
  z_b2 (f_X10_isDigit x1 h) fun v2 h1 =>
  if v2 = (0 : Int32) then
    some ((-1 : Int32), h1)
  else
    (z_gA h1 10 0 x0).bind fun v3 =>
    (z_gI h1 6 7 v3).bind fun v4 =>
    (z_gA h1 10 0 x0).bind fun v5 =>
    (z_pF h1 6 7 v5 (tI x1)).bind fun h6 =>
    some (v4, h6)
noncomputable def f_X10_ticks_c15 (tS : Nat) (x0 : Option Nat) (x1 : Int32) (x2 : Int32) (h : zH) : Option (((Option Nat) × Int32 × Int32 × zH) ⊕ (Int32 × zH)) :=
  if x1 ≤ x2 then
    z_i1 (
    (z_gA h 10 0 x0).bind fun v1 =>
    (z_ck h 6 v1).bind fun _ =>
    z_b2 (f_X6_countThings v1 (2 : Int32) h) fun v4 h3 =>
    some (v4, h3))
  else
    (z_gA h 10 0 x0).bind fun v5 =>
    (z_ck h 6 v5).bind fun _ =>
    (f_X6_tick tS v5 h).bind fun h7 =>
    some (Sum.inl (x0, x1, x2 + (1 : Int32), h7))
noncomputable def f_X10_ticks_b15 (tS : Nat) (x0 : Option Nat) (x1 : Int32) (x2 : Int32) (h : zH) : Option (Int32 × zH) := z_it (fun s : (Option Nat) × Int32 × Int32 × zH => f_X10_ticks_c15 tS s.1 s.2.1 s.2.2.1 s.2.2.2) (x0, x1, x2, h)
noncomputable def f_X10_ticks (tS : Nat) (x0 : Option Nat) (x1 : Int32) (h : zH) : Option (Int32 × zH) :=
  if x1 < (1 : Int32) then
    some ((-1 : Int32), h)
  else
    if x1 ≤ (60 : Int32) then
      f_X10_ticks_b15 tS x0 x1 (0 : Int32) h
    else
      some ((-1 : Int32), h)
noncomputable def f_X10_finds (x0 : Option Nat) (x1 : Int32) (x2 : Int32) (h : zH) : Option (Int32 × zH) :=
  (z_ck h 10 x0).bind fun _ =>
  z_b2 (f_X10_isPiece x0 x1 x2 h) fun v3 h2 =>
  if v3 = (0 : Int32) then
    some ((-1 : Int32), h2)
  else
    if x2 = (0 : Int32) then
      some ((-1 : Int32), h2)
    else
      (z_gA h2 10 0 x0).bind fun v4 =>
      (z_gA h2 10 0 x0).bind fun v5 =>
      (z_gA h2 6 3 v5).bind fun v6 =>
      (z_aA h2 v6 x1).bind fun v7 =>
      (z_ck h2 6 v4).bind fun _ =>
      z_b2 (f_X6_clauseFor v4 v7 x2 h2) fun v10 h9 =>
      some (v10, h9)
noncomputable def f_X10_cut (x0 : Option Nat) (x1 : Int32) (x2 : Int32) (h : zH) : Option (Int32 × zH) :=
  (z_ck h 10 x0).bind fun _ =>
  z_b2 (f_X10_isPiece x0 x1 x2 h) fun v3 h2 =>
  if v3 = (0 : Int32) then
    some ((-1 : Int32), h2)
  else
    if x2 = (0 : Int32) then
      some ((-1 : Int32), h2)
    else
      (z_gA h2 10 0 x0).bind fun v4 =>
      (z_gA h2 6 3 v4).bind fun v5 =>
      (z_aA h2 v5 x1).bind fun v6 =>
      (z_ck h2 0 v6).bind fun _ =>
      z_b2 (f_X0_isCut v6 h2) fun v9 h8 =>
      if v9 = (0 : Int32) then
        (z_pF h8 0 1 v6 (tI x2)).bind fun h10 =>
        (z_gI h10 0 0 v6).bind fun v11 =>
        some (v11 - x2, h10)
      else
        some ((-2 : Int32), h8)
noncomputable def f_X10_count (x0 : Option Nat) (x1 : Int32) (h : zH) : Option (Int32 × zH) :=
  if x1 = (0 : Int32) then
    (z_gA h 10 0 x0).bind fun v1 =>
    (z_gI h 6 4 v1).bind fun v2 =>
    some (v2, h)
  else
  if x1 = (1 : Int32) then
    (z_gA h 10 0 x0).bind fun v3 =>
    (z_gI h 6 6 v3).bind fun v4 =>
    some (v4, h)
  else
  if x1 = (2 : Int32) then
    (z_gA h 10 0 x0).bind fun v5 =>
    (z_ck h 6 v5).bind fun _ =>
    z_b2 (f_X6_countThings v5 (0 : Int32) h) fun v8 h7 =>
    some (v8, h7)
  else
  if x1 = (3 : Int32) then
    (z_gA h 10 0 x0).bind fun v9 =>
    (z_ck h 6 v9).bind fun _ =>
    z_b2 (f_X6_countThings v9 (1 : Int32) h) fun v12 h11 =>
    some (v12, h11)
  else
  if x1 = (4 : Int32) then
    (z_gA h 10 0 x0).bind fun v13 =>
    (z_ck h 6 v13).bind fun _ =>
    z_b2 (f_X6_countThings v13 (2 : Int32) h) fun v16 h15 =>
    some (v16, h15)
  else
  if x1 = (5 : Int32) then
    (z_gA h 10 0 x0).bind fun v17 =>
    (z_gJ h 6 0 v17).bind fun v18 =>
    z_b2 (f_J13_bitCount_95d88 v18 h) fun v20 h19 =>
    some (v20, h19)
  else
  if x1 = (6 : Int32) then
    (z_gA h 10 0 x0).bind fun v21 =>
    (z_gI h 6 8 v21).bind fun v22 =>
    some (v22, h)
  else
    some ((-1 : Int32), h)
noncomputable def f_X10_refusesReach (tS : Nat) (x0 : Option Nat) (x1 : Int32) (h : zH) : Option (Int32 × zH) :=
  (z_ck h 10 x0).bind fun _ =>
  z_b2 (f_X10_isArm x0 x1 h) fun v3 h2 =>
  if v3 = (0 : Int32) then
    some ((-1 : Int32), h2)
  else
    (z_gA h2 10 0 x0).bind fun v4 =>
    (z_gA h2 6 3 v4).bind fun v5 =>
    (z_aA h2 v5 x1).bind fun v6 =>
    (z_ck h2 0 v6).bind fun _ =>
    z_b2 (f_X0_isCut v6 h2) fun v9 h8 =>
    if v9 = (0 : Int32) then
      (z_gA h8 10 6 x0).bind fun v10 =>
      (z_gA h8 10 0 x0).bind fun v11 =>
      (z_gA h8 10 0 x0).bind fun v12 =>
      (z_gA h8 6 3 v12).bind fun v13 =>
      (z_aA h8 v13 x1).bind fun v14 =>
      (z_ck h8 3 v10).bind fun _ =>
      (f_X3_search tS v10 v11 v14 h8).bind fun h16 =>
      some ((0 : Int32), h16)
    else
      some ((-2 : Int32), h8)
noncomputable def f_X10_forms (tS : Nat) (x0 : Option Nat) (x1 : Int32) (h : zH) : Option (Int32 × zH) :=
  (z_ck h 10 x0).bind fun _ =>
  z_b2 (f_X10_refusesReach tS x0 x1 h) fun v3 h2 =>
  if v3 = (0 : Int32) then
    (z_gA h2 10 6 x0).bind fun v4 =>
    (z_gI h2 3 4 v4).bind fun v5 =>
    some (v5, h2)
  else
    some (v3, h2)
noncomputable def f_X10_reach (tS : Nat) (x0 : Option Nat) (x1 : Int32) (h : zH) : Option (Int32 × zH) :=
  (z_ck h 10 x0).bind fun _ =>
  z_b2 (f_X10_refusesReach tS x0 x1 h) fun v3 h2 =>
  if v3 = (0 : Int32) then
    (z_gA h2 10 6 x0).bind fun v4 =>
    (z_gI h2 3 5 v4).bind fun v5 =>
    some (v5, h2)
  else
    some (v3, h2)
noncomputable def f_X10_far (tS : Nat) (x0 : Option Nat) (x1 : Int32) (x2 : Int32) (x3 : Int32) (h : zH) : Option (Int32 × zH) :=
  z_b2 (f_X10_isCell x2 x3 h) fun v2 h1 =>
  if v2 = (0 : Int32) then
    some ((-1 : Int32), h1)
  else
    (z_ck h1 10 x0).bind fun _ =>
    z_b2 (f_X10_refusesReach tS x0 x1 h1) fun v5 h4 =>
    if v5 = (0 : Int32) then
      (z_gA h4 10 6 x0).bind fun v6 =>
      (z_gA h4 3 2 v6).bind fun v7 =>
      z_b2 (f_X10_cellOf x2 x3 h4) fun v9 h8 =>
      (z_aI h8 v7 v9).bind fun v10 =>
      some (v10, h8)
    else
      some (v5, h4)
noncomputable def f_X10_fewest (tS : Nat) (x0 : Option Nat) (x1 : Int32) (x2 : Int32) (x3 : Int32) (x4 : Int32) (h : zH) : Option (Int32 × zH) :=
  (z_ck h 10 x0).bind fun _ =>
  z_b2 (f_X10_isArm x0 x1 h) fun v3 h2 =>
  if v3 = (0 : Int32) then
    some ((-1 : Int32), h2)
  else
    (z_ck h2 10 x0).bind fun _ =>
    z_b2 (f_X10_isThing x0 x2 h2) fun v6 h5 =>
    if v6 = (0 : Int32) then
      some ((-1 : Int32), h5)
    else
      if x3 < (1 : Int32) then
        some ((-1 : Int32), h5)
      else
        if (20 : Int32) < x3 then
          some ((-1 : Int32), h5)
        else
          if x4 < (0 : Int32) then
            some ((-1 : Int32), h5)
          else
            if x4 ≤ (4 : Int32) then
              (z_gA h5 10 0 x0).bind fun v7 =>
              (z_gA h5 6 5 v7).bind fun v8 =>
              (z_aA h5 v8 x2).bind fun v9 =>
              (z_gI h5 8 1 v9).bind fun v10 =>
              if v10 = (2 : Int32) then
                some ((-2 : Int32), h5)
              else
                (z_gA h5 10 7 x0).bind fun v11 =>
                (z_gA h5 10 0 x0).bind fun v12 =>
                (z_ck h5 9 v11).bind fun _ =>
                z_b2 (f_X9_search tS v11 v12 x1 x2 x3 h5) fun v15 h14 =>
                if v15 = (0 : Int32) then
                  some ((-4 : Int32), h14)
                else
                  if x4 = (0 : Int32) then
                    some (v15, h14)
                  else
                    if v15 < x4 then
                      some ((-1 : Int32), h14)
                    else
                      (z_gA h14 10 7 x0).bind fun v16 =>
                      (z_gA h14 9 0 v16).bind fun v17 =>
                      (z_aI h14 v17 (x4 - (1 : Int32))).bind fun v18 =>
                      some (v18, h14)
            else
              some ((-1 : Int32), h5)
noncomputable def f_X10_isImage (x0 : Option Nat) (x1 : Int32) (h : zH) : Option (Int32 × zH) :=
  if x1 < (0 : Int32) then
    some ((0 : Int32), h)
  else
    (z_gA h 10 1 x0).bind fun v1 =>
    (z_len h v1).bind fun v2 =>
    if v2 ≤ x1 then
      some ((0 : Int32), h)
    else
      some ((1 : Int32), h)
noncomputable def f_X10_image_b32 (x0 : Option Nat) (x1 : Int32) (h : zH) (nx z : Nat) : Option ((Nat × Nat) × (Int32 × zH)) :=
  (z_gA h 10 1 x0).bind fun v1 =>
  (z_aA h v1 x1).bind fun v2 =>
  (z_gA h 10 0 x0).bind fun v3 =>
  (z_ck h 6 v2).bind fun _ =>
  (f_X6_become v2 v3 h).bind fun h5 =>
  some ((nx, z), ((1 : Int32), h5))
noncomputable def f_X10_image_b31 (x0 : Option Nat) (x1 : Int32) (s0 : Option Nat) (s1 : Int32) (s2 : Option Nat) (h : zH) (nx z : Nat) : Option ((Nat × Nat) × (Int32 × zH)) :=
  (z_sA h s0 s1 s2).bind fun h1 =>
  f_X10_image_b32 x0 x1 h1 nx z
noncomputable def f_X10_image_b27 (x0 : Option Nat) (x1 : Int32) (s0 : Option Nat) (s1 : Int32) (s2 : Option Nat) (h : zH) (nx z : Nat) : Option ((Nat × Nat) × (Int32 × zH)) :=
  Option.bind s2 fun _ =>
  (f_X6_init s2 h nx z).bind fun n3 =>
  f_X10_image_b31 x0 x1 s0 s1 s2 n3.2 n3.1.1 n3.1.2
noncomputable def f_X10_image (x0 : Option Nat) (x1 : Int32) (h : zH) (nx z : Nat) : Option ((Nat × Nat) × (Int32 × zH)) :=
  (z_ck h 10 x0).bind fun _ =>
  z_b2 (f_X10_isImage x0 x1 h) fun v3 h2 =>
  if v3 = (0 : Int32) then
    some ((nx, z), ((-1 : Int32), h2))
  else
    (z_gA h2 10 1 x0).bind fun v4 =>
    (z_aA h2 v4 x1).bind fun v5 =>
    if v5 = none then
      (z_gA h2 10 1 x0).bind fun v6 =>
      f_X10_image_b27 x0 x1 v6 x1 (some nx) (z_up h2 nx (.inr (6, [tJ 0, tJ 0, tA none, tA none, tI 0, tA none, tI 0, tI 0, tI 0]))) (nx + 1) (z + 9)
    else
      f_X10_image_b32 x0 x1 h2 nx z
noncomputable def f_X10_restore (x0 : Option Nat) (x1 : Int32) (h : zH) : Option (Int32 × zH) :=
  (z_ck h 10 x0).bind fun _ =>
  z_b2 (f_X10_isImage x0 x1 h) fun v3 h2 =>
  if v3 = (0 : Int32) then
    some ((-1 : Int32), h2)
  else
    (z_gA h2 10 1 x0).bind fun v4 =>
    (z_aA h2 v4 x1).bind fun v5 =>
    if v5 = none then
      some ((-4 : Int32), h2)
    else
      (z_gA h2 10 0 x0).bind fun v6 =>
      (z_gA h2 10 1 x0).bind fun v7 =>
      (z_aA h2 v7 x1).bind fun v8 =>
      (z_ck h2 6 v6).bind fun _ =>
      (f_X6_become v6 v8 h2).bind fun h10 =>
      some ((1 : Int32), h10)
noncomputable def f_X10_refusesFilm_b28 (x0 : Option Nat) (x1 : Int32) (x2 : Int32) (x3 : Int32) (x4 : Int32) (h : zH) : Option (Int32 × zH) :=
  (z_gA h 10 2 x0).bind fun v1 =>
  (z_aA h v1 x2).bind fun v2 =>
  (z_gA h 10 0 x0).bind fun v3 =>
  (z_gA h 6 3 v3).bind fun v4 =>
  (z_aA h v4 x1).bind fun v5 =>
  (z_gI h 0 0 v5).bind fun v6 =>
  (z_ck h 7 v2).bind fun _ =>
  z_b2 (f_X7_refuses v2 x3 x4 v6 h) fun v9 h8 =>
  some (v9, h8)
noncomputable def f_X10_refusesFilm (x0 : Option Nat) (x1 : Int32) (x2 : Int32) (x3 : Int32) (x4 : Int32) (h : zH) : Option (Int32 × zH) :=
  (z_ck h 10 x0).bind fun _ =>
  z_b2 (f_X10_isArm x0 x1 h) fun v3 h2 =>
  if v3 = (0 : Int32) then
    some ((-1 : Int32), h2)
  else
    (z_ck h2 10 x0).bind fun _ =>
    z_b2 (f_X10_isSheet x0 x2 h2) fun v6 h5 =>
    if v6 = (0 : Int32) then
      some ((-1 : Int32), h5)
    else
      if x3 = (1 : Int32) then
        f_X10_refusesFilm_b28 x0 x1 x2 x3 x4 h5
      else
        if x3 = (2 : Int32) then
          f_X10_refusesFilm_b28 x0 x1 x2 x3 x4 h5
        else
          some ((-1 : Int32), h5)
noncomputable def f_X10_film_c33 (x0 : Option Nat) (x2 : Int32) (x4 : Int32) (x6 : Option Nat) (x7 : Int32) (h : zH) : Option (((Option Nat) × Int32 × Int32 × (Option Nat) × Int32 × zH) ⊕ (Int32 × zH)) :=
  (z_gI h 0 0 x6).bind fun v1 =>
  if v1 ≤ x7 then
    z_i1 (
    (z_gI h 0 0 x6).bind fun v2 =>
    some (v2, h))
  else
    (z_gA h 10 2 x0).bind fun v3 =>
    (z_aA h v3 x2).bind fun v4 =>
    (z_gA h 7 2 v4).bind fun v5 =>
    (z_gA h 0 4 x6).bind fun v6 =>
    (z_aI h v6 x7).bind fun v7 =>
    (z_sI h v5 (x4 + x7) v7).bind fun h8 =>
    some (Sum.inl (x0, x2, x4, x6, x7 + (1 : Int32), h8))
noncomputable def f_X10_film_b33 (x0 : Option Nat) (x2 : Int32) (x4 : Int32) (x6 : Option Nat) (x7 : Int32) (h : zH) : Option (Int32 × zH) := z_it (fun s : (Option Nat) × Int32 × Int32 × (Option Nat) × Int32 × zH => f_X10_film_c33 s.1 s.2.1 s.2.2.1 s.2.2.2.1 s.2.2.2.2.1 s.2.2.2.2.2) (x0, x2, x4, x6, x7, h)
noncomputable def f_X10_film (x0 : Option Nat) (x1 : Int32) (x2 : Int32) (x3 : Int32) (x4 : Int32) (h : zH) : Option (Int32 × zH) :=
  (z_ck h 10 x0).bind fun _ =>
  z_b2 (f_X10_refusesFilm x0 x1 x2 x3 x4 h) fun v3 h2 =>
  if v3 = (0 : Int32) then
    (z_gA h2 10 0 x0).bind fun v4 =>
    (z_gA h2 6 3 v4).bind fun v5 =>
    (z_aA h2 v5 x1).bind fun v6 =>
    f_X10_film_b33 x0 x2 x4 v6 (0 : Int32) h2
  else
    some (v3, h2)
noncomputable def f_X10_differs_c33 (x0 : Option Nat) (x2 : Int32) (x4 : Int32) (x6 : Option Nat) (x7 : Int32) (h : zH) : Option (((Option Nat) × Int32 × Int32 × (Option Nat) × Int32 × zH) ⊕ (Int32 × zH)) :=
  (z_gI h 0 0 x6).bind fun v1 =>
  if v1 ≤ x7 then
    z_i1 (
    some ((-4 : Int32), h))
  else
    (z_gA h 10 2 x0).bind fun v2 =>
    (z_aA h v2 x2).bind fun v3 =>
    (z_gA h 7 2 v3).bind fun v4 =>
    (z_aI h v4 (x4 + x7)).bind fun v5 =>
    (z_gA h 0 4 x6).bind fun v6 =>
    (z_aI h v6 x7).bind fun v7 =>
    if v5 = v7 then
      some (Sum.inl (x0, x2, x4, x6, x7 + (1 : Int32), h))
    else
      z_i1 (
      some (x7, h))
noncomputable def f_X10_differs_b33 (x0 : Option Nat) (x2 : Int32) (x4 : Int32) (x6 : Option Nat) (x7 : Int32) (h : zH) : Option (Int32 × zH) := z_it (fun s : (Option Nat) × Int32 × Int32 × (Option Nat) × Int32 × zH => f_X10_differs_c33 s.1 s.2.1 s.2.2.1 s.2.2.2.1 s.2.2.2.2.1 s.2.2.2.2.2) (x0, x2, x4, x6, x7, h)
noncomputable def f_X10_differs (x0 : Option Nat) (x1 : Int32) (x2 : Int32) (x3 : Int32) (x4 : Int32) (h : zH) : Option (Int32 × zH) :=
  (z_ck h 10 x0).bind fun _ =>
  z_b2 (f_X10_refusesFilm x0 x1 x2 x3 x4 h) fun v3 h2 =>
  if v3 = (0 : Int32) then
    (z_gA h2 10 0 x0).bind fun v4 =>
    (z_gA h2 6 3 v4).bind fun v5 =>
    (z_aA h2 v5 x1).bind fun v6 =>
    f_X10_differs_b33 x0 x2 x4 v6 (0 : Int32) h2
  else
    some (v3, h2)
noncomputable def f_X10_isLane (x0 : Int32) (h : zH) : Option (Int32 × zH) :=
  if x0 < (0 : Int32) then
    some ((0 : Int32), h)
  else
    if (2 : Int32) < x0 then
      some ((0 : Int32), h)
    else
      some ((1 : Int32), h)
noncomputable def f_X10_sheet (x0 : Option Nat) (x1 : Int32) (x2 : Int32) (x3 : Int32) (h : zH) : Option (Int32 × zH) :=
  (z_ck h 10 x0).bind fun _ =>
  z_b2 (f_X10_isSheet x0 x1 h) fun v3 h2 =>
  if v3 = (0 : Int32) then
    some ((-1 : Int32), h2)
  else
    z_b2 (f_X10_isLane x2 h2) fun v5 h4 =>
    if v5 = (0 : Int32) then
      some ((-1 : Int32), h4)
    else
      if x3 ≤ (64 : Int32) then
        if (0 : Int32) ≤ x3 then
          (z_gA h4 10 2 x0).bind fun v6 =>
          (z_aA h4 v6 x1).bind fun v7 =>
          (z_ck h4 7 v7).bind fun _ =>
          (f_X7_begin v7 x2 x3 h4).bind fun h9 =>
          some (x3, h9)
        else
          some ((-14 : Int32), h4)
      else
        some ((-1 : Int32), h4)
noncomputable def f_X10_drop (x0 : Option Nat) (x1 : Int32) (h : zH) : Option (Int32 × zH) :=
  (z_ck h 10 x0).bind fun _ =>
  z_b2 (f_X10_isSheet x0 x1 h) fun v3 h2 =>
  if v3 = (0 : Int32) then
    some ((-1 : Int32), h2)
  else
    (z_gA h2 10 2 x0).bind fun v4 =>
    (z_aA h2 v4 x1).bind fun v5 =>
    (z_ck h2 7 v5).bind fun _ =>
    z_b2 (f_X7_holdsNothing v5 h2) fun v8 h7 =>
    if v8 = (0 : Int32) then
      (z_gA h7 10 2 x0).bind fun v9 =>
      (z_aA h7 v9 x1).bind fun v10 =>
      (z_gI h7 7 1 v10).bind fun v11 =>
      (z_gA h7 10 2 x0).bind fun v12 =>
      (z_aA h7 v12 x1).bind fun v13 =>
      (z_ck h7 7 v13).bind fun _ =>
      (f_X7_forget v13 h7).bind fun h15 =>
      some (v11, h15)
    else
      some ((-11 : Int32), h7)
noncomputable def f_X10_narrowed (x0 : Int32) (x1 : Int32) (h : zH) : Option (Int32 × zH) :=
  if x0 = (0 : Int32) then
    if x1 = (0 : Int32) then
      some ((0 : Int32), h)
    else
      some ((1 : Int32), h)
  else
    if x0 = (1 : Int32) then
      some ((Int32.toInt8 x1).toInt32, h)
    else
      some (x1, h)
noncomputable def f_X10_item (x0 : Option Nat) (x1 : Int32) (x2 : Int32) (x3 : Int32) (x4 : Int32) (h : zH) : Option (Int32 × zH) :=
  (z_ck h 10 x0).bind fun _ =>
  z_b2 (f_X10_isSheet x0 x1 h) fun v3 h2 =>
  if v3 = (0 : Int32) then
    some ((-1 : Int32), h2)
  else
    z_b2 (f_X10_isLane x2 h2) fun v5 h4 =>
    if v5 = (0 : Int32) then
      some ((-1 : Int32), h4)
    else
      (z_gA h4 10 2 x0).bind fun v6 =>
      (z_aA h4 v6 x1).bind fun v7 =>
      (z_ck h4 7 v7).bind fun _ =>
      z_b2 (f_X7_refuses v7 x2 x3 (1 : Int32) h4) fun v10 h9 =>
      if v10 = (0 : Int32) then
        (z_gA h9 10 2 x0).bind fun v11 =>
        (z_aA h9 v11 x1).bind fun v12 =>
        (z_gA h9 7 2 v12).bind fun v13 =>
        z_b2 (f_X10_narrowed x2 x4 h9) fun v15 h14 =>
        (z_sI h14 v13 x3 v15).bind fun h16 =>
        some ((1 : Int32), h16)
      else
        some (v10, h9)
noncomputable def f_X10_copy (x0 : Option Nat) (x1 : Int32) (x2 : Int32) (x3 : Int32) (x4 : Int32) (x5 : Int32) (h : zH) : Option (Int32 × zH) :=
  (z_ck h 10 x0).bind fun _ =>
  z_b2 (f_X10_isSheet x0 x1 h) fun v3 h2 =>
  if v3 = (0 : Int32) then
    some ((-1 : Int32), h2)
  else
    (z_ck h2 10 x0).bind fun _ =>
    z_b2 (f_X10_isSheet x0 x3 h2) fun v6 h5 =>
    if v6 = (0 : Int32) then
      some ((-1 : Int32), h5)
    else
      (z_gA h5 10 2 x0).bind fun v7 =>
      (z_aA h5 v7 x1).bind fun v8 =>
      (z_gA h5 10 2 x0).bind fun v9 =>
      (z_aA h5 v9 x3).bind fun v10 =>
      (z_ck h5 7 v8).bind fun _ =>
      z_b2 (f_X7_holdsNothing v8 h5) fun v13 h12 =>
      if v13 = (0 : Int32) then
        (z_ck h12 7 v10).bind fun _ =>
        z_b2 (f_X7_holdsNothing v10 h12) fun v16 h15 =>
        if v16 = (0 : Int32) then
          (z_gI h15 7 0 v8).bind fun v17 =>
          (z_gI h15 7 0 v10).bind fun v18 =>
          if v17 = v18 then
            (z_ck h15 7 v8).bind fun _ =>
            z_b2 (f_X7_spans v8 x2 x5 h15) fun v21 h20 =>
            if v21 = (0 : Int32) then
              some ((-13 : Int32), h20)
            else
              (z_ck h20 7 v10).bind fun _ =>
              z_b2 (f_X7_spans v10 x4 x5 h20) fun v24 h23 =>
              if v24 = (0 : Int32) then
                some ((-13 : Int32), h23)
              else
                (z_gA h23 7 2 v8).bind fun v25 =>
                (z_gA h23 7 2 v10).bind fun v26 =>
                (z_cp h23 v25 x2 v26 x4 x5).bind fun h27 =>
                some (x5, h27)
          else
            some ((-12 : Int32), h15)
        else
          some ((-11 : Int32), h15)
      else
        some ((-11 : Int32), h12)
noncomputable def f_X11_init_c161 (x0 : Option Nat) (x1 : Int32) (h : zH) (nx z : Nat) : Option ((Nat × Nat) × (((Option Nat) × Int32 × zH) ⊕ (zH))) :=
  if (4 : Int32) ≤ x1 then
    z_i1m (
    some ((nx, z), h))
  else
    (z_gA h 11 6 x0).bind fun v1 =>
    (z_sI h v1 x1 (-4 : Int32)).bind fun h2 =>
    some ((nx, z), Sum.inl (x0, x1 + (1 : Int32), h2))
noncomputable def f_X11_init_b161 (x0 : Option Nat) (x1 : Int32) (h : zH) (nx z : Nat) : Option ((Nat × Nat) × (zH)) := z_it (fun q : (Nat × Nat) × ((Option Nat) × Int32 × zH) => (f_X11_init_c161 q.2.1 q.2.2.1 q.2.2.2 q.1.1 q.1.2).map z_ds) ((nx, z), (x0, x1, h))
noncomputable def f_X11_init_b148 (x0 : Option Nat) (s0 : Option Nat) (s1 : Option Nat) (h : zH) (nx z : Nat) : Option ((Nat × Nat) × (zH)) :=
  (z_pF h 11 21 s0 (tA s1)).bind fun h1 =>
  (z_gA h1 11 0 x0).bind fun v2 =>
  (z_sI h1 v2 (66 : Int32) (3 : Int32)).bind fun h3 =>
  f_X11_init_b161 x0 (0 : Int32) h3 nx z
noncomputable def f_X11_init_b140 (x0 : Option Nat) (s0 : Option Nat) (s1 : Option Nat) (h : zH) (nx z : Nat) : Option ((Nat × Nat) × (zH)) :=
  (z_pF h 11 20 s0 (tA s1)).bind fun h1 =>
  f_X11_init_b148 x0 x0 (some nx) (z_up h1 nx (.inl (0, 64, .inl (fun _ => 0)))) (nx + 1) (z + 64)
noncomputable def f_X11_init_b132 (x0 : Option Nat) (s0 : Option Nat) (s1 : Option Nat) (h : zH) (nx z : Nat) : Option ((Nat × Nat) × (zH)) :=
  (z_pF h 11 18 s0 (tA s1)).bind fun h1 =>
  f_X11_init_b140 x0 x0 (some nx) (z_up h1 nx (.inl (0, 7, .inl (fun _ => 0)))) (nx + 1) (z + 7)
noncomputable def f_X11_init_b124 (x0 : Option Nat) (s0 : Option Nat) (s1 : Option Nat) (h : zH) (nx z : Nat) : Option ((Nat × Nat) × (zH)) :=
  (z_pF h 11 17 s0 (tA s1)).bind fun h1 =>
  f_X11_init_b132 x0 x0 (some nx) (z_up h1 nx (.inl (0, 64, .inl (fun _ => 0)))) (nx + 1) (z + 64)
noncomputable def f_X11_init_b115 (x0 : Option Nat) (s0 : Option Nat) (s1 : Option Nat) (h : zH) (nx z : Nat) : Option ((Nat × Nat) × (zH)) :=
  (z_pF h 11 16 s0 (tA s1)).bind fun h1 =>
  f_X11_init_b124 x0 x0 (some nx) (z_up h1 nx (.inl (0, 4096, .inl (fun _ => 0)))) (nx + 1) (z + 4096)
noncomputable def f_X11_init_b106 (x0 : Option Nat) (s0 : Option Nat) (s1 : Option Nat) (h : zH) (nx z : Nat) : Option ((Nat × Nat) × (zH)) :=
  (z_pF h 11 15 s0 (tA s1)).bind fun h1 =>
  f_X11_init_b115 x0 x0 (some nx) (z_up h1 nx (.inl (0, 4096, .inl (fun _ => 0)))) (nx + 1) (z + 4096)
noncomputable def f_X11_init_b98 (x0 : Option Nat) (s0 : Option Nat) (s1 : Option Nat) (h : zH) (nx z : Nat) : Option ((Nat × Nat) × (zH)) :=
  (z_pF h 11 13 s0 (tA s1)).bind fun h1 =>
  f_X11_init_b106 x0 x0 (some nx) (z_up h1 nx (.inl (0, 21, .inl (fun _ => 0)))) (nx + 1) (z + 21)
noncomputable def f_X11_init_b90 (x0 : Option Nat) (s0 : Option Nat) (s1 : Option Nat) (h : zH) (nx z : Nat) : Option ((Nat × Nat) × (zH)) :=
  (z_pF h 11 12 s0 (tA s1)).bind fun h1 =>
  f_X11_init_b98 x0 x0 (some nx) (z_up h1 nx (.inl (2, 6, .inl (fun _ => 0)))) (nx + 1) (z + 6)
noncomputable def f_X11_init_b82 (x0 : Option Nat) (s0 : Option Nat) (s1 : Option Nat) (h : zH) (nx z : Nat) : Option ((Nat × Nat) × (zH)) :=
  (z_pF h 11 11 s0 (tA s1)).bind fun h1 =>
  f_X11_init_b90 x0 x0 (some nx) (z_up h1 nx (.inl (2, 6, .inl (fun _ => 0)))) (nx + 1) (z + 6)
noncomputable def f_X11_init_b74 (x0 : Option Nat) (s0 : Option Nat) (s1 : Option Nat) (h : zH) (nx z : Nat) : Option ((Nat × Nat) × (zH)) :=
  (z_pF h 11 9 s0 (tA s1)).bind fun h1 =>
  f_X11_init_b82 x0 x0 (some nx) (z_up h1 nx (.inl (2, 6, .inl (fun _ => 0)))) (nx + 1) (z + 6)
noncomputable def f_X11_init_b66 (x0 : Option Nat) (s0 : Option Nat) (s1 : Option Nat) (h : zH) (nx z : Nat) : Option ((Nat × Nat) × (zH)) :=
  (z_pF h 11 8 s0 (tA s1)).bind fun h1 =>
  f_X11_init_b74 x0 x0 (some nx) (z_up h1 nx (.inl (0, 7, .inl (fun _ => 0)))) (nx + 1) (z + 7)
noncomputable def f_X11_init_b57 (x0 : Option Nat) (s0 : Option Nat) (s1 : Option Nat) (h : zH) (nx z : Nat) : Option ((Nat × Nat) × (zH)) :=
  (z_pF h 11 7 s0 (tA s1)).bind fun h1 =>
  f_X11_init_b66 x0 x0 (some nx) (z_up h1 nx (.inl (0, 256, .inl (fun _ => 0)))) (nx + 1) (z + 256)
noncomputable def f_X11_init_b50 (x0 : Option Nat) (s0 : Option Nat) (s1 : Option Nat) (h : zH) (nx z : Nat) : Option ((Nat × Nat) × (zH)) :=
  (z_pF h 11 6 s0 (tA s1)).bind fun h1 =>
  f_X11_init_b57 x0 x0 (some nx) (z_up h1 nx (.inl (0, 4, .inl (fun _ => 0)))) (nx + 1) (z + 4)
noncomputable def f_X11_init_b43 (x0 : Option Nat) (s0 : Option Nat) (s1 : Option Nat) (h : zH) (nx z : Nat) : Option ((Nat × Nat) × (zH)) :=
  (z_pF h 11 5 s0 (tA s1)).bind fun h1 =>
  f_X11_init_b50 x0 x0 (some nx) (z_up h1 nx (.inl (0, 4, .inl (fun _ => 0)))) (nx + 1) (z + 4)
noncomputable def f_X11_init_b35 (x0 : Option Nat) (s0 : Option Nat) (s1 : Option Nat) (h : zH) (nx z : Nat) : Option ((Nat × Nat) × (zH)) :=
  (z_pF h 11 3 s0 (tA s1)).bind fun h1 =>
  f_X11_init_b43 x0 x0 (some nx) (z_up h1 nx (.inl (0, 100, .inl (fun _ => 0)))) (nx + 1) (z + 100)
noncomputable def f_X11_init_b26 (x0 : Option Nat) (s0 : Option Nat) (s1 : Option Nat) (h : zH) (nx z : Nat) : Option ((Nat × Nat) × (zH)) :=
  (z_pF h 11 2 s0 (tA s1)).bind fun h1 =>
  f_X11_init_b35 x0 x0 (some nx) (z_up h1 nx (.inl (0, 530, .inl (fun _ => 0)))) (nx + 1) (z + 530)
noncomputable def f_X11_init_b19 (x0 : Option Nat) (s0 : Option Nat) (s1 : Option Nat) (h : zH) (nx z : Nat) : Option ((Nat × Nat) × (zH)) :=
  (z_pF h 11 1 s0 (tA s1)).bind fun h1 =>
  f_X11_init_b26 x0 x0 (some nx) (z_up h1 nx (.inl (2, 2, .inl (fun _ => 0)))) (nx + 1) (z + 2)
noncomputable def f_X11_init_b10 (x0 : Option Nat) (s0 : Option Nat) (s1 : Option Nat) (h : zH) (nx z : Nat) : Option ((Nat × Nat) × (zH)) :=
  (z_pF h 11 0 s0 (tA s1)).bind fun h1 =>
  f_X11_init_b19 x0 x0 (some nx) (z_up h1 nx (.inl (0, 1060, .inl (fun _ => 0)))) (nx + 1) (z + 1060)
noncomputable def f_X11_init (x0 : Option Nat) (h : zH) (nx z : Nat) : Option ((Nat × Nat) × (zH)) :=
  Option.bind x0 fun v1 =>
  f_X11_init_b10 x0 x0 (some nx) (z_up h nx (.inl (0, 530, .inl (fun _ => 0)))) (nx + 1) (z + 530)
noncomputable def f_X11_in (x0 : Int32) (x1 : Int32) (x2 : Int32) (h : zH) : Option (Int32 × zH) :=
  if x0 < x1 then
    some ((0 : Int32), h)
  else
    if x2 < x0 then
      some ((0 : Int32), h)
    else
      some ((1 : Int32), h)
noncomputable def f_X11_isCell (x0 : Int32) (x1 : Int32) (h : zH) : Option (Int32 × zH) :=
  z_b2 (f_X11_in x0 (0 : Int32) (7 : Int32) h) fun v2 h1 =>
  if v2 = (0 : Int32) then
    some ((0 : Int32), h1)
  else
    z_b2 (f_X11_in x1 (0 : Int32) (7 : Int32) h1) fun v4 h3 =>
    if v4 = (0 : Int32) then
      some ((0 : Int32), h3)
    else
      some ((1 : Int32), h3)
noncomputable def f_X11_of (x0 : Int32) (x1 : Int32) (h : zH) : Option (Int32 × zH) :=
  some (((70 : Int32) + ((40 : Int32) * x0)) + x1, h)
noncomputable def f_X11_thingAt (x0 : Int32) (h : zH) : Option (Int32 × zH) :=
  some ((490 : Int32) + ((4 : Int32) * x0), h)
noncomputable def f_X11_isArm (x0 : Option Nat) (x1 : Int32) (h : zH) : Option (Int32 × zH) :=
  (z_gA h 11 0 x0).bind fun v1 =>
  (z_aI h v1 (64 : Int32)).bind fun v2 =>
  z_b2 (f_X11_in x1 (0 : Int32) (v2 - (1 : Int32)) h) fun v4 h3 =>
  if v4 = 0 ∨ v4 = 1 then some (v4, h3) else none
noncomputable def f_X11_isThing (x0 : Option Nat) (x1 : Int32) (h : zH) : Option (Int32 × zH) :=
  (z_gA h 11 0 x0).bind fun v1 =>
  (z_aI h v1 (65 : Int32)).bind fun v2 =>
  z_b2 (f_X11_in x1 (0 : Int32) (v2 - (1 : Int32)) h) fun v4 h3 =>
  if v4 = 0 ∨ v4 = 1 then some (v4, h3) else none
noncomputable def f_X11_pieces (x0 : Option Nat) (x1 : Int32) (h : zH) : Option (Int32 × zH) :=
  (z_gA h 11 0 x0).bind fun v1 =>
  z_b2 (f_X11_of x1 (0 : Int32) h) fun v3 h2 =>
  (z_aI h2 v1 v3).bind fun v4 =>
  some (v4, h2)
noncomputable def f_X11_isPiece (x0 : Option Nat) (x1 : Int32) (x2 : Int32) (h : zH) : Option (Int32 × zH) :=
  (z_ck h 11 x0).bind fun _ =>
  z_b2 (f_X11_isArm x0 x1 h) fun v3 h2 =>
  if v3 = (0 : Int32) then
    some ((0 : Int32), h2)
  else
    (z_ck h2 11 x0).bind fun _ =>
    z_b2 (f_X11_pieces x0 x1 h2) fun v6 h5 =>
    z_b2 (f_X11_in x2 (0 : Int32) (v6 - (1 : Int32)) h5) fun v8 h7 =>
    if v8 = (0 : Int32) then
      some ((0 : Int32), h7)
    else
      some ((1 : Int32), h7)
noncomputable def f_X11_cell (x0 : Option Nat) (x1 : Int32) (x2 : Int32) (h : zH) : Option (Int32 × zH) :=
  (z_gA h 11 0 x0).bind fun v1 =>
  z_b2 (f_X11_of x1 (5 : Int32) h) fun v3 h2 =>
  (z_aI h2 v1 (v3 + x2)).bind fun v4 =>
  some (v4, h2)
noncomputable def f_X11_hasPiece_c15 (x0 : Option Nat) (x1 : Int32) (x2 : Int32) (x3 : Int32) (h : zH) : Option (((Option Nat) × Int32 × Int32 × Int32 × zH) ⊕ (((Option Nat) × Int32 × Int32 × zH) ⊕ (Int32 × zH))) :=
  (z_ck h 11 x0).bind fun _ =>
  z_b2 (f_X11_pieces x0 x2 h) fun v3 h2 =>
  if v3 ≤ x3 then
    z_i1 (
    some (Sum.inl (x0, x1, x2 + (1 : Int32), h2)))
  else
    (z_ck h2 11 x0).bind fun _ =>
    z_b2 (f_X11_cell x0 x2 x3 h2) fun v6 h5 =>
    if v6 = x1 then
      z_i1 (z_i1 (
      some ((1 : Int32), h5)))
    else
      some (Sum.inl (x0, x1, x2, x3 + (1 : Int32), h5))
noncomputable def f_X11_hasPiece_b15 (x0 : Option Nat) (x1 : Int32) (x2 : Int32) (x3 : Int32) (h : zH) : Option (((Option Nat) × Int32 × Int32 × zH) ⊕ (Int32 × zH)) := z_it (fun s : (Option Nat) × Int32 × Int32 × Int32 × zH => f_X11_hasPiece_c15 s.1 s.2.1 s.2.2.1 s.2.2.2.1 s.2.2.2.2) (x0, x1, x2, x3, h)
noncomputable def f_X11_hasPiece_c2 (x0 : Option Nat) (x1 : Int32) (x2 : Int32) (h : zH) : Option (((Option Nat) × Int32 × Int32 × zH) ⊕ (Int32 × zH)) :=
  (z_gA h 11 0 x0).bind fun v1 =>
  (z_aI h v1 (64 : Int32)).bind fun v2 =>
  if v2 ≤ x2 then
    z_i1 (
    some ((0 : Int32), h))
  else
    f_X11_hasPiece_b15 x0 x1 x2 (0 : Int32) h
noncomputable def f_X11_hasPiece_b2 (x0 : Option Nat) (x1 : Int32) (x2 : Int32) (h : zH) : Option (Int32 × zH) := z_it (fun s : (Option Nat) × Int32 × Int32 × zH => f_X11_hasPiece_c2 s.1 s.2.1 s.2.2.1 s.2.2.2) (x0, x1, x2, h)
noncomputable def f_X11_hasPiece (x0 : Option Nat) (x1 : Int32) (h : zH) : Option (Int32 × zH) :=
  f_X11_hasPiece_b2 x0 x1 (0 : Int32) h
noncomputable def f_X11_lyingAt_b42 (x0 : Option Nat) (x1 : Int32) (x2 : Int32) (h : zH) : Option (((Option Nat) × Int32 × Int32 × zH) ⊕ (Int32 × zH)) :=
  some (Sum.inl (x0, x1, x2 + (1 : Int32), h))
noncomputable def f_X11_lyingAt_c2 (x0 : Option Nat) (x1 : Int32) (x2 : Int32) (h : zH) : Option (((Option Nat) × Int32 × Int32 × zH) ⊕ (Int32 × zH)) :=
  (z_gA h 11 0 x0).bind fun v1 =>
  (z_aI h v1 (65 : Int32)).bind fun v2 =>
  if v2 ≤ x2 then
    z_i1 (
    some ((-4 : Int32), h))
  else
    (z_gA h 11 0 x0).bind fun v3 =>
    z_b2 (f_X11_thingAt x2 h) fun v5 h4 =>
    (z_aI h4 v3 v5).bind fun v6 =>
    if v6 = (0 : Int32) then
      (z_gA h4 11 0 x0).bind fun v7 =>
      z_b2 (f_X11_thingAt x2 h4) fun v9 h8 =>
      (z_aI h8 v7 (v9 + (1 : Int32))).bind fun v10 =>
      if v10 = x1 then
        z_i1 (
        some (x2, h8))
      else
        f_X11_lyingAt_b42 x0 x1 x2 h8
    else
      f_X11_lyingAt_b42 x0 x1 x2 h4
noncomputable def f_X11_lyingAt_b2 (x0 : Option Nat) (x1 : Int32) (x2 : Int32) (h : zH) : Option (Int32 × zH) := z_it (fun s : (Option Nat) × Int32 × Int32 × zH => f_X11_lyingAt_c2 s.1 s.2.1 s.2.2.1 s.2.2.2) (x0, x1, x2, h)
noncomputable def f_X11_lyingAt (x0 : Option Nat) (x1 : Int32) (h : zH) : Option (Int32 × zH) :=
  f_X11_lyingAt_b2 x0 x1 (0 : Int32) h
noncomputable def f_X11_beside_b47 (x2 : Int32) (s0 : Int32) (s1 : Int32) (h : zH) : Option (Int32 × zH) :=
  z_b2 (f_X11_isCell x2 (s0 + s1) h) fun v2 h1 =>
  if v2 = (0 : Int32) then
    some ((-4 : Int32), h1)
  else
    some (((8 : Int32) * (s0 + s1)) + x2, h1)
noncomputable def f_X11_beside_b22 (x0 : Int32) (x1 : Int32) (s0 : Int32) (s1 : Int32) (h : zH) : Option (Int32 × zH) :=
  if x1 = (1 : Int32) then
    f_X11_beside_b47 (s0 + s1) (x0 / (8 : Int32)) (1 : Int32) h
  else
    if x1 = (3 : Int32) then
      f_X11_beside_b47 (s0 + s1) (x0 / (8 : Int32)) (-1 : Int32) h
    else
      f_X11_beside_b47 (s0 + s1) (x0 / (8 : Int32)) (0 : Int32) h
noncomputable def f_X11_beside (x0 : Int32) (x1 : Int32) (h : zH) : Option (Int32 × zH) :=
  if x1 = (0 : Int32) then
    f_X11_beside_b22 x0 x1 (x0 - x0 / (8 : Int32) * (8 : Int32)) (1 : Int32) h
  else
    if x1 = (2 : Int32) then
      f_X11_beside_b22 x0 x1 (x0 - x0 / (8 : Int32) * (8 : Int32)) (-1 : Int32) h
    else
      f_X11_beside_b22 x0 x1 (x0 - x0 / (8 : Int32) * (8 : Int32)) (0 : Int32) h
noncomputable def f_X11_sideTo_c2 (x0 : Int32) (x1 : Int32) (x2 : Int32) (h : zH) : Option ((Int32 × Int32 × Int32 × zH) ⊕ (Int32 × zH)) :=
  if (4 : Int32) ≤ x2 then
    z_i1 (
    some (x2, h))
  else
    z_b2 (f_X11_beside x0 x2 h) fun v2 h1 =>
    if v2 = x1 then
      z_i1 (
      some (x2, h1))
    else
      some (Sum.inl (x0, x1, x2 + (1 : Int32), h1))
noncomputable def f_X11_sideTo_b2 (x0 : Int32) (x1 : Int32) (x2 : Int32) (h : zH) : Option (Int32 × zH) := z_it (fun s : Int32 × Int32 × Int32 × zH => f_X11_sideTo_c2 s.1 s.2.1 s.2.2.1 s.2.2.2) (x0, x1, x2, h)
noncomputable def f_X11_sideTo (x0 : Int32) (x1 : Int32) (h : zH) : Option (Int32 × zH) :=
  f_X11_sideTo_b2 x0 x1 (0 : Int32) h
noncomputable def f_X11_isFree (x0 : Option Nat) (x1 : Int32) (h : zH) : Option (Int32 × zH) :=
  if x1 < (0 : Int32) then
    some ((0 : Int32), h)
  else
    (z_gA h 11 0 x0).bind fun v1 =>
    (z_aI h v1 x1).bind fun v2 =>
    if v2 = (0 : Int32) then
      (z_ck h 11 x0).bind fun _ =>
      z_b2 (f_X11_hasPiece x0 x1 h) fun v5 h4 =>
      if v5 = (0 : Int32) then
        some ((1 : Int32), h4)
      else
        some ((0 : Int32), h4)
    else
      some ((0 : Int32), h)
noncomputable def f_X11_wall_b43 (x0 : Option Nat) (x3 : Int32) (x4 : Int32) (h : zH) : Option (Int32 × zH) :=
  (z_gA h 11 0 x0).bind fun v1 =>
  (z_aI h v1 x4).bind fun v2 =>
  (z_gA h 11 0 x0).bind fun v3 =>
  if x3 = (0 : Int32) then
    (z_sI h v3 x4 (0 : Int32)).bind fun h4 =>
    some (v2, h4)
  else
    (z_sI h v3 x4 (1 : Int32)).bind fun h5 =>
    some (v2, h5)
noncomputable def f_X11_wall (x0 : Option Nat) (x1 : Int32) (x2 : Int32) (x3 : Int32) (h : zH) : Option (Int32 × zH) :=
  z_b2 (f_X11_isCell x1 x2 h) fun v2 h1 =>
  if v2 = (0 : Int32) then
    some ((-1 : Int32), h1)
  else
    if x3 = (0 : Int32) then
      f_X11_wall_b43 x0 x3 (((8 : Int32) * x2) + x1) h1
    else
      (z_ck h1 11 x0).bind fun _ =>
      z_b2 (f_X11_hasPiece x0 (((8 : Int32) * x2) + x1) h1) fun v5 h4 =>
      if v5 = (0 : Int32) then
        (z_ck h4 11 x0).bind fun _ =>
        z_b2 (f_X11_lyingAt x0 (((8 : Int32) * x2) + x1) h4) fun v8 h7 =>
        if v8 < (0 : Int32) then
          f_X11_wall_b43 x0 x3 (((8 : Int32) * x2) + x1) h7
        else
          some ((-2 : Int32), h7)
      else
        some ((-2 : Int32), h4)
noncomputable def f_X11_isSheet (x0 : Int32) (h : zH) : Option (Int32 × zH) :=
  z_b2 (f_X11_in x0 (0 : Int32) (3 : Int32) h) fun v2 h1 =>
  if v2 = 0 ∨ v2 = 1 then some (v2, h1) else none
noncomputable def f_X11_walls_c99 (x0 : Option Nat) (x1 : Int32) (x2 : Int32) (x3 : Int32) (h : zH) : Option (((Option Nat) × Int32 × Int32 × Int32 × zH) ⊕ (Int32 × zH)) :=
  if (64 : Int32) ≤ x3 then
    z_i1 (
    some (x2, h))
  else
    (z_gA h 11 0 x0).bind fun v1 =>
    (z_gA h 11 8 x0).bind fun v2 =>
    (z_aI h v2 (((64 : Int32) * x1) + x3)).bind fun v3 =>
    (z_sI h v1 x3 v3).bind fun h4 =>
    (z_gA h4 11 0 x0).bind fun v5 =>
    (z_aI h4 v5 x3).bind fun v6 =>
    some (Sum.inl (x0, x1, x2 + v6, x3 + (1 : Int32), h4))
noncomputable def f_X11_walls_b99 (x0 : Option Nat) (x1 : Int32) (x2 : Int32) (x3 : Int32) (h : zH) : Option (Int32 × zH) := z_it (fun s : (Option Nat) × Int32 × Int32 × Int32 × zH => f_X11_walls_c99 s.1 s.2.1 s.2.2.1 s.2.2.2.1 s.2.2.2.2) (x0, x1, x2, x3, h)
noncomputable def f_X11_walls_b89 (x0 : Option Nat) (x1 : Int32) (x2 : Int32) (h : zH) : Option (((Option Nat) × Int32 × Int32 × zH) ⊕ (Int32 × zH)) :=
  some (Sum.inl (x0, x1, x2 + (1 : Int32), h))
noncomputable def f_X11_walls_c49 (x0 : Option Nat) (x1 : Int32) (x2 : Int32) (h : zH) : Option (((Option Nat) × Int32 × Int32 × zH) ⊕ (Int32 × zH)) :=
  if (64 : Int32) ≤ x2 then
    z_i1 (
    f_X11_walls_b99 x0 x1 (0 : Int32) (0 : Int32) h)
  else
    (z_gA h 11 8 x0).bind fun v1 =>
    (z_aI h v1 (((64 : Int32) * x1) + x2)).bind fun v2 =>
    if v2 = (1 : Int32) then
      (z_ck h 11 x0).bind fun _ =>
      z_b2 (f_X11_hasPiece x0 x2 h) fun v5 h4 =>
      if v5 = (0 : Int32) then
        (z_ck h4 11 x0).bind fun _ =>
        z_b2 (f_X11_lyingAt x0 x2 h4) fun v8 h7 =>
        if v8 < (0 : Int32) then
          f_X11_walls_b89 x0 x1 x2 h7
        else
          z_i1 (
          some ((-2 : Int32), h7))
      else
        z_i1 (
        some ((-2 : Int32), h4))
    else
      f_X11_walls_b89 x0 x1 x2 h
noncomputable def f_X11_walls_b49 (x0 : Option Nat) (x1 : Int32) (x2 : Int32) (h : zH) : Option (Int32 × zH) := z_it (fun s : (Option Nat) × Int32 × Int32 × zH => f_X11_walls_c49 s.1 s.2.1 s.2.2.1 s.2.2.2) (x0, x1, x2, h)
noncomputable def f_X11_walls (x0 : Option Nat) (x1 : Int32) (h : zH) : Option (Int32 × zH) :=
  z_b2 (f_X11_isSheet x1 h) fun v2 h1 =>
  if v2 = (0 : Int32) then
    some ((-1 : Int32), h1)
  else
    (z_gA h1 11 6 x0).bind fun v3 =>
    (z_aI h1 v3 x1).bind fun v4 =>
    if (0 : Int32) ≤ v4 then
      (z_gA h1 11 6 x0).bind fun v5 =>
      (z_aI h1 v5 x1).bind fun v6 =>
      if v6 = (0 : Int32) then
        (z_gA h1 11 7 x0).bind fun v7 =>
        (z_aI h1 v7 x1).bind fun v8 =>
        if (64 : Int32) ≤ v8 then
          f_X11_walls_b49 x0 x1 (0 : Int32) h1
        else
          some ((-13 : Int32), h1)
      else
        some ((-12 : Int32), h1)
    else
      some ((-11 : Int32), h1)
noncomputable def f_X11_power (x0 : Int32) (h : zH) : Option (Int32 × zH) :=
  some ((1 : Int32) <<< (((2 : Int32) * x0) &&& 31), h)
noncomputable def f_X11_arm_b265 (x0 : Option Nat) (x3 : Int32) (x6 : Int32) (x7 : Int32) (s0 : Option Nat) (s1 : Int32) (s2 : Int32) (h : zH) : Option (((Option Nat) × Int32 × Int32 × Int32 × zH) ⊕ (Int32 × zH)) :=
  (z_sI h s0 s1 s2).bind fun h1 =>
  (z_gA h1 11 0 x0).bind fun v2 =>
  z_b2 (f_X11_of x6 (19 : Int32) h1) fun v4 h3 =>
  (z_sI h3 v2 (v4 + x7) (-4 : Int32)).bind fun h5 =>
  some (Sum.inl (x0, x3, x6, x7 + (1 : Int32), h5))
noncomputable def f_X11_arm_c228 (x0 : Option Nat) (x3 : Int32) (x6 : Int32) (x7 : Int32) (h : zH) : Option (((Option Nat) × Int32 × Int32 × Int32 × zH) ⊕ (Int32 × zH)) :=
  if (7 : Int32) ≤ x7 then
    z_i1 (
    (z_gA h 11 0 x0).bind fun v1 =>
    (z_aI h v1 (64 : Int32)).bind fun v2 =>
    (z_sI h v1 (64 : Int32) (v2 + (1 : Int32))).bind fun h3 =>
    some (x6, h3))
  else
    (z_gA h 11 0 x0).bind fun v4 =>
    z_b2 (f_X11_of x6 (5 : Int32) h) fun v6 h5 =>
    if x3 ≤ x7 then
      f_X11_arm_b265 x0 x3 x6 x7 v4 (v6 + x7) (0 : Int32) h5
    else
      (z_gA h5 11 9 x0).bind fun v7 =>
      (z_aI h5 v7 x7).bind fun v8 =>
      f_X11_arm_b265 x0 x3 x6 x7 v4 (v6 + x7) v8 h5
noncomputable def f_X11_arm_b228 (x0 : Option Nat) (x3 : Int32) (x6 : Int32) (x7 : Int32) (h : zH) : Option (Int32 × zH) := z_it (fun s : (Option Nat) × Int32 × Int32 × Int32 × zH => f_X11_arm_c228 s.1 s.2.1 s.2.2.1 s.2.2.2.1 s.2.2.2.2) (x0, x3, x6, x7, h)
noncomputable def f_X11_arm_c174 (x0 : Option Nat) (x3 : Int32) (x6 : Int32) (x7 : Int32) (h : zH) : Option (((Option Nat) × Int32 × Int32 × Int32 × zH) ⊕ (Int32 × zH)) :=
  if (40 : Int32) ≤ x7 then
    z_i1 (
    (z_gA h 11 0 x0).bind fun v1 =>
    z_b2 (f_X11_of x6 (0 : Int32) h) fun v3 h2 =>
    (z_sI h2 v1 v3 x3).bind fun h4 =>
    (z_gA h4 11 0 x0).bind fun v5 =>
    z_b2 (f_X11_of x6 (1 : Int32) h4) fun v7 h6 =>
    (z_sI h6 v5 v7 (-4 : Int32)).bind fun h8 =>
    f_X11_arm_b228 x0 x3 x6 (0 : Int32) h8)
  else
    (z_gA h 11 0 x0).bind fun v9 =>
    z_b2 (f_X11_of x6 x7 h) fun v11 h10 =>
    (z_sI h10 v9 v11 (0 : Int32)).bind fun h12 =>
    some (Sum.inl (x0, x3, x6, x7 + (1 : Int32), h12))
noncomputable def f_X11_arm_b174 (x0 : Option Nat) (x3 : Int32) (x6 : Int32) (x7 : Int32) (h : zH) : Option (Int32 × zH) := z_it (fun s : (Option Nat) × Int32 × Int32 × Int32 × zH => f_X11_arm_c174 s.1 s.2.1 s.2.2.1 s.2.2.2.1 s.2.2.2.2) (x0, x3, x6, x7, h)
noncomputable def f_X11_arm_b130 (x0 : Option Nat) (x3 : Int32) (x4 : Int32) (x5 : Int32) (x6 : Int32) (x7 : Int32) (h : zH) : Option (((Option Nat) × Int32 × Int32 × Int32 × Int32 × zH) ⊕ (Int32 × zH)) :=
  if x7 = (0 : Int32) then
    z_i1 (
    some ((-2 : Int32), h))
  else
    (z_gA h 11 9 x0).bind fun v1 =>
    (z_sI h v1 x6 x5).bind fun h2 =>
    some (Sum.inl (x0, x3, x4, x5, x6 + (1 : Int32), h2))
noncomputable def f_X11_arm_b122 (x0 : Option Nat) (x3 : Int32) (x4 : Int32) (x5 : Int32) (x6 : Int32) (x8 : Int32) (s0 : Int32) (h : zH) : Option (((Option Nat) × Int32 × Int32 × Int32 × Int32 × Int32 × Int32 × zH) ⊕ (((Option Nat) × Int32 × Int32 × Int32 × Int32 × zH) ⊕ (Int32 × zH))) :=
  some (Sum.inl (x0, x3, x4, x5, x6, s0, x8 + (1 : Int32), h))
noncomputable def f_X11_arm_c93 (x0 : Option Nat) (x3 : Int32) (x4 : Int32) (x5 : Int32) (x6 : Int32) (x7 : Int32) (x8 : Int32) (h : zH) : Option (((Option Nat) × Int32 × Int32 × Int32 × Int32 × Int32 × Int32 × zH) ⊕ (((Option Nat) × Int32 × Int32 × Int32 × Int32 × zH) ⊕ (Int32 × zH))) :=
  if x6 ≤ x8 then
    z_i1 (f_X11_arm_b130 x0 x3 x4 x5 x6 x7 h)
  else
    if x7 = (0 : Int32) then
      z_i1 (f_X11_arm_b130 x0 x3 x4 x5 x6 x7 h)
    else
      (z_gA h 11 9 x0).bind fun v1 =>
      (z_aI h v1 x8).bind fun v2 =>
      if v2 = x5 then
        f_X11_arm_b122 x0 x3 x4 x5 x6 x8 (0 : Int32) h
      else
        f_X11_arm_b122 x0 x3 x4 x5 x6 x8 (1 : Int32) h
noncomputable def f_X11_arm_b93 (x0 : Option Nat) (x3 : Int32) (x4 : Int32) (x5 : Int32) (x6 : Int32) (x7 : Int32) (x8 : Int32) (h : zH) : Option (((Option Nat) × Int32 × Int32 × Int32 × Int32 × zH) ⊕ (Int32 × zH)) := z_it (fun s : (Option Nat) × Int32 × Int32 × Int32 × Int32 × Int32 × Int32 × zH => f_X11_arm_c93 s.1 s.2.1 s.2.2.1 s.2.2.2.1 s.2.2.2.2.1 s.2.2.2.2.2.1 s.2.2.2.2.2.2.1 s.2.2.2.2.2.2.2) (x0, x3, x4, x5, x6, x7, x8, h)
noncomputable def f_X11_arm_b80 (x0 : Option Nat) (x3 : Int32) (x4 : Int32) (x6 : Int32) (s0 : Int32) (h : zH) : Option (((Option Nat) × Int32 × Int32 × Int32 × Int32 × zH) ⊕ (Int32 × zH)) :=
  (z_ck h 11 x0).bind fun _ =>
  z_b2 (f_X11_isFree x0 s0 h) fun v3 h2 =>
  f_X11_arm_b93 x0 x3 x4 s0 x6 v3 (0 : Int32) h2
noncomputable def f_X11_arm_c48 (x0 : Option Nat) (x3 : Int32) (x4 : Int32) (x5 : Int32) (x6 : Int32) (h : zH) : Option (((Option Nat) × Int32 × Int32 × Int32 × Int32 × zH) ⊕ (Int32 × zH)) :=
  if x3 ≤ x6 then
    z_i1 (
    (z_gA h 11 0 x0).bind fun v1 =>
    (z_aI h v1 (64 : Int32)).bind fun v2 =>
    if v2 = (3 : Int32) then
      some ((-3 : Int32), h)
    else
      f_X11_arm_b174 x0 x3 v2 (0 : Int32) h)
  else
    if x6 = (0 : Int32) then
      f_X11_arm_b80 x0 x3 x4 x6 x5 h
    else
      z_b2 (f_X11_beside x5 ((x4 >>> (((2 : Int32) * (x6 - (1 : Int32))) &&& 31)) &&& (3 : Int32)) h) fun v4 h3 =>
      f_X11_arm_b80 x0 x3 x4 x6 v4 h3
noncomputable def f_X11_arm_b48 (x0 : Option Nat) (x3 : Int32) (x4 : Int32) (x5 : Int32) (x6 : Int32) (h : zH) : Option (Int32 × zH) := z_it (fun s : (Option Nat) × Int32 × Int32 × Int32 × Int32 × zH => f_X11_arm_c48 s.1 s.2.1 s.2.2.1 s.2.2.2.1 s.2.2.2.2.1 s.2.2.2.2.2) (x0, x3, x4, x5, x6, h)
noncomputable def f_X11_arm (x0 : Option Nat) (x1 : Int32) (x2 : Int32) (x3 : Int32) (x4 : Int32) (h : zH) : Option (Int32 × zH) :=
  z_b2 (f_X11_isCell x1 x2 h) fun v2 h1 =>
  if v2 = (0 : Int32) then
    some ((-1 : Int32), h1)
  else
    z_b2 (f_X11_in x3 (2 : Int32) (7 : Int32) h1) fun v4 h3 =>
    if v4 = (0 : Int32) then
      some ((-1 : Int32), h3)
    else
      z_b2 (f_X11_power (x3 - (1 : Int32)) h3) fun v6 h5 =>
      z_b2 (f_X11_in x4 (0 : Int32) (v6 - (1 : Int32)) h5) fun v8 h7 =>
      if v8 = (0 : Int32) then
        some ((-1 : Int32), h7)
      else
        f_X11_arm_b48 x0 x3 x4 (((8 : Int32) * x2) + x1) (0 : Int32) h7
noncomputable def f_X11_thing (x0 : Option Nat) (x1 : Int32) (x2 : Int32) (x3 : Int32) (h : zH) : Option (Int32 × zH) :=
  z_b2 (f_X11_isCell x1 x2 h) fun v2 h1 =>
  if v2 = (0 : Int32) then
    some ((-1 : Int32), h1)
  else
    z_b2 (f_X11_in x3 (0 : Int32) (3 : Int32) h1) fun v4 h3 =>
    if v4 = (0 : Int32) then
      some ((-1 : Int32), h3)
    else
      (z_gA h3 11 0 x0).bind fun v5 =>
      (z_aI h3 v5 (((8 : Int32) * x2) + x1)).bind fun v6 =>
      if v6 = (1 : Int32) then
        some ((-2 : Int32), h3)
      else
        (z_ck h3 11 x0).bind fun _ =>
        z_b2 (f_X11_lyingAt x0 (((8 : Int32) * x2) + x1) h3) fun v9 h8 =>
        if v9 < (0 : Int32) then
          (z_gA h8 11 0 x0).bind fun v10 =>
          (z_aI h8 v10 (65 : Int32)).bind fun v11 =>
          if v11 = (8 : Int32) then
            some ((-3 : Int32), h8)
          else
            (z_gA h8 11 0 x0).bind fun v12 =>
            z_b2 (f_X11_thingAt v11 h8) fun v14 h13 =>
            (z_sI h13 v12 v14 (0 : Int32)).bind fun h15 =>
            (z_gA h15 11 0 x0).bind fun v16 =>
            z_b2 (f_X11_thingAt v11 h15) fun v18 h17 =>
            (z_sI h17 v16 (v18 + (1 : Int32)) (((8 : Int32) * x2) + x1)).bind fun h19 =>
            (z_gA h19 11 0 x0).bind fun v20 =>
            z_b2 (f_X11_thingAt v11 h19) fun v22 h21 =>
            (z_sI h21 v20 (v22 + (2 : Int32)) x3).bind fun h23 =>
            (z_gA h23 11 0 x0).bind fun v24 =>
            z_b2 (f_X11_thingAt v11 h23) fun v26 h25 =>
            (z_sI h25 v24 (v26 + (3 : Int32)) (-4 : Int32)).bind fun h27 =>
            (z_gA h27 11 0 x0).bind fun v28 =>
            (z_aI h27 v28 (65 : Int32)).bind fun v29 =>
            (z_sI h27 v28 (65 : Int32) (v29 + (1 : Int32))).bind fun h30 =>
            some (v11, h30)
        else
          some ((-2 : Int32), h8)
noncomputable def f_X11_cutOf (x0 : Option Nat) (x1 : Int32) (h : zH) : Option (Int32 × zH) :=
  (z_gA h 11 0 x0).bind fun v1 =>
  z_b2 (f_X11_of x1 (1 : Int32) h) fun v3 h2 =>
  (z_aI h2 v1 v3).bind fun v4 =>
  some (v4, h2)
noncomputable def f_X11_isTip (x0 : Option Nat) (x1 : Int32) (x2 : Int32) (h : zH) : Option (Int32 × zH) :=
  (z_ck h 11 x0).bind fun _ =>
  z_b2 (f_X11_pieces x0 x1 h) fun v3 h2 =>
  if x2 = (v3 - (1 : Int32)) then
    some ((1 : Int32), h2)
  else
    (z_ck h2 11 x0).bind fun _ =>
    z_b2 (f_X11_cutOf x0 x1 h2) fun v6 h5 =>
    if v6 = (x2 + (1 : Int32)) then
      some ((1 : Int32), h5)
    else
      some ((0 : Int32), h5)
noncomputable def f_X11_piece (x0 : Option Nat) (x1 : Int32) (x2 : Int32) (x3 : Int32) (h : zH) : Option (Int32 × zH) :=
  (z_ck h 11 x0).bind fun _ =>
  z_b2 (f_X11_isPiece x0 x1 x2 h) fun v3 h2 =>
  if v3 = (0 : Int32) then
    some ((-1 : Int32), h2)
  else
    if x3 = (0 : Int32) then
      (z_ck h2 11 x0).bind fun _ =>
      z_b2 (f_X11_cell x0 x1 x2 h2) fun v6 h5 =>
      some (v6, h5)
    else
    if x3 = (1 : Int32) then
      (z_gA h2 11 0 x0).bind fun v7 =>
      z_b2 (f_X11_of x1 (12 : Int32) h2) fun v9 h8 =>
      (z_aI h8 v7 (v9 + x2)).bind fun v10 =>
      some (v10, h8)
    else
    if x3 = (2 : Int32) then
      (z_gA h2 11 0 x0).bind fun v11 =>
      z_b2 (f_X11_of x1 (19 : Int32) h2) fun v13 h12 =>
      (z_aI h12 v11 (v13 + x2)).bind fun v14 =>
      some (v14, h12)
    else
    if x3 = (3 : Int32) then
      (z_gA h2 11 0 x0).bind fun v15 =>
      z_b2 (f_X11_of x1 (26 : Int32) h2) fun v17 h16 =>
      (z_aI h16 v15 (v17 + x2)).bind fun v18 =>
      some (v18, h16)
    else
    if x3 = (4 : Int32) then
      (z_ck h2 11 x0).bind fun _ =>
      z_b2 (f_X11_cutOf x0 x1 h2) fun v21 h20 =>
      if v21 < (0 : Int32) then
        some ((0 : Int32), h20)
      else
        (z_ck h20 11 x0).bind fun _ =>
        z_b2 (f_X11_cutOf x0 x1 h20) fun v24 h23 =>
        if x2 < v24 then
          some ((0 : Int32), h23)
        else
          some ((1 : Int32), h23)
    else
    if x3 = (5 : Int32) then
      (z_ck h2 11 x0).bind fun _ =>
      z_b2 (f_X11_isTip x0 x1 x2 h2) fun v27 h26 =>
      if v27 = (0 : Int32) then
        some ((0 : Int32), h26)
      else
        some ((1 : Int32), h26)
    else
      some ((-1 : Int32), h2)
noncomputable def f_X11_told (x0 : Option Nat) (x1 : Int32) (x2 : Int32) (h : zH) : Option (Int32 × zH) :=
  (z_ck h 11 x0).bind fun _ =>
  z_b2 (f_X11_isThing x0 x1 h) fun v3 h2 =>
  if v3 = (0 : Int32) then
    some ((-1 : Int32), h2)
  else
    z_b2 (f_X11_in x2 (0 : Int32) (3 : Int32) h2) fun v5 h4 =>
    if v5 = (0 : Int32) then
      some ((-1 : Int32), h4)
    else
      (z_gA h4 11 0 x0).bind fun v6 =>
      z_b2 (f_X11_thingAt x1 h4) fun v8 h7 =>
      (z_aI h7 v6 v8).bind fun v9 =>
      (z_gA h7 11 0 x0).bind fun v10 =>
      z_b2 (f_X11_thingAt x1 h7) fun v12 h11 =>
      (z_aI h11 v10 (v12 + (3 : Int32))).bind fun v13 =>
      if x2 = (1 : Int32) then
        if v9 = (0 : Int32) then
          (z_gA h11 11 0 x0).bind fun v21 =>
          z_b2 (f_X11_thingAt x1 h11) fun v23 h22 =>
          (z_aI h22 v21 (v23 + (1 : Int32))).bind fun v24 =>
          some (v24, h22)
        else
          if v9 = (1 : Int32) then
            (z_ck h11 11 x0).bind fun _ =>
            z_b2 (f_X11_cell x0 (v13 / (10 : Int32)) (v13 - v13 / (10 : Int32) * (10 : Int32)) h11) fun v20 h19 =>
            some (v20, h19)
          else
            some ((-4 : Int32), h11)
      else
        if x2 = (0 : Int32) then
          some (v9, h11)
        else
          if x2 = (2 : Int32) then
            (z_gA h11 11 0 x0).bind fun v14 =>
            z_b2 (f_X11_thingAt x1 h11) fun v16 h15 =>
            (z_aI h15 v14 (v16 + (2 : Int32))).bind fun v17 =>
            some (v17, h15)
          else
            some (v13, h11)
noncomputable def f_X11_formOf_c4 (x0 : Option Nat) (x1 : Int32) (x2 : Int32) (x3 : Int32) (h : zH) : Option (((Option Nat) × Int32 × Int32 × Int32 × zH) ⊕ (Int32 × zH)) :=
  (z_ck h 11 x0).bind fun _ =>
  z_b2 (f_X11_pieces x0 x1 h) fun v3 h2 =>
  if v3 ≤ x3 then
    z_i1 (
    some (x2, h2))
  else
    (z_ck h2 11 x0).bind fun _ =>
    z_b2 (f_X11_cell x0 x1 (x3 - (1 : Int32)) h2) fun v6 h5 =>
    (z_ck h5 11 x0).bind fun _ =>
    z_b2 (f_X11_cell x0 x1 x3 h5) fun v9 h8 =>
    z_b2 (f_X11_sideTo v6 v9 h8) fun v11 h10 =>
    some (Sum.inl (x0, x1, x2 ||| (v11 <<< (((2 : Int32) * (x3 - (1 : Int32))) &&& 31)), x3 + (1 : Int32), h10))
noncomputable def f_X11_formOf_b4 (x0 : Option Nat) (x1 : Int32) (x2 : Int32) (x3 : Int32) (h : zH) : Option (Int32 × zH) := z_it (fun s : (Option Nat) × Int32 × Int32 × Int32 × zH => f_X11_formOf_c4 s.1 s.2.1 s.2.2.1 s.2.2.2.1 s.2.2.2.2) (x0, x1, x2, x3, h)
noncomputable def f_X11_formOf (x0 : Option Nat) (x1 : Int32) (h : zH) : Option (Int32 × zH) :=
  f_X11_formOf_b4 x0 x1 (0 : Int32) (1 : Int32) h
noncomputable def f_X11_form (x0 : Option Nat) (x1 : Int32) (h : zH) : Option (Int32 × zH) :=
  (z_ck h 11 x0).bind fun _ =>
  z_b2 (f_X11_isArm x0 x1 h) fun v3 h2 =>
  if v3 = (0 : Int32) then
    some ((-1 : Int32), h2)
  else
    (z_ck h2 11 x0).bind fun _ =>
    z_b2 (f_X11_cutOf x0 x1 h2) fun v6 h5 =>
    if v6 < (0 : Int32) then
      (z_ck h5 11 x0).bind fun _ =>
      z_b2 (f_X11_formOf x0 x1 h5) fun v9 h8 =>
      some (v9, h8)
    else
      some ((-2 : Int32), h5)
noncomputable def f_X11_flipped_b108 (x0 : Option Nat) (s0 : Int32) (h : zH) : Option (Int32 × zH) :=
  (z_ck h 11 x0).bind fun _ =>
  z_b2 (f_X11_isFree x0 s0 h) fun v3 h2 =>
  if v3 = (0 : Int32) then
    some ((-4 : Int32), h2)
  else
    some (s0, h2)
noncomputable def f_X11_flipped (x0 : Option Nat) (x1 : Int32) (x2 : Int32) (h : zH) : Option (Int32 × zH) :=
  (z_ck h 11 x0).bind fun _ =>
  z_b2 (f_X11_cell x0 x1 (x2 - (1 : Int32)) h) fun v3 h2 =>
  (z_ck h2 11 x0).bind fun _ =>
  z_b2 (f_X11_cell x0 x1 (x2 + (1 : Int32)) h2) fun v6 h5 =>
  if (((v3 - v3 / (8 : Int32) * (8 : Int32)) - (v6 - v6 / (8 : Int32) * (8 : Int32))) * ((v3 - v3 / (8 : Int32) * (8 : Int32)) - (v6 - v6 / (8 : Int32) * (8 : Int32)))) = (1 : Int32) then
    if (((v3 / (8 : Int32)) - (v6 / (8 : Int32))) * ((v3 / (8 : Int32)) - (v6 / (8 : Int32)))) = (1 : Int32) then
      (z_ck h5 11 x0).bind fun _ =>
      z_b2 (f_X11_cell x0 x1 x2 h5) fun v9 h8 =>
      if (((8 : Int32) * (v3 / (8 : Int32))) + (v6 - v6 / (8 : Int32) * (8 : Int32))) = v9 then
        f_X11_flipped_b108 x0 (((8 : Int32) * (v6 / (8 : Int32))) + (v3 - v3 / (8 : Int32) * (8 : Int32))) h8
      else
        f_X11_flipped_b108 x0 (((8 : Int32) * (v3 / (8 : Int32))) + (v6 - v6 / (8 : Int32) * (8 : Int32))) h8
    else
      some ((-4 : Int32), h5)
  else
    some ((-4 : Int32), h5)
noncomputable def f_X11_goesTo_c49 (x0 : Option Nat) (x3 : Int32) (x4 : Int32) (x5 : Int32) (h : zH) : Option (((Option Nat) × Int32 × Int32 × Int32 × zH) ⊕ (Int32 × zH)) :=
  if (4 : Int32) ≤ x5 then
    z_i1 (
    some ((-4 : Int32), h))
  else
    z_b2 (f_X11_beside x3 ((x4 + x5) - (x4 + x5) / (4 : Int32) * (4 : Int32)) h) fun v2 h1 =>
    (z_ck h1 11 x0).bind fun _ =>
    z_b2 (f_X11_isFree x0 v2 h1) fun v5 h4 =>
    if v5 = (0 : Int32) then
      some (Sum.inl (x0, x3, x4, x5 + (1 : Int32), h4))
    else
      z_i1 (
      some (v2, h4))
noncomputable def f_X11_goesTo_b49 (x0 : Option Nat) (x3 : Int32) (x4 : Int32) (x5 : Int32) (h : zH) : Option (Int32 × zH) := z_it (fun s : (Option Nat) × Int32 × Int32 × Int32 × zH => f_X11_goesTo_c49 s.1 s.2.1 s.2.2.1 s.2.2.2.1 s.2.2.2.2) (x0, x3, x4, x5, h)
noncomputable def f_X11_goesTo (x0 : Option Nat) (x1 : Int32) (x2 : Int32) (h : zH) : Option (Int32 × zH) :=
  if x2 = (0 : Int32) then
    some ((-4 : Int32), h)
  else
    (z_ck h 11 x0).bind fun _ =>
    z_b2 (f_X11_cutOf x0 x1 h) fun v3 h2 =>
    if x2 = v3 then
      some ((-4 : Int32), h2)
    else
      (z_ck h2 11 x0).bind fun _ =>
      z_b2 (f_X11_cell x0 x1 (x2 - (1 : Int32)) h2) fun v6 h5 =>
      (z_ck h5 11 x0).bind fun _ =>
      z_b2 (f_X11_isTip x0 x1 x2 h5) fun v9 h8 =>
      if v9 = (0 : Int32) then
        (z_ck h8 11 x0).bind fun _ =>
        z_b2 (f_X11_flipped x0 x1 x2 h8) fun v12 h11 =>
        some (v12, h11)
      else
        (z_ck h8 11 x0).bind fun _ =>
        z_b2 (f_X11_cell x0 x1 x2 h8) fun v15 h14 =>
        z_b2 (f_X11_sideTo v6 v15 h14) fun v17 h16 =>
        f_X11_goesTo_b49 x0 v6 v17 (1 : Int32) h16
noncomputable def f_X11_flip (x0 : Option Nat) (x1 : Int32) (x2 : Int32) (h : zH) : Option (Int32 × zH) :=
  (z_ck h 11 x0).bind fun _ =>
  z_b2 (f_X11_isPiece x0 x1 x2 h) fun v3 h2 =>
  if v3 = (0 : Int32) then
    some ((-1 : Int32), h2)
  else
    if x2 = (0 : Int32) then
      some ((-1 : Int32), h2)
    else
      (z_ck h2 11 x0).bind fun _ =>
      z_b2 (f_X11_cutOf x0 x1 h2) fun v6 h5 =>
      if x2 = v6 then
        some ((-1 : Int32), h5)
      else
        (z_ck h5 11 x0).bind fun _ =>
        z_b2 (f_X11_goesTo x0 x1 x2 h5) fun v9 h8 =>
        if (0 : Int32) ≤ v9 then
          (z_gA h8 11 0 x0).bind fun v10 =>
          z_b2 (f_X11_of x1 (5 : Int32) h8) fun v12 h11 =>
          (z_sI h11 v10 (v12 + x2) v9).bind fun h13 =>
          some (v9, h13)
        else
          some ((-2 : Int32), h8)
noncomputable def f_X11_type_c70 (x0 : Option Nat) (x1 : Int64) (x4 : Int32) (h : zH) : Option (((Option Nat) × Int64 × Int32 × zH) ⊕ (Int32 × zH)) :=
  if x4 < (0 : Int32) then
    z_i1 (
    (z_gI h 11 4 x0).bind fun v1 =>
    some (v1, h))
  else
    (z_gA h 11 5 x0).bind fun v2 =>
    (z_gI h 11 4 x0).bind fun v3 =>
    (z_sI h v2 v3 (Int64.toInt32 ((x1 >>> (Int32.toInt64 ((8 : Int32) * x4) &&& 63)) &&& (255 : Int64)))).bind fun h4 =>
    (z_gI h4 11 4 x0).bind fun v5 =>
    (z_pF h4 11 4 x0 (tI (v5 + (1 : Int32)))).bind fun h6 =>
    some (Sum.inl (x0, x1, x4 + (-1 : Int32), h6))
noncomputable def f_X11_type_b70 (x0 : Option Nat) (x1 : Int64) (x4 : Int32) (h : zH) : Option (Int32 × zH) := z_it (fun s : (Option Nat) × Int64 × Int32 × zH => f_X11_type_c70 s.1 s.2.1 s.2.2.1 s.2.2.2) (x0, x1, x4, h)
noncomputable def f_X11_type_c15 (x0 : Option Nat) (x1 : Int64) (x3 : Int32) (x4 : Int32) (h : zH) : Option (((Option Nat) × Int64 × Int32 × Int32 × zH) ⊕ (Int32 × zH)) :=
  if x3 ≤ x4 then
    z_i1 (
    (z_gI h 11 4 x0).bind fun v1 =>
    if (v1 + x3) ≤ (100 : Int32) then
      f_X11_type_b70 x0 x1 (x3 - (1 : Int32)) h
    else
      some ((-3 : Int32), h))
  else
    z_b2 (f_X11_in (Int64.toInt32 ((x1 >>> (Int32.toInt64 ((8 : Int32) * x4) &&& 63)) &&& (255 : Int64))) (32 : Int32) (126 : Int32) h) fun v3 h2 =>
    if v3 = (0 : Int32) then
      z_i1 (
      some ((-1 : Int32), h2))
    else
      some (Sum.inl (x0, x1, x3, x4 + (1 : Int32), h2))
noncomputable def f_X11_type_b15 (x0 : Option Nat) (x1 : Int64) (x3 : Int32) (x4 : Int32) (h : zH) : Option (Int32 × zH) := z_it (fun s : (Option Nat) × Int64 × Int32 × Int32 × zH => f_X11_type_c15 s.1 s.2.1 s.2.2.1 s.2.2.2.1 s.2.2.2.2) (x0, x1, x3, x4, h)
noncomputable def f_X11_type (x0 : Option Nat) (x1 : Int64) (x3 : Int32) (h : zH) : Option (Int32 × zH) :=
  z_b2 (f_X11_in x3 (1 : Int32) (8 : Int32) h) fun v2 h1 =>
  if v2 = (0 : Int32) then
    some ((-1 : Int32), h1)
  else
    f_X11_type_b15 x0 x1 x3 (0 : Int32) h1
noncomputable def f_X11_faultOf_b397 (x0 : Option Nat) (x2 : Int32) (x3 : Int32) (x4 : Int32) (x6 : Int32) (h : zH) : Option (((Option Nat) × Int32 × Int32 × Int32 × Int32 × zH) ⊕ (Int32 × zH)) :=
  if (0 : Int32) ≤ x6 then
    some (Sum.inl (x0, x6, x2, x3, x4 + (1 : Int32), h))
  else
    z_i1 (
    some (x4, h))
noncomputable def f_X11_faultOf_b205 (x0 : Option Nat) (x2 : Int32) (x3 : Int32) (x4 : Int32) (s0 : Int32) (h : zH) : Option (((Option Nat) × Int32 × Int32 × Int32 × Int32 × zH) ⊕ (Int32 × zH)) :=
  f_X11_faultOf_b397 x0 x2 x3 x4 s0 h
noncomputable def f_X11_faultOf_b178 (x0 : Option Nat) (x1 : Int32) (x2 : Int32) (x3 : Int32) (x4 : Int32) (x5 : Int32) (h : zH) : Option (((Option Nat) × Int32 × Int32 × Int32 × Int32 × zH) ⊕ (Int32 × zH)) :=
  z_b2 (f_X11_in x5 (48 : Int32) (51 : Int32) h) fun v2 h1 =>
  if v2 = (0 : Int32) then
    f_X11_faultOf_b205 x0 x2 x3 x4 (-4 : Int32) h1
  else
    if x1 = (2 : Int32) then
      f_X11_faultOf_b205 x0 x2 x3 x4 (3 : Int32) h1
    else
      f_X11_faultOf_b205 x0 x2 x3 x4 (5 : Int32) h1
noncomputable def f_X11_faultOf_b392 (x0 : Option Nat) (x2 : Int32) (x3 : Int32) (x4 : Int32) (s0 : Int32) (h : zH) : Option (((Option Nat) × Int32 × Int32 × Int32 × Int32 × zH) ⊕ (Int32 × zH)) :=
  f_X11_faultOf_b397 x0 x2 (x3 + (1 : Int32)) x4 s0 h
noncomputable def f_X11_faultOf_b367 (x0 : Option Nat) (x2 : Int32) (x3 : Int32) (x4 : Int32) (h : zH) : Option (((Option Nat) × Int32 × Int32 × Int32 × Int32 × zH) ⊕ (Int32 × zH)) :=
  f_X11_faultOf_b392 x0 x2 x3 x4 (5 : Int32) h
noncomputable def f_X11_faultOf_b385 (x0 : Option Nat) (x2 : Int32) (x3 : Int32) (x4 : Int32) (h : zH) : Option (((Option Nat) × Int32 × Int32 × Int32 × Int32 × zH) ⊕ (Int32 × zH)) :=
  f_X11_faultOf_b392 x0 x2 x3 x4 (6 : Int32) h
noncomputable def f_X11_faultOf_b334 (x0 : Option Nat) (x2 : Int32) (x3 : Int32) (x4 : Int32) (x5 : Int32) (x6 : Int32) (h : zH) : Option (((Option Nat) × Int32 × Int32 × Int32 × Int32 × zH) ⊕ (Int32 × zH)) :=
  if (4 : Int32) ≤ x3 then
    f_X11_faultOf_b397 x0 x2 x3 x4 x6 h
  else
    if x5 = (102 : Int32) then
      f_X11_faultOf_b367 x0 x2 x3 x4 h
    else
      if x5 = (103 : Int32) then
        f_X11_faultOf_b367 x0 x2 x3 x4 h
      else
        if x5 = (112 : Int32) then
          f_X11_faultOf_b367 x0 x2 x3 x4 h
        else
          if x5 = (100 : Int32) then
            f_X11_faultOf_b367 x0 x2 x3 x4 h
          else
            if x5 = (115 : Int32) then
              f_X11_faultOf_b385 x0 x2 x3 x4 h
            else
              if x5 = (111 : Int32) then
                f_X11_faultOf_b385 x0 x2 x3 x4 h
              else
                f_X11_faultOf_b392 x0 x2 x3 x4 (-4 : Int32) h
noncomputable def f_X11_faultOf_b290 (x0 : Option Nat) (x4 : Int32) (x6 : Int32) (s0 : Int32) (s1 : Int32) (h : zH) : Option (((Option Nat) × Int32 × Int32 × Int32 × Int32 × zH) ⊕ (Int32 × zH)) :=
  f_X11_faultOf_b397 x0 (s0 - s1) (0 : Int32) x4 x6 h
noncomputable def f_X11_faultOf_b277 (x0 : Option Nat) (x2 : Int32) (x4 : Int32) (x7 : Int32) (s0 : Int32) (h : zH) : Option (((Option Nat) × Int32 × Int32 × Int32 × Int32 × zH) ⊕ (Int32 × zH)) :=
  if x7 = (0 : Int32) then
    f_X11_faultOf_b290 x0 x4 s0 x2 (0 : Int32) h
  else
    f_X11_faultOf_b290 x0 x4 s0 x2 (1 : Int32) h
noncomputable def f_X11_faultOf_b247 (x0 : Option Nat) (x2 : Int32) (x4 : Int32) (x7 : Int32) (h : zH) : Option (((Option Nat) × Int32 × Int32 × Int32 × Int32 × zH) ⊕ (Int32 × zH)) :=
  f_X11_faultOf_b277 x0 x2 x4 x7 (0 : Int32) h
noncomputable def f_X11_faultOf_b275 (x0 : Option Nat) (x2 : Int32) (x4 : Int32) (x7 : Int32) (h : zH) : Option (((Option Nat) × Int32 × Int32 × Int32 × Int32 × zH) ⊕ (Int32 × zH)) :=
  f_X11_faultOf_b277 x0 x2 x4 x7 (-4 : Int32) h
noncomputable def f_X11_faultOf_b231 (x0 : Option Nat) (x2 : Int32) (x4 : Int32) (x5 : Int32) (s0 : Int32) (h : zH) : Option (((Option Nat) × Int32 × Int32 × Int32 × Int32 × zH) ⊕ (Int32 × zH)) :=
  if x5 = (38 : Int32) then
    f_X11_faultOf_b247 x0 x2 x4 s0 h
  else
    if x5 = (124 : Int32) then
      f_X11_faultOf_b247 x0 x2 x4 s0 h
    else
      if s0 = (0 : Int32) then
        if x5 = (58 : Int32) then
          if x2 = (0 : Int32) then
            f_X11_faultOf_b277 x0 x2 x4 s0 (4 : Int32) h
          else
            f_X11_faultOf_b275 x0 x2 x4 s0 h
        else
          f_X11_faultOf_b275 x0 x2 x4 s0 h
      else
        f_X11_faultOf_b277 x0 x2 x4 s0 (3 : Int32) h
noncomputable def f_X11_faultOf_b230 (x0 : Option Nat) (x2 : Int32) (x4 : Int32) (x5 : Int32) (h : zH) : Option (((Option Nat) × Int32 × Int32 × Int32 × Int32 × zH) ⊕ (Int32 × zH)) :=
  f_X11_faultOf_b231 x0 x2 x4 x5 (0 : Int32) h
noncomputable def f_X11_faultOf_b162 (x0 : Option Nat) (x3 : Int32) (x4 : Int32) (x6 : Int32) (s0 : Int32) (s1 : Int32) (h : zH) : Option (((Option Nat) × Int32 × Int32 × Int32 × Int32 × zH) ⊕ (Int32 × zH)) :=
  f_X11_faultOf_b397 x0 (s0 + s1) x3 x4 x6 h
noncomputable def f_X11_faultOf_b149 (x0 : Option Nat) (x2 : Int32) (x3 : Int32) (x4 : Int32) (x7 : Int32) (s0 : Int32) (h : zH) : Option (((Option Nat) × Int32 × Int32 × Int32 × Int32 × zH) ⊕ (Int32 × zH)) :=
  if x7 = (0 : Int32) then
    f_X11_faultOf_b162 x0 x3 x4 s0 x2 (0 : Int32) h
  else
    f_X11_faultOf_b162 x0 x3 x4 s0 x2 (1 : Int32) h
noncomputable def f_X11_faultOf_b94 (x0 : Option Nat) (x2 : Int32) (x3 : Int32) (x4 : Int32) (x7 : Int32) (h : zH) : Option (((Option Nat) × Int32 × Int32 × Int32 × Int32 × zH) ⊕ (Int32 × zH)) :=
  f_X11_faultOf_b149 x0 x2 x3 x4 x7 (2 : Int32) h
noncomputable def f_X11_faultOf_b119 (x0 : Option Nat) (x2 : Int32) (x3 : Int32) (x4 : Int32) (x7 : Int32) (h : zH) : Option (((Option Nat) × Int32 × Int32 × Int32 × Int32 × zH) ⊕ (Int32 × zH)) :=
  f_X11_faultOf_b149 x0 x2 x3 x4 x7 (3 : Int32) h
noncomputable def f_X11_faultOf_b138 (x0 : Option Nat) (x2 : Int32) (x3 : Int32) (x4 : Int32) (x7 : Int32) (h : zH) : Option (((Option Nat) × Int32 × Int32 × Int32 × Int32 × zH) ⊕ (Int32 × zH)) :=
  if x7 = (0 : Int32) then
    f_X11_faultOf_b149 x0 x2 x3 x4 x7 (-4 : Int32) h
  else
    f_X11_faultOf_b149 x0 x2 x3 x4 x7 (0 : Int32) h
noncomputable def f_X11_faultOf_b71 (x0 : Option Nat) (x1 : Int32) (x2 : Int32) (x3 : Int32) (x4 : Int32) (x5 : Int32) (s0 : Int32) (h : zH) : Option (((Option Nat) × Int32 × Int32 × Int32 × Int32 × zH) ⊕ (Int32 × zH)) :=
  if x5 = (119 : Int32) then
    f_X11_faultOf_b94 x0 x2 x3 x4 s0 h
  else
    if x5 = (116 : Int32) then
      f_X11_faultOf_b94 x0 x2 x3 x4 s0 h
    else
      if x5 = (109 : Int32) then
        f_X11_faultOf_b94 x0 x2 x3 x4 s0 h
      else
        if x5 = (104 : Int32) then
          f_X11_faultOf_b119 x0 x2 x3 x4 s0 h
        else
          if x5 = (120 : Int32) then
            f_X11_faultOf_b119 x0 x2 x3 x4 s0 h
          else
            if x5 = (42 : Int32) then
              f_X11_faultOf_b119 x0 x2 x3 x4 s0 h
            else
              if x5 = (33 : Int32) then
                if x1 = (0 : Int32) then
                  f_X11_faultOf_b149 x0 x2 x3 x4 s0 (1 : Int32) h
                else
                  f_X11_faultOf_b138 x0 x2 x3 x4 s0 h
              else
                f_X11_faultOf_b138 x0 x2 x3 x4 s0 h
noncomputable def f_X11_faultOf_b70 (x0 : Option Nat) (x1 : Int32) (x2 : Int32) (x3 : Int32) (x4 : Int32) (x5 : Int32) (h : zH) : Option (((Option Nat) × Int32 × Int32 × Int32 × Int32 × zH) ⊕ (Int32 × zH)) :=
  f_X11_faultOf_b71 x0 x1 x2 x3 x4 x5 (0 : Int32) h
noncomputable def f_X11_faultOf_c14 (x0 : Option Nat) (x1 : Int32) (x2 : Int32) (x3 : Int32) (x4 : Int32) (h : zH) : Option (((Option Nat) × Int32 × Int32 × Int32 × Int32 × zH) ⊕ (Int32 × zH)) :=
  (z_gI h 11 4 x0).bind fun v1 =>
  if v1 ≤ x4 then
    z_i1 (
    if x1 = (5 : Int32) then
      some ((-4 : Int32), h)
    else
      (z_gI h 11 4 x0).bind fun v2 =>
      some (v2, h))
  else
    (z_gA h 11 5 x0).bind fun v3 =>
    (z_aI h v3 x4).bind fun v4 =>
    if v4 = (32 : Int32) then
      f_X11_faultOf_b397 x0 x2 x3 x4 x1 h
    else
      if (2 : Int32) ≤ x1 then
        if x1 = (2 : Int32) then
          f_X11_faultOf_b178 x0 x1 x2 x3 x4 v4 h
        else
          if x1 = (6 : Int32) then
            f_X11_faultOf_b178 x0 x1 x2 x3 x4 v4 h
          else
            if x1 = (3 : Int32) then
              if v4 = (41 : Int32) then
                if x2 ≤ (0 : Int32) then
                  f_X11_faultOf_b230 x0 x2 x4 v4 h
                else
                  f_X11_faultOf_b231 x0 x2 x4 v4 (1 : Int32) h
              else
                f_X11_faultOf_b230 x0 x2 x4 v4 h
            else
              if v4 = (59 : Int32) then
                if x1 = (5 : Int32) then
                  (z_gI h 11 10 x0).bind fun v5 =>
                  if (6 : Int32) ≤ v5 then
                    f_X11_faultOf_b334 x0 x2 x3 x4 v4 (-4 : Int32) h
                  else
                    (z_gI h 11 10 x0).bind fun v6 =>
                    (z_pF h 11 10 x0 (tI (v6 + (1 : Int32)))).bind fun h7 =>
                    f_X11_faultOf_b397 x0 x2 x3 x4 (0 : Int32) h7
                else
                  f_X11_faultOf_b334 x0 x2 x3 x4 v4 (-4 : Int32) h
              else
                f_X11_faultOf_b334 x0 x2 x3 x4 v4 (-4 : Int32) h
      else
        if v4 = (40 : Int32) then
          if (4 : Int32) ≤ x2 then
            f_X11_faultOf_b70 x0 x1 x2 x3 x4 v4 h
          else
            f_X11_faultOf_b71 x0 x1 x2 x3 x4 v4 (1 : Int32) h
        else
          f_X11_faultOf_b70 x0 x1 x2 x3 x4 v4 h
noncomputable def f_X11_faultOf_b14 (x0 : Option Nat) (x1 : Int32) (x2 : Int32) (x3 : Int32) (x4 : Int32) (h : zH) : Option (Int32 × zH) := z_it (fun s : (Option Nat) × Int32 × Int32 × Int32 × Int32 × zH => f_X11_faultOf_c14 s.1 s.2.1 s.2.2.1 s.2.2.2.1 s.2.2.2.2.1 s.2.2.2.2.2) (x0, x1, x2, x3, x4, h)
noncomputable def f_X11_faultOf (x0 : Option Nat) (h : zH) : Option (Int32 × zH) :=
  (z_pF h 11 10 x0 (tI (1 : Int32))).bind fun h1 =>
  f_X11_faultOf_b14 x0 (0 : Int32) (0 : Int32) (0 : Int32) (0 : Int32) h1
noncomputable def f_X11_rules_b84 (x0 : Option Nat) (x1 : Int32) (x3 : Int32) (x4 : Int32) (x5 : Int32) (h : zH) : Option (((Option Nat) × Int32 × Int32 × Int32 × Int32 × zH) ⊕ (Int32 × zH)) :=
  some (Sum.inl (x0, x1, x3, x4, x5 + (1 : Int32), h))
noncomputable def f_X11_rules_c40 (x0 : Option Nat) (x1 : Int32) (x3 : Int32) (x4 : Int32) (x5 : Int32) (h : zH) : Option (((Option Nat) × Int32 × Int32 × Int32 × Int32 × zH) ⊕ (Int32 × zH)) :=
  if x3 ≤ x5 then
    z_i1 (
    (z_gA h 11 0 x0).bind fun v1 =>
    z_b2 (f_X11_of x1 (3 : Int32) h) fun v3 h2 =>
    (z_sI h2 v1 v3 x4).bind fun h4 =>
    (z_gA h4 11 0 x0).bind fun v5 =>
    z_b2 (f_X11_of x1 (4 : Int32) h4) fun v7 h6 =>
    (z_gI h6 11 10 x0).bind fun v8 =>
    (z_sI h6 v5 v7 v8).bind fun h9 =>
    (z_gI h9 11 10 x0).bind fun v10 =>
    some (v10, h9))
  else
    (z_gA h 11 5 x0).bind fun v11 =>
    (z_aI h v11 x5).bind fun v12 =>
    if v12 = (32 : Int32) then
      f_X11_rules_b84 x0 x1 x3 x4 x5 h
    else
      (z_gA h 11 0 x0).bind fun v13 =>
      (z_gA h 11 5 x0).bind fun v14 =>
      (z_aI h v14 x5).bind fun v15 =>
      (z_sI h v13 (((190 : Int32) + ((100 : Int32) * x1)) + x4) v15).bind fun h16 =>
      f_X11_rules_b84 x0 x1 x3 (x4 + (1 : Int32)) x5 h16
noncomputable def f_X11_rules_b40 (x0 : Option Nat) (x1 : Int32) (x3 : Int32) (x4 : Int32) (x5 : Int32) (h : zH) : Option (Int32 × zH) := z_it (fun s : (Option Nat) × Int32 × Int32 × Int32 × Int32 × zH => f_X11_rules_c40 s.1 s.2.1 s.2.2.1 s.2.2.2.1 s.2.2.2.2.1 s.2.2.2.2.2) (x0, x1, x3, x4, x5, h)
noncomputable def f_X11_rules (x0 : Option Nat) (x1 : Int32) (h : zH) : Option (Int32 × zH) :=
  (z_ck h 11 x0).bind fun _ =>
  z_b2 (f_X11_isArm x0 x1 h) fun v3 h2 =>
  if v3 = (0 : Int32) then
    some ((-1 : Int32), h2)
  else
    (z_ck h2 11 x0).bind fun _ =>
    z_b2 (f_X11_faultOf x0 h2) fun v6 h5 =>
    (z_gI h5 11 4 x0).bind fun v7 =>
    (z_pF h5 11 4 x0 (tI (0 : Int32))).bind fun h8 =>
    if v6 < (0 : Int32) then
      f_X11_rules_b40 x0 x1 v7 (0 : Int32) (0 : Int32) h8
    else
      some ((-20 : Int32) - v6, h8)
noncomputable def f_X11_head (x0 : Option Nat) (x1 : Int32) (x2 : Int32) (h : zH) : Option (Int32 × zH) :=
  (z_ck h 11 x0).bind fun _ =>
  z_b2 (f_X11_isArm x0 x1 h) fun v3 h2 =>
  if v3 = (0 : Int32) then
    some ((-1 : Int32), h2)
  else
    z_b2 (f_X11_in x2 (0 : Int32) (3 : Int32) h2) fun v5 h4 =>
    if v5 = (0 : Int32) then
      some ((-1 : Int32), h4)
    else
      (z_gA h4 11 0 x0).bind fun v6 =>
      z_b2 (f_X11_of x1 (2 : Int32) h4) fun v8 h7 =>
      (z_aI h7 v6 v8).bind fun v9 =>
      (z_gA h7 11 0 x0).bind fun v10 =>
      z_b2 (f_X11_of x1 (2 : Int32) h7) fun v12 h11 =>
      (z_sI h11 v10 v12 x2).bind fun h13 =>
      some (v9, h13)
noncomputable def f_X11_skin (x0 : Option Nat) (x1 : Int32) (h : zH) : Option (Int32 × zH) :=
  z_b2 (f_X11_in x1 (0 : Int32) (3 : Int32) h) fun v2 h1 =>
  if v2 = (0 : Int32) then
    some ((-1 : Int32), h1)
  else
    (z_gA h1 11 0 x0).bind fun v3 =>
    (z_aI h1 v3 (66 : Int32)).bind fun v4 =>
    (z_gA h1 11 0 x0).bind fun v5 =>
    (z_sI h1 v5 (66 : Int32) x1).bind fun h6 =>
    some (v4, h6)
noncomputable def f_X11_isNear_b76 (x0 : Option Nat) (x1 : Int32) (x2 : Int32) (x4 : Int32) (s0 : Int32) (h : zH) : Option (((Option Nat) × Int32 × Int32 × Int32 × Int32 × zH) ⊕ (Int32 × zH)) :=
  some (Sum.inl (x0, x1, x2, s0, x4 + (1 : Int32), h))
noncomputable def f_X11_isNear_b71 (x0 : Option Nat) (x1 : Int32) (x2 : Int32) (x4 : Int32) (h : zH) : Option (((Option Nat) × Int32 × Int32 × Int32 × Int32 × zH) ⊕ (Int32 × zH)) :=
  f_X11_isNear_b76 x0 x1 x2 x4 (1 : Int32) h
noncomputable def f_X11_isNear_b75 (x0 : Option Nat) (x1 : Int32) (x2 : Int32) (x4 : Int32) (h : zH) : Option (((Option Nat) × Int32 × Int32 × Int32 × Int32 × zH) ⊕ (Int32 × zH)) :=
  f_X11_isNear_b76 x0 x1 x2 x4 (0 : Int32) h
noncomputable def f_X11_isNear_b44 (x0 : Option Nat) (x1 : Int32) (x2 : Int32) (x3 : Int32) (x4 : Int32) (s0 : Int32) (h : zH) : Option (((Option Nat) × Int32 × Int32 × Int32 × Int32 × zH) ⊕ (Int32 × zH)) :=
  if x3 = (0 : Int32) then
    if s0 < (0 : Int32) then
      f_X11_isNear_b75 x0 x1 x2 x4 h
    else
      (z_gA h 11 0 x0).bind fun v1 =>
      z_b2 (f_X11_thingAt s0 h) fun v3 h2 =>
      (z_aI h2 v1 (v3 + (2 : Int32))).bind fun v4 =>
      if v4 = x2 then
        f_X11_isNear_b71 x0 x1 x2 x4 h2
      else
        f_X11_isNear_b75 x0 x1 x2 x4 h2
  else
    f_X11_isNear_b71 x0 x1 x2 x4 h
noncomputable def f_X11_isNear_b26 (x0 : Option Nat) (x1 : Int32) (x2 : Int32) (x3 : Int32) (x4 : Int32) (s0 : Int32) (h : zH) : Option (((Option Nat) × Int32 × Int32 × Int32 × Int32 × zH) ⊕ (Int32 × zH)) :=
  if (0 : Int32) ≤ s0 then
    (z_ck h 11 x0).bind fun _ =>
    z_b2 (f_X11_lyingAt x0 s0 h) fun v3 h2 =>
    f_X11_isNear_b44 x0 x1 x2 x3 x4 v3 h2
  else
    f_X11_isNear_b44 x0 x1 x2 x3 x4 (-4 : Int32) h
noncomputable def f_X11_isNear_c5 (x0 : Option Nat) (x1 : Int32) (x2 : Int32) (x3 : Int32) (x4 : Int32) (h : zH) : Option (((Option Nat) × Int32 × Int32 × Int32 × Int32 × zH) ⊕ (Int32 × zH)) :=
  if (4 : Int32) ≤ x4 then
    z_i1 (
    if x3 = 0 ∨ x3 = 1 then some (x3, h) else none)
  else
    if (0 : Int32) ≤ x4 then
      z_b2 (f_X11_beside x1 x4 h) fun v2 h1 =>
      f_X11_isNear_b26 x0 x1 x2 x3 x4 v2 h1
    else
      f_X11_isNear_b26 x0 x1 x2 x3 x4 x1 h
noncomputable def f_X11_isNear_b5 (x0 : Option Nat) (x1 : Int32) (x2 : Int32) (x3 : Int32) (x4 : Int32) (h : zH) : Option (Int32 × zH) := z_it (fun s : (Option Nat) × Int32 × Int32 × Int32 × Int32 × zH => f_X11_isNear_c5 s.1 s.2.1 s.2.2.1 s.2.2.2.1 s.2.2.2.2.1 s.2.2.2.2.2) (x0, x1, x2, x3, x4, h)
noncomputable def f_X11_isNear (x0 : Option Nat) (x1 : Int32) (x2 : Int32) (h : zH) : Option (Int32 × zH) :=
  f_X11_isNear_b5 x0 x1 x2 (0 : Int32) (-1 : Int32) h
noncomputable def f_X11_claims (x0 : Option Nat) (x1 : Int32) (x2 : Int32) (x3 : Int32) (x4 : Int32) (h : zH) : Option (Int32 × zH) :=
  if x3 = (104 : Int32) then
    (z_gA h 11 0 x0).bind fun v1 =>
    z_b2 (f_X11_of x1 (19 : Int32) h) fun v3 h2 =>
    (z_aI h2 v1 (v3 + x2)).bind fun v4 =>
    if v4 < (0 : Int32) then
      some ((0 : Int32), h2)
    else
      some ((1 : Int32), h2)
  else
  if x3 = (109 : Int32) then
    (z_gA h 11 0 x0).bind fun v5 =>
    z_b2 (f_X11_of x1 (12 : Int32) h) fun v7 h6 =>
    (z_aI h6 v5 (v7 + x2)).bind fun v8 =>
    if v8 = x4 then
      some ((1 : Int32), h6)
    else
      some ((0 : Int32), h6)
  else
  if x3 = (116 : Int32) then
    (z_ck h 11 x0).bind fun _ =>
    z_b2 (f_X11_cell x0 x1 x2 h) fun v11 h10 =>
    (z_ck h10 11 x0).bind fun _ =>
    z_b2 (f_X11_isNear x0 v11 x4 h10) fun v14 h13 =>
    if v14 = 0 ∨ v14 = 1 then some (v14, h13) else none
  else
  if x3 = (119 : Int32) then
    (z_gA h 11 0 x0).bind fun v15 =>
    z_b2 (f_X11_of x1 (26 : Int32) h) fun v17 h16 =>
    (z_aI h16 v15 ((v17 + x2) - (1 : Int32))).bind fun v18 =>
    if v18 = x4 then
      some ((1 : Int32), h16)
    else
      some ((0 : Int32), h16)
  else
  if x3 = (120 : Int32) then
    (z_ck h 11 x0).bind fun _ =>
    z_b2 (f_X11_isTip x0 x1 x2 h) fun v21 h20 =>
    if v21 = 0 ∨ v21 = 1 then some (v21, h20) else none
  else
    some ((1 : Int32), h)
noncomputable def f_X11_holdsTest_b373 (x0 : Option Nat) (x1 : Int32) (x2 : Int32) (x3 : Int32) (x4 : Int32) (s0 : Option Nat) (s1 : Int32) (s2 : Int32) (h : zH) : Option (((Option Nat) × Int32 × Int32 × Int32 × Int32 × Int32 × zH) ⊕ (Int32 × zH)) :=
  (z_sB h s0 s1 s2).bind fun h1 =>
  some (Sum.inl (x0, x1, x2, x3, x4, (0 : Int32), h1))
noncomputable def f_X11_holdsTest_b372 (x0 : Option Nat) (x1 : Int32) (x2 : Int32) (x3 : Int32) (x4 : Int32) (s0 : Option Nat) (s1 : Int32) (h : zH) : Option (((Option Nat) × Int32 × Int32 × Int32 × Int32 × Int32 × zH) ⊕ (Int32 × zH)) :=
  f_X11_holdsTest_b373 x0 x1 x2 x3 x4 s0 s1 (0 : Int32) h
noncomputable def f_X11_holdsTest_b341 (x0 : Option Nat) (x1 : Int32) (x2 : Int32) (x3 : Int32) (x4 : Int32) (x5 : Int32) (x8 : Int32) (s0 : Option Nat) (s1 : Int32) (s2 : Int32) (h : zH) : Option (((Option Nat) × Int32 × Int32 × Int32 × Int32 × Int32 × zH) ⊕ (Int32 × zH)) :=
  (z_pF h 11 14 s0 (tI (s1 + s2))).bind fun h1 =>
  (z_gA h1 11 12 x0).bind fun v2 =>
  (z_gA h1 11 12 x0).bind fun v3 =>
  (z_aB h1 v3 x4).bind fun v4 =>
  if v4 = (0 : Int32) then
    f_X11_holdsTest_b372 x0 x1 x2 x3 x4 v2 x4 h1
  else
    if x8 = x5 then
      f_X11_holdsTest_b372 x0 x1 x2 x3 x4 v2 x4 h1
    else
      f_X11_holdsTest_b373 x0 x1 x2 x3 x4 v2 x4 (1 : Int32) h1
noncomputable def f_X11_holdsTest_b321 (x0 : Option Nat) (x1 : Int32) (x2 : Int32) (x3 : Int32) (x4 : Int32) (x5 : Int32) (x7 : Int32) (s0 : Option Nat) (s1 : Int32) (s2 : Int32) (s3 : Int32) (s4 : Int32) (h : zH) : Option (((Option Nat) × Int32 × Int32 × Int32 × Int32 × Int32 × zH) ⊕ (Int32 × zH)) :=
  (z_ck h 11 s0).bind fun _ =>
  z_b2 (f_X11_claims s0 s1 s2 s3 s4 h) fun v3 h2 =>
  (z_gI h2 11 14 x0).bind fun v4 =>
  if x7 = (0 : Int32) then
    f_X11_holdsTest_b341 x0 x1 x2 x3 x4 x5 v3 x0 v4 (0 : Int32) h2
  else
    f_X11_holdsTest_b341 x0 x1 x2 x3 x4 x5 v3 x0 v4 (1 : Int32) h2
noncomputable def f_X11_holdsTest_b291 (x0 : Option Nat) (x1 : Int32) (x2 : Int32) (x3 : Int32) (x4 : Int32) (x5 : Int32) (x6 : Int32) (s0 : Int32) (h : zH) : Option (((Option Nat) × Int32 × Int32 × Int32 × Int32 × Int32 × zH) ⊕ (Int32 × zH)) :=
  if s0 = (0 : Int32) then
    f_X11_holdsTest_b321 x0 x1 x2 x3 x4 x5 s0 x0 x1 x2 x6 (0 : Int32) h
  else
    (z_gA h 11 0 x0).bind fun v1 =>
    (z_gI h 11 14 x0).bind fun v2 =>
    (z_aI h v1 (x3 + v2)).bind fun v3 =>
    f_X11_holdsTest_b321 x0 x1 x2 x3 x4 x5 s0 x0 x1 x2 x6 (v3 - (48 : Int32)) h
noncomputable def f_X11_holdsTest_b286 (x0 : Option Nat) (x1 : Int32) (x2 : Int32) (x3 : Int32) (x4 : Int32) (x5 : Int32) (x6 : Int32) (h : zH) : Option (((Option Nat) × Int32 × Int32 × Int32 × Int32 × Int32 × zH) ⊕ (Int32 × zH)) :=
  f_X11_holdsTest_b291 x0 x1 x2 x3 x4 x5 x6 (1 : Int32) h
noncomputable def f_X11_holdsTest_b254 (x0 : Option Nat) (x1 : Int32) (x2 : Int32) (x3 : Int32) (x4 : Int32) (x5 : Int32) (s0 : Option Nat) (s1 : Int32) (s2 : Int32) (h : zH) : Option (((Option Nat) × Int32 × Int32 × Int32 × Int32 × Int32 × zH) ⊕ (Int32 × zH)) :=
  (z_sB h s0 s1 s2).bind fun h1 =>
  some (Sum.inl (x0, x1, x2, x3, x4, x5, h1))
noncomputable def f_X11_holdsTest_b253 (x0 : Option Nat) (x1 : Int32) (x2 : Int32) (x3 : Int32) (x4 : Int32) (x5 : Int32) (s0 : Option Nat) (s1 : Int32) (h : zH) : Option (((Option Nat) × Int32 × Int32 × Int32 × Int32 × Int32 × zH) ⊕ (Int32 × zH)) :=
  f_X11_holdsTest_b254 x0 x1 x2 x3 x4 x5 s0 s1 (0 : Int32) h
noncomputable def f_X11_holdsTest_b223 (x0 : Option Nat) (x1 : Int32) (x2 : Int32) (x3 : Int32) (x4 : Int32) (x5 : Int32) (s0 : Int32) (h : zH) : Option (((Option Nat) × Int32 × Int32 × Int32 × Int32 × Int32 × zH) ⊕ (Int32 × zH)) :=
  (z_gA h 11 12 x0).bind fun v1 =>
  (z_gA h 11 12 x0).bind fun v2 =>
  (z_aB h v2 (x4 + (-1 : Int32))).bind fun v3 =>
  if v3 = (0 : Int32) then
    f_X11_holdsTest_b253 x0 x1 x2 x3 (x4 + (-1 : Int32)) x5 v1 (x4 + (-1 : Int32)) h
  else
    if s0 = (0 : Int32) then
      f_X11_holdsTest_b253 x0 x1 x2 x3 (x4 + (-1 : Int32)) x5 v1 (x4 + (-1 : Int32)) h
    else
      f_X11_holdsTest_b254 x0 x1 x2 x3 (x4 + (-1 : Int32)) x5 v1 (x4 + (-1 : Int32)) (1 : Int32) h
noncomputable def f_X11_holdsTest_b204 (x0 : Option Nat) (x1 : Int32) (x2 : Int32) (x3 : Int32) (x4 : Int32) (x5 : Int32) (s0 : Int32) (h : zH) : Option (((Option Nat) × Int32 × Int32 × Int32 × Int32 × Int32 × zH) ⊕ (Int32 × zH)) :=
  (z_gA h 11 13 x0).bind fun v1 =>
  (z_aB h v1 x4).bind fun v2 =>
  if s0 = v2 then
    f_X11_holdsTest_b223 x0 x1 x2 x3 x4 x5 (0 : Int32) h
  else
    f_X11_holdsTest_b223 x0 x1 x2 x3 x4 x5 (1 : Int32) h
noncomputable def f_X11_holdsTest_b199 (x0 : Option Nat) (x1 : Int32) (x2 : Int32) (x3 : Int32) (x4 : Int32) (x5 : Int32) (h : zH) : Option (((Option Nat) × Int32 × Int32 × Int32 × Int32 × Int32 × zH) ⊕ (Int32 × zH)) :=
  f_X11_holdsTest_b204 x0 x1 x2 x3 x4 x5 (1 : Int32) h
noncomputable def f_X11_holdsTest_b160 (x0 : Option Nat) (x1 : Int32) (x2 : Int32) (x3 : Int32) (x4 : Int32) (x5 : Int32) (s0 : Option Nat) (s1 : Int32) (s2 : Int32) (h : zH) : Option (((Option Nat) × Int32 × Int32 × Int32 × Int32 × Int32 × zH) ⊕ (Int32 × zH)) :=
  (z_sB h s0 s1 s2).bind fun h1 =>
  (z_gA h1 11 12 x0).bind fun v2 =>
  (z_sB h1 v2 x4 (1 : Int32)).bind fun h3 =>
  some (Sum.inl (x0, x1, x2, x3, x4, x5, h3))
noncomputable def f_X11_holdsTest_b155 (x0 : Option Nat) (x1 : Int32) (x2 : Int32) (x3 : Int32) (x4 : Int32) (x5 : Int32) (s0 : Option Nat) (s1 : Int32) (h : zH) : Option (((Option Nat) × Int32 × Int32 × Int32 × Int32 × Int32 × zH) ⊕ (Int32 × zH)) :=
  f_X11_holdsTest_b160 x0 x1 x2 x3 x4 x5 s0 s1 (1 : Int32) h
noncomputable def f_X11_holdsTest_c29 (x0 : Option Nat) (x1 : Int32) (x2 : Int32) (x3 : Int32) (x4 : Int32) (x5 : Int32) (h : zH) : Option (((Option Nat) × Int32 × Int32 × Int32 × Int32 × Int32 × zH) ⊕ (Int32 × zH)) :=
  (z_gA h 11 0 x0).bind fun v1 =>
  (z_gI h 11 14 x0).bind fun v2 =>
  (z_aI h v1 (x3 + v2)).bind fun v3 =>
  if v3 = (58 : Int32) then
    z_i1 (
    (z_gI h 11 14 x0).bind fun v4 =>
    (z_pF h 11 14 x0 (tI (v4 + (1 : Int32)))).bind fun h5 =>
    (z_gA h5 11 11 x0).bind fun v6 =>
    (z_aB h5 v6 (0 : Int32)).bind fun v7 =>
    if v7 = (0 : Int32) then
      (z_gA h5 11 12 x0).bind fun v8 =>
      (z_aB h5 v8 (0 : Int32)).bind fun v9 =>
      if v9 = (0 : Int32) then
        some ((0 : Int32), h5)
      else
        some ((1 : Int32), h5)
    else
      some ((1 : Int32), h5))
  else
    (z_gA h 11 0 x0).bind fun v10 =>
    (z_gI h 11 14 x0).bind fun v11 =>
    (z_aI h v10 (x3 + v11)).bind fun v12 =>
    (z_gI h 11 14 x0).bind fun v13 =>
    (z_pF h 11 14 x0 (tI (v13 + (1 : Int32)))).bind fun h14 =>
    if v12 = (33 : Int32) then
      some (Sum.inl (x0, x1, x2, x3, x4, (1 : Int32), h14))
    else
      if v12 = (40 : Int32) then
        (z_gA h14 11 11 x0).bind fun v24 =>
        (z_sB h14 v24 (x4 + (1 : Int32)) (0 : Int32)).bind fun h25 =>
        (z_gA h25 11 12 x0).bind fun v26 =>
        (z_sB h25 v26 (x4 + (1 : Int32)) (1 : Int32)).bind fun h27 =>
        (z_gA h27 11 13 x0).bind fun v28 =>
        (z_sB h27 v28 (x4 + (1 : Int32)) x5).bind fun h29 =>
        some (Sum.inl (x0, x1, x2, x3, x4 + (1 : Int32), (0 : Int32), h29))
      else
        if v12 = (124 : Int32) then
          (z_gA h14 11 11 x0).bind fun v19 =>
          (z_gA h14 11 11 x0).bind fun v20 =>
          (z_aB h14 v20 x4).bind fun v21 =>
          if v21 = (0 : Int32) then
            (z_gA h14 11 12 x0).bind fun v22 =>
            (z_aB h14 v22 x4).bind fun v23 =>
            if v23 = (0 : Int32) then
              f_X11_holdsTest_b160 x0 x1 x2 x3 x4 x5 v19 x4 (0 : Int32) h14
            else
              f_X11_holdsTest_b155 x0 x1 x2 x3 x4 x5 v19 x4 h14
          else
            f_X11_holdsTest_b155 x0 x1 x2 x3 x4 x5 v19 x4 h14
        else
          if v12 = (41 : Int32) then
            (z_gA h14 11 11 x0).bind fun v15 =>
            (z_aB h14 v15 x4).bind fun v16 =>
            if v16 = (0 : Int32) then
              (z_gA h14 11 12 x0).bind fun v17 =>
              (z_aB h14 v17 x4).bind fun v18 =>
              if v18 = (0 : Int32) then
                f_X11_holdsTest_b204 x0 x1 x2 x3 x4 x5 (0 : Int32) h14
              else
                f_X11_holdsTest_b199 x0 x1 x2 x3 x4 x5 h14
            else
              f_X11_holdsTest_b199 x0 x1 x2 x3 x4 x5 h14
          else
            if v12 = (38 : Int32) then
              some (Sum.inl (x0, x1, x2, x3, x4, x5, h14))
            else
              if v12 = (119 : Int32) then
                f_X11_holdsTest_b286 x0 x1 x2 x3 x4 x5 v12 h14
              else
                if v12 = (116 : Int32) then
                  f_X11_holdsTest_b286 x0 x1 x2 x3 x4 x5 v12 h14
                else
                  if v12 = (109 : Int32) then
                    f_X11_holdsTest_b286 x0 x1 x2 x3 x4 x5 v12 h14
                  else
                    f_X11_holdsTest_b291 x0 x1 x2 x3 x4 x5 v12 (0 : Int32) h14
noncomputable def f_X11_holdsTest_b29 (x0 : Option Nat) (x1 : Int32) (x2 : Int32) (x3 : Int32) (x4 : Int32) (x5 : Int32) (h : zH) : Option (Int32 × zH) := z_it (fun s : (Option Nat) × Int32 × Int32 × Int32 × Int32 × Int32 × zH => f_X11_holdsTest_c29 s.1 s.2.1 s.2.2.1 s.2.2.2.1 s.2.2.2.2.1 s.2.2.2.2.2.1 s.2.2.2.2.2.2) (x0, x1, x2, x3, x4, x5, h)
noncomputable def f_X11_holdsTest (x0 : Option Nat) (x1 : Int32) (x2 : Int32) (h : zH) : Option (Int32 × zH) :=
  (z_gA h 11 11 x0).bind fun v1 =>
  (z_sB h v1 (0 : Int32) (0 : Int32)).bind fun h2 =>
  (z_gA h2 11 12 x0).bind fun v3 =>
  (z_sB h2 v3 (0 : Int32) (1 : Int32)).bind fun h4 =>
  f_X11_holdsTest_b29 x0 x1 x2 ((190 : Int32) + ((100 : Int32) * x1)) (0 : Int32) (0 : Int32) h4
noncomputable def f_X11_findsOf_b90 (x0 : Option Nat) (x1 : Int32) (x2 : Int32) (x3 : Int32) (x4 : Int32) (h : zH) : Option (((Option Nat) × Int32 × Int32 × Int32 × Int32 × zH) ⊕ (Int32 × zH)) :=
  (z_gI h 11 14 x0).bind fun v1 =>
  (z_pF h 11 14 x0 (tI (v1 + (1 : Int32)))).bind fun h2 =>
  some (Sum.inl (x0, x1, x2, x3, x4 + (1 : Int32), h2))
noncomputable def f_X11_findsOf_c44 (x0 : Option Nat) (x1 : Int32) (x2 : Int32) (x3 : Int32) (x4 : Int32) (h : zH) : Option (((Option Nat) × Int32 × Int32 × Int32 × Int32 × zH) ⊕ (((Option Nat) × Int32 × Int32 × Int32 × Int32 × zH) ⊕ (Int32 × zH))) :=
  (z_gI h 11 14 x0).bind fun v1 =>
  (z_gA h 11 0 x0).bind fun v2 =>
  z_b2 (f_X11_of x1 (3 : Int32) h) fun v4 h3 =>
  (z_aI h3 v2 v4).bind fun v5 =>
  if v5 ≤ v1 then
    z_i1 (f_X11_findsOf_b90 x0 x1 x2 x3 x4 h3)
  else
    (z_gA h3 11 0 x0).bind fun v6 =>
    (z_gI h3 11 14 x0).bind fun v7 =>
    (z_aI h3 v6 (x3 + v7)).bind fun v8 =>
    if v8 = (59 : Int32) then
      z_i1 (f_X11_findsOf_b90 x0 x1 x2 x3 x4 h3)
    else
      (z_gI h3 11 14 x0).bind fun v9 =>
      (z_pF h3 11 14 x0 (tI (v9 + (1 : Int32)))).bind fun h10 =>
      some (Sum.inl (x0, x1, x2, x3, x4, h10))
noncomputable def f_X11_findsOf_b44 (x0 : Option Nat) (x1 : Int32) (x2 : Int32) (x3 : Int32) (x4 : Int32) (h : zH) : Option (((Option Nat) × Int32 × Int32 × Int32 × Int32 × zH) ⊕ (Int32 × zH)) := z_it (fun s : (Option Nat) × Int32 × Int32 × Int32 × Int32 × zH => f_X11_findsOf_c44 s.1 s.2.1 s.2.2.1 s.2.2.2.1 s.2.2.2.2.1 s.2.2.2.2.2) (x0, x1, x2, x3, x4, h)
noncomputable def f_X11_findsOf_c17 (x0 : Option Nat) (x1 : Int32) (x2 : Int32) (x3 : Int32) (x4 : Int32) (h : zH) : Option (((Option Nat) × Int32 × Int32 × Int32 × Int32 × zH) ⊕ (Int32 × zH)) :=
  (z_gA h 11 0 x0).bind fun v1 =>
  z_b2 (f_X11_of x1 (4 : Int32) h) fun v3 h2 =>
  (z_aI h2 v1 v3).bind fun v4 =>
  if v4 ≤ x4 then
    z_i1 (
    some ((-4 : Int32), h2))
  else
    (z_ck h2 11 x0).bind fun _ =>
    z_b2 (f_X11_holdsTest x0 x1 x2 h2) fun v7 h6 =>
    if v7 = (0 : Int32) then
      f_X11_findsOf_b44 x0 x1 x2 x3 x4 h6
    else
      z_i1 (
      some (x4, h6))
noncomputable def f_X11_findsOf_b17 (x0 : Option Nat) (x1 : Int32) (x2 : Int32) (x3 : Int32) (x4 : Int32) (h : zH) : Option (Int32 × zH) := z_it (fun s : (Option Nat) × Int32 × Int32 × Int32 × Int32 × zH => f_X11_findsOf_c17 s.1 s.2.1 s.2.2.1 s.2.2.2.1 s.2.2.2.2.1 s.2.2.2.2.2) (x0, x1, x2, x3, x4, h)
noncomputable def f_X11_findsOf (x0 : Option Nat) (x1 : Int32) (x2 : Int32) (h : zH) : Option (Int32 × zH) :=
  (z_pF h 11 14 x0 (tI (0 : Int32))).bind fun h1 =>
  f_X11_findsOf_b17 x0 x1 x2 ((190 : Int32) + ((100 : Int32) * x1)) (0 : Int32) h1
noncomputable def f_X11_grab_b139 (x0 : Option Nat) (x1 : Int32) (x2 : Int32) (x3 : Int32) (h : zH) : Option (((Option Nat) × Int32 × Int32 × Int32 × zH) ⊕ (zH)) :=
  some (Sum.inl (x0, x1, x2, x3 + (1 : Int32), h))
noncomputable def f_X11_grab_b65 (x0 : Option Nat) (x1 : Int32) (x2 : Int32) (x3 : Int32) (s0 : Int32) (h : zH) : Option (((Option Nat) × Int32 × Int32 × Int32 × zH) ⊕ (zH)) :=
  if s0 < (0 : Int32) then
    f_X11_grab_b139 x0 x1 x2 x3 h
  else
    (z_gA h 11 0 x0).bind fun v1 =>
    z_b2 (f_X11_thingAt s0 h) fun v3 h2 =>
    (z_aI h2 v1 (v3 + (2 : Int32))).bind fun v4 =>
    (z_gA h2 11 0 x0).bind fun v5 =>
    (z_aI h2 v5 (66 : Int32)).bind fun v6 =>
    if v4 = v6 then
      f_X11_grab_b139 x0 x1 x2 x3 h2
    else
      z_i1 (
      (z_gA h2 11 0 x0).bind fun v7 =>
      z_b2 (f_X11_thingAt s0 h2) fun v9 h8 =>
      (z_sI h8 v7 v9 (1 : Int32)).bind fun h10 =>
      (z_gA h10 11 0 x0).bind fun v11 =>
      z_b2 (f_X11_thingAt s0 h10) fun v13 h12 =>
      (z_sI h12 v11 (v13 + (3 : Int32)) (((10 : Int32) * x1) + x2)).bind fun h14 =>
      (z_gA h14 11 0 x0).bind fun v15 =>
      z_b2 (f_X11_of x1 (19 : Int32) h14) fun v17 h16 =>
      (z_sI h16 v15 (v17 + x2) s0).bind fun h18 =>
      some h18)
noncomputable def f_X11_grab_b47 (x0 : Option Nat) (x1 : Int32) (x2 : Int32) (x3 : Int32) (s0 : Int32) (h : zH) : Option (((Option Nat) × Int32 × Int32 × Int32 × zH) ⊕ (zH)) :=
  if (0 : Int32) ≤ s0 then
    (z_ck h 11 x0).bind fun _ =>
    z_b2 (f_X11_lyingAt x0 s0 h) fun v3 h2 =>
    f_X11_grab_b65 x0 x1 x2 x3 v3 h2
  else
    f_X11_grab_b65 x0 x1 x2 x3 (-4 : Int32) h
noncomputable def f_X11_grab_c19 (x0 : Option Nat) (x1 : Int32) (x2 : Int32) (x3 : Int32) (h : zH) : Option (((Option Nat) × Int32 × Int32 × Int32 × zH) ⊕ (zH)) :=
  if (4 : Int32) ≤ x3 then
    z_i1 (
    some h)
  else
    if (0 : Int32) ≤ x3 then
      (z_ck h 11 x0).bind fun _ =>
      z_b2 (f_X11_cell x0 x1 x2 h) fun v3 h2 =>
      z_b2 (f_X11_beside v3 x3 h2) fun v5 h4 =>
      f_X11_grab_b47 x0 x1 x2 x3 v5 h4
    else
      (z_ck h 11 x0).bind fun _ =>
      z_b2 (f_X11_cell x0 x1 x2 h) fun v8 h7 =>
      f_X11_grab_b47 x0 x1 x2 x3 v8 h7
noncomputable def f_X11_grab_b19 (x0 : Option Nat) (x1 : Int32) (x2 : Int32) (x3 : Int32) (h : zH) : Option (zH) := z_it (fun s : (Option Nat) × Int32 × Int32 × Int32 × zH => f_X11_grab_c19 s.1 s.2.1 s.2.2.1 s.2.2.2.1 s.2.2.2.2) (x0, x1, x2, x3, h)
noncomputable def f_X11_grab (x0 : Option Nat) (x1 : Int32) (x2 : Int32) (h : zH) : Option (zH) :=
  (z_gA h 11 0 x0).bind fun v1 =>
  z_b2 (f_X11_of x1 (19 : Int32) h) fun v3 h2 =>
  (z_aI h2 v1 (v3 + x2)).bind fun v4 =>
  if v4 < (0 : Int32) then
    f_X11_grab_b19 x0 x1 x2 (-1 : Int32) h2
  else
    some h2
noncomputable def f_X11_pass_b53 (x0 : Option Nat) (x1 : Int32) (x2 : Int32) (x3 : Int32) (h : zH) : Option (zH) :=
  (z_gA h 11 0 x0).bind fun v1 =>
  z_b2 (f_X11_of x1 (19 : Int32) h) fun v3 h2 =>
  (z_sI h2 v1 (v3 + x2) (-4 : Int32)).bind fun h4 =>
  (z_gA h4 11 0 x0).bind fun v5 =>
  z_b2 (f_X11_thingAt x3 h4) fun v7 h6 =>
  (z_sI h6 v5 (v7 + (3 : Int32)) ((((10 : Int32) * x1) + x2) - (1 : Int32))).bind fun h8 =>
  if x2 = (1 : Int32) then
    (z_gA h8 11 0 x0).bind fun v13 =>
    z_b2 (f_X11_thingAt x3 h8) fun v15 h14 =>
    (z_sI h14 v13 v15 (2 : Int32)).bind fun h16 =>
    some h16
  else
    (z_gA h8 11 0 x0).bind fun v9 =>
    z_b2 (f_X11_of x1 (19 : Int32) h8) fun v11 h10 =>
    (z_sI h10 v9 ((v11 + x2) - (1 : Int32)) x3).bind fun h12 =>
    some h12
noncomputable def f_X11_pass (x0 : Option Nat) (x1 : Int32) (x2 : Int32) (h : zH) : Option (zH) :=
  (z_gA h 11 0 x0).bind fun v1 =>
  z_b2 (f_X11_of x1 (19 : Int32) h) fun v3 h2 =>
  (z_aI h2 v1 (v3 + x2)).bind fun v4 =>
  if v4 < (0 : Int32) then
    some h2
  else
    (z_ck h2 11 x0).bind fun _ =>
    z_b2 (f_X11_cutOf x0 x1 h2) fun v7 h6 =>
    if (x2 - (1 : Int32)) = v7 then
      some h6
    else
      if x2 ≤ (1 : Int32) then
        f_X11_pass_b53 x0 x1 x2 v4 h6
      else
        (z_gA h6 11 0 x0).bind fun v8 =>
        z_b2 (f_X11_of x1 (19 : Int32) h6) fun v10 h9 =>
        (z_aI h9 v8 ((v10 + x2) - (1 : Int32))).bind fun v11 =>
        if v11 < (0 : Int32) then
          f_X11_pass_b53 x0 x1 x2 v4 h9
        else
          some h9
noncomputable def f_X11_letGo (x0 : Option Nat) (x1 : Int32) (x2 : Int32) (h : zH) : Option (zH) :=
  (z_gA h 11 0 x0).bind fun v1 =>
  z_b2 (f_X11_of x1 (19 : Int32) h) fun v3 h2 =>
  (z_aI h2 v1 (v3 + x2)).bind fun v4 =>
  if v4 < (0 : Int32) then
    some h2
  else
    (z_ck h2 11 x0).bind fun _ =>
    z_b2 (f_X11_cell x0 x1 x2 h2) fun v7 h6 =>
    (z_ck h6 11 x0).bind fun _ =>
    z_b2 (f_X11_lyingAt x0 v7 h6) fun v10 h9 =>
    if (0 : Int32) ≤ v10 then
      some h9
    else
      (z_gA h9 11 0 x0).bind fun v11 =>
      z_b2 (f_X11_of x1 (19 : Int32) h9) fun v13 h12 =>
      (z_sI h12 v11 (v13 + x2) (-4 : Int32)).bind fun h14 =>
      (z_gA h14 11 0 x0).bind fun v15 =>
      z_b2 (f_X11_thingAt v4 h14) fun v17 h16 =>
      (z_sI h16 v15 v17 (0 : Int32)).bind fun h18 =>
      (z_gA h18 11 0 x0).bind fun v19 =>
      z_b2 (f_X11_thingAt v4 h18) fun v21 h20 =>
      (z_ck h20 11 x0).bind fun _ =>
      z_b2 (f_X11_cell x0 x1 x2 h20) fun v24 h23 =>
      (z_sI h23 v19 (v21 + (1 : Int32)) v24).bind fun h25 =>
      (z_gA h25 11 0 x0).bind fun v26 =>
      z_b2 (f_X11_thingAt v4 h25) fun v28 h27 =>
      (z_sI h27 v26 (v28 + (3 : Int32)) (-4 : Int32)).bind fun h29 =>
      some h29
noncomputable def f_X11_act_b224 (x0 : Option Nat) (x1 : Int32) (x2 : Int32) (x4 : Int32) (x5 : Int32) (x6 : Int32) (h : zH) : Option (((Option Nat) × Int32 × Int32 × Int32 × Int32 × Int32 × zH) ⊕ (Int32 × zH)) :=
  some (Sum.inl (x0, x1, x2, x4, x5, x6 + (1 : Int32), h))
noncomputable def f_X11_act_b223 (x0 : Option Nat) (x1 : Int32) (x2 : Int32) (x4 : Int32) (x5 : Int32) (x6 : Int32) (s0 : Option Nat) (s1 : Int32) (s2 : Int32) (h : zH) : Option (((Option Nat) × Int32 × Int32 × Int32 × Int32 × Int32 × zH) ⊕ (Int32 × zH)) :=
  (z_sI h s0 s1 s2).bind fun h1 =>
  f_X11_act_b224 x0 x1 x2 x4 x5 x6 h1
noncomputable def f_X11_act_b184 (x0 : Option Nat) (x1 : Int32) (x2 : Int32) (x4 : Int32) (x6 : Int32) (x7 : Int32) (x8 : Int32) (s0 : Int32) (h : zH) : Option (((Option Nat) × Int32 × Int32 × Int32 × Int32 × Int32 × zH) ⊕ (Int32 × zH)) :=
  (z_gA h 11 0 x0).bind fun v1 =>
  z_b2 (f_X11_of x1 (12 : Int32) h) fun v3 h2 =>
  if x7 = (115 : Int32) then
    f_X11_act_b223 x0 x1 x2 x4 s0 x6 v1 (v3 + x2) x8 h2
  else
    (z_gA h2 11 0 x0).bind fun v4 =>
    z_b2 (f_X11_of x1 (12 : Int32) h2) fun v6 h5 =>
    (z_aI h5 v4 (v6 + x2)).bind fun v7 =>
    f_X11_act_b223 x0 x1 x2 x4 s0 x6 v1 (v3 + x2) v7 h5
noncomputable def f_X11_act_b100 (x0 : Option Nat) (x1 : Int32) (x2 : Int32) (x4 : Int32) (x5 : Int32) (x6 : Int32) (s0 : Option Nat) (s1 : Int32) (s2 : Int32) (h : zH) : Option (((Option Nat) × Int32 × Int32 × Int32 × Int32 × Int32 × zH) ⊕ (Int32 × zH)) :=
  (z_sI h s0 s1 s2).bind fun h1 =>
  f_X11_act_b224 x0 x1 x2 x4 x5 x6 h1
noncomputable def f_X11_act_c16 (x0 : Option Nat) (x1 : Int32) (x2 : Int32) (x4 : Int32) (x5 : Int32) (x6 : Int32) (h : zH) : Option (((Option Nat) × Int32 × Int32 × Int32 × Int32 × Int32 × zH) ⊕ (Int32 × zH)) :=
  (z_gA h 11 0 x0).bind fun v1 =>
  z_b2 (f_X11_of x1 (3 : Int32) h) fun v3 h2 =>
  (z_aI h2 v1 v3).bind fun v4 =>
  if v4 ≤ x6 then
    z_i1 (
    some (x5, h2))
  else
    (z_gA h2 11 0 x0).bind fun v5 =>
    (z_aI h2 v5 (x4 + x6)).bind fun v6 =>
    if v6 = (59 : Int32) then
      z_i1 (
      some (x5, h2))
    else
      (z_gA h2 11 0 x0).bind fun v7 =>
      (z_aI h2 v7 (x4 + x6)).bind fun v8 =>
      if v8 = (102 : Int32) then
        (z_ck h2 11 x0).bind fun _ =>
        z_b2 (f_X11_goesTo x0 x1 x2 h2) fun v19 h18 =>
        (z_gA h18 11 0 x0).bind fun v20 =>
        z_b2 (f_X11_of x1 (5 : Int32) h18) fun v22 h21 =>
        if (0 : Int32) ≤ v19 then
          f_X11_act_b100 x0 x1 x2 x4 x5 x6 v20 (v22 + x2) v19 h21
        else
          (z_ck h21 11 x0).bind fun _ =>
          z_b2 (f_X11_cell x0 x1 x2 h21) fun v25 h24 =>
          f_X11_act_b100 x0 x1 x2 x4 x5 x6 v20 (v22 + x2) v25 h24
      else
        if v8 = (103 : Int32) then
          (z_ck h2 11 x0).bind fun _ =>
          (f_X11_grab x0 x1 x2 h2).bind fun h16 =>
          f_X11_act_b224 x0 x1 x2 x4 x5 x6 h16
        else
          if v8 = (112 : Int32) then
            (z_ck h2 11 x0).bind fun _ =>
            (f_X11_pass x0 x1 x2 h2).bind fun h14 =>
            f_X11_act_b224 x0 x1 x2 x4 x5 x6 h14
          else
            if v8 = (100 : Int32) then
              (z_ck h2 11 x0).bind fun _ =>
              (f_X11_letGo x0 x1 x2 h2).bind fun h12 =>
              f_X11_act_b224 x0 x1 x2 x4 x5 x6 h12
            else
              (z_gA h2 11 0 x0).bind fun v9 =>
              (z_aI h2 v9 (x4 + (x6 + (1 : Int32)))).bind fun v10 =>
              if v8 = (111 : Int32) then
                f_X11_act_b184 x0 x1 x2 x4 (x6 + (1 : Int32)) v8 (v10 - (48 : Int32)) (v10 - (48 : Int32)) h2
              else
                f_X11_act_b184 x0 x1 x2 x4 (x6 + (1 : Int32)) v8 (v10 - (48 : Int32)) x5 h2
noncomputable def f_X11_act_b16 (x0 : Option Nat) (x1 : Int32) (x2 : Int32) (x4 : Int32) (x5 : Int32) (x6 : Int32) (h : zH) : Option (Int32 × zH) := z_it (fun s : (Option Nat) × Int32 × Int32 × Int32 × Int32 × Int32 × zH => f_X11_act_c16 s.1 s.2.1 s.2.2.1 s.2.2.2.1 s.2.2.2.2.1 s.2.2.2.2.2.1 s.2.2.2.2.2.2) (x0, x1, x2, x4, x5, x6, h)
noncomputable def f_X11_act (x0 : Option Nat) (x1 : Int32) (x2 : Int32) (x3 : Int32) (h : zH) : Option (Int32 × zH) :=
  f_X11_act_b16 x0 x1 x2 ((190 : Int32) + ((100 : Int32) * x1)) (0 : Int32) x3 h
noncomputable def f_X11_tick_b166 (x0 : Option Nat) (x1 : Int32) (x2 : Int32) (s0 : Option Nat) (s1 : Int32) (s2 : Int32) (h : zH) : Option (((Option Nat) × Int32 × Int32 × zH) ⊕ (((Option Nat) × Int32 × zH) ⊕ (zH))) :=
  (z_sI h s0 s1 s2).bind fun h1 =>
  some (Sum.inl (x0, x1, x2 + (1 : Int32), h1))
noncomputable def f_X11_tick_c110 (x0 : Option Nat) (x1 : Int32) (x2 : Int32) (h : zH) : Option (((Option Nat) × Int32 × Int32 × zH) ⊕ (((Option Nat) × Int32 × zH) ⊕ (zH))) :=
  (z_ck h 11 x0).bind fun _ =>
  z_b2 (f_X11_pieces x0 x1 h) fun v3 h2 =>
  if v3 ≤ x2 then
    z_i1 (
    some (Sum.inl (x0, x1 + (1 : Int32), h2)))
  else
    (z_gA h2 11 0 x0).bind fun v4 =>
    z_b2 (f_X11_of x1 (26 : Int32) h2) fun v6 h5 =>
    (z_gA h5 11 15 x0).bind fun v7 =>
    (z_aI h5 v7 (((7 : Int32) * x1) + x2)).bind fun v8 =>
    if (0 : Int32) ≤ v8 then
      (z_gA h5 11 15 x0).bind fun v9 =>
      (z_aI h5 v9 (((7 : Int32) * x1) + x2)).bind fun v10 =>
      (z_ck h5 11 x0).bind fun _ =>
      z_b2 (f_X11_act x0 x1 x2 v10 h5) fun v13 h12 =>
      f_X11_tick_b166 x0 x1 x2 v4 (v6 + x2) v13 h12
    else
      f_X11_tick_b166 x0 x1 x2 v4 (v6 + x2) (0 : Int32) h5
noncomputable def f_X11_tick_b110 (x0 : Option Nat) (x1 : Int32) (x2 : Int32) (h : zH) : Option (((Option Nat) × Int32 × zH) ⊕ (zH)) := z_it (fun s : (Option Nat) × Int32 × Int32 × zH => f_X11_tick_c110 s.1 s.2.1 s.2.2.1 s.2.2.2) (x0, x1, x2, h)
noncomputable def f_X11_tick_c76 (x0 : Option Nat) (x1 : Int32) (h : zH) : Option (((Option Nat) × Int32 × zH) ⊕ (zH)) :=
  (z_gA h 11 0 x0).bind fun v1 =>
  (z_aI h v1 (64 : Int32)).bind fun v2 =>
  if v2 ≤ x1 then
    z_i1 (
    (z_gA h 11 0 x0).bind fun v3 =>
    (z_aI h v3 (67 : Int32)).bind fun v4 =>
    (z_sI h v3 (67 : Int32) (v4 + (1 : Int32))).bind fun h5 =>
    some h5)
  else
    (z_gA h 11 0 x0).bind fun v6 =>
    z_b2 (f_X11_of x1 (26 : Int32) h) fun v8 h7 =>
    (z_gA h7 11 0 x0).bind fun v9 =>
    z_b2 (f_X11_of x1 (2 : Int32) h7) fun v11 h10 =>
    (z_aI h10 v9 v11).bind fun v12 =>
    (z_sI h10 v6 v8 v12).bind fun h13 =>
    f_X11_tick_b110 x0 x1 (1 : Int32) h13
noncomputable def f_X11_tick_b76 (x0 : Option Nat) (x1 : Int32) (h : zH) : Option (zH) := z_it (fun s : (Option Nat) × Int32 × zH => f_X11_tick_c76 s.1 s.2.1 s.2.2) (x0, x1, h)
noncomputable def f_X11_tick_b61 (x0 : Option Nat) (x1 : Int32) (x2 : Int32) (s0 : Option Nat) (s1 : Int32) (s2 : Int32) (h : zH) : Option (((Option Nat) × Int32 × Int32 × zH) ⊕ (((Option Nat) × Int32 × zH) ⊕ (zH))) :=
  (z_sI h s0 s1 s2).bind fun h1 =>
  some (Sum.inl (x0, x1, x2 + (1 : Int32), h1))
noncomputable def f_X11_tick_b52 (x0 : Option Nat) (x1 : Int32) (x2 : Int32) (s0 : Option Nat) (s1 : Int32) (h : zH) : Option (((Option Nat) × Int32 × Int32 × zH) ⊕ (((Option Nat) × Int32 × zH) ⊕ (zH))) :=
  f_X11_tick_b61 x0 x1 x2 s0 s1 (-4 : Int32) h
noncomputable def f_X11_tick_c15 (x0 : Option Nat) (x1 : Int32) (x2 : Int32) (h : zH) : Option (((Option Nat) × Int32 × Int32 × zH) ⊕ (((Option Nat) × Int32 × zH) ⊕ (zH))) :=
  (z_ck h 11 x0).bind fun _ =>
  z_b2 (f_X11_pieces x0 x1 h) fun v3 h2 =>
  if v3 ≤ x2 then
    z_i1 (
    some (Sum.inl (x0, x1 + (1 : Int32), h2)))
  else
    (z_gA h2 11 15 x0).bind fun v4 =>
    (z_ck h2 11 x0).bind fun _ =>
    z_b2 (f_X11_findsOf x0 x1 x2 h2) fun v7 h6 =>
    if v7 < (0 : Int32) then
      f_X11_tick_b52 x0 x1 x2 v4 (((7 : Int32) * x1) + x2) h6
    else
      (z_ck h6 11 x0).bind fun _ =>
      z_b2 (f_X11_cutOf x0 x1 h6) fun v10 h9 =>
      if x2 = v10 then
        f_X11_tick_b52 x0 x1 x2 v4 (((7 : Int32) * x1) + x2) h9
      else
        (z_gI h9 11 14 x0).bind fun v11 =>
        f_X11_tick_b61 x0 x1 x2 v4 (((7 : Int32) * x1) + x2) v11 h9
noncomputable def f_X11_tick_b15 (x0 : Option Nat) (x1 : Int32) (x2 : Int32) (h : zH) : Option (((Option Nat) × Int32 × zH) ⊕ (zH)) := z_it (fun s : (Option Nat) × Int32 × Int32 × zH => f_X11_tick_c15 s.1 s.2.1 s.2.2.1 s.2.2.2) (x0, x1, x2, h)
noncomputable def f_X11_tick_c2 (x0 : Option Nat) (x1 : Int32) (h : zH) : Option (((Option Nat) × Int32 × zH) ⊕ (zH)) :=
  (z_gA h 11 0 x0).bind fun v1 =>
  (z_aI h v1 (64 : Int32)).bind fun v2 =>
  if v2 ≤ x1 then
    z_i1 (
    f_X11_tick_b76 x0 (0 : Int32) h)
  else
    f_X11_tick_b15 x0 x1 (1 : Int32) h
noncomputable def f_X11_tick_b2 (x0 : Option Nat) (x1 : Int32) (h : zH) : Option (zH) := z_it (fun s : (Option Nat) × Int32 × zH => f_X11_tick_c2 s.1 s.2.1 s.2.2) (x0, x1, h)
noncomputable def f_X11_tick (x0 : Option Nat) (h : zH) : Option (zH) :=
  f_X11_tick_b2 x0 (0 : Int32) h
noncomputable def f_X11_things_b34 (x0 : Option Nat) (x1 : Int32) (x3 : Int32) (s0 : Int32) (s1 : Int32) (h : zH) : Option (((Option Nat) × Int32 × Int32 × Int32 × zH) ⊕ (Int32 × zH)) :=
  some (Sum.inl (x0, x1, s0 + s1, x3 + (1 : Int32), h))
noncomputable def f_X11_things_c4 (x0 : Option Nat) (x1 : Int32) (x2 : Int32) (x3 : Int32) (h : zH) : Option (((Option Nat) × Int32 × Int32 × Int32 × zH) ⊕ (Int32 × zH)) :=
  (z_gA h 11 0 x0).bind fun v1 =>
  (z_aI h v1 (65 : Int32)).bind fun v2 =>
  if v2 ≤ x3 then
    z_i1 (
    some (x2, h))
  else
    (z_gA h 11 0 x0).bind fun v3 =>
    z_b2 (f_X11_thingAt x3 h) fun v5 h4 =>
    (z_aI h4 v3 v5).bind fun v6 =>
    if v6 = x1 then
      f_X11_things_b34 x0 x1 x3 x2 (1 : Int32) h4
    else
      f_X11_things_b34 x0 x1 x3 x2 (0 : Int32) h4
noncomputable def f_X11_things_b4 (x0 : Option Nat) (x1 : Int32) (x2 : Int32) (x3 : Int32) (h : zH) : Option (Int32 × zH) := z_it (fun s : (Option Nat) × Int32 × Int32 × Int32 × zH => f_X11_things_c4 s.1 s.2.1 s.2.2.1 s.2.2.2.1 s.2.2.2.2) (x0, x1, x2, x3, h)
noncomputable def f_X11_things (x0 : Option Nat) (x1 : Int32) (h : zH) : Option (Int32 × zH) :=
  f_X11_things_b4 x0 x1 (0 : Int32) (0 : Int32) h
noncomputable def f_X11_ticks_c14 (x0 : Option Nat) (x1 : Int32) (x2 : Int32) (h : zH) : Option (((Option Nat) × Int32 × Int32 × zH) ⊕ (Int32 × zH)) :=
  if x1 ≤ x2 then
    z_i1 (
    (z_ck h 11 x0).bind fun _ =>
    z_b2 (f_X11_things x0 (2 : Int32) h) fun v3 h2 =>
    some (v3, h2))
  else
    (z_ck h 11 x0).bind fun _ =>
    (f_X11_tick x0 h).bind fun h5 =>
    some (Sum.inl (x0, x1, x2 + (1 : Int32), h5))
noncomputable def f_X11_ticks_b14 (x0 : Option Nat) (x1 : Int32) (x2 : Int32) (h : zH) : Option (Int32 × zH) := z_it (fun s : (Option Nat) × Int32 × Int32 × zH => f_X11_ticks_c14 s.1 s.2.1 s.2.2.1 s.2.2.2) (x0, x1, x2, h)
noncomputable def f_X11_ticks (x0 : Option Nat) (x1 : Int32) (h : zH) : Option (Int32 × zH) :=
  z_b2 (f_X11_in x1 (1 : Int32) (60 : Int32) h) fun v2 h1 =>
  if v2 = (0 : Int32) then
    some ((-1 : Int32), h1)
  else
    f_X11_ticks_b14 x0 x1 (0 : Int32) h1
noncomputable def f_X11_finds (x0 : Option Nat) (x1 : Int32) (x2 : Int32) (h : zH) : Option (Int32 × zH) :=
  (z_ck h 11 x0).bind fun _ =>
  z_b2 (f_X11_isPiece x0 x1 x2 h) fun v3 h2 =>
  if v3 = (0 : Int32) then
    some ((-1 : Int32), h2)
  else
    if x2 = (0 : Int32) then
      some ((-1 : Int32), h2)
    else
      (z_ck h2 11 x0).bind fun _ =>
      z_b2 (f_X11_findsOf x0 x1 x2 h2) fun v6 h5 =>
      some (v6, h5)
noncomputable def f_X11_cut (x0 : Option Nat) (x1 : Int32) (x2 : Int32) (h : zH) : Option (Int32 × zH) :=
  (z_ck h 11 x0).bind fun _ =>
  z_b2 (f_X11_isPiece x0 x1 x2 h) fun v3 h2 =>
  if v3 = (0 : Int32) then
    some ((-1 : Int32), h2)
  else
    if x2 = (0 : Int32) then
      some ((-1 : Int32), h2)
    else
      (z_ck h2 11 x0).bind fun _ =>
      z_b2 (f_X11_cutOf x0 x1 h2) fun v6 h5 =>
      if v6 < (0 : Int32) then
        (z_gA h5 11 0 x0).bind fun v7 =>
        z_b2 (f_X11_of x1 (1 : Int32) h5) fun v9 h8 =>
        (z_sI h8 v7 v9 x2).bind fun h10 =>
        (z_ck h10 11 x0).bind fun _ =>
        z_b2 (f_X11_pieces x0 x1 h10) fun v13 h12 =>
        some (v13 - x2, h12)
      else
        some ((-2 : Int32), h5)
noncomputable def f_X11_count_b60 (x0 : Option Nat) (x1 : Int32) (h : zH) : Option (Int32 × zH) :=
  (z_ck h 11 x0).bind fun _ =>
  z_b2 (f_X11_things x0 (x1 - (2 : Int32)) h) fun v3 h2 =>
  some (v3, h2)
noncomputable def f_X11_count_c70 (x0 : Option Nat) (x2 : Int32) (x3 : Int32) (h : zH) : Option (((Option Nat) × Int32 × Int32 × zH) ⊕ (Int32 × zH)) :=
  if (64 : Int32) ≤ x3 then
    z_i1 (
    some (x2, h))
  else
    (z_gA h 11 0 x0).bind fun v1 =>
    (z_aI h v1 x3).bind fun v2 =>
    some (Sum.inl (x0, x2 + v2, x3 + (1 : Int32), h))
noncomputable def f_X11_count_b70 (x0 : Option Nat) (x2 : Int32) (x3 : Int32) (h : zH) : Option (Int32 × zH) := z_it (fun s : (Option Nat) × Int32 × Int32 × zH => f_X11_count_c70 s.1 s.2.1 s.2.2.1 s.2.2.2) (x0, x2, x3, h)
noncomputable def f_X11_count (x0 : Option Nat) (x1 : Int32) (h : zH) : Option (Int32 × zH) :=
  if x1 = (0 : Int32) then
    (z_gA h 11 0 x0).bind fun v1 =>
    (z_aI h v1 (64 : Int32)).bind fun v2 =>
    some (v2, h)
  else
  if x1 = (1 : Int32) then
    (z_gA h 11 0 x0).bind fun v3 =>
    (z_aI h v3 (65 : Int32)).bind fun v4 =>
    some (v4, h)
  else
  if x1 = (2 : Int32) then
    f_X11_count_b60 x0 x1 h
  else
  if x1 = (3 : Int32) then
    f_X11_count_b60 x0 x1 h
  else
  if x1 = (4 : Int32) then
    f_X11_count_b60 x0 x1 h
  else
  if x1 = (5 : Int32) then
    f_X11_count_b70 x0 (0 : Int32) (0 : Int32) h
  else
  if x1 = (6 : Int32) then
    (z_gA h 11 0 x0).bind fun v5 =>
    (z_aI h v5 (67 : Int32)).bind fun v6 =>
    some (v6, h)
  else
    some ((-1 : Int32), h)
noncomputable def f_X11_lay_c2 (x0 : Option Nat) (x1 : Int32) (x2 : Int32) (x3 : Int32) (h : zH) : Option (((Option Nat) × Int32 × Int32 × Int32 × zH) ⊕ (zH)) :=
  (z_ck h 11 x0).bind fun _ =>
  z_b2 (f_X11_pieces x0 x1 h) fun v3 h2 =>
  if v3 ≤ x3 then
    z_i1 (
    some h2)
  else
    (z_gA h2 11 0 x0).bind fun v4 =>
    z_b2 (f_X11_of x1 (5 : Int32) h2) fun v6 h5 =>
    (z_ck h5 11 x0).bind fun _ =>
    z_b2 (f_X11_cell x0 x1 (x3 - (1 : Int32)) h5) fun v9 h8 =>
    z_b2 (f_X11_beside v9 ((x2 >>> (((2 : Int32) * (x3 - (1 : Int32))) &&& 31)) &&& (3 : Int32)) h8) fun v11 h10 =>
    (z_sI h10 v4 (v6 + x3) v11).bind fun h12 =>
    some (Sum.inl (x0, x1, x2, x3 + (1 : Int32), h12))
noncomputable def f_X11_lay_b2 (x0 : Option Nat) (x1 : Int32) (x2 : Int32) (x3 : Int32) (h : zH) : Option (zH) := z_it (fun s : (Option Nat) × Int32 × Int32 × Int32 × zH => f_X11_lay_c2 s.1 s.2.1 s.2.2.1 s.2.2.2.1 s.2.2.2.2) (x0, x1, x2, x3, h)
noncomputable def f_X11_lay (x0 : Option Nat) (x1 : Int32) (x2 : Int32) (h : zH) : Option (zH) :=
  f_X11_lay_b2 x0 x1 x2 (1 : Int32) h
noncomputable def f_X11_come (x0 : Option Nat) (x1 : Int32) (x2 : Int32) (h : zH) : Option (zH) :=
  (z_ck h 11 x0).bind fun _ =>
  z_b2 (f_X11_formOf x0 x1 h) fun v3 h2 =>
  (z_gA h2 11 16 x0).bind fun v4 =>
  (z_aI h2 v4 v3).bind fun v5 =>
  if (0 : Int32) ≤ v5 then
    some h2
  else
    (z_gA h2 11 16 x0).bind fun v6 =>
    (z_sI h2 v6 v3 x2).bind fun h7 =>
    (z_gA h7 11 17 x0).bind fun v8 =>
    (z_gI h7 11 19 x0).bind fun v9 =>
    (z_sI h7 v8 v9 v3).bind fun h10 =>
    (z_gI h10 11 19 x0).bind fun v11 =>
    (z_pF h10 11 19 x0 (tI (v11 + (1 : Int32)))).bind fun h12 =>
    some h12
noncomputable def f_X11_layReach_c328 (x0 : Option Nat) (x1 : Int32) (x3 : Int32) (h : zH) : Option (((Option Nat) × Int32 × Int32 × zH) ⊕ (zH)) :=
  if (7 : Int32) ≤ x3 then
    z_i1 (
    some h)
  else
    (z_gA h 11 0 x0).bind fun v1 =>
    z_b2 (f_X11_of x1 (5 : Int32) h) fun v3 h2 =>
    (z_gA h2 11 20 x0).bind fun v4 =>
    (z_aI h2 v4 x3).bind fun v5 =>
    (z_sI h2 v1 (v3 + x3) v5).bind fun h6 =>
    some (Sum.inl (x0, x1, x3 + (1 : Int32), h6))
noncomputable def f_X11_layReach_b328 (x0 : Option Nat) (x1 : Int32) (x3 : Int32) (h : zH) : Option (zH) := z_it (fun s : (Option Nat) × Int32 × Int32 × zH => f_X11_layReach_c328 s.1 s.2.1 s.2.2.1 s.2.2.2) (x0, x1, x3, h)
noncomputable def f_X11_layReach_b314 (x0 : Option Nat) (x1 : Int32) (x2 : Int32) (x3 : Int32) (x5 : Int32) (x6 : Int32) (x7 : Int32) (h : zH) : Option (((Option Nat) × Int32 × Int32 × Int32 × Int32 × Int32 × Int32 × zH) ⊕ (((Option Nat) × Int32 × Int32 × Int32 × zH) ⊕ (zH))) :=
  some (Sum.inl (x0, x1, x2, x3, x5, x6, x7 + (1 : Int32), h))
noncomputable def f_X11_layReach_c243 (x0 : Option Nat) (x1 : Int32) (x2 : Int32) (x3 : Int32) (x5 : Int32) (x6 : Int32) (x7 : Int32) (h : zH) : Option (((Option Nat) × Int32 × Int32 × Int32 × Int32 × Int32 × Int32 × zH) ⊕ (((Option Nat) × Int32 × Int32 × Int32 × zH) ⊕ (zH))) :=
  if (4 : Int32) ≤ x7 then
    z_i1 (
    some (Sum.inl (x0, x1, x2, x3 + (1 : Int32), h)))
  else
    (z_ck h 11 x0).bind fun _ =>
    z_b2 (f_X11_cell x0 x1 (x2 - (2 : Int32)) h) fun v3 h2 =>
    z_b2 (f_X11_beside v3 x7 h2) fun v5 h4 =>
    (z_ck h4 11 x0).bind fun _ =>
    z_b2 (f_X11_isFree x0 v5 h4) fun v8 h7 =>
    if v8 = (0 : Int32) then
      f_X11_layReach_b314 x0 x1 x2 x3 x5 x6 x7 h7
    else
      (z_gA h7 11 0 x0).bind fun v9 =>
      z_b2 (f_X11_of x1 (5 : Int32) h7) fun v11 h10 =>
      (z_sI h10 v9 ((v11 + x2) - (1 : Int32)) v5).bind fun h12 =>
      (z_ck h12 11 x0).bind fun _ =>
      (f_X11_come x0 x1 (x5 + (1 : Int32)) h12).bind fun h14 =>
      (z_gA h14 11 0 x0).bind fun v15 =>
      z_b2 (f_X11_of x1 (5 : Int32) h14) fun v17 h16 =>
      (z_sI h16 v15 ((v17 + x2) - (1 : Int32)) x6).bind fun h18 =>
      f_X11_layReach_b314 x0 x1 x2 x3 x5 x6 x7 h18
noncomputable def f_X11_layReach_b243 (x0 : Option Nat) (x1 : Int32) (x2 : Int32) (x3 : Int32) (x5 : Int32) (x6 : Int32) (x7 : Int32) (h : zH) : Option (((Option Nat) × Int32 × Int32 × Int32 × zH) ⊕ (zH)) := z_it (fun s : (Option Nat) × Int32 × Int32 × Int32 × Int32 × Int32 × Int32 × zH => f_X11_layReach_c243 s.1 s.2.1 s.2.2.1 s.2.2.2.1 s.2.2.2.2.1 s.2.2.2.2.2.1 s.2.2.2.2.2.2.1 s.2.2.2.2.2.2.2) (x0, x1, x2, x3, x5, x6, x7, h)
noncomputable def f_X11_layReach_b234 (x0 : Option Nat) (x1 : Int32) (x2 : Int32) (x3 : Int32) (x5 : Int32) (x6 : Int32) (x7 : Int32) (h : zH) : Option (((Option Nat) × Int32 × Int32 × Int32 × Int32 × Int32 × Int32 × zH) ⊕ (((Option Nat) × Int32 × Int32 × Int32 × zH) ⊕ (zH))) :=
  some (Sum.inl (x0, x1, x2, x3, x5, x6, x7 + (1 : Int32), h))
noncomputable def f_X11_layReach_c164 (x0 : Option Nat) (x1 : Int32) (x2 : Int32) (x3 : Int32) (x5 : Int32) (x6 : Int32) (x7 : Int32) (h : zH) : Option (((Option Nat) × Int32 × Int32 × Int32 × Int32 × Int32 × Int32 × zH) ⊕ (((Option Nat) × Int32 × Int32 × Int32 × zH) ⊕ (zH))) :=
  if (x2 - (1 : Int32)) ≤ x7 then
    z_i1 (
    f_X11_layReach_b243 x0 x1 x2 x3 x5 x6 (0 : Int32) h)
  else
    (z_ck h 11 x0).bind fun _ =>
    z_b2 (f_X11_cell x0 x1 x7 h) fun v3 h2 =>
    (z_ck h2 11 x0).bind fun _ =>
    z_b2 (f_X11_flipped x0 x1 x7 h2) fun v6 h5 =>
    if v6 < (0 : Int32) then
      f_X11_layReach_b234 x0 x1 x2 x3 x5 x6 x7 h5
    else
      (z_gA h5 11 0 x0).bind fun v7 =>
      z_b2 (f_X11_of x1 (5 : Int32) h5) fun v9 h8 =>
      (z_sI h8 v7 (v9 + x7) v6).bind fun h10 =>
      (z_ck h10 11 x0).bind fun _ =>
      (f_X11_come x0 x1 (x5 + (1 : Int32)) h10).bind fun h12 =>
      (z_gA h12 11 0 x0).bind fun v13 =>
      z_b2 (f_X11_of x1 (5 : Int32) h12) fun v15 h14 =>
      (z_sI h14 v13 (v15 + x7) v3).bind fun h16 =>
      f_X11_layReach_b234 x0 x1 x2 x3 x5 x6 x7 h16
noncomputable def f_X11_layReach_b164 (x0 : Option Nat) (x1 : Int32) (x2 : Int32) (x3 : Int32) (x5 : Int32) (x6 : Int32) (x7 : Int32) (h : zH) : Option (((Option Nat) × Int32 × Int32 × Int32 × zH) ⊕ (zH)) := z_it (fun s : (Option Nat) × Int32 × Int32 × Int32 × Int32 × Int32 × Int32 × zH => f_X11_layReach_c164 s.1 s.2.1 s.2.2.1 s.2.2.2.1 s.2.2.2.2.1 s.2.2.2.2.2.1 s.2.2.2.2.2.2.1 s.2.2.2.2.2.2.2) (x0, x1, x2, x3, x5, x6, x7, h)
noncomputable def f_X11_layReach_b160 (x0 : Option Nat) (x1 : Int32) (x2 : Int32) (x3 : Int32) (x5 : Int32) (x6 : Int32) (s0 : Option Nat) (s1 : Int32) (s2 : Int32) (h : zH) : Option (((Option Nat) × Int32 × Int32 × Int32 × zH) ⊕ (zH)) :=
  (z_sI h s0 s1 s2).bind fun h1 =>
  f_X11_layReach_b164 x0 x1 x2 x3 x5 x6 (1 : Int32) h1
noncomputable def f_X11_layReach_c90 (x0 : Option Nat) (x1 : Int32) (x2 : Int32) (x3 : Int32) (h : zH) : Option (((Option Nat) × Int32 × Int32 × Int32 × zH) ⊕ (zH)) :=
  (z_gI h 11 19 x0).bind fun v1 =>
  if v1 ≤ x3 then
    z_i1 (
    f_X11_layReach_b328 x0 x1 (0 : Int32) h)
  else
    (z_gA h 11 17 x0).bind fun v2 =>
    (z_aI h v2 x3).bind fun v3 =>
    (z_gA h 11 16 x0).bind fun v4 =>
    (z_aI h v4 v3).bind fun v5 =>
    (z_ck h 11 x0).bind fun _ =>
    (f_X11_lay x0 x1 v3 h).bind fun h7 =>
    (z_ck h7 11 x0).bind fun _ =>
    z_b2 (f_X11_cell x0 x1 (x2 - (1 : Int32)) h7) fun v10 h9 =>
    (z_gA h9 11 18 x0).bind fun v11 =>
    (z_gA h9 11 18 x0).bind fun v12 =>
    (z_aI h9 v12 v10).bind fun v13 =>
    if (0 : Int32) ≤ v13 then
      (z_gA h9 11 18 x0).bind fun v14 =>
      (z_aI h9 v14 v10).bind fun v15 =>
      f_X11_layReach_b160 x0 x1 x2 x3 v5 v10 v11 v10 v15 h9
    else
      f_X11_layReach_b160 x0 x1 x2 x3 v5 v10 v11 v10 v5 h9
noncomputable def f_X11_layReach_b90 (x0 : Option Nat) (x1 : Int32) (x2 : Int32) (x3 : Int32) (h : zH) : Option (zH) := z_it (fun s : (Option Nat) × Int32 × Int32 × Int32 × zH => f_X11_layReach_c90 s.1 s.2.1 s.2.2.1 s.2.2.2.1 s.2.2.2.2) (x0, x1, x2, x3, h)
noncomputable def f_X11_layReach_c53 (x0 : Option Nat) (x1 : Int32) (x2 : Int32) (x3 : Int32) (h : zH) : Option (((Option Nat) × Int32 × Int32 × Int32 × zH) ⊕ (zH)) :=
  if (7 : Int32) ≤ x3 then
    z_i1 (
    (z_pF h 11 19 x0 (tI (0 : Int32))).bind fun h1 =>
    (z_ck h1 11 x0).bind fun _ =>
    (f_X11_come x0 x1 (0 : Int32) h1).bind fun h3 =>
    f_X11_layReach_b90 x0 x1 x2 (0 : Int32) h3)
  else
    (z_gA h 11 20 x0).bind fun v4 =>
    (z_ck h 11 x0).bind fun _ =>
    z_b2 (f_X11_cell x0 x1 x3 h) fun v7 h6 =>
    (z_sI h6 v4 x3 v7).bind fun h8 =>
    some (Sum.inl (x0, x1, x2, x3 + (1 : Int32), h8))
noncomputable def f_X11_layReach_b53 (x0 : Option Nat) (x1 : Int32) (x2 : Int32) (x3 : Int32) (h : zH) : Option (zH) := z_it (fun s : (Option Nat) × Int32 × Int32 × Int32 × zH => f_X11_layReach_c53 s.1 s.2.1 s.2.2.1 s.2.2.2.1 s.2.2.2.2) (x0, x1, x2, x3, h)
noncomputable def f_X11_layReach_c31 (x0 : Option Nat) (x1 : Int32) (x2 : Int32) (x3 : Int32) (h : zH) : Option (((Option Nat) × Int32 × Int32 × Int32 × zH) ⊕ (zH)) :=
  if (64 : Int32) ≤ x3 then
    z_i1 (
    f_X11_layReach_b53 x0 x1 x2 (0 : Int32) h)
  else
    (z_gA h 11 18 x0).bind fun v1 =>
    (z_sI h v1 x3 (-4 : Int32)).bind fun h2 =>
    some (Sum.inl (x0, x1, x2, x3 + (1 : Int32), h2))
noncomputable def f_X11_layReach_b31 (x0 : Option Nat) (x1 : Int32) (x2 : Int32) (x3 : Int32) (h : zH) : Option (zH) := z_it (fun s : (Option Nat) × Int32 × Int32 × Int32 × zH => f_X11_layReach_c31 s.1 s.2.1 s.2.2.1 s.2.2.2.1 s.2.2.2.2) (x0, x1, x2, x3, h)
noncomputable def f_X11_layReach_c8 (x0 : Option Nat) (x1 : Int32) (x2 : Int32) (x3 : Int32) (h : zH) : Option (((Option Nat) × Int32 × Int32 × Int32 × zH) ⊕ (zH)) :=
  if (4096 : Int32) ≤ x3 then
    z_i1 (
    f_X11_layReach_b31 x0 x1 x2 (0 : Int32) h)
  else
    (z_gA h 11 16 x0).bind fun v1 =>
    (z_sI h v1 x3 (-4 : Int32)).bind fun h2 =>
    some (Sum.inl (x0, x1, x2, x3 + (1 : Int32), h2))
noncomputable def f_X11_layReach_b8 (x0 : Option Nat) (x1 : Int32) (x2 : Int32) (x3 : Int32) (h : zH) : Option (zH) := z_it (fun s : (Option Nat) × Int32 × Int32 × Int32 × zH => f_X11_layReach_c8 s.1 s.2.1 s.2.2.1 s.2.2.2.1 s.2.2.2.2) (x0, x1, x2, x3, h)
noncomputable def f_X11_layReach (x0 : Option Nat) (x1 : Int32) (h : zH) : Option (zH) :=
  (z_ck h 11 x0).bind fun _ =>
  z_b2 (f_X11_pieces x0 x1 h) fun v3 h2 =>
  f_X11_layReach_b8 x0 x1 v3 (0 : Int32) h2
noncomputable def f_X11_forms (x0 : Option Nat) (x1 : Int32) (h : zH) : Option (Int32 × zH) :=
  (z_ck h 11 x0).bind fun _ =>
  z_b2 (f_X11_isArm x0 x1 h) fun v3 h2 =>
  if v3 = (0 : Int32) then
    some ((-1 : Int32), h2)
  else
    (z_ck h2 11 x0).bind fun _ =>
    z_b2 (f_X11_cutOf x0 x1 h2) fun v6 h5 =>
    if v6 < (0 : Int32) then
      (z_ck h5 11 x0).bind fun _ =>
      (f_X11_layReach x0 x1 h5).bind fun h8 =>
      (z_gI h8 11 19 x0).bind fun v9 =>
      some (v9, h8)
    else
      some ((-2 : Int32), h5)
noncomputable def f_X11_reach_b51 (x0 : Option Nat) (x3 : Int32) (s0 : Int32) (s1 : Int32) (h : zH) : Option (((Option Nat) × Int32 × Int32 × zH) ⊕ (Int32 × zH)) :=
  some (Sum.inl (x0, s0 + s1, x3 + (1 : Int32), h))
noncomputable def f_X11_reach_c30 (x0 : Option Nat) (x2 : Int32) (x3 : Int32) (h : zH) : Option (((Option Nat) × Int32 × Int32 × zH) ⊕ (Int32 × zH)) :=
  if (64 : Int32) ≤ x3 then
    z_i1 (
    some (x2, h))
  else
    (z_gA h 11 18 x0).bind fun v1 =>
    (z_aI h v1 x3).bind fun v2 =>
    if v2 < (0 : Int32) then
      f_X11_reach_b51 x0 x3 x2 (0 : Int32) h
    else
      f_X11_reach_b51 x0 x3 x2 (1 : Int32) h
noncomputable def f_X11_reach_b30 (x0 : Option Nat) (x2 : Int32) (x3 : Int32) (h : zH) : Option (Int32 × zH) := z_it (fun s : (Option Nat) × Int32 × Int32 × zH => f_X11_reach_c30 s.1 s.2.1 s.2.2.1 s.2.2.2) (x0, x2, x3, h)
noncomputable def f_X11_reach (x0 : Option Nat) (x1 : Int32) (h : zH) : Option (Int32 × zH) :=
  (z_ck h 11 x0).bind fun _ =>
  z_b2 (f_X11_isArm x0 x1 h) fun v3 h2 =>
  if v3 = (0 : Int32) then
    some ((-1 : Int32), h2)
  else
    (z_ck h2 11 x0).bind fun _ =>
    z_b2 (f_X11_cutOf x0 x1 h2) fun v6 h5 =>
    if v6 < (0 : Int32) then
      (z_ck h5 11 x0).bind fun _ =>
      (f_X11_layReach x0 x1 h5).bind fun h8 =>
      f_X11_reach_b30 x0 (0 : Int32) (0 : Int32) h8
    else
      some ((-2 : Int32), h5)
noncomputable def f_X11_far (x0 : Option Nat) (x1 : Int32) (x2 : Int32) (x3 : Int32) (h : zH) : Option (Int32 × zH) :=
  (z_ck h 11 x0).bind fun _ =>
  z_b2 (f_X11_isArm x0 x1 h) fun v3 h2 =>
  if v3 = (0 : Int32) then
    some ((-1 : Int32), h2)
  else
    z_b2 (f_X11_isCell x2 x3 h2) fun v5 h4 =>
    if v5 = (0 : Int32) then
      some ((-1 : Int32), h4)
    else
      (z_ck h4 11 x0).bind fun _ =>
      z_b2 (f_X11_cutOf x0 x1 h4) fun v8 h7 =>
      if v8 < (0 : Int32) then
        (z_ck h7 11 x0).bind fun _ =>
        (f_X11_layReach x0 x1 h7).bind fun h10 =>
        (z_gA h10 11 18 x0).bind fun v11 =>
        (z_aI h10 v11 (((8 : Int32) * x3) + x2)).bind fun v12 =>
        some (v12, h10)
      else
        some ((-2 : Int32), h7)
noncomputable def f_X11_eats_c96 (x0 : Option Nat) (x6 : Int32) (x7 : Int32) (h : zH) : Option (((Option Nat) × Int32 × Int32 × zH) ⊕ (Int32 × zH)) :=
  if (530 : Int32) ≤ x7 then
    z_i1 (
    if x6 = 0 ∨ x6 = 1 then some (x6, h) else none)
  else
    (z_gA h 11 0 x0).bind fun v1 =>
    (z_gA h 11 3 x0).bind fun v2 =>
    (z_aI h v2 x7).bind fun v3 =>
    (z_sI h v1 x7 v3).bind fun h4 =>
    some (Sum.inl (x0, x6, x7 + (1 : Int32), h4))
noncomputable def f_X11_eats_b96 (x0 : Option Nat) (x6 : Int32) (x7 : Int32) (h : zH) : Option (Int32 × zH) := z_it (fun s : (Option Nat) × Int32 × Int32 × zH => f_X11_eats_c96 s.1 s.2.1 s.2.2.1 s.2.2.2) (x0, x6, x7, h)
noncomputable def f_X11_eats_b93 (x0 : Option Nat) (x6 : Int32) (h : zH) : Option (Int32 × zH) :=
  f_X11_eats_b96 x0 x6 (0 : Int32) h
noncomputable def f_X11_eats_b85 (x0 : Option Nat) (x1 : Int32) (x2 : Int32) (x3 : Int32) (x4 : Int32) (x5 : Int32) (x7 : Int32) (s0 : Int32) (h : zH) : Option (((Option Nat) × Int32 × Int32 × Int32 × Int32 × Int32 × Int32 × Int32 × zH) ⊕ (Int32 × zH)) :=
  some (Sum.inl (x0, x1, x2, x3, x4, x5, s0, x7 + (1 : Int32), h))
noncomputable def f_X11_eats_b37 (x0 : Option Nat) (x1 : Int32) (x2 : Int32) (x3 : Int32) (x4 : Int32) (x5 : Int32) (x7 : Int32) (s0 : Int32) (h : zH) : Option (((Option Nat) × Int32 × Int32 × Int32 × Int32 × Int32 × Int32 × Int32 × zH) ⊕ (Int32 × zH)) :=
  (z_gA h 11 0 x0).bind fun v1 =>
  z_b2 (f_X11_of x1 (2 : Int32) h) fun v3 h2 =>
  (z_sI h2 v1 v3 ((x5 >>> (((2 : Int32) * ((x4 - (1 : Int32)) - s0)) &&& 31)) &&& (3 : Int32))).bind fun h4 =>
  (z_ck h4 11 x0).bind fun _ =>
  (f_X11_tick x0 h4).bind fun h6 =>
  (z_gA h6 11 0 x0).bind fun v7 =>
  z_b2 (f_X11_thingAt x2 h6) fun v9 h8 =>
  (z_aI h8 v7 v9).bind fun v10 =>
  if v10 = (2 : Int32) then
    f_X11_eats_b85 x0 x1 x2 x3 x4 x5 x7 (1 : Int32) h8
  else
    f_X11_eats_b85 x0 x1 x2 x3 x4 x5 x7 (0 : Int32) h8
noncomputable def f_X11_eats_c6 (x0 : Option Nat) (x1 : Int32) (x2 : Int32) (x3 : Int32) (x4 : Int32) (x5 : Int32) (x6 : Int32) (x7 : Int32) (h : zH) : Option (((Option Nat) × Int32 × Int32 × Int32 × Int32 × Int32 × Int32 × Int32 × zH) ⊕ (Int32 × zH)) :=
  if x3 ≤ x7 then
    z_i1 (f_X11_eats_b93 x0 x6 h)
  else
    if x6 = (0 : Int32) then
      if x4 ≤ (x7 / (2 : Int32)) then
        f_X11_eats_b37 x0 x1 x2 x3 x4 x5 x7 (x4 - (1 : Int32)) h
      else
        f_X11_eats_b37 x0 x1 x2 x3 x4 x5 x7 (x7 / (2 : Int32)) h
    else
      z_i1 (f_X11_eats_b93 x0 x6 h)
noncomputable def f_X11_eats_b6 (x0 : Option Nat) (x1 : Int32) (x2 : Int32) (x3 : Int32) (x4 : Int32) (x5 : Int32) (x6 : Int32) (x7 : Int32) (h : zH) : Option (Int32 × zH) := z_it (fun s : (Option Nat) × Int32 × Int32 × Int32 × Int32 × Int32 × Int32 × Int32 × zH => f_X11_eats_c6 s.1 s.2.1 s.2.2.1 s.2.2.2.1 s.2.2.2.2.1 s.2.2.2.2.2.1 s.2.2.2.2.2.2.1 s.2.2.2.2.2.2.2.1 s.2.2.2.2.2.2.2.2) (x0, x1, x2, x3, x4, x5, x6, x7, h)
noncomputable def f_X11_eats (x0 : Option Nat) (x1 : Int32) (x2 : Int32) (x3 : Int32) (x4 : Int32) (x5 : Int32) (h : zH) : Option (Int32 × zH) :=
  f_X11_eats_b6 x0 x1 x2 x3 x4 x5 (0 : Int32) (0 : Int32) h
noncomputable def f_X11_fewest_c97 (x0 : Option Nat) (x1 : Int32) (x2 : Int32) (x3 : Int32) (x4 : Int32) (x5 : Int32) (x6 : Int32) (h : zH) : Option (((Option Nat) × Int32 × Int32 × Int32 × Int32 × Int32 × Int32 × zH) ⊕ (((Option Nat) × Int32 × Int32 × Int32 × Int32 × Int32 × zH) ⊕ (Int32 × zH))) :=
  z_b2 (f_X11_power x5 h) fun v2 h1 =>
  if v2 ≤ x6 then
    z_i1 (
    some (Sum.inl (x0, x1, x2, x3, x4, x5 + (1 : Int32), h1)))
  else
    (z_ck h1 11 x0).bind fun _ =>
    z_b2 (f_X11_eats x0 x1 x2 x3 x5 x6 h1) fun v5 h4 =>
    if v5 = (0 : Int32) then
      some (Sum.inl (x0, x1, x2, x3, x4, x5, x6 + (1 : Int32), h4))
    else
      z_i1 (z_i1 (
      if x4 = (0 : Int32) then
        some (x5, h4)
      else
        if x4 ≤ x5 then
          some ((x6 >>> (((2 : Int32) * (x5 - x4)) &&& 31)) &&& (3 : Int32), h4)
        else
          some ((-1 : Int32), h4)))
noncomputable def f_X11_fewest_b97 (x0 : Option Nat) (x1 : Int32) (x2 : Int32) (x3 : Int32) (x4 : Int32) (x5 : Int32) (x6 : Int32) (h : zH) : Option (((Option Nat) × Int32 × Int32 × Int32 × Int32 × Int32 × zH) ⊕ (Int32 × zH)) := z_it (fun s : (Option Nat) × Int32 × Int32 × Int32 × Int32 × Int32 × Int32 × zH => f_X11_fewest_c97 s.1 s.2.1 s.2.2.1 s.2.2.2.1 s.2.2.2.2.1 s.2.2.2.2.2.1 s.2.2.2.2.2.2.1 s.2.2.2.2.2.2.2) (x0, x1, x2, x3, x4, x5, x6, h)
noncomputable def f_X11_fewest_c88 (x0 : Option Nat) (x1 : Int32) (x2 : Int32) (x3 : Int32) (x4 : Int32) (x5 : Int32) (h : zH) : Option (((Option Nat) × Int32 × Int32 × Int32 × Int32 × Int32 × zH) ⊕ (Int32 × zH)) :=
  if (5 : Int32) ≤ x5 then
    z_i1 (
    some ((-4 : Int32), h))
  else
    f_X11_fewest_b97 x0 x1 x2 x3 x4 x5 (0 : Int32) h
noncomputable def f_X11_fewest_b88 (x0 : Option Nat) (x1 : Int32) (x2 : Int32) (x3 : Int32) (x4 : Int32) (x5 : Int32) (h : zH) : Option (Int32 × zH) := z_it (fun s : (Option Nat) × Int32 × Int32 × Int32 × Int32 × Int32 × zH => f_X11_fewest_c88 s.1 s.2.1 s.2.2.1 s.2.2.2.1 s.2.2.2.2.1 s.2.2.2.2.2.1 s.2.2.2.2.2.2) (x0, x1, x2, x3, x4, x5, h)
noncomputable def f_X11_fewest_c57 (x0 : Option Nat) (x1 : Int32) (x2 : Int32) (x3 : Int32) (x4 : Int32) (x5 : Int32) (h : zH) : Option (((Option Nat) × Int32 × Int32 × Int32 × Int32 × Int32 × zH) ⊕ (Int32 × zH)) :=
  if (530 : Int32) ≤ x5 then
    z_i1 (
    f_X11_fewest_b88 x0 x1 x2 x3 x4 (1 : Int32) h)
  else
    (z_gA h 11 3 x0).bind fun v1 =>
    (z_gA h 11 0 x0).bind fun v2 =>
    (z_aI h v2 x5).bind fun v3 =>
    (z_sI h v1 x5 v3).bind fun h4 =>
    some (Sum.inl (x0, x1, x2, x3, x4, x5 + (1 : Int32), h4))
noncomputable def f_X11_fewest_b57 (x0 : Option Nat) (x1 : Int32) (x2 : Int32) (x3 : Int32) (x4 : Int32) (x5 : Int32) (h : zH) : Option (Int32 × zH) := z_it (fun s : (Option Nat) × Int32 × Int32 × Int32 × Int32 × Int32 × zH => f_X11_fewest_c57 s.1 s.2.1 s.2.2.1 s.2.2.2.1 s.2.2.2.2.1 s.2.2.2.2.2.1 s.2.2.2.2.2.2) (x0, x1, x2, x3, x4, x5, h)
noncomputable def f_X11_fewest (x0 : Option Nat) (x1 : Int32) (x2 : Int32) (x3 : Int32) (x4 : Int32) (h : zH) : Option (Int32 × zH) :=
  (z_ck h 11 x0).bind fun _ =>
  z_b2 (f_X11_isArm x0 x1 h) fun v3 h2 =>
  if v3 = (0 : Int32) then
    some ((-1 : Int32), h2)
  else
    (z_ck h2 11 x0).bind fun _ =>
    z_b2 (f_X11_isThing x0 x2 h2) fun v6 h5 =>
    if v6 = (0 : Int32) then
      some ((-1 : Int32), h5)
    else
      z_b2 (f_X11_in x3 (1 : Int32) (20 : Int32) h5) fun v8 h7 =>
      if v8 = (0 : Int32) then
        some ((-1 : Int32), h7)
      else
        z_b2 (f_X11_in x4 (0 : Int32) (4 : Int32) h7) fun v10 h9 =>
        if v10 = (0 : Int32) then
          some ((-1 : Int32), h9)
        else
          (z_gA h9 11 0 x0).bind fun v11 =>
          z_b2 (f_X11_thingAt x2 h9) fun v13 h12 =>
          (z_aI h12 v11 v13).bind fun v14 =>
          if v14 = (2 : Int32) then
            some ((-2 : Int32), h12)
          else
            f_X11_fewest_b57 x0 x1 x2 x3 x4 (0 : Int32) h12
noncomputable def f_X11_image_c13 (x0 : Option Nat) (x1 : Int32) (x2 : Int32) (h : zH) : Option (((Option Nat) × Int32 × Int32 × zH) ⊕ (Int32 × zH)) :=
  if (530 : Int32) ≤ x2 then
    z_i1 (
    (z_gA h 11 2 x0).bind fun v1 =>
    (z_sB h v1 x1 (1 : Int32)).bind fun h2 =>
    some ((1 : Int32), h2))
  else
    (z_gA h 11 1 x0).bind fun v3 =>
    (z_gA h 11 0 x0).bind fun v4 =>
    (z_aI h v4 x2).bind fun v5 =>
    (z_sI h v3 (((530 : Int32) * x1) + x2) v5).bind fun h6 =>
    some (Sum.inl (x0, x1, x2 + (1 : Int32), h6))
noncomputable def f_X11_image_b13 (x0 : Option Nat) (x1 : Int32) (x2 : Int32) (h : zH) : Option (Int32 × zH) := z_it (fun s : (Option Nat) × Int32 × Int32 × zH => f_X11_image_c13 s.1 s.2.1 s.2.2.1 s.2.2.2) (x0, x1, x2, h)
noncomputable def f_X11_image (x0 : Option Nat) (x1 : Int32) (h : zH) : Option (Int32 × zH) :=
  z_b2 (f_X11_in x1 (0 : Int32) (1 : Int32) h) fun v2 h1 =>
  if v2 = (0 : Int32) then
    some ((-1 : Int32), h1)
  else
    f_X11_image_b13 x0 x1 (0 : Int32) h1
noncomputable def f_X11_restore_c25 (x0 : Option Nat) (x1 : Int32) (x2 : Int32) (h : zH) : Option (((Option Nat) × Int32 × Int32 × zH) ⊕ (Int32 × zH)) :=
  if (530 : Int32) ≤ x2 then
    z_i1 (
    some ((1 : Int32), h))
  else
    (z_gA h 11 0 x0).bind fun v1 =>
    (z_gA h 11 1 x0).bind fun v2 =>
    (z_aI h v2 (((530 : Int32) * x1) + x2)).bind fun v3 =>
    (z_sI h v1 x2 v3).bind fun h4 =>
    some (Sum.inl (x0, x1, x2 + (1 : Int32), h4))
noncomputable def f_X11_restore_b25 (x0 : Option Nat) (x1 : Int32) (x2 : Int32) (h : zH) : Option (Int32 × zH) := z_it (fun s : (Option Nat) × Int32 × Int32 × zH => f_X11_restore_c25 s.1 s.2.1 s.2.2.1 s.2.2.2) (x0, x1, x2, h)
noncomputable def f_X11_restore (x0 : Option Nat) (x1 : Int32) (h : zH) : Option (Int32 × zH) :=
  z_b2 (f_X11_in x1 (0 : Int32) (1 : Int32) h) fun v2 h1 =>
  if v2 = (0 : Int32) then
    some ((-1 : Int32), h1)
  else
    (z_gA h1 11 2 x0).bind fun v3 =>
    (z_aB h1 v3 x1).bind fun v4 =>
    if v4 = (0 : Int32) then
      some ((-4 : Int32), h1)
    else
      f_X11_restore_b25 x0 x1 (0 : Int32) h1
noncomputable def f_X11_bars (x0 : Option Nat) (x1 : Int32) (x2 : Int32) (x3 : Int32) (x4 : Int32) (h : zH) : Option (Int32 × zH) :=
  (z_ck h 11 x0).bind fun _ =>
  z_b2 (f_X11_isArm x0 x1 h) fun v3 h2 =>
  if v3 = (0 : Int32) then
    some ((-1 : Int32), h2)
  else
    z_b2 (f_X11_isSheet x2 h2) fun v5 h4 =>
    if v5 = (0 : Int32) then
      some ((-1 : Int32), h4)
    else
      z_b2 (f_X11_in x3 (1 : Int32) (2 : Int32) h4) fun v7 h6 =>
      if v7 = (0 : Int32) then
        some ((-1 : Int32), h6)
      else
        (z_gA h6 11 6 x0).bind fun v8 =>
        (z_aI h6 v8 x2).bind fun v9 =>
        if (0 : Int32) ≤ v9 then
          (z_gA h6 11 6 x0).bind fun v10 =>
          (z_aI h6 v10 x2).bind fun v11 =>
          if v11 = x3 then
            if x4 < (0 : Int32) then
              some ((-13 : Int32), h6)
            else
              (z_gA h6 11 7 x0).bind fun v12 =>
              (z_aI h6 v12 x2).bind fun v13 =>
              (z_ck h6 11 x0).bind fun _ =>
              z_b2 (f_X11_pieces x0 x1 h6) fun v16 h15 =>
              if x4 ≤ (v13 - v16) then
                some ((0 : Int32), h15)
              else
                some ((-13 : Int32), h15)
          else
            some ((-12 : Int32), h6)
        else
          some ((-11 : Int32), h6)
noncomputable def f_X11_film_c22 (x0 : Option Nat) (x1 : Int32) (x2 : Int32) (x4 : Int32) (x6 : Int32) (h : zH) : Option (((Option Nat) × Int32 × Int32 × Int32 × Int32 × zH) ⊕ (Int32 × zH)) :=
  (z_ck h 11 x0).bind fun _ =>
  z_b2 (f_X11_pieces x0 x1 h) fun v3 h2 =>
  if v3 ≤ x6 then
    z_i1 (
    (z_ck h2 11 x0).bind fun _ =>
    z_b2 (f_X11_pieces x0 x1 h2) fun v6 h5 =>
    some (v6, h5))
  else
    (z_gA h2 11 8 x0).bind fun v7 =>
    (z_ck h2 11 x0).bind fun _ =>
    z_b2 (f_X11_cell x0 x1 x6 h2) fun v10 h9 =>
    (z_sI h9 v7 ((((64 : Int32) * x2) + x4) + x6) v10).bind fun h11 =>
    some (Sum.inl (x0, x1, x2, x4, x6 + (1 : Int32), h11))
noncomputable def f_X11_film_b22 (x0 : Option Nat) (x1 : Int32) (x2 : Int32) (x4 : Int32) (x6 : Int32) (h : zH) : Option (Int32 × zH) := z_it (fun s : (Option Nat) × Int32 × Int32 × Int32 × Int32 × zH => f_X11_film_c22 s.1 s.2.1 s.2.2.1 s.2.2.2.1 s.2.2.2.2.1 s.2.2.2.2.2) (x0, x1, x2, x4, x6, h)
noncomputable def f_X11_film (x0 : Option Nat) (x1 : Int32) (x2 : Int32) (x3 : Int32) (x4 : Int32) (h : zH) : Option (Int32 × zH) :=
  (z_ck h 11 x0).bind fun _ =>
  z_b2 (f_X11_bars x0 x1 x2 x3 x4 h) fun v3 h2 =>
  if (0 : Int32) ≤ v3 then
    f_X11_film_b22 x0 x1 x2 x4 (0 : Int32) h2
  else
    some (v3, h2)
noncomputable def f_X11_differs_c22 (x0 : Option Nat) (x1 : Int32) (x2 : Int32) (x4 : Int32) (x6 : Int32) (h : zH) : Option (((Option Nat) × Int32 × Int32 × Int32 × Int32 × zH) ⊕ (Int32 × zH)) :=
  (z_ck h 11 x0).bind fun _ =>
  z_b2 (f_X11_pieces x0 x1 h) fun v3 h2 =>
  if v3 ≤ x6 then
    z_i1 (
    some ((-4 : Int32), h2))
  else
    (z_gA h2 11 8 x0).bind fun v4 =>
    (z_aI h2 v4 ((((64 : Int32) * x2) + x4) + x6)).bind fun v5 =>
    (z_ck h2 11 x0).bind fun _ =>
    z_b2 (f_X11_cell x0 x1 x6 h2) fun v8 h7 =>
    if v5 = v8 then
      some (Sum.inl (x0, x1, x2, x4, x6 + (1 : Int32), h7))
    else
      z_i1 (
      some (x6, h7))
noncomputable def f_X11_differs_b22 (x0 : Option Nat) (x1 : Int32) (x2 : Int32) (x4 : Int32) (x6 : Int32) (h : zH) : Option (Int32 × zH) := z_it (fun s : (Option Nat) × Int32 × Int32 × Int32 × Int32 × zH => f_X11_differs_c22 s.1 s.2.1 s.2.2.1 s.2.2.2.1 s.2.2.2.2.1 s.2.2.2.2.2) (x0, x1, x2, x4, x6, h)
noncomputable def f_X11_differs (x0 : Option Nat) (x1 : Int32) (x2 : Int32) (x3 : Int32) (x4 : Int32) (h : zH) : Option (Int32 × zH) :=
  (z_ck h 11 x0).bind fun _ =>
  z_b2 (f_X11_bars x0 x1 x2 x3 x4 h) fun v3 h2 =>
  if (0 : Int32) ≤ v3 then
    f_X11_differs_b22 x0 x1 x2 x4 (0 : Int32) h2
  else
    some (v3, h2)
noncomputable def f_X11_sheet_c48 (x0 : Option Nat) (x1 : Int32) (x3 : Int32) (x4 : Int32) (h : zH) : Option (((Option Nat) × Int32 × Int32 × Int32 × zH) ⊕ (Int32 × zH)) :=
  if (64 : Int32) ≤ x4 then
    z_i1 (
    some (x3, h))
  else
    (z_gA h 11 8 x0).bind fun v1 =>
    (z_sI h v1 (((64 : Int32) * x1) + x4) (0 : Int32)).bind fun h2 =>
    some (Sum.inl (x0, x1, x3, x4 + (1 : Int32), h2))
noncomputable def f_X11_sheet_b48 (x0 : Option Nat) (x1 : Int32) (x3 : Int32) (x4 : Int32) (h : zH) : Option (Int32 × zH) := z_it (fun s : (Option Nat) × Int32 × Int32 × Int32 × zH => f_X11_sheet_c48 s.1 s.2.1 s.2.2.1 s.2.2.2.1 s.2.2.2.2) (x0, x1, x3, x4, h)
noncomputable def f_X11_sheet (x0 : Option Nat) (x1 : Int32) (x2 : Int32) (x3 : Int32) (h : zH) : Option (Int32 × zH) :=
  z_b2 (f_X11_isSheet x1 h) fun v2 h1 =>
  if v2 = (0 : Int32) then
    some ((-1 : Int32), h1)
  else
    z_b2 (f_X11_in x2 (0 : Int32) (2 : Int32) h1) fun v4 h3 =>
    if v4 = (0 : Int32) then
      some ((-1 : Int32), h3)
    else
      if x3 ≤ (64 : Int32) then
        if (0 : Int32) ≤ x3 then
          (z_gA h3 11 6 x0).bind fun v5 =>
          (z_sI h3 v5 x1 x2).bind fun h6 =>
          (z_gA h6 11 7 x0).bind fun v7 =>
          (z_sI h6 v7 x1 x3).bind fun h8 =>
          f_X11_sheet_b48 x0 x1 x3 (0 : Int32) h8
        else
          some ((-14 : Int32), h3)
      else
        some ((-1 : Int32), h3)
noncomputable def f_X11_drop (x0 : Option Nat) (x1 : Int32) (h : zH) : Option (Int32 × zH) :=
  z_b2 (f_X11_isSheet x1 h) fun v2 h1 =>
  if v2 = (0 : Int32) then
    some ((-1 : Int32), h1)
  else
    (z_gA h1 11 6 x0).bind fun v3 =>
    (z_aI h1 v3 x1).bind fun v4 =>
    if (0 : Int32) ≤ v4 then
      (z_gA h1 11 6 x0).bind fun v5 =>
      (z_sI h1 v5 x1 (-4 : Int32)).bind fun h6 =>
      (z_gA h6 11 7 x0).bind fun v7 =>
      (z_aI h6 v7 x1).bind fun v8 =>
      some (v8, h6)
    else
      some ((-11 : Int32), h1)
noncomputable def f_X11_item (x0 : Option Nat) (x1 : Int32) (x2 : Int32) (x3 : Int32) (x4 : Int32) (h : zH) : Option (Int32 × zH) :=
  z_b2 (f_X11_isSheet x1 h) fun v2 h1 =>
  if v2 = (0 : Int32) then
    some ((-1 : Int32), h1)
  else
    z_b2 (f_X11_in x2 (0 : Int32) (2 : Int32) h1) fun v4 h3 =>
    if v4 = (0 : Int32) then
      some ((-1 : Int32), h3)
    else
      (z_gA h3 11 6 x0).bind fun v5 =>
      (z_aI h3 v5 x1).bind fun v6 =>
      if (0 : Int32) ≤ v6 then
        (z_gA h3 11 6 x0).bind fun v7 =>
        (z_aI h3 v7 x1).bind fun v8 =>
        if v8 = x2 then
          (z_gA h3 11 7 x0).bind fun v9 =>
          (z_aI h3 v9 x1).bind fun v10 =>
          z_b2 (f_X11_in x3 (0 : Int32) (v10 - (1 : Int32)) h3) fun v12 h11 =>
          if v12 = (0 : Int32) then
            some ((-13 : Int32), h11)
          else
            (z_gA h11 11 8 x0).bind fun v13 =>
            if x2 = (0 : Int32) then
              if x4 = (0 : Int32) then
                (z_sI h11 v13 (((64 : Int32) * x1) + x3) (0 : Int32)).bind fun h16 =>
                some ((1 : Int32), h16)
              else
                (z_sI h11 v13 (((64 : Int32) * x1) + x3) (1 : Int32)).bind fun h17 =>
                some ((1 : Int32), h17)
            else
              if x2 = (1 : Int32) then
                (z_sI h11 v13 (((64 : Int32) * x1) + x3) ((Int32.toInt8 x4).toInt32)).bind fun h15 =>
                some ((1 : Int32), h15)
              else
                (z_sI h11 v13 (((64 : Int32) * x1) + x3) x4).bind fun h14 =>
                some ((1 : Int32), h14)
        else
          some ((-12 : Int32), h3)
      else
        some ((-11 : Int32), h3)
noncomputable def f_X11_copy_c147 (x0 : Option Nat) (x3 : Int32) (x4 : Int32) (x5 : Int32) (x6 : Int32) (h : zH) : Option (((Option Nat) × Int32 × Int32 × Int32 × Int32 × zH) ⊕ (Int32 × zH)) :=
  if x5 ≤ x6 then
    z_i1 (
    some (x5, h))
  else
    (z_gA h 11 8 x0).bind fun v1 =>
    (z_gA h 11 21 x0).bind fun v2 =>
    (z_aI h v2 x6).bind fun v3 =>
    (z_sI h v1 ((((64 : Int32) * x3) + x4) + x6) v3).bind fun h4 =>
    some (Sum.inl (x0, x3, x4, x5, x6 + (1 : Int32), h4))
noncomputable def f_X11_copy_b147 (x0 : Option Nat) (x3 : Int32) (x4 : Int32) (x5 : Int32) (x6 : Int32) (h : zH) : Option (Int32 × zH) := z_it (fun s : (Option Nat) × Int32 × Int32 × Int32 × Int32 × zH => f_X11_copy_c147 s.1 s.2.1 s.2.2.1 s.2.2.2.1 s.2.2.2.2.1 s.2.2.2.2.2) (x0, x3, x4, x5, x6, h)
noncomputable def f_X11_copy_c110 (x0 : Option Nat) (x1 : Int32) (x2 : Int32) (x3 : Int32) (x4 : Int32) (x5 : Int32) (x6 : Int32) (h : zH) : Option (((Option Nat) × Int32 × Int32 × Int32 × Int32 × Int32 × Int32 × zH) ⊕ (Int32 × zH)) :=
  if x5 ≤ x6 then
    z_i1 (
    f_X11_copy_b147 x0 x3 x4 x5 (0 : Int32) h)
  else
    (z_gA h 11 21 x0).bind fun v1 =>
    (z_gA h 11 8 x0).bind fun v2 =>
    (z_aI h v2 ((((64 : Int32) * x1) + x2) + x6)).bind fun v3 =>
    (z_sI h v1 x6 v3).bind fun h4 =>
    some (Sum.inl (x0, x1, x2, x3, x4, x5, x6 + (1 : Int32), h4))
noncomputable def f_X11_copy_b110 (x0 : Option Nat) (x1 : Int32) (x2 : Int32) (x3 : Int32) (x4 : Int32) (x5 : Int32) (x6 : Int32) (h : zH) : Option (Int32 × zH) := z_it (fun s : (Option Nat) × Int32 × Int32 × Int32 × Int32 × Int32 × Int32 × zH => f_X11_copy_c110 s.1 s.2.1 s.2.2.1 s.2.2.2.1 s.2.2.2.2.1 s.2.2.2.2.2.1 s.2.2.2.2.2.2.1 s.2.2.2.2.2.2.2) (x0, x1, x2, x3, x4, x5, x6, h)
noncomputable def f_X11_copy (x0 : Option Nat) (x1 : Int32) (x2 : Int32) (x3 : Int32) (x4 : Int32) (x5 : Int32) (h : zH) : Option (Int32 × zH) :=
  z_b2 (f_X11_isSheet x1 h) fun v2 h1 =>
  if v2 = (0 : Int32) then
    some ((-1 : Int32), h1)
  else
    z_b2 (f_X11_isSheet x3 h1) fun v4 h3 =>
    if v4 = (0 : Int32) then
      some ((-1 : Int32), h3)
    else
      (z_gA h3 11 6 x0).bind fun v5 =>
      (z_aI h3 v5 x1).bind fun v6 =>
      if v6 < (0 : Int32) then
        some ((-11 : Int32), h3)
      else
        (z_gA h3 11 6 x0).bind fun v7 =>
        (z_aI h3 v7 x3).bind fun v8 =>
        if (0 : Int32) ≤ v8 then
          (z_gA h3 11 6 x0).bind fun v9 =>
          (z_aI h3 v9 x1).bind fun v10 =>
          (z_gA h3 11 6 x0).bind fun v11 =>
          (z_aI h3 v11 x3).bind fun v12 =>
          if v10 = v12 then
            if x2 < (0 : Int32) then
              some ((-13 : Int32), h3)
            else
              if x4 < (0 : Int32) then
                some ((-13 : Int32), h3)
              else
                if x5 < (0 : Int32) then
                  some ((-13 : Int32), h3)
                else
                  (z_gA h3 11 7 x0).bind fun v13 =>
                  (z_aI h3 v13 x1).bind fun v14 =>
                  if (0 : Int32) < (lg_cmp ((Int32.toInt64 x2) + (Int32.toInt64 x5)) (Int32.toInt64 v14)) then
                    some ((-13 : Int32), h3)
                  else
                    (z_gA h3 11 7 x0).bind fun v15 =>
                    (z_aI h3 v15 x3).bind fun v16 =>
                    if (lg_cmp ((Int32.toInt64 x4) + (Int32.toInt64 x5)) (Int32.toInt64 v16)) ≤ (0 : Int32) then
                      f_X11_copy_b110 x0 x1 x2 x3 x4 x5 (0 : Int32) h3
                    else
                      some ((-13 : Int32), h3)
          else
            some ((-12 : Int32), h3)
        else
          some ((-11 : Int32), h3)
noncomputable def f_L_law_b1200 (tS : Nat) (x0 : Option Nat) (x1 : Option Nat) (x2 : Option Nat) (x3 : Int32) (h : zH) (nx z : Nat) : Option ((Nat × Nat) × (((Option Nat) × (Option Nat) × (Option Nat) × Int32 × zH) ⊕ (Int32 × zH))) :=
  some ((nx, z), Sum.inl (x0, x1, x2, x3 + (6 : Int32), h))
noncomputable def f_L_law_b211 (tS : Nat) (x0 : Option Nat) (x1 : Option Nat) (x2 : Option Nat) (x3 : Int32) (s0 : Int32) (s1 : Option Nat) (s2 : Int32) (s3 : Int32) (s4 : Int32) (h : zH) (nx z : Nat) : Option ((Nat × Nat) × (((Option Nat) × (Option Nat) × (Option Nat) × Int32 × zH) ⊕ (Int32 × zH))) :=
  (z_ck h 11 s1).bind fun _ =>
  z_b2 (f_X11_wall s1 s2 s3 s4 h) fun v3 h2 =>
  if s0 = v3 then
    f_L_law_b1200 tS x0 x1 x2 x3 h2 nx z
  else
    z_i1m (
    some ((nx, z), ((0 : Int32), h2)))
noncomputable def f_L_law_b184 (tS : Nat) (x0 : Option Nat) (x1 : Option Nat) (x2 : Option Nat) (x3 : Int32) (s0 : Option Nat) (s1 : Int32) (s2 : Int32) (s3 : Int32) (h : zH) (nx z : Nat) : Option ((Nat × Nat) × (((Option Nat) × (Option Nat) × (Option Nat) × Int32 × zH) ⊕ (Int32 × zH))) :=
  (z_ck h 10 s0).bind fun _ =>
  z_b2 (f_X10_wall s0 s1 s2 s3 h) fun v3 h2 =>
  (z_aI h2 x0 (x3 + (1 : Int32))).bind fun v4 =>
  (z_aI h2 x0 (x3 + (2 : Int32))).bind fun v5 =>
  (z_aI h2 x0 (x3 + (3 : Int32))).bind fun v6 =>
  if v6 = (0 : Int32) then
    f_L_law_b211 tS x0 x1 x2 x3 v3 x2 v4 v5 (0 : Int32) h2 nx z
  else
    f_L_law_b211 tS x0 x1 x2 x3 v3 x2 v4 v5 (1 : Int32) h2 nx z
noncomputable def f_L_law_b542 (tS : Nat) (x0 : Option Nat) (x1 : Option Nat) (x2 : Option Nat) (x3 : Int32) (s0 : Int32) (h : zH) (nx z : Nat) : Option ((Nat × Nat) × (((Option Nat) × (Option Nat) × (Option Nat) × Int32 × zH) ⊕ (Int32 × zH))) :=
  (z_aI h x0 (x3 + (1 : Int32))).bind fun v1 =>
  (z_ck h 11 x2).bind fun _ =>
  z_b2 (f_X11_rules x2 v1 h) fun v4 h3 =>
  if s0 = v4 then
    f_L_law_b1200 tS x0 x1 x2 x3 h3 nx z
  else
    z_i1m (
    some ((nx, z), ((0 : Int32), h3)))
noncomputable def f_L_law_b875 (tS : Nat) (x0 : Option Nat) (x1 : Option Nat) (x2 : Option Nat) (x3 : Int32) (s0 : Int32) (h : zH) (nx z : Nat) : Option ((Nat × Nat) × (((Option Nat) × (Option Nat) × (Option Nat) × Int32 × zH) ⊕ (Int32 × zH))) :=
  (z_aI h x0 (x3 + (1 : Int32))).bind fun v1 =>
  (z_ck h 11 x2).bind fun _ =>
  z_b2 (f_X11_image x2 v1 h) fun v4 h3 =>
  if s0 = v4 then
    f_L_law_b1200 tS x0 x1 x2 x3 h3 nx z
  else
    z_i1m (
    some ((nx, z), ((0 : Int32), h3)))
noncomputable def f_L_law_c18 (tS : Nat) (x0 : Option Nat) (x1 : Option Nat) (x2 : Option Nat) (x3 : Int32) (h : zH) (nx z : Nat) : Option ((Nat × Nat) × (((Option Nat) × (Option Nat) × (Option Nat) × Int32 × zH) ⊕ (Int32 × zH))) :=
  (z_len h x0).bind fun v1 =>
  if (v1 - (6 : Int32)) < x3 then
    z_i1m (
    some ((nx, z), ((1 : Int32), h)))
  else
    (z_aI h x0 x3).bind fun v2 =>
    if (v2 &&& (31 : Int32)) = (0 : Int32) then
      (z_aI h x0 (x3 + (1 : Int32))).bind fun v3 =>
      (z_aI h x0 (x3 + (2 : Int32))).bind fun v4 =>
      (z_aI h x0 (x3 + (3 : Int32))).bind fun v5 =>
      if v5 = (0 : Int32) then
        f_L_law_b184 tS x0 x1 x2 x3 x1 v3 v4 (0 : Int32) h nx z
      else
        f_L_law_b184 tS x0 x1 x2 x3 x1 v3 v4 (1 : Int32) h nx z
    else
    if (v2 &&& (31 : Int32)) = (1 : Int32) then
      (z_aI h x0 (x3 + (1 : Int32))).bind fun v6 =>
      (z_ck h 10 x1).bind fun _ =>
      z_b2 (f_X10_walls x1 v6 h) fun v9 h8 =>
      (z_aI h8 x0 (x3 + (1 : Int32))).bind fun v10 =>
      (z_ck h8 11 x2).bind fun _ =>
      z_b2 (f_X11_walls x2 v10 h8) fun v13 h12 =>
      if v9 = v13 then
        f_L_law_b1200 tS x0 x1 x2 x3 h12 nx z
      else
        z_i1m (
        some ((nx, z), ((0 : Int32), h12)))
    else
    if (v2 &&& (31 : Int32)) = (2 : Int32) then
      (z_aI h x0 (x3 + (1 : Int32))).bind fun v14 =>
      (z_aI h x0 (x3 + (2 : Int32))).bind fun v15 =>
      (z_aI h x0 (x3 + (3 : Int32))).bind fun v16 =>
      (z_aI h x0 (x3 + (4 : Int32))).bind fun v17 =>
      (z_ck h 10 x1).bind fun _ =>
      z_b2 (f_X10_arm tS x1 v14 v15 v16 v17 h) fun v20 h19 =>
      (z_aI h19 x0 (x3 + (1 : Int32))).bind fun v21 =>
      (z_aI h19 x0 (x3 + (2 : Int32))).bind fun v22 =>
      (z_aI h19 x0 (x3 + (3 : Int32))).bind fun v23 =>
      (z_aI h19 x0 (x3 + (4 : Int32))).bind fun v24 =>
      (z_ck h19 11 x2).bind fun _ =>
      z_b2 (f_X11_arm x2 v21 v22 v23 v24 h19) fun v27 h26 =>
      if v20 = v27 then
        f_L_law_b1200 tS x0 x1 x2 x3 h26 nx z
      else
        z_i1m (
        some ((nx, z), ((0 : Int32), h26)))
    else
    if (v2 &&& (31 : Int32)) = (3 : Int32) then
      (z_aI h x0 (x3 + (1 : Int32))).bind fun v28 =>
      (z_aI h x0 (x3 + (2 : Int32))).bind fun v29 =>
      (z_aI h x0 (x3 + (3 : Int32))).bind fun v30 =>
      (z_ck h 10 x1).bind fun _ =>
      z_b2 (f_X10_thing x1 v28 v29 v30 h) fun v33 h32 =>
      (z_aI h32 x0 (x3 + (1 : Int32))).bind fun v34 =>
      (z_aI h32 x0 (x3 + (2 : Int32))).bind fun v35 =>
      (z_aI h32 x0 (x3 + (3 : Int32))).bind fun v36 =>
      (z_ck h32 11 x2).bind fun _ =>
      z_b2 (f_X11_thing x2 v34 v35 v36 h32) fun v39 h38 =>
      if v33 = v39 then
        f_L_law_b1200 tS x0 x1 x2 x3 h38 nx z
      else
        z_i1m (
        some ((nx, z), ((0 : Int32), h38)))
    else
    if (v2 &&& (31 : Int32)) = (4 : Int32) then
      (z_aI h x0 (x3 + (1 : Int32))).bind fun v40 =>
      (z_aI h x0 (x3 + (2 : Int32))).bind fun v41 =>
      (z_aI h x0 (x3 + (3 : Int32))).bind fun v42 =>
      (z_ck h 10 x1).bind fun _ =>
      z_b2 (f_X10_piece x1 v40 v41 v42 h) fun v45 h44 =>
      (z_aI h44 x0 (x3 + (1 : Int32))).bind fun v46 =>
      (z_aI h44 x0 (x3 + (2 : Int32))).bind fun v47 =>
      (z_aI h44 x0 (x3 + (3 : Int32))).bind fun v48 =>
      (z_ck h44 11 x2).bind fun _ =>
      z_b2 (f_X11_piece x2 v46 v47 v48 h44) fun v51 h50 =>
      if v45 = v51 then
        f_L_law_b1200 tS x0 x1 x2 x3 h50 nx z
      else
        z_i1m (
        some ((nx, z), ((0 : Int32), h50)))
    else
    if (v2 &&& (31 : Int32)) = (5 : Int32) then
      (z_aI h x0 (x3 + (1 : Int32))).bind fun v52 =>
      (z_aI h x0 (x3 + (2 : Int32))).bind fun v53 =>
      (z_ck h 10 x1).bind fun _ =>
      z_b2 (f_X10_told x1 v52 v53 h) fun v56 h55 =>
      (z_aI h55 x0 (x3 + (1 : Int32))).bind fun v57 =>
      (z_aI h55 x0 (x3 + (2 : Int32))).bind fun v58 =>
      (z_ck h55 11 x2).bind fun _ =>
      z_b2 (f_X11_told x2 v57 v58 h55) fun v61 h60 =>
      if v56 = v61 then
        f_L_law_b1200 tS x0 x1 x2 x3 h60 nx z
      else
        z_i1m (
        some ((nx, z), ((0 : Int32), h60)))
    else
    if (v2 &&& (31 : Int32)) = (6 : Int32) then
      (z_aI h x0 (x3 + (1 : Int32))).bind fun v62 =>
      (z_ck h 10 x1).bind fun _ =>
      z_b2 (f_X10_form x1 v62 h) fun v65 h64 =>
      (z_aI h64 x0 (x3 + (1 : Int32))).bind fun v66 =>
      (z_ck h64 11 x2).bind fun _ =>
      z_b2 (f_X11_form x2 v66 h64) fun v69 h68 =>
      if v65 = v69 then
        f_L_law_b1200 tS x0 x1 x2 x3 h68 nx z
      else
        z_i1m (
        some ((nx, z), ((0 : Int32), h68)))
    else
    if (v2 &&& (31 : Int32)) = (7 : Int32) then
      (z_aI h x0 (x3 + (1 : Int32))).bind fun v70 =>
      (z_aI h x0 (x3 + (2 : Int32))).bind fun v71 =>
      (z_ck h 10 x1).bind fun _ =>
      z_b2 (f_X10_flip tS x1 v70 v71 h) fun v74 h73 =>
      (z_aI h73 x0 (x3 + (1 : Int32))).bind fun v75 =>
      (z_aI h73 x0 (x3 + (2 : Int32))).bind fun v76 =>
      (z_ck h73 11 x2).bind fun _ =>
      z_b2 (f_X11_flip x2 v75 v76 h73) fun v79 h78 =>
      if v74 = v79 then
        f_L_law_b1200 tS x0 x1 x2 x3 h78 nx z
      else
        z_i1m (
        some ((nx, z), ((0 : Int32), h78)))
    else
    if (v2 &&& (31 : Int32)) = (8 : Int32) then
      (z_aI h x0 (x3 + (1 : Int32))).bind fun v80 =>
      (z_aI h x0 (x3 + (2 : Int32))).bind fun v81 =>
      (z_aI h x0 (x3 + (3 : Int32))).bind fun v82 =>
      (z_ck h 10 x1).bind fun _ =>
      z_b2 (f_X10_type x1 (((Int32.toInt64 v80) <<< (Int32.toInt64 (32 : Int32) &&& 63)) ||| ((Int32.toInt64 v81) &&& (4294967295 : Int64))) v82 h) fun v85 h84 =>
      (z_aI h84 x0 (x3 + (1 : Int32))).bind fun v86 =>
      (z_aI h84 x0 (x3 + (2 : Int32))).bind fun v87 =>
      (z_aI h84 x0 (x3 + (3 : Int32))).bind fun v88 =>
      (z_ck h84 11 x2).bind fun _ =>
      z_b2 (f_X11_type x2 (((Int32.toInt64 v86) <<< (Int32.toInt64 (32 : Int32) &&& 63)) ||| ((Int32.toInt64 v87) &&& (4294967295 : Int64))) v88 h84) fun v91 h90 =>
      if v85 = v91 then
        f_L_law_b1200 tS x0 x1 x2 x3 h90 nx z
      else
        z_i1m (
        some ((nx, z), ((0 : Int32), h90)))
    else
    if (v2 &&& (31 : Int32)) = (9 : Int32) then
      (z_aI h x0 (x3 + (1 : Int32))).bind fun v92 =>
      (z_ck h 10 x1).bind fun _ =>
      (f_X10_rules x1 v92 h nx z).bind fun n96 =>
      f_L_law_b542 tS x0 x1 x2 x3 n96.2.1 n96.2.2 n96.1.1 n96.1.2
    else
    if (v2 &&& (31 : Int32)) = (10 : Int32) then
      (z_aI h x0 (x3 + (1 : Int32))).bind fun v97 =>
      (z_aI h x0 (x3 + (2 : Int32))).bind fun v98 =>
      (z_ck h 10 x1).bind fun _ =>
      z_b2 (f_X10_head x1 v97 v98 h) fun v101 h100 =>
      (z_aI h100 x0 (x3 + (1 : Int32))).bind fun v102 =>
      (z_aI h100 x0 (x3 + (2 : Int32))).bind fun v103 =>
      (z_ck h100 11 x2).bind fun _ =>
      z_b2 (f_X11_head x2 v102 v103 h100) fun v106 h105 =>
      if v101 = v106 then
        f_L_law_b1200 tS x0 x1 x2 x3 h105 nx z
      else
        z_i1m (
        some ((nx, z), ((0 : Int32), h105)))
    else
    if (v2 &&& (31 : Int32)) = (11 : Int32) then
      (z_aI h x0 (x3 + (1 : Int32))).bind fun v107 =>
      (z_ck h 10 x1).bind fun _ =>
      z_b2 (f_X10_skin x1 v107 h) fun v110 h109 =>
      (z_aI h109 x0 (x3 + (1 : Int32))).bind fun v111 =>
      (z_ck h109 11 x2).bind fun _ =>
      z_b2 (f_X11_skin x2 v111 h109) fun v114 h113 =>
      if v110 = v114 then
        f_L_law_b1200 tS x0 x1 x2 x3 h113 nx z
      else
        z_i1m (
        some ((nx, z), ((0 : Int32), h113)))
    else
    if (v2 &&& (31 : Int32)) = (12 : Int32) then
      (z_aI h x0 (x3 + (1 : Int32))).bind fun v115 =>
      (z_ck h 10 x1).bind fun _ =>
      z_b2 (f_X10_ticks tS x1 v115 h) fun v118 h117 =>
      (z_aI h117 x0 (x3 + (1 : Int32))).bind fun v119 =>
      (z_ck h117 11 x2).bind fun _ =>
      z_b2 (f_X11_ticks x2 v119 h117) fun v122 h121 =>
      if v118 = v122 then
        f_L_law_b1200 tS x0 x1 x2 x3 h121 nx z
      else
        z_i1m (
        some ((nx, z), ((0 : Int32), h121)))
    else
    if (v2 &&& (31 : Int32)) = (13 : Int32) then
      (z_aI h x0 (x3 + (1 : Int32))).bind fun v123 =>
      (z_aI h x0 (x3 + (2 : Int32))).bind fun v124 =>
      (z_ck h 10 x1).bind fun _ =>
      z_b2 (f_X10_finds x1 v123 v124 h) fun v127 h126 =>
      (z_aI h126 x0 (x3 + (1 : Int32))).bind fun v128 =>
      (z_aI h126 x0 (x3 + (2 : Int32))).bind fun v129 =>
      (z_ck h126 11 x2).bind fun _ =>
      z_b2 (f_X11_finds x2 v128 v129 h126) fun v132 h131 =>
      if v127 = v132 then
        f_L_law_b1200 tS x0 x1 x2 x3 h131 nx z
      else
        z_i1m (
        some ((nx, z), ((0 : Int32), h131)))
    else
    if (v2 &&& (31 : Int32)) = (14 : Int32) then
      (z_aI h x0 (x3 + (1 : Int32))).bind fun v133 =>
      (z_aI h x0 (x3 + (2 : Int32))).bind fun v134 =>
      (z_ck h 10 x1).bind fun _ =>
      z_b2 (f_X10_cut x1 v133 v134 h) fun v137 h136 =>
      (z_aI h136 x0 (x3 + (1 : Int32))).bind fun v138 =>
      (z_aI h136 x0 (x3 + (2 : Int32))).bind fun v139 =>
      (z_ck h136 11 x2).bind fun _ =>
      z_b2 (f_X11_cut x2 v138 v139 h136) fun v142 h141 =>
      if v137 = v142 then
        f_L_law_b1200 tS x0 x1 x2 x3 h141 nx z
      else
        z_i1m (
        some ((nx, z), ((0 : Int32), h141)))
    else
    if (v2 &&& (31 : Int32)) = (15 : Int32) then
      (z_aI h x0 (x3 + (1 : Int32))).bind fun v143 =>
      (z_ck h 10 x1).bind fun _ =>
      z_b2 (f_X10_count x1 v143 h) fun v146 h145 =>
      (z_aI h145 x0 (x3 + (1 : Int32))).bind fun v147 =>
      (z_ck h145 11 x2).bind fun _ =>
      z_b2 (f_X11_count x2 v147 h145) fun v150 h149 =>
      if v146 = v150 then
        f_L_law_b1200 tS x0 x1 x2 x3 h149 nx z
      else
        z_i1m (
        some ((nx, z), ((0 : Int32), h149)))
    else
    if (v2 &&& (31 : Int32)) = (16 : Int32) then
      (z_aI h x0 (x3 + (1 : Int32))).bind fun v151 =>
      (z_ck h 10 x1).bind fun _ =>
      z_b2 (f_X10_forms tS x1 v151 h) fun v154 h153 =>
      (z_aI h153 x0 (x3 + (1 : Int32))).bind fun v155 =>
      (z_ck h153 11 x2).bind fun _ =>
      z_b2 (f_X11_forms x2 v155 h153) fun v158 h157 =>
      if v154 = v158 then
        f_L_law_b1200 tS x0 x1 x2 x3 h157 nx z
      else
        z_i1m (
        some ((nx, z), ((0 : Int32), h157)))
    else
    if (v2 &&& (31 : Int32)) = (17 : Int32) then
      (z_aI h x0 (x3 + (1 : Int32))).bind fun v159 =>
      (z_ck h 10 x1).bind fun _ =>
      z_b2 (f_X10_reach tS x1 v159 h) fun v162 h161 =>
      (z_aI h161 x0 (x3 + (1 : Int32))).bind fun v163 =>
      (z_ck h161 11 x2).bind fun _ =>
      z_b2 (f_X11_reach x2 v163 h161) fun v166 h165 =>
      if v162 = v166 then
        f_L_law_b1200 tS x0 x1 x2 x3 h165 nx z
      else
        z_i1m (
        some ((nx, z), ((0 : Int32), h165)))
    else
    if (v2 &&& (31 : Int32)) = (18 : Int32) then
      (z_aI h x0 (x3 + (1 : Int32))).bind fun v167 =>
      (z_aI h x0 (x3 + (2 : Int32))).bind fun v168 =>
      (z_aI h x0 (x3 + (3 : Int32))).bind fun v169 =>
      (z_ck h 10 x1).bind fun _ =>
      z_b2 (f_X10_far tS x1 v167 v168 v169 h) fun v172 h171 =>
      (z_aI h171 x0 (x3 + (1 : Int32))).bind fun v173 =>
      (z_aI h171 x0 (x3 + (2 : Int32))).bind fun v174 =>
      (z_aI h171 x0 (x3 + (3 : Int32))).bind fun v175 =>
      (z_ck h171 11 x2).bind fun _ =>
      z_b2 (f_X11_far x2 v173 v174 v175 h171) fun v178 h177 =>
      if v172 = v178 then
        f_L_law_b1200 tS x0 x1 x2 x3 h177 nx z
      else
        z_i1m (
        some ((nx, z), ((0 : Int32), h177)))
    else
    if (v2 &&& (31 : Int32)) = (19 : Int32) then
      (z_aI h x0 (x3 + (1 : Int32))).bind fun v179 =>
      (z_aI h x0 (x3 + (2 : Int32))).bind fun v180 =>
      (z_aI h x0 (x3 + (3 : Int32))).bind fun v181 =>
      (z_aI h x0 (x3 + (4 : Int32))).bind fun v182 =>
      (z_ck h 10 x1).bind fun _ =>
      z_b2 (f_X10_fewest tS x1 v179 v180 v181 v182 h) fun v185 h184 =>
      (z_aI h184 x0 (x3 + (1 : Int32))).bind fun v186 =>
      (z_aI h184 x0 (x3 + (2 : Int32))).bind fun v187 =>
      (z_aI h184 x0 (x3 + (3 : Int32))).bind fun v188 =>
      (z_aI h184 x0 (x3 + (4 : Int32))).bind fun v189 =>
      (z_ck h184 11 x2).bind fun _ =>
      z_b2 (f_X11_fewest x2 v186 v187 v188 v189 h184) fun v192 h191 =>
      if v185 = v192 then
        f_L_law_b1200 tS x0 x1 x2 x3 h191 nx z
      else
        z_i1m (
        some ((nx, z), ((0 : Int32), h191)))
    else
    if (v2 &&& (31 : Int32)) = (20 : Int32) then
      (z_aI h x0 (x3 + (1 : Int32))).bind fun v193 =>
      (z_ck h 10 x1).bind fun _ =>
      (f_X10_image x1 v193 h nx z).bind fun n197 =>
      f_L_law_b875 tS x0 x1 x2 x3 n197.2.1 n197.2.2 n197.1.1 n197.1.2
    else
    if (v2 &&& (31 : Int32)) = (21 : Int32) then
      (z_aI h x0 (x3 + (1 : Int32))).bind fun v198 =>
      (z_ck h 10 x1).bind fun _ =>
      z_b2 (f_X10_restore x1 v198 h) fun v201 h200 =>
      (z_aI h200 x0 (x3 + (1 : Int32))).bind fun v202 =>
      (z_ck h200 11 x2).bind fun _ =>
      z_b2 (f_X11_restore x2 v202 h200) fun v205 h204 =>
      if v201 = v205 then
        f_L_law_b1200 tS x0 x1 x2 x3 h204 nx z
      else
        z_i1m (
        some ((nx, z), ((0 : Int32), h204)))
    else
    if (v2 &&& (31 : Int32)) = (22 : Int32) then
      (z_aI h x0 (x3 + (1 : Int32))).bind fun v206 =>
      (z_aI h x0 (x3 + (2 : Int32))).bind fun v207 =>
      (z_aI h x0 (x3 + (3 : Int32))).bind fun v208 =>
      (z_aI h x0 (x3 + (4 : Int32))).bind fun v209 =>
      (z_ck h 10 x1).bind fun _ =>
      z_b2 (f_X10_film x1 v206 v207 v208 v209 h) fun v212 h211 =>
      (z_aI h211 x0 (x3 + (1 : Int32))).bind fun v213 =>
      (z_aI h211 x0 (x3 + (2 : Int32))).bind fun v214 =>
      (z_aI h211 x0 (x3 + (3 : Int32))).bind fun v215 =>
      (z_aI h211 x0 (x3 + (4 : Int32))).bind fun v216 =>
      (z_ck h211 11 x2).bind fun _ =>
      z_b2 (f_X11_film x2 v213 v214 v215 v216 h211) fun v219 h218 =>
      if v212 = v219 then
        f_L_law_b1200 tS x0 x1 x2 x3 h218 nx z
      else
        z_i1m (
        some ((nx, z), ((0 : Int32), h218)))
    else
    if (v2 &&& (31 : Int32)) = (23 : Int32) then
      (z_aI h x0 (x3 + (1 : Int32))).bind fun v220 =>
      (z_aI h x0 (x3 + (2 : Int32))).bind fun v221 =>
      (z_aI h x0 (x3 + (3 : Int32))).bind fun v222 =>
      (z_aI h x0 (x3 + (4 : Int32))).bind fun v223 =>
      (z_ck h 10 x1).bind fun _ =>
      z_b2 (f_X10_differs x1 v220 v221 v222 v223 h) fun v226 h225 =>
      (z_aI h225 x0 (x3 + (1 : Int32))).bind fun v227 =>
      (z_aI h225 x0 (x3 + (2 : Int32))).bind fun v228 =>
      (z_aI h225 x0 (x3 + (3 : Int32))).bind fun v229 =>
      (z_aI h225 x0 (x3 + (4 : Int32))).bind fun v230 =>
      (z_ck h225 11 x2).bind fun _ =>
      z_b2 (f_X11_differs x2 v227 v228 v229 v230 h225) fun v233 h232 =>
      if v226 = v233 then
        f_L_law_b1200 tS x0 x1 x2 x3 h232 nx z
      else
        z_i1m (
        some ((nx, z), ((0 : Int32), h232)))
    else
    if (v2 &&& (31 : Int32)) = (24 : Int32) then
      (z_aI h x0 (x3 + (1 : Int32))).bind fun v234 =>
      (z_aI h x0 (x3 + (2 : Int32))).bind fun v235 =>
      (z_aI h x0 (x3 + (3 : Int32))).bind fun v236 =>
      (z_ck h 10 x1).bind fun _ =>
      z_b2 (f_X10_sheet x1 v234 v235 v236 h) fun v239 h238 =>
      (z_aI h238 x0 (x3 + (1 : Int32))).bind fun v240 =>
      (z_aI h238 x0 (x3 + (2 : Int32))).bind fun v241 =>
      (z_aI h238 x0 (x3 + (3 : Int32))).bind fun v242 =>
      (z_ck h238 11 x2).bind fun _ =>
      z_b2 (f_X11_sheet x2 v240 v241 v242 h238) fun v245 h244 =>
      if v239 = v245 then
        f_L_law_b1200 tS x0 x1 x2 x3 h244 nx z
      else
        z_i1m (
        some ((nx, z), ((0 : Int32), h244)))
    else
    if (v2 &&& (31 : Int32)) = (25 : Int32) then
      (z_aI h x0 (x3 + (1 : Int32))).bind fun v246 =>
      (z_ck h 10 x1).bind fun _ =>
      z_b2 (f_X10_drop x1 v246 h) fun v249 h248 =>
      (z_aI h248 x0 (x3 + (1 : Int32))).bind fun v250 =>
      (z_ck h248 11 x2).bind fun _ =>
      z_b2 (f_X11_drop x2 v250 h248) fun v253 h252 =>
      if v249 = v253 then
        f_L_law_b1200 tS x0 x1 x2 x3 h252 nx z
      else
        z_i1m (
        some ((nx, z), ((0 : Int32), h252)))
    else
    if (v2 &&& (31 : Int32)) = (26 : Int32) then
      (z_aI h x0 (x3 + (1 : Int32))).bind fun v254 =>
      (z_aI h x0 (x3 + (2 : Int32))).bind fun v255 =>
      (z_aI h x0 (x3 + (3 : Int32))).bind fun v256 =>
      (z_aI h x0 (x3 + (4 : Int32))).bind fun v257 =>
      (z_ck h 10 x1).bind fun _ =>
      z_b2 (f_X10_item x1 v254 v255 v256 v257 h) fun v260 h259 =>
      (z_aI h259 x0 (x3 + (1 : Int32))).bind fun v261 =>
      (z_aI h259 x0 (x3 + (2 : Int32))).bind fun v262 =>
      (z_aI h259 x0 (x3 + (3 : Int32))).bind fun v263 =>
      (z_aI h259 x0 (x3 + (4 : Int32))).bind fun v264 =>
      (z_ck h259 11 x2).bind fun _ =>
      z_b2 (f_X11_item x2 v261 v262 v263 v264 h259) fun v267 h266 =>
      if v260 = v267 then
        f_L_law_b1200 tS x0 x1 x2 x3 h266 nx z
      else
        z_i1m (
        some ((nx, z), ((0 : Int32), h266)))
    else
    if (v2 &&& (31 : Int32)) = (27 : Int32) then
      (z_aI h x0 (x3 + (1 : Int32))).bind fun v268 =>
      (z_aI h x0 (x3 + (2 : Int32))).bind fun v269 =>
      (z_aI h x0 (x3 + (3 : Int32))).bind fun v270 =>
      (z_aI h x0 (x3 + (4 : Int32))).bind fun v271 =>
      (z_aI h x0 (x3 + (5 : Int32))).bind fun v272 =>
      (z_ck h 10 x1).bind fun _ =>
      z_b2 (f_X10_copy x1 v268 v269 v270 v271 v272 h) fun v275 h274 =>
      (z_aI h274 x0 (x3 + (1 : Int32))).bind fun v276 =>
      (z_aI h274 x0 (x3 + (2 : Int32))).bind fun v277 =>
      (z_aI h274 x0 (x3 + (3 : Int32))).bind fun v278 =>
      (z_aI h274 x0 (x3 + (4 : Int32))).bind fun v279 =>
      (z_aI h274 x0 (x3 + (5 : Int32))).bind fun v280 =>
      (z_ck h274 11 x2).bind fun _ =>
      z_b2 (f_X11_copy x2 v276 v277 v278 v279 v280 h274) fun v283 h282 =>
      if v275 = v283 then
        f_L_law_b1200 tS x0 x1 x2 x3 h282 nx z
      else
        z_i1m (
        some ((nx, z), ((0 : Int32), h282)))
    else
      f_L_law_b1200 tS x0 x1 x2 x3 h nx z
noncomputable def f_L_law_b18 (tS : Nat) (x0 : Option Nat) (x1 : Option Nat) (x2 : Option Nat) (x3 : Int32) (h : zH) (nx z : Nat) : Option ((Nat × Nat) × (Int32 × zH)) := z_it (fun q : (Nat × Nat) × ((Option Nat) × (Option Nat) × (Option Nat) × Int32 × zH) => (f_L_law_c18 tS q.2.1 q.2.2.1 q.2.2.2.1 q.2.2.2.2.1 q.2.2.2.2.2 q.1.1 q.1.2).map z_ds) ((nx, z), (x0, x1, x2, x3, h))
noncomputable def f_L_law_b15 (tS : Nat) (x0 : Option Nat) (x1 : Option Nat) (s0 : Option Nat) (h : zH) (nx z : Nat) : Option ((Nat × Nat) × (Int32 × zH)) :=
  f_L_law_b18 tS x0 x1 s0 (0 : Int32) h nx z
noncomputable def f_L_law_b11 (tS : Nat) (x0 : Option Nat) (x1 : Option Nat) (s0 : Option Nat) (h : zH) (nx z : Nat) : Option ((Nat × Nat) × (Int32 × zH)) :=
  Option.bind s0 fun _ =>
  (f_X11_init s0 h nx z).bind fun n3 =>
  f_L_law_b15 tS x0 x1 s0 n3.2 n3.1.1 n3.1.2
noncomputable def f_L_law_b7 (tS : Nat) (x0 : Option Nat) (s0 : Option Nat) (h : zH) (nx z : Nat) : Option ((Nat × Nat) × (Int32 × zH)) :=
  f_L_law_b11 tS x0 s0 (some nx) (z_up h nx (.inr (11, [tA none, tA none, tA none, tA none, tI 0, tA none, tA none, tA none, tA none, tA none, tI 0, tA none, tA none, tA none, tI 0, tA none, tA none, tA none, tA none, tI 0, tA none, tA none]))) (nx + 1) (z + 22)
noncomputable def f_L_law_b3 (tS : Nat) (x0 : Option Nat) (s0 : Option Nat) (h : zH) (nx z : Nat) : Option ((Nat × Nat) × (Int32 × zH)) :=
  Option.bind s0 fun _ =>
  (f_X10_init s0 h nx z).bind fun n3 =>
  f_L_law_b7 tS x0 s0 n3.2 n3.1.1 n3.1.2
noncomputable def f_L_law (tS : Nat) (x0 : Option Nat) (h : zH) (nx z : Nat) : Option ((Nat × Nat) × (Int32 × zH)) :=
  f_L_law_b3 tS x0 (some nx) (z_up h nx (.inr (10, [tA none, tA none, tA none, tA none, tI 0, tA none, tA none, tA none, tA none]))) (nx + 1) (z + 9)
