set_option maxHeartbeats 4000000 in
set_option maxRecDepth 100000 in
theorem v_X6_letGo {X : zX} (K : z_Ok X cX6_letGo none RX6 "letGo") (hX : z_Xo X rm_X6_letGo 4) {x0 : Option Nat} {x1 : Option Nat} {x2 : Int32} {h : zH} {nx : Nat} {x : (zH)} (hf : f_X6_letGo x0 x1 x2 h = some x) (hp : z_P0V X nx x) : zV X 0 [(0, tA x0), (1, tA x1), (2, tI x2)] [] h nx 0 0 := by
  unfold f_X6_letGo at hf
  refine zv_aload_n K 1 eX6_letGo_0 rfl ?_
  refine zv_gA K eX6_letGo_1 fl_X6_154 hf (fun v1 hf => ?_)
  refine zv_iload_n K 2 eX6_letGo_4 rfl ?_
  refine zv_aI K eX6_letGo_5 hf (fun v2 hf => ?_)
  refine zv_istore_n K [(3, tI v2), (0, tA x0), (1, tA x1), (2, tI x2)] eX6_letGo_6 (z_lt hX.2 (by decide)) rfl ?_
  refine zv_iload_n K 0 eX6_letGo_7 rfl ?_
  refine zv_if_lt K 48 eX6_letGo_8 (by decide) hf (fun _ hf => ?_) (fun _ hf => ?_)
  · have e9 := Option.some.inj hf; subst e9
    exact zv_vret K eX6_letGo_48 hp
  · refine zv_aload_n K 1 eX6_letGo_11 rfl ?_
    obtain ⟨q3, hq3, hf⟩ := z_bind_inv hf
    obtain ⟨v5, h4, eh4, hf⟩ := z_b2_inv hf
    refine zv_cV0 K [] [] eX6_letGo_12 lk_X6_62 md_X6_lyingCells im_X6_lyingCells sl_X6_lyingCells rfl rfl rfl rfl (Nat.le_of_ble_eq_true rfl) hq3 (c_X6_lyingCells X.1.2.1 X.2.2.1 eh4) rfl rfl ⟨z_le (z_fr hX) (by decide), z_le (z_lo hX) (by decide)⟩ ⟨Nat.zero_le _, Nat.zero_le _⟩ ?_
    refine zv_lconst K (1 : Int64) eX6_letGo_15 (by decide) ?_
    refine zv_aload_n K 2 eX6_letGo_16 rfl ?_
    refine zv_gA K eX6_letGo_17 fl_X6_94 hf (fun v6 hf => ?_)
    refine zv_iload_n K 3 eX6_letGo_20 rfl ?_
    refine zv_aI K eX6_letGo_21 hf (fun v7 hf => ?_)
    refine zv_lshl K eX6_letGo_22 ?_
    refine zv_land K eX6_letGo_23 ?_
    refine zv_lconst K (0 : Int64) eX6_letGo_24 (by decide) ?_
    refine zv_lcmp K eX6_letGo_25 ?_
    refine zv_if_ne K 48 eX6_letGo_26 (by decide) hf (fun _ hf => ?_) (fun _ hf => ?_)
    · have e9 := Option.some.inj hf; subst e9
      exact zv_vret K eX6_letGo_48 hp
    · refine zv_aload_n K 2 eX6_letGo_29 rfl ?_
      refine zv_gA K eX6_letGo_30 fl_X6_154 hf (fun v8 hf => ?_)
      refine zv_iload_n K 3 eX6_letGo_33 rfl ?_
      refine zv_bipush K (-4 : Int32) eX6_letGo_34 (by decide) ?_
      refine zv_sI K eX6_letGo_36 hf (fun h9 hf => ?_)
      refine zv_aload_n K 1 eX6_letGo_37 rfl ?_
      refine zv_iload_n K 0 eX6_letGo_38 rfl ?_
      refine zv_aload_n K 2 eX6_letGo_39 rfl ?_
      refine zv_gA K eX6_letGo_40 fl_X6_94 hf (fun v10 hf => ?_)
      refine zv_iload_n K 3 eX6_letGo_43 rfl ?_
      refine zv_aI K eX6_letGo_44 hf (fun v11 hf => ?_)
      obtain ⟨q12, hq12, hf⟩ := z_bind_inv hf
      obtain ⟨h13, eh13, hf⟩ := z_bind_inv hf
      refine zv_cV0 K [tI v2, tI v11] [] eX6_letGo_45 lk_X6_81 md_X6_lay im_X6_lay sl_X6_lay rfl rfl rfl rfl (Nat.le_of_ble_eq_true rfl) hq12 (c_X6_lay X.1.2.1 X.2.2.1 eh13) rfl rfl ⟨z_le (z_fr hX) (by decide), z_le (z_lo hX) (by decide)⟩ ⟨Nat.zero_le _, Nat.zero_le _⟩ ?_
      have e9 := Option.some.inj hf; subst e9
      exact zv_vret K eX6_letGo_48 hp
theorem c_X6_letGo (l : Launch) (G : zG) {x0 : Option Nat} {x1 : Option Nat} {x2 : Int32} {h : zH} {nx : Nat} {x : zH} (hf : f_X6_letGo x0 x1 x2 h = some x) : z_Ct l G yX6_letGo cX6_letGo 4 none rm_X6_letGo [tA x0, tA x1, tI x2] h nx none x nx 0 0 :=
  z_enter [(0, tA x0), (1, tA x1), (2, tI x2)] (by decide +kernel) (Nat.le_of_ble_eq_true rfl) rfl (fun X hl hR hG hL K hq => by
    subst hl; subst hG
    exact v_X6_letGo K ⟨hR, hL⟩ hf hq)
def P_X6_doActs_55 (X : zX) (nx : Nat) : ((Option Nat) × Int32 × Int32 × (Option Nat) × (Option Nat) × Int32 × Int32 × zH) ⊕ (Int32 × zH) → Prop := z_PL (fun s => zV X 55 [(0, tA s.1), (1, tI s.2.1), (2, tI s.2.2.1), (3, tA s.2.2.2.1), (5, tA s.2.2.2.2.1), (6, tI s.2.2.2.2.2.1), (7, tI s.2.2.2.2.2.2.1)] [] s.2.2.2.2.2.2.2 nx 0 0) (z_P0I X nx)
set_option maxHeartbeats 4000000 in
set_option maxRecDepth 100000 in
theorem v_X6_doActs_b184 {X : zX} (K : z_Ok X cX6_doActs (some .int) RX6 "doActs") (hX : z_Xo X rm_X6_doActs 9) {x0 : Option Nat} {x1 : Int32} {x2 : Int32} {x3 : Option Nat} {x5 : Option Nat} {x6 : Int32} {x7 : Int32} {h : zH} {nx : Nat} {x : (((Option Nat) × Int32 × Int32 × (Option Nat) × (Option Nat) × Int32 × Int32 × zH) ⊕ (Int32 × zH))} (hf : f_X6_doActs_b184 X.2.2.1.2.2.1 x0 x1 x2 x3 x5 x6 x7 h = some x) (hp : P_X6_doActs_55 X nx x) : zV X 184 [(0, tA x0), (1, tI x1), (2, tI x2), (3, tA x3), (5, tA x5), (6, tI x6), (7, tI x7)] [] h nx 0 0 := by
  unfold f_X6_doActs_b184 at hf
  refine zv_iinc K (x7 + (1 : Int32)) 6 [(7, tI (x7 + (1 : Int32))), (0, tA x0), (1, tI x1), (2, tI x2), (3, tA x3), (5, tA x5), (6, tI x6)] eX6_doActs_184 rfl rfl (z_lt hX.2 (by decide)) rfl ?_
  refine zv_goto K 55 eX6_doActs_187 (by decide) ?_
  cases hf
  exact zv_sub [1, 2, 3, 4, 5, 6, 0] rfl (show zV X 55 [(0, tA x0), (1, tI x1), (2, tI x2), (3, tA x3), (5, tA x5), (6, tI x6), (7, tI (x7 + (1 : Int32)))] [] h nx 0 0 from hp)
set_option maxHeartbeats 4000000 in
set_option maxRecDepth 100000 in
theorem v_X6_doActs_c55 {X : zX} (K : z_Ok X cX6_doActs (some .int) RX6 "doActs") (hX : z_Xo X rm_X6_doActs 9) {x0 : Option Nat} {x1 : Int32} {x2 : Int32} {x3 : Option Nat} {x5 : Option Nat} {x6 : Int32} {x7 : Int32} {h : zH} {nx : Nat} {x : (((Option Nat) × Int32 × Int32 × (Option Nat) × (Option Nat) × Int32 × Int32 × zH) ⊕ (Int32 × zH))} (hf : f_X6_doActs_c55 X.2.2.1.2.2.1 x0 x1 x2 x3 x5 x6 x7 h = some x) (hp : P_X6_doActs_55 X nx x) : zV X 55 [(0, tA x0), (1, tI x1), (2, tI x2), (3, tA x3), (5, tA x5), (6, tI x6), (7, tI x7)] [] h nx 0 0 := by
  unfold f_X6_doActs_c55 at hf
  refine zv_iload K 6 eX6_doActs_55 rfl ?_
  refine zv_aload K 4 eX6_doActs_57 rfl ?_
  refine zv_gI K eX6_doActs_59 fl_X6_168 hf (fun v1 hf => ?_)
  refine zv_icmp_ge K 190 eX6_doActs_62 (by decide) hf (fun _ hf => ?_) (fun _ hf => ?_)
  · obtain ⟨w9, hf9, e9⟩ := z_i1_inv hf; clear hf; subst e9; have hf := hf9; clear hf9
    refine zv_iload K 5 eX6_doActs_190 rfl ?_
    have e9 := Option.some.inj hf; subst e9
    exact zv_iret K eX6_doActs_192 hp
  · refine zv_aload K 4 eX6_doActs_65 rfl ?_
    refine zv_gA K eX6_doActs_67 fl_X6_173 hf (fun v2 hf => ?_)
    refine zv_iload K 6 eX6_doActs_70 rfl ?_
    refine zv_aI K eX6_doActs_72 hf (fun v3 hf => ?_)
    refine zv_istore K [(8, tI v3), (0, tA x0), (1, tI x1), (2, tI x2), (3, tA x3), (5, tA x5), (6, tI x6), (7, tI x7)] eX6_doActs_73 (z_lt hX.2 (by decide)) rfl ?_
    refine zv_aload K 5 eX6_doActs_75 rfl ?_
    refine zv_gA K eX6_doActs_77 fl_X6_176 hf (fun v4 hf => ?_)
    refine zv_iload K 7 eX6_doActs_80 rfl ?_
    refine zv_aI K eX6_doActs_82 hf (fun v5 hf => ?_)
    refine z_ite_inv _ hf (fun c100 hf => ?_) (fun c100 hf => ?_)
    · refine zv_lsw K (off := 77) 160 eX6_doActs_83 (by decide) (by rw [c100]; decide) (by decide) ?_
      refine zv_aload_n K 1 eX6_doActs_160 rfl ?_
      refine zv_aload_n K 4 eX6_doActs_161 rfl ?_
      refine zv_iload_n K 3 eX6_doActs_162 rfl ?_
      obtain ⟨q6, hq6, hf⟩ := z_bind_inv hf
      obtain ⟨h7, eh7, hf⟩ := z_bind_inv hf
      refine zv_cV0 K [tA x3, tI x2] [] eX6_doActs_163 lk_X6_189 md_X6_letGo im_X6_letGo sl_X6_letGo rfl rfl rfl rfl (Nat.le_of_ble_eq_true rfl) hq6 (c_X6_letGo X.1.2.1 X.2.2.1 eh7) rfl rfl ⟨z_le (z_fr hX) (by decide), z_le (z_lo hX) (by decide)⟩ ⟨Nat.zero_le _, Nat.zero_le _⟩ ?_
      refine zv_goto K 184 eX6_doActs_166 (by decide) ?_
      exact zv_sub [1, 2, 3, 4, 5, 6, 7] rfl (v_X6_doActs_b184 K hX hf hp)
    refine z_ite_inv _ hf (fun c102 hf => ?_) (fun c102 hf => ?_)
    · refine zv_lsw K (off := 49) 132 eX6_doActs_83 (by decide) (by rw [c102]; decide) (by decide) ?_
      refine zv_aload_n K 1 eX6_doActs_132 rfl ?_
      refine zv_aload_n K 4 eX6_doActs_133 rfl ?_
      refine zv_iload_n K 3 eX6_doActs_134 rfl ?_
      obtain ⟨q8, hq8, hf⟩ := z_bind_inv hf
      obtain ⟨v10, h9, eh9, hf⟩ := z_b2_inv hf
      refine zv_cV0 K [tA x3, tI x2] [] eX6_doActs_135 lk_X6_179 md_X6_move im_X6_move sl_X6_move rfl rfl rfl rfl (Nat.le_of_ble_eq_true rfl) hq8 (c_X6_move X.1.2.1 X.2.2.1 eh9) rfl rfl ⟨z_le (z_fr hX) (by decide), z_le (z_lo hX) (by decide)⟩ ⟨Nat.zero_le _, Nat.zero_le _⟩ ?_
      refine zv_pop K eX6_doActs_138 rfl ?_
      refine zv_goto K 184 eX6_doActs_139 (by decide) ?_
      exact zv_sub [1, 2, 3, 4, 5, 6, 7] rfl (v_X6_doActs_b184 K hX hf hp)
    refine z_ite_inv _ hf (fun c103 hf => ?_) (fun c103 hf => ?_)
    · refine zv_lsw K (off := 59) 142 eX6_doActs_83 (by decide) (by rw [c103]; decide) (by decide) ?_
      refine zv_aload_n K 1 eX6_doActs_142 rfl ?_
      refine zv_iload_n K 2 eX6_doActs_143 rfl ?_
      refine zv_iload_n K 3 eX6_doActs_144 rfl ?_
      obtain ⟨q11, hq11, hf⟩ := z_bind_inv hf
      obtain ⟨h12, eh12, hf⟩ := z_bind_inv hf
      refine zv_cV0 K [tI x1, tI x2] [] eX6_doActs_145 lk_X6_183 md_X6_grab im_X6_grab sl_X6_grab rfl rfl rfl rfl (Nat.le_of_ble_eq_true rfl) hq11 (c_X6_grab X.1.2.1 X.2.2.1 eh12) rfl rfl ⟨z_le (z_fr hX) (by decide), z_le (z_lo hX) (by decide)⟩ ⟨Nat.zero_le _, Nat.zero_le _⟩ ?_
      refine zv_goto K 184 eX6_doActs_148 (by decide) ?_
      exact zv_sub [1, 2, 3, 4, 5, 6, 7] rfl (v_X6_doActs_b184 K hX hf hp)
    refine z_ite_inv _ hf (fun c112 hf => ?_) (fun c112 hf => ?_)
    · refine zv_lsw K (off := 68) 151 eX6_doActs_83 (by decide) (by rw [c112]; decide) (by decide) ?_
      refine zv_aload_n K 1 eX6_doActs_151 rfl ?_
      refine zv_iload_n K 2 eX6_doActs_152 rfl ?_
      refine zv_iload_n K 3 eX6_doActs_153 rfl ?_
      obtain ⟨q13, hq13, hf⟩ := z_bind_inv hf
      obtain ⟨h14, eh14, hf⟩ := z_bind_inv hf
      refine zv_cV0 K [tI x1, tI x2] [] eX6_doActs_154 lk_X6_186 md_X6_passOn im_X6_passOn sl_X6_passOn rfl rfl rfl rfl (Nat.le_of_ble_eq_true rfl) hq13 (c_X6_passOn X.1.2.1 X.2.2.1 eh14) rfl rfl ⟨z_le (z_fr hX) (by decide), z_le (z_lo hX) (by decide)⟩ ⟨Nat.zero_le _, Nat.zero_le _⟩ ?_
      refine zv_goto K 184 eX6_doActs_157 (by decide) ?_
      exact zv_sub [1, 2, 3, 4, 5, 6, 7] rfl (v_X6_doActs_b184 K hX hf hp)
    refine z_ite_inv _ hf (fun c115 hf => ?_) (fun c115 hf => ?_)
    · refine zv_lsw K (off := 86) 169 eX6_doActs_83 (by decide) (by rw [c115]; decide) (by decide) ?_
      refine zv_aload_n K 4 eX6_doActs_169 rfl ?_
      refine zv_gA K eX6_doActs_170 fl_X6_151 hf (fun v15 hf => ?_)
      refine zv_iload_n K 3 eX6_doActs_173 rfl ?_
      refine zv_iload K 0 eX6_doActs_174 rfl ?_
      refine zv_sI K eX6_doActs_176 hf (fun h16 hf => ?_)
      refine zv_goto K 184 eX6_doActs_177 (by decide) ?_
      exact zv_sub [1, 2, 3, 4, 5, 6, 7] rfl (v_X6_doActs_b184 K hX hf hp)
    have ec100 := lv_neT (a := 100) c100 (by decide)
    have ec102 := lv_neT (a := 102) c102 (by decide)
    have ec103 := lv_neT (a := 103) c103 (by decide)
    have ec112 := lv_neT (a := 112) c112 (by decide)
    have ec115 := lv_neT (a := 115) c115 (by decide)
    refine zv_lsw K (off := 97) 180 eX6_doActs_83 (by decide) (by refine Eq.trans (show _ = (if (100 : Int) = (v5).toInt then (77 : Int) else if (102 : Int) = (v5).toInt then (49 : Int) else if (103 : Int) = (v5).toInt then (59 : Int) else if (112 : Int) = (v5).toInt then (68 : Int) else if (115 : Int) = (v5).toInt then (86 : Int) else (97 : Int)) from rfl) ?_; rw [if_neg (fun e => ec100 e.symm), if_neg (fun e => ec102 e.symm), if_neg (fun e => ec103 e.symm), if_neg (fun e => ec112 e.symm), if_neg (fun e => ec115 e.symm)]) (by decide) ?_
    refine zv_iload K 0 eX6_doActs_180 rfl ?_
    refine zv_istore K [(6, tI v3), (8, tI v3), (0, tA x0), (1, tI x1), (2, tI x2), (3, tA x3), (5, tA x5), (7, tI x7)] eX6_doActs_182 (z_lt hX.2 (by decide)) rfl ?_
    exact zv_sub [2, 3, 4, 5, 6, 0, 7] rfl (v_X6_doActs_b184 K hX hf hp)
theorem v_X6_doActs_b55 {X : zX} (K : z_Ok X cX6_doActs (some .int) RX6 "doActs") (hX : z_Xo X rm_X6_doActs 9) {x0 : Option Nat} {x1 : Int32} {x2 : Int32} {x3 : Option Nat} {x5 : Option Nat} {x6 : Int32} {x7 : Int32} {h : zH} {nx : Nat} {x : (Int32 × zH)} (hf : f_X6_doActs_b55 X.2.2.1.2.2.1 x0 x1 x2 x3 x5 x6 x7 h = some x) (hp : z_P0I X nx x) : zV X 55 [(0, tA x0), (1, tI x1), (2, tI x2), (3, tA x3), (5, tA x5), (6, tI x6), (7, tI x7)] [] h nx 0 0 :=
  z_it_ind (P := fun s : (Option Nat) × Int32 × Int32 × (Option Nat) × (Option Nat) × Int32 × Int32 × zH => zV X 55 [(0, tA s.1), (1, tI s.2.1), (2, tI s.2.2.1), (3, tA s.2.2.2.1), (5, tA s.2.2.2.2.1), (6, tI s.2.2.2.2.2.1), (7, tI s.2.2.2.2.2.2.1)] [] s.2.2.2.2.2.2.2 nx 0 0) (fun s y hb hy => v_X6_doActs_c55 K hX hb (z_PL_of hy hp)) hf
set_option maxHeartbeats 4000000 in
set_option maxRecDepth 100000 in
theorem v_X6_doActs {X : zX} (K : z_Ok X cX6_doActs (some .int) RX6 "doActs") (hX : z_Xo X rm_X6_doActs 9) {x0 : Option Nat} {x1 : Int32} {x2 : Int32} {h : zH} {nx : Nat} {x : (Int32 × zH)} (hf : f_X6_doActs X.2.2.1.2.2.1 x0 x1 x2 h = some x) (hp : z_P0I X nx x) : zV X 0 [(0, tA x0), (1, tI x1), (2, tI x2)] [] h nx 0 0 := by
  unfold f_X6_doActs at hf
  refine zv_aload_n K 0 eX6_doActs_0 rfl ?_
  refine zv_gA K eX6_doActs_1 fl_X6_17 hf (fun v1 hf => ?_)
  refine zv_iload_n K 1 eX6_doActs_4 rfl ?_
  refine zv_aA K eX6_doActs_5 hf (fun v2 hf => ?_)
  refine zv_astore_n K [(3, tA v2), (0, tA x0), (1, tI x1), (2, tI x2)] eX6_doActs_6 (z_lt hX.2 (by decide)) rfl ?_
  refine zv_aload_n K 0 eX6_doActs_7 rfl ?_
  refine zv_gA K eX6_doActs_8 fl_X6_122 hf (fun v3 hf => ?_)
  refine zv_iload_n K 3 eX6_doActs_11 rfl ?_
  refine zv_aI K eX6_doActs_12 hf (fun v4 hf => ?_)
  refine zv_istore K [(4, tI v4), (3, tA v2), (0, tA x0), (1, tI x1), (2, tI x2)] eX6_doActs_13 (z_lt hX.2 (by decide)) rfl ?_
  refine zv_iload K 0 eX6_doActs_15 rfl ?_
  refine zv_if_lt K 35 eX6_doActs_17 (by decide) hf (fun _ hf => ?_) (fun _ hf => ?_)
  · refine zv_iconst K (0 : Int32) eX6_doActs_35 (by decide) ?_
    have e9 := Option.some.inj hf; subst e9
    exact zv_iret K eX6_doActs_36 hp
  · refine zv_aload_n K 1 eX6_doActs_20 rfl ?_
    refine zv_gA K eX6_doActs_21 fl_X6_138 hf (fun v5 hf => ?_)
    refine zv_ifnull K 35 eX6_doActs_24 (by decide) hf (fun _ hf => ?_) (fun _ hf => ?_)
    · refine zv_iconst K (0 : Int32) eX6_doActs_35 (by decide) ?_
      have e9 := Option.some.inj hf; subst e9
      exact zv_iret K eX6_doActs_36 hp
    · refine zv_iload_n K 4 eX6_doActs_27 rfl ?_
      refine zv_aload_n K 1 eX6_doActs_28 rfl ?_
      refine zv_gI K eX6_doActs_29 fl_X6_161 hf (fun v6 hf => ?_)
      refine zv_icmp_ne K 37 eX6_doActs_32 (by decide) hf (fun _ hf => ?_) (fun _ hf => ?_)
      · refine zv_aload_n K 1 eX6_doActs_37 rfl ?_
        refine zv_gA K eX6_doActs_38 fl_X6_138 hf (fun v7 hf => ?_)
        refine zv_gA K eX6_doActs_41 fl_X6_164 hf (fun v8 hf => ?_)
        refine zv_iload K 0 eX6_doActs_44 rfl ?_
        refine zv_aA K eX6_doActs_46 hf (fun v9 hf => ?_)
        refine zv_astore K [(5, tA v9), (4, tI v4), (3, tA v2), (0, tA x0), (1, tI x1), (2, tI x2)] eX6_doActs_47 (z_lt hX.2 (by decide)) rfl ?_
        refine zv_iconst K (0 : Int32) eX6_doActs_49 (by decide) ?_
        refine zv_istore K [(6, tI (0 : Int32)), (5, tA v9), (4, tI v4), (3, tA v2), (0, tA x0), (1, tI x1), (2, tI x2)] eX6_doActs_50 (z_lt hX.2 (by decide)) rfl ?_
        refine zv_iconst K (0 : Int32) eX6_doActs_52 (by decide) ?_
        refine zv_istore K [(7, tI (0 : Int32)), (6, tI (0 : Int32)), (5, tA v9), (4, tI v4), (3, tA v2), (0, tA x0), (1, tI x1), (2, tI x2)] eX6_doActs_53 (z_lt hX.2 (by decide)) rfl ?_
        exact zv_sub [5, 6, 7, 4, 2, 1, 0] rfl (v_X6_doActs_b55 K hX hf hp)
      · refine zv_iconst K (0 : Int32) eX6_doActs_35 (by decide) ?_
        have e9 := Option.some.inj hf; subst e9
        exact zv_iret K eX6_doActs_36 hp
theorem c_X6_doActs (l : Launch) (G : zG) {x0 : Option Nat} {x1 : Int32} {x2 : Int32} {h : zH} {nx : Nat} {x : Int32 × zH} (hf : f_X6_doActs G.2.2.1 x0 x1 x2 h = some x) : z_Ct l G yX6_doActs cX6_doActs 9 (some .int) rm_X6_doActs [tA x0, tI x1, tI x2] h nx (some (tI x.1)) x.2 nx 0 0 :=
  z_enter [(0, tA x0), (1, tI x1), (2, tI x2)] (by decide +kernel) (Nat.le_of_ble_eq_true rfl) rfl (fun X hl hR hG hL K hq => by
    subst hl; subst hG
    exact v_X6_doActs K ⟨hR, hL⟩ hf hq)
def P_X6_tick_61 (X : zX) (nx : Nat) : ((Option Nat) × Int32 × zH) ⊕ (zH) → Prop := z_PL (fun s => zV X 61 [(0, tA s.1), (1, tI s.2.1)] [] s.2.2 nx 0 0) (z_P0V X nx)
def P_X6_tick_2 (X : zX) (nx : Nat) : ((Option Nat) × Int32 × zH) ⊕ (zH) → Prop := z_PL (fun s => zV X 2 [(0, tA s.1), (1, tI s.2.1)] [] s.2.2 nx 0 0) (z_P0V X nx)
def P_X6_tick_91 (X : zX) (nx : Nat) : ((Option Nat) × Int32 × Int32 × zH) ⊕ (((Option Nat) × Int32 × zH) ⊕ (zH)) → Prop := z_PL (fun s => zV X 91 [(0, tA s.1), (1, tI s.2.1), (2, tI s.2.2.1)] [] s.2.2.2 nx 0 0) (P_X6_tick_61 X nx)
def P_X6_tick_12 (X : zX) (nx : Nat) : ((Option Nat) × Int32 × Int32 × zH) ⊕ (((Option Nat) × Int32 × zH) ⊕ (zH)) → Prop := z_PL (fun s => zV X 12 [(0, tA s.1), (1, tI s.2.1), (2, tI s.2.2.1)] [] s.2.2.2 nx 0 0) (P_X6_tick_2 X nx)
set_option maxHeartbeats 4000000 in
set_option maxRecDepth 100000 in
theorem v_X6_tick_c91 {X : zX} (K : z_Ok X cX6_tick none RX6 "tick") (hX : z_Xo X rm_X6_tick 3) {x0 : Option Nat} {x1 : Int32} {x2 : Int32} {h : zH} {nx : Nat} {x : (((Option Nat) × Int32 × Int32 × zH) ⊕ (((Option Nat) × Int32 × zH) ⊕ (zH)))} (hf : f_X6_tick_c91 X.2.2.1.2.2.1 x0 x1 x2 h = some x) (hp : P_X6_tick_91 X nx x) : zV X 91 [(0, tA x0), (1, tI x1), (2, tI x2)] [] h nx 0 0 := by
  unfold f_X6_tick_c91 at hf
  refine zv_iload_n K 2 eX6_tick_91 rfl ?_
  refine zv_aload_n K 0 eX6_tick_92 rfl ?_
  refine zv_gA K eX6_tick_93 fl_X6_17 hf (fun v1 hf => ?_)
  refine zv_iload_n K 1 eX6_tick_96 rfl ?_
  refine zv_aA K eX6_tick_97 hf (fun v2 hf => ?_)
  refine zv_gI K eX6_tick_98 fl_X6_119 hf (fun v3 hf => ?_)
  refine zv_icmp_ge K 127 eX6_tick_101 (by decide) hf (fun _ hf => ?_) (fun _ hf => ?_)
  · obtain ⟨w9, hf9, e9⟩ := z_i1_inv hf; clear hf; subst e9; have hf := hf9; clear hf9
    refine zv_iinc K (x1 + (1 : Int32)) 1 [(1, tI (x1 + (1 : Int32))), (0, tA x0), (2, tI x2)] eX6_tick_127 rfl rfl (z_lt hX.2 (by decide)) rfl ?_
    refine zv_goto K 61 eX6_tick_130 (by decide) ?_
    cases hf
    exact zv_sub [1, 0] rfl (show zV X 61 [(0, tA x0), (1, tI (x1 + (1 : Int32)))] [] h nx 0 0 from hp)
  · refine zv_aload_n K 0 eX6_tick_104 rfl ?_
    refine zv_gA K eX6_tick_105 fl_X6_17 hf (fun v4 hf => ?_)
    refine zv_iload_n K 1 eX6_tick_108 rfl ?_
    refine zv_aA K eX6_tick_109 hf (fun v5 hf => ?_)
    refine zv_gA K eX6_tick_110 fl_X6_129 hf (fun v6 hf => ?_)
    refine zv_iload_n K 2 eX6_tick_113 rfl ?_
    refine zv_aload_n K 0 eX6_tick_114 rfl ?_
    refine zv_iload_n K 1 eX6_tick_115 rfl ?_
    refine zv_iload_n K 2 eX6_tick_116 rfl ?_
    obtain ⟨q7, hq7, hf⟩ := z_bind_inv hf
    obtain ⟨v9, h8, eh8, hf⟩ := z_b2_inv hf
    refine zv_cV0 K [tI x1, tI x2] [tI x2, tA v6] eX6_tick_117 lk_X6_135 md_X6_doActs im_X6_doActs sl_X6_doActs rfl rfl rfl rfl (Nat.le_of_ble_eq_true rfl) hq7 (c_X6_doActs X.1.2.1 X.2.2.1 eh8) rfl rfl ⟨z_le (z_fr hX) (by decide), z_le (z_lo hX) (by decide)⟩ ⟨Nat.zero_le _, Nat.zero_le _⟩ ?_
    refine zv_sI K eX6_tick_120 hf (fun h10 hf => ?_)
    refine zv_iinc K (x2 + (1 : Int32)) 2 [(2, tI (x2 + (1 : Int32))), (0, tA x0), (1, tI x1)] eX6_tick_121 rfl rfl (z_lt hX.2 (by decide)) rfl ?_
    refine zv_goto K 91 eX6_tick_124 (by decide) ?_
    cases hf
    exact zv_sub [1, 2, 0] rfl (show zV X 91 [(0, tA x0), (1, tI x1), (2, tI (x2 + (1 : Int32)))] [] h10 nx 0 0 from hp)
theorem v_X6_tick_b91 {X : zX} (K : z_Ok X cX6_tick none RX6 "tick") (hX : z_Xo X rm_X6_tick 3) {x0 : Option Nat} {x1 : Int32} {x2 : Int32} {h : zH} {nx : Nat} {x : (((Option Nat) × Int32 × zH) ⊕ (zH))} (hf : f_X6_tick_b91 X.2.2.1.2.2.1 x0 x1 x2 h = some x) (hp : P_X6_tick_61 X nx x) : zV X 91 [(0, tA x0), (1, tI x1), (2, tI x2)] [] h nx 0 0 :=
  z_it_ind (P := fun s : (Option Nat) × Int32 × Int32 × zH => zV X 91 [(0, tA s.1), (1, tI s.2.1), (2, tI s.2.2.1)] [] s.2.2.2 nx 0 0) (fun s y hb hy => v_X6_tick_c91 K hX hb (z_PL_of hy hp)) hf
set_option maxHeartbeats 4000000 in
set_option maxRecDepth 100000 in
theorem v_X6_tick_c61 {X : zX} (K : z_Ok X cX6_tick none RX6 "tick") (hX : z_Xo X rm_X6_tick 3) {x0 : Option Nat} {x1 : Int32} {h : zH} {nx : Nat} {x : (((Option Nat) × Int32 × zH) ⊕ (zH))} (hf : f_X6_tick_c61 X.2.2.1.2.2.1 x0 x1 h = some x) (hp : P_X6_tick_61 X nx x) : zV X 61 [(0, tA x0), (1, tI x1)] [] h nx 0 0 := by
  unfold f_X6_tick_c61 at hf
  refine zv_iload_n K 1 eX6_tick_61 rfl ?_
  refine zv_aload_n K 0 eX6_tick_62 rfl ?_
  refine zv_gI K eX6_tick_63 fl_X6_46 hf (fun v1 hf => ?_)
  refine zv_icmp_ge K 133 eX6_tick_66 (by decide) hf (fun _ hf => ?_) (fun _ hf => ?_)
  · obtain ⟨w9, hf9, e9⟩ := z_i1_inv hf; clear hf; subst e9; have hf := hf9; clear hf9
    refine zv_aload_n K 0 eX6_tick_133 rfl ?_
    refine zv_dup K eX6_tick_134 rfl ?_
    refine zv_gI K eX6_tick_135 fl_X6_59 hf (fun v2 hf => ?_)
    refine zv_iconst K (1 : Int32) eX6_tick_138 (by decide) ?_
    refine zv_iadd K eX6_tick_139 ?_
    refine zv_pI K eX6_tick_140 fl_X6_59 ff_6_8 rfl hf (fun h3 hf => ?_)
    have e9 := Option.some.inj hf; subst e9
    exact zv_vret K eX6_tick_143 hp
  · refine zv_aload_n K 0 eX6_tick_69 rfl ?_
    refine zv_gA K eX6_tick_70 fl_X6_17 hf (fun v4 hf => ?_)
    refine zv_iload_n K 1 eX6_tick_73 rfl ?_
    refine zv_aA K eX6_tick_74 hf (fun v5 hf => ?_)
    refine zv_gA K eX6_tick_75 fl_X6_129 hf (fun v6 hf => ?_)
    refine zv_iconst K (0 : Int32) eX6_tick_78 (by decide) ?_
    refine zv_aload_n K 0 eX6_tick_79 rfl ?_
    refine zv_gA K eX6_tick_80 fl_X6_17 hf (fun v7 hf => ?_)
    refine zv_iload_n K 1 eX6_tick_83 rfl ?_
    refine zv_aA K eX6_tick_84 hf (fun v8 hf => ?_)
    refine zv_gI K eX6_tick_85 fl_X6_132 hf (fun v9 hf => ?_)
    refine zv_sI K eX6_tick_88 hf (fun h10 hf => ?_)
    refine zv_iconst K (1 : Int32) eX6_tick_89 (by decide) ?_
    refine zv_istore_n K [(2, tI (1 : Int32)), (0, tA x0), (1, tI x1)] eX6_tick_90 (z_lt hX.2 (by decide)) rfl ?_
    exact zv_sub [1, 2, 0] rfl (v_X6_tick_b91 K hX hf hp)
theorem v_X6_tick_b61 {X : zX} (K : z_Ok X cX6_tick none RX6 "tick") (hX : z_Xo X rm_X6_tick 3) {x0 : Option Nat} {x1 : Int32} {h : zH} {nx : Nat} {x : (zH)} (hf : f_X6_tick_b61 X.2.2.1.2.2.1 x0 x1 h = some x) (hp : z_P0V X nx x) : zV X 61 [(0, tA x0), (1, tI x1)] [] h nx 0 0 :=
  z_it_ind (P := fun s : (Option Nat) × Int32 × zH => zV X 61 [(0, tA s.1), (1, tI s.2.1)] [] s.2.2 nx 0 0) (fun s y hb hy => v_X6_tick_c61 K hX hb (z_PL_of hy hp)) hf
set_option maxHeartbeats 4000000 in
set_option maxRecDepth 100000 in
theorem v_X6_tick_c12 {X : zX} (K : z_Ok X cX6_tick none RX6 "tick") (hX : z_Xo X rm_X6_tick 3) {x0 : Option Nat} {x1 : Int32} {x2 : Int32} {h : zH} {nx : Nat} {x : (((Option Nat) × Int32 × Int32 × zH) ⊕ (((Option Nat) × Int32 × zH) ⊕ (zH)))} (hf : f_X6_tick_c12 X.2.2.1.2.2.1 x0 x1 x2 h = some x) (hp : P_X6_tick_12 X nx x) : zV X 12 [(0, tA x0), (1, tI x1), (2, tI x2)] [] h nx 0 0 := by
  unfold f_X6_tick_c12 at hf
  refine zv_iload_n K 2 eX6_tick_12 rfl ?_
  refine zv_aload_n K 0 eX6_tick_13 rfl ?_
  refine zv_gA K eX6_tick_14 fl_X6_17 hf (fun v1 hf => ?_)
  refine zv_iload_n K 1 eX6_tick_17 rfl ?_
  refine zv_aA K eX6_tick_18 hf (fun v2 hf => ?_)
  refine zv_gI K eX6_tick_19 fl_X6_119 hf (fun v3 hf => ?_)
  refine zv_icmp_ge K 53 eX6_tick_22 (by decide) hf (fun _ hf => ?_) (fun _ hf => ?_)
  · obtain ⟨w9, hf9, e9⟩ := z_i1_inv hf; clear hf; subst e9; have hf := hf9; clear hf9
    refine zv_iinc K (x1 + (1 : Int32)) 1 [(1, tI (x1 + (1 : Int32))), (0, tA x0), (2, tI x2)] eX6_tick_53 rfl rfl (z_lt hX.2 (by decide)) rfl ?_
    refine zv_goto K 2 eX6_tick_56 (by decide) ?_
    cases hf
    exact zv_sub [1, 0] rfl (show zV X 2 [(0, tA x0), (1, tI (x1 + (1 : Int32)))] [] h nx 0 0 from hp)
  · refine zv_aload_n K 0 eX6_tick_25 rfl ?_
    refine zv_gA K eX6_tick_26 fl_X6_17 hf (fun v4 hf => ?_)
    refine zv_iload_n K 1 eX6_tick_29 rfl ?_
    refine zv_aA K eX6_tick_30 hf (fun v5 hf => ?_)
    refine zv_gA K eX6_tick_31 fl_X6_122 hf (fun v6 hf => ?_)
    refine zv_iload_n K 2 eX6_tick_34 rfl ?_
    refine zv_aload_n K 0 eX6_tick_35 rfl ?_
    refine zv_aload_n K 0 eX6_tick_36 rfl ?_
    refine zv_gA K eX6_tick_37 fl_X6_17 hf (fun v7 hf => ?_)
    refine zv_iload_n K 1 eX6_tick_40 rfl ?_
    refine zv_aA K eX6_tick_41 hf (fun v8 hf => ?_)
    refine zv_iload_n K 2 eX6_tick_42 rfl ?_
    obtain ⟨q9, hq9, hf⟩ := z_bind_inv hf
    obtain ⟨v11, h10, eh10, hf⟩ := z_b2_inv hf
    refine zv_cV0 K [tA v8, tI x2] [tI x2, tA v6] eX6_tick_43 lk_X6_125 md_X6_clauseFor im_X6_clauseFor sl_X6_clauseFor rfl rfl rfl rfl (Nat.le_of_ble_eq_true rfl) hq9 (c_X6_clauseFor X.1.2.1 X.2.2.1 eh10) rfl rfl ⟨z_le (z_fr hX) (by decide), z_le (z_lo hX) (by decide)⟩ ⟨Nat.zero_le _, Nat.zero_le _⟩ ?_
    refine zv_sI K eX6_tick_46 hf (fun h12 hf => ?_)
    refine zv_iinc K (x2 + (1 : Int32)) 2 [(2, tI (x2 + (1 : Int32))), (0, tA x0), (1, tI x1)] eX6_tick_47 rfl rfl (z_lt hX.2 (by decide)) rfl ?_
    refine zv_goto K 12 eX6_tick_50 (by decide) ?_
    cases hf
    exact zv_sub [1, 2, 0] rfl (show zV X 12 [(0, tA x0), (1, tI x1), (2, tI (x2 + (1 : Int32)))] [] h12 nx 0 0 from hp)
theorem v_X6_tick_b12 {X : zX} (K : z_Ok X cX6_tick none RX6 "tick") (hX : z_Xo X rm_X6_tick 3) {x0 : Option Nat} {x1 : Int32} {x2 : Int32} {h : zH} {nx : Nat} {x : (((Option Nat) × Int32 × zH) ⊕ (zH))} (hf : f_X6_tick_b12 X.2.2.1.2.2.1 x0 x1 x2 h = some x) (hp : P_X6_tick_2 X nx x) : zV X 12 [(0, tA x0), (1, tI x1), (2, tI x2)] [] h nx 0 0 :=
  z_it_ind (P := fun s : (Option Nat) × Int32 × Int32 × zH => zV X 12 [(0, tA s.1), (1, tI s.2.1), (2, tI s.2.2.1)] [] s.2.2.2 nx 0 0) (fun s y hb hy => v_X6_tick_c12 K hX hb (z_PL_of hy hp)) hf
set_option maxHeartbeats 4000000 in
set_option maxRecDepth 100000 in
theorem v_X6_tick_c2 {X : zX} (K : z_Ok X cX6_tick none RX6 "tick") (hX : z_Xo X rm_X6_tick 3) {x0 : Option Nat} {x1 : Int32} {h : zH} {nx : Nat} {x : (((Option Nat) × Int32 × zH) ⊕ (zH))} (hf : f_X6_tick_c2 X.2.2.1.2.2.1 x0 x1 h = some x) (hp : P_X6_tick_2 X nx x) : zV X 2 [(0, tA x0), (1, tI x1)] [] h nx 0 0 := by
  unfold f_X6_tick_c2 at hf
  refine zv_iload_n K 1 eX6_tick_2 rfl ?_
  refine zv_aload_n K 0 eX6_tick_3 rfl ?_
  refine zv_gI K eX6_tick_4 fl_X6_46 hf (fun v1 hf => ?_)
  refine zv_icmp_ge K 59 eX6_tick_7 (by decide) hf (fun _ hf => ?_) (fun _ hf => ?_)
  · obtain ⟨w9, hf9, e9⟩ := z_i1_inv hf; clear hf; subst e9; have hf := hf9; clear hf9
    refine zv_iconst K (0 : Int32) eX6_tick_59 (by decide) ?_
    refine zv_istore_n K [(1, tI (0 : Int32)), (0, tA x0)] eX6_tick_60 (z_lt hX.2 (by decide)) rfl ?_
    exact zv_sub [1, 0] rfl (v_X6_tick_b61 K hX hf hp)
  · refine zv_iconst K (1 : Int32) eX6_tick_10 (by decide) ?_
    refine zv_istore_n K [(2, tI (1 : Int32)), (0, tA x0), (1, tI x1)] eX6_tick_11 (z_lt hX.2 (by decide)) rfl ?_
    exact zv_sub [1, 2, 0] rfl (v_X6_tick_b12 K hX hf hp)
theorem v_X6_tick_b2 {X : zX} (K : z_Ok X cX6_tick none RX6 "tick") (hX : z_Xo X rm_X6_tick 3) {x0 : Option Nat} {x1 : Int32} {h : zH} {nx : Nat} {x : (zH)} (hf : f_X6_tick_b2 X.2.2.1.2.2.1 x0 x1 h = some x) (hp : z_P0V X nx x) : zV X 2 [(0, tA x0), (1, tI x1)] [] h nx 0 0 :=
  z_it_ind (P := fun s : (Option Nat) × Int32 × zH => zV X 2 [(0, tA s.1), (1, tI s.2.1)] [] s.2.2 nx 0 0) (fun s y hb hy => v_X6_tick_c2 K hX hb (z_PL_of hy hp)) hf
set_option maxHeartbeats 4000000 in
set_option maxRecDepth 100000 in
theorem v_X6_tick {X : zX} (K : z_Ok X cX6_tick none RX6 "tick") (hX : z_Xo X rm_X6_tick 3) {x0 : Option Nat} {h : zH} {nx : Nat} {x : (zH)} (hf : f_X6_tick X.2.2.1.2.2.1 x0 h = some x) (hp : z_P0V X nx x) : zV X 0 [(0, tA x0)] [] h nx 0 0 := by
  unfold f_X6_tick at hf
  refine zv_iconst K (0 : Int32) eX6_tick_0 (by decide) ?_
  refine zv_istore_n K [(1, tI (0 : Int32)), (0, tA x0)] eX6_tick_1 (z_lt hX.2 (by decide)) rfl ?_
  exact zv_sub [1, 0] rfl (v_X6_tick_b2 K hX hf hp)
theorem c_X6_tick (l : Launch) (G : zG) {x0 : Option Nat} {h : zH} {nx : Nat} {x : zH} (hf : f_X6_tick G.2.2.1 x0 h = some x) : z_Ct l G yX6_tick cX6_tick 3 none rm_X6_tick [tA x0] h nx none x nx 0 0 :=
  z_enter [(0, tA x0)] (by decide +kernel) (Nat.le_of_ble_eq_true rfl) rfl (fun X hl hR hG hL K hq => by
    subst hl; subst hG
    exact v_X6_tick K ⟨hR, hL⟩ hf hq)
theorem m_X7_init_b14  {s0 : Option Nat} {s1 : Option Nat} {h : zH} {nx z : Nat} {x : ((Nat × Nat) × (zH))} (hf : f_X7_init_b14 s0 s1 h nx z = some x) : nx ≤ x.1.1 ∧ z ≤ x.1.2 := by
  unfold f_X7_init_b14 at hf
  obtain ⟨_, _, hf⟩ := z_bind_inv hf
  cases hf
  exact ⟨by (try dsimp only at *); omega, by (try dsimp only at *); omega⟩
set_option maxHeartbeats 4000000 in
set_option maxRecDepth 100000 in
theorem v_X7_init_b14 {X : zX} {cc0 ss0 nx0 z0 : Nat} (K : z_Ok X cX7_init none RX7 "<init>") (hX : z_Xo X (rm_X7_init cc0 ss0) 1) {s0 : Option Nat} {s1 : Option Nat} {h : zH} {nx z : Nat} (hm : nx0 ≤ nx ∧ z0 ≤ z) {x : ((Nat × Nat) × (zH))} (hf : f_X7_init_b14 s0 s1 h nx z = some x) (hp : z_Pm X nx0 z0 (z_P0Vm X nx0 z0) x) : zV X 14 [] [tA s1, tA s0] h nx (nx - nx0) (z - z0) := by
  have mB := m_X7_init_b14 hf
  unfold f_X7_init_b14 at hf
  refine zv_pXA K eX7_init_14 fx_X7_15 (Or.inr ⟨_, rfl⟩) hf (fun h1 hf => ?_)
  have e9 := Option.some.inj hf; subst e9
  exact zv_vret K eX7_init_17 hp.2
theorem m_X7_init  {x0 : Option Nat} {h : zH} {nx z : Nat} {x : ((Nat × Nat) × (zH))} (hf : f_X7_init x0 h nx z = some x) : nx ≤ x.1.1 ∧ z ≤ x.1.2 := by
  unfold f_X7_init at hf
  obtain ⟨_, _, hf⟩ := z_bind_inv hf
  obtain ⟨_, _, hf⟩ := z_bind_inv hf
  have m9 := m_X7_init_b14 hf
  exact ⟨by (try dsimp only at *); omega, by (try dsimp only at *); omega⟩
set_option maxHeartbeats 4000000 in
set_option maxRecDepth 100000 in
theorem v_X7_init {X : zX} {cc0 ss0 nx0 z0 : Nat} (K : z_Ok X cX7_init none RX7 "<init>") (hX : z_Xo X (rm_X7_init cc0 ss0) 1) {x0 : Option Nat} {h : zH} {nx z : Nat} (hm : nx0 ≤ nx ∧ z0 ≤ z) {x : ((Nat × Nat) × (zH))} (hf : f_X7_init x0 h nx z = some x) (hp : z_Pm X nx0 z0 (z_P0Vm X nx0 z0) x) : zV X 0 [(0, tA x0)] [] h nx (nx - nx0) (z - z0) := by
  have mB := m_X7_init hf
  unfold f_X7_init at hf
  refine zv_aload_n K 0 eX7_init_0 rfl ?_
  refine zv_objInit K eX7_init_1 oi_X7_3 oi_im oi_co ⟨z_le (z_fr hX) (by exact Nat.le_of_ble_eq_true rfl), z_le (z_lo hX) (by exact Nat.le_of_ble_eq_true rfl)⟩ (Nat.le_of_ble_eq_true rfl) hf (fun v1 hf => ?_)
  refine zv_aload_n K 0 eX7_init_4 rfl ?_
  refine zv_iconst K (-1 : Int32) eX7_init_5 (by decide) ?_
  refine zv_pI K eX7_init_6 fl_X7_11 ff_7_0 rfl hf (fun h2 hf => ?_)
  refine zv_aload_n K 0 eX7_init_9 rfl ?_
  refine zv_bipush K (64 : Int32) eX7_init_10 (by decide) ?_
  have m9 := m_X7_init_b14 hf
  refine zv_newI K 64 (nx + 1 - nx0) (z + 64 - z0) eX7_init_12 ar_int (by decide) (by decide) (by decide) (by omega) (by omega) (z_bd hp m9) ?_
  exact zv_sub [] rfl (v_X7_init_b14 K hX (by omega) hf hp)
theorem c_X7_init (l : Launch) (G : zG) {x0 : Option Nat} {h : zH} {nx z : Nat} {x : (Nat × Nat) × (zH)} (hf : f_X7_init x0 h nx z = some x) : z_Ct l G yX7_init cX7_init 1 none (rm_X7_init (x.1.1 - nx) (x.1.2 - z)) [tA x0] h nx none x.2 x.1.1 (x.1.1 - nx) (x.1.2 - z) :=
  z_enter [(0, tA x0)] (by decide +kernel) (Nat.le_of_ble_eq_true rfl) rfl (fun X hl hR hG hL K hq => by
    subst hl; subst hG
    have mm := m_X7_init hf
    have := v_X7_init K ⟨hR, hL⟩ (nx0 := nx) (z0 := z) ⟨Nat.le_refl _, Nat.le_refl _⟩ hf ⟨by rw [hR]; (try dsimp only [rm_X7_init]); omega, hq⟩
    rw [Nat.sub_self, Nat.sub_self] at this
    exact this)
set_option maxHeartbeats 4000000 in
set_option maxRecDepth 100000 in
theorem v_X7_begin {X : zX} (K : z_Ok X cX7_begin none RX7 "begin") (hX : z_Xo X rm_X7_begin 3) {x0 : Option Nat} {x1 : Int32} {x2 : Int32} {h : zH} {nx : Nat} {x : (zH)} (hf : f_X7_begin x0 x1 x2 h = some x) (hp : z_P0V X nx x) : zV X 0 [(0, tA x0), (1, tI x1), (2, tI x2)] [] h nx 0 0 := by
  unfold f_X7_begin at hf
  refine zv_aload_n K 0 eX7_begin_0 rfl ?_
  refine zv_iload_n K 1 eX7_begin_1 rfl ?_
  refine zv_pI K eX7_begin_2 fl_X7_11 ff_7_0 rfl hf (fun h1 hf => ?_)
  refine zv_aload_n K 0 eX7_begin_5 rfl ?_
  refine zv_iload_n K 2 eX7_begin_6 rfl ?_
  refine zv_pI K eX7_begin_7 fl_X7_19 ff_7_1 rfl hf (fun h2 hf => ?_)
  refine zv_aload_n K 0 eX7_begin_10 rfl ?_
  refine zv_gA K eX7_begin_11 fl_X7_15 hf (fun v3 hf => ?_)
  refine zv_iconst K (0 : Int32) eX7_begin_14 (by decide) ?_
  obtain ⟨h4, eh4, hf⟩ := z_bind_inv hf
  refine zv_cS0 K [tA v3, tI (0 : Int32)] [] eX7_begin_15 lk_X7_22 md_J7_fill_53178 st_J7_fill_53178 rfl rfl (Nat.le_of_ble_eq_true rfl) (c_J7_fill_53178 X.1.2.1 X.2.2.1 eh4) rfl rfl ⟨z_le (z_fr hX) (by decide), z_le (z_lo hX) (by decide)⟩ ⟨Nat.zero_le _, Nat.zero_le _⟩ ?_
  have e9 := Option.some.inj hf; subst e9
  exact zv_vret K eX7_begin_18 hp
theorem c_X7_begin (l : Launch) (G : zG) {x0 : Option Nat} {x1 : Int32} {x2 : Int32} {h : zH} {nx : Nat} {x : zH} (hf : f_X7_begin x0 x1 x2 h = some x) : z_Ct l G yX7_begin cX7_begin 3 none rm_X7_begin [tA x0, tI x1, tI x2] h nx none x nx 0 0 :=
  z_enter [(0, tA x0), (1, tI x1), (2, tI x2)] (by decide +kernel) (Nat.le_of_ble_eq_true rfl) rfl (fun X hl hR hG hL K hq => by
    subst hl; subst hG
    exact v_X7_begin K ⟨hR, hL⟩ hf hq)
set_option maxHeartbeats 4000000 in
set_option maxRecDepth 100000 in
theorem v_X7_forget {X : zX} (K : z_Ok X cX7_forget none RX7 "forget") (hX : z_Xo X rm_X7_forget 1) {x0 : Option Nat} {h : zH} {nx : Nat} {x : (zH)} (hf : f_X7_forget x0 h = some x) (hp : z_P0V X nx x) : zV X 0 [(0, tA x0)] [] h nx 0 0 := by
  unfold f_X7_forget at hf
  refine zv_aload_n K 0 eX7_forget_0 rfl ?_
  refine zv_iconst K (-1 : Int32) eX7_forget_1 (by decide) ?_
  refine zv_pI K eX7_forget_2 fl_X7_11 ff_7_0 rfl hf (fun h1 hf => ?_)
  refine zv_aload_n K 0 eX7_forget_5 rfl ?_
  refine zv_iconst K (0 : Int32) eX7_forget_6 (by decide) ?_
  refine zv_pI K eX7_forget_7 fl_X7_19 ff_7_1 rfl hf (fun h2 hf => ?_)
  have e9 := Option.some.inj hf; subst e9
  exact zv_vret K eX7_forget_10 hp
theorem c_X7_forget (l : Launch) (G : zG) {x0 : Option Nat} {h : zH} {nx : Nat} {x : zH} (hf : f_X7_forget x0 h = some x) : z_Ct l G yX7_forget cX7_forget 1 none rm_X7_forget [tA x0] h nx none x nx 0 0 :=
  z_enter [(0, tA x0)] (by decide +kernel) (Nat.le_of_ble_eq_true rfl) rfl (fun X hl hR hG hL K hq => by
    subst hl; subst hG
    exact v_X7_forget K ⟨hR, hL⟩ hf hq)
set_option maxHeartbeats 4000000 in
set_option maxRecDepth 100000 in
theorem v_X7_holdsNothing {X : zX} (K : z_Ok X cX7_holdsNothing (some .boolean) RX7 "holdsNothing") (hX : z_Xo X rm_X7_holdsNothing 1) {x0 : Option Nat} {h : zH} {nx : Nat} {x : (Int32 × zH)} (hf : f_X7_holdsNothing x0 h = some x) (hp : z_P0I X nx x) : zV X 0 [(0, tA x0)] [] h nx 0 0 := by
  unfold f_X7_holdsNothing at hf
  refine zv_aload_n K 0 eX7_holdsNothing_0 rfl ?_
  refine zv_gI K eX7_holdsNothing_1 fl_X7_11 hf (fun v1 hf => ?_)
  refine zv_iconst K (-1 : Int32) eX7_holdsNothing_4 (by decide) ?_
  refine zv_icmp_ne K 12 eX7_holdsNothing_5 (by decide) hf (fun _ hf => ?_) (fun _ hf => ?_)
  · refine zv_iconst K (0 : Int32) eX7_holdsNothing_12 (by decide) ?_
    cases hf
    exact zv_zret K eX7_holdsNothing_13 (by decide) hp
  · refine zv_iconst K (1 : Int32) eX7_holdsNothing_8 (by decide) ?_
    refine zv_goto K 13 eX7_holdsNothing_9 (by decide) ?_
    cases hf
    exact zv_zret K eX7_holdsNothing_13 (by decide) hp
theorem c_X7_holdsNothing (l : Launch) (G : zG) {x0 : Option Nat} {h : zH} {nx : Nat} {x : Int32 × zH} (hf : f_X7_holdsNothing x0 h = some x) : z_Ct l G yX7_holdsNothing cX7_holdsNothing 1 (some .boolean) rm_X7_holdsNothing [tA x0] h nx (some (tI x.1)) x.2 nx 0 0 :=
  z_enter [(0, tA x0)] (by decide +kernel) (Nat.le_of_ble_eq_true rfl) rfl (fun X hl hR hG hL K hq => by
    subst hl; subst hG
    exact v_X7_holdsNothing K ⟨hR, hL⟩ hf hq)
set_option maxHeartbeats 4000000 in
set_option maxRecDepth 100000 in
theorem v_X7_spans {X : zX} (K : z_Ok X cX7_spans (some .boolean) RX7 "spans") (hX : z_Xo X rm_X7_spans 3) {x0 : Option Nat} {x1 : Int32} {x2 : Int32} {h : zH} {nx : Nat} {x : (Int32 × zH)} (hf : f_X7_spans x0 x1 x2 h = some x) (hp : z_P0I X nx x) : zV X 0 [(0, tA x0), (1, tI x1), (2, tI x2)] [] h nx 0 0 := by
  unfold f_X7_spans at hf
  refine zv_iload_n K 1 eX7_spans_0 rfl ?_
  refine zv_if_lt K 30 eX7_spans_1 (by decide) hf (fun _ hf => ?_) (fun _ hf => ?_)
  · refine zv_iconst K (0 : Int32) eX7_spans_30 (by decide) ?_
    cases hf
    exact zv_zret K eX7_spans_31 (by decide) hp
  · refine zv_iload_n K 2 eX7_spans_4 rfl ?_
    refine zv_if_lt K 30 eX7_spans_5 (by decide) hf (fun _ hf => ?_) (fun _ hf => ?_)
    · refine zv_iconst K (0 : Int32) eX7_spans_30 (by decide) ?_
      cases hf
      exact zv_zret K eX7_spans_31 (by decide) hp
    · refine zv_iload_n K 2 eX7_spans_8 rfl ?_
      refine zv_aload_n K 0 eX7_spans_9 rfl ?_
      refine zv_gI K eX7_spans_10 fl_X7_19 hf (fun v1 hf => ?_)
      refine zv_icmp_gt K 30 eX7_spans_13 (by decide) hf (fun _ hf => ?_) (fun _ hf => ?_)
      · refine zv_iconst K (0 : Int32) eX7_spans_30 (by decide) ?_
        cases hf
        exact zv_zret K eX7_spans_31 (by decide) hp
      · refine zv_iload_n K 1 eX7_spans_16 rfl ?_
        refine zv_aload_n K 0 eX7_spans_17 rfl ?_
        refine zv_gI K eX7_spans_18 fl_X7_19 hf (fun v2 hf => ?_)
        refine zv_iload_n K 2 eX7_spans_21 rfl ?_
        refine zv_isub K eX7_spans_22 ?_
        refine zv_icmp_gt K 30 eX7_spans_23 (by decide) hf (fun _ hf => ?_) (fun _ hf => ?_)
        · refine zv_iconst K (0 : Int32) eX7_spans_30 (by decide) ?_
          cases hf
          exact zv_zret K eX7_spans_31 (by decide) hp
        · refine zv_iconst K (1 : Int32) eX7_spans_26 (by decide) ?_
          refine zv_goto K 31 eX7_spans_27 (by decide) ?_
          cases hf
          exact zv_zret K eX7_spans_31 (by decide) hp
theorem c_X7_spans (l : Launch) (G : zG) {x0 : Option Nat} {x1 : Int32} {x2 : Int32} {h : zH} {nx : Nat} {x : Int32 × zH} (hf : f_X7_spans x0 x1 x2 h = some x) : z_Ct l G yX7_spans cX7_spans 3 (some .boolean) rm_X7_spans [tA x0, tI x1, tI x2] h nx (some (tI x.1)) x.2 nx 0 0 :=
  z_enter [(0, tA x0), (1, tI x1), (2, tI x2)] (by decide +kernel) (Nat.le_of_ble_eq_true rfl) rfl (fun X hl hR hG hL K hq => by
    subst hl; subst hG
    exact v_X7_spans K ⟨hR, hL⟩ hf hq)
set_option maxHeartbeats 4000000 in
set_option maxRecDepth 100000 in
theorem v_X7_refuses {X : zX} (K : z_Ok X cX7_refuses (some .int) RX7 "refuses") (hX : z_Xo X rm_X7_refuses 4) {x0 : Option Nat} {x1 : Int32} {x2 : Int32} {x3 : Int32} {h : zH} {nx : Nat} {x : (Int32 × zH)} (hf : f_X7_refuses x0 x1 x2 x3 h = some x) (hp : z_P0I X nx x) : zV X 0 [(0, tA x0), (1, tI x1), (2, tI x2), (3, tI x3)] [] h nx 0 0 := by
  unfold f_X7_refuses at hf
  refine zv_aload_n K 0 eX7_refuses_0 rfl ?_
  obtain ⟨q1, hq1, hf⟩ := z_bind_inv hf
  obtain ⟨v3, h2, eh2, hf⟩ := z_b2_inv hf
  refine zv_cV0 K [] [] eX7_refuses_1 lk_X7_28 md_X7_holdsNothing im_X7_holdsNothing sl_X7_holdsNothing rfl rfl rfl rfl (Nat.le_of_ble_eq_true rfl) hq1 (c_X7_holdsNothing X.1.2.1 X.2.2.1 eh2) rfl rfl ⟨z_le (z_fr hX) (by decide), z_le (z_lo hX) (by decide)⟩ ⟨Nat.zero_le _, Nat.zero_le _⟩ ?_
  refine zv_if_eq K 10 eX7_refuses_4 (by decide) hf (fun _ hf => ?_) (fun _ hf => ?_)
  · refine zv_aload_n K 0 eX7_refuses_10 rfl ?_
    refine zv_gI K eX7_refuses_11 fl_X7_11 hf (fun v4 hf => ?_)
    refine zv_iload_n K 1 eX7_refuses_14 rfl ?_
    refine zv_icmp_eq K 21 eX7_refuses_15 (by decide) hf (fun _ hf => ?_) (fun _ hf => ?_)
    · refine zv_aload_n K 0 eX7_refuses_21 rfl ?_
      refine zv_iload_n K 2 eX7_refuses_22 rfl ?_
      refine zv_iload_n K 3 eX7_refuses_23 rfl ?_
      obtain ⟨q5, hq5, hf⟩ := z_bind_inv hf
      obtain ⟨v7, h6, eh6, hf⟩ := z_b2_inv hf
      refine zv_cV0 K [tI x2, tI x3] [] eX7_refuses_24 lk_X7_32 md_X7_spans im_X7_spans sl_X7_spans rfl rfl rfl rfl (Nat.le_of_ble_eq_true rfl) hq5 (c_X7_spans X.1.2.1 X.2.2.1 eh6) rfl rfl ⟨z_le (z_fr hX) (by decide), z_le (z_lo hX) (by decide)⟩ ⟨Nat.zero_le _, Nat.zero_le _⟩ ?_
      refine zv_if_eq K 34 eX7_refuses_27 (by decide) hf (fun _ hf => ?_) (fun _ hf => ?_)
      · refine zv_bipush K (-13 : Int32) eX7_refuses_34 (by decide) ?_
        have e9 := Option.some.inj hf; subst e9
        exact zv_iret K eX7_refuses_36 hp
      · refine zv_iconst K (0 : Int32) eX7_refuses_30 (by decide) ?_
        refine zv_goto K 36 eX7_refuses_31 (by decide) ?_
        have e9 := Option.some.inj hf; subst e9
        exact zv_iret K eX7_refuses_36 hp
    · refine zv_bipush K (-12 : Int32) eX7_refuses_18 (by decide) ?_
      have e9 := Option.some.inj hf; subst e9
      exact zv_iret K eX7_refuses_20 hp
  · refine zv_bipush K (-11 : Int32) eX7_refuses_7 (by decide) ?_
    have e9 := Option.some.inj hf; subst e9
    exact zv_iret K eX7_refuses_9 hp
theorem c_X7_refuses (l : Launch) (G : zG) {x0 : Option Nat} {x1 : Int32} {x2 : Int32} {x3 : Int32} {h : zH} {nx : Nat} {x : Int32 × zH} (hf : f_X7_refuses x0 x1 x2 x3 h = some x) : z_Ct l G yX7_refuses cX7_refuses 4 (some .int) rm_X7_refuses [tA x0, tI x1, tI x2, tI x3] h nx (some (tI x.1)) x.2 nx 0 0 :=
  z_enter [(0, tA x0), (1, tI x1), (2, tI x2), (3, tI x3)] (by decide +kernel) (Nat.le_of_ble_eq_true rfl) rfl (fun X hl hR hG hL K hq => by
    subst hl; subst hG
    exact v_X7_refuses K ⟨hR, hL⟩ hf hq)
def P_X7_asCells_4 (X : zX) (nx : Nat) : ((Option Nat) × Int64 × Int32 × zH) ⊕ (Int64 × zH) → Prop := z_PL (fun s => zV X 4 [(0, tA s.1), (1, tJ s.2.1), (3, tI s.2.2.1)] [] s.2.2.2 nx 0 0) (z_P0J X nx)
set_option maxHeartbeats 4000000 in
set_option maxRecDepth 100000 in
theorem v_X7_asCells_b25 {X : zX} (K : z_Ok X cX7_asCells (some .long) RX7 "asCells") (hX : z_Xo X rm_X7_asCells 4) {x0 : Option Nat} {x1 : Int64} {x3 : Int32} {h : zH} {nx : Nat} {x : (((Option Nat) × Int64 × Int32 × zH) ⊕ (Int64 × zH))} (hf : f_X7_asCells_b25 x0 x1 x3 h = some x) (hp : P_X7_asCells_4 X nx x) : zV X 25 [(0, tA x0), (1, tJ x1), (3, tI x3)] [] h nx 0 0 := by
  unfold f_X7_asCells_b25 at hf
  refine zv_iinc K (x3 + (1 : Int32)) 2 [(3, tI (x3 + (1 : Int32))), (0, tA x0), (1, tJ x1)] eX7_asCells_25 rfl rfl (z_lt hX.2 (by decide)) rfl ?_
  refine zv_goto K 4 eX7_asCells_28 (by decide) ?_
  cases hf
  exact zv_sub [1, 2, 0] rfl (show zV X 4 [(0, tA x0), (1, tJ x1), (3, tI (x3 + (1 : Int32)))] [] h nx 0 0 from hp)
set_option maxHeartbeats 4000000 in
set_option maxRecDepth 100000 in
theorem v_X7_asCells_c4 {X : zX} (K : z_Ok X cX7_asCells (some .long) RX7 "asCells") (hX : z_Xo X rm_X7_asCells 4) {x0 : Option Nat} {x1 : Int64} {x3 : Int32} {h : zH} {nx : Nat} {x : (((Option Nat) × Int64 × Int32 × zH) ⊕ (Int64 × zH))} (hf : f_X7_asCells_c4 x0 x1 x3 h = some x) (hp : P_X7_asCells_4 X nx x) : zV X 4 [(0, tA x0), (1, tJ x1), (3, tI x3)] [] h nx 0 0 := by
  unfold f_X7_asCells_c4 at hf
  refine zv_iload_n K 2 eX7_asCells_4 rfl ?_
  refine zv_bipush K (64 : Int32) eX7_asCells_5 (by decide) ?_
  refine zv_icmp_ge K 31 eX7_asCells_7 (by decide) hf (fun _ hf => ?_) (fun _ hf => ?_)
  · obtain ⟨w9, hf9, e9⟩ := z_i1_inv hf; clear hf; subst e9; have hf := hf9; clear hf9
    refine zv_lload_n K 1 eX7_asCells_31 rfl ?_
    have e9 := Option.some.inj hf; subst e9
    exact zv_lret K eX7_asCells_32 hp
  · refine zv_aload_n K 0 eX7_asCells_10 rfl ?_
    refine zv_gA K eX7_asCells_11 fl_X7_15 hf (fun v1 hf => ?_)
    refine zv_iload_n K 2 eX7_asCells_14 rfl ?_
    refine zv_aI K eX7_asCells_15 hf (fun v2 hf => ?_)
    refine zv_if_eq K 25 eX7_asCells_16 (by decide) hf (fun _ hf => ?_) (fun _ hf => ?_)
    · exact zv_sub [0, 1, 2] rfl (v_X7_asCells_b25 K hX hf hp)
    · refine zv_lload_n K 1 eX7_asCells_19 rfl ?_
      refine zv_lconst K (1 : Int64) eX7_asCells_20 (by decide) ?_
      refine zv_iload_n K 2 eX7_asCells_21 rfl ?_
      refine zv_lshl K eX7_asCells_22 ?_
      refine zv_lor K eX7_asCells_23 ?_
      refine zv_lstore_n K [(1, tJ (x1 ||| ((1 : Int64) <<< (Int32.toInt64 x3 &&& 63)))), (0, tA x0), (3, tI x3)] eX7_asCells_24 (z_lt hX.2 (by decide)) rfl ?_
      exact zv_sub [1, 0, 2] rfl (v_X7_asCells_b25 K hX hf hp)
theorem v_X7_asCells_b4 {X : zX} (K : z_Ok X cX7_asCells (some .long) RX7 "asCells") (hX : z_Xo X rm_X7_asCells 4) {x0 : Option Nat} {x1 : Int64} {x3 : Int32} {h : zH} {nx : Nat} {x : (Int64 × zH)} (hf : f_X7_asCells_b4 x0 x1 x3 h = some x) (hp : z_P0J X nx x) : zV X 4 [(0, tA x0), (1, tJ x1), (3, tI x3)] [] h nx 0 0 :=
  z_it_ind (P := fun s : (Option Nat) × Int64 × Int32 × zH => zV X 4 [(0, tA s.1), (1, tJ s.2.1), (3, tI s.2.2.1)] [] s.2.2.2 nx 0 0) (fun s y hb hy => v_X7_asCells_c4 K hX hb (z_PL_of hy hp)) hf
set_option maxHeartbeats 4000000 in
set_option maxRecDepth 100000 in
theorem v_X7_asCells {X : zX} (K : z_Ok X cX7_asCells (some .long) RX7 "asCells") (hX : z_Xo X rm_X7_asCells 4) {x0 : Option Nat} {h : zH} {nx : Nat} {x : (Int64 × zH)} (hf : f_X7_asCells x0 h = some x) (hp : z_P0J X nx x) : zV X 0 [(0, tA x0)] [] h nx 0 0 := by
  unfold f_X7_asCells at hf
  refine zv_lconst K (0 : Int64) eX7_asCells_0 (by decide) ?_
  refine zv_lstore_n K [(1, tJ (0 : Int64)), (0, tA x0)] eX7_asCells_1 (z_lt hX.2 (by decide)) rfl ?_
  refine zv_iconst K (0 : Int32) eX7_asCells_2 (by decide) ?_
  refine zv_istore_n K [(3, tI (0 : Int32)), (1, tJ (0 : Int64)), (0, tA x0)] eX7_asCells_3 (z_lt hX.2 (by decide)) rfl ?_
  exact zv_sub [2, 1, 0] rfl (v_X7_asCells_b4 K hX hf hp)
theorem c_X7_asCells (l : Launch) (G : zG) {x0 : Option Nat} {h : zH} {nx : Nat} {x : Int64 × zH} (hf : f_X7_asCells x0 h = some x) : z_Ct l G yX7_asCells cX7_asCells 4 (some .long) rm_X7_asCells [tA x0] h nx (some (tJ x.1)) x.2 nx 0 0 :=
  z_enter [(0, tA x0)] (by decide +kernel) (Nat.le_of_ble_eq_true rfl) rfl (fun X hl hR hG hL K hq => by
    subst hl; subst hG
    exact v_X7_asCells K ⟨hR, hL⟩ hf hq)
def P_X9_init_21 (X : zX) (nx0 z0 : Nat) (nz : Nat × Nat) : ((Option Nat) × Int32 × zH) ⊕ (zH) → Prop := z_PL (fun s => zV X 21 [(0, tA s.1), (1, tI s.2.1)] [] s.2.2 nz.1 (nz.1 - nx0) (nz.2 - z0)) (z_P0Vm X nx0 z0 nz)
theorem m_X9_init_b42  {x0 : Option Nat} {x1 : Int32} {s0 : Option Nat} {s1 : Int32} {s2 : Option Nat} {h : zH} {nx z : Nat} {x : ((Nat × Nat) × (((Option Nat) × Int32 × zH) ⊕ (zH)))} (hf : f_X9_init_b42 x0 x1 s0 s1 s2 h nx z = some x) : nx ≤ x.1.1 ∧ z ≤ x.1.2 := by
  unfold f_X9_init_b42 at hf
  obtain ⟨_, _, hf⟩ := z_bind_inv hf
  cases hf
  exact ⟨by (try dsimp only at *); omega, by (try dsimp only at *); omega⟩
set_option maxHeartbeats 4000000 in
set_option maxRecDepth 100000 in
theorem v_X9_init_b42 {X : zX} {cc0 ss0 nx0 z0 : Nat} (K : z_Ok X cX9_init none RX9 "<init>") (hX : z_Xo X (rm_X9_init cc0 ss0) 2) {x0 : Option Nat} {x1 : Int32} {s0 : Option Nat} {s1 : Int32} {s2 : Option Nat} {h : zH} {nx z : Nat} (hm : nx0 ≤ nx ∧ z0 ≤ z) {x : ((Nat × Nat) × (((Option Nat) × Int32 × zH) ⊕ (zH)))} (hf : f_X9_init_b42 x0 x1 s0 s1 s2 h nx z = some x) (hp : z_Pm X nx0 z0 (P_X9_init_21 X nx0 z0) x) : zV X 42 [(0, tA x0), (1, tI x1)] [tA s2, tI s1, tA s0] h nx (nx - nx0) (z - z0) := by
  have mB := m_X9_init_b42 hf
  unfold f_X9_init_b42 at hf
  refine zv_sA K eX9_init_42 hf (fun h1 hf => ?_)
  refine zv_iinc K (x1 + (1 : Int32)) 1 [(1, tI (x1 + (1 : Int32))), (0, tA x0)] eX9_init_43 rfl rfl (z_lt hX.2 (by decide)) rfl ?_
  refine zv_goto K 21 eX9_init_46 (by decide) ?_
  cases hf
  exact zv_sub [1, 0] rfl (show zV X 21 [(0, tA x0), (1, tI (x1 + (1 : Int32)))] [] h1 nx (nx - nx0) (z - z0) from hp.2)
theorem m_X9_init_b38  {x0 : Option Nat} {x1 : Int32} {s0 : Option Nat} {s1 : Int32} {s2 : Option Nat} {h : zH} {nx z : Nat} {x : ((Nat × Nat) × (((Option Nat) × Int32 × zH) ⊕ (zH)))} (hf : f_X9_init_b38 x0 x1 s0 s1 s2 h nx z = some x) : nx ≤ x.1.1 ∧ z ≤ x.1.2 := by
  unfold f_X9_init_b38 at hf
  obtain ⟨_, _, hf⟩ := z_bind_inv hf
  obtain ⟨n3, eh2, hf⟩ := z_bind_inv hf
  have mn3 := m_X6_init eh2
  have m9 := m_X9_init_b42 hf
  exact ⟨by (try dsimp only at *); omega, by (try dsimp only at *); omega⟩
set_option maxHeartbeats 4000000 in
set_option maxRecDepth 100000 in
theorem v_X9_init_b38 {X : zX} {cc0 ss0 nx0 z0 : Nat} (K : z_Ok X cX9_init none RX9 "<init>") (hX : z_Xo X (rm_X9_init cc0 ss0) 2) {x0 : Option Nat} {x1 : Int32} {s0 : Option Nat} {s1 : Int32} {s2 : Option Nat} {h : zH} {nx z : Nat} (hm : nx0 ≤ nx ∧ z0 ≤ z) {x : ((Nat × Nat) × (((Option Nat) × Int32 × zH) ⊕ (zH)))} (hf : f_X9_init_b38 x0 x1 s0 s1 s2 h nx z = some x) (hp : z_Pm X nx0 z0 (P_X9_init_21 X nx0 z0) x) : zV X 38 [(0, tA x0), (1, tI x1)] [tA s2, tI s1, tA s0] h nx (nx - nx0) (z - z0) := by
  have mB := m_X9_init_b38 hf
  unfold f_X9_init_b38 at hf
  refine zv_dup K eX9_init_38 rfl ?_
  obtain ⟨q1, hq1, hf⟩ := z_bind_inv hf
  obtain ⟨n3, eh2, hf⟩ := z_bind_inv hf
  have mn3 := m_X6_init eh2
  have m9 := m_X9_init_b42 hf
  refine zv_cI1 K [] [tA s2, tI s1, tA s0] (n3.1.1 - nx0) (n3.1.2 - z0) eX9_init_39 lk_X9_21 md_X6_init im_X6_init rfl rfl rfl (Nat.le_of_ble_eq_true rfl) hq1 (c_X6_init X.1.2.1 X.2.2.1 eh2) rfl rfl ⟨z_le (z_fr hX) (by exact Nat.le_of_ble_eq_true rfl), z_le (z_lo hX) (by exact Nat.le_of_ble_eq_true rfl)⟩ (by omega) (by omega) (by omega) (z_bd hp m9) ?_
  exact zv_sub [0, 1] rfl (v_X9_init_b42 K hX (by omega) hf hp)
theorem m_X9_init_c21  {x0 : Option Nat} {x1 : Int32} {h : zH} {nx z : Nat} {x : ((Nat × Nat) × (((Option Nat) × Int32 × zH) ⊕ (zH)))} (hf : f_X9_init_c21 x0 x1 h nx z = some x) : nx ≤ x.1.1 ∧ z ≤ x.1.2 := by
  unfold f_X9_init_c21 at hf
  obtain ⟨_, _, hf⟩ := z_bind_inv hf
  obtain ⟨_, _, hf⟩ := z_bind_inv hf
  refine z_ite_inv _ hf (fun _ hf => ?_) (fun _ hf => ?_)
  · obtain ⟨w9, hf9, e9⟩ := z_i1m_inv hf; clear hf; subst e9; have hf := hf9; clear hf9
    cases hf
    exact ⟨by (try dsimp only at *); omega, by (try dsimp only at *); omega⟩
  · obtain ⟨_, _, hf⟩ := z_bind_inv hf
    have m9 := m_X9_init_b38 hf
    exact ⟨by (try dsimp only at *); omega, by (try dsimp only at *); omega⟩
set_option maxHeartbeats 4000000 in
set_option maxRecDepth 100000 in
theorem v_X9_init_c21 {X : zX} {cc0 ss0 nx0 z0 : Nat} (K : z_Ok X cX9_init none RX9 "<init>") (hX : z_Xo X (rm_X9_init cc0 ss0) 2) {x0 : Option Nat} {x1 : Int32} {h : zH} {nx z : Nat} (hm : nx0 ≤ nx ∧ z0 ≤ z) {x : ((Nat × Nat) × (((Option Nat) × Int32 × zH) ⊕ (zH)))} (hf : f_X9_init_c21 x0 x1 h nx z = some x) (hp : z_Pm X nx0 z0 (P_X9_init_21 X nx0 z0) x) : zV X 21 [(0, tA x0), (1, tI x1)] [] h nx (nx - nx0) (z - z0) := by
  have mB := m_X9_init_c21 hf
  unfold f_X9_init_c21 at hf
  refine zv_iload_n K 1 eX9_init_21 rfl ?_
  refine zv_aload_n K 0 eX9_init_22 rfl ?_
  refine zv_gA K eX9_init_23 fl_X9_17 hf (fun v1 hf => ?_)
  refine zv_len K eX9_init_26 hf (fun v2 hf => ?_)
  refine zv_icmp_ge K 49 eX9_init_27 (by decide) hf (fun _ hf => ?_) (fun _ hf => ?_)
  · obtain ⟨w9, hf9, e9⟩ := z_i1m_inv hf; clear hf; subst e9; have hf := hf9; clear hf9
    have hp : z_Pm X nx0 z0 (z_P0Vm X nx0 z0) _ := hp
    have e9 := Option.some.inj hf; subst e9
    exact zv_vret K eX9_init_49 hp.2
  · refine zv_aload_n K 0 eX9_init_30 rfl ?_
    refine zv_gA K eX9_init_31 fl_X9_17 hf (fun v3 hf => ?_)
    refine zv_iload_n K 1 eX9_init_34 rfl ?_
    have m9 := m_X9_init_b38 hf
    refine zv_new K 6 _ [tJ 0, tJ 0, tA none, tA none, tI 0, tA none, tI 0, tI 0, tI 0] (nx + 1 - nx0) (z + 9 - z0) eX9_init_35 rfl cl_X9_15 nb_6 nt_6 df_6 (by omega) (by show _ + 9 = _; omega) (z_bd hp m9) ?_
    exact zv_sub [0, 1] rfl (v_X9_init_b38 K hX (by omega) hf hp)
theorem m_X9_init_b21  {x0 : Option Nat} {x1 : Int32} {h : zH} {nx z : Nat} {x : ((Nat × Nat) × (zH))} (hf : f_X9_init_b21 x0 x1 h nx z = some x) : nx ≤ x.1.1 ∧ z ≤ x.1.2 :=
  z_itmo (body := fun q : (Nat × Nat) × ((Option Nat) × Int32 × zH) => f_X9_init_c21 q.2.1 q.2.2.1 q.2.2.2 q.1.1 q.1.2) (nz := (nx, z)) (fun s nz y hb => m_X9_init_c21 hb) hf
theorem v_X9_init_b21 {X : zX} {cc0 ss0 nx0 z0 : Nat} (K : z_Ok X cX9_init none RX9 "<init>") (hX : z_Xo X (rm_X9_init cc0 ss0) 2) {x0 : Option Nat} {x1 : Int32} {h : zH} {nx z : Nat} (hm : nx0 ≤ nx ∧ z0 ≤ z) {x : ((Nat × Nat) × (zH))} (hf : f_X9_init_b21 x0 x1 h nx z = some x) (hp : z_Pm X nx0 z0 (z_P0Vm X nx0 z0) x) : zV X 21 [(0, tA x0), (1, tI x1)] [] h nx (nx - nx0) (z - z0) :=
  z_itm (body := fun q : (Nat × Nat) × ((Option Nat) × Int32 × zH) => f_X9_init_c21 q.2.1 q.2.2.1 q.2.2.2 q.1.1 q.1.2) (nz := (nx, z)) (P := fun s nz => zV X 21 [(0, tA s.1), (1, tI s.2.1)] [] s.2.2 nz.1 (nz.1 - nx0) (nz.2 - z0)) (Q := z_P0Vm X nx0 z0) (fun s nz y hm hb hy => v_X9_init_c21 K hX hm hb hy) (fun s nz y hb => m_X9_init_c21 hb) hm hp hf
theorem m_X9_init_b16  {x0 : Option Nat} {s0 : Option Nat} {s1 : Option Nat} {h : zH} {nx z : Nat} {x : ((Nat × Nat) × (zH))} (hf : f_X9_init_b16 x0 s0 s1 h nx z = some x) : nx ≤ x.1.1 ∧ z ≤ x.1.2 := by
  unfold f_X9_init_b16 at hf
  obtain ⟨_, _, hf⟩ := z_bind_inv hf
  have m9 := m_X9_init_b21 hf
  exact ⟨by (try dsimp only at *); omega, by (try dsimp only at *); omega⟩
set_option maxHeartbeats 4000000 in
set_option maxRecDepth 100000 in
theorem v_X9_init_b16 {X : zX} {cc0 ss0 nx0 z0 : Nat} (K : z_Ok X cX9_init none RX9 "<init>") (hX : z_Xo X (rm_X9_init cc0 ss0) 2) {x0 : Option Nat} {s0 : Option Nat} {s1 : Option Nat} {h : zH} {nx z : Nat} (hm : nx0 ≤ nx ∧ z0 ≤ z) {x : ((Nat × Nat) × (zH))} (hf : f_X9_init_b16 x0 s0 s1 h nx z = some x) (hp : z_Pm X nx0 z0 (z_P0Vm X nx0 z0) x) : zV X 16 [(0, tA x0)] [tA s1, tA s0] h nx (nx - nx0) (z - z0) := by
  have mB := m_X9_init_b16 hf
  unfold f_X9_init_b16 at hf
  refine zv_pXA K eX9_init_16 fx_X9_17 (Or.inr ⟨_, rfl⟩) hf (fun h1 hf => ?_)
  refine zv_iconst K (0 : Int32) eX9_init_19 (by decide) ?_
  refine zv_istore_n K [(1, tI (0 : Int32)), (0, tA x0)] eX9_init_20 (z_lt hX.2 (by decide)) rfl ?_
  exact zv_sub [1, 0] rfl (v_X9_init_b21 K hX (by omega) hf hp)
theorem m_X9_init_b8  {x0 : Option Nat} {s0 : Option Nat} {s1 : Option Nat} {h : zH} {nx z : Nat} {x : ((Nat × Nat) × (zH))} (hf : f_X9_init_b8 x0 s0 s1 h nx z = some x) : nx ≤ x.1.1 ∧ z ≤ x.1.2 := by
  unfold f_X9_init_b8 at hf
  obtain ⟨_, _, hf⟩ := z_bind_inv hf
  have m9 := m_X9_init_b16 hf
  exact ⟨by (try dsimp only at *); omega, by (try dsimp only at *); omega⟩
set_option maxHeartbeats 4000000 in
set_option maxRecDepth 100000 in
theorem v_X9_init_b8 {X : zX} {cc0 ss0 nx0 z0 : Nat} (K : z_Ok X cX9_init none RX9 "<init>") (hX : z_Xo X (rm_X9_init cc0 ss0) 2) {x0 : Option Nat} {s0 : Option Nat} {s1 : Option Nat} {h : zH} {nx z : Nat} (hm : nx0 ≤ nx ∧ z0 ≤ z) {x : ((Nat × Nat) × (zH))} (hf : f_X9_init_b8 x0 s0 s1 h nx z = some x) (hp : z_Pm X nx0 z0 (z_P0Vm X nx0 z0) x) : zV X 8 [(0, tA x0)] [tA s1, tA s0] h nx (nx - nx0) (z - z0) := by
  have mB := m_X9_init_b8 hf
  unfold f_X9_init_b8 at hf
  refine zv_pXA K eX9_init_8 fx_X9_9 (Or.inr ⟨_, rfl⟩) hf (fun h1 hf => ?_)
  refine zv_aload_n K 0 eX9_init_11 rfl ?_
  refine zv_iconst K (5 : Int32) eX9_init_12 (by decide) ?_
  have m9 := m_X9_init_b16 hf
  refine zv_newA K 6 5 (nx + 1 - nx0) (z + 5 - z0) _ eX9_init_13 (by decide) rfl cl_X9_15 (by decide) (by decide) (by decide) (by omega) (by omega) (z_bd hp m9) ?_
  exact zv_sub [0] rfl (v_X9_init_b16 K hX (by omega) hf hp)
theorem m_X9_init  {x0 : Option Nat} {h : zH} {nx z : Nat} {x : ((Nat × Nat) × (zH))} (hf : f_X9_init x0 h nx z = some x) : nx ≤ x.1.1 ∧ z ≤ x.1.2 := by
  unfold f_X9_init at hf
  obtain ⟨_, _, hf⟩ := z_bind_inv hf
  have m9 := m_X9_init_b8 hf
  exact ⟨by (try dsimp only at *); omega, by (try dsimp only at *); omega⟩
set_option maxHeartbeats 4000000 in
set_option maxRecDepth 100000 in
theorem v_X9_init {X : zX} {cc0 ss0 nx0 z0 : Nat} (K : z_Ok X cX9_init none RX9 "<init>") (hX : z_Xo X (rm_X9_init cc0 ss0) 2) {x0 : Option Nat} {h : zH} {nx z : Nat} (hm : nx0 ≤ nx ∧ z0 ≤ z) {x : ((Nat × Nat) × (zH))} (hf : f_X9_init x0 h nx z = some x) (hp : z_Pm X nx0 z0 (z_P0Vm X nx0 z0) x) : zV X 0 [(0, tA x0)] [] h nx (nx - nx0) (z - z0) := by
  have mB := m_X9_init hf
  unfold f_X9_init at hf
  refine zv_aload_n K 0 eX9_init_0 rfl ?_
  refine zv_objInit K eX9_init_1 oi_X9_3 oi_im oi_co ⟨z_le (z_fr hX) (by exact Nat.le_of_ble_eq_true rfl), z_le (z_lo hX) (by exact Nat.le_of_ble_eq_true rfl)⟩ (Nat.le_of_ble_eq_true rfl) hf (fun v1 hf => ?_)
  refine zv_aload_n K 0 eX9_init_4 rfl ?_
  refine zv_iconst K (4 : Int32) eX9_init_5 (by decide) ?_
  have m9 := m_X9_init_b8 hf
  refine zv_newI K 4 (nx + 1 - nx0) (z + 4 - z0) eX9_init_6 ar_int (by decide) (by decide) (by decide) (by omega) (by omega) (z_bd hp m9) ?_
  exact zv_sub [0] rfl (v_X9_init_b8 K hX (by omega) hf hp)
theorem c_X9_init (l : Launch) (G : zG) {x0 : Option Nat} {h : zH} {nx z : Nat} {x : (Nat × Nat) × (zH)} (hf : f_X9_init x0 h nx z = some x) : z_Ct l G yX9_init cX9_init 2 none (rm_X9_init (x.1.1 - nx) (x.1.2 - z)) [tA x0] h nx none x.2 x.1.1 (x.1.1 - nx) (x.1.2 - z) :=
  z_enter [(0, tA x0)] (by decide +kernel) (Nat.le_of_ble_eq_true rfl) rfl (fun X hl hR hG hL K hq => by
    subst hl; subst hG
    have mm := m_X9_init hf
    have := v_X9_init K ⟨hR, hL⟩ (nx0 := nx) (z0 := z) ⟨Nat.le_refl _, Nat.le_refl _⟩ hf ⟨by rw [hR]; (try dsimp only [rm_X9_init]); omega, hq⟩
    rw [Nat.sub_self, Nat.sub_self] at this
    exact this)
def P_X9_isEatenBy_47 (X : zX) (nx : Nat) : ((Option Nat) × Int32 × Int32 × Int32 × Int32 × Int32 × zH) ⊕ (Int32 × zH) → Prop := z_PL (fun s => zV X 47 [(0, tA s.1), (1, tI s.2.1), (2, tI s.2.2.1), (3, tI s.2.2.2.1), (4, tI s.2.2.2.2.1), (5, tI s.2.2.2.2.2.1)] [] s.2.2.2.2.2.2 nx 0 0) (z_P0I X nx)
def P_X9_isEatenBy_137 (X : zX) (nx : Nat) : ((Option Nat) × Int32 × Int32 × Int32 × Int32 × Int32 × (Option Nat) × Int32 × Int32 × zH) ⊕ (((Option Nat) × Int32 × Int32 × Int32 × Int32 × Int32 × zH) ⊕ (Int32 × zH)) → Prop := z_PL (fun s => zV X 137 [(0, tA s.1), (1, tI s.2.1), (2, tI s.2.2.1), (3, tI s.2.2.2.1), (4, tI s.2.2.2.2.1), (5, tI s.2.2.2.2.2.1), (6, tA s.2.2.2.2.2.2.1), (7, tI s.2.2.2.2.2.2.2.1), (8, tI s.2.2.2.2.2.2.2.2.1)] [] s.2.2.2.2.2.2.2.2.2 nx 0 0) (P_X9_isEatenBy_47 X nx)
set_option maxHeartbeats 4000000 in
set_option maxRecDepth 100000 in
theorem v_X9_isEatenBy_b210 {X : zX} {rec : Option Nat → Int32 → Int32 → zH → Option (Int32 × zH)} {dd : Nat} (K : z_Ok X cX9_isEatenBy (some .boolean) RX9 "isEatenBy") (hX : z_Xo X (rm_X9_isEatenBy (dd + 1)) 9) (hrec : ∀ {y0 : Option Nat} {y1 : Int32} {y2 : Int32} {h : zH} {nx : Nat} {x : Int32 × zH}, rec y0 y1 y2 h = some x → z_Ct X.1.2.1 X.2.2.1 yX9_isEatenBy cX9_isEatenBy 9 (some .boolean) (rm_X9_isEatenBy dd) [tA y0, tI y1, tI y2] h nx (some (tI x.1)) x.2 nx 0 0) {x0 : Option Nat} {x1 : Int32} {x2 : Int32} {x3 : Int32} {x4 : Int32} {x5 : Int32} {h : zH} {nx : Nat} {x : (((Option Nat) × Int32 × Int32 × Int32 × Int32 × Int32 × zH) ⊕ (Int32 × zH))} (hf : f_X9_isEatenBy_b210 X.2.2.1.2.2.1 rec x0 x1 x2 x3 x4 x5 h = some x) (hp : P_X9_isEatenBy_47 X nx x) : zV X 210 [(0, tA x0), (1, tI x1), (2, tI x2), (3, tI x3), (4, tI x4), (5, tI x5)] [] h nx 0 0 := by
  unfold f_X9_isEatenBy_b210 at hf
  refine zv_iinc K (x5 + (1 : Int32)) 5 [(5, tI (x5 + (1 : Int32))), (0, tA x0), (1, tI x1), (2, tI x2), (3, tI x3), (4, tI x4)] eX9_isEatenBy_210 rfl rfl (z_lt hX.2 (by decide)) rfl ?_
  refine zv_goto K 47 eX9_isEatenBy_213 (by decide) ?_
  cases hf
  exact zv_sub [1, 2, 3, 4, 5, 0] rfl (show zV X 47 [(0, tA x0), (1, tI x1), (2, tI x2), (3, tI x3), (4, tI x4), (5, tI (x5 + (1 : Int32)))] [] h nx 0 0 from hp)
set_option maxHeartbeats 4000000 in
set_option maxRecDepth 100000 in
theorem v_X9_isEatenBy_b172 {X : zX} {rec : Option Nat → Int32 → Int32 → zH → Option (Int32 × zH)} {dd : Nat} (K : z_Ok X cX9_isEatenBy (some .boolean) RX9 "isEatenBy") (hX : z_Xo X (rm_X9_isEatenBy (dd + 1)) 9) (hrec : ∀ {y0 : Option Nat} {y1 : Int32} {y2 : Int32} {h : zH} {nx : Nat} {x : Int32 × zH}, rec y0 y1 y2 h = some x → z_Ct X.1.2.1 X.2.2.1 yX9_isEatenBy cX9_isEatenBy 9 (some .boolean) (rm_X9_isEatenBy dd) [tA y0, tI y1, tI y2] h nx (some (tI x.1)) x.2 nx 0 0) {x0 : Option Nat} {x1 : Int32} {x2 : Int32} {x3 : Int32} {x4 : Int32} {x5 : Int32} {x6 : Option Nat} {h : zH} {nx : Nat} {x : (((Option Nat) × Int32 × Int32 × Int32 × Int32 × Int32 × zH) ⊕ (Int32 × zH))} (hf : f_X9_isEatenBy_b172 X.2.2.1.2.2.1 rec x0 x1 x2 x3 x4 x5 x6 h = some x) (hp : P_X9_isEatenBy_47 X nx x) : zV X 172 [(0, tA x0), (1, tI x1), (2, tI x2), (3, tI x3), (4, tI x4), (5, tI x5), (6, tA x6)] [] h nx 0 0 := by
  unfold f_X9_isEatenBy_b172 at hf
  refine zv_iload K 4 eX9_isEatenBy_172 rfl ?_
  refine zv_if_eq K 197 eX9_isEatenBy_174 (by decide) hf (fun _ hf => ?_) (fun _ hf => ?_)
  · refine zv_aload_n K 0 eX9_isEatenBy_197 rfl ?_
    refine zv_iload_n K 1 eX9_isEatenBy_198 rfl ?_
    refine zv_iload_n K 2 eX9_isEatenBy_199 rfl ?_
    refine zv_iconst K (1 : Int32) eX9_isEatenBy_200 (by decide) ?_
    refine zv_iadd K eX9_isEatenBy_201 ?_
    obtain ⟨q1, hq1, hf⟩ := z_bind_inv hf
    obtain ⟨v3, h2, eh2, hf⟩ := z_b2_inv hf
    refine zv_cV0 K [tI x1, tI (x2 + (1 : Int32))] [] eX9_isEatenBy_202 lk_X9_36 md_X9_isEatenBy im_X9_isEatenBy sl_X9_isEatenBy rfl rfl rfl rfl (Nat.le_of_ble_eq_true rfl) hq1 (hrec eh2) rfl rfl ⟨z_le (z_fr hX) (by simp only [rm_X9_isEatenBy]; omega), z_le (z_lo hX) (by simp only [rm_X9_isEatenBy]; omega)⟩ ⟨Nat.zero_le _, Nat.zero_le _⟩ ?_
    refine zv_if_eq K 210 eX9_isEatenBy_205 (by decide) hf (fun _ hf => ?_) (fun _ hf => ?_)
    · exact zv_sub [0, 1, 2, 3, 4, 5] rfl (v_X9_isEatenBy_b210 K hX hrec hf hp)
    · obtain ⟨w9, hf9, e9⟩ := z_i1_inv hf; clear hf; subst e9; have hf := hf9; clear hf9
      refine zv_iconst K (1 : Int32) eX9_isEatenBy_208 (by decide) ?_
      cases hf
      exact zv_zret K eX9_isEatenBy_209 (by decide) hp
  · refine zv_aload K 6 eX9_isEatenBy_177 rfl ?_
    refine zv_gA K eX9_isEatenBy_179 fl_X9_49 hf (fun v4 hf => ?_)
    refine zv_aload_n K 0 eX9_isEatenBy_182 rfl ?_
    refine zv_gI K eX9_isEatenBy_183 fl_X9_26 hf (fun v5 hf => ?_)
    refine zv_aA K eX9_isEatenBy_186 hf (fun v6 hf => ?_)
    refine zv_gI K eX9_isEatenBy_187 fl_X9_53 hf (fun v7 hf => ?_)
    refine zv_iconst K (2 : Int32) eX9_isEatenBy_190 (by decide) ?_
    refine zv_icmp_ne K 210 eX9_isEatenBy_191 (by decide) hf (fun _ hf => ?_) (fun _ hf => ?_)
    · exact zv_sub [0, 1, 2, 3, 4, 5] rfl (v_X9_isEatenBy_b210 K hX hrec hf hp)
    · obtain ⟨w9, hf9, e9⟩ := z_i1_inv hf; clear hf; subst e9; have hf := hf9; clear hf9
      refine zv_goto K 208 eX9_isEatenBy_194 (by decide) ?_
      refine zv_iconst K (1 : Int32) eX9_isEatenBy_208 (by decide) ?_
      cases hf
      exact zv_zret K eX9_isEatenBy_209 (by decide) hp
set_option maxHeartbeats 4000000 in
set_option maxRecDepth 100000 in
theorem v_X9_isEatenBy_c137 {X : zX} {rec : Option Nat → Int32 → Int32 → zH → Option (Int32 × zH)} {dd : Nat} (K : z_Ok X cX9_isEatenBy (some .boolean) RX9 "isEatenBy") (hX : z_Xo X (rm_X9_isEatenBy (dd + 1)) 9) (hrec : ∀ {y0 : Option Nat} {y1 : Int32} {y2 : Int32} {h : zH} {nx : Nat} {x : Int32 × zH}, rec y0 y1 y2 h = some x → z_Ct X.1.2.1 X.2.2.1 yX9_isEatenBy cX9_isEatenBy 9 (some .boolean) (rm_X9_isEatenBy dd) [tA y0, tI y1, tI y2] h nx (some (tI x.1)) x.2 nx 0 0) {x0 : Option Nat} {x1 : Int32} {x2 : Int32} {x3 : Int32} {x4 : Int32} {x5 : Int32} {x6 : Option Nat} {x7 : Int32} {x8 : Int32} {h : zH} {nx : Nat} {x : (((Option Nat) × Int32 × Int32 × Int32 × Int32 × Int32 × (Option Nat) × Int32 × Int32 × zH) ⊕ (((Option Nat) × Int32 × Int32 × Int32 × Int32 × Int32 × zH) ⊕ (Int32 × zH)))} (hf : f_X9_isEatenBy_c137 X.2.2.1.2.2.1 rec x0 x1 x2 x3 x4 x5 x6 x7 x8 h = some x) (hp : P_X9_isEatenBy_137 X nx x) : zV X 137 [(0, tA x0), (1, tI x1), (2, tI x2), (3, tI x3), (4, tI x4), (5, tI x5), (6, tA x6), (7, tI x7), (8, tI x8)] [] h nx 0 0 := by
  unfold f_X9_isEatenBy_c137 at hf
  refine zv_iload K 8 eX9_isEatenBy_137 rfl ?_
  refine zv_iload K 7 eX9_isEatenBy_139 rfl ?_
  refine zv_icmp_ge K 172 eX9_isEatenBy_141 (by decide) hf (fun _ hf => ?_) (fun _ hf => ?_)
  · obtain ⟨w9, hf9, e9⟩ := z_i1_inv hf; clear hf; subst e9; have hf := hf9; clear hf9
    exact zv_sub [0, 1, 2, 3, 4, 5, 6] rfl (v_X9_isEatenBy_b172 K hX hrec hf hp)
  · refine zv_aload K 6 eX9_isEatenBy_144 rfl ?_
    refine zv_gA K eX9_isEatenBy_146 fl_X9_49 hf (fun v1 hf => ?_)
    refine zv_aload_n K 0 eX9_isEatenBy_149 rfl ?_
    refine zv_gI K eX9_isEatenBy_150 fl_X9_26 hf (fun v2 hf => ?_)
    refine zv_aA K eX9_isEatenBy_153 hf (fun v3 hf => ?_)
    refine zv_gI K eX9_isEatenBy_154 fl_X9_53 hf (fun v4 hf => ?_)
    refine zv_iconst K (2 : Int32) eX9_isEatenBy_157 (by decide) ?_
    refine zv_icmp_eq K 172 eX9_isEatenBy_158 (by decide) hf (fun _ hf => ?_) (fun _ hf => ?_)
    · obtain ⟨w9, hf9, e9⟩ := z_i1_inv hf; clear hf; subst e9; have hf := hf9; clear hf9
      exact zv_sub [0, 1, 2, 3, 4, 5, 6] rfl (v_X9_isEatenBy_b172 K hX hrec hf hp)
    · refine zv_aload K 6 eX9_isEatenBy_161 rfl ?_
      obtain ⟨q5, hq5, hf⟩ := z_bind_inv hf
      obtain ⟨h6, eh6, hf⟩ := z_bind_inv hf
      refine zv_cV0 K [] [] eX9_isEatenBy_163 lk_X9_58 md_X6_tick im_X6_tick sl_X6_tick rfl rfl rfl rfl (Nat.le_of_ble_eq_true rfl) hq5 (c_X6_tick X.1.2.1 X.2.2.1 eh6) rfl rfl ⟨z_le (z_fr hX) (by simp only [rm_X9_isEatenBy, rm_X6_tick]; omega), z_le (z_lo hX) (by simp only [rm_X9_isEatenBy, rm_X6_tick]; omega)⟩ ⟨Nat.zero_le _, Nat.zero_le _⟩ ?_
      refine zv_iinc K (x8 + (1 : Int32)) 8 [(8, tI (x8 + (1 : Int32))), (0, tA x0), (1, tI x1), (2, tI x2), (3, tI x3), (4, tI x4), (5, tI x5), (6, tA x6), (7, tI x7)] eX9_isEatenBy_166 rfl rfl (z_lt hX.2 (by decide)) rfl ?_
      refine zv_goto K 137 eX9_isEatenBy_169 (by decide) ?_
      cases hf
      exact zv_sub [1, 2, 3, 4, 5, 6, 7, 8, 0] rfl (show zV X 137 [(0, tA x0), (1, tI x1), (2, tI x2), (3, tI x3), (4, tI x4), (5, tI x5), (6, tA x6), (7, tI x7), (8, tI (x8 + (1 : Int32)))] [] h6 nx 0 0 from hp)
theorem v_X9_isEatenBy_b137 {X : zX} {rec : Option Nat → Int32 → Int32 → zH → Option (Int32 × zH)} {dd : Nat} (K : z_Ok X cX9_isEatenBy (some .boolean) RX9 "isEatenBy") (hX : z_Xo X (rm_X9_isEatenBy (dd + 1)) 9) (hrec : ∀ {y0 : Option Nat} {y1 : Int32} {y2 : Int32} {h : zH} {nx : Nat} {x : Int32 × zH}, rec y0 y1 y2 h = some x → z_Ct X.1.2.1 X.2.2.1 yX9_isEatenBy cX9_isEatenBy 9 (some .boolean) (rm_X9_isEatenBy dd) [tA y0, tI y1, tI y2] h nx (some (tI x.1)) x.2 nx 0 0) {x0 : Option Nat} {x1 : Int32} {x2 : Int32} {x3 : Int32} {x4 : Int32} {x5 : Int32} {x6 : Option Nat} {x7 : Int32} {x8 : Int32} {h : zH} {nx : Nat} {x : (((Option Nat) × Int32 × Int32 × Int32 × Int32 × Int32 × zH) ⊕ (Int32 × zH))} (hf : f_X9_isEatenBy_b137 X.2.2.1.2.2.1 rec x0 x1 x2 x3 x4 x5 x6 x7 x8 h = some x) (hp : P_X9_isEatenBy_47 X nx x) : zV X 137 [(0, tA x0), (1, tI x1), (2, tI x2), (3, tI x3), (4, tI x4), (5, tI x5), (6, tA x6), (7, tI x7), (8, tI x8)] [] h nx 0 0 :=
  z_it_ind (P := fun s : (Option Nat) × Int32 × Int32 × Int32 × Int32 × Int32 × (Option Nat) × Int32 × Int32 × zH => zV X 137 [(0, tA s.1), (1, tI s.2.1), (2, tI s.2.2.1), (3, tI s.2.2.2.1), (4, tI s.2.2.2.2.1), (5, tI s.2.2.2.2.2.1), (6, tA s.2.2.2.2.2.2.1), (7, tI s.2.2.2.2.2.2.2.1), (8, tI s.2.2.2.2.2.2.2.2.1)] [] s.2.2.2.2.2.2.2.2.2 nx 0 0) (fun s y hb hy => v_X9_isEatenBy_c137 K hX hrec hb (z_PL_of hy hp)) hf
set_option maxHeartbeats 4000000 in
set_option maxRecDepth 100000 in
theorem v_X9_isEatenBy_b132 {X : zX} {rec : Option Nat → Int32 → Int32 → zH → Option (Int32 × zH)} {dd : Nat} (K : z_Ok X cX9_isEatenBy (some .boolean) RX9 "isEatenBy") (hX : z_Xo X (rm_X9_isEatenBy (dd + 1)) 9) (hrec : ∀ {y0 : Option Nat} {y1 : Int32} {y2 : Int32} {h : zH} {nx : Nat} {x : Int32 × zH}, rec y0 y1 y2 h = some x → z_Ct X.1.2.1 X.2.2.1 yX9_isEatenBy cX9_isEatenBy 9 (some .boolean) (rm_X9_isEatenBy dd) [tA y0, tI y1, tI y2] h nx (some (tI x.1)) x.2 nx 0 0) {x0 : Option Nat} {x1 : Int32} {x2 : Int32} {x3 : Int32} {x4 : Int32} {x5 : Int32} {x6 : Option Nat} {s0 : Int32} {h : zH} {nx : Nat} {x : (((Option Nat) × Int32 × Int32 × Int32 × Int32 × Int32 × zH) ⊕ (Int32 × zH))} (hf : f_X9_isEatenBy_b132 X.2.2.1.2.2.1 rec x0 x1 x2 x3 x4 x5 x6 s0 h = some x) (hp : P_X9_isEatenBy_47 X nx x) : zV X 132 [(0, tA x0), (1, tI x1), (2, tI x2), (3, tI x3), (4, tI x4), (5, tI x5), (6, tA x6)] [tI s0] h nx 0 0 := by
  unfold f_X9_isEatenBy_b132 at hf
  refine zv_istore K [(7, tI s0), (0, tA x0), (1, tI x1), (2, tI x2), (3, tI x3), (4, tI x4), (5, tI x5), (6, tA x6)] eX9_isEatenBy_132 (z_lt hX.2 (by decide)) rfl ?_
  refine zv_iconst K (0 : Int32) eX9_isEatenBy_134 (by decide) ?_
  refine zv_istore K [(8, tI (0 : Int32)), (7, tI s0), (0, tA x0), (1, tI x1), (2, tI x2), (3, tI x3), (4, tI x4), (5, tI x5), (6, tA x6)] eX9_isEatenBy_135 (z_lt hX.2 (by decide)) rfl ?_
  exact zv_sub [2, 3, 4, 5, 6, 7, 8, 1, 0] rfl (v_X9_isEatenBy_b137 K hX hrec hf hp)
set_option maxHeartbeats 4000000 in
set_option maxRecDepth 100000 in
theorem v_X9_isEatenBy_b78 {X : zX} {rec : Option Nat → Int32 → Int32 → zH → Option (Int32 × zH)} {dd : Nat} (K : z_Ok X cX9_isEatenBy (some .boolean) RX9 "isEatenBy") (hX : z_Xo X (rm_X9_isEatenBy (dd + 1)) 9) (hrec : ∀ {y0 : Option Nat} {y1 : Int32} {y2 : Int32} {h : zH} {nx : Nat} {x : Int32 × zH}, rec y0 y1 y2 h = some x → z_Ct X.1.2.1 X.2.2.1 yX9_isEatenBy cX9_isEatenBy 9 (some .boolean) (rm_X9_isEatenBy dd) [tA y0, tI y1, tI y2] h nx (some (tI x.1)) x.2 nx 0 0) {x0 : Option Nat} {x1 : Int32} {x2 : Int32} {x3 : Int32} {x4 : Int32} {x5 : Int32} {h : zH} {nx : Nat} {x : (((Option Nat) × Int32 × Int32 × Int32 × Int32 × Int32 × zH) ⊕ (Int32 × zH))} (hf : f_X9_isEatenBy_b78 X.2.2.1.2.2.1 rec x0 x1 x2 x3 x4 x5 h = some x) (hp : P_X9_isEatenBy_47 X nx x) : zV X 78 [(0, tA x0), (1, tI x1), (2, tI x2), (3, tI x3), (4, tI x4), (5, tI x5)] [] h nx 0 0 := by
  unfold f_X9_isEatenBy_b78 at hf
  refine zv_aload_n K 0 eX9_isEatenBy_78 rfl ?_
  refine zv_gA K eX9_isEatenBy_79 fl_X9_9 hf (fun v1 hf => ?_)
  refine zv_iload_n K 2 eX9_isEatenBy_82 rfl ?_
  refine zv_iload K 5 eX9_isEatenBy_83 rfl ?_
  refine zv_sI K eX9_isEatenBy_85 hf (fun h2 hf => ?_)
  refine zv_aload_n K 0 eX9_isEatenBy_86 rfl ?_
  refine zv_gA K eX9_isEatenBy_87 fl_X9_17 hf (fun v3 hf => ?_)
  refine zv_iload_n K 2 eX9_isEatenBy_90 rfl ?_
  refine zv_iconst K (1 : Int32) eX9_isEatenBy_91 (by decide) ?_
  refine zv_iadd K eX9_isEatenBy_92 ?_
  refine zv_aA K eX9_isEatenBy_93 hf (fun v4 hf => ?_)
  refine zv_astore K [(6, tA v4), (0, tA x0), (1, tI x1), (2, tI x2), (3, tI x3), (4, tI x4), (5, tI x5)] eX9_isEatenBy_94 (z_lt hX.2 (by decide)) rfl ?_
  refine zv_aload K 0 eX9_isEatenBy_96 rfl ?_
  refine zv_aload_n K 1 eX9_isEatenBy_98 rfl ?_
  refine zv_gA K eX9_isEatenBy_99 fl_X9_17 hf (fun v5 hf => ?_)
  refine zv_iload_n K 3 eX9_isEatenBy_102 rfl ?_
  refine zv_aA K eX9_isEatenBy_103 hf (fun v6 hf => ?_)
  obtain ⟨q7, hq7, hf⟩ := z_bind_inv hf
  obtain ⟨h8, eh8, hf⟩ := z_bind_inv hf
  refine zv_cV0 K [tA v6] [] eX9_isEatenBy_104 lk_X9_32 md_X6_become im_X6_become sl_X6_become rfl rfl rfl rfl (Nat.le_of_ble_eq_true rfl) hq7 (c_X6_become X.1.2.1 X.2.2.1 eh8) rfl rfl ⟨z_le (z_fr hX) (by simp only [rm_X9_isEatenBy, rm_X6_become]; omega), z_le (z_lo hX) (by simp only [rm_X9_isEatenBy, rm_X6_become]; omega)⟩ ⟨Nat.zero_le _, Nat.zero_le _⟩ ?_
  refine zv_aload K 0 eX9_isEatenBy_107 rfl ?_
  refine zv_gA K eX9_isEatenBy_109 fl_X9_40 hf (fun v9 hf => ?_)
  refine zv_aload_n K 1 eX9_isEatenBy_112 rfl ?_
  refine zv_gI K eX9_isEatenBy_113 fl_X9_22 hf (fun v10 hf => ?_)
  refine zv_aA K eX9_isEatenBy_116 hf (fun v11 hf => ?_)
  refine zv_iload K 6 eX9_isEatenBy_117 rfl ?_
  refine zv_pI K eX9_isEatenBy_119 fl_X9_44 ff_0_2 rfl hf (fun h12 hf => ?_)
  refine zv_iload K 5 eX9_isEatenBy_122 rfl ?_
  refine zv_if_eq K 131 eX9_isEatenBy_124 (by decide) hf (fun _ hf => ?_) (fun _ hf => ?_)
  · refine zv_iconst K (2 : Int32) eX9_isEatenBy_131 (by decide) ?_
    exact zv_sub [1, 2, 3, 4, 5, 6, 0] rfl (v_X9_isEatenBy_b132 K hX hrec hf hp)
  · refine zv_iload_n K 4 eX9_isEatenBy_127 rfl ?_
    refine zv_goto K 132 eX9_isEatenBy_128 (by decide) ?_
    exact zv_sub [1, 2, 3, 4, 5, 6, 0] rfl (v_X9_isEatenBy_b132 K hX hrec hf hp)
set_option maxHeartbeats 4000000 in
set_option maxRecDepth 100000 in
theorem v_X9_isEatenBy_c47 {X : zX} {rec : Option Nat → Int32 → Int32 → zH → Option (Int32 × zH)} {dd : Nat} (K : z_Ok X cX9_isEatenBy (some .boolean) RX9 "isEatenBy") (hX : z_Xo X (rm_X9_isEatenBy (dd + 1)) 9) (hrec : ∀ {y0 : Option Nat} {y1 : Int32} {y2 : Int32} {h : zH} {nx : Nat} {x : Int32 × zH}, rec y0 y1 y2 h = some x → z_Ct X.1.2.1 X.2.2.1 yX9_isEatenBy cX9_isEatenBy 9 (some .boolean) (rm_X9_isEatenBy dd) [tA y0, tI y1, tI y2] h nx (some (tI x.1)) x.2 nx 0 0) {x0 : Option Nat} {x1 : Int32} {x2 : Int32} {x3 : Int32} {x4 : Int32} {x5 : Int32} {h : zH} {nx : Nat} {x : (((Option Nat) × Int32 × Int32 × Int32 × Int32 × Int32 × zH) ⊕ (Int32 × zH))} (hf : f_X9_isEatenBy_c47 X.2.2.1.2.2.1 rec x0 x1 x2 x3 x4 x5 h = some x) (hp : P_X9_isEatenBy_47 X nx x) : zV X 47 [(0, tA x0), (1, tI x1), (2, tI x2), (3, tI x3), (4, tI x4), (5, tI x5)] [] h nx 0 0 := by
  unfold f_X9_isEatenBy_c47 at hf
  refine zv_iload K 5 eX9_isEatenBy_47 rfl ?_
  refine zv_iconst K (3 : Int32) eX9_isEatenBy_49 (by decide) ?_
  refine zv_icmp_gt K 216 eX9_isEatenBy_50 (by decide) hf (fun _ hf => ?_) (fun _ hf => ?_)
  · obtain ⟨w9, hf9, e9⟩ := z_i1_inv hf; clear hf; subst e9; have hf := hf9; clear hf9
    refine zv_iconst K (0 : Int32) eX9_isEatenBy_216 (by decide) ?_
    cases hf
    exact zv_zret K eX9_isEatenBy_217 (by decide) hp
  · refine zv_iload K 4 eX9_isEatenBy_53 rfl ?_
    refine zv_if_eq K 78 eX9_isEatenBy_55 (by decide) hf (fun _ hf => ?_) (fun _ hf => ?_)
    · exact zv_sub [0, 1, 2, 3, 4, 5] rfl (v_X9_isEatenBy_b78 K hX hrec hf hp)
    · refine zv_iload_n K 2 eX9_isEatenBy_58 rfl ?_
      refine zv_if_le K 78 eX9_isEatenBy_59 (by decide) hf (fun _ hf => ?_) (fun _ hf => ?_)
      · exact zv_sub [0, 1, 2, 3, 4, 5] rfl (v_X9_isEatenBy_b78 K hX hrec hf hp)
      · refine zv_iload K 5 eX9_isEatenBy_62 rfl ?_
        refine zv_aload_n K 0 eX9_isEatenBy_64 rfl ?_
        refine zv_gA K eX9_isEatenBy_65 fl_X9_9 hf (fun v1 hf => ?_)
        refine zv_iload_n K 2 eX9_isEatenBy_68 rfl ?_
        refine zv_iconst K (1 : Int32) eX9_isEatenBy_69 (by decide) ?_
        refine zv_isub K eX9_isEatenBy_70 ?_
        refine zv_aI K eX9_isEatenBy_71 hf (fun v2 hf => ?_)
        refine zv_icmp_ne K 78 eX9_isEatenBy_72 (by decide) hf (fun _ hf => ?_) (fun _ hf => ?_)
        · exact zv_sub [0, 1, 2, 3, 4, 5] rfl (v_X9_isEatenBy_b78 K hX hrec hf hp)
        · refine zv_goto K 210 eX9_isEatenBy_75 (by decide) ?_
          exact zv_sub [0, 1, 2, 3, 4, 5] rfl (v_X9_isEatenBy_b210 K hX hrec hf hp)
theorem v_X9_isEatenBy_b47 {X : zX} {rec : Option Nat → Int32 → Int32 → zH → Option (Int32 × zH)} {dd : Nat} (K : z_Ok X cX9_isEatenBy (some .boolean) RX9 "isEatenBy") (hX : z_Xo X (rm_X9_isEatenBy (dd + 1)) 9) (hrec : ∀ {y0 : Option Nat} {y1 : Int32} {y2 : Int32} {h : zH} {nx : Nat} {x : Int32 × zH}, rec y0 y1 y2 h = some x → z_Ct X.1.2.1 X.2.2.1 yX9_isEatenBy cX9_isEatenBy 9 (some .boolean) (rm_X9_isEatenBy dd) [tA y0, tI y1, tI y2] h nx (some (tI x.1)) x.2 nx 0 0) {x0 : Option Nat} {x1 : Int32} {x2 : Int32} {x3 : Int32} {x4 : Int32} {x5 : Int32} {h : zH} {nx : Nat} {x : (Int32 × zH)} (hf : f_X9_isEatenBy_b47 X.2.2.1.2.2.1 rec x0 x1 x2 x3 x4 x5 h = some x) (hp : z_P0I X nx x) : zV X 47 [(0, tA x0), (1, tI x1), (2, tI x2), (3, tI x3), (4, tI x4), (5, tI x5)] [] h nx 0 0 :=
  z_it_ind (P := fun s : (Option Nat) × Int32 × Int32 × Int32 × Int32 × Int32 × zH => zV X 47 [(0, tA s.1), (1, tI s.2.1), (2, tI s.2.2.1), (3, tI s.2.2.2.1), (4, tI s.2.2.2.2.1), (5, tI s.2.2.2.2.2.1)] [] s.2.2.2.2.2.2 nx 0 0) (fun s y hb hy => v_X9_isEatenBy_c47 K hX hrec hb (z_PL_of hy hp)) hf
set_option maxHeartbeats 4000000 in
set_option maxRecDepth 100000 in
theorem v_X9_isEatenBy_b44 {X : zX} {rec : Option Nat → Int32 → Int32 → zH → Option (Int32 × zH)} {dd : Nat} (K : z_Ok X cX9_isEatenBy (some .boolean) RX9 "isEatenBy") (hX : z_Xo X (rm_X9_isEatenBy (dd + 1)) 9) (hrec : ∀ {y0 : Option Nat} {y1 : Int32} {y2 : Int32} {h : zH} {nx : Nat} {x : Int32 × zH}, rec y0 y1 y2 h = some x → z_Ct X.1.2.1 X.2.2.1 yX9_isEatenBy cX9_isEatenBy 9 (some .boolean) (rm_X9_isEatenBy dd) [tA y0, tI y1, tI y2] h nx (some (tI x.1)) x.2 nx 0 0) {x0 : Option Nat} {x1 : Int32} {x2 : Int32} {x3 : Int32} {x4 : Int32} {h : zH} {nx : Nat} {x : (Int32 × zH)} (hf : f_X9_isEatenBy_b44 X.2.2.1.2.2.1 rec x0 x1 x2 x3 x4 h = some x) (hp : z_P0I X nx x) : zV X 44 [(0, tA x0), (1, tI x1), (2, tI x2), (3, tI x3), (4, tI x4)] [] h nx 0 0 := by
  unfold f_X9_isEatenBy_b44 at hf
  refine zv_iconst K (0 : Int32) eX9_isEatenBy_44 (by decide) ?_
  refine zv_istore K [(5, tI (0 : Int32)), (0, tA x0), (1, tI x1), (2, tI x2), (3, tI x3), (4, tI x4)] eX9_isEatenBy_45 (z_lt hX.2 (by decide)) rfl ?_
  exact zv_sub [1, 2, 3, 4, 5, 0] rfl (v_X9_isEatenBy_b47 K hX hrec hf hp)
set_option maxHeartbeats 4000000 in
set_option maxRecDepth 100000 in
theorem v_X9_isEatenBy_b21 {X : zX} {rec : Option Nat → Int32 → Int32 → zH → Option (Int32 × zH)} {dd : Nat} (K : z_Ok X cX9_isEatenBy (some .boolean) RX9 "isEatenBy") (hX : z_Xo X (rm_X9_isEatenBy (dd + 1)) 9) (hrec : ∀ {y0 : Option Nat} {y1 : Int32} {y2 : Int32} {h : zH} {nx : Nat} {x : Int32 × zH}, rec y0 y1 y2 h = some x → z_Ct X.1.2.1 X.2.2.1 yX9_isEatenBy cX9_isEatenBy 9 (some .boolean) (rm_X9_isEatenBy dd) [tA y0, tI y1, tI y2] h nx (some (tI x.1)) x.2 nx 0 0) {x0 : Option Nat} {x1 : Int32} {x2 : Int32} {x3 : Int32} {s0 : Int32} {h : zH} {nx : Nat} {x : (Int32 × zH)} (hf : f_X9_isEatenBy_b21 X.2.2.1.2.2.1 rec x0 x1 x2 x3 s0 h = some x) (hp : z_P0I X nx x) : zV X 21 [(0, tA x0), (1, tI x1), (2, tI x2), (3, tI x3)] [tI s0] h nx 0 0 := by
  unfold f_X9_isEatenBy_b21 at hf
  refine zv_istore K [(4, tI s0), (0, tA x0), (1, tI x1), (2, tI x2), (3, tI x3)] eX9_isEatenBy_21 (z_lt hX.2 (by decide)) rfl ?_
  refine zv_iload_n K 3 eX9_isEatenBy_23 rfl ?_
  refine zv_iload_n K 2 eX9_isEatenBy_24 rfl ?_
  refine zv_icmp_ge K 42 eX9_isEatenBy_25 (by decide) hf (fun _ hf => ?_) (fun _ hf => ?_)
  · refine zv_iconst K (0 : Int32) eX9_isEatenBy_42 (by decide) ?_
    cases hf
    exact zv_zret K eX9_isEatenBy_43 (by decide) hp
  · refine zv_iload_n K 4 eX9_isEatenBy_28 rfl ?_
    refine zv_if_le K 42 eX9_isEatenBy_29 (by decide) hf (fun _ hf => ?_) (fun _ hf => ?_)
    · refine zv_iconst K (0 : Int32) eX9_isEatenBy_42 (by decide) ?_
      cases hf
      exact zv_zret K eX9_isEatenBy_43 (by decide) hp
    · refine zv_iload K 0 eX9_isEatenBy_32 rfl ?_
      refine zv_if_ne K 44 eX9_isEatenBy_34 (by decide) hf (fun _ hf => ?_) (fun _ hf => ?_)
      · exact zv_sub [1, 2, 3, 4, 0] rfl (v_X9_isEatenBy_b44 K hX hrec hf hp)
      · refine zv_iload_n K 4 eX9_isEatenBy_37 rfl ?_
        refine zv_iconst K (2 : Int32) eX9_isEatenBy_38 (by decide) ?_
        refine zv_icmp_gt K 44 eX9_isEatenBy_39 (by decide) hf (fun _ hf => ?_) (fun _ hf => ?_)
        · exact zv_sub [1, 2, 3, 4, 0] rfl (v_X9_isEatenBy_b44 K hX hrec hf hp)
        · refine zv_iconst K (0 : Int32) eX9_isEatenBy_42 (by decide) ?_
          cases hf
          exact zv_zret K eX9_isEatenBy_43 (by decide) hp
set_option maxHeartbeats 4000000 in
set_option maxRecDepth 100000 in
theorem v_X9_isEatenBy_r {X : zX} {rec : Option Nat → Int32 → Int32 → zH → Option (Int32 × zH)} {dd : Nat} (K : z_Ok X cX9_isEatenBy (some .boolean) RX9 "isEatenBy") (hX : z_Xo X (rm_X9_isEatenBy (dd + 1)) 9) (hrec : ∀ {y0 : Option Nat} {y1 : Int32} {y2 : Int32} {h : zH} {nx : Nat} {x : Int32 × zH}, rec y0 y1 y2 h = some x → z_Ct X.1.2.1 X.2.2.1 yX9_isEatenBy cX9_isEatenBy 9 (some .boolean) (rm_X9_isEatenBy dd) [tA y0, tI y1, tI y2] h nx (some (tI x.1)) x.2 nx 0 0) {x0 : Option Nat} {x1 : Int32} {x2 : Int32} {h : zH} {nx : Nat} {x : (Int32 × zH)} (hf : f_X9_isEatenBy_r X.2.2.1.2.2.1 rec x0 x1 x2 h = some x) (hp : z_P0I X nx x) : zV X 0 [(0, tA x0), (1, tI x1), (2, tI x2)] [] h nx 0 0 := by
  unfold f_X9_isEatenBy_r at hf
  refine zv_aload_n K 0 eX9_isEatenBy_0 rfl ?_
  refine zv_gI K eX9_isEatenBy_1 fl_X9_29 hf (fun v1 hf => ?_)
  refine zv_iconst K (2 : Int32) eX9_isEatenBy_4 (by decide) ?_
  refine zv_iload_n K 2 eX9_isEatenBy_5 rfl ?_
  refine zv_imul K eX9_isEatenBy_6 ?_
  refine zv_isub K eX9_isEatenBy_7 ?_
  refine zv_istore_n K [(3, tI (v1 - ((2 : Int32) * x2))), (0, tA x0), (1, tI x1), (2, tI x2)] eX9_isEatenBy_8 (z_lt hX.2 (by decide)) rfl ?_
  refine zv_iload_n K 3 eX9_isEatenBy_9 rfl ?_
  refine zv_iload_n K 2 eX9_isEatenBy_10 rfl ?_
  refine zv_iconst K (1 : Int32) eX9_isEatenBy_11 (by decide) ?_
  refine zv_isub K eX9_isEatenBy_12 ?_
  refine zv_icmp_ne K 20 eX9_isEatenBy_13 (by decide) hf (fun _ hf => ?_) (fun _ hf => ?_)
  · refine zv_iconst K (0 : Int32) eX9_isEatenBy_20 (by decide) ?_
    exact zv_sub [1, 2, 3, 0] rfl (v_X9_isEatenBy_b21 K hX hrec hf hp)
  · refine zv_iconst K (1 : Int32) eX9_isEatenBy_16 (by decide) ?_
    refine zv_goto K 21 eX9_isEatenBy_17 (by decide) ?_
    exact zv_sub [1, 2, 3, 0] rfl (v_X9_isEatenBy_b21 K hX hrec hf hp)
theorem c_X9_isEatenBy (l : Launch) (G : zG) : ∀ {dd : Nat} {x0 : Option Nat} {x1 : Int32} {x2 : Int32} {h : zH} {nx : Nat} {x : Int32 × zH}, f_X9_isEatenBy G.2.2.1 dd x0 x1 x2 h = some x → z_Ct l G yX9_isEatenBy cX9_isEatenBy 9 (some .boolean) (rm_X9_isEatenBy dd) [tA x0, tI x1, tI x2] h nx (some (tI x.1)) x.2 nx 0 0 := by
  intro dd
  induction dd with
  | zero => intros; rename_i hf; cases hf
  | succ dd ih =>
    intro x0 x1 x2 h nx x hf
    refine z_enter [(0, tA x0), (1, tI x1), (2, tI x2)] (by decide +kernel) (Nat.le_of_ble_eq_true rfl) rfl (fun X hl hR hG hL K hq => ?_)
    subst hl; subst hG
    exact v_X9_isEatenBy_r (rec := f_X9_isEatenBy X.2.2.1.2.2.1 dd) K ⟨hR, hL⟩ (fun e => ih e) hf hq
def P_X9_search_29 (X : zX) (nx : Nat) : ((Option Nat) × Int32 × zH) ⊕ (Int32 × zH) → Prop := z_PL (fun s => zV X 29 [(0, tA s.1), (5, tI s.2.1)] [] s.2.2 nx 0 0) (z_P0I X nx)
set_option maxHeartbeats 4000000 in
set_option maxRecDepth 100000 in
theorem v_X9_search_c29 {X : zX} (K : z_Ok X cX9_search (some .int) RX9 "search") (hX : z_Xo X rm_X9_search 6) {x0 : Option Nat} {x5 : Int32} {h : zH} {nx : Nat} {x : (((Option Nat) × Int32 × zH) ⊕ (Int32 × zH))} (hf : f_X9_search_c29 X.2.2.1.2.2.1 x0 x5 h = some x) (hp : P_X9_search_29 X nx x) : zV X 29 [(0, tA x0), (5, tI x5)] [] h nx 0 0 := by
  unfold f_X9_search_c29 at hf
  refine zv_iload K 1 eX9_search_29 rfl ?_
  refine zv_iconst K (4 : Int32) eX9_search_31 (by decide) ?_
  refine zv_icmp_gt K 54 eX9_search_32 (by decide) hf (fun _ hf => ?_) (fun _ hf => ?_)
  · obtain ⟨w9, hf9, e9⟩ := z_i1_inv hf; clear hf; subst e9; have hf := hf9; clear hf9
    refine zv_iconst K (0 : Int32) eX9_search_54 (by decide) ?_
    have e9 := Option.some.inj hf; subst e9
    exact zv_iret K eX9_search_55 hp
  · refine zv_aload_n K 0 eX9_search_35 rfl ?_
    refine zv_iload K 1 eX9_search_36 rfl ?_
    refine zv_iconst K (0 : Int32) eX9_search_38 (by decide) ?_
    obtain ⟨q1, hq1, hf⟩ := z_bind_inv hf
    obtain ⟨v3, h2, eh2, hf⟩ := z_b2_inv hf
    refine zv_cV0 K [tI x5, tI (0 : Int32)] [] eX9_search_39 lk_X9_36 md_X9_isEatenBy im_X9_isEatenBy sl_X9_isEatenBy rfl rfl rfl rfl (Nat.le_of_ble_eq_true rfl) hq1 (c_X9_isEatenBy X.1.2.1 X.2.2.1 eh2) rfl rfl ⟨z_le (z_fr hX) (by decide), z_le (z_lo hX) (by decide)⟩ ⟨Nat.zero_le _, Nat.zero_le _⟩ ?_
    refine zv_if_eq K 48 eX9_search_42 (by decide) hf (fun _ hf => ?_) (fun _ hf => ?_)
    · refine zv_iinc K (x5 + (1 : Int32)) 1 [(5, tI (x5 + (1 : Int32))), (0, tA x0)] eX9_search_48 rfl rfl (z_lt hX.2 (by decide)) rfl ?_
      refine zv_goto K 29 eX9_search_51 (by decide) ?_
      cases hf
      exact zv_sub [1, 0] rfl (show zV X 29 [(0, tA x0), (5, tI (x5 + (1 : Int32)))] [] h2 nx 0 0 from hp)
    · obtain ⟨w9, hf9, e9⟩ := z_i1_inv hf; clear hf; subst e9; have hf := hf9; clear hf9
      refine zv_iload K 1 eX9_search_45 rfl ?_
      have e9 := Option.some.inj hf; subst e9
      exact zv_iret K eX9_search_47 hp
theorem v_X9_search_b29 {X : zX} (K : z_Ok X cX9_search (some .int) RX9 "search") (hX : z_Xo X rm_X9_search 6) {x0 : Option Nat} {x5 : Int32} {h : zH} {nx : Nat} {x : (Int32 × zH)} (hf : f_X9_search_b29 X.2.2.1.2.2.1 x0 x5 h = some x) (hp : z_P0I X nx x) : zV X 29 [(0, tA x0), (5, tI x5)] [] h nx 0 0 :=
  z_it_ind (P := fun s : (Option Nat) × Int32 × zH => zV X 29 [(0, tA s.1), (5, tI s.2.1)] [] s.2.2 nx 0 0) (fun s y hb hy => v_X9_search_c29 K hX hb (z_PL_of hy hp)) hf
set_option maxHeartbeats 4000000 in
set_option maxRecDepth 100000 in
theorem v_X9_search {X : zX} (K : z_Ok X cX9_search (some .int) RX9 "search") (hX : z_Xo X rm_X9_search 6) {x0 : Option Nat} {x1 : Option Nat} {x2 : Int32} {x3 : Int32} {x4 : Int32} {h : zH} {nx : Nat} {x : (Int32 × zH)} (hf : f_X9_search X.2.2.1.2.2.1 x0 x1 x2 x3 x4 h = some x) (hp : z_P0I X nx x) : zV X 0 [(0, tA x0), (1, tA x1), (2, tI x2), (3, tI x3), (4, tI x4)] [] h nx 0 0 := by
  unfold f_X9_search at hf
  refine zv_aload_n K 0 eX9_search_0 rfl ?_
  refine zv_iload_n K 2 eX9_search_1 rfl ?_
  refine zv_pI K eX9_search_2 fl_X9_22 ff_9_2 rfl hf (fun h1 hf => ?_)
  refine zv_aload_n K 0 eX9_search_5 rfl ?_
  refine zv_iload_n K 3 eX9_search_6 rfl ?_
  refine zv_pI K eX9_search_7 fl_X9_26 ff_9_3 rfl hf (fun h2 hf => ?_)
  refine zv_aload_n K 0 eX9_search_10 rfl ?_
  refine zv_iload K 4 eX9_search_11 rfl ?_
  refine zv_pI K eX9_search_13 fl_X9_29 ff_9_4 rfl hf (fun h3 hf => ?_)
  refine zv_aload_n K 0 eX9_search_16 rfl ?_
  refine zv_gA K eX9_search_17 fl_X9_17 hf (fun v4 hf => ?_)
  refine zv_iconst K (0 : Int32) eX9_search_20 (by decide) ?_
  refine zv_aA K eX9_search_21 hf (fun v5 hf => ?_)
  refine zv_aload_n K 1 eX9_search_22 rfl ?_
  obtain ⟨q6, hq6, hf⟩ := z_bind_inv hf
  obtain ⟨h7, eh7, hf⟩ := z_bind_inv hf
  refine zv_cV0 K [tA x1] [] eX9_search_23 lk_X9_32 md_X6_become im_X6_become sl_X6_become rfl rfl rfl rfl (Nat.le_of_ble_eq_true rfl) hq6 (c_X6_become X.1.2.1 X.2.2.1 eh7) rfl rfl ⟨z_le (z_fr hX) (by decide), z_le (z_lo hX) (by decide)⟩ ⟨Nat.zero_le _, Nat.zero_le _⟩ ?_
  refine zv_iconst K (1 : Int32) eX9_search_26 (by decide) ?_
  refine zv_istore K [(5, tI (1 : Int32)), (0, tA x0), (1, tA x1), (2, tI x2), (3, tI x3), (4, tI x4)] eX9_search_27 (z_lt hX.2 (by decide)) rfl ?_
  exact zv_sub [1, 0] rfl (v_X9_search_b29 K hX hf hp)
theorem c_X9_search (l : Launch) (G : zG) {x0 : Option Nat} {x1 : Option Nat} {x2 : Int32} {x3 : Int32} {x4 : Int32} {h : zH} {nx : Nat} {x : Int32 × zH} (hf : f_X9_search G.2.2.1 x0 x1 x2 x3 x4 h = some x) : z_Ct l G yX9_search cX9_search 6 (some .int) rm_X9_search [tA x0, tA x1, tI x2, tI x3, tI x4] h nx (some (tI x.1)) x.2 nx 0 0 :=
  z_enter [(0, tA x0), (1, tA x1), (2, tI x2), (3, tI x3), (4, tI x4)] (by decide +kernel) (Nat.le_of_ble_eq_true rfl) rfl (fun X hl hR hG hL K hq => by
    subst hl; subst hG
    exact v_X9_search K ⟨hR, hL⟩ hf hq)
def P_X10_init_82 (X : zX) (nx0 z0 : Nat) (nz : Nat × Nat) : ((Option Nat) × Int32 × zH) ⊕ (zH) → Prop := z_PL (fun s => zV X 82 [(0, tA s.1), (1, tI s.2.1)] [] s.2.2 nz.1 (nz.1 - nx0) (nz.2 - z0)) (z_P0Vm X nx0 z0 nz)
theorem m_X10_init_b103  {x0 : Option Nat} {x1 : Int32} {s0 : Option Nat} {s1 : Int32} {s2 : Option Nat} {h : zH} {nx z : Nat} {x : ((Nat × Nat) × (((Option Nat) × Int32 × zH) ⊕ (zH)))} (hf : f_X10_init_b103 x0 x1 s0 s1 s2 h nx z = some x) : nx ≤ x.1.1 ∧ z ≤ x.1.2 := by
  unfold f_X10_init_b103 at hf
  obtain ⟨_, _, hf⟩ := z_bind_inv hf
  cases hf
  exact ⟨by (try dsimp only at *); omega, by (try dsimp only at *); omega⟩
set_option maxHeartbeats 4000000 in
set_option maxRecDepth 100000 in
theorem v_X10_init_b103 {X : zX} {cc0 ss0 nx0 z0 : Nat} (K : z_Ok X cX10_init none RX10 "<init>") (hX : z_Xo X (rm_X10_init cc0 ss0) 2) {x0 : Option Nat} {x1 : Int32} {s0 : Option Nat} {s1 : Int32} {s2 : Option Nat} {h : zH} {nx z : Nat} (hm : nx0 ≤ nx ∧ z0 ≤ z) {x : ((Nat × Nat) × (((Option Nat) × Int32 × zH) ⊕ (zH)))} (hf : f_X10_init_b103 x0 x1 s0 s1 s2 h nx z = some x) (hp : z_Pm X nx0 z0 (P_X10_init_82 X nx0 z0) x) : zV X 103 [(0, tA x0), (1, tI x1)] [tA s2, tI s1, tA s0] h nx (nx - nx0) (z - z0) := by
  have mB := m_X10_init_b103 hf
  unfold f_X10_init_b103 at hf
  refine zv_sA K eX10_init_103 hf (fun h1 hf => ?_)
  refine zv_iinc K (x1 + (1 : Int32)) 1 [(1, tI (x1 + (1 : Int32))), (0, tA x0)] eX10_init_104 rfl rfl (z_lt hX.2 (by decide)) rfl ?_
  refine zv_goto K 82 eX10_init_107 (by decide) ?_
  cases hf
  exact zv_sub [1, 0] rfl (show zV X 82 [(0, tA x0), (1, tI (x1 + (1 : Int32)))] [] h1 nx (nx - nx0) (z - z0) from hp.2)
theorem m_X10_init_b99  {x0 : Option Nat} {x1 : Int32} {s0 : Option Nat} {s1 : Int32} {s2 : Option Nat} {h : zH} {nx z : Nat} {x : ((Nat × Nat) × (((Option Nat) × Int32 × zH) ⊕ (zH)))} (hf : f_X10_init_b99 x0 x1 s0 s1 s2 h nx z = some x) : nx ≤ x.1.1 ∧ z ≤ x.1.2 := by
  unfold f_X10_init_b99 at hf
  obtain ⟨_, _, hf⟩ := z_bind_inv hf
  obtain ⟨n3, eh2, hf⟩ := z_bind_inv hf
  have mn3 := m_X7_init eh2
  have m9 := m_X10_init_b103 hf
  exact ⟨by (try dsimp only at *); omega, by (try dsimp only at *); omega⟩
set_option maxHeartbeats 4000000 in
set_option maxRecDepth 100000 in
theorem v_X10_init_b99 {X : zX} {cc0 ss0 nx0 z0 : Nat} (K : z_Ok X cX10_init none RX10 "<init>") (hX : z_Xo X (rm_X10_init cc0 ss0) 2) {x0 : Option Nat} {x1 : Int32} {s0 : Option Nat} {s1 : Int32} {s2 : Option Nat} {h : zH} {nx z : Nat} (hm : nx0 ≤ nx ∧ z0 ≤ z) {x : ((Nat × Nat) × (((Option Nat) × Int32 × zH) ⊕ (zH)))} (hf : f_X10_init_b99 x0 x1 s0 s1 s2 h nx z = some x) (hp : z_Pm X nx0 z0 (P_X10_init_82 X nx0 z0) x) : zV X 99 [(0, tA x0), (1, tI x1)] [tA s2, tI s1, tA s0] h nx (nx - nx0) (z - z0) := by
  have mB := m_X10_init_b99 hf
  unfold f_X10_init_b99 at hf
  refine zv_dup K eX10_init_99 rfl ?_
  obtain ⟨q1, hq1, hf⟩ := z_bind_inv hf
  obtain ⟨n3, eh2, hf⟩ := z_bind_inv hf
  have mn3 := m_X7_init eh2
  have m9 := m_X10_init_b103 hf
  refine zv_cI1 K [] [tA s2, tI s1, tA s0] (n3.1.1 - nx0) (n3.1.2 - z0) eX10_init_100 lk_X10_55 md_X7_init im_X7_init rfl rfl rfl (Nat.le_of_ble_eq_true rfl) hq1 (c_X7_init X.1.2.1 X.2.2.1 eh2) rfl rfl ⟨z_le (z_fr hX) (by exact Nat.le_of_ble_eq_true rfl), z_le (z_lo hX) (by exact Nat.le_of_ble_eq_true rfl)⟩ (by omega) (by omega) (by omega) (z_bd hp m9) ?_
  exact zv_sub [0, 1] rfl (v_X10_init_b103 K hX (by omega) hf hp)
theorem m_X10_init_c82  {x0 : Option Nat} {x1 : Int32} {h : zH} {nx z : Nat} {x : ((Nat × Nat) × (((Option Nat) × Int32 × zH) ⊕ (zH)))} (hf : f_X10_init_c82 x0 x1 h nx z = some x) : nx ≤ x.1.1 ∧ z ≤ x.1.2 := by
  unfold f_X10_init_c82 at hf
  obtain ⟨_, _, hf⟩ := z_bind_inv hf
  obtain ⟨_, _, hf⟩ := z_bind_inv hf
  refine z_ite_inv _ hf (fun _ hf => ?_) (fun _ hf => ?_)
  · obtain ⟨w9, hf9, e9⟩ := z_i1m_inv hf; clear hf; subst e9; have hf := hf9; clear hf9
    cases hf
    exact ⟨by (try dsimp only at *); omega, by (try dsimp only at *); omega⟩
  · obtain ⟨_, _, hf⟩ := z_bind_inv hf
    have m9 := m_X10_init_b99 hf
    exact ⟨by (try dsimp only at *); omega, by (try dsimp only at *); omega⟩
set_option maxHeartbeats 4000000 in
set_option maxRecDepth 100000 in
theorem v_X10_init_c82 {X : zX} {cc0 ss0 nx0 z0 : Nat} (K : z_Ok X cX10_init none RX10 "<init>") (hX : z_Xo X (rm_X10_init cc0 ss0) 2) {x0 : Option Nat} {x1 : Int32} {h : zH} {nx z : Nat} (hm : nx0 ≤ nx ∧ z0 ≤ z) {x : ((Nat × Nat) × (((Option Nat) × Int32 × zH) ⊕ (zH)))} (hf : f_X10_init_c82 x0 x1 h nx z = some x) (hp : z_Pm X nx0 z0 (P_X10_init_82 X nx0 z0) x) : zV X 82 [(0, tA x0), (1, tI x1)] [] h nx (nx - nx0) (z - z0) := by
  have mB := m_X10_init_c82 hf
  unfold f_X10_init_c82 at hf
  refine zv_iload_n K 1 eX10_init_82 rfl ?_
  refine zv_aload_n K 0 eX10_init_83 rfl ?_
  refine zv_gA K eX10_init_84 fl_X10_22 hf (fun v1 hf => ?_)
  refine zv_len K eX10_init_87 hf (fun v2 hf => ?_)
  refine zv_icmp_ge K 110 eX10_init_88 (by decide) hf (fun _ hf => ?_) (fun _ hf => ?_)
  · obtain ⟨w9, hf9, e9⟩ := z_i1m_inv hf; clear hf; subst e9; have hf := hf9; clear hf9
    have hp : z_Pm X nx0 z0 (z_P0Vm X nx0 z0) _ := hp
    have e9 := Option.some.inj hf; subst e9
    exact zv_vret K eX10_init_110 hp.2
  · refine zv_aload_n K 0 eX10_init_91 rfl ?_
    refine zv_gA K eX10_init_92 fl_X10_22 hf (fun v3 hf => ?_)
    refine zv_iload_n K 1 eX10_init_95 rfl ?_
    have m9 := m_X10_init_b99 hf
    refine zv_new K 7 _ [tI 0, tI 0, tA none] (nx + 1 - nx0) (z + 3 - z0) eX10_init_96 rfl cl_X10_20 nb_7 nt_7 df_7 (by omega) (by show _ + 3 = _; omega) (z_bd hp m9) ?_
    exact zv_sub [0, 1] rfl (v_X10_init_b99 K hX (by omega) hf hp)
theorem m_X10_init_b82  {x0 : Option Nat} {x1 : Int32} {h : zH} {nx z : Nat} {x : ((Nat × Nat) × (zH))} (hf : f_X10_init_b82 x0 x1 h nx z = some x) : nx ≤ x.1.1 ∧ z ≤ x.1.2 :=
  z_itmo (body := fun q : (Nat × Nat) × ((Option Nat) × Int32 × zH) => f_X10_init_c82 q.2.1 q.2.2.1 q.2.2.2 q.1.1 q.1.2) (nz := (nx, z)) (fun s nz y hb => m_X10_init_c82 hb) hf
theorem v_X10_init_b82 {X : zX} {cc0 ss0 nx0 z0 : Nat} (K : z_Ok X cX10_init none RX10 "<init>") (hX : z_Xo X (rm_X10_init cc0 ss0) 2) {x0 : Option Nat} {x1 : Int32} {h : zH} {nx z : Nat} (hm : nx0 ≤ nx ∧ z0 ≤ z) {x : ((Nat × Nat) × (zH))} (hf : f_X10_init_b82 x0 x1 h nx z = some x) (hp : z_Pm X nx0 z0 (z_P0Vm X nx0 z0) x) : zV X 82 [(0, tA x0), (1, tI x1)] [] h nx (nx - nx0) (z - z0) :=
  z_itm (body := fun q : (Nat × Nat) × ((Option Nat) × Int32 × zH) => f_X10_init_c82 q.2.1 q.2.2.1 q.2.2.2 q.1.1 q.1.2) (nz := (nx, z)) (P := fun s nz => zV X 82 [(0, tA s.1), (1, tI s.2.1)] [] s.2.2 nz.1 (nz.1 - nx0) (nz.2 - z0)) (Q := z_P0Vm X nx0 z0) (fun s nz y hm hb hy => v_X10_init_c82 K hX hm hb hy) (fun s nz y hb => m_X10_init_c82 hb) hm hp hf
theorem m_X10_init_b77  {x0 : Option Nat} {s0 : Option Nat} {s1 : Option Nat} {h : zH} {nx z : Nat} {x : ((Nat × Nat) × (zH))} (hf : f_X10_init_b77 x0 s0 s1 h nx z = some x) : nx ≤ x.1.1 ∧ z ≤ x.1.2 := by
  unfold f_X10_init_b77 at hf
  obtain ⟨_, _, hf⟩ := z_bind_inv hf
  have m9 := m_X10_init_b82 hf
  exact ⟨by (try dsimp only at *); omega, by (try dsimp only at *); omega⟩
set_option maxHeartbeats 4000000 in
set_option maxRecDepth 100000 in
theorem v_X10_init_b77 {X : zX} {cc0 ss0 nx0 z0 : Nat} (K : z_Ok X cX10_init none RX10 "<init>") (hX : z_Xo X (rm_X10_init cc0 ss0) 2) {x0 : Option Nat} {s0 : Option Nat} {s1 : Option Nat} {h : zH} {nx z : Nat} (hm : nx0 ≤ nx ∧ z0 ≤ z) {x : ((Nat × Nat) × (zH))} (hf : f_X10_init_b77 x0 s0 s1 h nx z = some x) (hp : z_Pm X nx0 z0 (z_P0Vm X nx0 z0) x) : zV X 77 [(0, tA x0)] [tA s1, tA s0] h nx (nx - nx0) (z - z0) := by
  have mB := m_X10_init_b77 hf
  unfold f_X10_init_b77 at hf
  refine zv_pXA K eX10_init_77 fx_X10_51 (Or.inr ⟨_, rfl⟩) hf (fun h1 hf => ?_)
  refine zv_iconst K (0 : Int32) eX10_init_80 (by decide) ?_
  refine zv_istore_n K [(1, tI (0 : Int32)), (0, tA x0)] eX10_init_81 (z_lt hX.2 (by decide)) rfl ?_
  exact zv_sub [1, 0] rfl (v_X10_init_b82 K hX (by omega) hf hp)
theorem m_X10_init_b69  {x0 : Option Nat} {s0 : Option Nat} {s1 : Option Nat} {h : zH} {nx z : Nat} {x : ((Nat × Nat) × (zH))} (hf : f_X10_init_b69 x0 s0 s1 h nx z = some x) : nx ≤ x.1.1 ∧ z ≤ x.1.2 := by
  unfold f_X10_init_b69 at hf
  obtain ⟨_, _, hf⟩ := z_bind_inv hf
  have m9 := m_X10_init_b77 hf
  exact ⟨by (try dsimp only at *); omega, by (try dsimp only at *); omega⟩
set_option maxHeartbeats 4000000 in
set_option maxRecDepth 100000 in
theorem v_X10_init_b69 {X : zX} {cc0 ss0 nx0 z0 : Nat} (K : z_Ok X cX10_init none RX10 "<init>") (hX : z_Xo X (rm_X10_init cc0 ss0) 2) {x0 : Option Nat} {s0 : Option Nat} {s1 : Option Nat} {h : zH} {nx z : Nat} (hm : nx0 ≤ nx ∧ z0 ≤ z) {x : ((Nat × Nat) × (zH))} (hf : f_X10_init_b69 x0 s0 s1 h nx z = some x) (hp : z_Pm X nx0 z0 (z_P0Vm X nx0 z0) x) : zV X 69 [(0, tA x0)] [tA s1, tA s0] h nx (nx - nx0) (z - z0) := by
  have mB := m_X10_init_b69 hf
  unfold f_X10_init_b69 at hf
  refine zv_pXA K eX10_init_69 fx_X10_47 (Or.inl ⟨_, rfl⟩) hf (fun h1 hf => ?_)
  refine zv_aload_n K 0 eX10_init_72 rfl ?_
  refine zv_bipush K (7 : Int32) eX10_init_73 (by decide) ?_
  have m9 := m_X10_init_b77 hf
  refine zv_newI K 7 (nx + 1 - nx0) (z + 7 - z0) eX10_init_75 ar_int (by decide) (by decide) (by decide) (by omega) (by omega) (z_bd hp m9) ?_
  exact zv_sub [0] rfl (v_X10_init_b77 K hX (by omega) hf hp)
theorem m_X10_init_b65  {x0 : Option Nat} {s0 : Option Nat} {s1 : Option Nat} {h : zH} {nx z : Nat} {x : ((Nat × Nat) × (zH))} (hf : f_X10_init_b65 x0 s0 s1 h nx z = some x) : nx ≤ x.1.1 ∧ z ≤ x.1.2 := by
  unfold f_X10_init_b65 at hf
  obtain ⟨_, _, hf⟩ := z_bind_inv hf
  obtain ⟨n3, eh2, hf⟩ := z_bind_inv hf
  have mn3 := m_X9_init eh2
  have m9 := m_X10_init_b69 hf
  exact ⟨by (try dsimp only at *); omega, by (try dsimp only at *); omega⟩
set_option maxHeartbeats 4000000 in
set_option maxRecDepth 100000 in
theorem v_X10_init_b65 {X : zX} {cc0 ss0 nx0 z0 : Nat} (K : z_Ok X cX10_init none RX10 "<init>") (hX : z_Xo X (rm_X10_init cc0 ss0) 2) {x0 : Option Nat} {s0 : Option Nat} {s1 : Option Nat} {h : zH} {nx z : Nat} (hm : nx0 ≤ nx ∧ z0 ≤ z) {x : ((Nat × Nat) × (zH))} (hf : f_X10_init_b65 x0 s0 s1 h nx z = some x) (hp : z_Pm X nx0 z0 (z_P0Vm X nx0 z0) x) : zV X 65 [(0, tA x0)] [tA s1, tA s0] h nx (nx - nx0) (z - z0) := by
  have mB := m_X10_init_b65 hf
  unfold f_X10_init_b65 at hf
  refine zv_dup K eX10_init_65 rfl ?_
  obtain ⟨q1, hq1, hf⟩ := z_bind_inv hf
  obtain ⟨n3, eh2, hf⟩ := z_bind_inv hf
  have mn3 := m_X9_init eh2
  have m9 := m_X10_init_b69 hf
  refine zv_cI1 K [] [tA s1, tA s0] (n3.1.1 - nx0) (n3.1.2 - z0) eX10_init_66 lk_X10_46 md_X9_init im_X9_init rfl rfl rfl (Nat.le_of_ble_eq_true rfl) hq1 (c_X9_init X.1.2.1 X.2.2.1 eh2) rfl rfl ⟨z_le (z_fr hX) (by exact Nat.le_of_ble_eq_true rfl), z_le (z_lo hX) (by exact Nat.le_of_ble_eq_true rfl)⟩ (by omega) (by omega) (by omega) (z_bd hp m9) ?_
  exact zv_sub [0] rfl (v_X10_init_b69 K hX (by omega) hf hp)
theorem m_X10_init_b58  {x0 : Option Nat} {s0 : Option Nat} {s1 : Option Nat} {h : zH} {nx z : Nat} {x : ((Nat × Nat) × (zH))} (hf : f_X10_init_b58 x0 s0 s1 h nx z = some x) : nx ≤ x.1.1 ∧ z ≤ x.1.2 := by
  unfold f_X10_init_b58 at hf
  obtain ⟨_, _, hf⟩ := z_bind_inv hf
  have m9 := m_X10_init_b65 hf
  exact ⟨by (try dsimp only at *); omega, by (try dsimp only at *); omega⟩
set_option maxHeartbeats 4000000 in
set_option maxRecDepth 100000 in
theorem v_X10_init_b58 {X : zX} {cc0 ss0 nx0 z0 : Nat} (K : z_Ok X cX10_init none RX10 "<init>") (hX : z_Xo X (rm_X10_init cc0 ss0) 2) {x0 : Option Nat} {s0 : Option Nat} {s1 : Option Nat} {h : zH} {nx z : Nat} (hm : nx0 ≤ nx ∧ z0 ≤ z) {x : ((Nat × Nat) × (zH))} (hf : f_X10_init_b58 x0 s0 s1 h nx z = some x) (hp : z_Pm X nx0 z0 (z_P0Vm X nx0 z0) x) : zV X 58 [(0, tA x0)] [tA s1, tA s0] h nx (nx - nx0) (z - z0) := by
  have mB := m_X10_init_b58 hf
  unfold f_X10_init_b58 at hf
  refine zv_pXA K eX10_init_58 fx_X10_40 (Or.inl ⟨_, rfl⟩) hf (fun h1 hf => ?_)
  refine zv_aload_n K 0 eX10_init_61 rfl ?_
  have m9 := m_X10_init_b65 hf
  refine zv_new K 9 _ [tA none, tA none, tI 0, tI 0, tI 0] (nx + 1 - nx0) (z + 5 - z0) eX10_init_62 rfl cl_X10_44 nb_9 nt_9 df_9 (by omega) (by show _ + 5 = _; omega) (z_bd hp m9) ?_
  exact zv_sub [0] rfl (v_X10_init_b65 K hX (by omega) hf hp)
theorem m_X10_init_b54  {x0 : Option Nat} {s0 : Option Nat} {s1 : Option Nat} {h : zH} {nx z : Nat} {x : ((Nat × Nat) × (zH))} (hf : f_X10_init_b54 x0 s0 s1 h nx z = some x) : nx ≤ x.1.1 ∧ z ≤ x.1.2 := by
  unfold f_X10_init_b54 at hf
  obtain ⟨_, _, hf⟩ := z_bind_inv hf
  obtain ⟨n3, eh2, hf⟩ := z_bind_inv hf
  have mn3 := m_X3_init eh2
  have m9 := m_X10_init_b58 hf
  exact ⟨by (try dsimp only at *); omega, by (try dsimp only at *); omega⟩
set_option maxHeartbeats 4000000 in
set_option maxRecDepth 100000 in
theorem v_X10_init_b54 {X : zX} {cc0 ss0 nx0 z0 : Nat} (K : z_Ok X cX10_init none RX10 "<init>") (hX : z_Xo X (rm_X10_init cc0 ss0) 2) {x0 : Option Nat} {s0 : Option Nat} {s1 : Option Nat} {h : zH} {nx z : Nat} (hm : nx0 ≤ nx ∧ z0 ≤ z) {x : ((Nat × Nat) × (zH))} (hf : f_X10_init_b54 x0 s0 s1 h nx z = some x) (hp : z_Pm X nx0 z0 (z_P0Vm X nx0 z0) x) : zV X 54 [(0, tA x0)] [tA s1, tA s0] h nx (nx - nx0) (z - z0) := by
  have mB := m_X10_init_b54 hf
  unfold f_X10_init_b54 at hf
  refine zv_dup K eX10_init_54 rfl ?_
  obtain ⟨q1, hq1, hf⟩ := z_bind_inv hf
  obtain ⟨n3, eh2, hf⟩ := z_bind_inv hf
  have mn3 := m_X3_init eh2
  have m9 := m_X10_init_b58 hf
  refine zv_cI1 K [] [tA s1, tA s0] (n3.1.1 - nx0) (n3.1.2 - z0) eX10_init_55 lk_X10_39 md_X3_init im_X3_init rfl rfl rfl (Nat.le_of_ble_eq_true rfl) hq1 (c_X3_init X.1.2.1 X.2.2.1 eh2) rfl rfl ⟨z_le (z_fr hX) (by exact Nat.le_of_ble_eq_true rfl), z_le (z_lo hX) (by exact Nat.le_of_ble_eq_true rfl)⟩ (by omega) (by omega) (by omega) (z_bd hp m9) ?_
  exact zv_sub [0] rfl (v_X10_init_b58 K hX (by omega) hf hp)
theorem m_X10_init_b43  {x0 : Option Nat} {s0 : Option Nat} {s1 : Option Nat} {h : zH} {nx z : Nat} {x : ((Nat × Nat) × (zH))} (hf : f_X10_init_b43 x0 s0 s1 h nx z = some x) : nx ≤ x.1.1 ∧ z ≤ x.1.2 := by
  unfold f_X10_init_b43 at hf
  obtain ⟨_, _, hf⟩ := z_bind_inv hf
  obtain ⟨_, _, hf⟩ := z_bind_inv hf
  obtain ⟨_, _, hf⟩ := z_bind_inv hf
  have m9 := m_X10_init_b54 hf
  exact ⟨by (try dsimp only at *); omega, by (try dsimp only at *); omega⟩
set_option maxHeartbeats 4000000 in
set_option maxRecDepth 100000 in
theorem v_X10_init_b43 {X : zX} {cc0 ss0 nx0 z0 : Nat} (K : z_Ok X cX10_init none RX10 "<init>") (hX : z_Xo X (rm_X10_init cc0 ss0) 2) {x0 : Option Nat} {s0 : Option Nat} {s1 : Option Nat} {h : zH} {nx z : Nat} (hm : nx0 ≤ nx ∧ z0 ≤ z) {x : ((Nat × Nat) × (zH))} (hf : f_X10_init_b43 x0 s0 s1 h nx z = some x) (hp : z_Pm X nx0 z0 (z_P0Vm X nx0 z0) x) : zV X 43 [(0, tA x0)] [tA s1, tA s0] h nx (nx - nx0) (z - z0) := by
  have mB := m_X10_init_b43 hf
  unfold f_X10_init_b43 at hf
  refine zv_dup K eX10_init_43 rfl ?_
  obtain ⟨q1, hq1, hf⟩ := z_bind_inv hf
  obtain ⟨h2, eh2, hf⟩ := z_bind_inv hf
  refine zv_cI0 K [] [tA s1, tA s0] eX10_init_44 lk_X10_32 md_X4_init im_X4_init rfl rfl rfl (Nat.le_of_ble_eq_true rfl) hq1 (c_X4_init X.1.2.1 X.2.2.1 eh2) rfl rfl ⟨z_le (z_fr hX) (by exact Nat.le_of_ble_eq_true rfl), z_le (z_lo hX) (by exact Nat.le_of_ble_eq_true rfl)⟩ (z_bd hp mB) ?_
  refine zv_pXA K eX10_init_47 fx_X10_33 (Or.inl ⟨_, rfl⟩) hf (fun h3 hf => ?_)
  refine zv_aload_n K 0 eX10_init_50 rfl ?_
  have m9 := m_X10_init_b54 hf
  refine zv_new K 3 _ [tA none, tA none, tA none, tA none, tI 0, tI 0, tI 0, tI 0, tI 0, tJ 0, tJ 0] (nx + 1 - nx0) (z + 11 - z0) eX10_init_51 rfl cl_X10_37 nb_3 nt_3 df_3 (by omega) (by show _ + 11 = _; omega) (z_bd hp m9) ?_
  exact zv_sub [0] rfl (v_X10_init_b54 K hX (by omega) hf hp)
theorem m_X10_init_b36  {x0 : Option Nat} {s0 : Option Nat} {s1 : Option Nat} {h : zH} {nx z : Nat} {x : ((Nat × Nat) × (zH))} (hf : f_X10_init_b36 x0 s0 s1 h nx z = some x) : nx ≤ x.1.1 ∧ z ≤ x.1.2 := by
  unfold f_X10_init_b36 at hf
  obtain ⟨_, _, hf⟩ := z_bind_inv hf
  have m9 := m_X10_init_b43 hf
  exact ⟨by (try dsimp only at *); omega, by (try dsimp only at *); omega⟩
set_option maxHeartbeats 4000000 in
set_option maxRecDepth 100000 in
theorem v_X10_init_b36 {X : zX} {cc0 ss0 nx0 z0 : Nat} (K : z_Ok X cX10_init none RX10 "<init>") (hX : z_Xo X (rm_X10_init cc0 ss0) 2) {x0 : Option Nat} {s0 : Option Nat} {s1 : Option Nat} {h : zH} {nx z : Nat} (hm : nx0 ≤ nx ∧ z0 ≤ z) {x : ((Nat × Nat) × (zH))} (hf : f_X10_init_b36 x0 s0 s1 h nx z = some x) (hp : z_Pm X nx0 z0 (z_P0Vm X nx0 z0) x) : zV X 36 [(0, tA x0)] [tA s1, tA s0] h nx (nx - nx0) (z - z0) := by
  have mB := m_X10_init_b36 hf
  unfold f_X10_init_b36 at hf
  refine zv_pXA K eX10_init_36 fx_X10_26 (Or.inr ⟨_, rfl⟩) hf (fun h1 hf => ?_)
  refine zv_aload_n K 0 eX10_init_39 rfl ?_
  have m9 := m_X10_init_b43 hf
  refine zv_new K 4 _ [tA none, tI 0, tI 0, tI 0, tI 0] (nx + 1 - nx0) (z + 5 - z0) eX10_init_40 rfl cl_X10_30 nb_4 nt_4 df_4 (by omega) (by show _ + 5 = _; omega) (z_bd hp m9) ?_
  exact zv_sub [0] rfl (v_X10_init_b43 K hX (by omega) hf hp)
theorem m_X10_init_b28  {x0 : Option Nat} {s0 : Option Nat} {s1 : Option Nat} {h : zH} {nx z : Nat} {x : ((Nat × Nat) × (zH))} (hf : f_X10_init_b28 x0 s0 s1 h nx z = some x) : nx ≤ x.1.1 ∧ z ≤ x.1.2 := by
  unfold f_X10_init_b28 at hf
  obtain ⟨_, _, hf⟩ := z_bind_inv hf
  have m9 := m_X10_init_b36 hf
  exact ⟨by (try dsimp only at *); omega, by (try dsimp only at *); omega⟩
set_option maxHeartbeats 4000000 in
set_option maxRecDepth 100000 in
theorem v_X10_init_b28 {X : zX} {cc0 ss0 nx0 z0 : Nat} (K : z_Ok X cX10_init none RX10 "<init>") (hX : z_Xo X (rm_X10_init cc0 ss0) 2) {x0 : Option Nat} {s0 : Option Nat} {s1 : Option Nat} {h : zH} {nx z : Nat} (hm : nx0 ≤ nx ∧ z0 ≤ z) {x : ((Nat × Nat) × (zH))} (hf : f_X10_init_b28 x0 s0 s1 h nx z = some x) (hp : z_Pm X nx0 z0 (z_P0Vm X nx0 z0) x) : zV X 28 [(0, tA x0)] [tA s1, tA s0] h nx (nx - nx0) (z - z0) := by
  have mB := m_X10_init_b28 hf
  unfold f_X10_init_b28 at hf
  refine zv_pXA K eX10_init_28 fx_X10_22 (Or.inr ⟨_, rfl⟩) hf (fun h1 hf => ?_)
  refine zv_aload_n K 0 eX10_init_31 rfl ?_
  refine zv_bipush K (100 : Int32) eX10_init_32 (by decide) ?_
  have m9 := m_X10_init_b36 hf
  refine zv_newB K 100 (nx + 1 - nx0) (z + 100 - z0) eX10_init_34 ar_byte (by decide) (by decide) (by decide) (by omega) (by omega) (z_bd hp m9) ?_
  exact zv_sub [0] rfl (v_X10_init_b36 K hX (by omega) hf hp)
theorem m_X10_init_b20  {x0 : Option Nat} {s0 : Option Nat} {s1 : Option Nat} {h : zH} {nx z : Nat} {x : ((Nat × Nat) × (zH))} (hf : f_X10_init_b20 x0 s0 s1 h nx z = some x) : nx ≤ x.1.1 ∧ z ≤ x.1.2 := by
  unfold f_X10_init_b20 at hf
  obtain ⟨_, _, hf⟩ := z_bind_inv hf
  have m9 := m_X10_init_b28 hf
  exact ⟨by (try dsimp only at *); omega, by (try dsimp only at *); omega⟩
set_option maxHeartbeats 4000000 in
set_option maxRecDepth 100000 in
theorem v_X10_init_b20 {X : zX} {cc0 ss0 nx0 z0 : Nat} (K : z_Ok X cX10_init none RX10 "<init>") (hX : z_Xo X (rm_X10_init cc0 ss0) 2) {x0 : Option Nat} {s0 : Option Nat} {s1 : Option Nat} {h : zH} {nx z : Nat} (hm : nx0 ≤ nx ∧ z0 ≤ z) {x : ((Nat × Nat) × (zH))} (hf : f_X10_init_b20 x0 s0 s1 h nx z = some x) (hp : z_Pm X nx0 z0 (z_P0Vm X nx0 z0) x) : zV X 20 [(0, tA x0)] [tA s1, tA s0] h nx (nx - nx0) (z - z0) := by
  have mB := m_X10_init_b20 hf
  unfold f_X10_init_b20 at hf
  refine zv_pXA K eX10_init_20 fx_X10_16 (Or.inr ⟨_, rfl⟩) hf (fun h1 hf => ?_)
  refine zv_aload_n K 0 eX10_init_23 rfl ?_
  refine zv_iconst K (4 : Int32) eX10_init_24 (by decide) ?_
  have m9 := m_X10_init_b28 hf
  refine zv_newA K 7 4 (nx + 1 - nx0) (z + 4 - z0) _ eX10_init_25 (by decide) rfl cl_X10_20 (by decide) (by decide) (by decide) (by omega) (by omega) (z_bd hp m9) ?_
  exact zv_sub [0] rfl (v_X10_init_b28 K hX (by omega) hf hp)
theorem m_X10_init_b12  {x0 : Option Nat} {s0 : Option Nat} {s1 : Option Nat} {h : zH} {nx z : Nat} {x : ((Nat × Nat) × (zH))} (hf : f_X10_init_b12 x0 s0 s1 h nx z = some x) : nx ≤ x.1.1 ∧ z ≤ x.1.2 := by
  unfold f_X10_init_b12 at hf
  obtain ⟨_, _, hf⟩ := z_bind_inv hf
  have m9 := m_X10_init_b20 hf
  exact ⟨by (try dsimp only at *); omega, by (try dsimp only at *); omega⟩
set_option maxHeartbeats 4000000 in
set_option maxRecDepth 100000 in
theorem v_X10_init_b12 {X : zX} {cc0 ss0 nx0 z0 : Nat} (K : z_Ok X cX10_init none RX10 "<init>") (hX : z_Xo X (rm_X10_init cc0 ss0) 2) {x0 : Option Nat} {s0 : Option Nat} {s1 : Option Nat} {h : zH} {nx z : Nat} (hm : nx0 ≤ nx ∧ z0 ≤ z) {x : ((Nat × Nat) × (zH))} (hf : f_X10_init_b12 x0 s0 s1 h nx z = some x) (hp : z_Pm X nx0 z0 (z_P0Vm X nx0 z0) x) : zV X 12 [(0, tA x0)] [tA s1, tA s0] h nx (nx - nx0) (z - z0) := by
  have mB := m_X10_init_b12 hf
  unfold f_X10_init_b12 at hf
  refine zv_pXA K eX10_init_12 fx_X10_10 (Or.inl ⟨_, rfl⟩) hf (fun h1 hf => ?_)
  refine zv_aload_n K 0 eX10_init_15 rfl ?_
  refine zv_iconst K (2 : Int32) eX10_init_16 (by decide) ?_
  have m9 := m_X10_init_b20 hf
  refine zv_newA K 6 2 (nx + 1 - nx0) (z + 2 - z0) _ eX10_init_17 (by decide) rfl cl_X10_7 (by decide) (by decide) (by decide) (by omega) (by omega) (z_bd hp m9) ?_
  exact zv_sub [0] rfl (v_X10_init_b20 K hX (by omega) hf hp)
theorem m_X10_init_b8  {x0 : Option Nat} {s0 : Option Nat} {s1 : Option Nat} {h : zH} {nx z : Nat} {x : ((Nat × Nat) × (zH))} (hf : f_X10_init_b8 x0 s0 s1 h nx z = some x) : nx ≤ x.1.1 ∧ z ≤ x.1.2 := by
  unfold f_X10_init_b8 at hf
  obtain ⟨_, _, hf⟩ := z_bind_inv hf
  obtain ⟨n3, eh2, hf⟩ := z_bind_inv hf
  have mn3 := m_X6_init eh2
  have m9 := m_X10_init_b12 hf
  exact ⟨by (try dsimp only at *); omega, by (try dsimp only at *); omega⟩
set_option maxHeartbeats 4000000 in
set_option maxRecDepth 100000 in
theorem v_X10_init_b8 {X : zX} {cc0 ss0 nx0 z0 : Nat} (K : z_Ok X cX10_init none RX10 "<init>") (hX : z_Xo X (rm_X10_init cc0 ss0) 2) {x0 : Option Nat} {s0 : Option Nat} {s1 : Option Nat} {h : zH} {nx z : Nat} (hm : nx0 ≤ nx ∧ z0 ≤ z) {x : ((Nat × Nat) × (zH))} (hf : f_X10_init_b8 x0 s0 s1 h nx z = some x) (hp : z_Pm X nx0 z0 (z_P0Vm X nx0 z0) x) : zV X 8 [(0, tA x0)] [tA s1, tA s0] h nx (nx - nx0) (z - z0) := by
  have mB := m_X10_init_b8 hf
  unfold f_X10_init_b8 at hf
  refine zv_dup K eX10_init_8 rfl ?_
  obtain ⟨q1, hq1, hf⟩ := z_bind_inv hf
  obtain ⟨n3, eh2, hf⟩ := z_bind_inv hf
  have mn3 := m_X6_init eh2
  have m9 := m_X10_init_b12 hf
  refine zv_cI1 K [] [tA s1, tA s0] (n3.1.1 - nx0) (n3.1.2 - z0) eX10_init_9 lk_X10_9 md_X6_init im_X6_init rfl rfl rfl (Nat.le_of_ble_eq_true rfl) hq1 (c_X6_init X.1.2.1 X.2.2.1 eh2) rfl rfl ⟨z_le (z_fr hX) (by exact Nat.le_of_ble_eq_true rfl), z_le (z_lo hX) (by exact Nat.le_of_ble_eq_true rfl)⟩ (by omega) (by omega) (by omega) (z_bd hp m9) ?_
  exact zv_sub [0] rfl (v_X10_init_b12 K hX (by omega) hf hp)
theorem m_X10_init  {x0 : Option Nat} {h : zH} {nx z : Nat} {x : ((Nat × Nat) × (zH))} (hf : f_X10_init x0 h nx z = some x) : nx ≤ x.1.1 ∧ z ≤ x.1.2 := by
  unfold f_X10_init at hf
  obtain ⟨_, _, hf⟩ := z_bind_inv hf
  have m9 := m_X10_init_b8 hf
  exact ⟨by (try dsimp only at *); omega, by (try dsimp only at *); omega⟩
set_option maxHeartbeats 4000000 in
set_option maxRecDepth 100000 in
theorem v_X10_init {X : zX} {cc0 ss0 nx0 z0 : Nat} (K : z_Ok X cX10_init none RX10 "<init>") (hX : z_Xo X (rm_X10_init cc0 ss0) 2) {x0 : Option Nat} {h : zH} {nx z : Nat} (hm : nx0 ≤ nx ∧ z0 ≤ z) {x : ((Nat × Nat) × (zH))} (hf : f_X10_init x0 h nx z = some x) (hp : z_Pm X nx0 z0 (z_P0Vm X nx0 z0) x) : zV X 0 [(0, tA x0)] [] h nx (nx - nx0) (z - z0) := by
  have mB := m_X10_init hf
  unfold f_X10_init at hf
  refine zv_aload_n K 0 eX10_init_0 rfl ?_
  refine zv_objInit K eX10_init_1 oi_X10_1 oi_im oi_co ⟨z_le (z_fr hX) (by exact Nat.le_of_ble_eq_true rfl), z_le (z_lo hX) (by exact Nat.le_of_ble_eq_true rfl)⟩ (Nat.le_of_ble_eq_true rfl) hf (fun v1 hf => ?_)
  refine zv_aload_n K 0 eX10_init_4 rfl ?_
  have m9 := m_X10_init_b8 hf
  refine zv_new K 6 _ [tJ 0, tJ 0, tA none, tA none, tI 0, tA none, tI 0, tI 0, tI 0] (nx + 1 - nx0) (z + 9 - z0) eX10_init_5 rfl cl_X10_7 nb_6 nt_6 df_6 (by omega) (by show _ + 9 = _; omega) (z_bd hp m9) ?_
  exact zv_sub [0] rfl (v_X10_init_b8 K hX (by omega) hf hp)
theorem c_X10_init (l : Launch) (G : zG) {x0 : Option Nat} {h : zH} {nx z : Nat} {x : (Nat × Nat) × (zH)} (hf : f_X10_init x0 h nx z = some x) : z_Ct l G yX10_init cX10_init 2 none (rm_X10_init (x.1.1 - nx) (x.1.2 - z)) [tA x0] h nx none x.2 x.1.1 (x.1.1 - nx) (x.1.2 - z) :=
  z_enter [(0, tA x0)] (by decide +kernel) (Nat.le_of_ble_eq_true rfl) rfl (fun X hl hR hG hL K hq => by
    subst hl; subst hG
    have mm := m_X10_init hf
    have := v_X10_init K ⟨hR, hL⟩ (nx0 := nx) (z0 := z) ⟨Nat.le_refl _, Nat.le_refl _⟩ hf ⟨by rw [hR]; (try dsimp only [rm_X10_init]); omega, hq⟩
    rw [Nat.sub_self, Nat.sub_self] at this
    exact this)
set_option maxHeartbeats 4000000 in
set_option maxRecDepth 100000 in
theorem v_X10_isCell {X : zX} (K : z_Ok X cX10_isCell (some .boolean) RX10 "isCell") (hX : z_Xo X rm_X10_isCell 2) {x0 : Int32} {x1 : Int32} {h : zH} {nx : Nat} {x : (Int32 × zH)} (hf : f_X10_isCell x0 x1 h = some x) (hp : z_P0I X nx x) : zV X 0 [(0, tI x0), (1, tI x1)] [] h nx 0 0 := by
  unfold f_X10_isCell at hf
  refine zv_iload_n K 0 eX10_isCell_0 rfl ?_
  refine zv_if_lt K 24 eX10_isCell_1 (by decide) hf (fun _ hf => ?_) (fun _ hf => ?_)
  · refine zv_iconst K (0 : Int32) eX10_isCell_24 (by decide) ?_
    cases hf
    exact zv_zret K eX10_isCell_25 (by decide) hp
  · refine zv_iload_n K 0 eX10_isCell_4 rfl ?_
    refine zv_bipush K (8 : Int32) eX10_isCell_5 (by decide) ?_
    refine zv_icmp_ge K 24 eX10_isCell_7 (by decide) hf (fun _ hf => ?_) (fun _ hf => ?_)
    · refine zv_iconst K (0 : Int32) eX10_isCell_24 (by decide) ?_
      cases hf
      exact zv_zret K eX10_isCell_25 (by decide) hp
    · refine zv_iload_n K 1 eX10_isCell_10 rfl ?_
      refine zv_if_lt K 24 eX10_isCell_11 (by decide) hf (fun _ hf => ?_) (fun _ hf => ?_)
      · refine zv_iconst K (0 : Int32) eX10_isCell_24 (by decide) ?_
        cases hf
        exact zv_zret K eX10_isCell_25 (by decide) hp
      · refine zv_iload_n K 1 eX10_isCell_14 rfl ?_
        refine zv_bipush K (8 : Int32) eX10_isCell_15 (by decide) ?_
        refine zv_icmp_ge K 24 eX10_isCell_17 (by decide) hf (fun _ hf => ?_) (fun _ hf => ?_)
        · refine zv_iconst K (0 : Int32) eX10_isCell_24 (by decide) ?_
          cases hf
          exact zv_zret K eX10_isCell_25 (by decide) hp
        · refine zv_iconst K (1 : Int32) eX10_isCell_20 (by decide) ?_
          refine zv_goto K 25 eX10_isCell_21 (by decide) ?_
          cases hf
          exact zv_zret K eX10_isCell_25 (by decide) hp
theorem c_X10_isCell (l : Launch) (G : zG) {x0 : Int32} {x1 : Int32} {h : zH} {nx : Nat} {x : Int32 × zH} (hf : f_X10_isCell x0 x1 h = some x) : z_Ct l G yX10_isCell cX10_isCell 2 (some .boolean) rm_X10_isCell [tI x0, tI x1] h nx (some (tI x.1)) x.2 nx 0 0 :=
  z_enter [(0, tI x0), (1, tI x1)] (by decide +kernel) (Nat.le_of_ble_eq_true rfl) rfl (fun X hl hR hG hL K hq => by
    subst hl; subst hG
    exact v_X10_isCell K ⟨hR, hL⟩ hf hq)
set_option maxHeartbeats 4000000 in
set_option maxRecDepth 100000 in
theorem v_X10_cellOf {X : zX} (K : z_Ok X cX10_cellOf (some .int) RX10 "cellOf") (hX : z_Xo X rm_X10_cellOf 2) {x0 : Int32} {x1 : Int32} {h : zH} {nx : Nat} {x : (Int32 × zH)} (hf : f_X10_cellOf x0 x1 h = some x) (hp : z_P0I X nx x) : zV X 0 [(0, tI x0), (1, tI x1)] [] h nx 0 0 := by
  unfold f_X10_cellOf at hf
  refine zv_bipush K (8 : Int32) eX10_cellOf_0 (by decide) ?_
  refine zv_iload_n K 1 eX10_cellOf_2 rfl ?_
  refine zv_imul K eX10_cellOf_3 ?_
  refine zv_iload_n K 0 eX10_cellOf_4 rfl ?_
  refine zv_iadd K eX10_cellOf_5 ?_
  have e9 := Option.some.inj hf; subst e9
  exact zv_iret K eX10_cellOf_6 hp
theorem c_X10_cellOf (l : Launch) (G : zG) {x0 : Int32} {x1 : Int32} {h : zH} {nx : Nat} {x : Int32 × zH} (hf : f_X10_cellOf x0 x1 h = some x) : z_Ct l G yX10_cellOf cX10_cellOf 2 (some .int) rm_X10_cellOf [tI x0, tI x1] h nx (some (tI x.1)) x.2 nx 0 0 :=
  z_enter [(0, tI x0), (1, tI x1)] (by decide +kernel) (Nat.le_of_ble_eq_true rfl) rfl (fun X hl hR hG hL K hq => by
    subst hl; subst hG
    exact v_X10_cellOf K ⟨hR, hL⟩ hf hq)
set_option maxHeartbeats 4000000 in
set_option maxRecDepth 100000 in
theorem v_X10_wall_b98 {X : zX} (K : z_Ok X cX10_wall (some .int) RX10 "wall") (hX : z_Xo X rm_X10_wall 7) {x6 : Int32} {s0 : Option Nat} {s1 : Int64} {h : zH} {nx : Nat} {x : (Int32 × zH)} (hf : f_X10_wall_b98 x6 s0 s1 h = some x) (hp : z_P0I X nx x) : zV X 98 [(6, tI x6)] [tJ s1, tA s0] h nx 0 0 := by
  unfold f_X10_wall_b98 at hf
  refine zv_pJ K eX10_wall_98 fl_X10_68 ff_6_0 rfl hf (fun h1 hf => ?_)
  refine zv_iload K 0 eX10_wall_101 rfl ?_
  refine zv_if_eq K 110 eX10_wall_103 (by decide) hf (fun _ hf => ?_) (fun _ hf => ?_)
  · refine zv_iconst K (0 : Int32) eX10_wall_110 (by decide) ?_
    have e9 := Option.some.inj hf; subst e9
    exact zv_iret K eX10_wall_111 hp
  · refine zv_iconst K (1 : Int32) eX10_wall_106 (by decide) ?_
    refine zv_goto K 111 eX10_wall_107 (by decide) ?_
    have e9 := Option.some.inj hf; subst e9
    exact zv_iret K eX10_wall_111 hp
set_option maxHeartbeats 4000000 in
set_option maxRecDepth 100000 in
theorem v_X10_wall_b61 {X : zX} (K : z_Ok X cX10_wall (some .int) RX10 "wall") (hX : z_Xo X rm_X10_wall 7) {x0 : Option Nat} {x3 : Int32} {x4 : Int64} {s0 : Int32} {h : zH} {nx : Nat} {x : (Int32 × zH)} (hf : f_X10_wall_b61 x0 x3 x4 s0 h = some x) (hp : z_P0I X nx x) : zV X 61 [(0, tA x0), (3, tI x3), (4, tJ x4)] [tI s0] h nx 0 0 := by
  unfold f_X10_wall_b61 at hf
  refine zv_istore K [(6, tI s0), (0, tA x0), (3, tI x3), (4, tJ x4)] eX10_wall_61 (z_lt hX.2 (by decide)) rfl ?_
  refine zv_aload_n K 1 eX10_wall_63 rfl ?_
  refine zv_gA K eX10_wall_64 fl_X10_10 hf (fun v1 hf => ?_)
  refine zv_iload_n K 2 eX10_wall_67 rfl ?_
  refine zv_if_eq K 84 eX10_wall_68 (by decide) hf (fun _ hf => ?_) (fun _ hf => ?_)
  · refine zv_aload_n K 1 eX10_wall_84 rfl ?_
    refine zv_gA K eX10_wall_85 fl_X10_10 hf (fun v2 hf => ?_)
    refine zv_gJ K eX10_wall_88 fl_X10_68 hf (fun v3 hf => ?_)
    refine zv_lload K 3 eX10_wall_91 rfl ?_
    refine zv_ldc2 K (-1 : Int64) eX10_wall_93 kl_X10_72 ?_
    refine zv_lxor K eX10_wall_96 ?_
    refine zv_land K eX10_wall_97 ?_
    exact zv_sub [0] rfl (v_X10_wall_b98 K hX hf hp)
  · refine zv_aload_n K 1 eX10_wall_71 rfl ?_
    refine zv_gA K eX10_wall_72 fl_X10_10 hf (fun v4 hf => ?_)
    refine zv_gJ K eX10_wall_75 fl_X10_68 hf (fun v5 hf => ?_)
    refine zv_lload K 3 eX10_wall_78 rfl ?_
    refine zv_lor K eX10_wall_80 ?_
    refine zv_goto K 98 eX10_wall_81 (by decide) ?_
    exact zv_sub [0] rfl (v_X10_wall_b98 K hX hf hp)
set_option maxHeartbeats 4000000 in
set_option maxRecDepth 100000 in
theorem v_X10_wall_b41 {X : zX} (K : z_Ok X cX10_wall (some .int) RX10 "wall") (hX : z_Xo X rm_X10_wall 7) {x0 : Option Nat} {x3 : Int32} {x4 : Int64} {h : zH} {nx : Nat} {x : (Int32 × zH)} (hf : f_X10_wall_b41 x0 x3 x4 h = some x) (hp : z_P0I X nx x) : zV X 41 [(0, tA x0), (3, tI x3), (4, tJ x4)] [] h nx 0 0 := by
  unfold f_X10_wall_b41 at hf
  refine zv_aload_n K 0 eX10_wall_41 rfl ?_
  refine zv_gA K eX10_wall_42 fl_X10_10 hf (fun v1 hf => ?_)
  refine zv_gJ K eX10_wall_45 fl_X10_68 hf (fun v2 hf => ?_)
  refine zv_lload K 2 eX10_wall_48 rfl ?_
  refine zv_land K eX10_wall_50 ?_
  refine zv_lconst K (0 : Int64) eX10_wall_51 (by decide) ?_
  refine zv_lcmp K eX10_wall_52 ?_
  refine zv_if_eq K 60 eX10_wall_53 (by decide) hf (fun _ hf => ?_) (fun _ hf => ?_)
  · refine zv_iconst K (0 : Int32) eX10_wall_60 (by decide) ?_
    exact zv_sub [0, 1, 2] rfl (v_X10_wall_b61 K hX hf hp)
  · refine zv_iconst K (1 : Int32) eX10_wall_56 (by decide) ?_
    refine zv_goto K 61 eX10_wall_57 (by decide) ?_
    exact zv_sub [0, 1, 2] rfl (v_X10_wall_b61 K hX hf hp)
set_option maxHeartbeats 4000000 in
set_option maxRecDepth 100000 in
theorem v_X10_wall {X : zX} (K : z_Ok X cX10_wall (some .int) RX10 "wall") (hX : z_Xo X rm_X10_wall 7) {x0 : Option Nat} {x1 : Int32} {x2 : Int32} {x3 : Int32} {h : zH} {nx : Nat} {x : (Int32 × zH)} (hf : f_X10_wall x0 x1 x2 x3 h = some x) (hp : z_P0I X nx x) : zV X 0 [(0, tA x0), (1, tI x1), (2, tI x2), (3, tI x3)] [] h nx 0 0 := by
  unfold f_X10_wall at hf
  refine zv_iload_n K 1 eX10_wall_0 rfl ?_
  refine zv_iload_n K 2 eX10_wall_1 rfl ?_
  obtain ⟨v2, h1, eh1, hf⟩ := z_b2_inv hf
  refine zv_cS0 K [tI x1, tI x2] [] eX10_wall_2 lk_X10_56 md_X10_isCell st_X10_isCell rfl rfl (Nat.le_of_ble_eq_true rfl) (c_X10_isCell X.1.2.1 X.2.2.1 eh1) rfl rfl ⟨z_le (z_fr hX) (by decide), z_le (z_lo hX) (by decide)⟩ ⟨Nat.zero_le _, Nat.zero_le _⟩ ?_
  refine zv_if_ne K 10 eX10_wall_5 (by decide) hf (fun _ hf => ?_) (fun _ hf => ?_)
  · refine zv_lconst K (1 : Int64) eX10_wall_10 (by decide) ?_
    refine zv_iload_n K 1 eX10_wall_11 rfl ?_
    refine zv_iload_n K 2 eX10_wall_12 rfl ?_
    obtain ⟨v4, h3, eh3, hf⟩ := z_b2_inv hf
    refine zv_cS0 K [tI x1, tI x2] [tJ (1 : Int64)] eX10_wall_13 lk_X10_60 md_X10_cellOf st_X10_cellOf rfl rfl (Nat.le_of_ble_eq_true rfl) (c_X10_cellOf X.1.2.1 X.2.2.1 eh3) rfl rfl ⟨z_le (z_fr hX) (by decide), z_le (z_lo hX) (by decide)⟩ ⟨Nat.zero_le _, Nat.zero_le _⟩ ?_
    refine zv_lshl K eX10_wall_16 ?_
    refine zv_lstore K [(4, tJ ((1 : Int64) <<< (Int32.toInt64 v4 &&& 63))), (0, tA x0), (1, tI x1), (2, tI x2), (3, tI x3)] eX10_wall_17 (z_lt hX.2 (by decide)) rfl ?_
    refine zv_iload_n K 4 eX10_wall_19 rfl ?_
    refine zv_if_eq K 41 eX10_wall_20 (by decide) hf (fun _ hf => ?_) (fun _ hf => ?_)
    · exact zv_sub [1, 4, 0] rfl (v_X10_wall_b41 K hX hf hp)
    · refine zv_aload_n K 1 eX10_wall_23 rfl ?_
      refine zv_gA K eX10_wall_24 fl_X10_10 hf (fun v5 hf => ?_)
      obtain ⟨q6, hq6, hf⟩ := z_bind_inv hf
      obtain ⟨v8, h7, eh7, hf⟩ := z_b2_inv hf
      refine zv_cV0 K [] [] eX10_wall_27 lk_X10_64 md_X6_inUse im_X6_inUse sl_X6_inUse rfl rfl rfl rfl (Nat.le_of_ble_eq_true rfl) hq6 (c_X6_inUse X.1.2.1 X.2.2.1 eh7) rfl rfl ⟨z_le (z_fr hX) (by decide), z_le (z_lo hX) (by decide)⟩ ⟨Nat.zero_le _, Nat.zero_le _⟩ ?_
      refine zv_lload K 0 eX10_wall_30 rfl ?_
      refine zv_land K eX10_wall_32 ?_
      refine zv_lconst K (0 : Int64) eX10_wall_33 (by decide) ?_
      refine zv_lcmp K eX10_wall_34 ?_
      refine zv_if_eq K 41 eX10_wall_35 (by decide) hf (fun _ hf => ?_) (fun _ hf => ?_)
      · exact zv_sub [1, 4, 0] rfl (v_X10_wall_b41 K hX hf hp)
      · refine zv_bipush K (-2 : Int32) eX10_wall_38 (by decide) ?_
        have e9 := Option.some.inj hf; subst e9
        exact zv_iret K eX10_wall_40 hp
  · refine zv_iconst K (-1 : Int32) eX10_wall_8 (by decide) ?_
    have e9 := Option.some.inj hf; subst e9
    exact zv_iret K eX10_wall_9 hp
theorem c_X10_wall (l : Launch) (G : zG) {x0 : Option Nat} {x1 : Int32} {x2 : Int32} {x3 : Int32} {h : zH} {nx : Nat} {x : Int32 × zH} (hf : f_X10_wall x0 x1 x2 x3 h = some x) : z_Ct l G yX10_wall cX10_wall 7 (some .int) rm_X10_wall [tA x0, tI x1, tI x2, tI x3] h nx (some (tI x.1)) x.2 nx 0 0 :=
  z_enter [(0, tA x0), (1, tI x1), (2, tI x2), (3, tI x3)] (by decide +kernel) (Nat.le_of_ble_eq_true rfl) rfl (fun X hl hR hG hL K hq => by
    subst hl; subst hG
    exact v_X10_wall K ⟨hR, hL⟩ hf hq)
set_option maxHeartbeats 4000000 in
set_option maxRecDepth 100000 in
theorem v_X10_isSheet {X : zX} (K : z_Ok X cX10_isSheet (some .boolean) RX10 "isSheet") (hX : z_Xo X rm_X10_isSheet 2) {x0 : Option Nat} {x1 : Int32} {h : zH} {nx : Nat} {x : (Int32 × zH)} (hf : f_X10_isSheet x0 x1 h = some x) (hp : z_P0I X nx x) : zV X 0 [(0, tA x0), (1, tI x1)] [] h nx 0 0 := by
  unfold f_X10_isSheet at hf
  refine zv_iload_n K 1 eX10_isSheet_0 rfl ?_
  refine zv_if_lt K 17 eX10_isSheet_1 (by decide) hf (fun _ hf => ?_) (fun _ hf => ?_)
  · refine zv_iconst K (0 : Int32) eX10_isSheet_17 (by decide) ?_
    cases hf
    exact zv_zret K eX10_isSheet_18 (by decide) hp
  · refine zv_iload_n K 1 eX10_isSheet_4 rfl ?_
    refine zv_aload_n K 0 eX10_isSheet_5 rfl ?_
    refine zv_gA K eX10_isSheet_6 fl_X10_22 hf (fun v1 hf => ?_)
    refine zv_len K eX10_isSheet_9 hf (fun v2 hf => ?_)
    refine zv_icmp_ge K 17 eX10_isSheet_10 (by decide) hf (fun _ hf => ?_) (fun _ hf => ?_)
    · refine zv_iconst K (0 : Int32) eX10_isSheet_17 (by decide) ?_
      cases hf
      exact zv_zret K eX10_isSheet_18 (by decide) hp
    · refine zv_iconst K (1 : Int32) eX10_isSheet_13 (by decide) ?_
      refine zv_goto K 18 eX10_isSheet_14 (by decide) ?_
      cases hf
      exact zv_zret K eX10_isSheet_18 (by decide) hp
theorem c_X10_isSheet (l : Launch) (G : zG) {x0 : Option Nat} {x1 : Int32} {h : zH} {nx : Nat} {x : Int32 × zH} (hf : f_X10_isSheet x0 x1 h = some x) : z_Ct l G yX10_isSheet cX10_isSheet 2 (some .boolean) rm_X10_isSheet [tA x0, tI x1] h nx (some (tI x.1)) x.2 nx 0 0 :=
  z_enter [(0, tA x0), (1, tI x1)] (by decide +kernel) (Nat.le_of_ble_eq_true rfl) rfl (fun X hl hR hG hL K hq => by
    subst hl; subst hG
    exact v_X10_isSheet K ⟨hR, hL⟩ hf hq)
set_option maxHeartbeats 4000000 in
set_option maxRecDepth 100000 in
theorem v_J13_bitCount_95d88 {X : zX} (K : z_Ok X cJ13_bitCount_95d88 (some .int) RJ13 "bitCount") (hX : z_Xo X rm_J13_bitCount_95d88 2) {x0 : Int64} {h : zH} {nx : Nat} {x : (Int32 × zH)} (hf : f_J13_bitCount_95d88 x0 h = some x) (hp : z_P0I X nx x) : zV X 0 [(0, tJ x0)] [] h nx 0 0 := by
  unfold f_J13_bitCount_95d88 at hf
  refine zv_lload_n K 0 eJ13_bitCount_95d88_0 rfl ?_
  refine zv_lload_n K 0 eJ13_bitCount_95d88_1 rfl ?_
  refine zv_iconst K (1 : Int32) eJ13_bitCount_95d88_2 (by decide) ?_
  refine zv_lushr K eJ13_bitCount_95d88_3 ?_
  refine zv_ldc2 K (6148914691236517205 : Int64) eJ13_bitCount_95d88_4 kl_J13_314 ?_
  refine zv_land K eJ13_bitCount_95d88_7 ?_
  refine zv_lsub K eJ13_bitCount_95d88_8 ?_
  refine zv_lstore_n K [(0, tJ (x0 - ((((Int64.toUInt64 x0) >>> ((Int32.toInt64 (1 : Int32)).toUInt64 &&& Int64.toUInt64 63)).toInt64) &&& (6148914691236517205 : Int64))))] eJ13_bitCount_95d88_9 (z_lt hX.2 (by decide)) rfl ?_
  refine zv_lload_n K 0 eJ13_bitCount_95d88_10 rfl ?_
  refine zv_ldc2 K (3689348814741910323 : Int64) eJ13_bitCount_95d88_11 kl_J13_316 ?_
  refine zv_land K eJ13_bitCount_95d88_14 ?_
  refine zv_lload_n K 0 eJ13_bitCount_95d88_15 rfl ?_
  refine zv_iconst K (2 : Int32) eJ13_bitCount_95d88_16 (by decide) ?_
  refine zv_lushr K eJ13_bitCount_95d88_17 ?_
  refine zv_ldc2 K (3689348814741910323 : Int64) eJ13_bitCount_95d88_18 kl_J13_316 ?_
  refine zv_land K eJ13_bitCount_95d88_21 ?_
  refine zv_ladd K eJ13_bitCount_95d88_22 ?_
  refine zv_lstore_n K [(0, tJ (((x0 - ((((Int64.toUInt64 x0) >>> ((Int32.toInt64 (1 : Int32)).toUInt64 &&& Int64.toUInt64 63)).toInt64) &&& (6148914691236517205 : Int64))) &&& (3689348814741910323 : Int64)) + ((((Int64.toUInt64 (x0 - ((((Int64.toUInt64 x0) >>> ((Int32.toInt64 (1 : Int32)).toUInt64 &&& Int64.toUInt64 63)).toInt64) &&& (6148914691236517205 : Int64)))) >>> ((Int32.toInt64 (2 : Int32)).toUInt64 &&& Int64.toUInt64 63)).toInt64) &&& (3689348814741910323 : Int64))))] eJ13_bitCount_95d88_23 (z_lt hX.2 (by decide)) rfl ?_
  refine zv_lload_n K 0 eJ13_bitCount_95d88_24 rfl ?_
  refine zv_lload_n K 0 eJ13_bitCount_95d88_25 rfl ?_
  refine zv_iconst K (4 : Int32) eJ13_bitCount_95d88_26 (by decide) ?_
  refine zv_lushr K eJ13_bitCount_95d88_27 ?_
  refine zv_ladd K eJ13_bitCount_95d88_28 ?_
  refine zv_ldc2 K (1085102592571150095 : Int64) eJ13_bitCount_95d88_29 kl_J13_318 ?_
  refine zv_land K eJ13_bitCount_95d88_32 ?_
  refine zv_lstore_n K [(0, tJ (((((x0 - ((((Int64.toUInt64 x0) >>> ((Int32.toInt64 (1 : Int32)).toUInt64 &&& Int64.toUInt64 63)).toInt64) &&& (6148914691236517205 : Int64))) &&& (3689348814741910323 : Int64)) + ((((Int64.toUInt64 (x0 - ((((Int64.toUInt64 x0) >>> ((Int32.toInt64 (1 : Int32)).toUInt64 &&& Int64.toUInt64 63)).toInt64) &&& (6148914691236517205 : Int64)))) >>> ((Int32.toInt64 (2 : Int32)).toUInt64 &&& Int64.toUInt64 63)).toInt64) &&& (3689348814741910323 : Int64))) + (((Int64.toUInt64 (((x0 - ((((Int64.toUInt64 x0) >>> ((Int32.toInt64 (1 : Int32)).toUInt64 &&& Int64.toUInt64 63)).toInt64) &&& (6148914691236517205 : Int64))) &&& (3689348814741910323 : Int64)) + ((((Int64.toUInt64 (x0 - ((((Int64.toUInt64 x0) >>> ((Int32.toInt64 (1 : Int32)).toUInt64 &&& Int64.toUInt64 63)).toInt64) &&& (6148914691236517205 : Int64)))) >>> ((Int32.toInt64 (2 : Int32)).toUInt64 &&& Int64.toUInt64 63)).toInt64) &&& (3689348814741910323 : Int64)))) >>> ((Int32.toInt64 (4 : Int32)).toUInt64 &&& Int64.toUInt64 63)).toInt64)) &&& (1085102592571150095 : Int64)))] eJ13_bitCount_95d88_33 (z_lt hX.2 (by decide)) rfl ?_
  refine zv_lload_n K 0 eJ13_bitCount_95d88_34 rfl ?_
  refine zv_lload_n K 0 eJ13_bitCount_95d88_35 rfl ?_
  refine zv_bipush K (8 : Int32) eJ13_bitCount_95d88_36 (by decide) ?_
  refine zv_lushr K eJ13_bitCount_95d88_38 ?_
  refine zv_ladd K eJ13_bitCount_95d88_39 ?_
  refine zv_lstore_n K [(0, tJ ((((((x0 - ((((Int64.toUInt64 x0) >>> ((Int32.toInt64 (1 : Int32)).toUInt64 &&& Int64.toUInt64 63)).toInt64) &&& (6148914691236517205 : Int64))) &&& (3689348814741910323 : Int64)) + ((((Int64.toUInt64 (x0 - ((((Int64.toUInt64 x0) >>> ((Int32.toInt64 (1 : Int32)).toUInt64 &&& Int64.toUInt64 63)).toInt64) &&& (6148914691236517205 : Int64)))) >>> ((Int32.toInt64 (2 : Int32)).toUInt64 &&& Int64.toUInt64 63)).toInt64) &&& (3689348814741910323 : Int64))) + (((Int64.toUInt64 (((x0 - ((((Int64.toUInt64 x0) >>> ((Int32.toInt64 (1 : Int32)).toUInt64 &&& Int64.toUInt64 63)).toInt64) &&& (6148914691236517205 : Int64))) &&& (3689348814741910323 : Int64)) + ((((Int64.toUInt64 (x0 - ((((Int64.toUInt64 x0) >>> ((Int32.toInt64 (1 : Int32)).toUInt64 &&& Int64.toUInt64 63)).toInt64) &&& (6148914691236517205 : Int64)))) >>> ((Int32.toInt64 (2 : Int32)).toUInt64 &&& Int64.toUInt64 63)).toInt64) &&& (3689348814741910323 : Int64)))) >>> ((Int32.toInt64 (4 : Int32)).toUInt64 &&& Int64.toUInt64 63)).toInt64)) &&& (1085102592571150095 : Int64)) + (((Int64.toUInt64 (((((x0 - ((((Int64.toUInt64 x0) >>> ((Int32.toInt64 (1 : Int32)).toUInt64 &&& Int64.toUInt64 63)).toInt64) &&& (6148914691236517205 : Int64))) &&& (3689348814741910323 : Int64)) + ((((Int64.toUInt64 (x0 - ((((Int64.toUInt64 x0) >>> ((Int32.toInt64 (1 : Int32)).toUInt64 &&& Int64.toUInt64 63)).toInt64) &&& (6148914691236517205 : Int64)))) >>> ((Int32.toInt64 (2 : Int32)).toUInt64 &&& Int64.toUInt64 63)).toInt64) &&& (3689348814741910323 : Int64))) + (((Int64.toUInt64 (((x0 - ((((Int64.toUInt64 x0) >>> ((Int32.toInt64 (1 : Int32)).toUInt64 &&& Int64.toUInt64 63)).toInt64) &&& (6148914691236517205 : Int64))) &&& (3689348814741910323 : Int64)) + ((((Int64.toUInt64 (x0 - ((((Int64.toUInt64 x0) >>> ((Int32.toInt64 (1 : Int32)).toUInt64 &&& Int64.toUInt64 63)).toInt64) &&& (6148914691236517205 : Int64)))) >>> ((Int32.toInt64 (2 : Int32)).toUInt64 &&& Int64.toUInt64 63)).toInt64) &&& (3689348814741910323 : Int64)))) >>> ((Int32.toInt64 (4 : Int32)).toUInt64 &&& Int64.toUInt64 63)).toInt64)) &&& (1085102592571150095 : Int64))) >>> ((Int32.toInt64 (8 : Int32)).toUInt64 &&& Int64.toUInt64 63)).toInt64)))] eJ13_bitCount_95d88_40 (z_lt hX.2 (by decide)) rfl ?_
  refine zv_lload_n K 0 eJ13_bitCount_95d88_41 rfl ?_
  refine zv_lload_n K 0 eJ13_bitCount_95d88_42 rfl ?_
  refine zv_bipush K (16 : Int32) eJ13_bitCount_95d88_43 (by decide) ?_
  refine zv_lushr K eJ13_bitCount_95d88_45 ?_
  refine zv_ladd K eJ13_bitCount_95d88_46 ?_
  refine zv_lstore_n K [(0, tJ (((((((x0 - ((((Int64.toUInt64 x0) >>> ((Int32.toInt64 (1 : Int32)).toUInt64 &&& Int64.toUInt64 63)).toInt64) &&& (6148914691236517205 : Int64))) &&& (3689348814741910323 : Int64)) + ((((Int64.toUInt64 (x0 - ((((Int64.toUInt64 x0) >>> ((Int32.toInt64 (1 : Int32)).toUInt64 &&& Int64.toUInt64 63)).toInt64) &&& (6148914691236517205 : Int64)))) >>> ((Int32.toInt64 (2 : Int32)).toUInt64 &&& Int64.toUInt64 63)).toInt64) &&& (3689348814741910323 : Int64))) + (((Int64.toUInt64 (((x0 - ((((Int64.toUInt64 x0) >>> ((Int32.toInt64 (1 : Int32)).toUInt64 &&& Int64.toUInt64 63)).toInt64) &&& (6148914691236517205 : Int64))) &&& (3689348814741910323 : Int64)) + ((((Int64.toUInt64 (x0 - ((((Int64.toUInt64 x0) >>> ((Int32.toInt64 (1 : Int32)).toUInt64 &&& Int64.toUInt64 63)).toInt64) &&& (6148914691236517205 : Int64)))) >>> ((Int32.toInt64 (2 : Int32)).toUInt64 &&& Int64.toUInt64 63)).toInt64) &&& (3689348814741910323 : Int64)))) >>> ((Int32.toInt64 (4 : Int32)).toUInt64 &&& Int64.toUInt64 63)).toInt64)) &&& (1085102592571150095 : Int64)) + (((Int64.toUInt64 (((((x0 - ((((Int64.toUInt64 x0) >>> ((Int32.toInt64 (1 : Int32)).toUInt64 &&& Int64.toUInt64 63)).toInt64) &&& (6148914691236517205 : Int64))) &&& (3689348814741910323 : Int64)) + ((((Int64.toUInt64 (x0 - ((((Int64.toUInt64 x0) >>> ((Int32.toInt64 (1 : Int32)).toUInt64 &&& Int64.toUInt64 63)).toInt64) &&& (6148914691236517205 : Int64)))) >>> ((Int32.toInt64 (2 : Int32)).toUInt64 &&& Int64.toUInt64 63)).toInt64) &&& (3689348814741910323 : Int64))) + (((Int64.toUInt64 (((x0 - ((((Int64.toUInt64 x0) >>> ((Int32.toInt64 (1 : Int32)).toUInt64 &&& Int64.toUInt64 63)).toInt64) &&& (6148914691236517205 : Int64))) &&& (3689348814741910323 : Int64)) + ((((Int64.toUInt64 (x0 - ((((Int64.toUInt64 x0) >>> ((Int32.toInt64 (1 : Int32)).toUInt64 &&& Int64.toUInt64 63)).toInt64) &&& (6148914691236517205 : Int64)))) >>> ((Int32.toInt64 (2 : Int32)).toUInt64 &&& Int64.toUInt64 63)).toInt64) &&& (3689348814741910323 : Int64)))) >>> ((Int32.toInt64 (4 : Int32)).toUInt64 &&& Int64.toUInt64 63)).toInt64)) &&& (1085102592571150095 : Int64))) >>> ((Int32.toInt64 (8 : Int32)).toUInt64 &&& Int64.toUInt64 63)).toInt64)) + (((Int64.toUInt64 ((((((x0 - ((((Int64.toUInt64 x0) >>> ((Int32.toInt64 (1 : Int32)).toUInt64 &&& Int64.toUInt64 63)).toInt64) &&& (6148914691236517205 : Int64))) &&& (3689348814741910323 : Int64)) + ((((Int64.toUInt64 (x0 - ((((Int64.toUInt64 x0) >>> ((Int32.toInt64 (1 : Int32)).toUInt64 &&& Int64.toUInt64 63)).toInt64) &&& (6148914691236517205 : Int64)))) >>> ((Int32.toInt64 (2 : Int32)).toUInt64 &&& Int64.toUInt64 63)).toInt64) &&& (3689348814741910323 : Int64))) + (((Int64.toUInt64 (((x0 - ((((Int64.toUInt64 x0) >>> ((Int32.toInt64 (1 : Int32)).toUInt64 &&& Int64.toUInt64 63)).toInt64) &&& (6148914691236517205 : Int64))) &&& (3689348814741910323 : Int64)) + ((((Int64.toUInt64 (x0 - ((((Int64.toUInt64 x0) >>> ((Int32.toInt64 (1 : Int32)).toUInt64 &&& Int64.toUInt64 63)).toInt64) &&& (6148914691236517205 : Int64)))) >>> ((Int32.toInt64 (2 : Int32)).toUInt64 &&& Int64.toUInt64 63)).toInt64) &&& (3689348814741910323 : Int64)))) >>> ((Int32.toInt64 (4 : Int32)).toUInt64 &&& Int64.toUInt64 63)).toInt64)) &&& (1085102592571150095 : Int64)) + (((Int64.toUInt64 (((((x0 - ((((Int64.toUInt64 x0) >>> ((Int32.toInt64 (1 : Int32)).toUInt64 &&& Int64.toUInt64 63)).toInt64) &&& (6148914691236517205 : Int64))) &&& (3689348814741910323 : Int64)) + ((((Int64.toUInt64 (x0 - ((((Int64.toUInt64 x0) >>> ((Int32.toInt64 (1 : Int32)).toUInt64 &&& Int64.toUInt64 63)).toInt64) &&& (6148914691236517205 : Int64)))) >>> ((Int32.toInt64 (2 : Int32)).toUInt64 &&& Int64.toUInt64 63)).toInt64) &&& (3689348814741910323 : Int64))) + (((Int64.toUInt64 (((x0 - ((((Int64.toUInt64 x0) >>> ((Int32.toInt64 (1 : Int32)).toUInt64 &&& Int64.toUInt64 63)).toInt64) &&& (6148914691236517205 : Int64))) &&& (3689348814741910323 : Int64)) + ((((Int64.toUInt64 (x0 - ((((Int64.toUInt64 x0) >>> ((Int32.toInt64 (1 : Int32)).toUInt64 &&& Int64.toUInt64 63)).toInt64) &&& (6148914691236517205 : Int64)))) >>> ((Int32.toInt64 (2 : Int32)).toUInt64 &&& Int64.toUInt64 63)).toInt64) &&& (3689348814741910323 : Int64)))) >>> ((Int32.toInt64 (4 : Int32)).toUInt64 &&& Int64.toUInt64 63)).toInt64)) &&& (1085102592571150095 : Int64))) >>> ((Int32.toInt64 (8 : Int32)).toUInt64 &&& Int64.toUInt64 63)).toInt64))) >>> ((Int32.toInt64 (16 : Int32)).toUInt64 &&& Int64.toUInt64 63)).toInt64)))] eJ13_bitCount_95d88_47 (z_lt hX.2 (by decide)) rfl ?_
  refine zv_lload_n K 0 eJ13_bitCount_95d88_48 rfl ?_
  refine zv_lload_n K 0 eJ13_bitCount_95d88_49 rfl ?_
  refine zv_bipush K (32 : Int32) eJ13_bitCount_95d88_50 (by decide) ?_
  refine zv_lushr K eJ13_bitCount_95d88_52 ?_
  refine zv_ladd K eJ13_bitCount_95d88_53 ?_
  refine zv_lstore_n K [(0, tJ ((((((((x0 - ((((Int64.toUInt64 x0) >>> ((Int32.toInt64 (1 : Int32)).toUInt64 &&& Int64.toUInt64 63)).toInt64) &&& (6148914691236517205 : Int64))) &&& (3689348814741910323 : Int64)) + ((((Int64.toUInt64 (x0 - ((((Int64.toUInt64 x0) >>> ((Int32.toInt64 (1 : Int32)).toUInt64 &&& Int64.toUInt64 63)).toInt64) &&& (6148914691236517205 : Int64)))) >>> ((Int32.toInt64 (2 : Int32)).toUInt64 &&& Int64.toUInt64 63)).toInt64) &&& (3689348814741910323 : Int64))) + (((Int64.toUInt64 (((x0 - ((((Int64.toUInt64 x0) >>> ((Int32.toInt64 (1 : Int32)).toUInt64 &&& Int64.toUInt64 63)).toInt64) &&& (6148914691236517205 : Int64))) &&& (3689348814741910323 : Int64)) + ((((Int64.toUInt64 (x0 - ((((Int64.toUInt64 x0) >>> ((Int32.toInt64 (1 : Int32)).toUInt64 &&& Int64.toUInt64 63)).toInt64) &&& (6148914691236517205 : Int64)))) >>> ((Int32.toInt64 (2 : Int32)).toUInt64 &&& Int64.toUInt64 63)).toInt64) &&& (3689348814741910323 : Int64)))) >>> ((Int32.toInt64 (4 : Int32)).toUInt64 &&& Int64.toUInt64 63)).toInt64)) &&& (1085102592571150095 : Int64)) + (((Int64.toUInt64 (((((x0 - ((((Int64.toUInt64 x0) >>> ((Int32.toInt64 (1 : Int32)).toUInt64 &&& Int64.toUInt64 63)).toInt64) &&& (6148914691236517205 : Int64))) &&& (3689348814741910323 : Int64)) + ((((Int64.toUInt64 (x0 - ((((Int64.toUInt64 x0) >>> ((Int32.toInt64 (1 : Int32)).toUInt64 &&& Int64.toUInt64 63)).toInt64) &&& (6148914691236517205 : Int64)))) >>> ((Int32.toInt64 (2 : Int32)).toUInt64 &&& Int64.toUInt64 63)).toInt64) &&& (3689348814741910323 : Int64))) + (((Int64.toUInt64 (((x0 - ((((Int64.toUInt64 x0) >>> ((Int32.toInt64 (1 : Int32)).toUInt64 &&& Int64.toUInt64 63)).toInt64) &&& (6148914691236517205 : Int64))) &&& (3689348814741910323 : Int64)) + ((((Int64.toUInt64 (x0 - ((((Int64.toUInt64 x0) >>> ((Int32.toInt64 (1 : Int32)).toUInt64 &&& Int64.toUInt64 63)).toInt64) &&& (6148914691236517205 : Int64)))) >>> ((Int32.toInt64 (2 : Int32)).toUInt64 &&& Int64.toUInt64 63)).toInt64) &&& (3689348814741910323 : Int64)))) >>> ((Int32.toInt64 (4 : Int32)).toUInt64 &&& Int64.toUInt64 63)).toInt64)) &&& (1085102592571150095 : Int64))) >>> ((Int32.toInt64 (8 : Int32)).toUInt64 &&& Int64.toUInt64 63)).toInt64)) + (((Int64.toUInt64 ((((((x0 - ((((Int64.toUInt64 x0) >>> ((Int32.toInt64 (1 : Int32)).toUInt64 &&& Int64.toUInt64 63)).toInt64) &&& (6148914691236517205 : Int64))) &&& (3689348814741910323 : Int64)) + ((((Int64.toUInt64 (x0 - ((((Int64.toUInt64 x0) >>> ((Int32.toInt64 (1 : Int32)).toUInt64 &&& Int64.toUInt64 63)).toInt64) &&& (6148914691236517205 : Int64)))) >>> ((Int32.toInt64 (2 : Int32)).toUInt64 &&& Int64.toUInt64 63)).toInt64) &&& (3689348814741910323 : Int64))) + (((Int64.toUInt64 (((x0 - ((((Int64.toUInt64 x0) >>> ((Int32.toInt64 (1 : Int32)).toUInt64 &&& Int64.toUInt64 63)).toInt64) &&& (6148914691236517205 : Int64))) &&& (3689348814741910323 : Int64)) + ((((Int64.toUInt64 (x0 - ((((Int64.toUInt64 x0) >>> ((Int32.toInt64 (1 : Int32)).toUInt64 &&& Int64.toUInt64 63)).toInt64) &&& (6148914691236517205 : Int64)))) >>> ((Int32.toInt64 (2 : Int32)).toUInt64 &&& Int64.toUInt64 63)).toInt64) &&& (3689348814741910323 : Int64)))) >>> ((Int32.toInt64 (4 : Int32)).toUInt64 &&& Int64.toUInt64 63)).toInt64)) &&& (1085102592571150095 : Int64)) + (((Int64.toUInt64 (((((x0 - ((((Int64.toUInt64 x0) >>> ((Int32.toInt64 (1 : Int32)).toUInt64 &&& Int64.toUInt64 63)).toInt64) &&& (6148914691236517205 : Int64))) &&& (3689348814741910323 : Int64)) + ((((Int64.toUInt64 (x0 - ((((Int64.toUInt64 x0) >>> ((Int32.toInt64 (1 : Int32)).toUInt64 &&& Int64.toUInt64 63)).toInt64) &&& (6148914691236517205 : Int64)))) >>> ((Int32.toInt64 (2 : Int32)).toUInt64 &&& Int64.toUInt64 63)).toInt64) &&& (3689348814741910323 : Int64))) + (((Int64.toUInt64 (((x0 - ((((Int64.toUInt64 x0) >>> ((Int32.toInt64 (1 : Int32)).toUInt64 &&& Int64.toUInt64 63)).toInt64) &&& (6148914691236517205 : Int64))) &&& (3689348814741910323 : Int64)) + ((((Int64.toUInt64 (x0 - ((((Int64.toUInt64 x0) >>> ((Int32.toInt64 (1 : Int32)).toUInt64 &&& Int64.toUInt64 63)).toInt64) &&& (6148914691236517205 : Int64)))) >>> ((Int32.toInt64 (2 : Int32)).toUInt64 &&& Int64.toUInt64 63)).toInt64) &&& (3689348814741910323 : Int64)))) >>> ((Int32.toInt64 (4 : Int32)).toUInt64 &&& Int64.toUInt64 63)).toInt64)) &&& (1085102592571150095 : Int64))) >>> ((Int32.toInt64 (8 : Int32)).toUInt64 &&& Int64.toUInt64 63)).toInt64))) >>> ((Int32.toInt64 (16 : Int32)).toUInt64 &&& Int64.toUInt64 63)).toInt64)) + (((Int64.toUInt64 (((((((x0 - ((((Int64.toUInt64 x0) >>> ((Int32.toInt64 (1 : Int32)).toUInt64 &&& Int64.toUInt64 63)).toInt64) &&& (6148914691236517205 : Int64))) &&& (3689348814741910323 : Int64)) + ((((Int64.toUInt64 (x0 - ((((Int64.toUInt64 x0) >>> ((Int32.toInt64 (1 : Int32)).toUInt64 &&& Int64.toUInt64 63)).toInt64) &&& (6148914691236517205 : Int64)))) >>> ((Int32.toInt64 (2 : Int32)).toUInt64 &&& Int64.toUInt64 63)).toInt64) &&& (3689348814741910323 : Int64))) + (((Int64.toUInt64 (((x0 - ((((Int64.toUInt64 x0) >>> ((Int32.toInt64 (1 : Int32)).toUInt64 &&& Int64.toUInt64 63)).toInt64) &&& (6148914691236517205 : Int64))) &&& (3689348814741910323 : Int64)) + ((((Int64.toUInt64 (x0 - ((((Int64.toUInt64 x0) >>> ((Int32.toInt64 (1 : Int32)).toUInt64 &&& Int64.toUInt64 63)).toInt64) &&& (6148914691236517205 : Int64)))) >>> ((Int32.toInt64 (2 : Int32)).toUInt64 &&& Int64.toUInt64 63)).toInt64) &&& (3689348814741910323 : Int64)))) >>> ((Int32.toInt64 (4 : Int32)).toUInt64 &&& Int64.toUInt64 63)).toInt64)) &&& (1085102592571150095 : Int64)) + (((Int64.toUInt64 (((((x0 - ((((Int64.toUInt64 x0) >>> ((Int32.toInt64 (1 : Int32)).toUInt64 &&& Int64.toUInt64 63)).toInt64) &&& (6148914691236517205 : Int64))) &&& (3689348814741910323 : Int64)) + ((((Int64.toUInt64 (x0 - ((((Int64.toUInt64 x0) >>> ((Int32.toInt64 (1 : Int32)).toUInt64 &&& Int64.toUInt64 63)).toInt64) &&& (6148914691236517205 : Int64)))) >>> ((Int32.toInt64 (2 : Int32)).toUInt64 &&& Int64.toUInt64 63)).toInt64) &&& (3689348814741910323 : Int64))) + (((Int64.toUInt64 (((x0 - ((((Int64.toUInt64 x0) >>> ((Int32.toInt64 (1 : Int32)).toUInt64 &&& Int64.toUInt64 63)).toInt64) &&& (6148914691236517205 : Int64))) &&& (3689348814741910323 : Int64)) + ((((Int64.toUInt64 (x0 - ((((Int64.toUInt64 x0) >>> ((Int32.toInt64 (1 : Int32)).toUInt64 &&& Int64.toUInt64 63)).toInt64) &&& (6148914691236517205 : Int64)))) >>> ((Int32.toInt64 (2 : Int32)).toUInt64 &&& Int64.toUInt64 63)).toInt64) &&& (3689348814741910323 : Int64)))) >>> ((Int32.toInt64 (4 : Int32)).toUInt64 &&& Int64.toUInt64 63)).toInt64)) &&& (1085102592571150095 : Int64))) >>> ((Int32.toInt64 (8 : Int32)).toUInt64 &&& Int64.toUInt64 63)).toInt64)) + (((Int64.toUInt64 ((((((x0 - ((((Int64.toUInt64 x0) >>> ((Int32.toInt64 (1 : Int32)).toUInt64 &&& Int64.toUInt64 63)).toInt64) &&& (6148914691236517205 : Int64))) &&& (3689348814741910323 : Int64)) + ((((Int64.toUInt64 (x0 - ((((Int64.toUInt64 x0) >>> ((Int32.toInt64 (1 : Int32)).toUInt64 &&& Int64.toUInt64 63)).toInt64) &&& (6148914691236517205 : Int64)))) >>> ((Int32.toInt64 (2 : Int32)).toUInt64 &&& Int64.toUInt64 63)).toInt64) &&& (3689348814741910323 : Int64))) + (((Int64.toUInt64 (((x0 - ((((Int64.toUInt64 x0) >>> ((Int32.toInt64 (1 : Int32)).toUInt64 &&& Int64.toUInt64 63)).toInt64) &&& (6148914691236517205 : Int64))) &&& (3689348814741910323 : Int64)) + ((((Int64.toUInt64 (x0 - ((((Int64.toUInt64 x0) >>> ((Int32.toInt64 (1 : Int32)).toUInt64 &&& Int64.toUInt64 63)).toInt64) &&& (6148914691236517205 : Int64)))) >>> ((Int32.toInt64 (2 : Int32)).toUInt64 &&& Int64.toUInt64 63)).toInt64) &&& (3689348814741910323 : Int64)))) >>> ((Int32.toInt64 (4 : Int32)).toUInt64 &&& Int64.toUInt64 63)).toInt64)) &&& (1085102592571150095 : Int64)) + (((Int64.toUInt64 (((((x0 - ((((Int64.toUInt64 x0) >>> ((Int32.toInt64 (1 : Int32)).toUInt64 &&& Int64.toUInt64 63)).toInt64) &&& (6148914691236517205 : Int64))) &&& (3689348814741910323 : Int64)) + ((((Int64.toUInt64 (x0 - ((((Int64.toUInt64 x0) >>> ((Int32.toInt64 (1 : Int32)).toUInt64 &&& Int64.toUInt64 63)).toInt64) &&& (6148914691236517205 : Int64)))) >>> ((Int32.toInt64 (2 : Int32)).toUInt64 &&& Int64.toUInt64 63)).toInt64) &&& (3689348814741910323 : Int64))) + (((Int64.toUInt64 (((x0 - ((((Int64.toUInt64 x0) >>> ((Int32.toInt64 (1 : Int32)).toUInt64 &&& Int64.toUInt64 63)).toInt64) &&& (6148914691236517205 : Int64))) &&& (3689348814741910323 : Int64)) + ((((Int64.toUInt64 (x0 - ((((Int64.toUInt64 x0) >>> ((Int32.toInt64 (1 : Int32)).toUInt64 &&& Int64.toUInt64 63)).toInt64) &&& (6148914691236517205 : Int64)))) >>> ((Int32.toInt64 (2 : Int32)).toUInt64 &&& Int64.toUInt64 63)).toInt64) &&& (3689348814741910323 : Int64)))) >>> ((Int32.toInt64 (4 : Int32)).toUInt64 &&& Int64.toUInt64 63)).toInt64)) &&& (1085102592571150095 : Int64))) >>> ((Int32.toInt64 (8 : Int32)).toUInt64 &&& Int64.toUInt64 63)).toInt64))) >>> ((Int32.toInt64 (16 : Int32)).toUInt64 &&& Int64.toUInt64 63)).toInt64))) >>> ((Int32.toInt64 (32 : Int32)).toUInt64 &&& Int64.toUInt64 63)).toInt64)))] eJ13_bitCount_95d88_54 (z_lt hX.2 (by decide)) rfl ?_
  refine zv_lload_n K 0 eJ13_bitCount_95d88_55 rfl ?_
  refine zv_l2i K eJ13_bitCount_95d88_56 ?_
  refine zv_bipush K (127 : Int32) eJ13_bitCount_95d88_57 (by decide) ?_
  refine zv_iand K eJ13_bitCount_95d88_59 ?_
  have e9 := Option.some.inj hf; subst e9
  exact zv_iret K eJ13_bitCount_95d88_60 hp
theorem c_J13_bitCount_95d88 (l : Launch) (G : zG) {x0 : Int64} {h : zH} {nx : Nat} {x : Int32 × zH} (hf : f_J13_bitCount_95d88 x0 h = some x) : z_Ct l G yJ13_bitCount_95d88 cJ13_bitCount_95d88 2 (some .int) rm_J13_bitCount_95d88 [tJ x0] h nx (some (tI x.1)) x.2 nx 0 0 :=
  z_enter [(0, tJ x0)] (by decide +kernel) (Nat.le_of_ble_eq_true rfl) rfl (fun X hl hR hG hL K hq => by
    subst hl; subst hG
    exact v_J13_bitCount_95d88 K ⟨hR, hL⟩ hf hq)
set_option maxHeartbeats 4000000 in
set_option maxRecDepth 100000 in
theorem v_X10_walls {X : zX} (K : z_Ok X cX10_walls (some .int) RX10 "walls") (hX : z_Xo X rm_X10_walls 5) {x0 : Option Nat} {x1 : Int32} {h : zH} {nx : Nat} {x : (Int32 × zH)} (hf : f_X10_walls x0 x1 h = some x) (hp : z_P0I X nx x) : zV X 0 [(0, tA x0), (1, tI x1)] [] h nx 0 0 := by
  unfold f_X10_walls at hf
  refine zv_aload_n K 0 eX10_walls_0 rfl ?_
  refine zv_iload_n K 1 eX10_walls_1 rfl ?_
  obtain ⟨q1, hq1, hf⟩ := z_bind_inv hf
  obtain ⟨v3, h2, eh2, hf⟩ := z_b2_inv hf
  refine zv_cV0 K [tI x1] [] eX10_walls_2 lk_X10_74 md_X10_isSheet im_X10_isSheet sl_X10_isSheet rfl rfl rfl rfl (Nat.le_of_ble_eq_true rfl) hq1 (c_X10_isSheet X.1.2.1 X.2.2.1 eh2) rfl rfl ⟨z_le (z_fr hX) (by decide), z_le (z_lo hX) (by decide)⟩ ⟨Nat.zero_le _, Nat.zero_le _⟩ ?_
  refine zv_if_ne K 10 eX10_walls_5 (by decide) hf (fun _ hf => ?_) (fun _ hf => ?_)
  · refine zv_aload_n K 0 eX10_walls_10 rfl ?_
    refine zv_gA K eX10_walls_11 fl_X10_22 hf (fun v4 hf => ?_)
    refine zv_iload_n K 1 eX10_walls_14 rfl ?_
    refine zv_aA K eX10_walls_15 hf (fun v5 hf => ?_)
    refine zv_iconst K (0 : Int32) eX10_walls_16 (by decide) ?_
    refine zv_iconst K (0 : Int32) eX10_walls_17 (by decide) ?_
    refine zv_bipush K (64 : Int32) eX10_walls_18 (by decide) ?_
    obtain ⟨q6, hq6, hf⟩ := z_bind_inv hf
    obtain ⟨v8, h7, eh7, hf⟩ := z_b2_inv hf
    refine zv_cV0 K [tI (0 : Int32), tI (0 : Int32), tI (64 : Int32)] [] eX10_walls_20 lk_X10_78 md_X7_refuses im_X7_refuses sl_X7_refuses rfl rfl rfl rfl (Nat.le_of_ble_eq_true rfl) hq6 (c_X7_refuses X.1.2.1 X.2.2.1 eh7) rfl rfl ⟨z_le (z_fr hX) (by decide), z_le (z_lo hX) (by decide)⟩ ⟨Nat.zero_le _, Nat.zero_le _⟩ ?_
    refine zv_istore_n K [(2, tI v8), (0, tA x0), (1, tI x1)] eX10_walls_23 (z_lt hX.2 (by decide)) rfl ?_
    refine zv_iload_n K 0 eX10_walls_24 rfl ?_
    refine zv_if_eq K 30 eX10_walls_25 (by decide) hf (fun _ hf => ?_) (fun _ hf => ?_)
    · refine zv_aload_n K 1 eX10_walls_30 rfl ?_
      refine zv_gA K eX10_walls_31 fl_X10_22 hf (fun v9 hf => ?_)
      refine zv_iload_n K 2 eX10_walls_34 rfl ?_
      refine zv_aA K eX10_walls_35 hf (fun v10 hf => ?_)
      obtain ⟨q11, hq11, hf⟩ := z_bind_inv hf
      obtain ⟨v13, h12, eh12, hf⟩ := z_b2_inv hf
      refine zv_cV0 K [] [] eX10_walls_36 lk_X10_82 md_X7_asCells im_X7_asCells sl_X7_asCells rfl rfl rfl rfl (Nat.le_of_ble_eq_true rfl) hq11 (c_X7_asCells X.1.2.1 X.2.2.1 eh12) rfl rfl ⟨z_le (z_fr hX) (by decide), z_le (z_lo hX) (by decide)⟩ ⟨Nat.zero_le _, Nat.zero_le _⟩ ?_
      refine zv_lstore_n K [(3, tJ v13), (2, tI v8), (0, tA x0), (1, tI x1)] eX10_walls_39 (z_lt hX.2 (by decide)) rfl ?_
      refine zv_aload_n K 2 eX10_walls_40 rfl ?_
      refine zv_gA K eX10_walls_41 fl_X10_10 hf (fun v14 hf => ?_)
      obtain ⟨q15, hq15, hf⟩ := z_bind_inv hf
      obtain ⟨v17, h16, eh16, hf⟩ := z_b2_inv hf
      refine zv_cV0 K [] [] eX10_walls_44 lk_X10_64 md_X6_inUse im_X6_inUse sl_X6_inUse rfl rfl rfl rfl (Nat.le_of_ble_eq_true rfl) hq15 (c_X6_inUse X.1.2.1 X.2.2.1 eh16) rfl rfl ⟨z_le (z_fr hX) (by decide), z_le (z_lo hX) (by decide)⟩ ⟨Nat.zero_le _, Nat.zero_le _⟩ ?_
      refine zv_lload_n K 0 eX10_walls_47 rfl ?_
      refine zv_land K eX10_walls_48 ?_
      refine zv_lconst K (0 : Int64) eX10_walls_49 (by decide) ?_
      refine zv_lcmp K eX10_walls_50 ?_
      refine zv_if_eq K 57 eX10_walls_51 (by decide) hf (fun _ hf => ?_) (fun _ hf => ?_)
      · refine zv_aload_n K 2 eX10_walls_57 rfl ?_
        refine zv_gA K eX10_walls_58 fl_X10_10 hf (fun v18 hf => ?_)
        refine zv_lload_n K 0 eX10_walls_61 rfl ?_
        refine zv_pJ K eX10_walls_62 fl_X10_68 ff_6_0 rfl hf (fun h19 hf => ?_)
        refine zv_lload_n K 0 eX10_walls_65 rfl ?_
        obtain ⟨v21, h20, eh20, hf⟩ := z_b2_inv hf
        refine zv_cS0 K [tJ v13] [] eX10_walls_66 lk_X10_85 md_J13_bitCount_95d88 st_J13_bitCount_95d88 rfl rfl (Nat.le_of_ble_eq_true rfl) (c_J13_bitCount_95d88 X.1.2.1 X.2.2.1 eh20) rfl rfl ⟨z_le (z_fr hX) (by decide), z_le (z_lo hX) (by decide)⟩ ⟨Nat.zero_le _, Nat.zero_le _⟩ ?_
        have e9 := Option.some.inj hf; subst e9
        exact zv_iret K eX10_walls_69 hp
      · refine zv_bipush K (-2 : Int32) eX10_walls_54 (by decide) ?_
        have e9 := Option.some.inj hf; subst e9
        exact zv_iret K eX10_walls_56 hp
    · refine zv_iload_n K 0 eX10_walls_28 rfl ?_
      have e9 := Option.some.inj hf; subst e9
      exact zv_iret K eX10_walls_29 hp
  · refine zv_iconst K (-1 : Int32) eX10_walls_8 (by decide) ?_
    have e9 := Option.some.inj hf; subst e9
    exact zv_iret K eX10_walls_9 hp
theorem c_X10_walls (l : Launch) (G : zG) {x0 : Option Nat} {x1 : Int32} {h : zH} {nx : Nat} {x : Int32 × zH} (hf : f_X10_walls x0 x1 h = some x) : z_Ct l G yX10_walls cX10_walls 5 (some .int) rm_X10_walls [tA x0, tI x1] h nx (some (tI x.1)) x.2 nx 0 0 :=
  z_enter [(0, tA x0), (1, tI x1)] (by decide +kernel) (Nat.le_of_ble_eq_true rfl) rfl (fun X hl hR hG hL K hq => by
    subst hl; subst hG
    exact v_X10_walls K ⟨hR, hL⟩ hf hq)
set_option maxHeartbeats 4000000 in
set_option maxRecDepth 100000 in
theorem v_X10_arm {X : zX} (K : z_Ok X cX10_arm (some .int) RX10 "arm") (hX : z_Xo X rm_X10_arm 5) {x0 : Option Nat} {x1 : Int32} {x2 : Int32} {x3 : Int32} {x4 : Int32} {h : zH} {nx : Nat} {x : (Int32 × zH)} (hf : f_X10_arm X.2.2.1.2.2.1 x0 x1 x2 x3 x4 h = some x) (hp : z_P0I X nx x) : zV X 0 [(0, tA x0), (1, tI x1), (2, tI x2), (3, tI x3), (4, tI x4)] [] h nx 0 0 := by
  unfold f_X10_arm at hf
  refine zv_iload_n K 1 eX10_arm_0 rfl ?_
  refine zv_iload_n K 2 eX10_arm_1 rfl ?_
  obtain ⟨v2, h1, eh1, hf⟩ := z_b2_inv hf
  refine zv_cS0 K [tI x1, tI x2] [] eX10_arm_2 lk_X10_56 md_X10_isCell st_X10_isCell rfl rfl (Nat.le_of_ble_eq_true rfl) (c_X10_isCell X.1.2.1 X.2.2.1 eh1) rfl rfl ⟨z_le (z_fr hX) (by decide), z_le (z_lo hX) (by decide)⟩ ⟨Nat.zero_le _, Nat.zero_le _⟩ ?_
  refine zv_if_eq K 33 eX10_arm_5 (by decide) hf (fun _ hf => ?_) (fun _ hf => ?_)
  · refine zv_iconst K (-1 : Int32) eX10_arm_33 (by decide) ?_
    have e9 := Option.some.inj hf; subst e9
    exact zv_iret K eX10_arm_34 hp
  · refine zv_iload_n K 3 eX10_arm_8 rfl ?_
    refine zv_iconst K (2 : Int32) eX10_arm_9 (by decide) ?_
    refine zv_icmp_lt K 33 eX10_arm_10 (by decide) hf (fun _ hf => ?_) (fun _ hf => ?_)
    · refine zv_iconst K (-1 : Int32) eX10_arm_33 (by decide) ?_
      have e9 := Option.some.inj hf; subst e9
      exact zv_iret K eX10_arm_34 hp
    · refine zv_iload_n K 3 eX10_arm_13 rfl ?_
      refine zv_bipush K (7 : Int32) eX10_arm_14 (by decide) ?_
      refine zv_icmp_gt K 33 eX10_arm_16 (by decide) hf (fun _ hf => ?_) (fun _ hf => ?_)
      · refine zv_iconst K (-1 : Int32) eX10_arm_33 (by decide) ?_
        have e9 := Option.some.inj hf; subst e9
        exact zv_iret K eX10_arm_34 hp
      · refine zv_iload K 4 eX10_arm_19 rfl ?_
        refine zv_if_lt K 33 eX10_arm_21 (by decide) hf (fun _ hf => ?_) (fun _ hf => ?_)
        · refine zv_iconst K (-1 : Int32) eX10_arm_33 (by decide) ?_
          have e9 := Option.some.inj hf; subst e9
          exact zv_iret K eX10_arm_34 hp
        · refine zv_iload K 4 eX10_arm_24 rfl ?_
          refine zv_iload_n K 3 eX10_arm_26 rfl ?_
          obtain ⟨v4, h3, eh3, hf⟩ := z_b2_inv hf
          refine zv_cS0 K [tI x3] [tI x4] eX10_arm_27 lk_X10_91 md_X10_formsOf st_X10_formsOf rfl rfl (Nat.le_of_ble_eq_true rfl) (c_X10_formsOf X.1.2.1 X.2.2.1 eh3) rfl rfl ⟨z_le (z_fr hX) (by decide), z_le (z_lo hX) (by decide)⟩ ⟨Nat.zero_le _, Nat.zero_le _⟩ ?_
          refine zv_icmp_lt K 35 eX10_arm_30 (by decide) hf (fun _ hf => ?_) (fun _ hf => ?_)
          · refine zv_aload_n K 0 eX10_arm_35 rfl ?_
            refine zv_gA K eX10_arm_36 fl_X10_10 hf (fun v5 hf => ?_)
            refine zv_iload_n K 1 eX10_arm_39 rfl ?_
            refine zv_iload_n K 2 eX10_arm_40 rfl ?_
            obtain ⟨v7, h6, eh6, hf⟩ := z_b2_inv hf
            refine zv_cS0 K [tI x1, tI x2] [tA v5] eX10_arm_41 lk_X10_60 md_X10_cellOf st_X10_cellOf rfl rfl (Nat.le_of_ble_eq_true rfl) (c_X10_cellOf X.1.2.1 X.2.2.1 eh6) rfl rfl ⟨z_le (z_fr hX) (by decide), z_le (z_lo hX) (by decide)⟩ ⟨Nat.zero_le _, Nat.zero_le _⟩ ?_
            refine zv_iload_n K 3 eX10_arm_44 rfl ?_
            refine zv_iload K 4 eX10_arm_45 rfl ?_
            refine zv_aload_n K 0 eX10_arm_47 rfl ?_
            refine zv_gA K eX10_arm_48 fl_X10_51 hf (fun v8 hf => ?_)
            obtain ⟨q9, hq9, hf⟩ := z_bind_inv hf
            obtain ⟨v11, h10, eh10, hf⟩ := z_b2_inv hf
            refine zv_cV0 K [tI v7, tI x3, tI x4, tA v8] [] eX10_arm_51 lk_X10_95 md_X6_canLie im_X6_canLie sl_X6_canLie rfl rfl rfl rfl (Nat.le_of_ble_eq_true rfl) hq9 (c_X6_canLie X.1.2.1 X.2.2.1 eh10) rfl rfl ⟨z_le (z_fr hX) (by decide), z_le (z_lo hX) (by decide)⟩ ⟨Nat.zero_le _, Nat.zero_le _⟩ ?_
            refine zv_if_ne K 60 eX10_arm_54 (by decide) hf (fun _ hf => ?_) (fun _ hf => ?_)
            · refine zv_aload_n K 0 eX10_arm_60 rfl ?_
              refine zv_gA K eX10_arm_61 fl_X10_10 hf (fun v12 hf => ?_)
              refine zv_gI K eX10_arm_64 fl_X10_99 hf (fun v13 hf => ?_)
              refine zv_iconst K (3 : Int32) eX10_arm_67 (by decide) ?_
              refine zv_icmp_lt K 74 eX10_arm_68 (by decide) hf (fun _ hf => ?_) (fun _ hf => ?_)
              · refine zv_aload_n K 0 eX10_arm_74 rfl ?_
                refine zv_gA K eX10_arm_75 fl_X10_10 hf (fun v14 hf => ?_)
                refine zv_aload_n K 0 eX10_arm_78 rfl ?_
                refine zv_gA K eX10_arm_79 fl_X10_51 hf (fun v15 hf => ?_)
                refine zv_iload_n K 3 eX10_arm_82 rfl ?_
                obtain ⟨q16, hq16, hf⟩ := z_bind_inv hf
                obtain ⟨h17, eh17, hf⟩ := z_bind_inv hf
                refine zv_cV0 K [tA v15, tI x3] [] eX10_arm_83 lk_X10_103 md_X6_addArm im_X6_addArm sl_X6_addArm rfl rfl rfl rfl (Nat.le_of_ble_eq_true rfl) hq16 (c_X6_addArm X.1.2.1 X.2.2.1 eh17) rfl rfl ⟨z_le (z_fr hX) (by decide), z_le (z_lo hX) (by decide)⟩ ⟨Nat.zero_le _, Nat.zero_le _⟩ ?_
                refine zv_aload_n K 0 eX10_arm_86 rfl ?_
                refine zv_gA K eX10_arm_87 fl_X10_10 hf (fun v18 hf => ?_)
                refine zv_gI K eX10_arm_90 fl_X10_99 hf (fun v19 hf => ?_)
                refine zv_iconst K (1 : Int32) eX10_arm_93 (by decide) ?_
                refine zv_isub K eX10_arm_94 ?_
                have e9 := Option.some.inj hf; subst e9
                exact zv_iret K eX10_arm_95 hp
              · refine zv_bipush K (-3 : Int32) eX10_arm_71 (by decide) ?_
                have e9 := Option.some.inj hf; subst e9
                exact zv_iret K eX10_arm_73 hp
            · refine zv_bipush K (-2 : Int32) eX10_arm_57 (by decide) ?_
              have e9 := Option.some.inj hf; subst e9
              exact zv_iret K eX10_arm_59 hp
          · refine zv_iconst K (-1 : Int32) eX10_arm_33 (by decide) ?_
            have e9 := Option.some.inj hf; subst e9
            exact zv_iret K eX10_arm_34 hp
theorem c_X10_arm (l : Launch) (G : zG) {x0 : Option Nat} {x1 : Int32} {x2 : Int32} {x3 : Int32} {x4 : Int32} {h : zH} {nx : Nat} {x : Int32 × zH} (hf : f_X10_arm G.2.2.1 x0 x1 x2 x3 x4 h = some x) : z_Ct l G yX10_arm cX10_arm 5 (some .int) rm_X10_arm [tA x0, tI x1, tI x2, tI x3, tI x4] h nx (some (tI x.1)) x.2 nx 0 0 :=
  z_enter [(0, tA x0), (1, tI x1), (2, tI x2), (3, tI x3), (4, tI x4)] (by decide +kernel) (Nat.le_of_ble_eq_true rfl) rfl (fun X hl hR hG hL K hq => by
    subst hl; subst hG
    exact v_X10_arm K ⟨hR, hL⟩ hf hq)
set_option maxHeartbeats 4000000 in
set_option maxRecDepth 100000 in
theorem v_X10_thing {X : zX} (K : z_Ok X cX10_thing (some .int) RX10 "thing") (hX : z_Xo X rm_X10_thing 5) {x0 : Option Nat} {x1 : Int32} {x2 : Int32} {x3 : Int32} {h : zH} {nx : Nat} {x : (Int32 × zH)} (hf : f_X10_thing x0 x1 x2 x3 h = some x) (hp : z_P0I X nx x) : zV X 0 [(0, tA x0), (1, tI x1), (2, tI x2), (3, tI x3)] [] h nx 0 0 := by
  unfold f_X10_thing at hf
  refine zv_iload_n K 1 eX10_thing_0 rfl ?_
  refine zv_iload_n K 2 eX10_thing_1 rfl ?_
  obtain ⟨v2, h1, eh1, hf⟩ := z_b2_inv hf
  refine zv_cS0 K [tI x1, tI x2] [] eX10_thing_2 lk_X10_56 md_X10_isCell st_X10_isCell rfl rfl (Nat.le_of_ble_eq_true rfl) (c_X10_isCell X.1.2.1 X.2.2.1 eh1) rfl rfl ⟨z_le (z_fr hX) (by decide), z_le (z_lo hX) (by decide)⟩ ⟨Nat.zero_le _, Nat.zero_le _⟩ ?_
  refine zv_if_eq K 15 eX10_thing_5 (by decide) hf (fun _ hf => ?_) (fun _ hf => ?_)
  · refine zv_iconst K (-1 : Int32) eX10_thing_15 (by decide) ?_
    have e9 := Option.some.inj hf; subst e9
    exact zv_iret K eX10_thing_16 hp
  · refine zv_iload_n K 3 eX10_thing_8 rfl ?_
    obtain ⟨v4, h3, eh3, hf⟩ := z_b2_inv hf
    refine zv_cS0 K [tI x3] [] eX10_thing_9 lk_X10_107 md_X10_isDigit st_X10_isDigit rfl rfl (Nat.le_of_ble_eq_true rfl) (c_X10_isDigit X.1.2.1 X.2.2.1 eh3) rfl rfl ⟨z_le (z_fr hX) (by decide), z_le (z_lo hX) (by decide)⟩ ⟨Nat.zero_le _, Nat.zero_le _⟩ ?_
    refine zv_if_ne K 17 eX10_thing_12 (by decide) hf (fun _ hf => ?_) (fun _ hf => ?_)
    · refine zv_iload_n K 1 eX10_thing_17 rfl ?_
      refine zv_iload_n K 2 eX10_thing_18 rfl ?_
      obtain ⟨v6, h5, eh5, hf⟩ := z_b2_inv hf
      refine zv_cS0 K [tI x1, tI x2] [] eX10_thing_19 lk_X10_60 md_X10_cellOf st_X10_cellOf rfl rfl (Nat.le_of_ble_eq_true rfl) (c_X10_cellOf X.1.2.1 X.2.2.1 eh5) rfl rfl ⟨z_le (z_fr hX) (by decide), z_le (z_lo hX) (by decide)⟩ ⟨Nat.zero_le _, Nat.zero_le _⟩ ?_
      refine zv_istore K [(4, tI v6), (0, tA x0), (1, tI x1), (2, tI x2), (3, tI x3)] eX10_thing_22 (z_lt hX.2 (by decide)) rfl ?_
      refine zv_aload_n K 1 eX10_thing_24 rfl ?_
      refine zv_gA K eX10_thing_25 fl_X10_10 hf (fun v7 hf => ?_)
      refine zv_gJ K eX10_thing_28 fl_X10_68 hf (fun v8 hf => ?_)
      refine zv_aload_n K 1 eX10_thing_31 rfl ?_
      refine zv_gA K eX10_thing_32 fl_X10_10 hf (fun v9 hf => ?_)
      obtain ⟨q10, hq10, hf⟩ := z_bind_inv hf
      obtain ⟨v12, h11, eh11, hf⟩ := z_b2_inv hf
      refine zv_cV0 K [] [tJ v8] eX10_thing_35 lk_X10_110 md_X6_lyingCells im_X6_lyingCells sl_X6_lyingCells rfl rfl rfl rfl (Nat.le_of_ble_eq_true rfl) hq10 (c_X6_lyingCells X.1.2.1 X.2.2.1 eh11) rfl rfl ⟨z_le (z_fr hX) (by decide), z_le (z_lo hX) (by decide)⟩ ⟨Nat.zero_le _, Nat.zero_le _⟩ ?_
      refine zv_lor K eX10_thing_38 ?_
      refine zv_lconst K (1 : Int64) eX10_thing_39 (by decide) ?_
      refine zv_iload K 0 eX10_thing_40 rfl ?_
      refine zv_lshl K eX10_thing_42 ?_
      refine zv_land K eX10_thing_43 ?_
      refine zv_lconst K (0 : Int64) eX10_thing_44 (by decide) ?_
      refine zv_lcmp K eX10_thing_45 ?_
      refine zv_if_eq K 52 eX10_thing_46 (by decide) hf (fun _ hf => ?_) (fun _ hf => ?_)
      · refine zv_aload_n K 1 eX10_thing_52 rfl ?_
        refine zv_gA K eX10_thing_53 fl_X10_10 hf (fun v13 hf => ?_)
        refine zv_gI K eX10_thing_56 fl_X10_113 hf (fun v14 hf => ?_)
        refine zv_bipush K (8 : Int32) eX10_thing_59 (by decide) ?_
        refine zv_icmp_lt K 67 eX10_thing_61 (by decide) hf (fun _ hf => ?_) (fun _ hf => ?_)
        · refine zv_aload_n K 1 eX10_thing_67 rfl ?_
          refine zv_gA K eX10_thing_68 fl_X10_10 hf (fun v15 hf => ?_)
          refine zv_iload K 0 eX10_thing_71 rfl ?_
          refine zv_iload_n K 4 eX10_thing_73 rfl ?_
          obtain ⟨q16, hq16, hf⟩ := z_bind_inv hf
          obtain ⟨h17, eh17, hf⟩ := z_bind_inv hf
          refine zv_cV0 K [tI v6, tI x3] [] eX10_thing_74 lk_X10_116 md_X6_addThing im_X6_addThing sl_X6_addThing rfl rfl rfl rfl (Nat.le_of_ble_eq_true rfl) hq16 (c_X6_addThing X.1.2.1 X.2.2.1 eh17) rfl rfl ⟨z_le (z_fr hX) (by decide), z_le (z_lo hX) (by decide)⟩ ⟨Nat.zero_le _, Nat.zero_le _⟩ ?_
          refine zv_aload_n K 1 eX10_thing_77 rfl ?_
          refine zv_gA K eX10_thing_78 fl_X10_10 hf (fun v18 hf => ?_)
          refine zv_gI K eX10_thing_81 fl_X10_113 hf (fun v19 hf => ?_)
          refine zv_iconst K (1 : Int32) eX10_thing_84 (by decide) ?_
          refine zv_isub K eX10_thing_85 ?_
          have e9 := Option.some.inj hf; subst e9
          exact zv_iret K eX10_thing_86 hp
        · refine zv_bipush K (-3 : Int32) eX10_thing_64 (by decide) ?_
          have e9 := Option.some.inj hf; subst e9
          exact zv_iret K eX10_thing_66 hp
      · refine zv_bipush K (-2 : Int32) eX10_thing_49 (by decide) ?_
        have e9 := Option.some.inj hf; subst e9
        exact zv_iret K eX10_thing_51 hp
    · refine zv_iconst K (-1 : Int32) eX10_thing_15 (by decide) ?_
      have e9 := Option.some.inj hf; subst e9
      exact zv_iret K eX10_thing_16 hp
theorem c_X10_thing (l : Launch) (G : zG) {x0 : Option Nat} {x1 : Int32} {x2 : Int32} {x3 : Int32} {h : zH} {nx : Nat} {x : Int32 × zH} (hf : f_X10_thing x0 x1 x2 x3 h = some x) : z_Ct l G yX10_thing cX10_thing 5 (some .int) rm_X10_thing [tA x0, tI x1, tI x2, tI x3] h nx (some (tI x.1)) x.2 nx 0 0 :=
  z_enter [(0, tA x0), (1, tI x1), (2, tI x2), (3, tI x3)] (by decide +kernel) (Nat.le_of_ble_eq_true rfl) rfl (fun X hl hR hG hL K hq => by
    subst hl; subst hG
    exact v_X10_thing K ⟨hR, hL⟩ hf hq)
set_option maxHeartbeats 4000000 in
set_option maxRecDepth 100000 in
theorem v_X10_isArm {X : zX} (K : z_Ok X cX10_isArm (some .boolean) RX10 "isArm") (hX : z_Xo X rm_X10_isArm 2) {x0 : Option Nat} {x1 : Int32} {h : zH} {nx : Nat} {x : (Int32 × zH)} (hf : f_X10_isArm x0 x1 h = some x) (hp : z_P0I X nx x) : zV X 0 [(0, tA x0), (1, tI x1)] [] h nx 0 0 := by
  unfold f_X10_isArm at hf
  refine zv_iload_n K 1 eX10_isArm_0 rfl ?_
  refine zv_if_lt K 19 eX10_isArm_1 (by decide) hf (fun _ hf => ?_) (fun _ hf => ?_)
  · refine zv_iconst K (0 : Int32) eX10_isArm_19 (by decide) ?_
    cases hf
    exact zv_zret K eX10_isArm_20 (by decide) hp
  · refine zv_iload_n K 1 eX10_isArm_4 rfl ?_
    refine zv_aload_n K 0 eX10_isArm_5 rfl ?_
    refine zv_gA K eX10_isArm_6 fl_X10_10 hf (fun v1 hf => ?_)
    refine zv_gI K eX10_isArm_9 fl_X10_99 hf (fun v2 hf => ?_)
    refine zv_icmp_ge K 19 eX10_isArm_12 (by decide) hf (fun _ hf => ?_) (fun _ hf => ?_)
    · refine zv_iconst K (0 : Int32) eX10_isArm_19 (by decide) ?_
      cases hf
      exact zv_zret K eX10_isArm_20 (by decide) hp
    · refine zv_iconst K (1 : Int32) eX10_isArm_15 (by decide) ?_
      refine zv_goto K 20 eX10_isArm_16 (by decide) ?_
      cases hf
      exact zv_zret K eX10_isArm_20 (by decide) hp
theorem c_X10_isArm (l : Launch) (G : zG) {x0 : Option Nat} {x1 : Int32} {h : zH} {nx : Nat} {x : Int32 × zH} (hf : f_X10_isArm x0 x1 h = some x) : z_Ct l G yX10_isArm cX10_isArm 2 (some .boolean) rm_X10_isArm [tA x0, tI x1] h nx (some (tI x.1)) x.2 nx 0 0 :=
  z_enter [(0, tA x0), (1, tI x1)] (by decide +kernel) (Nat.le_of_ble_eq_true rfl) rfl (fun X hl hR hG hL K hq => by
    subst hl; subst hG
    exact v_X10_isArm K ⟨hR, hL⟩ hf hq)
set_option maxHeartbeats 4000000 in
set_option maxRecDepth 100000 in
theorem v_X10_isPiece {X : zX} (K : z_Ok X cX10_isPiece (some .boolean) RX10 "isPiece") (hX : z_Xo X rm_X10_isPiece 3) {x0 : Option Nat} {x1 : Int32} {x2 : Int32} {h : zH} {nx : Nat} {x : (Int32 × zH)} (hf : f_X10_isPiece x0 x1 x2 h = some x) (hp : z_P0I X nx x) : zV X 0 [(0, tA x0), (1, tI x1), (2, tI x2)] [] h nx 0 0 := by
  unfold f_X10_isPiece at hf
  refine zv_aload_n K 0 eX10_isPiece_0 rfl ?_
  refine zv_iload_n K 1 eX10_isPiece_1 rfl ?_
  obtain ⟨q1, hq1, hf⟩ := z_bind_inv hf
  obtain ⟨v3, h2, eh2, hf⟩ := z_b2_inv hf
  refine zv_cV0 K [tI x1] [] eX10_isPiece_2 lk_X10_172 md_X10_isArm im_X10_isArm sl_X10_isArm rfl rfl rfl rfl (Nat.le_of_ble_eq_true rfl) hq1 (c_X10_isArm X.1.2.1 X.2.2.1 eh2) rfl rfl ⟨z_le (z_fr hX) (by decide), z_le (z_lo hX) (by decide)⟩ ⟨Nat.zero_le _, Nat.zero_le _⟩ ?_
  refine zv_if_eq K 32 eX10_isPiece_5 (by decide) hf (fun _ hf => ?_) (fun _ hf => ?_)
  · refine zv_iconst K (0 : Int32) eX10_isPiece_32 (by decide) ?_
    cases hf
    exact zv_zret K eX10_isPiece_33 (by decide) hp
  · refine zv_iload_n K 2 eX10_isPiece_8 rfl ?_
    refine zv_if_lt K 32 eX10_isPiece_9 (by decide) hf (fun _ hf => ?_) (fun _ hf => ?_)
    · refine zv_iconst K (0 : Int32) eX10_isPiece_32 (by decide) ?_
      cases hf
      exact zv_zret K eX10_isPiece_33 (by decide) hp
    · refine zv_iload_n K 2 eX10_isPiece_12 rfl ?_
      refine zv_aload_n K 0 eX10_isPiece_13 rfl ?_
      refine zv_gA K eX10_isPiece_14 fl_X10_10 hf (fun v4 hf => ?_)
      refine zv_gA K eX10_isPiece_17 fl_X10_123 hf (fun v5 hf => ?_)
      refine zv_iload_n K 1 eX10_isPiece_20 rfl ?_
      refine zv_aA K eX10_isPiece_21 hf (fun v6 hf => ?_)
      refine zv_gI K eX10_isPiece_22 fl_X10_232 hf (fun v7 hf => ?_)
      refine zv_icmp_ge K 32 eX10_isPiece_25 (by decide) hf (fun _ hf => ?_) (fun _ hf => ?_)
      · refine zv_iconst K (0 : Int32) eX10_isPiece_32 (by decide) ?_
        cases hf
        exact zv_zret K eX10_isPiece_33 (by decide) hp
      · refine zv_iconst K (1 : Int32) eX10_isPiece_28 (by decide) ?_
        refine zv_goto K 33 eX10_isPiece_29 (by decide) ?_
        cases hf
        exact zv_zret K eX10_isPiece_33 (by decide) hp
theorem c_X10_isPiece (l : Launch) (G : zG) {x0 : Option Nat} {x1 : Int32} {x2 : Int32} {h : zH} {nx : Nat} {x : Int32 × zH} (hf : f_X10_isPiece x0 x1 x2 h = some x) : z_Ct l G yX10_isPiece cX10_isPiece 3 (some .boolean) rm_X10_isPiece [tA x0, tI x1, tI x2] h nx (some (tI x.1)) x.2 nx 0 0 :=
  z_enter [(0, tA x0), (1, tI x1), (2, tI x2)] (by decide +kernel) (Nat.le_of_ble_eq_true rfl) rfl (fun X hl hR hG hL K hq => by
    subst hl; subst hG
    exact v_X10_isPiece K ⟨hR, hL⟩ hf hq)
set_option maxHeartbeats 4000000 in
set_option maxRecDepth 100000 in
theorem v_X10_piece {X : zX} (K : z_Ok X cX10_piece (some .int) RX10 "piece") (hX : z_Xo X rm_X10_piece 5) {x0 : Option Nat} {x1 : Int32} {x2 : Int32} {x3 : Int32} {h : zH} {nx : Nat} {x : (Int32 × zH)} (hf : f_X10_piece x0 x1 x2 x3 h = some x) (hp : z_P0I X nx x) : zV X 0 [(0, tA x0), (1, tI x1), (2, tI x2), (3, tI x3)] [] h nx 0 0 := by
  unfold f_X10_piece at hf
  refine zv_aload_n K 0 eX10_piece_0 rfl ?_
  refine zv_iload_n K 1 eX10_piece_1 rfl ?_
  refine zv_iload_n K 2 eX10_piece_2 rfl ?_
  obtain ⟨q1, hq1, hf⟩ := z_bind_inv hf
  obtain ⟨v3, h2, eh2, hf⟩ := z_b2_inv hf
  refine zv_cV0 K [tI x1, tI x2] [] eX10_piece_3 lk_X10_120 md_X10_isPiece im_X10_isPiece sl_X10_isPiece rfl rfl rfl rfl (Nat.le_of_ble_eq_true rfl) hq1 (c_X10_isPiece X.1.2.1 X.2.2.1 eh2) rfl rfl ⟨z_le (z_fr hX) (by decide), z_le (z_lo hX) (by decide)⟩ ⟨Nat.zero_le _, Nat.zero_le _⟩ ?_
  refine zv_if_ne K 11 eX10_piece_6 (by decide) hf (fun _ hf => ?_) (fun _ hf => ?_)
  · refine zv_aload_n K 0 eX10_piece_11 rfl ?_
    refine zv_gA K eX10_piece_12 fl_X10_10 hf (fun v4 hf => ?_)
    refine zv_gA K eX10_piece_15 fl_X10_123 hf (fun v5 hf => ?_)
    refine zv_iload_n K 1 eX10_piece_18 rfl ?_
    refine zv_aA K eX10_piece_19 hf (fun v6 hf => ?_)
    refine zv_astore K [(4, tA v6), (0, tA x0), (1, tI x1), (2, tI x2), (3, tI x3)] eX10_piece_20 (z_lt hX.2 (by decide)) rfl ?_
    refine zv_iload_n K 4 eX10_piece_22 rfl ?_
    refine z_ite_inv _ hf (fun c0 hf => ?_) (fun c0 hf => ?_)
    · refine zv_tswIn K (off := 37) (0 : Int32) 60 eX10_piece_23 c0 (by decide) (by decide) (by rfl) (by decide) ?_
      refine zv_aload K 0 eX10_piece_60 rfl ?_
      refine zv_gA K eX10_piece_62 fl_X10_127 hf (fun v7 hf => ?_)
      refine zv_iload_n K 3 eX10_piece_65 rfl ?_
      refine zv_aI K eX10_piece_66 hf (fun v8 hf => ?_)
      have e9 := Option.some.inj hf; subst e9
      exact zv_iret K eX10_piece_67 hp
    refine z_ite_inv _ hf (fun c1 hf => ?_) (fun c1 hf => ?_)
    · refine zv_tswIn K (off := 45) (1 : Int32) 68 eX10_piece_23 c1 (by decide) (by decide) (by rfl) (by decide) ?_
      refine zv_aload K 0 eX10_piece_68 rfl ?_
      refine zv_gA K eX10_piece_70 fl_X10_132 hf (fun v9 hf => ?_)
      refine zv_iload_n K 3 eX10_piece_73 rfl ?_
      refine zv_aI K eX10_piece_74 hf (fun v10 hf => ?_)
      have e9 := Option.some.inj hf; subst e9
      exact zv_iret K eX10_piece_75 hp
    refine z_ite_inv _ hf (fun c2 hf => ?_) (fun c2 hf => ?_)
    · refine zv_tswIn K (off := 53) (2 : Int32) 76 eX10_piece_23 c2 (by decide) (by decide) (by rfl) (by decide) ?_
      refine zv_aload K 0 eX10_piece_76 rfl ?_
      refine zv_gA K eX10_piece_78 fl_X10_135 hf (fun v11 hf => ?_)
      refine zv_iload_n K 3 eX10_piece_81 rfl ?_
      refine zv_aI K eX10_piece_82 hf (fun v12 hf => ?_)
      have e9 := Option.some.inj hf; subst e9
      exact zv_iret K eX10_piece_83 hp
    refine z_ite_inv _ hf (fun c3 hf => ?_) (fun c3 hf => ?_)
    · refine zv_tswIn K (off := 61) (3 : Int32) 84 eX10_piece_23 c3 (by decide) (by decide) (by rfl) (by decide) ?_
      refine zv_aload K 0 eX10_piece_84 rfl ?_
      refine zv_gA K eX10_piece_86 fl_X10_138 hf (fun v13 hf => ?_)
      refine zv_iload_n K 3 eX10_piece_89 rfl ?_
      refine zv_aI K eX10_piece_90 hf (fun v14 hf => ?_)
      have e9 := Option.some.inj hf; subst e9
      exact zv_iret K eX10_piece_91 hp
    refine z_ite_inv _ hf (fun c4 hf => ?_) (fun c4 hf => ?_)
    · refine zv_tswIn K (off := 69) (4 : Int32) 92 eX10_piece_23 c4 (by decide) (by decide) (by rfl) (by decide) ?_
      refine zv_aload K 0 eX10_piece_92 rfl ?_
      refine zv_iload_n K 3 eX10_piece_94 rfl ?_
      obtain ⟨q15, hq15, hf⟩ := z_bind_inv hf
      obtain ⟨v17, h16, eh16, hf⟩ := z_b2_inv hf
      refine zv_cV0 K [tI x2] [] eX10_piece_95 lk_X10_141 md_X0_isCutOff im_X0_isCutOff sl_X0_isCutOff rfl rfl rfl rfl (Nat.le_of_ble_eq_true rfl) hq15 (c_X0_isCutOff X.1.2.1 X.2.2.1 eh16) rfl rfl ⟨z_le (z_fr hX) (by decide), z_le (z_lo hX) (by decide)⟩ ⟨Nat.zero_le _, Nat.zero_le _⟩ ?_
      refine zv_if_eq K 105 eX10_piece_98 (by decide) hf (fun _ hf => ?_) (fun _ hf => ?_)
      · refine zv_iconst K (0 : Int32) eX10_piece_105 (by decide) ?_
        have e9 := Option.some.inj hf; subst e9
        exact zv_iret K eX10_piece_106 hp
      · refine zv_iconst K (1 : Int32) eX10_piece_101 (by decide) ?_
        refine zv_goto K 106 eX10_piece_102 (by decide) ?_
        have e9 := Option.some.inj hf; subst e9
        exact zv_iret K eX10_piece_106 hp
    refine z_ite_inv _ hf (fun c5 hf => ?_) (fun c5 hf => ?_)
    · refine zv_tswIn K (off := 84) (5 : Int32) 107 eX10_piece_23 c5 (by decide) (by decide) (by rfl) (by decide) ?_
      refine zv_aload K 0 eX10_piece_107 rfl ?_
      refine zv_iload_n K 3 eX10_piece_109 rfl ?_
      obtain ⟨q18, hq18, hf⟩ := z_bind_inv hf
      obtain ⟨v20, h19, eh19, hf⟩ := z_b2_inv hf
      refine zv_cV0 K [tI x2] [] eX10_piece_110 lk_X10_144 md_X0_isTip im_X0_isTip sl_X0_isTip rfl rfl rfl rfl (Nat.le_of_ble_eq_true rfl) hq18 (c_X0_isTip X.1.2.1 X.2.2.1 eh19) rfl rfl ⟨z_le (z_fr hX) (by decide), z_le (z_lo hX) (by decide)⟩ ⟨Nat.zero_le _, Nat.zero_le _⟩ ?_
      refine zv_if_eq K 120 eX10_piece_113 (by decide) hf (fun _ hf => ?_) (fun _ hf => ?_)
      · refine zv_iconst K (0 : Int32) eX10_piece_120 (by decide) ?_
        have e9 := Option.some.inj hf; subst e9
        exact zv_iret K eX10_piece_121 hp
      · refine zv_iconst K (1 : Int32) eX10_piece_116 (by decide) ?_
        refine zv_goto K 121 eX10_piece_117 (by decide) ?_
        have e9 := Option.some.inj hf; subst e9
        exact zv_iret K eX10_piece_121 hp
    have ec0 := lv_neT (a := 0) c0 (by decide)
    have ec1 := lv_neT (a := 1) c1 (by decide)
    have ec2 := lv_neT (a := 2) c2 (by decide)
    have ec3 := lv_neT (a := 3) c3 (by decide)
    have ec4 := lv_neT (a := 4) c4 (by decide)
    have ec5 := lv_neT (a := 5) c5 (by decide)
    refine zv_tswOut K 122 eX10_piece_23 (by omega) (by decide) ?_
    refine zv_iconst K (-1 : Int32) eX10_piece_122 (by decide) ?_
    have e9 := Option.some.inj hf; subst e9
    exact zv_iret K eX10_piece_123 hp
  · refine zv_iconst K (-1 : Int32) eX10_piece_9 (by decide) ?_
    have e9 := Option.some.inj hf; subst e9
    exact zv_iret K eX10_piece_10 hp
theorem c_X10_piece (l : Launch) (G : zG) {x0 : Option Nat} {x1 : Int32} {x2 : Int32} {x3 : Int32} {h : zH} {nx : Nat} {x : Int32 × zH} (hf : f_X10_piece x0 x1 x2 x3 h = some x) : z_Ct l G yX10_piece cX10_piece 5 (some .int) rm_X10_piece [tA x0, tI x1, tI x2, tI x3] h nx (some (tI x.1)) x.2 nx 0 0 :=
  z_enter [(0, tA x0), (1, tI x1), (2, tI x2), (3, tI x3)] (by decide +kernel) (Nat.le_of_ble_eq_true rfl) rfl (fun X hl hR hG hL K hq => by
    subst hl; subst hG
    exact v_X10_piece K ⟨hR, hL⟩ hf hq)
set_option maxHeartbeats 4000000 in
set_option maxRecDepth 100000 in
theorem v_X10_isThing {X : zX} (K : z_Ok X cX10_isThing (some .boolean) RX10 "isThing") (hX : z_Xo X rm_X10_isThing 2) {x0 : Option Nat} {x1 : Int32} {h : zH} {nx : Nat} {x : (Int32 × zH)} (hf : f_X10_isThing x0 x1 h = some x) (hp : z_P0I X nx x) : zV X 0 [(0, tA x0), (1, tI x1)] [] h nx 0 0 := by
  unfold f_X10_isThing at hf
  refine zv_iload_n K 1 eX10_isThing_0 rfl ?_
  refine zv_if_lt K 19 eX10_isThing_1 (by decide) hf (fun _ hf => ?_) (fun _ hf => ?_)
  · refine zv_iconst K (0 : Int32) eX10_isThing_19 (by decide) ?_
    cases hf
    exact zv_zret K eX10_isThing_20 (by decide) hp
  · refine zv_iload_n K 1 eX10_isThing_4 rfl ?_
    refine zv_aload_n K 0 eX10_isThing_5 rfl ?_
    refine zv_gA K eX10_isThing_6 fl_X10_10 hf (fun v1 hf => ?_)
    refine zv_gI K eX10_isThing_9 fl_X10_113 hf (fun v2 hf => ?_)
    refine zv_icmp_ge K 19 eX10_isThing_12 (by decide) hf (fun _ hf => ?_) (fun _ hf => ?_)
    · refine zv_iconst K (0 : Int32) eX10_isThing_19 (by decide) ?_
      cases hf
      exact zv_zret K eX10_isThing_20 (by decide) hp
    · refine zv_iconst K (1 : Int32) eX10_isThing_15 (by decide) ?_
      refine zv_goto K 20 eX10_isThing_16 (by decide) ?_
      cases hf
      exact zv_zret K eX10_isThing_20 (by decide) hp
theorem c_X10_isThing (l : Launch) (G : zG) {x0 : Option Nat} {x1 : Int32} {h : zH} {nx : Nat} {x : Int32 × zH} (hf : f_X10_isThing x0 x1 h = some x) : z_Ct l G yX10_isThing cX10_isThing 2 (some .boolean) rm_X10_isThing [tA x0, tI x1] h nx (some (tI x.1)) x.2 nx 0 0 :=
  z_enter [(0, tA x0), (1, tI x1)] (by decide +kernel) (Nat.le_of_ble_eq_true rfl) rfl (fun X hl hR hG hL K hq => by
    subst hl; subst hG
    exact v_X10_isThing K ⟨hR, hL⟩ hf hq)
set_option maxHeartbeats 4000000 in
set_option maxRecDepth 100000 in
theorem v_X10_told {X : zX} (K : z_Ok X cX10_told (some .int) RX10 "told") (hX : z_Xo X rm_X10_told 4) {x0 : Option Nat} {x1 : Int32} {x2 : Int32} {h : zH} {nx : Nat} {x : (Int32 × zH)} (hf : f_X10_told x0 x1 x2 h = some x) (hp : z_P0I X nx x) : zV X 0 [(0, tA x0), (1, tI x1), (2, tI x2)] [] h nx 0 0 := by
  unfold f_X10_told at hf
  refine zv_aload_n K 0 eX10_told_0 rfl ?_
  refine zv_iload_n K 1 eX10_told_1 rfl ?_
  obtain ⟨q1, hq1, hf⟩ := z_bind_inv hf
  obtain ⟨v3, h2, eh2, hf⟩ := z_b2_inv hf
  refine zv_cV0 K [tI x1] [] eX10_told_2 lk_X10_147 md_X10_isThing im_X10_isThing sl_X10_isThing rfl rfl rfl rfl (Nat.le_of_ble_eq_true rfl) hq1 (c_X10_isThing X.1.2.1 X.2.2.1 eh2) rfl rfl ⟨z_le (z_fr hX) (by decide), z_le (z_lo hX) (by decide)⟩ ⟨Nat.zero_le _, Nat.zero_le _⟩ ?_
  refine zv_if_ne K 10 eX10_told_5 (by decide) hf (fun _ hf => ?_) (fun _ hf => ?_)
  · refine zv_aload_n K 0 eX10_told_10 rfl ?_
    refine zv_gA K eX10_told_11 fl_X10_10 hf (fun v4 hf => ?_)
    refine zv_gA K eX10_told_14 fl_X10_150 hf (fun v5 hf => ?_)
    refine zv_iload_n K 1 eX10_told_17 rfl ?_
    refine zv_aA K eX10_told_18 hf (fun v6 hf => ?_)
    refine zv_astore_n K [(3, tA v6), (0, tA x0), (1, tI x1), (2, tI x2)] eX10_told_19 (z_lt hX.2 (by decide)) rfl ?_
    refine zv_iload_n K 3 eX10_told_20 rfl ?_
    refine z_ite_inv _ hf (fun c0 hf => ?_) (fun c0 hf => ?_)
    · refine zv_tswIn K (off := 31) (0 : Int32) 52 eX10_told_21 c0 (by decide) (by decide) (by rfl) (by decide) ?_
      refine zv_aload_n K 0 eX10_told_52 rfl ?_
      refine zv_gI K eX10_told_53 fl_X10_154 hf (fun v7 hf => ?_)
      have e9 := Option.some.inj hf; subst e9
      exact zv_iret K eX10_told_56 hp
    refine z_ite_inv _ hf (fun c1 hf => ?_) (fun c1 hf => ?_)
    · refine zv_tswIn K (off := 36) (1 : Int32) 57 eX10_told_21 c1 (by decide) (by decide) (by rfl) (by decide) ?_
      refine zv_aload_n K 1 eX10_told_57 rfl ?_
      refine zv_gA K eX10_told_58 fl_X10_10 hf (fun v8 hf => ?_)
      refine zv_aload_n K 0 eX10_told_61 rfl ?_
      obtain ⟨q9, hq9, hf⟩ := z_bind_inv hf
      obtain ⟨v11, h10, eh10, hf⟩ := z_b2_inv hf
      refine zv_cV0 K [tA v6] [] eX10_told_62 lk_X10_159 md_X6_cellOfThing im_X6_cellOfThing sl_X6_cellOfThing rfl rfl rfl rfl (Nat.le_of_ble_eq_true rfl) hq9 (c_X6_cellOfThing X.1.2.1 X.2.2.1 eh10) rfl rfl ⟨z_le (z_fr hX) (by decide), z_le (z_lo hX) (by decide)⟩ ⟨Nat.zero_le _, Nat.zero_le _⟩ ?_
      have e9 := Option.some.inj hf; subst e9
      exact zv_iret K eX10_told_65 hp
    refine z_ite_inv _ hf (fun c2 hf => ?_) (fun c2 hf => ?_)
    · refine zv_tswIn K (off := 45) (2 : Int32) 66 eX10_told_21 c2 (by decide) (by decide) (by rfl) (by decide) ?_
      refine zv_aload_n K 0 eX10_told_66 rfl ?_
      refine zv_gI K eX10_told_67 fl_X10_163 hf (fun v12 hf => ?_)
      have e9 := Option.some.inj hf; subst e9
      exact zv_iret K eX10_told_70 hp
    refine z_ite_inv _ hf (fun c3 hf => ?_) (fun c3 hf => ?_)
    · refine zv_tswIn K (off := 50) (3 : Int32) 71 eX10_told_21 c3 (by decide) (by decide) (by rfl) (by decide) ?_
      refine zv_aload_n K 0 eX10_told_71 rfl ?_
      refine zv_gI K eX10_told_72 fl_X10_154 hf (fun v13 hf => ?_)
      refine zv_if_ne K 83 eX10_told_75 (by decide) hf (fun _ hf => ?_) (fun _ hf => ?_)
      · refine zv_bipush K (10 : Int32) eX10_told_83 (by decide) ?_
        refine zv_aload_n K 0 eX10_told_85 rfl ?_
        refine zv_gI K eX10_told_86 fl_X10_166 hf (fun v14 hf => ?_)
        refine zv_imul K eX10_told_89 ?_
        refine zv_aload_n K 0 eX10_told_90 rfl ?_
        refine zv_gI K eX10_told_91 fl_X10_169 hf (fun v15 hf => ?_)
        refine zv_iadd K eX10_told_94 ?_
        have e9 := Option.some.inj hf; subst e9
        exact zv_iret K eX10_told_95 hp
      · refine zv_bipush K (-4 : Int32) eX10_told_78 (by decide) ?_
        refine zv_goto K 95 eX10_told_80 (by decide) ?_
        have e9 := Option.some.inj hf; subst e9
        exact zv_iret K eX10_told_95 hp
    have ec0 := lv_neT (a := 0) c0 (by decide)
    have ec1 := lv_neT (a := 1) c1 (by decide)
    have ec2 := lv_neT (a := 2) c2 (by decide)
    have ec3 := lv_neT (a := 3) c3 (by decide)
    refine zv_tswOut K 96 eX10_told_21 (by omega) (by decide) ?_
    refine zv_iconst K (-1 : Int32) eX10_told_96 (by decide) ?_
    have e9 := Option.some.inj hf; subst e9
    exact zv_iret K eX10_told_97 hp
  · refine zv_iconst K (-1 : Int32) eX10_told_8 (by decide) ?_
    have e9 := Option.some.inj hf; subst e9
    exact zv_iret K eX10_told_9 hp
theorem c_X10_told (l : Launch) (G : zG) {x0 : Option Nat} {x1 : Int32} {x2 : Int32} {h : zH} {nx : Nat} {x : Int32 × zH} (hf : f_X10_told x0 x1 x2 h = some x) : z_Ct l G yX10_told cX10_told 4 (some .int) rm_X10_told [tA x0, tI x1, tI x2] h nx (some (tI x.1)) x.2 nx 0 0 :=
  z_enter [(0, tA x0), (1, tI x1), (2, tI x2)] (by decide +kernel) (Nat.le_of_ble_eq_true rfl) rfl (fun X hl hR hG hL K hq => by
    subst hl; subst hG
    exact v_X10_told K ⟨hR, hL⟩ hf hq)
set_option maxHeartbeats 4000000 in
set_option maxRecDepth 100000 in
theorem v_X10_form {X : zX} (K : z_Ok X cX10_form (some .int) RX10 "form") (hX : z_Xo X rm_X10_form 2) {x0 : Option Nat} {x1 : Int32} {h : zH} {nx : Nat} {x : (Int32 × zH)} (hf : f_X10_form x0 x1 h = some x) (hp : z_P0I X nx x) : zV X 0 [(0, tA x0), (1, tI x1)] [] h nx 0 0 := by
  unfold f_X10_form at hf
  refine zv_aload_n K 0 eX10_form_0 rfl ?_
  refine zv_iload_n K 1 eX10_form_1 rfl ?_
  obtain ⟨q1, hq1, hf⟩ := z_bind_inv hf
  obtain ⟨v3, h2, eh2, hf⟩ := z_b2_inv hf
  refine zv_cV0 K [tI x1] [] eX10_form_2 lk_X10_172 md_X10_isArm im_X10_isArm sl_X10_isArm rfl rfl rfl rfl (Nat.le_of_ble_eq_true rfl) hq1 (c_X10_isArm X.1.2.1 X.2.2.1 eh2) rfl rfl ⟨z_le (z_fr hX) (by decide), z_le (z_lo hX) (by decide)⟩ ⟨Nat.zero_le _, Nat.zero_le _⟩ ?_
  refine zv_if_ne K 10 eX10_form_5 (by decide) hf (fun _ hf => ?_) (fun _ hf => ?_)
  · refine zv_aload_n K 0 eX10_form_10 rfl ?_
    refine zv_gA K eX10_form_11 fl_X10_10 hf (fun v4 hf => ?_)
    refine zv_gA K eX10_form_14 fl_X10_123 hf (fun v5 hf => ?_)
    refine zv_iload_n K 1 eX10_form_17 rfl ?_
    refine zv_aA K eX10_form_18 hf (fun v6 hf => ?_)
    obtain ⟨q7, hq7, hf⟩ := z_bind_inv hf
    obtain ⟨v9, h8, eh8, hf⟩ := z_b2_inv hf
    refine zv_cV0 K [] [] eX10_form_19 lk_X10_175 md_X0_isCut im_X0_isCut sl_X0_isCut rfl rfl rfl rfl (Nat.le_of_ble_eq_true rfl) hq7 (c_X0_isCut X.1.2.1 X.2.2.1 eh8) rfl rfl ⟨z_le (z_fr hX) (by decide), z_le (z_lo hX) (by decide)⟩ ⟨Nat.zero_le _, Nat.zero_le _⟩ ?_
    refine zv_if_eq K 30 eX10_form_22 (by decide) hf (fun _ hf => ?_) (fun _ hf => ?_)
    · refine zv_aload_n K 0 eX10_form_30 rfl ?_
      refine zv_gA K eX10_form_31 fl_X10_10 hf (fun v10 hf => ?_)
      refine zv_gA K eX10_form_34 fl_X10_123 hf (fun v11 hf => ?_)
      refine zv_iload_n K 1 eX10_form_37 rfl ?_
      refine zv_aA K eX10_form_38 hf (fun v12 hf => ?_)
      obtain ⟨q13, hq13, hf⟩ := z_bind_inv hf
      obtain ⟨v15, h14, eh14, hf⟩ := z_b2_inv hf
      refine zv_cV0 K [] [] eX10_form_39 lk_X10_179 md_X0_formNow im_X0_formNow sl_X0_formNow rfl rfl rfl rfl (Nat.le_of_ble_eq_true rfl) hq13 (c_X0_formNow X.1.2.1 X.2.2.1 eh14) rfl rfl ⟨z_le (z_fr hX) (by decide), z_le (z_lo hX) (by decide)⟩ ⟨Nat.zero_le _, Nat.zero_le _⟩ ?_
      have e9 := Option.some.inj hf; subst e9
      exact zv_iret K eX10_form_42 hp
    · refine zv_bipush K (-2 : Int32) eX10_form_25 (by decide) ?_
      refine zv_goto K 42 eX10_form_27 (by decide) ?_
      have e9 := Option.some.inj hf; subst e9
      exact zv_iret K eX10_form_42 hp
  · refine zv_iconst K (-1 : Int32) eX10_form_8 (by decide) ?_
    have e9 := Option.some.inj hf; subst e9
    exact zv_iret K eX10_form_9 hp
theorem c_X10_form (l : Launch) (G : zG) {x0 : Option Nat} {x1 : Int32} {h : zH} {nx : Nat} {x : Int32 × zH} (hf : f_X10_form x0 x1 h = some x) : z_Ct l G yX10_form cX10_form 2 (some .int) rm_X10_form [tA x0, tI x1] h nx (some (tI x.1)) x.2 nx 0 0 :=
  z_enter [(0, tA x0), (1, tI x1)] (by decide +kernel) (Nat.le_of_ble_eq_true rfl) rfl (fun X hl hR hG hL K hq => by
    subst hl; subst hG
    exact v_X10_form K ⟨hR, hL⟩ hf hq)
set_option maxHeartbeats 4000000 in
set_option maxRecDepth 100000 in
theorem v_X10_flip {X : zX} (K : z_Ok X cX10_flip (some .int) RX10 "flip") (hX : z_Xo X rm_X10_flip 3) {x0 : Option Nat} {x1 : Int32} {x2 : Int32} {h : zH} {nx : Nat} {x : (Int32 × zH)} (hf : f_X10_flip X.2.2.1.2.2.1 x0 x1 x2 h = some x) (hp : z_P0I X nx x) : zV X 0 [(0, tA x0), (1, tI x1), (2, tI x2)] [] h nx 0 0 := by
  unfold f_X10_flip at hf
  refine zv_aload_n K 0 eX10_flip_0 rfl ?_
  refine zv_iload_n K 1 eX10_flip_1 rfl ?_
  refine zv_iload_n K 2 eX10_flip_2 rfl ?_
  obtain ⟨q1, hq1, hf⟩ := z_bind_inv hf
  obtain ⟨v3, h2, eh2, hf⟩ := z_b2_inv hf
  refine zv_cV0 K [tI x1, tI x2] [] eX10_flip_3 lk_X10_120 md_X10_isPiece im_X10_isPiece sl_X10_isPiece rfl rfl rfl rfl (Nat.le_of_ble_eq_true rfl) hq1 (c_X10_isPiece X.1.2.1 X.2.2.1 eh2) rfl rfl ⟨z_le (z_fr hX) (by decide), z_le (z_lo hX) (by decide)⟩ ⟨Nat.zero_le _, Nat.zero_le _⟩ ?_
  refine zv_if_eq K 25 eX10_flip_6 (by decide) hf (fun _ hf => ?_) (fun _ hf => ?_)
  · refine zv_iconst K (-1 : Int32) eX10_flip_25 (by decide) ?_
    have e9 := Option.some.inj hf; subst e9
    exact zv_iret K eX10_flip_26 hp
  · refine zv_aload_n K 0 eX10_flip_9 rfl ?_
    refine zv_gA K eX10_flip_10 fl_X10_10 hf (fun v4 hf => ?_)
    refine zv_gA K eX10_flip_13 fl_X10_123 hf (fun v5 hf => ?_)
    refine zv_iload_n K 1 eX10_flip_16 rfl ?_
    refine zv_aA K eX10_flip_17 hf (fun v6 hf => ?_)
    refine zv_iload_n K 2 eX10_flip_18 rfl ?_
    obtain ⟨q7, hq7, hf⟩ := z_bind_inv hf
    obtain ⟨v9, h8, eh8, hf⟩ := z_b2_inv hf
    refine zv_cV0 K [tI x2] [] eX10_flip_19 lk_X10_183 md_X0_canEverMove im_X0_canEverMove sl_X0_canEverMove rfl rfl rfl rfl (Nat.le_of_ble_eq_true rfl) hq7 (c_X0_canEverMove X.1.2.1 X.2.2.1 eh8) rfl rfl ⟨z_le (z_fr hX) (by decide), z_le (z_lo hX) (by decide)⟩ ⟨Nat.zero_le _, Nat.zero_le _⟩ ?_
    refine zv_if_ne K 27 eX10_flip_22 (by decide) hf (fun _ hf => ?_) (fun _ hf => ?_)
    · refine zv_aload_n K 0 eX10_flip_27 rfl ?_
      refine zv_gA K eX10_flip_28 fl_X10_10 hf (fun v10 hf => ?_)
      refine zv_aload_n K 0 eX10_flip_31 rfl ?_
      refine zv_gA K eX10_flip_32 fl_X10_10 hf (fun v11 hf => ?_)
      refine zv_gA K eX10_flip_35 fl_X10_123 hf (fun v12 hf => ?_)
      refine zv_iload_n K 1 eX10_flip_38 rfl ?_
      refine zv_aA K eX10_flip_39 hf (fun v13 hf => ?_)
      refine zv_iload_n K 2 eX10_flip_40 rfl ?_
      obtain ⟨q14, hq14, hf⟩ := z_bind_inv hf
      obtain ⟨v16, h15, eh15, hf⟩ := z_b2_inv hf
      refine zv_cV0 K [tA v13, tI x2] [] eX10_flip_41 lk_X10_186 md_X6_move im_X6_move sl_X6_move rfl rfl rfl rfl (Nat.le_of_ble_eq_true rfl) hq14 (c_X6_move X.1.2.1 X.2.2.1 eh15) rfl rfl ⟨z_le (z_fr hX) (by decide), z_le (z_lo hX) (by decide)⟩ ⟨Nat.zero_le _, Nat.zero_le _⟩ ?_
      refine zv_if_eq K 64 eX10_flip_44 (by decide) hf (fun _ hf => ?_) (fun _ hf => ?_)
      · refine zv_bipush K (-2 : Int32) eX10_flip_64 (by decide) ?_
        have e9 := Option.some.inj hf; subst e9
        exact zv_iret K eX10_flip_66 hp
      · refine zv_aload_n K 0 eX10_flip_47 rfl ?_
        refine zv_gA K eX10_flip_48 fl_X10_10 hf (fun v17 hf => ?_)
        refine zv_gA K eX10_flip_51 fl_X10_123 hf (fun v18 hf => ?_)
        refine zv_iload_n K 1 eX10_flip_54 rfl ?_
        refine zv_aA K eX10_flip_55 hf (fun v19 hf => ?_)
        refine zv_gA K eX10_flip_56 fl_X10_127 hf (fun v20 hf => ?_)
        refine zv_iload_n K 2 eX10_flip_59 rfl ?_
        refine zv_aI K eX10_flip_60 hf (fun v21 hf => ?_)
        refine zv_goto K 66 eX10_flip_61 (by decide) ?_
        have e9 := Option.some.inj hf; subst e9
        exact zv_iret K eX10_flip_66 hp
    · refine zv_iconst K (-1 : Int32) eX10_flip_25 (by decide) ?_
      have e9 := Option.some.inj hf; subst e9
      exact zv_iret K eX10_flip_26 hp
theorem c_X10_flip (l : Launch) (G : zG) {x0 : Option Nat} {x1 : Int32} {x2 : Int32} {h : zH} {nx : Nat} {x : Int32 × zH} (hf : f_X10_flip G.2.2.1 x0 x1 x2 h = some x) : z_Ct l G yX10_flip cX10_flip 3 (some .int) rm_X10_flip [tA x0, tI x1, tI x2] h nx (some (tI x.1)) x.2 nx 0 0 :=
  z_enter [(0, tA x0), (1, tI x1), (2, tI x2)] (by decide +kernel) (Nat.le_of_ble_eq_true rfl) rfl (fun X hl hR hG hL K hq => by
    subst hl; subst hG
    exact v_X10_flip K ⟨hR, hL⟩ hf hq)
set_option maxHeartbeats 4000000 in
set_option maxRecDepth 100000 in
theorem v_X10_byteOf {X : zX} (K : z_Ok X cX10_byteOf (some .int) RX10 "byteOf") (hX : z_Xo X rm_X10_byteOf 3) {x0 : Int64} {x2 : Int32} {h : zH} {nx : Nat} {x : (Int32 × zH)} (hf : f_X10_byteOf x0 x2 h = some x) (hp : z_P0I X nx x) : zV X 0 [(0, tJ x0), (2, tI x2)] [] h nx 0 0 := by
  unfold f_X10_byteOf at hf
  refine zv_lload_n K 0 eX10_byteOf_0 rfl ?_
  refine zv_bipush K (8 : Int32) eX10_byteOf_1 (by decide) ?_
  refine zv_iload_n K 1 eX10_byteOf_3 rfl ?_
  refine zv_imul K eX10_byteOf_4 ?_
  refine zv_lushr K eX10_byteOf_5 ?_
  refine zv_l2i K eX10_byteOf_6 ?_
  refine zv_sipush K (255 : Int32) eX10_byteOf_7 (by decide) ?_
  refine zv_iand K eX10_byteOf_10 ?_
  have e9 := Option.some.inj hf; subst e9
  exact zv_iret K eX10_byteOf_11 hp
theorem c_X10_byteOf (l : Launch) (G : zG) {x0 : Int64} {x2 : Int32} {h : zH} {nx : Nat} {x : Int32 × zH} (hf : f_X10_byteOf x0 x2 h = some x) : z_Ct l G yX10_byteOf cX10_byteOf 3 (some .int) rm_X10_byteOf [tJ x0, tI x2] h nx (some (tI x.1)) x.2 nx 0 0 :=
  z_enter [(0, tJ x0), (2, tI x2)] (by decide +kernel) (Nat.le_of_ble_eq_true rfl) rfl (fun X hl hR hG hL K hq => by
    subst hl; subst hG
    exact v_X10_byteOf K ⟨hR, hL⟩ hf hq)
def P_X10_type_71 (X : zX) (nx : Nat) : ((Option Nat) × Int64 × Int32 × zH) ⊕ (Int32 × zH) → Prop := z_PL (fun s => zV X 71 [(0, tA s.1), (1, tJ s.2.1), (4, tI s.2.2.1)] [] s.2.2.2 nx 0 0) (z_P0I X nx)
def P_X10_type_16 (X : zX) (nx : Nat) : ((Option Nat) × Int64 × Int32 × Int32 × zH) ⊕ (Int32 × zH) → Prop := z_PL (fun s => zV X 16 [(0, tA s.1), (1, tJ s.2.1), (3, tI s.2.2.1), (4, tI s.2.2.2.1)] [] s.2.2.2.2 nx 0 0) (z_P0I X nx)
set_option maxHeartbeats 4000000 in
set_option maxRecDepth 100000 in
theorem v_X10_type_c71 {X : zX} (K : z_Ok X cX10_type (some .int) RX10 "type") (hX : z_Xo X rm_X10_type 6) {x0 : Option Nat} {x1 : Int64} {x4 : Int32} {h : zH} {nx : Nat} {x : (((Option Nat) × Int64 × Int32 × zH) ⊕ (Int32 × zH))} (hf : f_X10_type_c71 x0 x1 x4 h = some x) (hp : P_X10_type_71 X nx x) : zV X 71 [(0, tA x0), (1, tJ x1), (4, tI x4)] [] h nx 0 0 := by
  unfold f_X10_type_c71 at hf
  refine zv_iload K 2 eX10_type_71 rfl ?_
  refine zv_if_lt K 108 eX10_type_73 (by decide) hf (fun _ hf => ?_) (fun _ hf => ?_)
  · obtain ⟨w9, hf9, e9⟩ := z_i1_inv hf; clear hf; subst e9; have hf := hf9; clear hf9
    refine zv_aload_n K 0 eX10_type_108 rfl ?_
    refine zv_gI K eX10_type_109 fl_X10_194 hf (fun v1 hf => ?_)
    have e9 := Option.some.inj hf; subst e9
    exact zv_iret K eX10_type_112 hp
  · refine zv_aload_n K 0 eX10_type_76 rfl ?_
    refine zv_gA K eX10_type_77 fl_X10_26 hf (fun v2 hf => ?_)
    refine zv_aload_n K 0 eX10_type_80 rfl ?_
    refine zv_gI K eX10_type_81 fl_X10_194 hf (fun v3 hf => ?_)
    refine zv_lload_n K 1 eX10_type_84 rfl ?_
    refine zv_iload K 2 eX10_type_85 rfl ?_
    obtain ⟨v5, h4, eh4, hf⟩ := z_b2_inv hf
    refine zv_cS0 K [tJ x1, tI x4] [tI v3, tA v2] eX10_type_87 lk_X10_190 md_X10_byteOf st_X10_byteOf rfl rfl (Nat.le_of_ble_eq_true rfl) (c_X10_byteOf X.1.2.1 X.2.2.1 eh4) rfl rfl ⟨z_le (z_fr hX) (by decide), z_le (z_lo hX) (by decide)⟩ ⟨Nat.zero_le _, Nat.zero_le _⟩ ?_
    refine zv_i2b K eX10_type_90 ?_
    refine zv_sB K eX10_type_91 hf (fun h6 hf => ?_)
    refine zv_aload_n K 0 eX10_type_92 rfl ?_
    refine zv_dup K eX10_type_93 rfl ?_
    refine zv_gI K eX10_type_94 fl_X10_194 hf (fun v7 hf => ?_)
    refine zv_iconst K (1 : Int32) eX10_type_97 (by decide) ?_
    refine zv_iadd K eX10_type_98 ?_
    refine zv_pI K eX10_type_99 fl_X10_194 ff_10_4 rfl hf (fun h8 hf => ?_)
    refine zv_iinc K (x4 + (-1 : Int32)) 2 [(4, tI (x4 + (-1 : Int32))), (0, tA x0), (1, tJ x1)] eX10_type_102 rfl rfl (z_lt hX.2 (by decide)) rfl ?_
    refine zv_goto K 71 eX10_type_105 (by decide) ?_
    cases hf
    exact zv_sub [1, 2, 0] rfl (show zV X 71 [(0, tA x0), (1, tJ x1), (4, tI (x4 + (-1 : Int32)))] [] h8 nx 0 0 from hp)
theorem v_X10_type_b71 {X : zX} (K : z_Ok X cX10_type (some .int) RX10 "type") (hX : z_Xo X rm_X10_type 6) {x0 : Option Nat} {x1 : Int64} {x4 : Int32} {h : zH} {nx : Nat} {x : (Int32 × zH)} (hf : f_X10_type_b71 x0 x1 x4 h = some x) (hp : z_P0I X nx x) : zV X 71 [(0, tA x0), (1, tJ x1), (4, tI x4)] [] h nx 0 0 :=
  z_it_ind (P := fun s : (Option Nat) × Int64 × Int32 × zH => zV X 71 [(0, tA s.1), (1, tJ s.2.1), (4, tI s.2.2.1)] [] s.2.2.2 nx 0 0) (fun s y hb hy => v_X10_type_c71 K hX hb (z_PL_of hy hp)) hf
set_option maxHeartbeats 4000000 in
set_option maxRecDepth 100000 in
theorem v_X10_type_c16 {X : zX} (K : z_Ok X cX10_type (some .int) RX10 "type") (hX : z_Xo X rm_X10_type 6) {x0 : Option Nat} {x1 : Int64} {x3 : Int32} {x4 : Int32} {h : zH} {nx : Nat} {x : (((Option Nat) × Int64 × Int32 × Int32 × zH) ⊕ (Int32 × zH))} (hf : f_X10_type_c16 x0 x1 x3 x4 h = some x) (hp : P_X10_type_16 X nx x) : zV X 16 [(0, tA x0), (1, tJ x1), (3, tI x3), (4, tI x4)] [] h nx 0 0 := by
  unfold f_X10_type_c16 at hf
  refine zv_iload K 3 eX10_type_16 rfl ?_
  refine zv_iload_n K 2 eX10_type_18 rfl ?_
  refine zv_icmp_ge K 52 eX10_type_19 (by decide) hf (fun _ hf => ?_) (fun _ hf => ?_)
  · obtain ⟨w9, hf9, e9⟩ := z_i1_inv hf; clear hf; subst e9; have hf := hf9; clear hf9
    refine zv_aload_n K 0 eX10_type_52 rfl ?_
    refine zv_gI K eX10_type_53 fl_X10_194 hf (fun v1 hf => ?_)
    refine zv_iload_n K 2 eX10_type_56 rfl ?_
    refine zv_iadd K eX10_type_57 ?_
    refine zv_bipush K (100 : Int32) eX10_type_58 (by decide) ?_
    refine zv_icmp_le K 66 eX10_type_60 (by decide) hf (fun _ hf => ?_) (fun _ hf => ?_)
    · refine zv_iload_n K 2 eX10_type_66 rfl ?_
      refine zv_iconst K (1 : Int32) eX10_type_67 (by decide) ?_
      refine zv_isub K eX10_type_68 ?_
      refine zv_istore K [(4, tI (x3 - (1 : Int32))), (0, tA x0), (1, tJ x1), (3, tI x3)] eX10_type_69 (z_lt hX.2 (by decide)) rfl ?_
      exact zv_sub [1, 2, 0] rfl (v_X10_type_b71 K hX hf hp)
    · refine zv_bipush K (-3 : Int32) eX10_type_63 (by decide) ?_
      have e9 := Option.some.inj hf; subst e9
      exact zv_iret K eX10_type_65 hp
  · refine zv_lload_n K 1 eX10_type_22 rfl ?_
    refine zv_iload K 3 eX10_type_23 rfl ?_
    obtain ⟨v3, h2, eh2, hf⟩ := z_b2_inv hf
    refine zv_cS0 K [tJ x1, tI x4] [] eX10_type_25 lk_X10_190 md_X10_byteOf st_X10_byteOf rfl rfl (Nat.le_of_ble_eq_true rfl) (c_X10_byteOf X.1.2.1 X.2.2.1 eh2) rfl rfl ⟨z_le (z_fr hX) (by decide), z_le (z_lo hX) (by decide)⟩ ⟨Nat.zero_le _, Nat.zero_le _⟩ ?_
    refine zv_istore K [(5, tI v3), (0, tA x0), (1, tJ x1), (3, tI x3), (4, tI x4)] eX10_type_28 (z_lt hX.2 (by decide)) rfl ?_
    refine zv_iload K 0 eX10_type_30 rfl ?_
    refine zv_bipush K (32 : Int32) eX10_type_32 (by decide) ?_
    refine zv_icmp_lt K 44 eX10_type_34 (by decide) hf (fun _ hf => ?_) (fun _ hf => ?_)
    · obtain ⟨w9, hf9, e9⟩ := z_i1_inv hf; clear hf; subst e9; have hf := hf9; clear hf9
      refine zv_iconst K (-1 : Int32) eX10_type_44 (by decide) ?_
      have e9 := Option.some.inj hf; subst e9
      exact zv_iret K eX10_type_45 hp
    · refine zv_iload K 0 eX10_type_37 rfl ?_
      refine zv_bipush K (126 : Int32) eX10_type_39 (by decide) ?_
      refine zv_icmp_le K 46 eX10_type_41 (by decide) hf (fun _ hf => ?_) (fun _ hf => ?_)
      · refine zv_iinc K (x4 + (1 : Int32)) 4 [(4, tI (x4 + (1 : Int32))), (5, tI v3), (0, tA x0), (1, tJ x1), (3, tI x3)] eX10_type_46 rfl rfl (z_lt hX.2 (by decide)) rfl ?_
        refine zv_goto K 16 eX10_type_49 (by decide) ?_
        cases hf
        exact zv_sub [2, 3, 4, 0] rfl (show zV X 16 [(0, tA x0), (1, tJ x1), (3, tI x3), (4, tI (x4 + (1 : Int32)))] [] h2 nx 0 0 from hp)
      · obtain ⟨w9, hf9, e9⟩ := z_i1_inv hf; clear hf; subst e9; have hf := hf9; clear hf9
        refine zv_iconst K (-1 : Int32) eX10_type_44 (by decide) ?_
        have e9 := Option.some.inj hf; subst e9
        exact zv_iret K eX10_type_45 hp
theorem v_X10_type_b16 {X : zX} (K : z_Ok X cX10_type (some .int) RX10 "type") (hX : z_Xo X rm_X10_type 6) {x0 : Option Nat} {x1 : Int64} {x3 : Int32} {x4 : Int32} {h : zH} {nx : Nat} {x : (Int32 × zH)} (hf : f_X10_type_b16 x0 x1 x3 x4 h = some x) (hp : z_P0I X nx x) : zV X 16 [(0, tA x0), (1, tJ x1), (3, tI x3), (4, tI x4)] [] h nx 0 0 :=
  z_it_ind (P := fun s : (Option Nat) × Int64 × Int32 × Int32 × zH => zV X 16 [(0, tA s.1), (1, tJ s.2.1), (3, tI s.2.2.1), (4, tI s.2.2.2.1)] [] s.2.2.2.2 nx 0 0) (fun s y hb hy => v_X10_type_c16 K hX hb (z_PL_of hy hp)) hf
set_option maxHeartbeats 4000000 in
set_option maxRecDepth 100000 in
theorem v_X10_type {X : zX} (K : z_Ok X cX10_type (some .int) RX10 "type") (hX : z_Xo X rm_X10_type 6) {x0 : Option Nat} {x1 : Int64} {x3 : Int32} {h : zH} {nx : Nat} {x : (Int32 × zH)} (hf : f_X10_type x0 x1 x3 h = some x) (hp : z_P0I X nx x) : zV X 0 [(0, tA x0), (1, tJ x1), (3, tI x3)] [] h nx 0 0 := by
  unfold f_X10_type at hf
  refine zv_iload_n K 2 eX10_type_0 rfl ?_
  refine zv_iconst K (1 : Int32) eX10_type_1 (by decide) ?_
  refine zv_icmp_lt K 11 eX10_type_2 (by decide) hf (fun _ hf => ?_) (fun _ hf => ?_)
  · refine zv_iconst K (-1 : Int32) eX10_type_11 (by decide) ?_
    have e9 := Option.some.inj hf; subst e9
    exact zv_iret K eX10_type_12 hp
  · refine zv_iload_n K 2 eX10_type_5 rfl ?_
    refine zv_bipush K (8 : Int32) eX10_type_6 (by decide) ?_
    refine zv_icmp_le K 13 eX10_type_8 (by decide) hf (fun _ hf => ?_) (fun _ hf => ?_)
    · refine zv_iconst K (0 : Int32) eX10_type_13 (by decide) ?_
      refine zv_istore K [(4, tI (0 : Int32)), (0, tA x0), (1, tJ x1), (3, tI x3)] eX10_type_14 (z_lt hX.2 (by decide)) rfl ?_
      exact zv_sub [1, 2, 3, 0] rfl (v_X10_type_b16 K hX hf hp)
    · refine zv_iconst K (-1 : Int32) eX10_type_11 (by decide) ?_
      have e9 := Option.some.inj hf; subst e9
      exact zv_iret K eX10_type_12 hp
theorem c_X10_type (l : Launch) (G : zG) {x0 : Option Nat} {x1 : Int64} {x3 : Int32} {h : zH} {nx : Nat} {x : Int32 × zH} (hf : f_X10_type x0 x1 x3 h = some x) : z_Ct l G yX10_type cX10_type 6 (some .int) rm_X10_type [tA x0, tJ x1, tI x3] h nx (some (tI x.1)) x.2 nx 0 0 :=
  z_enter [(0, tA x0), (1, tJ x1), (3, tI x3)] (by decide +kernel) (Nat.le_of_ble_eq_true rfl) rfl (fun X hl hR hG hL K hq => by
    subst hl; subst hG
    exact v_X10_type K ⟨hR, hL⟩ hf hq)
theorem m_X10_rules_b25  {x0 : Option Nat} {x1 : Int32} {s0 : Option Nat} {h : zH} {nx z : Nat} {x : ((Nat × Nat) × (Int32 × zH))} (hf : f_X10_rules_b25 x0 x1 s0 h nx z = some x) : nx ≤ x.1.1 ∧ z ≤ x.1.2 := by
  unfold f_X10_rules_b25 at hf
  obtain ⟨_, _, hf⟩ := z_bind_inv hf
  refine z_ite_inv _ hf (fun _ hf => ?_) (fun _ hf => ?_)
  · obtain ⟨_, _, hf⟩ := z_bind_inv hf
    obtain ⟨_, _, hf⟩ := z_bind_inv hf
    cases hf
    exact ⟨by (try dsimp only at *); omega, by (try dsimp only at *); omega⟩
  · obtain ⟨_, _, hf⟩ := z_bind_inv hf
    obtain ⟨_, _, hf⟩ := z_bind_inv hf
    obtain ⟨_, _, hf⟩ := z_bind_inv hf
    obtain ⟨_, _, hf⟩ := z_bind_inv hf
    obtain ⟨_, _, hf⟩ := z_bind_inv hf
    cases hf
    exact ⟨by (try dsimp only at *); omega, by (try dsimp only at *); omega⟩
set_option maxHeartbeats 4000000 in
set_option maxRecDepth 100000 in
theorem v_X10_rules_b25 {X : zX} {cc0 ss0 nx0 z0 : Nat} (K : z_Ok X cX10_rules (some .int) RX10 "rules") (hX : z_Xo X (rm_X10_rules cc0 ss0) 3) {x0 : Option Nat} {x1 : Int32} {s0 : Option Nat} {h : zH} {nx z : Nat} (hm : nx0 ≤ nx ∧ z0 ≤ z) {x : ((Nat × Nat) × (Int32 × zH))} (hf : f_X10_rules_b25 x0 x1 s0 h nx z = some x) (hp : z_Pm X nx0 z0 (z_P0Im X nx0 z0) x) : zV X 25 [(0, tA x0), (1, tI x1)] [tA s0] h nx (nx - nx0) (z - z0) := by
  have mB := m_X10_rules_b25 hf
  unfold f_X10_rules_b25 at hf
  refine zv_astore_n K [(2, tA s0), (0, tA x0), (1, tI x1)] eX10_rules_25 (z_lt hX.2 (by decide)) rfl ?_
  refine zv_aload_n K 1 eX10_rules_26 rfl ?_
  refine zv_iconst K (0 : Int32) eX10_rules_27 (by decide) ?_
  refine zv_pI K eX10_rules_28 fl_X10_194 ff_10_4 rfl hf (fun h1 hf => ?_)
  refine zv_aload_n K 0 eX10_rules_31 rfl ?_
  refine zv_ifnonnull K 46 eX10_rules_32 (by decide) hf (fun _ hf => ?_) (fun _ hf => ?_)
  · refine zv_aload_n K 1 eX10_rules_46 rfl ?_
    refine zv_gA K eX10_rules_47 fl_X10_10 hf (fun v2 hf => ?_)
    refine zv_gA K eX10_rules_50 fl_X10_123 hf (fun v3 hf => ?_)
    refine zv_iload_n K 2 eX10_rules_53 rfl ?_
    refine zv_aA K eX10_rules_54 hf (fun v4 hf => ?_)
    refine zv_aload_n K 0 eX10_rules_55 rfl ?_
    refine zv_pA K eX10_rules_56 fl_X10_204 ff_0_3 (Or.inl ⟨_, rfl⟩) hf (fun h5 hf => ?_)
    refine zv_aload_n K 0 eX10_rules_59 rfl ?_
    refine zv_gI K eX10_rules_60 fl_X10_208 hf (fun v6 hf => ?_)
    have e9 := Option.some.inj hf; subst e9
    exact zv_iret K eX10_rules_63 hp.2
  · refine zv_bipush K (-20 : Int32) eX10_rules_35 (by decide) ?_
    refine zv_aload_n K 1 eX10_rules_37 rfl ?_
    refine zv_gA K eX10_rules_38 fl_X10_33 hf (fun v7 hf => ?_)
    refine zv_gI K eX10_rules_41 fl_X10_201 hf (fun v8 hf => ?_)
    refine zv_isub K eX10_rules_44 ?_
    have e9 := Option.some.inj hf; subst e9
    exact zv_iret K eX10_rules_45 hp.2
theorem m_X10_rules  {x0 : Option Nat} {x1 : Int32} {h : zH} {nx z : Nat} {x : ((Nat × Nat) × (Int32 × zH))} (hf : f_X10_rules x0 x1 h nx z = some x) : nx ≤ x.1.1 ∧ z ≤ x.1.2 := by
  unfold f_X10_rules at hf
  obtain ⟨_, _, hf⟩ := z_bind_inv hf
  obtain ⟨_, _, _, hf⟩ := z_b2_inv hf
  refine z_ite_inv _ hf (fun _ hf => ?_) (fun _ hf => ?_)
  · cases hf
    exact ⟨by (try dsimp only at *); omega, by (try dsimp only at *); omega⟩
  · obtain ⟨_, _, hf⟩ := z_bind_inv hf
    obtain ⟨_, _, hf⟩ := z_bind_inv hf
    obtain ⟨_, _, hf⟩ := z_bind_inv hf
    obtain ⟨_, _, hf⟩ := z_bind_inv hf
    obtain ⟨n10, eh8, hf⟩ := z_bind_inv hf
    have mn10 := m_X4_read eh8
    have m9 := m_X10_rules_b25 hf
    exact ⟨by (try dsimp only at *); omega, by (try dsimp only at *); omega⟩
set_option maxHeartbeats 4000000 in
set_option maxRecDepth 100000 in
theorem v_X10_rules {X : zX} {cc0 ss0 nx0 z0 : Nat} (K : z_Ok X cX10_rules (some .int) RX10 "rules") (hX : z_Xo X (rm_X10_rules cc0 ss0) 3) {x0 : Option Nat} {x1 : Int32} {h : zH} {nx z : Nat} (hm : nx0 ≤ nx ∧ z0 ≤ z) {x : ((Nat × Nat) × (Int32 × zH))} (hf : f_X10_rules x0 x1 h nx z = some x) (hp : z_Pm X nx0 z0 (z_P0Im X nx0 z0) x) : zV X 0 [(0, tA x0), (1, tI x1)] [] h nx (nx - nx0) (z - z0) := by
  have mB := m_X10_rules hf
  unfold f_X10_rules at hf
  refine zv_aload_n K 0 eX10_rules_0 rfl ?_
  refine zv_iload_n K 1 eX10_rules_1 rfl ?_
  obtain ⟨q1, hq1, hf⟩ := z_bind_inv hf
  obtain ⟨v3, h2, eh2, hf⟩ := z_b2_inv hf
  refine zv_cV0 K [tI x1] [] eX10_rules_2 lk_X10_172 md_X10_isArm im_X10_isArm sl_X10_isArm rfl rfl rfl rfl (Nat.le_of_ble_eq_true rfl) hq1 (c_X10_isArm X.1.2.1 X.2.2.1 eh2) rfl rfl ⟨z_le (z_fr hX) (by exact Nat.le_of_ble_eq_true rfl), z_le (z_lo hX) (by exact Nat.le_of_ble_eq_true rfl)⟩ (z_bd hp mB) ?_
  refine zv_if_ne K 10 eX10_rules_5 (by decide) hf (fun _ hf => ?_) (fun _ hf => ?_)
  · refine zv_aload_n K 0 eX10_rules_10 rfl ?_
    refine zv_gA K eX10_rules_11 fl_X10_33 hf (fun v4 hf => ?_)
    refine zv_aload_n K 0 eX10_rules_14 rfl ?_
    refine zv_gA K eX10_rules_15 fl_X10_26 hf (fun v5 hf => ?_)
    refine zv_aload_n K 0 eX10_rules_18 rfl ?_
    refine zv_gI K eX10_rules_19 fl_X10_194 hf (fun v6 hf => ?_)
    obtain ⟨q7, hq7, hf⟩ := z_bind_inv hf
    obtain ⟨n10, eh8, hf⟩ := z_bind_inv hf
    have mn10 := m_X4_read eh8
    have m9 := m_X10_rules_b25 hf
    refine zv_cV1 K [tA v5, tI v6] [] (n10.1.1 - nx0) (n10.1.2 - z0) eX10_rules_22 lk_X10_197 md_X4_read im_X4_read sl_X4_read rfl rfl rfl rfl (Nat.le_of_ble_eq_true rfl) hq7 (c_X4_read X.1.2.1 X.2.2.1 eh8) rfl rfl ⟨z_le (z_fr hX) (by exact Nat.le_of_ble_eq_true rfl), z_le (z_lo hX) (by exact Nat.le_of_ble_eq_true rfl)⟩ (by omega) (by omega) (by omega) (z_bd hp m9) ?_
    exact zv_sub [0, 1] rfl (v_X10_rules_b25 K hX (by omega) hf hp)
  · refine zv_iconst K (-1 : Int32) eX10_rules_8 (by decide) ?_
    have e9 := Option.some.inj hf; subst e9
    exact zv_iret K eX10_rules_9 hp.2
theorem c_X10_rules (l : Launch) (G : zG) {x0 : Option Nat} {x1 : Int32} {h : zH} {nx z : Nat} {x : (Nat × Nat) × (Int32 × zH)} (hf : f_X10_rules x0 x1 h nx z = some x) : z_Ct l G yX10_rules cX10_rules 3 (some .int) (rm_X10_rules (x.1.1 - nx) (x.1.2 - z)) [tA x0, tI x1] h nx (some (tI x.2.1)) x.2.2 x.1.1 (x.1.1 - nx) (x.1.2 - z) :=
  z_enter [(0, tA x0), (1, tI x1)] (by decide +kernel) (Nat.le_of_ble_eq_true rfl) rfl (fun X hl hR hG hL K hq => by
    subst hl; subst hG
    have mm := m_X10_rules hf
    have := v_X10_rules K ⟨hR, hL⟩ (nx0 := nx) (z0 := z) ⟨Nat.le_refl _, Nat.le_refl _⟩ hf ⟨by rw [hR]; (try dsimp only [rm_X10_rules]); omega, hq⟩
    rw [Nat.sub_self, Nat.sub_self] at this
    exact this)
set_option maxHeartbeats 4000000 in
set_option maxRecDepth 100000 in
theorem v_X10_head {X : zX} (K : z_Ok X cX10_head (some .int) RX10 "head") (hX : z_Xo X rm_X10_head 4) {x0 : Option Nat} {x1 : Int32} {x2 : Int32} {h : zH} {nx : Nat} {x : (Int32 × zH)} (hf : f_X10_head x0 x1 x2 h = some x) (hp : z_P0I X nx x) : zV X 0 [(0, tA x0), (1, tI x1), (2, tI x2)] [] h nx 0 0 := by
  unfold f_X10_head at hf
  refine zv_aload_n K 0 eX10_head_0 rfl ?_
  refine zv_iload_n K 1 eX10_head_1 rfl ?_
  obtain ⟨q1, hq1, hf⟩ := z_bind_inv hf
  obtain ⟨v3, h2, eh2, hf⟩ := z_b2_inv hf
  refine zv_cV0 K [tI x1] [] eX10_head_2 lk_X10_172 md_X10_isArm im_X10_isArm sl_X10_isArm rfl rfl rfl rfl (Nat.le_of_ble_eq_true rfl) hq1 (c_X10_isArm X.1.2.1 X.2.2.1 eh2) rfl rfl ⟨z_le (z_fr hX) (by decide), z_le (z_lo hX) (by decide)⟩ ⟨Nat.zero_le _, Nat.zero_le _⟩ ?_
  refine zv_if_eq K 15 eX10_head_5 (by decide) hf (fun _ hf => ?_) (fun _ hf => ?_)
  · refine zv_iconst K (-1 : Int32) eX10_head_15 (by decide) ?_
    have e9 := Option.some.inj hf; subst e9
    exact zv_iret K eX10_head_16 hp
  · refine zv_iload_n K 2 eX10_head_8 rfl ?_
    obtain ⟨v5, h4, eh4, hf⟩ := z_b2_inv hf
    refine zv_cS0 K [tI x2] [] eX10_head_9 lk_X10_107 md_X10_isDigit st_X10_isDigit rfl rfl (Nat.le_of_ble_eq_true rfl) (c_X10_isDigit X.1.2.1 X.2.2.1 eh4) rfl rfl ⟨z_le (z_fr hX) (by decide), z_le (z_lo hX) (by decide)⟩ ⟨Nat.zero_le _, Nat.zero_le _⟩ ?_
    refine zv_if_ne K 17 eX10_head_12 (by decide) hf (fun _ hf => ?_) (fun _ hf => ?_)
    · refine zv_aload_n K 0 eX10_head_17 rfl ?_
      refine zv_gA K eX10_head_18 fl_X10_10 hf (fun v6 hf => ?_)
      refine zv_gA K eX10_head_21 fl_X10_123 hf (fun v7 hf => ?_)
      refine zv_iload_n K 1 eX10_head_24 rfl ?_
      refine zv_aA K eX10_head_25 hf (fun v8 hf => ?_)
      refine zv_gI K eX10_head_26 fl_X10_213 hf (fun v9 hf => ?_)
      refine zv_istore_n K [(3, tI v9), (0, tA x0), (1, tI x1), (2, tI x2)] eX10_head_29 (z_lt hX.2 (by decide)) rfl ?_
      refine zv_aload_n K 1 eX10_head_30 rfl ?_
      refine zv_gA K eX10_head_31 fl_X10_10 hf (fun v10 hf => ?_)
      refine zv_gA K eX10_head_34 fl_X10_123 hf (fun v11 hf => ?_)
      refine zv_iload_n K 2 eX10_head_37 rfl ?_
      refine zv_aA K eX10_head_38 hf (fun v12 hf => ?_)
      refine zv_iload_n K 3 eX10_head_39 rfl ?_
      refine zv_pI K eX10_head_40 fl_X10_213 ff_0_2 rfl hf (fun h13 hf => ?_)
      refine zv_iload_n K 0 eX10_head_43 rfl ?_
      have e9 := Option.some.inj hf; subst e9
      exact zv_iret K eX10_head_44 hp
    · refine zv_iconst K (-1 : Int32) eX10_head_15 (by decide) ?_
      have e9 := Option.some.inj hf; subst e9
      exact zv_iret K eX10_head_16 hp
theorem c_X10_head (l : Launch) (G : zG) {x0 : Option Nat} {x1 : Int32} {x2 : Int32} {h : zH} {nx : Nat} {x : Int32 × zH} (hf : f_X10_head x0 x1 x2 h = some x) : z_Ct l G yX10_head cX10_head 4 (some .int) rm_X10_head [tA x0, tI x1, tI x2] h nx (some (tI x.1)) x.2 nx 0 0 :=
  z_enter [(0, tA x0), (1, tI x1), (2, tI x2)] (by decide +kernel) (Nat.le_of_ble_eq_true rfl) rfl (fun X hl hR hG hL K hq => by
    subst hl; subst hG
    exact v_X10_head K ⟨hR, hL⟩ hf hq)
set_option maxHeartbeats 4000000 in
set_option maxRecDepth 100000 in
theorem v_X10_skin {X : zX} (K : z_Ok X cX10_skin (some .int) RX10 "skin") (hX : z_Xo X rm_X10_skin 3) {x0 : Option Nat} {x1 : Int32} {h : zH} {nx : Nat} {x : (Int32 × zH)} (hf : f_X10_skin x0 x1 h = some x) (hp : z_P0I X nx x) : zV X 0 [(0, tA x0), (1, tI x1)] [] h nx 0 0 := by
  unfold f_X10_skin at hf
  refine zv_iload_n K 1 eX10_skin_0 rfl ?_
  obtain ⟨v2, h1, eh1, hf⟩ := z_b2_inv hf
  refine zv_cS0 K [tI x1] [] eX10_skin_1 lk_X10_107 md_X10_isDigit st_X10_isDigit rfl rfl (Nat.le_of_ble_eq_true rfl) (c_X10_isDigit X.1.2.1 X.2.2.1 eh1) rfl rfl ⟨z_le (z_fr hX) (by decide), z_le (z_lo hX) (by decide)⟩ ⟨Nat.zero_le _, Nat.zero_le _⟩ ?_
  refine zv_if_ne K 9 eX10_skin_4 (by decide) hf (fun _ hf => ?_) (fun _ hf => ?_)
  · refine zv_aload_n K 0 eX10_skin_9 rfl ?_
    refine zv_gA K eX10_skin_10 fl_X10_10 hf (fun v3 hf => ?_)
    refine zv_gI K eX10_skin_13 fl_X10_216 hf (fun v4 hf => ?_)
    refine zv_istore_n K [(2, tI v4), (0, tA x0), (1, tI x1)] eX10_skin_16 (z_lt hX.2 (by decide)) rfl ?_
    refine zv_aload_n K 1 eX10_skin_17 rfl ?_
    refine zv_gA K eX10_skin_18 fl_X10_10 hf (fun v5 hf => ?_)
    refine zv_iload_n K 2 eX10_skin_21 rfl ?_
    refine zv_pI K eX10_skin_22 fl_X10_216 ff_6_7 rfl hf (fun h6 hf => ?_)
    refine zv_iload_n K 0 eX10_skin_25 rfl ?_
    have e9 := Option.some.inj hf; subst e9
    exact zv_iret K eX10_skin_26 hp
  · refine zv_iconst K (-1 : Int32) eX10_skin_7 (by decide) ?_
    have e9 := Option.some.inj hf; subst e9
    exact zv_iret K eX10_skin_8 hp
theorem c_X10_skin (l : Launch) (G : zG) {x0 : Option Nat} {x1 : Int32} {h : zH} {nx : Nat} {x : Int32 × zH} (hf : f_X10_skin x0 x1 h = some x) : z_Ct l G yX10_skin cX10_skin 3 (some .int) rm_X10_skin [tA x0, tI x1] h nx (some (tI x.1)) x.2 nx 0 0 :=
  z_enter [(0, tA x0), (1, tI x1)] (by decide +kernel) (Nat.le_of_ble_eq_true rfl) rfl (fun X hl hR hG hL K hq => by
    subst hl; subst hG
    exact v_X10_skin K ⟨hR, hL⟩ hf hq)
def P_X10_ticks_15 (X : zX) (nx : Nat) : ((Option Nat) × Int32 × Int32 × zH) ⊕ (Int32 × zH) → Prop := z_PL (fun s => zV X 15 [(0, tA s.1), (1, tI s.2.1), (2, tI s.2.2.1)] [] s.2.2.2 nx 0 0) (z_P0I X nx)
set_option maxHeartbeats 4000000 in
set_option maxRecDepth 100000 in
theorem v_X10_ticks_c15 {X : zX} (K : z_Ok X cX10_ticks (some .int) RX10 "ticks") (hX : z_Xo X rm_X10_ticks 3) {x0 : Option Nat} {x1 : Int32} {x2 : Int32} {h : zH} {nx : Nat} {x : (((Option Nat) × Int32 × Int32 × zH) ⊕ (Int32 × zH))} (hf : f_X10_ticks_c15 X.2.2.1.2.2.1 x0 x1 x2 h = some x) (hp : P_X10_ticks_15 X nx x) : zV X 15 [(0, tA x0), (1, tI x1), (2, tI x2)] [] h nx 0 0 := by
  unfold f_X10_ticks_c15 at hf
  refine zv_iload_n K 2 eX10_ticks_15 rfl ?_
  refine zv_iload_n K 1 eX10_ticks_16 rfl ?_
  refine zv_icmp_ge K 33 eX10_ticks_17 (by decide) hf (fun _ hf => ?_) (fun _ hf => ?_)
  · obtain ⟨w9, hf9, e9⟩ := z_i1_inv hf; clear hf; subst e9; have hf := hf9; clear hf9
    refine zv_aload_n K 0 eX10_ticks_33 rfl ?_
    refine zv_gA K eX10_ticks_34 fl_X10_10 hf (fun v1 hf => ?_)
    refine zv_iconst K (2 : Int32) eX10_ticks_37 (by decide) ?_
    obtain ⟨q2, hq2, hf⟩ := z_bind_inv hf
    obtain ⟨v4, h3, eh3, hf⟩ := z_b2_inv hf
    refine zv_cV0 K [tI (2 : Int32)] [] eX10_ticks_38 lk_X10_222 md_X6_countThings im_X6_countThings sl_X6_countThings rfl rfl rfl rfl (Nat.le_of_ble_eq_true rfl) hq2 (c_X6_countThings X.1.2.1 X.2.2.1 eh3) rfl rfl ⟨z_le (z_fr hX) (by decide), z_le (z_lo hX) (by decide)⟩ ⟨Nat.zero_le _, Nat.zero_le _⟩ ?_
    have e9 := Option.some.inj hf; subst e9
    exact zv_iret K eX10_ticks_41 hp
  · refine zv_aload_n K 0 eX10_ticks_20 rfl ?_
    refine zv_gA K eX10_ticks_21 fl_X10_10 hf (fun v5 hf => ?_)
    obtain ⟨q6, hq6, hf⟩ := z_bind_inv hf
    obtain ⟨h7, eh7, hf⟩ := z_bind_inv hf
    refine zv_cV0 K [] [] eX10_ticks_24 lk_X10_219 md_X6_tick im_X6_tick sl_X6_tick rfl rfl rfl rfl (Nat.le_of_ble_eq_true rfl) hq6 (c_X6_tick X.1.2.1 X.2.2.1 eh7) rfl rfl ⟨z_le (z_fr hX) (by decide), z_le (z_lo hX) (by decide)⟩ ⟨Nat.zero_le _, Nat.zero_le _⟩ ?_
    refine zv_iinc K (x2 + (1 : Int32)) 2 [(2, tI (x2 + (1 : Int32))), (0, tA x0), (1, tI x1)] eX10_ticks_27 rfl rfl (z_lt hX.2 (by decide)) rfl ?_
    refine zv_goto K 15 eX10_ticks_30 (by decide) ?_
    cases hf
    exact zv_sub [1, 2, 0] rfl (show zV X 15 [(0, tA x0), (1, tI x1), (2, tI (x2 + (1 : Int32)))] [] h7 nx 0 0 from hp)
theorem v_X10_ticks_b15 {X : zX} (K : z_Ok X cX10_ticks (some .int) RX10 "ticks") (hX : z_Xo X rm_X10_ticks 3) {x0 : Option Nat} {x1 : Int32} {x2 : Int32} {h : zH} {nx : Nat} {x : (Int32 × zH)} (hf : f_X10_ticks_b15 X.2.2.1.2.2.1 x0 x1 x2 h = some x) (hp : z_P0I X nx x) : zV X 15 [(0, tA x0), (1, tI x1), (2, tI x2)] [] h nx 0 0 :=
  z_it_ind (P := fun s : (Option Nat) × Int32 × Int32 × zH => zV X 15 [(0, tA s.1), (1, tI s.2.1), (2, tI s.2.2.1)] [] s.2.2.2 nx 0 0) (fun s y hb hy => v_X10_ticks_c15 K hX hb (z_PL_of hy hp)) hf
set_option maxHeartbeats 4000000 in
set_option maxRecDepth 100000 in
theorem v_X10_ticks {X : zX} (K : z_Ok X cX10_ticks (some .int) RX10 "ticks") (hX : z_Xo X rm_X10_ticks 3) {x0 : Option Nat} {x1 : Int32} {h : zH} {nx : Nat} {x : (Int32 × zH)} (hf : f_X10_ticks X.2.2.1.2.2.1 x0 x1 h = some x) (hp : z_P0I X nx x) : zV X 0 [(0, tA x0), (1, tI x1)] [] h nx 0 0 := by
  unfold f_X10_ticks at hf
  refine zv_iload_n K 1 eX10_ticks_0 rfl ?_
  refine zv_iconst K (1 : Int32) eX10_ticks_1 (by decide) ?_
  refine zv_icmp_lt K 11 eX10_ticks_2 (by decide) hf (fun _ hf => ?_) (fun _ hf => ?_)
  · refine zv_iconst K (-1 : Int32) eX10_ticks_11 (by decide) ?_
    have e9 := Option.some.inj hf; subst e9
    exact zv_iret K eX10_ticks_12 hp
  · refine zv_iload_n K 1 eX10_ticks_5 rfl ?_
    refine zv_bipush K (60 : Int32) eX10_ticks_6 (by decide) ?_
    refine zv_icmp_le K 13 eX10_ticks_8 (by decide) hf (fun _ hf => ?_) (fun _ hf => ?_)
    · refine zv_iconst K (0 : Int32) eX10_ticks_13 (by decide) ?_
      refine zv_istore_n K [(2, tI (0 : Int32)), (0, tA x0), (1, tI x1)] eX10_ticks_14 (z_lt hX.2 (by decide)) rfl ?_
      exact zv_sub [1, 2, 0] rfl (v_X10_ticks_b15 K hX hf hp)
    · refine zv_iconst K (-1 : Int32) eX10_ticks_11 (by decide) ?_
      have e9 := Option.some.inj hf; subst e9
      exact zv_iret K eX10_ticks_12 hp
theorem c_X10_ticks (l : Launch) (G : zG) {x0 : Option Nat} {x1 : Int32} {h : zH} {nx : Nat} {x : Int32 × zH} (hf : f_X10_ticks G.2.2.1 x0 x1 h = some x) : z_Ct l G yX10_ticks cX10_ticks 3 (some .int) rm_X10_ticks [tA x0, tI x1] h nx (some (tI x.1)) x.2 nx 0 0 :=
  z_enter [(0, tA x0), (1, tI x1)] (by decide +kernel) (Nat.le_of_ble_eq_true rfl) rfl (fun X hl hR hG hL K hq => by
    subst hl; subst hG
    exact v_X10_ticks K ⟨hR, hL⟩ hf hq)
set_option maxHeartbeats 4000000 in
set_option maxRecDepth 100000 in
theorem v_X10_finds {X : zX} (K : z_Ok X cX10_finds (some .int) RX10 "finds") (hX : z_Xo X rm_X10_finds 3) {x0 : Option Nat} {x1 : Int32} {x2 : Int32} {h : zH} {nx : Nat} {x : (Int32 × zH)} (hf : f_X10_finds x0 x1 x2 h = some x) (hp : z_P0I X nx x) : zV X 0 [(0, tA x0), (1, tI x1), (2, tI x2)] [] h nx 0 0 := by
  unfold f_X10_finds at hf
  refine zv_aload_n K 0 eX10_finds_0 rfl ?_
  refine zv_iload_n K 1 eX10_finds_1 rfl ?_
  refine zv_iload_n K 2 eX10_finds_2 rfl ?_
  obtain ⟨q1, hq1, hf⟩ := z_bind_inv hf
  obtain ⟨v3, h2, eh2, hf⟩ := z_b2_inv hf
  refine zv_cV0 K [tI x1, tI x2] [] eX10_finds_3 lk_X10_120 md_X10_isPiece im_X10_isPiece sl_X10_isPiece rfl rfl rfl rfl (Nat.le_of_ble_eq_true rfl) hq1 (c_X10_isPiece X.1.2.1 X.2.2.1 eh2) rfl rfl ⟨z_le (z_fr hX) (by decide), z_le (z_lo hX) (by decide)⟩ ⟨Nat.zero_le _, Nat.zero_le _⟩ ?_
  refine zv_if_eq K 13 eX10_finds_6 (by decide) hf (fun _ hf => ?_) (fun _ hf => ?_)
  · refine zv_iconst K (-1 : Int32) eX10_finds_13 (by decide) ?_
    have e9 := Option.some.inj hf; subst e9
    exact zv_iret K eX10_finds_14 hp
  · refine zv_iload_n K 2 eX10_finds_9 rfl ?_
    refine zv_if_ne K 15 eX10_finds_10 (by decide) hf (fun _ hf => ?_) (fun _ hf => ?_)
    · refine zv_aload_n K 0 eX10_finds_15 rfl ?_
      refine zv_gA K eX10_finds_16 fl_X10_10 hf (fun v4 hf => ?_)
      refine zv_aload_n K 0 eX10_finds_19 rfl ?_
      refine zv_gA K eX10_finds_20 fl_X10_10 hf (fun v5 hf => ?_)
      refine zv_gA K eX10_finds_23 fl_X10_123 hf (fun v6 hf => ?_)
      refine zv_iload_n K 1 eX10_finds_26 rfl ?_
      refine zv_aA K eX10_finds_27 hf (fun v7 hf => ?_)
      refine zv_iload_n K 2 eX10_finds_28 rfl ?_
      obtain ⟨q8, hq8, hf⟩ := z_bind_inv hf
      obtain ⟨v10, h9, eh9, hf⟩ := z_b2_inv hf
      refine zv_cV0 K [tA v7, tI x2] [] eX10_finds_29 lk_X10_225 md_X6_clauseFor im_X6_clauseFor sl_X6_clauseFor rfl rfl rfl rfl (Nat.le_of_ble_eq_true rfl) hq8 (c_X6_clauseFor X.1.2.1 X.2.2.1 eh9) rfl rfl ⟨z_le (z_fr hX) (by decide), z_le (z_lo hX) (by decide)⟩ ⟨Nat.zero_le _, Nat.zero_le _⟩ ?_
      have e9 := Option.some.inj hf; subst e9
      exact zv_iret K eX10_finds_32 hp
    · refine zv_iconst K (-1 : Int32) eX10_finds_13 (by decide) ?_
      have e9 := Option.some.inj hf; subst e9
      exact zv_iret K eX10_finds_14 hp
theorem c_X10_finds (l : Launch) (G : zG) {x0 : Option Nat} {x1 : Int32} {x2 : Int32} {h : zH} {nx : Nat} {x : Int32 × zH} (hf : f_X10_finds x0 x1 x2 h = some x) : z_Ct l G yX10_finds cX10_finds 3 (some .int) rm_X10_finds [tA x0, tI x1, tI x2] h nx (some (tI x.1)) x.2 nx 0 0 :=
  z_enter [(0, tA x0), (1, tI x1), (2, tI x2)] (by decide +kernel) (Nat.le_of_ble_eq_true rfl) rfl (fun X hl hR hG hL K hq => by
    subst hl; subst hG
    exact v_X10_finds K ⟨hR, hL⟩ hf hq)
set_option maxHeartbeats 4000000 in
set_option maxRecDepth 100000 in
theorem v_X10_cut {X : zX} (K : z_Ok X cX10_cut (some .int) RX10 "cut") (hX : z_Xo X rm_X10_cut 4) {x0 : Option Nat} {x1 : Int32} {x2 : Int32} {h : zH} {nx : Nat} {x : (Int32 × zH)} (hf : f_X10_cut x0 x1 x2 h = some x) (hp : z_P0I X nx x) : zV X 0 [(0, tA x0), (1, tI x1), (2, tI x2)] [] h nx 0 0 := by
  unfold f_X10_cut at hf
  refine zv_aload_n K 0 eX10_cut_0 rfl ?_
  refine zv_iload_n K 1 eX10_cut_1 rfl ?_
  refine zv_iload_n K 2 eX10_cut_2 rfl ?_
  obtain ⟨q1, hq1, hf⟩ := z_bind_inv hf
  obtain ⟨v3, h2, eh2, hf⟩ := z_b2_inv hf
  refine zv_cV0 K [tI x1, tI x2] [] eX10_cut_3 lk_X10_120 md_X10_isPiece im_X10_isPiece sl_X10_isPiece rfl rfl rfl rfl (Nat.le_of_ble_eq_true rfl) hq1 (c_X10_isPiece X.1.2.1 X.2.2.1 eh2) rfl rfl ⟨z_le (z_fr hX) (by decide), z_le (z_lo hX) (by decide)⟩ ⟨Nat.zero_le _, Nat.zero_le _⟩ ?_
  refine zv_if_eq K 13 eX10_cut_6 (by decide) hf (fun _ hf => ?_) (fun _ hf => ?_)
  · refine zv_iconst K (-1 : Int32) eX10_cut_13 (by decide) ?_
    have e9 := Option.some.inj hf; subst e9
    exact zv_iret K eX10_cut_14 hp
  · refine zv_iload_n K 2 eX10_cut_9 rfl ?_
    refine zv_if_ne K 15 eX10_cut_10 (by decide) hf (fun _ hf => ?_) (fun _ hf => ?_)
    · refine zv_aload_n K 0 eX10_cut_15 rfl ?_
      refine zv_gA K eX10_cut_16 fl_X10_10 hf (fun v4 hf => ?_)
      refine zv_gA K eX10_cut_19 fl_X10_123 hf (fun v5 hf => ?_)
      refine zv_iload_n K 1 eX10_cut_22 rfl ?_
      refine zv_aA K eX10_cut_23 hf (fun v6 hf => ?_)
      refine zv_astore_n K [(3, tA v6), (0, tA x0), (1, tI x1), (2, tI x2)] eX10_cut_24 (z_lt hX.2 (by decide)) rfl ?_
      refine zv_aload_n K 0 eX10_cut_25 rfl ?_
      obtain ⟨q7, hq7, hf⟩ := z_bind_inv hf
      obtain ⟨v9, h8, eh8, hf⟩ := z_b2_inv hf
      refine zv_cV0 K [] [] eX10_cut_26 lk_X10_175 md_X0_isCut im_X0_isCut sl_X0_isCut rfl rfl rfl rfl (Nat.le_of_ble_eq_true rfl) hq7 (c_X0_isCut X.1.2.1 X.2.2.1 eh8) rfl rfl ⟨z_le (z_fr hX) (by decide), z_le (z_lo hX) (by decide)⟩ ⟨Nat.zero_le _, Nat.zero_le _⟩ ?_
      refine zv_if_eq K 35 eX10_cut_29 (by decide) hf (fun _ hf => ?_) (fun _ hf => ?_)
      · refine zv_aload_n K 0 eX10_cut_35 rfl ?_
        refine zv_iload_n K 3 eX10_cut_36 rfl ?_
        refine zv_pI K eX10_cut_37 fl_X10_229 ff_0_1 rfl hf (fun h10 hf => ?_)
        refine zv_aload_n K 0 eX10_cut_40 rfl ?_
        refine zv_gI K eX10_cut_41 fl_X10_232 hf (fun v11 hf => ?_)
        refine zv_iload_n K 3 eX10_cut_44 rfl ?_
        refine zv_isub K eX10_cut_45 ?_
        have e9 := Option.some.inj hf; subst e9
        exact zv_iret K eX10_cut_46 hp
      · refine zv_bipush K (-2 : Int32) eX10_cut_32 (by decide) ?_
        have e9 := Option.some.inj hf; subst e9
        exact zv_iret K eX10_cut_34 hp
    · refine zv_iconst K (-1 : Int32) eX10_cut_13 (by decide) ?_
      have e9 := Option.some.inj hf; subst e9
      exact zv_iret K eX10_cut_14 hp
theorem c_X10_cut (l : Launch) (G : zG) {x0 : Option Nat} {x1 : Int32} {x2 : Int32} {h : zH} {nx : Nat} {x : Int32 × zH} (hf : f_X10_cut x0 x1 x2 h = some x) : z_Ct l G yX10_cut cX10_cut 4 (some .int) rm_X10_cut [tA x0, tI x1, tI x2] h nx (some (tI x.1)) x.2 nx 0 0 :=
  z_enter [(0, tA x0), (1, tI x1), (2, tI x2)] (by decide +kernel) (Nat.le_of_ble_eq_true rfl) rfl (fun X hl hR hG hL K hq => by
    subst hl; subst hG
    exact v_X10_cut K ⟨hR, hL⟩ hf hq)
set_option maxHeartbeats 4000000 in
set_option maxRecDepth 100000 in
theorem v_X10_count {X : zX} (K : z_Ok X cX10_count (some .int) RX10 "count") (hX : z_Xo X rm_X10_count 2) {x0 : Option Nat} {x1 : Int32} {h : zH} {nx : Nat} {x : (Int32 × zH)} (hf : f_X10_count x0 x1 h = some x) (hp : z_P0I X nx x) : zV X 0 [(0, tA x0), (1, tI x1)] [] h nx 0 0 := by
  unfold f_X10_count at hf
  refine zv_iload_n K 1 eX10_count_0 rfl ?_
  refine z_ite_inv _ hf (fun c0 hf => ?_) (fun c0 hf => ?_)
  · refine zv_tswIn K (off := 43) (0 : Int32) 44 eX10_count_1 c0 (by decide) (by decide) (by rfl) (by decide) ?_
    refine zv_aload_n K 0 eX10_count_44 rfl ?_
    refine zv_gA K eX10_count_45 fl_X10_10 hf (fun v1 hf => ?_)
    refine zv_gI K eX10_count_48 fl_X10_99 hf (fun v2 hf => ?_)
    have e9 := Option.some.inj hf; subst e9
    exact zv_iret K eX10_count_51 hp
  refine z_ite_inv _ hf (fun c1 hf => ?_) (fun c1 hf => ?_)
  · refine zv_tswIn K (off := 51) (1 : Int32) 52 eX10_count_1 c1 (by decide) (by decide) (by rfl) (by decide) ?_
    refine zv_aload_n K 0 eX10_count_52 rfl ?_
    refine zv_gA K eX10_count_53 fl_X10_10 hf (fun v3 hf => ?_)
    refine zv_gI K eX10_count_56 fl_X10_113 hf (fun v4 hf => ?_)
    have e9 := Option.some.inj hf; subst e9
    exact zv_iret K eX10_count_59 hp
  refine z_ite_inv _ hf (fun c2 hf => ?_) (fun c2 hf => ?_)
  · refine zv_tswIn K (off := 59) (2 : Int32) 60 eX10_count_1 c2 (by decide) (by decide) (by rfl) (by decide) ?_
    refine zv_aload_n K 0 eX10_count_60 rfl ?_
    refine zv_gA K eX10_count_61 fl_X10_10 hf (fun v5 hf => ?_)
    refine zv_iconst K (0 : Int32) eX10_count_64 (by decide) ?_
    obtain ⟨q6, hq6, hf⟩ := z_bind_inv hf
    obtain ⟨v8, h7, eh7, hf⟩ := z_b2_inv hf
    refine zv_cV0 K [tI (0 : Int32)] [] eX10_count_65 lk_X10_222 md_X6_countThings im_X6_countThings sl_X6_countThings rfl rfl rfl rfl (Nat.le_of_ble_eq_true rfl) hq6 (c_X6_countThings X.1.2.1 X.2.2.1 eh7) rfl rfl ⟨z_le (z_fr hX) (by decide), z_le (z_lo hX) (by decide)⟩ ⟨Nat.zero_le _, Nat.zero_le _⟩ ?_
    have e9 := Option.some.inj hf; subst e9
    exact zv_iret K eX10_count_68 hp
  refine z_ite_inv _ hf (fun c3 hf => ?_) (fun c3 hf => ?_)
  · refine zv_tswIn K (off := 68) (3 : Int32) 69 eX10_count_1 c3 (by decide) (by decide) (by rfl) (by decide) ?_
    refine zv_aload_n K 0 eX10_count_69 rfl ?_
    refine zv_gA K eX10_count_70 fl_X10_10 hf (fun v9 hf => ?_)
    refine zv_iconst K (1 : Int32) eX10_count_73 (by decide) ?_
    obtain ⟨q10, hq10, hf⟩ := z_bind_inv hf
    obtain ⟨v12, h11, eh11, hf⟩ := z_b2_inv hf
    refine zv_cV0 K [tI (1 : Int32)] [] eX10_count_74 lk_X10_222 md_X6_countThings im_X6_countThings sl_X6_countThings rfl rfl rfl rfl (Nat.le_of_ble_eq_true rfl) hq10 (c_X6_countThings X.1.2.1 X.2.2.1 eh11) rfl rfl ⟨z_le (z_fr hX) (by decide), z_le (z_lo hX) (by decide)⟩ ⟨Nat.zero_le _, Nat.zero_le _⟩ ?_
    have e9 := Option.some.inj hf; subst e9
    exact zv_iret K eX10_count_77 hp
  refine z_ite_inv _ hf (fun c4 hf => ?_) (fun c4 hf => ?_)
  · refine zv_tswIn K (off := 77) (4 : Int32) 78 eX10_count_1 c4 (by decide) (by decide) (by rfl) (by decide) ?_
    refine zv_aload_n K 0 eX10_count_78 rfl ?_
    refine zv_gA K eX10_count_79 fl_X10_10 hf (fun v13 hf => ?_)
    refine zv_iconst K (2 : Int32) eX10_count_82 (by decide) ?_
    obtain ⟨q14, hq14, hf⟩ := z_bind_inv hf
    obtain ⟨v16, h15, eh15, hf⟩ := z_b2_inv hf
    refine zv_cV0 K [tI (2 : Int32)] [] eX10_count_83 lk_X10_222 md_X6_countThings im_X6_countThings sl_X6_countThings rfl rfl rfl rfl (Nat.le_of_ble_eq_true rfl) hq14 (c_X6_countThings X.1.2.1 X.2.2.1 eh15) rfl rfl ⟨z_le (z_fr hX) (by decide), z_le (z_lo hX) (by decide)⟩ ⟨Nat.zero_le _, Nat.zero_le _⟩ ?_
    have e9 := Option.some.inj hf; subst e9
    exact zv_iret K eX10_count_86 hp
  refine z_ite_inv _ hf (fun c5 hf => ?_) (fun c5 hf => ?_)
  · refine zv_tswIn K (off := 86) (5 : Int32) 87 eX10_count_1 c5 (by decide) (by decide) (by rfl) (by decide) ?_
    refine zv_aload_n K 0 eX10_count_87 rfl ?_
    refine zv_gA K eX10_count_88 fl_X10_10 hf (fun v17 hf => ?_)
    refine zv_gJ K eX10_count_91 fl_X10_68 hf (fun v18 hf => ?_)
    obtain ⟨v20, h19, eh19, hf⟩ := z_b2_inv hf
    refine zv_cS0 K [tJ v18] [] eX10_count_94 lk_X10_85 md_J13_bitCount_95d88 st_J13_bitCount_95d88 rfl rfl (Nat.le_of_ble_eq_true rfl) (c_J13_bitCount_95d88 X.1.2.1 X.2.2.1 eh19) rfl rfl ⟨z_le (z_fr hX) (by decide), z_le (z_lo hX) (by decide)⟩ ⟨Nat.zero_le _, Nat.zero_le _⟩ ?_
    have e9 := Option.some.inj hf; subst e9
    exact zv_iret K eX10_count_97 hp
  refine z_ite_inv _ hf (fun c6 hf => ?_) (fun c6 hf => ?_)
  · refine zv_tswIn K (off := 97) (6 : Int32) 98 eX10_count_1 c6 (by decide) (by decide) (by rfl) (by decide) ?_
    refine zv_aload_n K 0 eX10_count_98 rfl ?_
    refine zv_gA K eX10_count_99 fl_X10_10 hf (fun v21 hf => ?_)
    refine zv_gI K eX10_count_102 fl_X10_235 hf (fun v22 hf => ?_)
    have e9 := Option.some.inj hf; subst e9
    exact zv_iret K eX10_count_105 hp
  have ec0 := lv_neT (a := 0) c0 (by decide)
  have ec1 := lv_neT (a := 1) c1 (by decide)
  have ec2 := lv_neT (a := 2) c2 (by decide)
  have ec3 := lv_neT (a := 3) c3 (by decide)
  have ec4 := lv_neT (a := 4) c4 (by decide)
  have ec5 := lv_neT (a := 5) c5 (by decide)
  have ec6 := lv_neT (a := 6) c6 (by decide)
  refine zv_tswOut K 106 eX10_count_1 (by omega) (by decide) ?_
  refine zv_iconst K (-1 : Int32) eX10_count_106 (by decide) ?_
  have e9 := Option.some.inj hf; subst e9
  exact zv_iret K eX10_count_107 hp
theorem c_X10_count (l : Launch) (G : zG) {x0 : Option Nat} {x1 : Int32} {h : zH} {nx : Nat} {x : Int32 × zH} (hf : f_X10_count x0 x1 h = some x) : z_Ct l G yX10_count cX10_count 2 (some .int) rm_X10_count [tA x0, tI x1] h nx (some (tI x.1)) x.2 nx 0 0 :=
  z_enter [(0, tA x0), (1, tI x1)] (by decide +kernel) (Nat.le_of_ble_eq_true rfl) rfl (fun X hl hR hG hL K hq => by
    subst hl; subst hG
    exact v_X10_count K ⟨hR, hL⟩ hf hq)
set_option maxHeartbeats 4000000 in
set_option maxRecDepth 100000 in
theorem v_X10_refusesReach {X : zX} (K : z_Ok X cX10_refusesReach (some .int) RX10 "refusesReach") (hX : z_Xo X rm_X10_refusesReach 2) {x0 : Option Nat} {x1 : Int32} {h : zH} {nx : Nat} {x : (Int32 × zH)} (hf : f_X10_refusesReach X.2.2.1.2.2.1 x0 x1 h = some x) (hp : z_P0I X nx x) : zV X 0 [(0, tA x0), (1, tI x1)] [] h nx 0 0 := by
  unfold f_X10_refusesReach at hf
  refine zv_aload_n K 0 eX10_refusesReach_0 rfl ?_
  refine zv_iload_n K 1 eX10_refusesReach_1 rfl ?_
  obtain ⟨q1, hq1, hf⟩ := z_bind_inv hf
  obtain ⟨v3, h2, eh2, hf⟩ := z_b2_inv hf
  refine zv_cV0 K [tI x1] [] eX10_refusesReach_2 lk_X10_172 md_X10_isArm im_X10_isArm sl_X10_isArm rfl rfl rfl rfl (Nat.le_of_ble_eq_true rfl) hq1 (c_X10_isArm X.1.2.1 X.2.2.1 eh2) rfl rfl ⟨z_le (z_fr hX) (by decide), z_le (z_lo hX) (by decide)⟩ ⟨Nat.zero_le _, Nat.zero_le _⟩ ?_
  refine zv_if_ne K 10 eX10_refusesReach_5 (by decide) hf (fun _ hf => ?_) (fun _ hf => ?_)
  · refine zv_aload_n K 0 eX10_refusesReach_10 rfl ?_
    refine zv_gA K eX10_refusesReach_11 fl_X10_10 hf (fun v4 hf => ?_)
    refine zv_gA K eX10_refusesReach_14 fl_X10_123 hf (fun v5 hf => ?_)
    refine zv_iload_n K 1 eX10_refusesReach_17 rfl ?_
    refine zv_aA K eX10_refusesReach_18 hf (fun v6 hf => ?_)
    obtain ⟨q7, hq7, hf⟩ := z_bind_inv hf
    obtain ⟨v9, h8, eh8, hf⟩ := z_b2_inv hf
    refine zv_cV0 K [] [] eX10_refusesReach_19 lk_X10_175 md_X0_isCut im_X0_isCut sl_X0_isCut rfl rfl rfl rfl (Nat.le_of_ble_eq_true rfl) hq7 (c_X0_isCut X.1.2.1 X.2.2.1 eh8) rfl rfl ⟨z_le (z_fr hX) (by decide), z_le (z_lo hX) (by decide)⟩ ⟨Nat.zero_le _, Nat.zero_le _⟩ ?_
    refine zv_if_eq K 28 eX10_refusesReach_22 (by decide) hf (fun _ hf => ?_) (fun _ hf => ?_)
    · refine zv_aload_n K 0 eX10_refusesReach_28 rfl ?_
      refine zv_gA K eX10_refusesReach_29 fl_X10_40 hf (fun v10 hf => ?_)
      refine zv_aload_n K 0 eX10_refusesReach_32 rfl ?_
      refine zv_gA K eX10_refusesReach_33 fl_X10_10 hf (fun v11 hf => ?_)
      refine zv_aload_n K 0 eX10_refusesReach_36 rfl ?_
      refine zv_gA K eX10_refusesReach_37 fl_X10_10 hf (fun v12 hf => ?_)
      refine zv_gA K eX10_refusesReach_40 fl_X10_123 hf (fun v13 hf => ?_)
      refine zv_iload_n K 1 eX10_refusesReach_43 rfl ?_
      refine zv_aA K eX10_refusesReach_44 hf (fun v14 hf => ?_)
      obtain ⟨q15, hq15, hf⟩ := z_bind_inv hf
      obtain ⟨h16, eh16, hf⟩ := z_bind_inv hf
      refine zv_cV0 K [tA v11, tA v14] [] eX10_refusesReach_45 lk_X10_301 md_X3_search im_X3_search sl_X3_search rfl rfl rfl rfl (Nat.le_of_ble_eq_true rfl) hq15 (c_X3_search X.1.2.1 X.2.2.1 eh16) rfl rfl ⟨z_le (z_fr hX) (by decide), z_le (z_lo hX) (by decide)⟩ ⟨Nat.zero_le _, Nat.zero_le _⟩ ?_
      refine zv_iconst K (0 : Int32) eX10_refusesReach_48 (by decide) ?_
      have e9 := Option.some.inj hf; subst e9
      exact zv_iret K eX10_refusesReach_49 hp
    · refine zv_bipush K (-2 : Int32) eX10_refusesReach_25 (by decide) ?_
      have e9 := Option.some.inj hf; subst e9
      exact zv_iret K eX10_refusesReach_27 hp
  · refine zv_iconst K (-1 : Int32) eX10_refusesReach_8 (by decide) ?_
    have e9 := Option.some.inj hf; subst e9
    exact zv_iret K eX10_refusesReach_9 hp
theorem c_X10_refusesReach (l : Launch) (G : zG) {x0 : Option Nat} {x1 : Int32} {h : zH} {nx : Nat} {x : Int32 × zH} (hf : f_X10_refusesReach G.2.2.1 x0 x1 h = some x) : z_Ct l G yX10_refusesReach cX10_refusesReach 2 (some .int) rm_X10_refusesReach [tA x0, tI x1] h nx (some (tI x.1)) x.2 nx 0 0 :=
  z_enter [(0, tA x0), (1, tI x1)] (by decide +kernel) (Nat.le_of_ble_eq_true rfl) rfl (fun X hl hR hG hL K hq => by
    subst hl; subst hG
    exact v_X10_refusesReach K ⟨hR, hL⟩ hf hq)
set_option maxHeartbeats 4000000 in
set_option maxRecDepth 100000 in
theorem v_X10_forms {X : zX} (K : z_Ok X cX10_forms (some .int) RX10 "forms") (hX : z_Xo X rm_X10_forms 3) {x0 : Option Nat} {x1 : Int32} {h : zH} {nx : Nat} {x : (Int32 × zH)} (hf : f_X10_forms X.2.2.1.2.2.1 x0 x1 h = some x) (hp : z_P0I X nx x) : zV X 0 [(0, tA x0), (1, tI x1)] [] h nx 0 0 := by
  unfold f_X10_forms at hf
  refine zv_aload_n K 0 eX10_forms_0 rfl ?_
  refine zv_iload_n K 1 eX10_forms_1 rfl ?_
  obtain ⟨q1, hq1, hf⟩ := z_bind_inv hf
  obtain ⟨v3, h2, eh2, hf⟩ := z_b2_inv hf
  refine zv_cV0 K [tI x1] [] eX10_forms_2 lk_X10_238 md_X10_refusesReach im_X10_refusesReach sl_X10_refusesReach rfl rfl rfl rfl (Nat.le_of_ble_eq_true rfl) hq1 (c_X10_refusesReach X.1.2.1 X.2.2.1 eh2) rfl rfl ⟨z_le (z_fr hX) (by decide), z_le (z_lo hX) (by decide)⟩ ⟨Nat.zero_le _, Nat.zero_le _⟩ ?_
  refine zv_istore_n K [(2, tI v3), (0, tA x0), (1, tI x1)] eX10_forms_5 (z_lt hX.2 (by decide)) rfl ?_
  refine zv_iload_n K 0 eX10_forms_6 rfl ?_
  refine zv_if_eq K 14 eX10_forms_7 (by decide) hf (fun _ hf => ?_) (fun _ hf => ?_)
  · refine zv_aload_n K 1 eX10_forms_14 rfl ?_
    refine zv_gA K eX10_forms_15 fl_X10_40 hf (fun v4 hf => ?_)
    refine zv_gI K eX10_forms_18 fl_X10_241 hf (fun v5 hf => ?_)
    have e9 := Option.some.inj hf; subst e9
    exact zv_iret K eX10_forms_21 hp
  · refine zv_iload_n K 0 eX10_forms_10 rfl ?_
    refine zv_goto K 21 eX10_forms_11 (by decide) ?_
    have e9 := Option.some.inj hf; subst e9
    exact zv_iret K eX10_forms_21 hp
theorem c_X10_forms (l : Launch) (G : zG) {x0 : Option Nat} {x1 : Int32} {h : zH} {nx : Nat} {x : Int32 × zH} (hf : f_X10_forms G.2.2.1 x0 x1 h = some x) : z_Ct l G yX10_forms cX10_forms 3 (some .int) rm_X10_forms [tA x0, tI x1] h nx (some (tI x.1)) x.2 nx 0 0 :=
  z_enter [(0, tA x0), (1, tI x1)] (by decide +kernel) (Nat.le_of_ble_eq_true rfl) rfl (fun X hl hR hG hL K hq => by
    subst hl; subst hG
    exact v_X10_forms K ⟨hR, hL⟩ hf hq)
set_option maxHeartbeats 4000000 in
set_option maxRecDepth 100000 in
theorem v_X10_reach {X : zX} (K : z_Ok X cX10_reach (some .int) RX10 "reach") (hX : z_Xo X rm_X10_reach 3) {x0 : Option Nat} {x1 : Int32} {h : zH} {nx : Nat} {x : (Int32 × zH)} (hf : f_X10_reach X.2.2.1.2.2.1 x0 x1 h = some x) (hp : z_P0I X nx x) : zV X 0 [(0, tA x0), (1, tI x1)] [] h nx 0 0 := by
  unfold f_X10_reach at hf
  refine zv_aload_n K 0 eX10_reach_0 rfl ?_
  refine zv_iload_n K 1 eX10_reach_1 rfl ?_
  obtain ⟨q1, hq1, hf⟩ := z_bind_inv hf
  obtain ⟨v3, h2, eh2, hf⟩ := z_b2_inv hf
  refine zv_cV0 K [tI x1] [] eX10_reach_2 lk_X10_238 md_X10_refusesReach im_X10_refusesReach sl_X10_refusesReach rfl rfl rfl rfl (Nat.le_of_ble_eq_true rfl) hq1 (c_X10_refusesReach X.1.2.1 X.2.2.1 eh2) rfl rfl ⟨z_le (z_fr hX) (by decide), z_le (z_lo hX) (by decide)⟩ ⟨Nat.zero_le _, Nat.zero_le _⟩ ?_
  refine zv_istore_n K [(2, tI v3), (0, tA x0), (1, tI x1)] eX10_reach_5 (z_lt hX.2 (by decide)) rfl ?_
  refine zv_iload_n K 0 eX10_reach_6 rfl ?_
  refine zv_if_eq K 14 eX10_reach_7 (by decide) hf (fun _ hf => ?_) (fun _ hf => ?_)
  · refine zv_aload_n K 1 eX10_reach_14 rfl ?_
    refine zv_gA K eX10_reach_15 fl_X10_40 hf (fun v4 hf => ?_)
    refine zv_gI K eX10_reach_18 fl_X10_244 hf (fun v5 hf => ?_)
    have e9 := Option.some.inj hf; subst e9
    exact zv_iret K eX10_reach_21 hp
  · refine zv_iload_n K 0 eX10_reach_10 rfl ?_
    refine zv_goto K 21 eX10_reach_11 (by decide) ?_
    have e9 := Option.some.inj hf; subst e9
    exact zv_iret K eX10_reach_21 hp
theorem c_X10_reach (l : Launch) (G : zG) {x0 : Option Nat} {x1 : Int32} {h : zH} {nx : Nat} {x : Int32 × zH} (hf : f_X10_reach G.2.2.1 x0 x1 h = some x) : z_Ct l G yX10_reach cX10_reach 3 (some .int) rm_X10_reach [tA x0, tI x1] h nx (some (tI x.1)) x.2 nx 0 0 :=
  z_enter [(0, tA x0), (1, tI x1)] (by decide +kernel) (Nat.le_of_ble_eq_true rfl) rfl (fun X hl hR hG hL K hq => by
    subst hl; subst hG
    exact v_X10_reach K ⟨hR, hL⟩ hf hq)
set_option maxHeartbeats 4000000 in
set_option maxRecDepth 100000 in
theorem v_X10_far {X : zX} (K : z_Ok X cX10_far (some .int) RX10 "far") (hX : z_Xo X rm_X10_far 5) {x0 : Option Nat} {x1 : Int32} {x2 : Int32} {x3 : Int32} {h : zH} {nx : Nat} {x : (Int32 × zH)} (hf : f_X10_far X.2.2.1.2.2.1 x0 x1 x2 x3 h = some x) (hp : z_P0I X nx x) : zV X 0 [(0, tA x0), (1, tI x1), (2, tI x2), (3, tI x3)] [] h nx 0 0 := by
  unfold f_X10_far at hf
  refine zv_iload_n K 2 eX10_far_0 rfl ?_
  refine zv_iload_n K 3 eX10_far_1 rfl ?_
  obtain ⟨v2, h1, eh1, hf⟩ := z_b2_inv hf
  refine zv_cS0 K [tI x2, tI x3] [] eX10_far_2 lk_X10_56 md_X10_isCell st_X10_isCell rfl rfl (Nat.le_of_ble_eq_true rfl) (c_X10_isCell X.1.2.1 X.2.2.1 eh1) rfl rfl ⟨z_le (z_fr hX) (by decide), z_le (z_lo hX) (by decide)⟩ ⟨Nat.zero_le _, Nat.zero_le _⟩ ?_
  refine zv_if_ne K 10 eX10_far_5 (by decide) hf (fun _ hf => ?_) (fun _ hf => ?_)
  · refine zv_aload_n K 0 eX10_far_10 rfl ?_
    refine zv_iload_n K 1 eX10_far_11 rfl ?_
    obtain ⟨q3, hq3, hf⟩ := z_bind_inv hf
    obtain ⟨v5, h4, eh4, hf⟩ := z_b2_inv hf
    refine zv_cV0 K [tI x1] [] eX10_far_12 lk_X10_238 md_X10_refusesReach im_X10_refusesReach sl_X10_refusesReach rfl rfl rfl rfl (Nat.le_of_ble_eq_true rfl) hq3 (c_X10_refusesReach X.1.2.1 X.2.2.1 eh4) rfl rfl ⟨z_le (z_fr hX) (by decide), z_le (z_lo hX) (by decide)⟩ ⟨Nat.zero_le _, Nat.zero_le _⟩ ?_
    refine zv_istore K [(4, tI v5), (0, tA x0), (1, tI x1), (2, tI x2), (3, tI x3)] eX10_far_15 (z_lt hX.2 (by decide)) rfl ?_
    refine zv_iload K 0 eX10_far_17 rfl ?_
    refine zv_if_eq K 27 eX10_far_19 (by decide) hf (fun _ hf => ?_) (fun _ hf => ?_)
    · refine zv_aload_n K 1 eX10_far_27 rfl ?_
      refine zv_gA K eX10_far_28 fl_X10_40 hf (fun v6 hf => ?_)
      refine zv_gA K eX10_far_31 fl_X10_247 hf (fun v7 hf => ?_)
      refine zv_iload_n K 3 eX10_far_34 rfl ?_
      refine zv_iload_n K 4 eX10_far_35 rfl ?_
      obtain ⟨v9, h8, eh8, hf⟩ := z_b2_inv hf
      refine zv_cS0 K [tI x2, tI x3] [tA v7] eX10_far_36 lk_X10_60 md_X10_cellOf st_X10_cellOf rfl rfl (Nat.le_of_ble_eq_true rfl) (c_X10_cellOf X.1.2.1 X.2.2.1 eh8) rfl rfl ⟨z_le (z_fr hX) (by decide), z_le (z_lo hX) (by decide)⟩ ⟨Nat.zero_le _, Nat.zero_le _⟩ ?_
      refine zv_aI K eX10_far_39 hf (fun v10 hf => ?_)
      have e9 := Option.some.inj hf; subst e9
      exact zv_iret K eX10_far_40 hp
    · refine zv_iload K 0 eX10_far_22 rfl ?_
      refine zv_goto K 40 eX10_far_24 (by decide) ?_
      have e9 := Option.some.inj hf; subst e9
      exact zv_iret K eX10_far_40 hp
  · refine zv_iconst K (-1 : Int32) eX10_far_8 (by decide) ?_
    have e9 := Option.some.inj hf; subst e9
    exact zv_iret K eX10_far_9 hp
theorem c_X10_far (l : Launch) (G : zG) {x0 : Option Nat} {x1 : Int32} {x2 : Int32} {x3 : Int32} {h : zH} {nx : Nat} {x : Int32 × zH} (hf : f_X10_far G.2.2.1 x0 x1 x2 x3 h = some x) : z_Ct l G yX10_far cX10_far 5 (some .int) rm_X10_far [tA x0, tI x1, tI x2, tI x3] h nx (some (tI x.1)) x.2 nx 0 0 :=
  z_enter [(0, tA x0), (1, tI x1), (2, tI x2), (3, tI x3)] (by decide +kernel) (Nat.le_of_ble_eq_true rfl) rfl (fun X hl hR hG hL K hq => by
    subst hl; subst hG
    exact v_X10_far K ⟨hR, hL⟩ hf hq)
set_option maxHeartbeats 4000000 in
set_option maxRecDepth 100000 in
theorem v_X10_fewest {X : zX} (K : z_Ok X cX10_fewest (some .int) RX10 "fewest") (hX : z_Xo X rm_X10_fewest 6) {x0 : Option Nat} {x1 : Int32} {x2 : Int32} {x3 : Int32} {x4 : Int32} {h : zH} {nx : Nat} {x : (Int32 × zH)} (hf : f_X10_fewest X.2.2.1.2.2.1 x0 x1 x2 x3 x4 h = some x) (hp : z_P0I X nx x) : zV X 0 [(0, tA x0), (1, tI x1), (2, tI x2), (3, tI x3), (4, tI x4)] [] h nx 0 0 := by
  unfold f_X10_fewest at hf
  refine zv_aload_n K 0 eX10_fewest_0 rfl ?_
  refine zv_iload_n K 1 eX10_fewest_1 rfl ?_
  obtain ⟨q1, hq1, hf⟩ := z_bind_inv hf
  obtain ⟨v3, h2, eh2, hf⟩ := z_b2_inv hf
  refine zv_cV0 K [tI x1] [] eX10_fewest_2 lk_X10_172 md_X10_isArm im_X10_isArm sl_X10_isArm rfl rfl rfl rfl (Nat.le_of_ble_eq_true rfl) hq1 (c_X10_isArm X.1.2.1 X.2.2.1 eh2) rfl rfl ⟨z_le (z_fr hX) (by decide), z_le (z_lo hX) (by decide)⟩ ⟨Nat.zero_le _, Nat.zero_le _⟩ ?_
  refine zv_if_eq K 38 eX10_fewest_5 (by decide) hf (fun _ hf => ?_) (fun _ hf => ?_)
  · refine zv_iconst K (-1 : Int32) eX10_fewest_38 (by decide) ?_
    have e9 := Option.some.inj hf; subst e9
    exact zv_iret K eX10_fewest_39 hp
  · refine zv_aload_n K 0 eX10_fewest_8 rfl ?_
    refine zv_iload_n K 2 eX10_fewest_9 rfl ?_
    obtain ⟨q4, hq4, hf⟩ := z_bind_inv hf
    obtain ⟨v6, h5, eh5, hf⟩ := z_b2_inv hf
    refine zv_cV0 K [tI x2] [] eX10_fewest_10 lk_X10_147 md_X10_isThing im_X10_isThing sl_X10_isThing rfl rfl rfl rfl (Nat.le_of_ble_eq_true rfl) hq4 (c_X10_isThing X.1.2.1 X.2.2.1 eh5) rfl rfl ⟨z_le (z_fr hX) (by decide), z_le (z_lo hX) (by decide)⟩ ⟨Nat.zero_le _, Nat.zero_le _⟩ ?_
    refine zv_if_eq K 38 eX10_fewest_13 (by decide) hf (fun _ hf => ?_) (fun _ hf => ?_)
    · refine zv_iconst K (-1 : Int32) eX10_fewest_38 (by decide) ?_
      have e9 := Option.some.inj hf; subst e9
      exact zv_iret K eX10_fewest_39 hp
    · refine zv_iload_n K 3 eX10_fewest_16 rfl ?_
      refine zv_iconst K (1 : Int32) eX10_fewest_17 (by decide) ?_
      refine zv_icmp_lt K 38 eX10_fewest_18 (by decide) hf (fun _ hf => ?_) (fun _ hf => ?_)
      · refine zv_iconst K (-1 : Int32) eX10_fewest_38 (by decide) ?_
        have e9 := Option.some.inj hf; subst e9
        exact zv_iret K eX10_fewest_39 hp
      · refine zv_iload_n K 3 eX10_fewest_21 rfl ?_
        refine zv_bipush K (20 : Int32) eX10_fewest_22 (by decide) ?_
        refine zv_icmp_gt K 38 eX10_fewest_24 (by decide) hf (fun _ hf => ?_) (fun _ hf => ?_)
        · refine zv_iconst K (-1 : Int32) eX10_fewest_38 (by decide) ?_
          have e9 := Option.some.inj hf; subst e9
          exact zv_iret K eX10_fewest_39 hp
        · refine zv_iload K 4 eX10_fewest_27 rfl ?_
          refine zv_if_lt K 38 eX10_fewest_29 (by decide) hf (fun _ hf => ?_) (fun _ hf => ?_)
          · refine zv_iconst K (-1 : Int32) eX10_fewest_38 (by decide) ?_
            have e9 := Option.some.inj hf; subst e9
            exact zv_iret K eX10_fewest_39 hp
          · refine zv_iload K 4 eX10_fewest_32 rfl ?_
            refine zv_iconst K (4 : Int32) eX10_fewest_34 (by decide) ?_
            refine zv_icmp_le K 40 eX10_fewest_35 (by decide) hf (fun _ hf => ?_) (fun _ hf => ?_)
            · refine zv_aload_n K 0 eX10_fewest_40 rfl ?_
              refine zv_gA K eX10_fewest_41 fl_X10_10 hf (fun v7 hf => ?_)
              refine zv_gA K eX10_fewest_44 fl_X10_150 hf (fun v8 hf => ?_)
              refine zv_iload_n K 2 eX10_fewest_47 rfl ?_
              refine zv_aA K eX10_fewest_48 hf (fun v9 hf => ?_)
              refine zv_gI K eX10_fewest_49 fl_X10_154 hf (fun v10 hf => ?_)
              refine zv_iconst K (2 : Int32) eX10_fewest_52 (by decide) ?_
              refine zv_icmp_ne K 59 eX10_fewest_53 (by decide) hf (fun _ hf => ?_) (fun _ hf => ?_)
              · refine zv_aload_n K 0 eX10_fewest_59 rfl ?_
                refine zv_gA K eX10_fewest_60 fl_X10_47 hf (fun v11 hf => ?_)
                refine zv_aload_n K 0 eX10_fewest_63 rfl ?_
                refine zv_gA K eX10_fewest_64 fl_X10_10 hf (fun v12 hf => ?_)
                refine zv_iload_n K 1 eX10_fewest_67 rfl ?_
                refine zv_iload_n K 2 eX10_fewest_68 rfl ?_
                refine zv_iload_n K 3 eX10_fewest_69 rfl ?_
                obtain ⟨q13, hq13, hf⟩ := z_bind_inv hf
                obtain ⟨v15, h14, eh14, hf⟩ := z_b2_inv hf
                refine zv_cV0 K [tA v12, tI x1, tI x2, tI x3] [] eX10_fewest_70 lk_X10_250 md_X9_search im_X9_search sl_X9_search rfl rfl rfl rfl (Nat.le_of_ble_eq_true rfl) hq13 (c_X9_search X.1.2.1 X.2.2.1 eh14) rfl rfl ⟨z_le (z_fr hX) (by decide), z_le (z_lo hX) (by decide)⟩ ⟨Nat.zero_le _, Nat.zero_le _⟩ ?_
                refine zv_istore K [(5, tI v15), (0, tA x0), (1, tI x1), (2, tI x2), (3, tI x3), (4, tI x4)] eX10_fewest_73 (z_lt hX.2 (by decide)) rfl ?_
                refine zv_iload K 0 eX10_fewest_75 rfl ?_
                refine zv_if_ne K 83 eX10_fewest_77 (by decide) hf (fun _ hf => ?_) (fun _ hf => ?_)
                · refine zv_iload K 5 eX10_fewest_83 rfl ?_
                  refine zv_if_ne K 91 eX10_fewest_85 (by decide) hf (fun _ hf => ?_) (fun _ hf => ?_)
                  · refine zv_iload K 5 eX10_fewest_91 rfl ?_
                    refine zv_iload K 0 eX10_fewest_93 rfl ?_
                    refine zv_icmp_gt K 113 eX10_fewest_95 (by decide) hf (fun _ hf => ?_) (fun _ hf => ?_)
                    · refine zv_iconst K (-1 : Int32) eX10_fewest_113 (by decide) ?_
                      have e9 := Option.some.inj hf; subst e9
                      exact zv_iret K eX10_fewest_114 hp
                    · refine zv_aload_n K 1 eX10_fewest_98 rfl ?_
                      refine zv_gA K eX10_fewest_99 fl_X10_47 hf (fun v16 hf => ?_)
                      refine zv_gA K eX10_fewest_102 fl_X10_254 hf (fun v17 hf => ?_)
                      refine zv_iload K 5 eX10_fewest_105 rfl ?_
                      refine zv_iconst K (1 : Int32) eX10_fewest_107 (by decide) ?_
                      refine zv_isub K eX10_fewest_108 ?_
                      refine zv_aI K eX10_fewest_109 hf (fun v18 hf => ?_)
                      refine zv_goto K 114 eX10_fewest_110 (by decide) ?_
                      have e9 := Option.some.inj hf; subst e9
                      exact zv_iret K eX10_fewest_114 hp
                  · refine zv_iload K 0 eX10_fewest_88 rfl ?_
                    have e9 := Option.some.inj hf; subst e9
                    exact zv_iret K eX10_fewest_90 hp
                · refine zv_bipush K (-4 : Int32) eX10_fewest_80 (by decide) ?_
                  have e9 := Option.some.inj hf; subst e9
                  exact zv_iret K eX10_fewest_82 hp
              · refine zv_bipush K (-2 : Int32) eX10_fewest_56 (by decide) ?_
                have e9 := Option.some.inj hf; subst e9
                exact zv_iret K eX10_fewest_58 hp
            · refine zv_iconst K (-1 : Int32) eX10_fewest_38 (by decide) ?_
              have e9 := Option.some.inj hf; subst e9
              exact zv_iret K eX10_fewest_39 hp
theorem c_X10_fewest (l : Launch) (G : zG) {x0 : Option Nat} {x1 : Int32} {x2 : Int32} {x3 : Int32} {x4 : Int32} {h : zH} {nx : Nat} {x : Int32 × zH} (hf : f_X10_fewest G.2.2.1 x0 x1 x2 x3 x4 h = some x) : z_Ct l G yX10_fewest cX10_fewest 6 (some .int) rm_X10_fewest [tA x0, tI x1, tI x2, tI x3, tI x4] h nx (some (tI x.1)) x.2 nx 0 0 :=
  z_enter [(0, tA x0), (1, tI x1), (2, tI x2), (3, tI x3), (4, tI x4)] (by decide +kernel) (Nat.le_of_ble_eq_true rfl) rfl (fun X hl hR hG hL K hq => by
    subst hl; subst hG
    exact v_X10_fewest K ⟨hR, hL⟩ hf hq)
set_option maxHeartbeats 4000000 in
set_option maxRecDepth 100000 in
theorem v_X10_isImage {X : zX} (K : z_Ok X cX10_isImage (some .boolean) RX10 "isImage") (hX : z_Xo X rm_X10_isImage 2) {x0 : Option Nat} {x1 : Int32} {h : zH} {nx : Nat} {x : (Int32 × zH)} (hf : f_X10_isImage x0 x1 h = some x) (hp : z_P0I X nx x) : zV X 0 [(0, tA x0), (1, tI x1)] [] h nx 0 0 := by
  unfold f_X10_isImage at hf
  refine zv_iload_n K 1 eX10_isImage_0 rfl ?_
  refine zv_if_lt K 17 eX10_isImage_1 (by decide) hf (fun _ hf => ?_) (fun _ hf => ?_)
  · refine zv_iconst K (0 : Int32) eX10_isImage_17 (by decide) ?_
    cases hf
    exact zv_zret K eX10_isImage_18 (by decide) hp
  · refine zv_iload_n K 1 eX10_isImage_4 rfl ?_
    refine zv_aload_n K 0 eX10_isImage_5 rfl ?_
    refine zv_gA K eX10_isImage_6 fl_X10_16 hf (fun v1 hf => ?_)
    refine zv_len K eX10_isImage_9 hf (fun v2 hf => ?_)
    refine zv_icmp_ge K 17 eX10_isImage_10 (by decide) hf (fun _ hf => ?_) (fun _ hf => ?_)
    · refine zv_iconst K (0 : Int32) eX10_isImage_17 (by decide) ?_
      cases hf
      exact zv_zret K eX10_isImage_18 (by decide) hp
    · refine zv_iconst K (1 : Int32) eX10_isImage_13 (by decide) ?_
      refine zv_goto K 18 eX10_isImage_14 (by decide) ?_
      cases hf
      exact zv_zret K eX10_isImage_18 (by decide) hp
theorem c_X10_isImage (l : Launch) (G : zG) {x0 : Option Nat} {x1 : Int32} {h : zH} {nx : Nat} {x : Int32 × zH} (hf : f_X10_isImage x0 x1 h = some x) : z_Ct l G yX10_isImage cX10_isImage 2 (some .boolean) rm_X10_isImage [tA x0, tI x1] h nx (some (tI x.1)) x.2 nx 0 0 :=
  z_enter [(0, tA x0), (1, tI x1)] (by decide +kernel) (Nat.le_of_ble_eq_true rfl) rfl (fun X hl hR hG hL K hq => by
    subst hl; subst hG
    exact v_X10_isImage K ⟨hR, hL⟩ hf hq)
theorem m_X10_image_b32  {x0 : Option Nat} {x1 : Int32} {h : zH} {nx z : Nat} {x : ((Nat × Nat) × (Int32 × zH))} (hf : f_X10_image_b32 x0 x1 h nx z = some x) : nx ≤ x.1.1 ∧ z ≤ x.1.2 := by
  unfold f_X10_image_b32 at hf
  obtain ⟨_, _, hf⟩ := z_bind_inv hf
  obtain ⟨_, _, hf⟩ := z_bind_inv hf
  obtain ⟨_, _, hf⟩ := z_bind_inv hf
  obtain ⟨_, _, hf⟩ := z_bind_inv hf
  obtain ⟨_, _, hf⟩ := z_bind_inv hf
  cases hf
  exact ⟨by (try dsimp only at *); omega, by (try dsimp only at *); omega⟩
set_option maxHeartbeats 4000000 in
set_option maxRecDepth 100000 in
theorem v_X10_image_b32 {X : zX} {cc0 ss0 nx0 z0 : Nat} (K : z_Ok X cX10_image (some .int) RX10 "image") (hX : z_Xo X (rm_X10_image cc0 ss0) 2) {x0 : Option Nat} {x1 : Int32} {h : zH} {nx z : Nat} (hm : nx0 ≤ nx ∧ z0 ≤ z) {x : ((Nat × Nat) × (Int32 × zH))} (hf : f_X10_image_b32 x0 x1 h nx z = some x) (hp : z_Pm X nx0 z0 (z_P0Im X nx0 z0) x) : zV X 32 [(0, tA x0), (1, tI x1)] [] h nx (nx - nx0) (z - z0) := by
  have mB := m_X10_image_b32 hf
  unfold f_X10_image_b32 at hf
  refine zv_aload_n K 0 eX10_image_32 rfl ?_
  refine zv_gA K eX10_image_33 fl_X10_16 hf (fun v1 hf => ?_)
  refine zv_iload_n K 1 eX10_image_36 rfl ?_
  refine zv_aA K eX10_image_37 hf (fun v2 hf => ?_)
  refine zv_aload_n K 0 eX10_image_38 rfl ?_
  refine zv_gA K eX10_image_39 fl_X10_10 hf (fun v3 hf => ?_)
  obtain ⟨q4, hq4, hf⟩ := z_bind_inv hf
  obtain ⟨h5, eh5, hf⟩ := z_bind_inv hf
  refine zv_cV0 K [tA v3] [] eX10_image_42 lk_X10_260 md_X6_become im_X6_become sl_X6_become rfl rfl rfl rfl (Nat.le_of_ble_eq_true rfl) hq4 (c_X6_become X.1.2.1 X.2.2.1 eh5) rfl rfl ⟨z_le (z_fr hX) (by exact Nat.le_of_ble_eq_true rfl), z_le (z_lo hX) (by exact Nat.le_of_ble_eq_true rfl)⟩ (z_bd hp mB) ?_
  refine zv_iconst K (1 : Int32) eX10_image_45 (by decide) ?_
  have e9 := Option.some.inj hf; subst e9
  exact zv_iret K eX10_image_46 hp.2
theorem m_X10_image_b31  {x0 : Option Nat} {x1 : Int32} {s0 : Option Nat} {s1 : Int32} {s2 : Option Nat} {h : zH} {nx z : Nat} {x : ((Nat × Nat) × (Int32 × zH))} (hf : f_X10_image_b31 x0 x1 s0 s1 s2 h nx z = some x) : nx ≤ x.1.1 ∧ z ≤ x.1.2 := by
  unfold f_X10_image_b31 at hf
  obtain ⟨_, _, hf⟩ := z_bind_inv hf
  have m9 := m_X10_image_b32 hf
  exact ⟨by (try dsimp only at *); omega, by (try dsimp only at *); omega⟩
set_option maxHeartbeats 4000000 in
set_option maxRecDepth 100000 in
theorem v_X10_image_b31 {X : zX} {cc0 ss0 nx0 z0 : Nat} (K : z_Ok X cX10_image (some .int) RX10 "image") (hX : z_Xo X (rm_X10_image cc0 ss0) 2) {x0 : Option Nat} {x1 : Int32} {s0 : Option Nat} {s1 : Int32} {s2 : Option Nat} {h : zH} {nx z : Nat} (hm : nx0 ≤ nx ∧ z0 ≤ z) {x : ((Nat × Nat) × (Int32 × zH))} (hf : f_X10_image_b31 x0 x1 s0 s1 s2 h nx z = some x) (hp : z_Pm X nx0 z0 (z_P0Im X nx0 z0) x) : zV X 31 [(0, tA x0), (1, tI x1)] [tA s2, tI s1, tA s0] h nx (nx - nx0) (z - z0) := by
  have mB := m_X10_image_b31 hf
  unfold f_X10_image_b31 at hf
  refine zv_sA K eX10_image_31 hf (fun h1 hf => ?_)
  exact zv_sub [0, 1] rfl (v_X10_image_b32 K hX (by omega) hf hp)
theorem m_X10_image_b27  {x0 : Option Nat} {x1 : Int32} {s0 : Option Nat} {s1 : Int32} {s2 : Option Nat} {h : zH} {nx z : Nat} {x : ((Nat × Nat) × (Int32 × zH))} (hf : f_X10_image_b27 x0 x1 s0 s1 s2 h nx z = some x) : nx ≤ x.1.1 ∧ z ≤ x.1.2 := by
  unfold f_X10_image_b27 at hf
  obtain ⟨_, _, hf⟩ := z_bind_inv hf
  obtain ⟨n3, eh2, hf⟩ := z_bind_inv hf
  have mn3 := m_X6_init eh2
  have m9 := m_X10_image_b31 hf
  exact ⟨by (try dsimp only at *); omega, by (try dsimp only at *); omega⟩
set_option maxHeartbeats 4000000 in
set_option maxRecDepth 100000 in
theorem v_X10_image_b27 {X : zX} {cc0 ss0 nx0 z0 : Nat} (K : z_Ok X cX10_image (some .int) RX10 "image") (hX : z_Xo X (rm_X10_image cc0 ss0) 2) {x0 : Option Nat} {x1 : Int32} {s0 : Option Nat} {s1 : Int32} {s2 : Option Nat} {h : zH} {nx z : Nat} (hm : nx0 ≤ nx ∧ z0 ≤ z) {x : ((Nat × Nat) × (Int32 × zH))} (hf : f_X10_image_b27 x0 x1 s0 s1 s2 h nx z = some x) (hp : z_Pm X nx0 z0 (z_P0Im X nx0 z0) x) : zV X 27 [(0, tA x0), (1, tI x1)] [tA s2, tI s1, tA s0] h nx (nx - nx0) (z - z0) := by
  have mB := m_X10_image_b27 hf
  unfold f_X10_image_b27 at hf
  refine zv_dup K eX10_image_27 rfl ?_
  obtain ⟨q1, hq1, hf⟩ := z_bind_inv hf
  obtain ⟨n3, eh2, hf⟩ := z_bind_inv hf
  have mn3 := m_X6_init eh2
  have m9 := m_X10_image_b31 hf
  refine zv_cI1 K [] [tA s2, tI s1, tA s0] (n3.1.1 - nx0) (n3.1.2 - z0) eX10_image_28 lk_X10_9 md_X6_init im_X6_init rfl rfl rfl (Nat.le_of_ble_eq_true rfl) hq1 (c_X6_init X.1.2.1 X.2.2.1 eh2) rfl rfl ⟨z_le (z_fr hX) (by exact Nat.le_of_ble_eq_true rfl), z_le (z_lo hX) (by exact Nat.le_of_ble_eq_true rfl)⟩ (by omega) (by omega) (by omega) (z_bd hp m9) ?_
  exact zv_sub [0, 1] rfl (v_X10_image_b31 K hX (by omega) hf hp)
theorem m_X10_image  {x0 : Option Nat} {x1 : Int32} {h : zH} {nx z : Nat} {x : ((Nat × Nat) × (Int32 × zH))} (hf : f_X10_image x0 x1 h nx z = some x) : nx ≤ x.1.1 ∧ z ≤ x.1.2 := by
  unfold f_X10_image at hf
  obtain ⟨_, _, hf⟩ := z_bind_inv hf
  obtain ⟨_, _, _, hf⟩ := z_b2_inv hf
  refine z_ite_inv _ hf (fun _ hf => ?_) (fun _ hf => ?_)
  · cases hf
    exact ⟨by (try dsimp only at *); omega, by (try dsimp only at *); omega⟩
  · obtain ⟨_, _, hf⟩ := z_bind_inv hf
    obtain ⟨_, _, hf⟩ := z_bind_inv hf
    refine z_ite_inv _ hf (fun _ hf => ?_) (fun _ hf => ?_)
    · obtain ⟨_, _, hf⟩ := z_bind_inv hf
      have m9 := m_X10_image_b27 hf
      exact ⟨by (try dsimp only at *); omega, by (try dsimp only at *); omega⟩
    · have m9 := m_X10_image_b32 hf
      exact ⟨by (try dsimp only at *); omega, by (try dsimp only at *); omega⟩
set_option maxHeartbeats 4000000 in
set_option maxRecDepth 100000 in
theorem v_X10_image {X : zX} {cc0 ss0 nx0 z0 : Nat} (K : z_Ok X cX10_image (some .int) RX10 "image") (hX : z_Xo X (rm_X10_image cc0 ss0) 2) {x0 : Option Nat} {x1 : Int32} {h : zH} {nx z : Nat} (hm : nx0 ≤ nx ∧ z0 ≤ z) {x : ((Nat × Nat) × (Int32 × zH))} (hf : f_X10_image x0 x1 h nx z = some x) (hp : z_Pm X nx0 z0 (z_P0Im X nx0 z0) x) : zV X 0 [(0, tA x0), (1, tI x1)] [] h nx (nx - nx0) (z - z0) := by
  have mB := m_X10_image hf
  unfold f_X10_image at hf
  refine zv_aload_n K 0 eX10_image_0 rfl ?_
  refine zv_iload_n K 1 eX10_image_1 rfl ?_
  obtain ⟨q1, hq1, hf⟩ := z_bind_inv hf
  obtain ⟨v3, h2, eh2, hf⟩ := z_b2_inv hf
  refine zv_cV0 K [tI x1] [] eX10_image_2 lk_X10_257 md_X10_isImage im_X10_isImage sl_X10_isImage rfl rfl rfl rfl (Nat.le_of_ble_eq_true rfl) hq1 (c_X10_isImage X.1.2.1 X.2.2.1 eh2) rfl rfl ⟨z_le (z_fr hX) (by exact Nat.le_of_ble_eq_true rfl), z_le (z_lo hX) (by exact Nat.le_of_ble_eq_true rfl)⟩ (z_bd hp mB) ?_
  refine zv_if_ne K 10 eX10_image_5 (by decide) hf (fun _ hf => ?_) (fun _ hf => ?_)
  · refine zv_aload_n K 0 eX10_image_10 rfl ?_
    refine zv_gA K eX10_image_11 fl_X10_16 hf (fun v4 hf => ?_)
    refine zv_iload_n K 1 eX10_image_14 rfl ?_
    refine zv_aA K eX10_image_15 hf (fun v5 hf => ?_)
    refine zv_ifnonnull K 32 eX10_image_16 (by decide) hf (fun _ hf => ?_) (fun _ hf => ?_)
    · exact zv_sub [0, 1] rfl (v_X10_image_b32 K hX (by omega) hf hp)
    · refine zv_aload_n K 0 eX10_image_19 rfl ?_
      refine zv_gA K eX10_image_20 fl_X10_16 hf (fun v6 hf => ?_)
      refine zv_iload_n K 1 eX10_image_23 rfl ?_
      have m9 := m_X10_image_b27 hf
      refine zv_new K 6 _ [tJ 0, tJ 0, tA none, tA none, tI 0, tA none, tI 0, tI 0, tI 0] (nx + 1 - nx0) (z + 9 - z0) eX10_image_24 rfl cl_X10_7 nb_6 nt_6 df_6 (by omega) (by show _ + 9 = _; omega) (z_bd hp m9) ?_
      exact zv_sub [0, 1] rfl (v_X10_image_b27 K hX (by omega) hf hp)
  · refine zv_iconst K (-1 : Int32) eX10_image_8 (by decide) ?_
    have e9 := Option.some.inj hf; subst e9
    exact zv_iret K eX10_image_9 hp.2
theorem c_X10_image (l : Launch) (G : zG) {x0 : Option Nat} {x1 : Int32} {h : zH} {nx z : Nat} {x : (Nat × Nat) × (Int32 × zH)} (hf : f_X10_image x0 x1 h nx z = some x) : z_Ct l G yX10_image cX10_image 2 (some .int) (rm_X10_image (x.1.1 - nx) (x.1.2 - z)) [tA x0, tI x1] h nx (some (tI x.2.1)) x.2.2 x.1.1 (x.1.1 - nx) (x.1.2 - z) :=
  z_enter [(0, tA x0), (1, tI x1)] (by decide +kernel) (Nat.le_of_ble_eq_true rfl) rfl (fun X hl hR hG hL K hq => by
    subst hl; subst hG
    have mm := m_X10_image hf
    have := v_X10_image K ⟨hR, hL⟩ (nx0 := nx) (z0 := z) ⟨Nat.le_refl _, Nat.le_refl _⟩ hf ⟨by rw [hR]; (try dsimp only [rm_X10_image]); omega, hq⟩
    rw [Nat.sub_self, Nat.sub_self] at this
    exact this)
set_option maxHeartbeats 4000000 in
set_option maxRecDepth 100000 in
theorem v_X10_restore {X : zX} (K : z_Ok X cX10_restore (some .int) RX10 "restore") (hX : z_Xo X rm_X10_restore 2) {x0 : Option Nat} {x1 : Int32} {h : zH} {nx : Nat} {x : (Int32 × zH)} (hf : f_X10_restore x0 x1 h = some x) (hp : z_P0I X nx x) : zV X 0 [(0, tA x0), (1, tI x1)] [] h nx 0 0 := by
  unfold f_X10_restore at hf
  refine zv_aload_n K 0 eX10_restore_0 rfl ?_
  refine zv_iload_n K 1 eX10_restore_1 rfl ?_
  obtain ⟨q1, hq1, hf⟩ := z_bind_inv hf
  obtain ⟨v3, h2, eh2, hf⟩ := z_b2_inv hf
  refine zv_cV0 K [tI x1] [] eX10_restore_2 lk_X10_257 md_X10_isImage im_X10_isImage sl_X10_isImage rfl rfl rfl rfl (Nat.le_of_ble_eq_true rfl) hq1 (c_X10_isImage X.1.2.1 X.2.2.1 eh2) rfl rfl ⟨z_le (z_fr hX) (by decide), z_le (z_lo hX) (by decide)⟩ ⟨Nat.zero_le _, Nat.zero_le _⟩ ?_
  refine zv_if_ne K 10 eX10_restore_5 (by decide) hf (fun _ hf => ?_) (fun _ hf => ?_)
  · refine zv_aload_n K 0 eX10_restore_10 rfl ?_
    refine zv_gA K eX10_restore_11 fl_X10_16 hf (fun v4 hf => ?_)
    refine zv_iload_n K 1 eX10_restore_14 rfl ?_
    refine zv_aA K eX10_restore_15 hf (fun v5 hf => ?_)
    refine zv_ifnonnull K 22 eX10_restore_16 (by decide) hf (fun _ hf => ?_) (fun _ hf => ?_)
    · refine zv_aload_n K 0 eX10_restore_22 rfl ?_
      refine zv_gA K eX10_restore_23 fl_X10_10 hf (fun v6 hf => ?_)
      refine zv_aload_n K 0 eX10_restore_26 rfl ?_
      refine zv_gA K eX10_restore_27 fl_X10_16 hf (fun v7 hf => ?_)
      refine zv_iload_n K 1 eX10_restore_30 rfl ?_
      refine zv_aA K eX10_restore_31 hf (fun v8 hf => ?_)
      obtain ⟨q9, hq9, hf⟩ := z_bind_inv hf
      obtain ⟨h10, eh10, hf⟩ := z_bind_inv hf
      refine zv_cV0 K [tA v8] [] eX10_restore_32 lk_X10_260 md_X6_become im_X6_become sl_X6_become rfl rfl rfl rfl (Nat.le_of_ble_eq_true rfl) hq9 (c_X6_become X.1.2.1 X.2.2.1 eh10) rfl rfl ⟨z_le (z_fr hX) (by decide), z_le (z_lo hX) (by decide)⟩ ⟨Nat.zero_le _, Nat.zero_le _⟩ ?_
      refine zv_iconst K (1 : Int32) eX10_restore_35 (by decide) ?_
      have e9 := Option.some.inj hf; subst e9
      exact zv_iret K eX10_restore_36 hp
    · refine zv_bipush K (-4 : Int32) eX10_restore_19 (by decide) ?_
      have e9 := Option.some.inj hf; subst e9
      exact zv_iret K eX10_restore_21 hp
  · refine zv_iconst K (-1 : Int32) eX10_restore_8 (by decide) ?_
    have e9 := Option.some.inj hf; subst e9
    exact zv_iret K eX10_restore_9 hp
theorem c_X10_restore (l : Launch) (G : zG) {x0 : Option Nat} {x1 : Int32} {h : zH} {nx : Nat} {x : Int32 × zH} (hf : f_X10_restore x0 x1 h = some x) : z_Ct l G yX10_restore cX10_restore 2 (some .int) rm_X10_restore [tA x0, tI x1] h nx (some (tI x.1)) x.2 nx 0 0 :=
  z_enter [(0, tA x0), (1, tI x1)] (by decide +kernel) (Nat.le_of_ble_eq_true rfl) rfl (fun X hl hR hG hL K hq => by
    subst hl; subst hG
    exact v_X10_restore K ⟨hR, hL⟩ hf hq)
set_option maxHeartbeats 4000000 in
set_option maxRecDepth 100000 in
theorem v_X10_refusesFilm_b28 {X : zX} (K : z_Ok X cX10_refusesFilm (some .int) RX10 "refusesFilm") (hX : z_Xo X rm_X10_refusesFilm 5) {x0 : Option Nat} {x1 : Int32} {x2 : Int32} {x3 : Int32} {x4 : Int32} {h : zH} {nx : Nat} {x : (Int32 × zH)} (hf : f_X10_refusesFilm_b28 x0 x1 x2 x3 x4 h = some x) (hp : z_P0I X nx x) : zV X 28 [(0, tA x0), (1, tI x1), (2, tI x2), (3, tI x3), (4, tI x4)] [] h nx 0 0 := by
  unfold f_X10_refusesFilm_b28 at hf
  refine zv_aload_n K 0 eX10_refusesFilm_28 rfl ?_
  refine zv_gA K eX10_refusesFilm_29 fl_X10_22 hf (fun v1 hf => ?_)
  refine zv_iload_n K 2 eX10_refusesFilm_32 rfl ?_
  refine zv_aA K eX10_refusesFilm_33 hf (fun v2 hf => ?_)
  refine zv_iload_n K 3 eX10_refusesFilm_34 rfl ?_
  refine zv_iload K 4 eX10_refusesFilm_35 rfl ?_
  refine zv_aload_n K 0 eX10_refusesFilm_37 rfl ?_
  refine zv_gA K eX10_refusesFilm_38 fl_X10_10 hf (fun v3 hf => ?_)
  refine zv_gA K eX10_refusesFilm_41 fl_X10_123 hf (fun v4 hf => ?_)
  refine zv_iload_n K 1 eX10_refusesFilm_44 rfl ?_
  refine zv_aA K eX10_refusesFilm_45 hf (fun v5 hf => ?_)
  refine zv_gI K eX10_refusesFilm_46 fl_X10_232 hf (fun v6 hf => ?_)
  obtain ⟨q7, hq7, hf⟩ := z_bind_inv hf
  obtain ⟨v9, h8, eh8, hf⟩ := z_b2_inv hf
  refine zv_cV0 K [tI x3, tI x4, tI v6] [] eX10_refusesFilm_49 lk_X10_78 md_X7_refuses im_X7_refuses sl_X7_refuses rfl rfl rfl rfl (Nat.le_of_ble_eq_true rfl) hq7 (c_X7_refuses X.1.2.1 X.2.2.1 eh8) rfl rfl ⟨z_le (z_fr hX) (by decide), z_le (z_lo hX) (by decide)⟩ ⟨Nat.zero_le _, Nat.zero_le _⟩ ?_
  have e9 := Option.some.inj hf; subst e9
  exact zv_iret K eX10_refusesFilm_52 hp
set_option maxHeartbeats 4000000 in
set_option maxRecDepth 100000 in
theorem v_X10_refusesFilm {X : zX} (K : z_Ok X cX10_refusesFilm (some .int) RX10 "refusesFilm") (hX : z_Xo X rm_X10_refusesFilm 5) {x0 : Option Nat} {x1 : Int32} {x2 : Int32} {x3 : Int32} {x4 : Int32} {h : zH} {nx : Nat} {x : (Int32 × zH)} (hf : f_X10_refusesFilm x0 x1 x2 x3 x4 h = some x) (hp : z_P0I X nx x) : zV X 0 [(0, tA x0), (1, tI x1), (2, tI x2), (3, tI x3), (4, tI x4)] [] h nx 0 0 := by
  unfold f_X10_refusesFilm at hf
  refine zv_aload_n K 0 eX10_refusesFilm_0 rfl ?_
  refine zv_iload_n K 1 eX10_refusesFilm_1 rfl ?_
  obtain ⟨q1, hq1, hf⟩ := z_bind_inv hf
  obtain ⟨v3, h2, eh2, hf⟩ := z_b2_inv hf
  refine zv_cV0 K [tI x1] [] eX10_refusesFilm_2 lk_X10_172 md_X10_isArm im_X10_isArm sl_X10_isArm rfl rfl rfl rfl (Nat.le_of_ble_eq_true rfl) hq1 (c_X10_isArm X.1.2.1 X.2.2.1 eh2) rfl rfl ⟨z_le (z_fr hX) (by decide), z_le (z_lo hX) (by decide)⟩ ⟨Nat.zero_le _, Nat.zero_le _⟩ ?_
  refine zv_if_eq K 26 eX10_refusesFilm_5 (by decide) hf (fun _ hf => ?_) (fun _ hf => ?_)
  · refine zv_iconst K (-1 : Int32) eX10_refusesFilm_26 (by decide) ?_
    have e9 := Option.some.inj hf; subst e9
    exact zv_iret K eX10_refusesFilm_27 hp
  · refine zv_aload_n K 0 eX10_refusesFilm_8 rfl ?_
    refine zv_iload_n K 2 eX10_refusesFilm_9 rfl ?_
    obtain ⟨q4, hq4, hf⟩ := z_bind_inv hf
    obtain ⟨v6, h5, eh5, hf⟩ := z_b2_inv hf
    refine zv_cV0 K [tI x2] [] eX10_refusesFilm_10 lk_X10_74 md_X10_isSheet im_X10_isSheet sl_X10_isSheet rfl rfl rfl rfl (Nat.le_of_ble_eq_true rfl) hq4 (c_X10_isSheet X.1.2.1 X.2.2.1 eh5) rfl rfl ⟨z_le (z_fr hX) (by decide), z_le (z_lo hX) (by decide)⟩ ⟨Nat.zero_le _, Nat.zero_le _⟩ ?_
    refine zv_if_eq K 26 eX10_refusesFilm_13 (by decide) hf (fun _ hf => ?_) (fun _ hf => ?_)
    · refine zv_iconst K (-1 : Int32) eX10_refusesFilm_26 (by decide) ?_
      have e9 := Option.some.inj hf; subst e9
      exact zv_iret K eX10_refusesFilm_27 hp
    · refine zv_iload_n K 3 eX10_refusesFilm_16 rfl ?_
      refine zv_iconst K (1 : Int32) eX10_refusesFilm_17 (by decide) ?_
      refine zv_icmp_eq K 28 eX10_refusesFilm_18 (by decide) hf (fun _ hf => ?_) (fun _ hf => ?_)
      · exact zv_sub [0, 1, 2, 3, 4] rfl (v_X10_refusesFilm_b28 K hX hf hp)
      · refine zv_iload_n K 3 eX10_refusesFilm_21 rfl ?_
        refine zv_iconst K (2 : Int32) eX10_refusesFilm_22 (by decide) ?_
        refine zv_icmp_eq K 28 eX10_refusesFilm_23 (by decide) hf (fun _ hf => ?_) (fun _ hf => ?_)
        · exact zv_sub [0, 1, 2, 3, 4] rfl (v_X10_refusesFilm_b28 K hX hf hp)
        · refine zv_iconst K (-1 : Int32) eX10_refusesFilm_26 (by decide) ?_
          have e9 := Option.some.inj hf; subst e9
          exact zv_iret K eX10_refusesFilm_27 hp
theorem c_X10_refusesFilm (l : Launch) (G : zG) {x0 : Option Nat} {x1 : Int32} {x2 : Int32} {x3 : Int32} {x4 : Int32} {h : zH} {nx : Nat} {x : Int32 × zH} (hf : f_X10_refusesFilm x0 x1 x2 x3 x4 h = some x) : z_Ct l G yX10_refusesFilm cX10_refusesFilm 5 (some .int) rm_X10_refusesFilm [tA x0, tI x1, tI x2, tI x3, tI x4] h nx (some (tI x.1)) x.2 nx 0 0 :=
  z_enter [(0, tA x0), (1, tI x1), (2, tI x2), (3, tI x3), (4, tI x4)] (by decide +kernel) (Nat.le_of_ble_eq_true rfl) rfl (fun X hl hR hG hL K hq => by
    subst hl; subst hG
    exact v_X10_refusesFilm K ⟨hR, hL⟩ hf hq)
def P_X10_film_33 (X : zX) (nx : Nat) : ((Option Nat) × Int32 × Int32 × (Option Nat) × Int32 × zH) ⊕ (Int32 × zH) → Prop := z_PL (fun s => zV X 33 [(0, tA s.1), (2, tI s.2.1), (4, tI s.2.2.1), (6, tA s.2.2.2.1), (7, tI s.2.2.2.2.1)] [] s.2.2.2.2.2 nx 0 0) (z_P0I X nx)
set_option maxHeartbeats 4000000 in
set_option maxRecDepth 100000 in
theorem v_X10_film_c33 {X : zX} (K : z_Ok X cX10_film (some .int) RX10 "film") (hX : z_Xo X rm_X10_film 8) {x0 : Option Nat} {x2 : Int32} {x4 : Int32} {x6 : Option Nat} {x7 : Int32} {h : zH} {nx : Nat} {x : (((Option Nat) × Int32 × Int32 × (Option Nat) × Int32 × zH) ⊕ (Int32 × zH))} (hf : f_X10_film_c33 x0 x2 x4 x6 x7 h = some x) (hp : P_X10_film_33 X nx x) : zV X 33 [(0, tA x0), (2, tI x2), (4, tI x4), (6, tA x6), (7, tI x7)] [] h nx 0 0 := by
  unfold f_X10_film_c33 at hf
  refine zv_iload K 4 eX10_film_33 rfl ?_
  refine zv_aload K 3 eX10_film_35 rfl ?_
  refine zv_gI K eX10_film_37 fl_X10_232 hf (fun v1 hf => ?_)
  refine zv_icmp_ge K 72 eX10_film_40 (by decide) hf (fun _ hf => ?_) (fun _ hf => ?_)
  · obtain ⟨w9, hf9, e9⟩ := z_i1_inv hf; clear hf; subst e9; have hf := hf9; clear hf9
    refine zv_aload K 3 eX10_film_72 rfl ?_
    refine zv_gI K eX10_film_74 fl_X10_232 hf (fun v2 hf => ?_)
    have e9 := Option.some.inj hf; subst e9
    exact zv_iret K eX10_film_77 hp
  · refine zv_aload_n K 0 eX10_film_43 rfl ?_
    refine zv_gA K eX10_film_44 fl_X10_22 hf (fun v3 hf => ?_)
    refine zv_iload_n K 1 eX10_film_47 rfl ?_
    refine zv_aA K eX10_film_48 hf (fun v4 hf => ?_)
    refine zv_gA K eX10_film_49 fl_X10_268 hf (fun v5 hf => ?_)
    refine zv_iload K 2 eX10_film_52 rfl ?_
    refine zv_iload K 4 eX10_film_54 rfl ?_
    refine zv_iadd K eX10_film_56 ?_
    refine zv_aload K 3 eX10_film_57 rfl ?_
    refine zv_gA K eX10_film_59 fl_X10_127 hf (fun v6 hf => ?_)
    refine zv_iload K 4 eX10_film_62 rfl ?_
    refine zv_aI K eX10_film_64 hf (fun v7 hf => ?_)
    refine zv_sI K eX10_film_65 hf (fun h8 hf => ?_)
    refine zv_iinc K (x7 + (1 : Int32)) 4 [(7, tI (x7 + (1 : Int32))), (0, tA x0), (2, tI x2), (4, tI x4), (6, tA x6)] eX10_film_66 rfl rfl (z_lt hX.2 (by decide)) rfl ?_
    refine zv_goto K 33 eX10_film_69 (by decide) ?_
    cases hf
    exact zv_sub [1, 2, 3, 4, 0] rfl (show zV X 33 [(0, tA x0), (2, tI x2), (4, tI x4), (6, tA x6), (7, tI (x7 + (1 : Int32)))] [] h8 nx 0 0 from hp)
theorem v_X10_film_b33 {X : zX} (K : z_Ok X cX10_film (some .int) RX10 "film") (hX : z_Xo X rm_X10_film 8) {x0 : Option Nat} {x2 : Int32} {x4 : Int32} {x6 : Option Nat} {x7 : Int32} {h : zH} {nx : Nat} {x : (Int32 × zH)} (hf : f_X10_film_b33 x0 x2 x4 x6 x7 h = some x) (hp : z_P0I X nx x) : zV X 33 [(0, tA x0), (2, tI x2), (4, tI x4), (6, tA x6), (7, tI x7)] [] h nx 0 0 :=
  z_it_ind (P := fun s : (Option Nat) × Int32 × Int32 × (Option Nat) × Int32 × zH => zV X 33 [(0, tA s.1), (2, tI s.2.1), (4, tI s.2.2.1), (6, tA s.2.2.2.1), (7, tI s.2.2.2.2.1)] [] s.2.2.2.2.2 nx 0 0) (fun s y hb hy => v_X10_film_c33 K hX hb (z_PL_of hy hp)) hf
set_option maxHeartbeats 4000000 in
set_option maxRecDepth 100000 in
theorem v_X10_film {X : zX} (K : z_Ok X cX10_film (some .int) RX10 "film") (hX : z_Xo X rm_X10_film 8) {x0 : Option Nat} {x1 : Int32} {x2 : Int32} {x3 : Int32} {x4 : Int32} {h : zH} {nx : Nat} {x : (Int32 × zH)} (hf : f_X10_film x0 x1 x2 x3 x4 h = some x) (hp : z_P0I X nx x) : zV X 0 [(0, tA x0), (1, tI x1), (2, tI x2), (3, tI x3), (4, tI x4)] [] h nx 0 0 := by
  unfold f_X10_film at hf
  refine zv_aload_n K 0 eX10_film_0 rfl ?_
  refine zv_iload_n K 1 eX10_film_1 rfl ?_
  refine zv_iload_n K 2 eX10_film_2 rfl ?_
  refine zv_iload_n K 3 eX10_film_3 rfl ?_
  refine zv_iload K 4 eX10_film_4 rfl ?_
  obtain ⟨q1, hq1, hf⟩ := z_bind_inv hf
  obtain ⟨v3, h2, eh2, hf⟩ := z_b2_inv hf
  refine zv_cV0 K [tI x1, tI x2, tI x3, tI x4] [] eX10_film_6 lk_X10_264 md_X10_refusesFilm im_X10_refusesFilm sl_X10_refusesFilm rfl rfl rfl rfl (Nat.le_of_ble_eq_true rfl) hq1 (c_X10_refusesFilm X.1.2.1 X.2.2.1 eh2) rfl rfl ⟨z_le (z_fr hX) (by decide), z_le (z_lo hX) (by decide)⟩ ⟨Nat.zero_le _, Nat.zero_le _⟩ ?_
  refine zv_istore K [(5, tI v3), (0, tA x0), (1, tI x1), (2, tI x2), (3, tI x3), (4, tI x4)] eX10_film_9 (z_lt hX.2 (by decide)) rfl ?_
  refine zv_iload K 0 eX10_film_11 rfl ?_
  refine zv_if_eq K 19 eX10_film_13 (by decide) hf (fun _ hf => ?_) (fun _ hf => ?_)
  · refine zv_aload_n K 1 eX10_film_19 rfl ?_
    refine zv_gA K eX10_film_20 fl_X10_10 hf (fun v4 hf => ?_)
    refine zv_gA K eX10_film_23 fl_X10_123 hf (fun v5 hf => ?_)
    refine zv_iload_n K 2 eX10_film_26 rfl ?_
    refine zv_aA K eX10_film_27 hf (fun v6 hf => ?_)
    refine zv_astore K [(6, tA v6), (5, tI v3), (0, tA x0), (1, tI x1), (2, tI x2), (3, tI x3), (4, tI x4)] eX10_film_28 (z_lt hX.2 (by decide)) rfl ?_
    refine zv_iconst K (0 : Int32) eX10_film_30 (by decide) ?_
    refine zv_istore K [(7, tI (0 : Int32)), (6, tA v6), (5, tI v3), (0, tA x0), (1, tI x1), (2, tI x2), (3, tI x3), (4, tI x4)] eX10_film_31 (z_lt hX.2 (by decide)) rfl ?_
    exact zv_sub [3, 5, 7, 1, 0] rfl (v_X10_film_b33 K hX hf hp)
  · refine zv_iload K 0 eX10_film_16 rfl ?_
    have e9 := Option.some.inj hf; subst e9
    exact zv_iret K eX10_film_18 hp
theorem c_X10_film (l : Launch) (G : zG) {x0 : Option Nat} {x1 : Int32} {x2 : Int32} {x3 : Int32} {x4 : Int32} {h : zH} {nx : Nat} {x : Int32 × zH} (hf : f_X10_film x0 x1 x2 x3 x4 h = some x) : z_Ct l G yX10_film cX10_film 8 (some .int) rm_X10_film [tA x0, tI x1, tI x2, tI x3, tI x4] h nx (some (tI x.1)) x.2 nx 0 0 :=
  z_enter [(0, tA x0), (1, tI x1), (2, tI x2), (3, tI x3), (4, tI x4)] (by decide +kernel) (Nat.le_of_ble_eq_true rfl) rfl (fun X hl hR hG hL K hq => by
    subst hl; subst hG
    exact v_X10_film K ⟨hR, hL⟩ hf hq)
def P_X10_differs_33 (X : zX) (nx : Nat) : ((Option Nat) × Int32 × Int32 × (Option Nat) × Int32 × zH) ⊕ (Int32 × zH) → Prop := z_PL (fun s => zV X 33 [(0, tA s.1), (2, tI s.2.1), (4, tI s.2.2.1), (6, tA s.2.2.2.1), (7, tI s.2.2.2.2.1)] [] s.2.2.2.2.2 nx 0 0) (z_P0I X nx)
set_option maxHeartbeats 4000000 in
set_option maxRecDepth 100000 in
theorem v_X10_differs_c33 {X : zX} (K : z_Ok X cX10_differs (some .int) RX10 "differs") (hX : z_Xo X rm_X10_differs 8) {x0 : Option Nat} {x2 : Int32} {x4 : Int32} {x6 : Option Nat} {x7 : Int32} {h : zH} {nx : Nat} {x : (((Option Nat) × Int32 × Int32 × (Option Nat) × Int32 × zH) ⊕ (Int32 × zH))} (hf : f_X10_differs_c33 x0 x2 x4 x6 x7 h = some x) (hp : P_X10_differs_33 X nx x) : zV X 33 [(0, tA x0), (2, tI x2), (4, tI x4), (6, tA x6), (7, tI x7)] [] h nx 0 0 := by
  unfold f_X10_differs_c33 at hf
  refine zv_iload K 4 eX10_differs_33 rfl ?_
  refine zv_aload K 3 eX10_differs_35 rfl ?_
  refine zv_gI K eX10_differs_37 fl_X10_232 hf (fun v1 hf => ?_)
  refine zv_icmp_ge K 78 eX10_differs_40 (by decide) hf (fun _ hf => ?_) (fun _ hf => ?_)
  · obtain ⟨w9, hf9, e9⟩ := z_i1_inv hf; clear hf; subst e9; have hf := hf9; clear hf9
    refine zv_bipush K (-4 : Int32) eX10_differs_78 (by decide) ?_
    have e9 := Option.some.inj hf; subst e9
    exact zv_iret K eX10_differs_80 hp
  · refine zv_aload_n K 0 eX10_differs_43 rfl ?_
    refine zv_gA K eX10_differs_44 fl_X10_22 hf (fun v2 hf => ?_)
    refine zv_iload_n K 1 eX10_differs_47 rfl ?_
    refine zv_aA K eX10_differs_48 hf (fun v3 hf => ?_)
    refine zv_gA K eX10_differs_49 fl_X10_268 hf (fun v4 hf => ?_)
    refine zv_iload K 2 eX10_differs_52 rfl ?_
    refine zv_iload K 4 eX10_differs_54 rfl ?_
    refine zv_iadd K eX10_differs_56 ?_
    refine zv_aI K eX10_differs_57 hf (fun v5 hf => ?_)
    refine zv_aload K 3 eX10_differs_58 rfl ?_
    refine zv_gA K eX10_differs_60 fl_X10_127 hf (fun v6 hf => ?_)
    refine zv_iload K 4 eX10_differs_63 rfl ?_
    refine zv_aI K eX10_differs_65 hf (fun v7 hf => ?_)
    refine zv_icmp_eq K 72 eX10_differs_66 (by decide) hf (fun _ hf => ?_) (fun _ hf => ?_)
    · refine zv_iinc K (x7 + (1 : Int32)) 4 [(7, tI (x7 + (1 : Int32))), (0, tA x0), (2, tI x2), (4, tI x4), (6, tA x6)] eX10_differs_72 rfl rfl (z_lt hX.2 (by decide)) rfl ?_
      refine zv_goto K 33 eX10_differs_75 (by decide) ?_
      cases hf
      exact zv_sub [1, 2, 3, 4, 0] rfl (show zV X 33 [(0, tA x0), (2, tI x2), (4, tI x4), (6, tA x6), (7, tI (x7 + (1 : Int32)))] [] h nx 0 0 from hp)
    · obtain ⟨w9, hf9, e9⟩ := z_i1_inv hf; clear hf; subst e9; have hf := hf9; clear hf9
      refine zv_iload K 4 eX10_differs_69 rfl ?_
      have e9 := Option.some.inj hf; subst e9
      exact zv_iret K eX10_differs_71 hp
theorem v_X10_differs_b33 {X : zX} (K : z_Ok X cX10_differs (some .int) RX10 "differs") (hX : z_Xo X rm_X10_differs 8) {x0 : Option Nat} {x2 : Int32} {x4 : Int32} {x6 : Option Nat} {x7 : Int32} {h : zH} {nx : Nat} {x : (Int32 × zH)} (hf : f_X10_differs_b33 x0 x2 x4 x6 x7 h = some x) (hp : z_P0I X nx x) : zV X 33 [(0, tA x0), (2, tI x2), (4, tI x4), (6, tA x6), (7, tI x7)] [] h nx 0 0 :=
  z_it_ind (P := fun s : (Option Nat) × Int32 × Int32 × (Option Nat) × Int32 × zH => zV X 33 [(0, tA s.1), (2, tI s.2.1), (4, tI s.2.2.1), (6, tA s.2.2.2.1), (7, tI s.2.2.2.2.1)] [] s.2.2.2.2.2 nx 0 0) (fun s y hb hy => v_X10_differs_c33 K hX hb (z_PL_of hy hp)) hf
set_option maxHeartbeats 4000000 in
set_option maxRecDepth 100000 in
theorem v_X10_differs {X : zX} (K : z_Ok X cX10_differs (some .int) RX10 "differs") (hX : z_Xo X rm_X10_differs 8) {x0 : Option Nat} {x1 : Int32} {x2 : Int32} {x3 : Int32} {x4 : Int32} {h : zH} {nx : Nat} {x : (Int32 × zH)} (hf : f_X10_differs x0 x1 x2 x3 x4 h = some x) (hp : z_P0I X nx x) : zV X 0 [(0, tA x0), (1, tI x1), (2, tI x2), (3, tI x3), (4, tI x4)] [] h nx 0 0 := by
  unfold f_X10_differs at hf
  refine zv_aload_n K 0 eX10_differs_0 rfl ?_
  refine zv_iload_n K 1 eX10_differs_1 rfl ?_
  refine zv_iload_n K 2 eX10_differs_2 rfl ?_
  refine zv_iload_n K 3 eX10_differs_3 rfl ?_
  refine zv_iload K 4 eX10_differs_4 rfl ?_
  obtain ⟨q1, hq1, hf⟩ := z_bind_inv hf
  obtain ⟨v3, h2, eh2, hf⟩ := z_b2_inv hf
  refine zv_cV0 K [tI x1, tI x2, tI x3, tI x4] [] eX10_differs_6 lk_X10_264 md_X10_refusesFilm im_X10_refusesFilm sl_X10_refusesFilm rfl rfl rfl rfl (Nat.le_of_ble_eq_true rfl) hq1 (c_X10_refusesFilm X.1.2.1 X.2.2.1 eh2) rfl rfl ⟨z_le (z_fr hX) (by decide), z_le (z_lo hX) (by decide)⟩ ⟨Nat.zero_le _, Nat.zero_le _⟩ ?_
  refine zv_istore K [(5, tI v3), (0, tA x0), (1, tI x1), (2, tI x2), (3, tI x3), (4, tI x4)] eX10_differs_9 (z_lt hX.2 (by decide)) rfl ?_
  refine zv_iload K 0 eX10_differs_11 rfl ?_
  refine zv_if_eq K 19 eX10_differs_13 (by decide) hf (fun _ hf => ?_) (fun _ hf => ?_)
  · refine zv_aload_n K 1 eX10_differs_19 rfl ?_
    refine zv_gA K eX10_differs_20 fl_X10_10 hf (fun v4 hf => ?_)
    refine zv_gA K eX10_differs_23 fl_X10_123 hf (fun v5 hf => ?_)
    refine zv_iload_n K 2 eX10_differs_26 rfl ?_
    refine zv_aA K eX10_differs_27 hf (fun v6 hf => ?_)
    refine zv_astore K [(6, tA v6), (5, tI v3), (0, tA x0), (1, tI x1), (2, tI x2), (3, tI x3), (4, tI x4)] eX10_differs_28 (z_lt hX.2 (by decide)) rfl ?_
    refine zv_iconst K (0 : Int32) eX10_differs_30 (by decide) ?_
    refine zv_istore K [(7, tI (0 : Int32)), (6, tA v6), (5, tI v3), (0, tA x0), (1, tI x1), (2, tI x2), (3, tI x3), (4, tI x4)] eX10_differs_31 (z_lt hX.2 (by decide)) rfl ?_
    exact zv_sub [3, 5, 7, 1, 0] rfl (v_X10_differs_b33 K hX hf hp)
  · refine zv_iload K 0 eX10_differs_16 rfl ?_
    have e9 := Option.some.inj hf; subst e9
    exact zv_iret K eX10_differs_18 hp
theorem c_X10_differs (l : Launch) (G : zG) {x0 : Option Nat} {x1 : Int32} {x2 : Int32} {x3 : Int32} {x4 : Int32} {h : zH} {nx : Nat} {x : Int32 × zH} (hf : f_X10_differs x0 x1 x2 x3 x4 h = some x) : z_Ct l G yX10_differs cX10_differs 8 (some .int) rm_X10_differs [tA x0, tI x1, tI x2, tI x3, tI x4] h nx (some (tI x.1)) x.2 nx 0 0 :=
  z_enter [(0, tA x0), (1, tI x1), (2, tI x2), (3, tI x3), (4, tI x4)] (by decide +kernel) (Nat.le_of_ble_eq_true rfl) rfl (fun X hl hR hG hL K hq => by
    subst hl; subst hG
    exact v_X10_differs K ⟨hR, hL⟩ hf hq)
set_option maxHeartbeats 4000000 in
set_option maxRecDepth 100000 in
theorem v_X10_isLane {X : zX} (K : z_Ok X cX10_isLane (some .boolean) RX10 "isLane") (hX : z_Xo X rm_X10_isLane 1) {x0 : Int32} {h : zH} {nx : Nat} {x : (Int32 × zH)} (hf : f_X10_isLane x0 h = some x) (hp : z_P0I X nx x) : zV X 0 [(0, tI x0)] [] h nx 0 0 := by
  unfold f_X10_isLane at hf
  refine zv_iload_n K 0 eX10_isLane_0 rfl ?_
  refine zv_if_lt K 13 eX10_isLane_1 (by decide) hf (fun _ hf => ?_) (fun _ hf => ?_)
  · refine zv_iconst K (0 : Int32) eX10_isLane_13 (by decide) ?_
    cases hf
    exact zv_zret K eX10_isLane_14 (by decide) hp
  · refine zv_iload_n K 0 eX10_isLane_4 rfl ?_
    refine zv_iconst K (2 : Int32) eX10_isLane_5 (by decide) ?_
    refine zv_icmp_gt K 13 eX10_isLane_6 (by decide) hf (fun _ hf => ?_) (fun _ hf => ?_)
    · refine zv_iconst K (0 : Int32) eX10_isLane_13 (by decide) ?_
      cases hf
      exact zv_zret K eX10_isLane_14 (by decide) hp
    · refine zv_iconst K (1 : Int32) eX10_isLane_9 (by decide) ?_
      refine zv_goto K 14 eX10_isLane_10 (by decide) ?_
      cases hf
      exact zv_zret K eX10_isLane_14 (by decide) hp
theorem c_X10_isLane (l : Launch) (G : zG) {x0 : Int32} {h : zH} {nx : Nat} {x : Int32 × zH} (hf : f_X10_isLane x0 h = some x) : z_Ct l G yX10_isLane cX10_isLane 1 (some .boolean) rm_X10_isLane [tI x0] h nx (some (tI x.1)) x.2 nx 0 0 :=
  z_enter [(0, tI x0)] (by decide +kernel) (Nat.le_of_ble_eq_true rfl) rfl (fun X hl hR hG hL K hq => by
    subst hl; subst hG
    exact v_X10_isLane K ⟨hR, hL⟩ hf hq)
set_option maxHeartbeats 4000000 in
set_option maxRecDepth 100000 in
theorem v_X10_sheet {X : zX} (K : z_Ok X cX10_sheet (some .int) RX10 "sheet") (hX : z_Xo X rm_X10_sheet 4) {x0 : Option Nat} {x1 : Int32} {x2 : Int32} {x3 : Int32} {h : zH} {nx : Nat} {x : (Int32 × zH)} (hf : f_X10_sheet x0 x1 x2 x3 h = some x) (hp : z_P0I X nx x) : zV X 0 [(0, tA x0), (1, tI x1), (2, tI x2), (3, tI x3)] [] h nx 0 0 := by
  unfold f_X10_sheet at hf
  refine zv_aload_n K 0 eX10_sheet_0 rfl ?_
  refine zv_iload_n K 1 eX10_sheet_1 rfl ?_
  obtain ⟨q1, hq1, hf⟩ := z_bind_inv hf
  obtain ⟨v3, h2, eh2, hf⟩ := z_b2_inv hf
  refine zv_cV0 K [tI x1] [] eX10_sheet_2 lk_X10_74 md_X10_isSheet im_X10_isSheet sl_X10_isSheet rfl rfl rfl rfl (Nat.le_of_ble_eq_true rfl) hq1 (c_X10_isSheet X.1.2.1 X.2.2.1 eh2) rfl rfl ⟨z_le (z_fr hX) (by decide), z_le (z_lo hX) (by decide)⟩ ⟨Nat.zero_le _, Nat.zero_le _⟩ ?_
  refine zv_if_eq K 21 eX10_sheet_5 (by decide) hf (fun _ hf => ?_) (fun _ hf => ?_)
  · refine zv_iconst K (-1 : Int32) eX10_sheet_21 (by decide) ?_
    have e9 := Option.some.inj hf; subst e9
    exact zv_iret K eX10_sheet_22 hp
  · refine zv_iload_n K 2 eX10_sheet_8 rfl ?_
    obtain ⟨v5, h4, eh4, hf⟩ := z_b2_inv hf
    refine zv_cS0 K [tI x2] [] eX10_sheet_9 lk_X10_271 md_X10_isLane st_X10_isLane rfl rfl (Nat.le_of_ble_eq_true rfl) (c_X10_isLane X.1.2.1 X.2.2.1 eh4) rfl rfl ⟨z_le (z_fr hX) (by decide), z_le (z_lo hX) (by decide)⟩ ⟨Nat.zero_le _, Nat.zero_le _⟩ ?_
    refine zv_if_eq K 21 eX10_sheet_12 (by decide) hf (fun _ hf => ?_) (fun _ hf => ?_)
    · refine zv_iconst K (-1 : Int32) eX10_sheet_21 (by decide) ?_
      have e9 := Option.some.inj hf; subst e9
      exact zv_iret K eX10_sheet_22 hp
    · refine zv_iload_n K 3 eX10_sheet_15 rfl ?_
      refine zv_bipush K (64 : Int32) eX10_sheet_16 (by decide) ?_
      refine zv_icmp_le K 23 eX10_sheet_18 (by decide) hf (fun _ hf => ?_) (fun _ hf => ?_)
      · refine zv_iload_n K 3 eX10_sheet_23 rfl ?_
        refine zv_if_ge K 30 eX10_sheet_24 (by decide) hf (fun _ hf => ?_) (fun _ hf => ?_)
        · refine zv_aload_n K 0 eX10_sheet_30 rfl ?_
          refine zv_gA K eX10_sheet_31 fl_X10_22 hf (fun v6 hf => ?_)
          refine zv_iload_n K 1 eX10_sheet_34 rfl ?_
          refine zv_aA K eX10_sheet_35 hf (fun v7 hf => ?_)
          refine zv_iload_n K 2 eX10_sheet_36 rfl ?_
          refine zv_iload_n K 3 eX10_sheet_37 rfl ?_
          obtain ⟨q8, hq8, hf⟩ := z_bind_inv hf
          obtain ⟨h9, eh9, hf⟩ := z_bind_inv hf
          refine zv_cV0 K [tI x2, tI x3] [] eX10_sheet_38 lk_X10_274 md_X7_begin im_X7_begin sl_X7_begin rfl rfl rfl rfl (Nat.le_of_ble_eq_true rfl) hq8 (c_X7_begin X.1.2.1 X.2.2.1 eh9) rfl rfl ⟨z_le (z_fr hX) (by decide), z_le (z_lo hX) (by decide)⟩ ⟨Nat.zero_le _, Nat.zero_le _⟩ ?_
          refine zv_iload_n K 3 eX10_sheet_41 rfl ?_
          have e9 := Option.some.inj hf; subst e9
          exact zv_iret K eX10_sheet_42 hp
        · refine zv_bipush K (-14 : Int32) eX10_sheet_27 (by decide) ?_
          have e9 := Option.some.inj hf; subst e9
          exact zv_iret K eX10_sheet_29 hp
      · refine zv_iconst K (-1 : Int32) eX10_sheet_21 (by decide) ?_
        have e9 := Option.some.inj hf; subst e9
        exact zv_iret K eX10_sheet_22 hp
theorem c_X10_sheet (l : Launch) (G : zG) {x0 : Option Nat} {x1 : Int32} {x2 : Int32} {x3 : Int32} {h : zH} {nx : Nat} {x : Int32 × zH} (hf : f_X10_sheet x0 x1 x2 x3 h = some x) : z_Ct l G yX10_sheet cX10_sheet 4 (some .int) rm_X10_sheet [tA x0, tI x1, tI x2, tI x3] h nx (some (tI x.1)) x.2 nx 0 0 :=
  z_enter [(0, tA x0), (1, tI x1), (2, tI x2), (3, tI x3)] (by decide +kernel) (Nat.le_of_ble_eq_true rfl) rfl (fun X hl hR hG hL K hq => by
    subst hl; subst hG
    exact v_X10_sheet K ⟨hR, hL⟩ hf hq)
set_option maxHeartbeats 4000000 in
set_option maxRecDepth 100000 in
theorem v_X10_drop {X : zX} (K : z_Ok X cX10_drop (some .int) RX10 "drop") (hX : z_Xo X rm_X10_drop 3) {x0 : Option Nat} {x1 : Int32} {h : zH} {nx : Nat} {x : (Int32 × zH)} (hf : f_X10_drop x0 x1 h = some x) (hp : z_P0I X nx x) : zV X 0 [(0, tA x0), (1, tI x1)] [] h nx 0 0 := by
  unfold f_X10_drop at hf
  refine zv_aload_n K 0 eX10_drop_0 rfl ?_
  refine zv_iload_n K 1 eX10_drop_1 rfl ?_
  obtain ⟨q1, hq1, hf⟩ := z_bind_inv hf
  obtain ⟨v3, h2, eh2, hf⟩ := z_b2_inv hf
  refine zv_cV0 K [tI x1] [] eX10_drop_2 lk_X10_74 md_X10_isSheet im_X10_isSheet sl_X10_isSheet rfl rfl rfl rfl (Nat.le_of_ble_eq_true rfl) hq1 (c_X10_isSheet X.1.2.1 X.2.2.1 eh2) rfl rfl ⟨z_le (z_fr hX) (by decide), z_le (z_lo hX) (by decide)⟩ ⟨Nat.zero_le _, Nat.zero_le _⟩ ?_
  refine zv_if_ne K 10 eX10_drop_5 (by decide) hf (fun _ hf => ?_) (fun _ hf => ?_)
  · refine zv_aload_n K 0 eX10_drop_10 rfl ?_
    refine zv_gA K eX10_drop_11 fl_X10_22 hf (fun v4 hf => ?_)
    refine zv_iload_n K 1 eX10_drop_14 rfl ?_
    refine zv_aA K eX10_drop_15 hf (fun v5 hf => ?_)
    obtain ⟨q6, hq6, hf⟩ := z_bind_inv hf
    obtain ⟨v8, h7, eh7, hf⟩ := z_b2_inv hf
    refine zv_cV0 K [] [] eX10_drop_16 lk_X10_277 md_X7_holdsNothing im_X7_holdsNothing sl_X7_holdsNothing rfl rfl rfl rfl (Nat.le_of_ble_eq_true rfl) hq6 (c_X7_holdsNothing X.1.2.1 X.2.2.1 eh7) rfl rfl ⟨z_le (z_fr hX) (by decide), z_le (z_lo hX) (by decide)⟩ ⟨Nat.zero_le _, Nat.zero_le _⟩ ?_
    refine zv_if_eq K 25 eX10_drop_19 (by decide) hf (fun _ hf => ?_) (fun _ hf => ?_)
    · refine zv_aload_n K 0 eX10_drop_25 rfl ?_
      refine zv_gA K eX10_drop_26 fl_X10_22 hf (fun v9 hf => ?_)
      refine zv_iload_n K 1 eX10_drop_29 rfl ?_
      refine zv_aA K eX10_drop_30 hf (fun v10 hf => ?_)
      refine zv_gI K eX10_drop_31 fl_X10_280 hf (fun v11 hf => ?_)
      refine zv_istore_n K [(2, tI v11), (0, tA x0), (1, tI x1)] eX10_drop_34 (z_lt hX.2 (by decide)) rfl ?_
      refine zv_aload_n K 1 eX10_drop_35 rfl ?_
      refine zv_gA K eX10_drop_36 fl_X10_22 hf (fun v12 hf => ?_)
      refine zv_iload_n K 2 eX10_drop_39 rfl ?_
      refine zv_aA K eX10_drop_40 hf (fun v13 hf => ?_)
      obtain ⟨q14, hq14, hf⟩ := z_bind_inv hf
      obtain ⟨h15, eh15, hf⟩ := z_bind_inv hf
      refine zv_cV0 K [] [] eX10_drop_41 lk_X10_283 md_X7_forget im_X7_forget sl_X7_forget rfl rfl rfl rfl (Nat.le_of_ble_eq_true rfl) hq14 (c_X7_forget X.1.2.1 X.2.2.1 eh15) rfl rfl ⟨z_le (z_fr hX) (by decide), z_le (z_lo hX) (by decide)⟩ ⟨Nat.zero_le _, Nat.zero_le _⟩ ?_
      refine zv_iload_n K 0 eX10_drop_44 rfl ?_
      have e9 := Option.some.inj hf; subst e9
      exact zv_iret K eX10_drop_45 hp
    · refine zv_bipush K (-11 : Int32) eX10_drop_22 (by decide) ?_
      have e9 := Option.some.inj hf; subst e9
      exact zv_iret K eX10_drop_24 hp
  · refine zv_iconst K (-1 : Int32) eX10_drop_8 (by decide) ?_
    have e9 := Option.some.inj hf; subst e9
    exact zv_iret K eX10_drop_9 hp
theorem c_X10_drop (l : Launch) (G : zG) {x0 : Option Nat} {x1 : Int32} {h : zH} {nx : Nat} {x : Int32 × zH} (hf : f_X10_drop x0 x1 h = some x) : z_Ct l G yX10_drop cX10_drop 3 (some .int) rm_X10_drop [tA x0, tI x1] h nx (some (tI x.1)) x.2 nx 0 0 :=
  z_enter [(0, tA x0), (1, tI x1)] (by decide +kernel) (Nat.le_of_ble_eq_true rfl) rfl (fun X hl hR hG hL K hq => by
    subst hl; subst hG
    exact v_X10_drop K ⟨hR, hL⟩ hf hq)
set_option maxHeartbeats 4000000 in
set_option maxRecDepth 100000 in
theorem v_X10_narrowed {X : zX} (K : z_Ok X cX10_narrowed (some .int) RX10 "narrowed") (hX : z_Xo X rm_X10_narrowed 2) {x0 : Int32} {x1 : Int32} {h : zH} {nx : Nat} {x : (Int32 × zH)} (hf : f_X10_narrowed x0 x1 h = some x) (hp : z_P0I X nx x) : zV X 0 [(0, tI x0), (1, tI x1)] [] h nx 0 0 := by
  unfold f_X10_narrowed at hf
  refine zv_iload_n K 0 eX10_narrowed_0 rfl ?_
  refine zv_if_ne K 14 eX10_narrowed_1 (by decide) hf (fun _ hf => ?_) (fun _ hf => ?_)
  · refine zv_iload_n K 0 eX10_narrowed_14 rfl ?_
    refine zv_iconst K (1 : Int32) eX10_narrowed_15 (by decide) ?_
    refine zv_icmp_ne K 24 eX10_narrowed_16 (by decide) hf (fun _ hf => ?_) (fun _ hf => ?_)
    · refine zv_iload_n K 1 eX10_narrowed_24 rfl ?_
      have e9 := Option.some.inj hf; subst e9
      exact zv_iret K eX10_narrowed_25 hp
    · refine zv_iload_n K 1 eX10_narrowed_19 rfl ?_
      refine zv_i2b K eX10_narrowed_20 ?_
      refine zv_goto K 25 eX10_narrowed_21 (by decide) ?_
      have e9 := Option.some.inj hf; subst e9
      exact zv_iret K eX10_narrowed_25 hp
  · refine zv_iload_n K 1 eX10_narrowed_4 rfl ?_
    refine zv_if_eq K 12 eX10_narrowed_5 (by decide) hf (fun _ hf => ?_) (fun _ hf => ?_)
    · refine zv_iconst K (0 : Int32) eX10_narrowed_12 (by decide) ?_
      have e9 := Option.some.inj hf; subst e9
      exact zv_iret K eX10_narrowed_13 hp
    · refine zv_iconst K (1 : Int32) eX10_narrowed_8 (by decide) ?_
      refine zv_goto K 13 eX10_narrowed_9 (by decide) ?_
      have e9 := Option.some.inj hf; subst e9
      exact zv_iret K eX10_narrowed_13 hp
theorem c_X10_narrowed (l : Launch) (G : zG) {x0 : Int32} {x1 : Int32} {h : zH} {nx : Nat} {x : Int32 × zH} (hf : f_X10_narrowed x0 x1 h = some x) : z_Ct l G yX10_narrowed cX10_narrowed 2 (some .int) rm_X10_narrowed [tI x0, tI x1] h nx (some (tI x.1)) x.2 nx 0 0 :=
  z_enter [(0, tI x0), (1, tI x1)] (by decide +kernel) (Nat.le_of_ble_eq_true rfl) rfl (fun X hl hR hG hL K hq => by
    subst hl; subst hG
    exact v_X10_narrowed K ⟨hR, hL⟩ hf hq)
set_option maxHeartbeats 4000000 in
set_option maxRecDepth 100000 in
theorem v_X10_item {X : zX} (K : z_Ok X cX10_item (some .int) RX10 "item") (hX : z_Xo X rm_X10_item 6) {x0 : Option Nat} {x1 : Int32} {x2 : Int32} {x3 : Int32} {x4 : Int32} {h : zH} {nx : Nat} {x : (Int32 × zH)} (hf : f_X10_item x0 x1 x2 x3 x4 h = some x) (hp : z_P0I X nx x) : zV X 0 [(0, tA x0), (1, tI x1), (2, tI x2), (3, tI x3), (4, tI x4)] [] h nx 0 0 := by
  unfold f_X10_item at hf
  refine zv_aload_n K 0 eX10_item_0 rfl ?_
  refine zv_iload_n K 1 eX10_item_1 rfl ?_
  obtain ⟨q1, hq1, hf⟩ := z_bind_inv hf
  obtain ⟨v3, h2, eh2, hf⟩ := z_b2_inv hf
  refine zv_cV0 K [tI x1] [] eX10_item_2 lk_X10_74 md_X10_isSheet im_X10_isSheet sl_X10_isSheet rfl rfl rfl rfl (Nat.le_of_ble_eq_true rfl) hq1 (c_X10_isSheet X.1.2.1 X.2.2.1 eh2) rfl rfl ⟨z_le (z_fr hX) (by decide), z_le (z_lo hX) (by decide)⟩ ⟨Nat.zero_le _, Nat.zero_le _⟩ ?_
  refine zv_if_eq K 15 eX10_item_5 (by decide) hf (fun _ hf => ?_) (fun _ hf => ?_)
  · refine zv_iconst K (-1 : Int32) eX10_item_15 (by decide) ?_
    have e9 := Option.some.inj hf; subst e9
    exact zv_iret K eX10_item_16 hp
  · refine zv_iload_n K 2 eX10_item_8 rfl ?_
    obtain ⟨v5, h4, eh4, hf⟩ := z_b2_inv hf
    refine zv_cS0 K [tI x2] [] eX10_item_9 lk_X10_271 md_X10_isLane st_X10_isLane rfl rfl (Nat.le_of_ble_eq_true rfl) (c_X10_isLane X.1.2.1 X.2.2.1 eh4) rfl rfl ⟨z_le (z_fr hX) (by decide), z_le (z_lo hX) (by decide)⟩ ⟨Nat.zero_le _, Nat.zero_le _⟩ ?_
    refine zv_if_ne K 17 eX10_item_12 (by decide) hf (fun _ hf => ?_) (fun _ hf => ?_)
    · refine zv_aload_n K 0 eX10_item_17 rfl ?_
      refine zv_gA K eX10_item_18 fl_X10_22 hf (fun v6 hf => ?_)
      refine zv_iload_n K 1 eX10_item_21 rfl ?_
      refine zv_aA K eX10_item_22 hf (fun v7 hf => ?_)
      refine zv_iload_n K 2 eX10_item_23 rfl ?_
      refine zv_iload_n K 3 eX10_item_24 rfl ?_
      refine zv_iconst K (1 : Int32) eX10_item_25 (by decide) ?_
      obtain ⟨q8, hq8, hf⟩ := z_bind_inv hf
      obtain ⟨v10, h9, eh9, hf⟩ := z_b2_inv hf
      refine zv_cV0 K [tI x2, tI x3, tI (1 : Int32)] [] eX10_item_26 lk_X10_78 md_X7_refuses im_X7_refuses sl_X7_refuses rfl rfl rfl rfl (Nat.le_of_ble_eq_true rfl) hq8 (c_X7_refuses X.1.2.1 X.2.2.1 eh9) rfl rfl ⟨z_le (z_fr hX) (by decide), z_le (z_lo hX) (by decide)⟩ ⟨Nat.zero_le _, Nat.zero_le _⟩ ?_
      refine zv_istore K [(5, tI v10), (0, tA x0), (1, tI x1), (2, tI x2), (3, tI x3), (4, tI x4)] eX10_item_29 (z_lt hX.2 (by decide)) rfl ?_
      refine zv_iload K 0 eX10_item_31 rfl ?_
      refine zv_if_eq K 39 eX10_item_33 (by decide) hf (fun _ hf => ?_) (fun _ hf => ?_)
      · refine zv_aload_n K 1 eX10_item_39 rfl ?_
        refine zv_gA K eX10_item_40 fl_X10_22 hf (fun v11 hf => ?_)
        refine zv_iload_n K 2 eX10_item_43 rfl ?_
        refine zv_aA K eX10_item_44 hf (fun v12 hf => ?_)
        refine zv_gA K eX10_item_45 fl_X10_268 hf (fun v13 hf => ?_)
        refine zv_iload_n K 4 eX10_item_48 rfl ?_
        refine zv_iload_n K 3 eX10_item_49 rfl ?_
        refine zv_iload K 5 eX10_item_50 rfl ?_
        obtain ⟨v15, h14, eh14, hf⟩ := z_b2_inv hf
        refine zv_cS0 K [tI x2, tI x4] [tI x3, tA v13] eX10_item_52 lk_X10_286 md_X10_narrowed st_X10_narrowed rfl rfl (Nat.le_of_ble_eq_true rfl) (c_X10_narrowed X.1.2.1 X.2.2.1 eh14) rfl rfl ⟨z_le (z_fr hX) (by decide), z_le (z_lo hX) (by decide)⟩ ⟨Nat.zero_le _, Nat.zero_le _⟩ ?_
        refine zv_sI K eX10_item_55 hf (fun h16 hf => ?_)
        refine zv_iconst K (1 : Int32) eX10_item_56 (by decide) ?_
        have e9 := Option.some.inj hf; subst e9
        exact zv_iret K eX10_item_57 hp
      · refine zv_iload K 0 eX10_item_36 rfl ?_
        have e9 := Option.some.inj hf; subst e9
        exact zv_iret K eX10_item_38 hp
    · refine zv_iconst K (-1 : Int32) eX10_item_15 (by decide) ?_
      have e9 := Option.some.inj hf; subst e9
      exact zv_iret K eX10_item_16 hp
theorem c_X10_item (l : Launch) (G : zG) {x0 : Option Nat} {x1 : Int32} {x2 : Int32} {x3 : Int32} {x4 : Int32} {h : zH} {nx : Nat} {x : Int32 × zH} (hf : f_X10_item x0 x1 x2 x3 x4 h = some x) : z_Ct l G yX10_item cX10_item 6 (some .int) rm_X10_item [tA x0, tI x1, tI x2, tI x3, tI x4] h nx (some (tI x.1)) x.2 nx 0 0 :=
  z_enter [(0, tA x0), (1, tI x1), (2, tI x2), (3, tI x3), (4, tI x4)] (by decide +kernel) (Nat.le_of_ble_eq_true rfl) rfl (fun X hl hR hG hL K hq => by
    subst hl; subst hG
    exact v_X10_item K ⟨hR, hL⟩ hf hq)
set_option maxHeartbeats 4000000 in
set_option maxRecDepth 100000 in
theorem v_X10_copy {X : zX} (K : z_Ok X cX10_copy (some .int) RX10 "copy") (hX : z_Xo X rm_X10_copy 8) {x0 : Option Nat} {x1 : Int32} {x2 : Int32} {x3 : Int32} {x4 : Int32} {x5 : Int32} {h : zH} {nx : Nat} {x : (Int32 × zH)} (hf : f_X10_copy x0 x1 x2 x3 x4 x5 h = some x) (hp : z_P0I X nx x) : zV X 0 [(0, tA x0), (1, tI x1), (2, tI x2), (3, tI x3), (4, tI x4), (5, tI x5)] [] h nx 0 0 := by
  unfold f_X10_copy at hf
  refine zv_aload_n K 0 eX10_copy_0 rfl ?_
  refine zv_iload_n K 1 eX10_copy_1 rfl ?_
  obtain ⟨q1, hq1, hf⟩ := z_bind_inv hf
  obtain ⟨v3, h2, eh2, hf⟩ := z_b2_inv hf
  refine zv_cV0 K [tI x1] [] eX10_copy_2 lk_X10_74 md_X10_isSheet im_X10_isSheet sl_X10_isSheet rfl rfl rfl rfl (Nat.le_of_ble_eq_true rfl) hq1 (c_X10_isSheet X.1.2.1 X.2.2.1 eh2) rfl rfl ⟨z_le (z_fr hX) (by decide), z_le (z_lo hX) (by decide)⟩ ⟨Nat.zero_le _, Nat.zero_le _⟩ ?_
  refine zv_if_eq K 16 eX10_copy_5 (by decide) hf (fun _ hf => ?_) (fun _ hf => ?_)
  · refine zv_iconst K (-1 : Int32) eX10_copy_16 (by decide) ?_
    have e9 := Option.some.inj hf; subst e9
    exact zv_iret K eX10_copy_17 hp
  · refine zv_aload_n K 0 eX10_copy_8 rfl ?_
    refine zv_iload_n K 3 eX10_copy_9 rfl ?_
    obtain ⟨q4, hq4, hf⟩ := z_bind_inv hf
    obtain ⟨v6, h5, eh5, hf⟩ := z_b2_inv hf
    refine zv_cV0 K [tI x3] [] eX10_copy_10 lk_X10_74 md_X10_isSheet im_X10_isSheet sl_X10_isSheet rfl rfl rfl rfl (Nat.le_of_ble_eq_true rfl) hq4 (c_X10_isSheet X.1.2.1 X.2.2.1 eh5) rfl rfl ⟨z_le (z_fr hX) (by decide), z_le (z_lo hX) (by decide)⟩ ⟨Nat.zero_le _, Nat.zero_le _⟩ ?_
    refine zv_if_ne K 18 eX10_copy_13 (by decide) hf (fun _ hf => ?_) (fun _ hf => ?_)
    · refine zv_aload_n K 0 eX10_copy_18 rfl ?_
      refine zv_gA K eX10_copy_19 fl_X10_22 hf (fun v7 hf => ?_)
      refine zv_iload_n K 1 eX10_copy_22 rfl ?_
      refine zv_aA K eX10_copy_23 hf (fun v8 hf => ?_)
      refine zv_astore K [(6, tA v8), (0, tA x0), (1, tI x1), (2, tI x2), (3, tI x3), (4, tI x4), (5, tI x5)] eX10_copy_24 (z_lt hX.2 (by decide)) rfl ?_
      refine zv_aload_n K 1 eX10_copy_26 rfl ?_
      refine zv_gA K eX10_copy_27 fl_X10_22 hf (fun v9 hf => ?_)
      refine zv_iload_n K 4 eX10_copy_30 rfl ?_
      refine zv_aA K eX10_copy_31 hf (fun v10 hf => ?_)
      refine zv_astore K [(7, tA v10), (6, tA v8), (0, tA x0), (1, tI x1), (2, tI x2), (3, tI x3), (4, tI x4), (5, tI x5)] eX10_copy_32 (z_lt hX.2 (by decide)) rfl ?_
      refine zv_aload K 1 eX10_copy_34 rfl ?_
      obtain ⟨q11, hq11, hf⟩ := z_bind_inv hf
      obtain ⟨v13, h12, eh12, hf⟩ := z_b2_inv hf
      refine zv_cV0 K [] [] eX10_copy_36 lk_X10_277 md_X7_holdsNothing im_X7_holdsNothing sl_X7_holdsNothing rfl rfl rfl rfl (Nat.le_of_ble_eq_true rfl) hq11 (c_X7_holdsNothing X.1.2.1 X.2.2.1 eh12) rfl rfl ⟨z_le (z_fr hX) (by decide), z_le (z_lo hX) (by decide)⟩ ⟨Nat.zero_le _, Nat.zero_le _⟩ ?_
      refine zv_if_ne K 50 eX10_copy_39 (by decide) hf (fun _ hf => ?_) (fun _ hf => ?_)
      · refine zv_bipush K (-11 : Int32) eX10_copy_50 (by decide) ?_
        have e9 := Option.some.inj hf; subst e9
        exact zv_iret K eX10_copy_52 hp
      · refine zv_aload K 0 eX10_copy_42 rfl ?_
        obtain ⟨q14, hq14, hf⟩ := z_bind_inv hf
        obtain ⟨v16, h15, eh15, hf⟩ := z_b2_inv hf
        refine zv_cV0 K [] [] eX10_copy_44 lk_X10_277 md_X7_holdsNothing im_X7_holdsNothing sl_X7_holdsNothing rfl rfl rfl rfl (Nat.le_of_ble_eq_true rfl) hq14 (c_X7_holdsNothing X.1.2.1 X.2.2.1 eh15) rfl rfl ⟨z_le (z_fr hX) (by decide), z_le (z_lo hX) (by decide)⟩ ⟨Nat.zero_le _, Nat.zero_le _⟩ ?_
        refine zv_if_eq K 53 eX10_copy_47 (by decide) hf (fun _ hf => ?_) (fun _ hf => ?_)
        · refine zv_aload K 1 eX10_copy_53 rfl ?_
          refine zv_gI K eX10_copy_55 fl_X10_289 hf (fun v17 hf => ?_)
          refine zv_aload K 0 eX10_copy_58 rfl ?_
          refine zv_gI K eX10_copy_60 fl_X10_289 hf (fun v18 hf => ?_)
          refine zv_icmp_eq K 69 eX10_copy_63 (by decide) hf (fun _ hf => ?_) (fun _ hf => ?_)
          · refine zv_aload K 1 eX10_copy_69 rfl ?_
            refine zv_iload_n K 4 eX10_copy_71 rfl ?_
            refine zv_iload K 7 eX10_copy_72 rfl ?_
            obtain ⟨q19, hq19, hf⟩ := z_bind_inv hf
            obtain ⟨v21, h20, eh20, hf⟩ := z_b2_inv hf
            refine zv_cV0 K [tI x2, tI x5] [] eX10_copy_74 lk_X10_292 md_X7_spans im_X7_spans sl_X7_spans rfl rfl rfl rfl (Nat.le_of_ble_eq_true rfl) hq19 (c_X7_spans X.1.2.1 X.2.2.1 eh20) rfl rfl ⟨z_le (z_fr hX) (by decide), z_le (z_lo hX) (by decide)⟩ ⟨Nat.zero_le _, Nat.zero_le _⟩ ?_
            refine zv_if_eq K 92 eX10_copy_77 (by decide) hf (fun _ hf => ?_) (fun _ hf => ?_)
            · refine zv_bipush K (-13 : Int32) eX10_copy_92 (by decide) ?_
              have e9 := Option.some.inj hf; subst e9
              exact zv_iret K eX10_copy_94 hp
            · refine zv_aload K 0 eX10_copy_80 rfl ?_
              refine zv_iload K 6 eX10_copy_82 rfl ?_
              refine zv_iload K 7 eX10_copy_84 rfl ?_
              obtain ⟨q22, hq22, hf⟩ := z_bind_inv hf
              obtain ⟨v24, h23, eh23, hf⟩ := z_b2_inv hf
              refine zv_cV0 K [tI x4, tI x5] [] eX10_copy_86 lk_X10_292 md_X7_spans im_X7_spans sl_X7_spans rfl rfl rfl rfl (Nat.le_of_ble_eq_true rfl) hq22 (c_X7_spans X.1.2.1 X.2.2.1 eh23) rfl rfl ⟨z_le (z_fr hX) (by decide), z_le (z_lo hX) (by decide)⟩ ⟨Nat.zero_le _, Nat.zero_le _⟩ ?_
              refine zv_if_ne K 95 eX10_copy_89 (by decide) hf (fun _ hf => ?_) (fun _ hf => ?_)
              · refine zv_aload K 1 eX10_copy_95 rfl ?_
                refine zv_gA K eX10_copy_97 fl_X10_268 hf (fun v25 hf => ?_)
                refine zv_iload_n K 4 eX10_copy_100 rfl ?_
                refine zv_aload K 0 eX10_copy_101 rfl ?_
                refine zv_gA K eX10_copy_103 fl_X10_268 hf (fun v26 hf => ?_)
                refine zv_iload K 6 eX10_copy_106 rfl ?_
                refine zv_iload K 7 eX10_copy_108 rfl ?_
                refine zv_cp K eX10_copy_110 ac_X10_295 ⟨z_le (z_fr hX) (by decide), z_le (z_lo hX) (by decide)⟩ (Nat.le_of_ble_eq_true rfl) hf (fun h27 hf => ?_)
                refine zv_iload K 7 eX10_copy_113 rfl ?_
                have e9 := Option.some.inj hf; subst e9
                exact zv_iret K eX10_copy_115 hp
              · refine zv_bipush K (-13 : Int32) eX10_copy_92 (by decide) ?_
                have e9 := Option.some.inj hf; subst e9
                exact zv_iret K eX10_copy_94 hp
          · refine zv_bipush K (-12 : Int32) eX10_copy_66 (by decide) ?_
            have e9 := Option.some.inj hf; subst e9
            exact zv_iret K eX10_copy_68 hp
        · refine zv_bipush K (-11 : Int32) eX10_copy_50 (by decide) ?_
          have e9 := Option.some.inj hf; subst e9
          exact zv_iret K eX10_copy_52 hp
    · refine zv_iconst K (-1 : Int32) eX10_copy_16 (by decide) ?_
      have e9 := Option.some.inj hf; subst e9
      exact zv_iret K eX10_copy_17 hp
theorem c_X10_copy (l : Launch) (G : zG) {x0 : Option Nat} {x1 : Int32} {x2 : Int32} {x3 : Int32} {x4 : Int32} {x5 : Int32} {h : zH} {nx : Nat} {x : Int32 × zH} (hf : f_X10_copy x0 x1 x2 x3 x4 x5 h = some x) : z_Ct l G yX10_copy cX10_copy 8 (some .int) rm_X10_copy [tA x0, tI x1, tI x2, tI x3, tI x4, tI x5] h nx (some (tI x.1)) x.2 nx 0 0 :=
  z_enter [(0, tA x0), (1, tI x1), (2, tI x2), (3, tI x3), (4, tI x4), (5, tI x5)] (by decide +kernel) (Nat.le_of_ble_eq_true rfl) rfl (fun X hl hR hG hL K hq => by
    subst hl; subst hG
    exact v_X10_copy K ⟨hR, hL⟩ hf hq)
def P_X11_init_161 (X : zX) (nx0 z0 : Nat) (nz : Nat × Nat) : ((Option Nat) × Int32 × zH) ⊕ (zH) → Prop := z_PL (fun s => zV X 161 [(0, tA s.1), (1, tI s.2.1)] [] s.2.2 nz.1 (nz.1 - nx0) (nz.2 - z0)) (z_P0Vm X nx0 z0 nz)
theorem m_X11_init_c161  {x0 : Option Nat} {x1 : Int32} {h : zH} {nx z : Nat} {x : ((Nat × Nat) × (((Option Nat) × Int32 × zH) ⊕ (zH)))} (hf : f_X11_init_c161 x0 x1 h nx z = some x) : nx ≤ x.1.1 ∧ z ≤ x.1.2 := by
  unfold f_X11_init_c161 at hf
  refine z_ite_inv _ hf (fun _ hf => ?_) (fun _ hf => ?_)
  · obtain ⟨w9, hf9, e9⟩ := z_i1m_inv hf; clear hf; subst e9; have hf := hf9; clear hf9
    cases hf
    exact ⟨by (try dsimp only at *); omega, by (try dsimp only at *); omega⟩
  · obtain ⟨_, _, hf⟩ := z_bind_inv hf
    obtain ⟨_, _, hf⟩ := z_bind_inv hf
    cases hf
    exact ⟨by (try dsimp only at *); omega, by (try dsimp only at *); omega⟩
set_option maxHeartbeats 4000000 in
set_option maxRecDepth 100000 in
theorem v_X11_init_c161 {X : zX} {cc0 ss0 nx0 z0 : Nat} (K : z_Ok X cX11_init none RX11 "<init>") (hX : z_Xo X (rm_X11_init cc0 ss0) 2) {x0 : Option Nat} {x1 : Int32} {h : zH} {nx z : Nat} (hm : nx0 ≤ nx ∧ z0 ≤ z) {x : ((Nat × Nat) × (((Option Nat) × Int32 × zH) ⊕ (zH)))} (hf : f_X11_init_c161 x0 x1 h nx z = some x) (hp : z_Pm X nx0 z0 (P_X11_init_161 X nx0 z0) x) : zV X 161 [(0, tA x0), (1, tI x1)] [] h nx (nx - nx0) (z - z0) := by
  have mB := m_X11_init_c161 hf
  unfold f_X11_init_c161 at hf
  refine zv_iload_n K 1 eX11_init_161 rfl ?_
  refine zv_iconst K (4 : Int32) eX11_init_162 (by decide) ?_
  refine zv_icmp_ge K 180 eX11_init_163 (by decide) hf (fun _ hf => ?_) (fun _ hf => ?_)
  · obtain ⟨w9, hf9, e9⟩ := z_i1m_inv hf; clear hf; subst e9; have hf := hf9; clear hf9
    have hp : z_Pm X nx0 z0 (z_P0Vm X nx0 z0) _ := hp
    have e9 := Option.some.inj hf; subst e9
    exact zv_vret K eX11_init_180 hp.2
  · refine zv_aload_n K 0 eX11_init_166 rfl ?_
    refine zv_gA K eX11_init_167 fl_X11_26 hf (fun v1 hf => ?_)
    refine zv_iload_n K 1 eX11_init_170 rfl ?_
    refine zv_bipush K (-4 : Int32) eX11_init_171 (by decide) ?_
    refine zv_sI K eX11_init_173 hf (fun h2 hf => ?_)
    refine zv_iinc K (x1 + (1 : Int32)) 1 [(1, tI (x1 + (1 : Int32))), (0, tA x0)] eX11_init_174 rfl rfl (z_lt hX.2 (by decide)) rfl ?_
    refine zv_goto K 161 eX11_init_177 (by decide) ?_
    cases hf
    exact zv_sub [1, 0] rfl (show zV X 161 [(0, tA x0), (1, tI (x1 + (1 : Int32)))] [] h2 nx (nx - nx0) (z - z0) from hp.2)
theorem m_X11_init_b161  {x0 : Option Nat} {x1 : Int32} {h : zH} {nx z : Nat} {x : ((Nat × Nat) × (zH))} (hf : f_X11_init_b161 x0 x1 h nx z = some x) : nx ≤ x.1.1 ∧ z ≤ x.1.2 :=
  z_itmo (body := fun q : (Nat × Nat) × ((Option Nat) × Int32 × zH) => f_X11_init_c161 q.2.1 q.2.2.1 q.2.2.2 q.1.1 q.1.2) (nz := (nx, z)) (fun s nz y hb => m_X11_init_c161 hb) hf
theorem v_X11_init_b161 {X : zX} {cc0 ss0 nx0 z0 : Nat} (K : z_Ok X cX11_init none RX11 "<init>") (hX : z_Xo X (rm_X11_init cc0 ss0) 2) {x0 : Option Nat} {x1 : Int32} {h : zH} {nx z : Nat} (hm : nx0 ≤ nx ∧ z0 ≤ z) {x : ((Nat × Nat) × (zH))} (hf : f_X11_init_b161 x0 x1 h nx z = some x) (hp : z_Pm X nx0 z0 (z_P0Vm X nx0 z0) x) : zV X 161 [(0, tA x0), (1, tI x1)] [] h nx (nx - nx0) (z - z0) :=
  z_itm (body := fun q : (Nat × Nat) × ((Option Nat) × Int32 × zH) => f_X11_init_c161 q.2.1 q.2.2.1 q.2.2.2 q.1.1 q.1.2) (nz := (nx, z)) (P := fun s nz => zV X 161 [(0, tA s.1), (1, tI s.2.1)] [] s.2.2 nz.1 (nz.1 - nx0) (nz.2 - z0)) (Q := z_P0Vm X nx0 z0) (fun s nz y hm hb hy => v_X11_init_c161 K hX hm hb hy) (fun s nz y hb => m_X11_init_c161 hb) hm hp hf
theorem m_X11_init_b148  {x0 : Option Nat} {s0 : Option Nat} {s1 : Option Nat} {h : zH} {nx z : Nat} {x : ((Nat × Nat) × (zH))} (hf : f_X11_init_b148 x0 s0 s1 h nx z = some x) : nx ≤ x.1.1 ∧ z ≤ x.1.2 := by
  unfold f_X11_init_b148 at hf
  obtain ⟨_, _, hf⟩ := z_bind_inv hf
  obtain ⟨_, _, hf⟩ := z_bind_inv hf
  obtain ⟨_, _, hf⟩ := z_bind_inv hf
  have m9 := m_X11_init_b161 hf
  exact ⟨by (try dsimp only at *); omega, by (try dsimp only at *); omega⟩
set_option maxHeartbeats 4000000 in
set_option maxRecDepth 100000 in
theorem v_X11_init_b148 {X : zX} {cc0 ss0 nx0 z0 : Nat} (K : z_Ok X cX11_init none RX11 "<init>") (hX : z_Xo X (rm_X11_init cc0 ss0) 2) {x0 : Option Nat} {s0 : Option Nat} {s1 : Option Nat} {h : zH} {nx z : Nat} (hm : nx0 ≤ nx ∧ z0 ≤ z) {x : ((Nat × Nat) × (zH))} (hf : f_X11_init_b148 x0 s0 s1 h nx z = some x) (hp : z_Pm X nx0 z0 (z_P0Vm X nx0 z0) x) : zV X 148 [(0, tA x0)] [tA s1, tA s0] h nx (nx - nx0) (z - z0) := by
  have mB := m_X11_init_b148 hf
  unfold f_X11_init_b148 at hf
  refine zv_pXA K eX11_init_148 fx_X11_62 (Or.inr ⟨_, rfl⟩) hf (fun h1 hf => ?_)
  refine zv_aload_n K 0 eX11_init_151 rfl ?_
  refine zv_gA K eX11_init_152 fl_X11_7 hf (fun v2 hf => ?_)
  refine zv_bipush K (66 : Int32) eX11_init_155 (by decide) ?_
  refine zv_iconst K (3 : Int32) eX11_init_157 (by decide) ?_
  refine zv_sI K eX11_init_158 hf (fun h3 hf => ?_)
  refine zv_iconst K (0 : Int32) eX11_init_159 (by decide) ?_
  refine zv_istore_n K [(1, tI (0 : Int32)), (0, tA x0)] eX11_init_160 (z_lt hX.2 (by decide)) rfl ?_
  exact zv_sub [1, 0] rfl (v_X11_init_b161 K hX (by omega) hf hp)
theorem m_X11_init_b140  {x0 : Option Nat} {s0 : Option Nat} {s1 : Option Nat} {h : zH} {nx z : Nat} {x : ((Nat × Nat) × (zH))} (hf : f_X11_init_b140 x0 s0 s1 h nx z = some x) : nx ≤ x.1.1 ∧ z ≤ x.1.2 := by
  unfold f_X11_init_b140 at hf
  obtain ⟨_, _, hf⟩ := z_bind_inv hf
  have m9 := m_X11_init_b148 hf
  exact ⟨by (try dsimp only at *); omega, by (try dsimp only at *); omega⟩
set_option maxHeartbeats 4000000 in
set_option maxRecDepth 100000 in
theorem v_X11_init_b140 {X : zX} {cc0 ss0 nx0 z0 : Nat} (K : z_Ok X cX11_init none RX11 "<init>") (hX : z_Xo X (rm_X11_init cc0 ss0) 2) {x0 : Option Nat} {s0 : Option Nat} {s1 : Option Nat} {h : zH} {nx z : Nat} (hm : nx0 ≤ nx ∧ z0 ≤ z) {x : ((Nat × Nat) × (zH))} (hf : f_X11_init_b140 x0 s0 s1 h nx z = some x) (hp : z_Pm X nx0 z0 (z_P0Vm X nx0 z0) x) : zV X 140 [(0, tA x0)] [tA s1, tA s0] h nx (nx - nx0) (z - z0) := by
  have mB := m_X11_init_b140 hf
  unfold f_X11_init_b140 at hf
  refine zv_pXA K eX11_init_140 fx_X11_59 (Or.inr ⟨_, rfl⟩) hf (fun h1 hf => ?_)
  refine zv_aload_n K 0 eX11_init_143 rfl ?_
  refine zv_bipush K (64 : Int32) eX11_init_144 (by decide) ?_
  have m9 := m_X11_init_b148 hf
  refine zv_newI K 64 (nx + 1 - nx0) (z + 64 - z0) eX11_init_146 ar_int (by decide) (by decide) (by decide) (by omega) (by omega) (z_bd hp m9) ?_
  exact zv_sub [0] rfl (v_X11_init_b148 K hX (by omega) hf hp)
theorem m_X11_init_b132  {x0 : Option Nat} {s0 : Option Nat} {s1 : Option Nat} {h : zH} {nx z : Nat} {x : ((Nat × Nat) × (zH))} (hf : f_X11_init_b132 x0 s0 s1 h nx z = some x) : nx ≤ x.1.1 ∧ z ≤ x.1.2 := by
  unfold f_X11_init_b132 at hf
  obtain ⟨_, _, hf⟩ := z_bind_inv hf
  have m9 := m_X11_init_b140 hf
  exact ⟨by (try dsimp only at *); omega, by (try dsimp only at *); omega⟩
set_option maxHeartbeats 4000000 in
set_option maxRecDepth 100000 in
theorem v_X11_init_b132 {X : zX} {cc0 ss0 nx0 z0 : Nat} (K : z_Ok X cX11_init none RX11 "<init>") (hX : z_Xo X (rm_X11_init cc0 ss0) 2) {x0 : Option Nat} {s0 : Option Nat} {s1 : Option Nat} {h : zH} {nx z : Nat} (hm : nx0 ≤ nx ∧ z0 ≤ z) {x : ((Nat × Nat) × (zH))} (hf : f_X11_init_b132 x0 s0 s1 h nx z = some x) (hp : z_Pm X nx0 z0 (z_P0Vm X nx0 z0) x) : zV X 132 [(0, tA x0)] [tA s1, tA s0] h nx (nx - nx0) (z - z0) := by
  have mB := m_X11_init_b132 hf
  unfold f_X11_init_b132 at hf
  refine zv_pXA K eX11_init_132 fx_X11_56 (Or.inr ⟨_, rfl⟩) hf (fun h1 hf => ?_)
  refine zv_aload_n K 0 eX11_init_135 rfl ?_
  refine zv_bipush K (7 : Int32) eX11_init_136 (by decide) ?_
  have m9 := m_X11_init_b140 hf
  refine zv_newI K 7 (nx + 1 - nx0) (z + 7 - z0) eX11_init_138 ar_int (by decide) (by decide) (by decide) (by omega) (by omega) (z_bd hp m9) ?_
  exact zv_sub [0] rfl (v_X11_init_b140 K hX (by omega) hf hp)
theorem m_X11_init_b124  {x0 : Option Nat} {s0 : Option Nat} {s1 : Option Nat} {h : zH} {nx z : Nat} {x : ((Nat × Nat) × (zH))} (hf : f_X11_init_b124 x0 s0 s1 h nx z = some x) : nx ≤ x.1.1 ∧ z ≤ x.1.2 := by
  unfold f_X11_init_b124 at hf
  obtain ⟨_, _, hf⟩ := z_bind_inv hf
  have m9 := m_X11_init_b132 hf
  exact ⟨by (try dsimp only at *); omega, by (try dsimp only at *); omega⟩
set_option maxHeartbeats 4000000 in
set_option maxRecDepth 100000 in
theorem v_X11_init_b124 {X : zX} {cc0 ss0 nx0 z0 : Nat} (K : z_Ok X cX11_init none RX11 "<init>") (hX : z_Xo X (rm_X11_init cc0 ss0) 2) {x0 : Option Nat} {s0 : Option Nat} {s1 : Option Nat} {h : zH} {nx z : Nat} (hm : nx0 ≤ nx ∧ z0 ≤ z) {x : ((Nat × Nat) × (zH))} (hf : f_X11_init_b124 x0 s0 s1 h nx z = some x) (hp : z_Pm X nx0 z0 (z_P0Vm X nx0 z0) x) : zV X 124 [(0, tA x0)] [tA s1, tA s0] h nx (nx - nx0) (z - z0) := by
  have mB := m_X11_init_b124 hf
  unfold f_X11_init_b124 at hf
  refine zv_pXA K eX11_init_124 fx_X11_53 (Or.inr ⟨_, rfl⟩) hf (fun h1 hf => ?_)
  refine zv_aload_n K 0 eX11_init_127 rfl ?_
  refine zv_bipush K (64 : Int32) eX11_init_128 (by decide) ?_
  have m9 := m_X11_init_b132 hf
  refine zv_newI K 64 (nx + 1 - nx0) (z + 64 - z0) eX11_init_130 ar_int (by decide) (by decide) (by decide) (by omega) (by omega) (z_bd hp m9) ?_
  exact zv_sub [0] rfl (v_X11_init_b132 K hX (by omega) hf hp)
theorem m_X11_init_b115  {x0 : Option Nat} {s0 : Option Nat} {s1 : Option Nat} {h : zH} {nx z : Nat} {x : ((Nat × Nat) × (zH))} (hf : f_X11_init_b115 x0 s0 s1 h nx z = some x) : nx ≤ x.1.1 ∧ z ≤ x.1.2 := by
  unfold f_X11_init_b115 at hf
  obtain ⟨_, _, hf⟩ := z_bind_inv hf
  have m9 := m_X11_init_b124 hf
  exact ⟨by (try dsimp only at *); omega, by (try dsimp only at *); omega⟩
set_option maxHeartbeats 4000000 in
set_option maxRecDepth 100000 in
theorem v_X11_init_b115 {X : zX} {cc0 ss0 nx0 z0 : Nat} (K : z_Ok X cX11_init none RX11 "<init>") (hX : z_Xo X (rm_X11_init cc0 ss0) 2) {x0 : Option Nat} {s0 : Option Nat} {s1 : Option Nat} {h : zH} {nx z : Nat} (hm : nx0 ≤ nx ∧ z0 ≤ z) {x : ((Nat × Nat) × (zH))} (hf : f_X11_init_b115 x0 s0 s1 h nx z = some x) (hp : z_Pm X nx0 z0 (z_P0Vm X nx0 z0) x) : zV X 115 [(0, tA x0)] [tA s1, tA s0] h nx (nx - nx0) (z - z0) := by
  have mB := m_X11_init_b115 hf
  unfold f_X11_init_b115 at hf
  refine zv_pXA K eX11_init_115 fx_X11_50 (Or.inr ⟨_, rfl⟩) hf (fun h1 hf => ?_)
  refine zv_aload_n K 0 eX11_init_118 rfl ?_
  refine zv_sipush K (4096 : Int32) eX11_init_119 (by decide) ?_
  have m9 := m_X11_init_b124 hf
  refine zv_newI K 4096 (nx + 1 - nx0) (z + 4096 - z0) eX11_init_122 ar_int (by decide) (by decide) (by decide) (by omega) (by omega) (z_bd hp m9) ?_
  exact zv_sub [0] rfl (v_X11_init_b124 K hX (by omega) hf hp)
theorem m_X11_init_b106  {x0 : Option Nat} {s0 : Option Nat} {s1 : Option Nat} {h : zH} {nx z : Nat} {x : ((Nat × Nat) × (zH))} (hf : f_X11_init_b106 x0 s0 s1 h nx z = some x) : nx ≤ x.1.1 ∧ z ≤ x.1.2 := by
  unfold f_X11_init_b106 at hf
  obtain ⟨_, _, hf⟩ := z_bind_inv hf
  have m9 := m_X11_init_b115 hf
  exact ⟨by (try dsimp only at *); omega, by (try dsimp only at *); omega⟩
set_option maxHeartbeats 4000000 in
set_option maxRecDepth 100000 in
theorem v_X11_init_b106 {X : zX} {cc0 ss0 nx0 z0 : Nat} (K : z_Ok X cX11_init none RX11 "<init>") (hX : z_Xo X (rm_X11_init cc0 ss0) 2) {x0 : Option Nat} {s0 : Option Nat} {s1 : Option Nat} {h : zH} {nx z : Nat} (hm : nx0 ≤ nx ∧ z0 ≤ z) {x : ((Nat × Nat) × (zH))} (hf : f_X11_init_b106 x0 s0 s1 h nx z = some x) (hp : z_Pm X nx0 z0 (z_P0Vm X nx0 z0) x) : zV X 106 [(0, tA x0)] [tA s1, tA s0] h nx (nx - nx0) (z - z0) := by
  have mB := m_X11_init_b106 hf
  unfold f_X11_init_b106 at hf
  refine zv_pXA K eX11_init_106 fx_X11_47 (Or.inr ⟨_, rfl⟩) hf (fun h1 hf => ?_)
  refine zv_aload_n K 0 eX11_init_109 rfl ?_
  refine zv_sipush K (4096 : Int32) eX11_init_110 (by decide) ?_
  have m9 := m_X11_init_b115 hf
  refine zv_newI K 4096 (nx + 1 - nx0) (z + 4096 - z0) eX11_init_113 ar_int (by decide) (by decide) (by decide) (by omega) (by omega) (z_bd hp m9) ?_
  exact zv_sub [0] rfl (v_X11_init_b115 K hX (by omega) hf hp)
theorem m_X11_init_b98  {x0 : Option Nat} {s0 : Option Nat} {s1 : Option Nat} {h : zH} {nx z : Nat} {x : ((Nat × Nat) × (zH))} (hf : f_X11_init_b98 x0 s0 s1 h nx z = some x) : nx ≤ x.1.1 ∧ z ≤ x.1.2 := by
  unfold f_X11_init_b98 at hf
  obtain ⟨_, _, hf⟩ := z_bind_inv hf
  have m9 := m_X11_init_b106 hf
  exact ⟨by (try dsimp only at *); omega, by (try dsimp only at *); omega⟩
set_option maxHeartbeats 4000000 in
set_option maxRecDepth 100000 in
theorem v_X11_init_b98 {X : zX} {cc0 ss0 nx0 z0 : Nat} (K : z_Ok X cX11_init none RX11 "<init>") (hX : z_Xo X (rm_X11_init cc0 ss0) 2) {x0 : Option Nat} {s0 : Option Nat} {s1 : Option Nat} {h : zH} {nx z : Nat} (hm : nx0 ≤ nx ∧ z0 ≤ z) {x : ((Nat × Nat) × (zH))} (hf : f_X11_init_b98 x0 s0 s1 h nx z = some x) (hp : z_Pm X nx0 z0 (z_P0Vm X nx0 z0) x) : zV X 98 [(0, tA x0)] [tA s1, tA s0] h nx (nx - nx0) (z - z0) := by
  have mB := m_X11_init_b98 hf
  unfold f_X11_init_b98 at hf
  refine zv_pXA K eX11_init_98 fx_X11_44 (Or.inr ⟨_, rfl⟩) hf (fun h1 hf => ?_)
  refine zv_aload_n K 0 eX11_init_101 rfl ?_
  refine zv_bipush K (21 : Int32) eX11_init_102 (by decide) ?_
  have m9 := m_X11_init_b106 hf
  refine zv_newI K 21 (nx + 1 - nx0) (z + 21 - z0) eX11_init_104 ar_int (by decide) (by decide) (by decide) (by omega) (by omega) (z_bd hp m9) ?_
  exact zv_sub [0] rfl (v_X11_init_b106 K hX (by omega) hf hp)
theorem m_X11_init_b90  {x0 : Option Nat} {s0 : Option Nat} {s1 : Option Nat} {h : zH} {nx z : Nat} {x : ((Nat × Nat) × (zH))} (hf : f_X11_init_b90 x0 s0 s1 h nx z = some x) : nx ≤ x.1.1 ∧ z ≤ x.1.2 := by
  unfold f_X11_init_b90 at hf
  obtain ⟨_, _, hf⟩ := z_bind_inv hf
  have m9 := m_X11_init_b98 hf
  exact ⟨by (try dsimp only at *); omega, by (try dsimp only at *); omega⟩
set_option maxHeartbeats 4000000 in
set_option maxRecDepth 100000 in
theorem v_X11_init_b90 {X : zX} {cc0 ss0 nx0 z0 : Nat} (K : z_Ok X cX11_init none RX11 "<init>") (hX : z_Xo X (rm_X11_init cc0 ss0) 2) {x0 : Option Nat} {s0 : Option Nat} {s1 : Option Nat} {h : zH} {nx z : Nat} (hm : nx0 ≤ nx ∧ z0 ≤ z) {x : ((Nat × Nat) × (zH))} (hf : f_X11_init_b90 x0 s0 s1 h nx z = some x) (hp : z_Pm X nx0 z0 (z_P0Vm X nx0 z0) x) : zV X 90 [(0, tA x0)] [tA s1, tA s0] h nx (nx - nx0) (z - z0) := by
  have mB := m_X11_init_b90 hf
  unfold f_X11_init_b90 at hf
  refine zv_pXA K eX11_init_90 fx_X11_41 (Or.inr ⟨_, rfl⟩) hf (fun h1 hf => ?_)
  refine zv_aload_n K 0 eX11_init_93 rfl ?_
  refine zv_bipush K (6 : Int32) eX11_init_94 (by decide) ?_
  have m9 := m_X11_init_b98 hf
  refine zv_newZ K 6 (nx + 1 - nx0) (z + 6 - z0) eX11_init_96 ar_boolean (by decide) (by decide) (by decide) (by omega) (by omega) (z_bd hp m9) ?_
  exact zv_sub [0] rfl (v_X11_init_b98 K hX (by omega) hf hp)
theorem m_X11_init_b82  {x0 : Option Nat} {s0 : Option Nat} {s1 : Option Nat} {h : zH} {nx z : Nat} {x : ((Nat × Nat) × (zH))} (hf : f_X11_init_b82 x0 s0 s1 h nx z = some x) : nx ≤ x.1.1 ∧ z ≤ x.1.2 := by
  unfold f_X11_init_b82 at hf
  obtain ⟨_, _, hf⟩ := z_bind_inv hf
  have m9 := m_X11_init_b90 hf
  exact ⟨by (try dsimp only at *); omega, by (try dsimp only at *); omega⟩
set_option maxHeartbeats 4000000 in
set_option maxRecDepth 100000 in
theorem v_X11_init_b82 {X : zX} {cc0 ss0 nx0 z0 : Nat} (K : z_Ok X cX11_init none RX11 "<init>") (hX : z_Xo X (rm_X11_init cc0 ss0) 2) {x0 : Option Nat} {s0 : Option Nat} {s1 : Option Nat} {h : zH} {nx z : Nat} (hm : nx0 ≤ nx ∧ z0 ≤ z) {x : ((Nat × Nat) × (zH))} (hf : f_X11_init_b82 x0 s0 s1 h nx z = some x) (hp : z_Pm X nx0 z0 (z_P0Vm X nx0 z0) x) : zV X 82 [(0, tA x0)] [tA s1, tA s0] h nx (nx - nx0) (z - z0) := by
  have mB := m_X11_init_b82 hf
  unfold f_X11_init_b82 at hf
  refine zv_pXA K eX11_init_82 fx_X11_38 (Or.inr ⟨_, rfl⟩) hf (fun h1 hf => ?_)
  refine zv_aload_n K 0 eX11_init_85 rfl ?_
  refine zv_bipush K (6 : Int32) eX11_init_86 (by decide) ?_
  have m9 := m_X11_init_b90 hf
  refine zv_newZ K 6 (nx + 1 - nx0) (z + 6 - z0) eX11_init_88 ar_boolean (by decide) (by decide) (by decide) (by omega) (by omega) (z_bd hp m9) ?_
  exact zv_sub [0] rfl (v_X11_init_b90 K hX (by omega) hf hp)
theorem m_X11_init_b74  {x0 : Option Nat} {s0 : Option Nat} {s1 : Option Nat} {h : zH} {nx z : Nat} {x : ((Nat × Nat) × (zH))} (hf : f_X11_init_b74 x0 s0 s1 h nx z = some x) : nx ≤ x.1.1 ∧ z ≤ x.1.2 := by
  unfold f_X11_init_b74 at hf
  obtain ⟨_, _, hf⟩ := z_bind_inv hf
  have m9 := m_X11_init_b82 hf
  exact ⟨by (try dsimp only at *); omega, by (try dsimp only at *); omega⟩
set_option maxHeartbeats 4000000 in
set_option maxRecDepth 100000 in
theorem v_X11_init_b74 {X : zX} {cc0 ss0 nx0 z0 : Nat} (K : z_Ok X cX11_init none RX11 "<init>") (hX : z_Xo X (rm_X11_init cc0 ss0) 2) {x0 : Option Nat} {s0 : Option Nat} {s1 : Option Nat} {h : zH} {nx z : Nat} (hm : nx0 ≤ nx ∧ z0 ≤ z) {x : ((Nat × Nat) × (zH))} (hf : f_X11_init_b74 x0 s0 s1 h nx z = some x) (hp : z_Pm X nx0 z0 (z_P0Vm X nx0 z0) x) : zV X 74 [(0, tA x0)] [tA s1, tA s0] h nx (nx - nx0) (z - z0) := by
  have mB := m_X11_init_b74 hf
  unfold f_X11_init_b74 at hf
  refine zv_pXA K eX11_init_74 fx_X11_35 (Or.inr ⟨_, rfl⟩) hf (fun h1 hf => ?_)
  refine zv_aload_n K 0 eX11_init_77 rfl ?_
  refine zv_bipush K (6 : Int32) eX11_init_78 (by decide) ?_
  have m9 := m_X11_init_b82 hf
  refine zv_newZ K 6 (nx + 1 - nx0) (z + 6 - z0) eX11_init_80 ar_boolean (by decide) (by decide) (by decide) (by omega) (by omega) (z_bd hp m9) ?_
  exact zv_sub [0] rfl (v_X11_init_b82 K hX (by omega) hf hp)
theorem m_X11_init_b66  {x0 : Option Nat} {s0 : Option Nat} {s1 : Option Nat} {h : zH} {nx z : Nat} {x : ((Nat × Nat) × (zH))} (hf : f_X11_init_b66 x0 s0 s1 h nx z = some x) : nx ≤ x.1.1 ∧ z ≤ x.1.2 := by
  unfold f_X11_init_b66 at hf
  obtain ⟨_, _, hf⟩ := z_bind_inv hf
  have m9 := m_X11_init_b74 hf
  exact ⟨by (try dsimp only at *); omega, by (try dsimp only at *); omega⟩
set_option maxHeartbeats 4000000 in
set_option maxRecDepth 100000 in
theorem v_X11_init_b66 {X : zX} {cc0 ss0 nx0 z0 : Nat} (K : z_Ok X cX11_init none RX11 "<init>") (hX : z_Xo X (rm_X11_init cc0 ss0) 2) {x0 : Option Nat} {s0 : Option Nat} {s1 : Option Nat} {h : zH} {nx z : Nat} (hm : nx0 ≤ nx ∧ z0 ≤ z) {x : ((Nat × Nat) × (zH))} (hf : f_X11_init_b66 x0 s0 s1 h nx z = some x) (hp : z_Pm X nx0 z0 (z_P0Vm X nx0 z0) x) : zV X 66 [(0, tA x0)] [tA s1, tA s0] h nx (nx - nx0) (z - z0) := by
  have mB := m_X11_init_b66 hf
  unfold f_X11_init_b66 at hf
  refine zv_pXA K eX11_init_66 fx_X11_32 (Or.inr ⟨_, rfl⟩) hf (fun h1 hf => ?_)
  refine zv_aload_n K 0 eX11_init_69 rfl ?_
  refine zv_bipush K (7 : Int32) eX11_init_70 (by decide) ?_
  have m9 := m_X11_init_b74 hf
  refine zv_newI K 7 (nx + 1 - nx0) (z + 7 - z0) eX11_init_72 ar_int (by decide) (by decide) (by decide) (by omega) (by omega) (z_bd hp m9) ?_
  exact zv_sub [0] rfl (v_X11_init_b74 K hX (by omega) hf hp)
theorem m_X11_init_b57  {x0 : Option Nat} {s0 : Option Nat} {s1 : Option Nat} {h : zH} {nx z : Nat} {x : ((Nat × Nat) × (zH))} (hf : f_X11_init_b57 x0 s0 s1 h nx z = some x) : nx ≤ x.1.1 ∧ z ≤ x.1.2 := by
  unfold f_X11_init_b57 at hf
  obtain ⟨_, _, hf⟩ := z_bind_inv hf
  have m9 := m_X11_init_b66 hf
  exact ⟨by (try dsimp only at *); omega, by (try dsimp only at *); omega⟩
set_option maxHeartbeats 4000000 in
set_option maxRecDepth 100000 in
theorem v_X11_init_b57 {X : zX} {cc0 ss0 nx0 z0 : Nat} (K : z_Ok X cX11_init none RX11 "<init>") (hX : z_Xo X (rm_X11_init cc0 ss0) 2) {x0 : Option Nat} {s0 : Option Nat} {s1 : Option Nat} {h : zH} {nx z : Nat} (hm : nx0 ≤ nx ∧ z0 ≤ z) {x : ((Nat × Nat) × (zH))} (hf : f_X11_init_b57 x0 s0 s1 h nx z = some x) (hp : z_Pm X nx0 z0 (z_P0Vm X nx0 z0) x) : zV X 57 [(0, tA x0)] [tA s1, tA s0] h nx (nx - nx0) (z - z0) := by
  have mB := m_X11_init_b57 hf
  unfold f_X11_init_b57 at hf
  refine zv_pXA K eX11_init_57 fx_X11_29 (Or.inr ⟨_, rfl⟩) hf (fun h1 hf => ?_)
  refine zv_aload_n K 0 eX11_init_60 rfl ?_
  refine zv_sipush K (256 : Int32) eX11_init_61 (by decide) ?_
  have m9 := m_X11_init_b66 hf
  refine zv_newI K 256 (nx + 1 - nx0) (z + 256 - z0) eX11_init_64 ar_int (by decide) (by decide) (by decide) (by omega) (by omega) (z_bd hp m9) ?_
  exact zv_sub [0] rfl (v_X11_init_b66 K hX (by omega) hf hp)
theorem m_X11_init_b50  {x0 : Option Nat} {s0 : Option Nat} {s1 : Option Nat} {h : zH} {nx z : Nat} {x : ((Nat × Nat) × (zH))} (hf : f_X11_init_b50 x0 s0 s1 h nx z = some x) : nx ≤ x.1.1 ∧ z ≤ x.1.2 := by
  unfold f_X11_init_b50 at hf
  obtain ⟨_, _, hf⟩ := z_bind_inv hf
  have m9 := m_X11_init_b57 hf
  exact ⟨by (try dsimp only at *); omega, by (try dsimp only at *); omega⟩
set_option maxHeartbeats 4000000 in
set_option maxRecDepth 100000 in
theorem v_X11_init_b50 {X : zX} {cc0 ss0 nx0 z0 : Nat} (K : z_Ok X cX11_init none RX11 "<init>") (hX : z_Xo X (rm_X11_init cc0 ss0) 2) {x0 : Option Nat} {s0 : Option Nat} {s1 : Option Nat} {h : zH} {nx z : Nat} (hm : nx0 ≤ nx ∧ z0 ≤ z) {x : ((Nat × Nat) × (zH))} (hf : f_X11_init_b50 x0 s0 s1 h nx z = some x) (hp : z_Pm X nx0 z0 (z_P0Vm X nx0 z0) x) : zV X 50 [(0, tA x0)] [tA s1, tA s0] h nx (nx - nx0) (z - z0) := by
  have mB := m_X11_init_b50 hf
  unfold f_X11_init_b50 at hf
  refine zv_pXA K eX11_init_50 fx_X11_26 (Or.inr ⟨_, rfl⟩) hf (fun h1 hf => ?_)
  refine zv_aload_n K 0 eX11_init_53 rfl ?_
  refine zv_iconst K (4 : Int32) eX11_init_54 (by decide) ?_
  have m9 := m_X11_init_b57 hf
  refine zv_newI K 4 (nx + 1 - nx0) (z + 4 - z0) eX11_init_55 ar_int (by decide) (by decide) (by decide) (by omega) (by omega) (z_bd hp m9) ?_
  exact zv_sub [0] rfl (v_X11_init_b57 K hX (by omega) hf hp)
theorem m_X11_init_b43  {x0 : Option Nat} {s0 : Option Nat} {s1 : Option Nat} {h : zH} {nx z : Nat} {x : ((Nat × Nat) × (zH))} (hf : f_X11_init_b43 x0 s0 s1 h nx z = some x) : nx ≤ x.1.1 ∧ z ≤ x.1.2 := by
  unfold f_X11_init_b43 at hf
  obtain ⟨_, _, hf⟩ := z_bind_inv hf
  have m9 := m_X11_init_b50 hf
  exact ⟨by (try dsimp only at *); omega, by (try dsimp only at *); omega⟩
set_option maxHeartbeats 4000000 in
set_option maxRecDepth 100000 in
theorem v_X11_init_b43 {X : zX} {cc0 ss0 nx0 z0 : Nat} (K : z_Ok X cX11_init none RX11 "<init>") (hX : z_Xo X (rm_X11_init cc0 ss0) 2) {x0 : Option Nat} {s0 : Option Nat} {s1 : Option Nat} {h : zH} {nx z : Nat} (hm : nx0 ≤ nx ∧ z0 ≤ z) {x : ((Nat × Nat) × (zH))} (hf : f_X11_init_b43 x0 s0 s1 h nx z = some x) (hp : z_Pm X nx0 z0 (z_P0Vm X nx0 z0) x) : zV X 43 [(0, tA x0)] [tA s1, tA s0] h nx (nx - nx0) (z - z0) := by
  have mB := m_X11_init_b43 hf
  unfold f_X11_init_b43 at hf
  refine zv_pXA K eX11_init_43 fx_X11_23 (Or.inr ⟨_, rfl⟩) hf (fun h1 hf => ?_)
  refine zv_aload_n K 0 eX11_init_46 rfl ?_
  refine zv_iconst K (4 : Int32) eX11_init_47 (by decide) ?_
  have m9 := m_X11_init_b50 hf
  refine zv_newI K 4 (nx + 1 - nx0) (z + 4 - z0) eX11_init_48 ar_int (by decide) (by decide) (by decide) (by omega) (by omega) (z_bd hp m9) ?_
  exact zv_sub [0] rfl (v_X11_init_b50 K hX (by omega) hf hp)
theorem m_X11_init_b35  {x0 : Option Nat} {s0 : Option Nat} {s1 : Option Nat} {h : zH} {nx z : Nat} {x : ((Nat × Nat) × (zH))} (hf : f_X11_init_b35 x0 s0 s1 h nx z = some x) : nx ≤ x.1.1 ∧ z ≤ x.1.2 := by
  unfold f_X11_init_b35 at hf
  obtain ⟨_, _, hf⟩ := z_bind_inv hf
  have m9 := m_X11_init_b43 hf
  exact ⟨by (try dsimp only at *); omega, by (try dsimp only at *); omega⟩
set_option maxHeartbeats 4000000 in
set_option maxRecDepth 100000 in
theorem v_X11_init_b35 {X : zX} {cc0 ss0 nx0 z0 : Nat} (K : z_Ok X cX11_init none RX11 "<init>") (hX : z_Xo X (rm_X11_init cc0 ss0) 2) {x0 : Option Nat} {s0 : Option Nat} {s1 : Option Nat} {h : zH} {nx z : Nat} (hm : nx0 ≤ nx ∧ z0 ≤ z) {x : ((Nat × Nat) × (zH))} (hf : f_X11_init_b35 x0 s0 s1 h nx z = some x) (hp : z_Pm X nx0 z0 (z_P0Vm X nx0 z0) x) : zV X 35 [(0, tA x0)] [tA s1, tA s0] h nx (nx - nx0) (z - z0) := by
  have mB := m_X11_init_b35 hf
  unfold f_X11_init_b35 at hf
  refine zv_pXA K eX11_init_35 fx_X11_20 (Or.inr ⟨_, rfl⟩) hf (fun h1 hf => ?_)
  refine zv_aload_n K 0 eX11_init_38 rfl ?_
  refine zv_bipush K (100 : Int32) eX11_init_39 (by decide) ?_
  have m9 := m_X11_init_b43 hf
  refine zv_newI K 100 (nx + 1 - nx0) (z + 100 - z0) eX11_init_41 ar_int (by decide) (by decide) (by decide) (by omega) (by omega) (z_bd hp m9) ?_
  exact zv_sub [0] rfl (v_X11_init_b43 K hX (by omega) hf hp)
theorem m_X11_init_b26  {x0 : Option Nat} {s0 : Option Nat} {s1 : Option Nat} {h : zH} {nx z : Nat} {x : ((Nat × Nat) × (zH))} (hf : f_X11_init_b26 x0 s0 s1 h nx z = some x) : nx ≤ x.1.1 ∧ z ≤ x.1.2 := by
  unfold f_X11_init_b26 at hf
  obtain ⟨_, _, hf⟩ := z_bind_inv hf
  have m9 := m_X11_init_b35 hf
  exact ⟨by (try dsimp only at *); omega, by (try dsimp only at *); omega⟩
set_option maxHeartbeats 4000000 in
set_option maxRecDepth 100000 in
theorem v_X11_init_b26 {X : zX} {cc0 ss0 nx0 z0 : Nat} (K : z_Ok X cX11_init none RX11 "<init>") (hX : z_Xo X (rm_X11_init cc0 ss0) 2) {x0 : Option Nat} {s0 : Option Nat} {s1 : Option Nat} {h : zH} {nx z : Nat} (hm : nx0 ≤ nx ∧ z0 ≤ z) {x : ((Nat × Nat) × (zH))} (hf : f_X11_init_b26 x0 s0 s1 h nx z = some x) (hp : z_Pm X nx0 z0 (z_P0Vm X nx0 z0) x) : zV X 26 [(0, tA x0)] [tA s1, tA s0] h nx (nx - nx0) (z - z0) := by
  have mB := m_X11_init_b26 hf
  unfold f_X11_init_b26 at hf
  refine zv_pXA K eX11_init_26 fx_X11_16 (Or.inr ⟨_, rfl⟩) hf (fun h1 hf => ?_)
  refine zv_aload_n K 0 eX11_init_29 rfl ?_
  refine zv_sipush K (530 : Int32) eX11_init_30 (by decide) ?_
  have m9 := m_X11_init_b35 hf
  refine zv_newI K 530 (nx + 1 - nx0) (z + 530 - z0) eX11_init_33 ar_int (by decide) (by decide) (by decide) (by omega) (by omega) (z_bd hp m9) ?_
  exact zv_sub [0] rfl (v_X11_init_b35 K hX (by omega) hf hp)
theorem m_X11_init_b19  {x0 : Option Nat} {s0 : Option Nat} {s1 : Option Nat} {h : zH} {nx z : Nat} {x : ((Nat × Nat) × (zH))} (hf : f_X11_init_b19 x0 s0 s1 h nx z = some x) : nx ≤ x.1.1 ∧ z ≤ x.1.2 := by
  unfold f_X11_init_b19 at hf
  obtain ⟨_, _, hf⟩ := z_bind_inv hf
  have m9 := m_X11_init_b26 hf
  exact ⟨by (try dsimp only at *); omega, by (try dsimp only at *); omega⟩
set_option maxHeartbeats 4000000 in
set_option maxRecDepth 100000 in
theorem v_X11_init_b19 {X : zX} {cc0 ss0 nx0 z0 : Nat} (K : z_Ok X cX11_init none RX11 "<init>") (hX : z_Xo X (rm_X11_init cc0 ss0) 2) {x0 : Option Nat} {s0 : Option Nat} {s1 : Option Nat} {h : zH} {nx z : Nat} (hm : nx0 ≤ nx ∧ z0 ≤ z) {x : ((Nat × Nat) × (zH))} (hf : f_X11_init_b19 x0 s0 s1 h nx z = some x) (hp : z_Pm X nx0 z0 (z_P0Vm X nx0 z0) x) : zV X 19 [(0, tA x0)] [tA s1, tA s0] h nx (nx - nx0) (z - z0) := by
  have mB := m_X11_init_b19 hf
  unfold f_X11_init_b19 at hf
  refine zv_pXA K eX11_init_19 fx_X11_13 (Or.inr ⟨_, rfl⟩) hf (fun h1 hf => ?_)
  refine zv_aload_n K 0 eX11_init_22 rfl ?_
  refine zv_iconst K (2 : Int32) eX11_init_23 (by decide) ?_
  have m9 := m_X11_init_b26 hf
  refine zv_newZ K 2 (nx + 1 - nx0) (z + 2 - z0) eX11_init_24 ar_boolean (by decide) (by decide) (by decide) (by omega) (by omega) (z_bd hp m9) ?_
  exact zv_sub [0] rfl (v_X11_init_b26 K hX (by omega) hf hp)
theorem m_X11_init_b10  {x0 : Option Nat} {s0 : Option Nat} {s1 : Option Nat} {h : zH} {nx z : Nat} {x : ((Nat × Nat) × (zH))} (hf : f_X11_init_b10 x0 s0 s1 h nx z = some x) : nx ≤ x.1.1 ∧ z ≤ x.1.2 := by
  unfold f_X11_init_b10 at hf
  obtain ⟨_, _, hf⟩ := z_bind_inv hf
  have m9 := m_X11_init_b19 hf
  exact ⟨by (try dsimp only at *); omega, by (try dsimp only at *); omega⟩
set_option maxHeartbeats 4000000 in
set_option maxRecDepth 100000 in
theorem v_X11_init_b10 {X : zX} {cc0 ss0 nx0 z0 : Nat} (K : z_Ok X cX11_init none RX11 "<init>") (hX : z_Xo X (rm_X11_init cc0 ss0) 2) {x0 : Option Nat} {s0 : Option Nat} {s1 : Option Nat} {h : zH} {nx z : Nat} (hm : nx0 ≤ nx ∧ z0 ≤ z) {x : ((Nat × Nat) × (zH))} (hf : f_X11_init_b10 x0 s0 s1 h nx z = some x) (hp : z_Pm X nx0 z0 (z_P0Vm X nx0 z0) x) : zV X 10 [(0, tA x0)] [tA s1, tA s0] h nx (nx - nx0) (z - z0) := by
  have mB := m_X11_init_b10 hf
  unfold f_X11_init_b10 at hf
  refine zv_pXA K eX11_init_10 fx_X11_7 (Or.inr ⟨_, rfl⟩) hf (fun h1 hf => ?_)
  refine zv_aload_n K 0 eX11_init_13 rfl ?_
  refine zv_sipush K (1060 : Int32) eX11_init_14 (by decide) ?_
  have m9 := m_X11_init_b19 hf
  refine zv_newI K 1060 (nx + 1 - nx0) (z + 1060 - z0) eX11_init_17 ar_int (by decide) (by decide) (by decide) (by omega) (by omega) (z_bd hp m9) ?_
  exact zv_sub [0] rfl (v_X11_init_b19 K hX (by omega) hf hp)
theorem m_X11_init  {x0 : Option Nat} {h : zH} {nx z : Nat} {x : ((Nat × Nat) × (zH))} (hf : f_X11_init x0 h nx z = some x) : nx ≤ x.1.1 ∧ z ≤ x.1.2 := by
  unfold f_X11_init at hf
  obtain ⟨_, _, hf⟩ := z_bind_inv hf
  have m9 := m_X11_init_b10 hf
  exact ⟨by (try dsimp only at *); omega, by (try dsimp only at *); omega⟩
set_option maxHeartbeats 4000000 in
set_option maxRecDepth 100000 in
theorem v_X11_init {X : zX} {cc0 ss0 nx0 z0 : Nat} (K : z_Ok X cX11_init none RX11 "<init>") (hX : z_Xo X (rm_X11_init cc0 ss0) 2) {x0 : Option Nat} {h : zH} {nx z : Nat} (hm : nx0 ≤ nx ∧ z0 ≤ z) {x : ((Nat × Nat) × (zH))} (hf : f_X11_init x0 h nx z = some x) (hp : z_Pm X nx0 z0 (z_P0Vm X nx0 z0) x) : zV X 0 [(0, tA x0)] [] h nx (nx - nx0) (z - z0) := by
  have mB := m_X11_init hf
  unfold f_X11_init at hf
  refine zv_aload_n K 0 eX11_init_0 rfl ?_
  refine zv_objInit K eX11_init_1 oi_X11_1 oi_im oi_co ⟨z_le (z_fr hX) (by exact Nat.le_of_ble_eq_true rfl), z_le (z_lo hX) (by exact Nat.le_of_ble_eq_true rfl)⟩ (Nat.le_of_ble_eq_true rfl) hf (fun v1 hf => ?_)
  refine zv_aload_n K 0 eX11_init_4 rfl ?_
  refine zv_sipush K (530 : Int32) eX11_init_5 (by decide) ?_
  have m9 := m_X11_init_b10 hf
  refine zv_newI K 530 (nx + 1 - nx0) (z + 530 - z0) eX11_init_8 ar_int (by decide) (by decide) (by decide) (by omega) (by omega) (z_bd hp m9) ?_
  exact zv_sub [0] rfl (v_X11_init_b10 K hX (by omega) hf hp)
theorem c_X11_init (l : Launch) (G : zG) {x0 : Option Nat} {h : zH} {nx z : Nat} {x : (Nat × Nat) × (zH)} (hf : f_X11_init x0 h nx z = some x) : z_Ct l G yX11_init cX11_init 2 none (rm_X11_init (x.1.1 - nx) (x.1.2 - z)) [tA x0] h nx none x.2 x.1.1 (x.1.1 - nx) (x.1.2 - z) :=
  z_enter [(0, tA x0)] (by decide +kernel) (Nat.le_of_ble_eq_true rfl) rfl (fun X hl hR hG hL K hq => by
    subst hl; subst hG
    have mm := m_X11_init hf
    have := v_X11_init K ⟨hR, hL⟩ (nx0 := nx) (z0 := z) ⟨Nat.le_refl _, Nat.le_refl _⟩ hf ⟨by rw [hR]; (try dsimp only [rm_X11_init]); omega, hq⟩
    rw [Nat.sub_self, Nat.sub_self] at this
    exact this)
set_option maxHeartbeats 4000000 in
set_option maxRecDepth 100000 in
theorem v_X11_in {X : zX} (K : z_Ok X cX11_in (some .boolean) RX11 "in") (hX : z_Xo X rm_X11_in 3) {x0 : Int32} {x1 : Int32} {x2 : Int32} {h : zH} {nx : Nat} {x : (Int32 × zH)} (hf : f_X11_in x0 x1 x2 h = some x) (hp : z_P0I X nx x) : zV X 0 [(0, tI x0), (1, tI x1), (2, tI x2)] [] h nx 0 0 := by
  unfold f_X11_in at hf
  refine zv_iload_n K 0 eX11_in_0 rfl ?_
  refine zv_iload_n K 1 eX11_in_1 rfl ?_
  refine zv_icmp_lt K 14 eX11_in_2 (by decide) hf (fun _ hf => ?_) (fun _ hf => ?_)
  · refine zv_iconst K (0 : Int32) eX11_in_14 (by decide) ?_
    cases hf
    exact zv_zret K eX11_in_15 (by decide) hp
  · refine zv_iload_n K 0 eX11_in_5 rfl ?_
    refine zv_iload_n K 2 eX11_in_6 rfl ?_
    refine zv_icmp_gt K 14 eX11_in_7 (by decide) hf (fun _ hf => ?_) (fun _ hf => ?_)
    · refine zv_iconst K (0 : Int32) eX11_in_14 (by decide) ?_
      cases hf
      exact zv_zret K eX11_in_15 (by decide) hp
    · refine zv_iconst K (1 : Int32) eX11_in_10 (by decide) ?_
      refine zv_goto K 15 eX11_in_11 (by decide) ?_
      cases hf
      exact zv_zret K eX11_in_15 (by decide) hp
theorem c_X11_in (l : Launch) (G : zG) {x0 : Int32} {x1 : Int32} {x2 : Int32} {h : zH} {nx : Nat} {x : Int32 × zH} (hf : f_X11_in x0 x1 x2 h = some x) : z_Ct l G yX11_in cX11_in 3 (some .boolean) rm_X11_in [tI x0, tI x1, tI x2] h nx (some (tI x.1)) x.2 nx 0 0 :=
  z_enter [(0, tI x0), (1, tI x1), (2, tI x2)] (by decide +kernel) (Nat.le_of_ble_eq_true rfl) rfl (fun X hl hR hG hL K hq => by
    subst hl; subst hG
    exact v_X11_in K ⟨hR, hL⟩ hf hq)
set_option maxHeartbeats 4000000 in
set_option maxRecDepth 100000 in
theorem v_X11_isCell {X : zX} (K : z_Ok X cX11_isCell (some .boolean) RX11 "isCell") (hX : z_Xo X rm_X11_isCell 2) {x0 : Int32} {x1 : Int32} {h : zH} {nx : Nat} {x : (Int32 × zH)} (hf : f_X11_isCell x0 x1 h = some x) (hp : z_P0I X nx x) : zV X 0 [(0, tI x0), (1, tI x1)] [] h nx 0 0 := by
  unfold f_X11_isCell at hf
  refine zv_iload_n K 0 eX11_isCell_0 rfl ?_
  refine zv_iconst K (0 : Int32) eX11_isCell_1 (by decide) ?_
  refine zv_bipush K (7 : Int32) eX11_isCell_2 (by decide) ?_
  obtain ⟨v2, h1, eh1, hf⟩ := z_b2_inv hf
  refine zv_cS0 K [tI x0, tI (0 : Int32), tI (7 : Int32)] [] eX11_isCell_4 lk_X11_65 md_X11_in st_X11_in rfl rfl (Nat.le_of_ble_eq_true rfl) (c_X11_in X.1.2.1 X.2.2.1 eh1) rfl rfl ⟨z_le (z_fr hX) (by decide), z_le (z_lo hX) (by decide)⟩ ⟨Nat.zero_le _, Nat.zero_le _⟩ ?_
  refine zv_if_eq K 24 eX11_isCell_7 (by decide) hf (fun _ hf => ?_) (fun _ hf => ?_)
  · refine zv_iconst K (0 : Int32) eX11_isCell_24 (by decide) ?_
    cases hf
    exact zv_zret K eX11_isCell_25 (by decide) hp
  · refine zv_iload_n K 1 eX11_isCell_10 rfl ?_
    refine zv_iconst K (0 : Int32) eX11_isCell_11 (by decide) ?_
    refine zv_bipush K (7 : Int32) eX11_isCell_12 (by decide) ?_
    obtain ⟨v4, h3, eh3, hf⟩ := z_b2_inv hf
    refine zv_cS0 K [tI x1, tI (0 : Int32), tI (7 : Int32)] [] eX11_isCell_14 lk_X11_65 md_X11_in st_X11_in rfl rfl (Nat.le_of_ble_eq_true rfl) (c_X11_in X.1.2.1 X.2.2.1 eh3) rfl rfl ⟨z_le (z_fr hX) (by decide), z_le (z_lo hX) (by decide)⟩ ⟨Nat.zero_le _, Nat.zero_le _⟩ ?_
    refine zv_if_eq K 24 eX11_isCell_17 (by decide) hf (fun _ hf => ?_) (fun _ hf => ?_)
    · refine zv_iconst K (0 : Int32) eX11_isCell_24 (by decide) ?_
      cases hf
      exact zv_zret K eX11_isCell_25 (by decide) hp
    · refine zv_iconst K (1 : Int32) eX11_isCell_20 (by decide) ?_
      refine zv_goto K 25 eX11_isCell_21 (by decide) ?_
      cases hf
      exact zv_zret K eX11_isCell_25 (by decide) hp
theorem c_X11_isCell (l : Launch) (G : zG) {x0 : Int32} {x1 : Int32} {h : zH} {nx : Nat} {x : Int32 × zH} (hf : f_X11_isCell x0 x1 h = some x) : z_Ct l G yX11_isCell cX11_isCell 2 (some .boolean) rm_X11_isCell [tI x0, tI x1] h nx (some (tI x.1)) x.2 nx 0 0 :=
  z_enter [(0, tI x0), (1, tI x1)] (by decide +kernel) (Nat.le_of_ble_eq_true rfl) rfl (fun X hl hR hG hL K hq => by
    subst hl; subst hG
    exact v_X11_isCell K ⟨hR, hL⟩ hf hq)
set_option maxHeartbeats 4000000 in
set_option maxRecDepth 100000 in
theorem v_X11_of {X : zX} (K : z_Ok X cX11_of (some .int) RX11 "of") (hX : z_Xo X rm_X11_of 2) {x0 : Int32} {x1 : Int32} {h : zH} {nx : Nat} {x : (Int32 × zH)} (hf : f_X11_of x0 x1 h = some x) (hp : z_P0I X nx x) : zV X 0 [(0, tI x0), (1, tI x1)] [] h nx 0 0 := by
  unfold f_X11_of at hf
  refine zv_bipush K (70 : Int32) eX11_of_0 (by decide) ?_
  refine zv_bipush K (40 : Int32) eX11_of_2 (by decide) ?_
  refine zv_iload_n K 0 eX11_of_4 rfl ?_
  refine zv_imul K eX11_of_5 ?_
  refine zv_iadd K eX11_of_6 ?_
  refine zv_iload_n K 1 eX11_of_7 rfl ?_
  refine zv_iadd K eX11_of_8 ?_
  have e9 := Option.some.inj hf; subst e9
  exact zv_iret K eX11_of_9 hp
theorem c_X11_of (l : Launch) (G : zG) {x0 : Int32} {x1 : Int32} {h : zH} {nx : Nat} {x : Int32 × zH} (hf : f_X11_of x0 x1 h = some x) : z_Ct l G yX11_of cX11_of 2 (some .int) rm_X11_of [tI x0, tI x1] h nx (some (tI x.1)) x.2 nx 0 0 :=
  z_enter [(0, tI x0), (1, tI x1)] (by decide +kernel) (Nat.le_of_ble_eq_true rfl) rfl (fun X hl hR hG hL K hq => by
    subst hl; subst hG
    exact v_X11_of K ⟨hR, hL⟩ hf hq)
