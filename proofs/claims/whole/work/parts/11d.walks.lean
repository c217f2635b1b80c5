def P_X11_count_70 (X : zX) (nx : Nat) : ((Option Nat) × Int32 × Int32 × zH) ⊕ (Int32 × zH) → Prop := z_PL (fun s => zV X 70 [(0, tA s.1), (2, tI s.2.1), (3, tI s.2.2.1)] [] s.2.2.2 nx 0 0) (z_P0I X nx)
set_option maxHeartbeats 4000000 in
set_option maxRecDepth 100000 in
theorem v_X11_count_b60 {X : zX} (K : z_Ok X cX11_count (some .int) RX11 "count") (hX : z_Xo X rm_X11_count 4) {x0 : Option Nat} {x1 : Int32} {h : zH} {nx : Nat} {x : (Int32 × zH)} (hf : f_X11_count_b60 x0 x1 h = some x) (hp : z_P0I X nx x) : zV X 60 [(0, tA x0), (1, tI x1)] [] h nx 0 0 := by
  unfold f_X11_count_b60 at hf
  refine zv_aload_n K 0 eX11_count_60 rfl ?_
  refine zv_iload_n K 1 eX11_count_61 rfl ?_
  refine zv_iconst K (2 : Int32) eX11_count_62 (by decide) ?_
  refine zv_isub K eX11_count_63 ?_
  obtain ⟨q1, hq1, hf⟩ := z_bind_inv hf
  obtain ⟨v3, h2, eh2, hf⟩ := z_b2_inv hf
  refine zv_cV0 K [tI (x1 - (2 : Int32))] [] eX11_count_64 lk_X11_179 md_X11_things im_X11_things sl_X11_things rfl rfl rfl rfl (Nat.le_of_ble_eq_true rfl) hq1 (c_X11_things X.1.2.1 X.2.2.1 eh2) rfl rfl ⟨z_le (z_fr hX) (by decide), z_le (z_lo hX) (by decide)⟩ ⟨Nat.zero_le _, Nat.zero_le _⟩ ?_
  have e9 := Option.some.inj hf; subst e9
  exact zv_iret K eX11_count_67 hp
set_option maxHeartbeats 4000000 in
set_option maxRecDepth 100000 in
theorem v_X11_count_c70 {X : zX} (K : z_Ok X cX11_count (some .int) RX11 "count") (hX : z_Xo X rm_X11_count 4) {x0 : Option Nat} {x2 : Int32} {x3 : Int32} {h : zH} {nx : Nat} {x : (((Option Nat) × Int32 × Int32 × zH) ⊕ (Int32 × zH))} (hf : f_X11_count_c70 x0 x2 x3 h = some x) (hp : P_X11_count_70 X nx x) : zV X 70 [(0, tA x0), (2, tI x2), (3, tI x3)] [] h nx 0 0 := by
  unfold f_X11_count_c70 at hf
  refine zv_iload_n K 2 eX11_count_70 rfl ?_
  refine zv_bipush K (64 : Int32) eX11_count_71 (by decide) ?_
  refine zv_icmp_ge K 91 eX11_count_73 (by decide) hf (fun _ hf => ?_) (fun _ hf => ?_)
  · obtain ⟨w9, hf9, e9⟩ := z_i1_inv hf; clear hf; subst e9; have hf := hf9; clear hf9
    refine zv_iload_n K 1 eX11_count_91 rfl ?_
    have e9 := Option.some.inj hf; subst e9
    exact zv_iret K eX11_count_92 hp
  · refine zv_iload_n K 1 eX11_count_76 rfl ?_
    refine zv_aload_n K 0 eX11_count_77 rfl ?_
    refine zv_gA K eX11_count_78 fl_X11_7 hf (fun v1 hf => ?_)
    refine zv_iload_n K 2 eX11_count_81 rfl ?_
    refine zv_aI K eX11_count_82 hf (fun v2 hf => ?_)
    refine zv_iadd K eX11_count_83 ?_
    refine zv_istore_n K [(2, tI (x2 + v2)), (0, tA x0), (3, tI x3)] eX11_count_84 (z_lt hX.2 (by decide)) rfl ?_
    refine zv_iinc K (x3 + (1 : Int32)) 2 [(3, tI (x3 + (1 : Int32))), (2, tI (x2 + v2)), (0, tA x0)] eX11_count_85 rfl rfl (z_lt hX.2 (by decide)) rfl ?_
    refine zv_goto K 70 eX11_count_88 (by decide) ?_
    cases hf
    exact zv_sub [2, 1, 0] rfl (show zV X 70 [(0, tA x0), (2, tI (x2 + v2)), (3, tI (x3 + (1 : Int32)))] [] h nx 0 0 from hp)
theorem v_X11_count_b70 {X : zX} (K : z_Ok X cX11_count (some .int) RX11 "count") (hX : z_Xo X rm_X11_count 4) {x0 : Option Nat} {x2 : Int32} {x3 : Int32} {h : zH} {nx : Nat} {x : (Int32 × zH)} (hf : f_X11_count_b70 x0 x2 x3 h = some x) (hp : z_P0I X nx x) : zV X 70 [(0, tA x0), (2, tI x2), (3, tI x3)] [] h nx 0 0 :=
  z_it_ind (P := fun s : (Option Nat) × Int32 × Int32 × zH => zV X 70 [(0, tA s.1), (2, tI s.2.1), (3, tI s.2.2.1)] [] s.2.2.2 nx 0 0) (fun s y hb hy => v_X11_count_c70 K hX hb (z_PL_of hy hp)) hf
set_option maxHeartbeats 4000000 in
set_option maxRecDepth 100000 in
theorem v_X11_count {X : zX} (K : z_Ok X cX11_count (some .int) RX11 "count") (hX : z_Xo X rm_X11_count 4) {x0 : Option Nat} {x1 : Int32} {h : zH} {nx : Nat} {x : (Int32 × zH)} (hf : f_X11_count x0 x1 h = some x) (hp : z_P0I X nx x) : zV X 0 [(0, tA x0), (1, tI x1)] [] h nx 0 0 := by
  unfold f_X11_count at hf
  refine zv_iconst K (0 : Int32) eX11_count_0 (by decide) ?_
  refine zv_istore_n K [(2, tI (0 : Int32)), (0, tA x0), (1, tI x1)] eX11_count_1 (z_lt hX.2 (by decide)) rfl ?_
  refine zv_iload_n K 2 eX11_count_2 rfl ?_
  refine z_ite_inv _ hf (fun c0 hf => ?_) (fun c0 hf => ?_)
  · refine zv_tswIn K (off := 41) (0 : Int32) 44 eX11_count_3 c0 (by decide) (by decide) (by rfl) (by decide) ?_
    refine zv_aload_n K 1 eX11_count_44 rfl ?_
    refine zv_gA K eX11_count_45 fl_X11_7 hf (fun v1 hf => ?_)
    refine zv_bipush K (64 : Int32) eX11_count_48 (by decide) ?_
    refine zv_aI K eX11_count_50 hf (fun v2 hf => ?_)
    have e9 := Option.some.inj hf; subst e9
    exact zv_iret K eX11_count_51 hp
  refine z_ite_inv _ hf (fun c1 hf => ?_) (fun c1 hf => ?_)
  · refine zv_tswIn K (off := 49) (1 : Int32) 52 eX11_count_3 c1 (by decide) (by decide) (by rfl) (by decide) ?_
    refine zv_aload_n K 1 eX11_count_52 rfl ?_
    refine zv_gA K eX11_count_53 fl_X11_7 hf (fun v3 hf => ?_)
    refine zv_bipush K (65 : Int32) eX11_count_56 (by decide) ?_
    refine zv_aI K eX11_count_58 hf (fun v4 hf => ?_)
    have e9 := Option.some.inj hf; subst e9
    exact zv_iret K eX11_count_59 hp
  refine z_ite_inv _ hf (fun c2 hf => ?_) (fun c2 hf => ?_)
  · refine zv_tswIn K (off := 57) (2 : Int32) 60 eX11_count_3 c2 (by decide) (by decide) (by rfl) (by decide) ?_
    exact zv_sub [1, 2] rfl (v_X11_count_b60 K hX hf hp)
  refine z_ite_inv _ hf (fun c3 hf => ?_) (fun c3 hf => ?_)
  · refine zv_tswIn K (off := 57) (3 : Int32) 60 eX11_count_3 c3 (by decide) (by decide) (by rfl) (by decide) ?_
    exact zv_sub [1, 2] rfl (v_X11_count_b60 K hX hf hp)
  refine z_ite_inv _ hf (fun c4 hf => ?_) (fun c4 hf => ?_)
  · refine zv_tswIn K (off := 57) (4 : Int32) 60 eX11_count_3 c4 (by decide) (by decide) (by rfl) (by decide) ?_
    exact zv_sub [1, 2] rfl (v_X11_count_b60 K hX hf hp)
  refine z_ite_inv _ hf (fun c5 hf => ?_) (fun c5 hf => ?_)
  · refine zv_tswIn K (off := 65) (5 : Int32) 68 eX11_count_3 c5 (by decide) (by decide) (by rfl) (by decide) ?_
    refine zv_iconst K (0 : Int32) eX11_count_68 (by decide) ?_
    refine zv_istore_n K [(3, tI (0 : Int32)), (2, tI (0 : Int32)), (0, tA x0), (1, tI x1)] eX11_count_69 (z_lt hX.2 (by decide)) rfl ?_
    exact zv_sub [2, 1, 0] rfl (v_X11_count_b70 K hX hf hp)
  refine z_ite_inv _ hf (fun c6 hf => ?_) (fun c6 hf => ?_)
  · refine zv_tswIn K (off := 90) (6 : Int32) 93 eX11_count_3 c6 (by decide) (by decide) (by rfl) (by decide) ?_
    refine zv_aload_n K 1 eX11_count_93 rfl ?_
    refine zv_gA K eX11_count_94 fl_X11_7 hf (fun v5 hf => ?_)
    refine zv_bipush K (67 : Int32) eX11_count_97 (by decide) ?_
    refine zv_aI K eX11_count_99 hf (fun v6 hf => ?_)
    have e9 := Option.some.inj hf; subst e9
    exact zv_iret K eX11_count_100 hp
  have ec0 := lv_neT (a := 0) c0 (by decide)
  have ec1 := lv_neT (a := 1) c1 (by decide)
  have ec2 := lv_neT (a := 2) c2 (by decide)
  have ec3 := lv_neT (a := 3) c3 (by decide)
  have ec4 := lv_neT (a := 4) c4 (by decide)
  have ec5 := lv_neT (a := 5) c5 (by decide)
  have ec6 := lv_neT (a := 6) c6 (by decide)
  refine zv_tswOut K 101 eX11_count_3 (by omega) (by decide) ?_
  refine zv_iconst K (-1 : Int32) eX11_count_101 (by decide) ?_
  have e9 := Option.some.inj hf; subst e9
  exact zv_iret K eX11_count_102 hp
theorem c_X11_count (l : Launch) (G : zG) {x0 : Option Nat} {x1 : Int32} {h : zH} {nx : Nat} {x : Int32 × zH} (hf : f_X11_count x0 x1 h = some x) : z_Ct l G yX11_count cX11_count 4 (some .int) rm_X11_count [tA x0, tI x1] h nx (some (tI x.1)) x.2 nx 0 0 :=
  z_enter [(0, tA x0), (1, tI x1)] (by decide +kernel) (Nat.le_of_ble_eq_true rfl) rfl (fun X hl hR hG hL K hq => by
    subst hl; subst hG
    exact v_X11_count K ⟨hR, hL⟩ hf hq)
def P_X11_lay_2 (X : zX) (nx : Nat) : ((Option Nat) × Int32 × Int32 × Int32 × zH) ⊕ (zH) → Prop := z_PL (fun s => zV X 2 [(0, tA s.1), (1, tI s.2.1), (2, tI s.2.2.1), (3, tI s.2.2.2.1)] [] s.2.2.2.2 nx 0 0) (z_P0V X nx)
set_option maxHeartbeats 4000000 in
set_option maxRecDepth 100000 in
theorem v_X11_lay_c2 {X : zX} (K : z_Ok X cX11_lay none RX11 "lay") (hX : z_Xo X rm_X11_lay 4) {x0 : Option Nat} {x1 : Int32} {x2 : Int32} {x3 : Int32} {h : zH} {nx : Nat} {x : (((Option Nat) × Int32 × Int32 × Int32 × zH) ⊕ (zH))} (hf : f_X11_lay_c2 x0 x1 x2 x3 h = some x) (hp : P_X11_lay_2 X nx x) : zV X 2 [(0, tA x0), (1, tI x1), (2, tI x2), (3, tI x3)] [] h nx 0 0 := by
  unfold f_X11_lay_c2 at hf
  refine zv_iload_n K 3 eX11_lay_2 rfl ?_
  refine zv_aload_n K 0 eX11_lay_3 rfl ?_
  refine zv_iload_n K 1 eX11_lay_4 rfl ?_
  obtain ⟨q1, hq1, hf⟩ := z_bind_inv hf
  obtain ⟨v3, h2, eh2, hf⟩ := z_b2_inv hf
  refine zv_cV0 K [tI x1] [tI x3] eX11_lay_5 lk_X11_77 md_X11_pieces im_X11_pieces sl_X11_pieces rfl rfl rfl rfl (Nat.le_of_ble_eq_true rfl) hq1 (c_X11_pieces X.1.2.1 X.2.2.1 eh2) rfl rfl ⟨z_le (z_fr hX) (by decide), z_le (z_lo hX) (by decide)⟩ ⟨Nat.zero_le _, Nat.zero_le _⟩ ?_
  refine zv_icmp_ge K 49 eX11_lay_8 (by decide) hf (fun _ hf => ?_) (fun _ hf => ?_)
  · obtain ⟨w9, hf9, e9⟩ := z_i1_inv hf; clear hf; subst e9; have hf := hf9; clear hf9
    have e9 := Option.some.inj hf; subst e9
    exact zv_vret K eX11_lay_49 hp
  · refine zv_aload_n K 0 eX11_lay_11 rfl ?_
    refine zv_gA K eX11_lay_12 fl_X11_7 hf (fun v4 hf => ?_)
    refine zv_iload_n K 1 eX11_lay_15 rfl ?_
    refine zv_iconst K (5 : Int32) eX11_lay_16 (by decide) ?_
    obtain ⟨v6, h5, eh5, hf⟩ := z_b2_inv hf
    refine zv_cS0 K [tI x1, tI (5 : Int32)] [tA v4] eX11_lay_17 lk_X11_69 md_X11_of st_X11_of rfl rfl (Nat.le_of_ble_eq_true rfl) (c_X11_of X.1.2.1 X.2.2.1 eh5) rfl rfl ⟨z_le (z_fr hX) (by decide), z_le (z_lo hX) (by decide)⟩ ⟨Nat.zero_le _, Nat.zero_le _⟩ ?_
    refine zv_iload_n K 3 eX11_lay_20 rfl ?_
    refine zv_iadd K eX11_lay_21 ?_
    refine zv_aload_n K 0 eX11_lay_22 rfl ?_
    refine zv_iload_n K 1 eX11_lay_23 rfl ?_
    refine zv_iload_n K 3 eX11_lay_24 rfl ?_
    refine zv_iconst K (1 : Int32) eX11_lay_25 (by decide) ?_
    refine zv_isub K eX11_lay_26 ?_
    obtain ⟨q7, hq7, hf⟩ := z_bind_inv hf
    obtain ⟨v9, h8, eh8, hf⟩ := z_b2_inv hf
    refine zv_cV0 K [tI x1, tI (x3 - (1 : Int32))] [tI (v6 + x3), tA v4] eX11_lay_27 lk_X11_81 md_X11_cell im_X11_cell sl_X11_cell rfl rfl rfl rfl (Nat.le_of_ble_eq_true rfl) hq7 (c_X11_cell X.1.2.1 X.2.2.1 eh8) rfl rfl ⟨z_le (z_fr hX) (by decide), z_le (z_lo hX) (by decide)⟩ ⟨Nat.zero_le _, Nat.zero_le _⟩ ?_
    refine zv_iload_n K 2 eX11_lay_30 rfl ?_
    refine zv_iconst K (2 : Int32) eX11_lay_31 (by decide) ?_
    refine zv_iload_n K 3 eX11_lay_32 rfl ?_
    refine zv_iconst K (1 : Int32) eX11_lay_33 (by decide) ?_
    refine zv_isub K eX11_lay_34 ?_
    refine zv_imul K eX11_lay_35 ?_
    refine zv_ishr K eX11_lay_36 ?_
    refine zv_iconst K (3 : Int32) eX11_lay_37 (by decide) ?_
    refine zv_iand K eX11_lay_38 ?_
    obtain ⟨v11, h10, eh10, hf⟩ := z_b2_inv hf
    refine zv_cS0 K [tI v9, tI ((x2 >>> (((2 : Int32) * (x3 - (1 : Int32))) &&& 31)) &&& (3 : Int32))] [tI (v6 + x3), tA v4] eX11_lay_39 lk_X11_91 md_X11_beside st_X11_beside rfl rfl (Nat.le_of_ble_eq_true rfl) (c_X11_beside X.1.2.1 X.2.2.1 eh10) rfl rfl ⟨z_le (z_fr hX) (by decide), z_le (z_lo hX) (by decide)⟩ ⟨Nat.zero_le _, Nat.zero_le _⟩ ?_
    refine zv_sI K eX11_lay_42 hf (fun h12 hf => ?_)
    refine zv_iinc K (x3 + (1 : Int32)) 3 [(3, tI (x3 + (1 : Int32))), (0, tA x0), (1, tI x1), (2, tI x2)] eX11_lay_43 rfl rfl (z_lt hX.2 (by decide)) rfl ?_
    refine zv_goto K 2 eX11_lay_46 (by decide) ?_
    cases hf
    exact zv_sub [1, 2, 3, 0] rfl (show zV X 2 [(0, tA x0), (1, tI x1), (2, tI x2), (3, tI (x3 + (1 : Int32)))] [] h12 nx 0 0 from hp)
theorem v_X11_lay_b2 {X : zX} (K : z_Ok X cX11_lay none RX11 "lay") (hX : z_Xo X rm_X11_lay 4) {x0 : Option Nat} {x1 : Int32} {x2 : Int32} {x3 : Int32} {h : zH} {nx : Nat} {x : (zH)} (hf : f_X11_lay_b2 x0 x1 x2 x3 h = some x) (hp : z_P0V X nx x) : zV X 2 [(0, tA x0), (1, tI x1), (2, tI x2), (3, tI x3)] [] h nx 0 0 :=
  z_it_ind (P := fun s : (Option Nat) × Int32 × Int32 × Int32 × zH => zV X 2 [(0, tA s.1), (1, tI s.2.1), (2, tI s.2.2.1), (3, tI s.2.2.2.1)] [] s.2.2.2.2 nx 0 0) (fun s y hb hy => v_X11_lay_c2 K hX hb (z_PL_of hy hp)) hf
set_option maxHeartbeats 4000000 in
set_option maxRecDepth 100000 in
theorem v_X11_lay {X : zX} (K : z_Ok X cX11_lay none RX11 "lay") (hX : z_Xo X rm_X11_lay 4) {x0 : Option Nat} {x1 : Int32} {x2 : Int32} {h : zH} {nx : Nat} {x : (zH)} (hf : f_X11_lay x0 x1 x2 h = some x) (hp : z_P0V X nx x) : zV X 0 [(0, tA x0), (1, tI x1), (2, tI x2)] [] h nx 0 0 := by
  unfold f_X11_lay at hf
  refine zv_iconst K (1 : Int32) eX11_lay_0 (by decide) ?_
  refine zv_istore_n K [(3, tI (1 : Int32)), (0, tA x0), (1, tI x1), (2, tI x2)] eX11_lay_1 (z_lt hX.2 (by decide)) rfl ?_
  exact zv_sub [1, 2, 3, 0] rfl (v_X11_lay_b2 K hX hf hp)
theorem c_X11_lay (l : Launch) (G : zG) {x0 : Option Nat} {x1 : Int32} {x2 : Int32} {h : zH} {nx : Nat} {x : zH} (hf : f_X11_lay x0 x1 x2 h = some x) : z_Ct l G yX11_lay cX11_lay 4 none rm_X11_lay [tA x0, tI x1, tI x2] h nx none x nx 0 0 :=
  z_enter [(0, tA x0), (1, tI x1), (2, tI x2)] (by decide +kernel) (Nat.le_of_ble_eq_true rfl) rfl (fun X hl hR hG hL K hq => by
    subst hl; subst hG
    exact v_X11_lay K ⟨hR, hL⟩ hf hq)
set_option maxHeartbeats 4000000 in
set_option maxRecDepth 100000 in
theorem v_X11_come {X : zX} (K : z_Ok X cX11_come none RX11 "come") (hX : z_Xo X rm_X11_come 4) {x0 : Option Nat} {x1 : Int32} {x2 : Int32} {h : zH} {nx : Nat} {x : (zH)} (hf : f_X11_come x0 x1 x2 h = some x) (hp : z_P0V X nx x) : zV X 0 [(0, tA x0), (1, tI x1), (2, tI x2)] [] h nx 0 0 := by
  unfold f_X11_come at hf
  refine zv_aload_n K 0 eX11_come_0 rfl ?_
  refine zv_iload_n K 1 eX11_come_1 rfl ?_
  obtain ⟨q1, hq1, hf⟩ := z_bind_inv hf
  obtain ⟨v3, h2, eh2, hf⟩ := z_b2_inv hf
  refine zv_cV0 K [tI x1] [] eX11_come_2 lk_X11_121 md_X11_formOf im_X11_formOf sl_X11_formOf rfl rfl rfl rfl (Nat.le_of_ble_eq_true rfl) hq1 (c_X11_formOf X.1.2.1 X.2.2.1 eh2) rfl rfl ⟨z_le (z_fr hX) (by decide), z_le (z_lo hX) (by decide)⟩ ⟨Nat.zero_le _, Nat.zero_le _⟩ ?_
  refine zv_istore_n K [(3, tI v3), (0, tA x0), (1, tI x1), (2, tI x2)] eX11_come_5 (z_lt hX.2 (by decide)) rfl ?_
  refine zv_aload_n K 1 eX11_come_6 rfl ?_
  refine zv_gA K eX11_come_7 fl_X11_50 hf (fun v4 hf => ?_)
  refine zv_iload_n K 0 eX11_come_10 rfl ?_
  refine zv_aI K eX11_come_11 hf (fun v5 hf => ?_)
  refine zv_if_ge K 42 eX11_come_12 (by decide) hf (fun _ hf => ?_) (fun _ hf => ?_)
  · have e9 := Option.some.inj hf; subst e9
    exact zv_vret K eX11_come_42 hp
  · refine zv_aload_n K 1 eX11_come_15 rfl ?_
    refine zv_gA K eX11_come_16 fl_X11_50 hf (fun v6 hf => ?_)
    refine zv_iload_n K 0 eX11_come_19 rfl ?_
    refine zv_iload_n K 3 eX11_come_20 rfl ?_
    refine zv_sI K eX11_come_21 hf (fun h7 hf => ?_)
    refine zv_aload_n K 1 eX11_come_22 rfl ?_
    refine zv_gA K eX11_come_23 fl_X11_53 hf (fun v8 hf => ?_)
    refine zv_aload_n K 1 eX11_come_26 rfl ?_
    refine zv_gI K eX11_come_27 fl_X11_182 hf (fun v9 hf => ?_)
    refine zv_iload_n K 0 eX11_come_30 rfl ?_
    refine zv_sI K eX11_come_31 hf (fun h10 hf => ?_)
    refine zv_aload_n K 1 eX11_come_32 rfl ?_
    refine zv_dup K eX11_come_33 rfl ?_
    refine zv_gI K eX11_come_34 fl_X11_182 hf (fun v11 hf => ?_)
    refine zv_iconst K (1 : Int32) eX11_come_37 (by decide) ?_
    refine zv_iadd K eX11_come_38 ?_
    refine zv_pI K eX11_come_39 fl_X11_182 ff_11_19 rfl hf (fun h12 hf => ?_)
    have e9 := Option.some.inj hf; subst e9
    exact zv_vret K eX11_come_42 hp
theorem c_X11_come (l : Launch) (G : zG) {x0 : Option Nat} {x1 : Int32} {x2 : Int32} {h : zH} {nx : Nat} {x : zH} (hf : f_X11_come x0 x1 x2 h = some x) : z_Ct l G yX11_come cX11_come 4 none rm_X11_come [tA x0, tI x1, tI x2] h nx none x nx 0 0 :=
  z_enter [(0, tA x0), (1, tI x1), (2, tI x2)] (by decide +kernel) (Nat.le_of_ble_eq_true rfl) rfl (fun X hl hR hG hL K hq => by
    subst hl; subst hG
    exact v_X11_come K ⟨hR, hL⟩ hf hq)
def P_X11_layReach_328 (X : zX) (nx : Nat) : ((Option Nat) × Int32 × Int32 × zH) ⊕ (zH) → Prop := z_PL (fun s => zV X 328 [(0, tA s.1), (1, tI s.2.1), (3, tI s.2.2.1)] [] s.2.2.2 nx 0 0) (z_P0V X nx)
def P_X11_layReach_90 (X : zX) (nx : Nat) : ((Option Nat) × Int32 × Int32 × Int32 × zH) ⊕ (zH) → Prop := z_PL (fun s => zV X 90 [(0, tA s.1), (1, tI s.2.1), (2, tI s.2.2.1), (3, tI s.2.2.2.1)] [] s.2.2.2.2 nx 0 0) (z_P0V X nx)
def P_X11_layReach_53 (X : zX) (nx : Nat) : ((Option Nat) × Int32 × Int32 × Int32 × zH) ⊕ (zH) → Prop := z_PL (fun s => zV X 53 [(0, tA s.1), (1, tI s.2.1), (2, tI s.2.2.1), (3, tI s.2.2.2.1)] [] s.2.2.2.2 nx 0 0) (z_P0V X nx)
def P_X11_layReach_31 (X : zX) (nx : Nat) : ((Option Nat) × Int32 × Int32 × Int32 × zH) ⊕ (zH) → Prop := z_PL (fun s => zV X 31 [(0, tA s.1), (1, tI s.2.1), (2, tI s.2.2.1), (3, tI s.2.2.2.1)] [] s.2.2.2.2 nx 0 0) (z_P0V X nx)
def P_X11_layReach_8 (X : zX) (nx : Nat) : ((Option Nat) × Int32 × Int32 × Int32 × zH) ⊕ (zH) → Prop := z_PL (fun s => zV X 8 [(0, tA s.1), (1, tI s.2.1), (2, tI s.2.2.1), (3, tI s.2.2.2.1)] [] s.2.2.2.2 nx 0 0) (z_P0V X nx)
def P_X11_layReach_243 (X : zX) (nx : Nat) : ((Option Nat) × Int32 × Int32 × Int32 × Int32 × Int32 × Int32 × zH) ⊕ (((Option Nat) × Int32 × Int32 × Int32 × zH) ⊕ (zH)) → Prop := z_PL (fun s => zV X 243 [(0, tA s.1), (1, tI s.2.1), (2, tI s.2.2.1), (3, tI s.2.2.2.1), (5, tI s.2.2.2.2.1), (6, tI s.2.2.2.2.2.1), (7, tI s.2.2.2.2.2.2.1)] [] s.2.2.2.2.2.2.2 nx 0 0) (P_X11_layReach_90 X nx)
def P_X11_layReach_164 (X : zX) (nx : Nat) : ((Option Nat) × Int32 × Int32 × Int32 × Int32 × Int32 × Int32 × zH) ⊕ (((Option Nat) × Int32 × Int32 × Int32 × zH) ⊕ (zH)) → Prop := z_PL (fun s => zV X 164 [(0, tA s.1), (1, tI s.2.1), (2, tI s.2.2.1), (3, tI s.2.2.2.1), (5, tI s.2.2.2.2.1), (6, tI s.2.2.2.2.2.1), (7, tI s.2.2.2.2.2.2.1)] [] s.2.2.2.2.2.2.2 nx 0 0) (P_X11_layReach_90 X nx)
set_option maxHeartbeats 4000000 in
set_option maxRecDepth 100000 in
theorem v_X11_layReach_c328 {X : zX} (K : z_Ok X cX11_layReach none RX11 "layReach") (hX : z_Xo X rm_X11_layReach 10) {x0 : Option Nat} {x1 : Int32} {x3 : Int32} {h : zH} {nx : Nat} {x : (((Option Nat) × Int32 × Int32 × zH) ⊕ (zH))} (hf : f_X11_layReach_c328 x0 x1 x3 h = some x) (hp : P_X11_layReach_328 X nx x) : zV X 328 [(0, tA x0), (1, tI x1), (3, tI x3)] [] h nx 0 0 := by
  unfold f_X11_layReach_c328 at hf
  refine zv_iload_n K 2 eX11_layReach_328 rfl ?_
  refine zv_bipush K (7 : Int32) eX11_layReach_329 (by decide) ?_
  refine zv_icmp_ge K 358 eX11_layReach_331 (by decide) hf (fun _ hf => ?_) (fun _ hf => ?_)
  · obtain ⟨w9, hf9, e9⟩ := z_i1_inv hf; clear hf; subst e9; have hf := hf9; clear hf9
    have e9 := Option.some.inj hf; subst e9
    exact zv_vret K eX11_layReach_358 hp
  · refine zv_aload_n K 0 eX11_layReach_334 rfl ?_
    refine zv_gA K eX11_layReach_335 fl_X11_7 hf (fun v1 hf => ?_)
    refine zv_iload_n K 1 eX11_layReach_338 rfl ?_
    refine zv_iconst K (5 : Int32) eX11_layReach_339 (by decide) ?_
    obtain ⟨v3, h2, eh2, hf⟩ := z_b2_inv hf
    refine zv_cS0 K [tI x1, tI (5 : Int32)] [tA v1] eX11_layReach_340 lk_X11_69 md_X11_of st_X11_of rfl rfl (Nat.le_of_ble_eq_true rfl) (c_X11_of X.1.2.1 X.2.2.1 eh2) rfl rfl ⟨z_le (z_fr hX) (by decide), z_le (z_lo hX) (by decide)⟩ ⟨Nat.zero_le _, Nat.zero_le _⟩ ?_
    refine zv_iload_n K 2 eX11_layReach_343 rfl ?_
    refine zv_iadd K eX11_layReach_344 ?_
    refine zv_aload_n K 0 eX11_layReach_345 rfl ?_
    refine zv_gA K eX11_layReach_346 fl_X11_59 hf (fun v4 hf => ?_)
    refine zv_iload_n K 2 eX11_layReach_349 rfl ?_
    refine zv_aI K eX11_layReach_350 hf (fun v5 hf => ?_)
    refine zv_sI K eX11_layReach_351 hf (fun h6 hf => ?_)
    refine zv_iinc K (x3 + (1 : Int32)) 2 [(3, tI (x3 + (1 : Int32))), (0, tA x0), (1, tI x1)] eX11_layReach_352 rfl rfl (z_lt hX.2 (by decide)) rfl ?_
    refine zv_goto K 328 eX11_layReach_355 (by decide) ?_
    cases hf
    exact zv_sub [1, 2, 0] rfl (show zV X 328 [(0, tA x0), (1, tI x1), (3, tI (x3 + (1 : Int32)))] [] h6 nx 0 0 from hp)
theorem v_X11_layReach_b328 {X : zX} (K : z_Ok X cX11_layReach none RX11 "layReach") (hX : z_Xo X rm_X11_layReach 10) {x0 : Option Nat} {x1 : Int32} {x3 : Int32} {h : zH} {nx : Nat} {x : (zH)} (hf : f_X11_layReach_b328 x0 x1 x3 h = some x) (hp : z_P0V X nx x) : zV X 328 [(0, tA x0), (1, tI x1), (3, tI x3)] [] h nx 0 0 :=
  z_it_ind (P := fun s : (Option Nat) × Int32 × Int32 × zH => zV X 328 [(0, tA s.1), (1, tI s.2.1), (3, tI s.2.2.1)] [] s.2.2.2 nx 0 0) (fun s y hb hy => v_X11_layReach_c328 K hX hb (z_PL_of hy hp)) hf
set_option maxHeartbeats 4000000 in
set_option maxRecDepth 100000 in
theorem v_X11_layReach_b314 {X : zX} (K : z_Ok X cX11_layReach none RX11 "layReach") (hX : z_Xo X rm_X11_layReach 10) {x0 : Option Nat} {x1 : Int32} {x2 : Int32} {x3 : Int32} {x5 : Int32} {x6 : Int32} {x7 : Int32} {h : zH} {nx : Nat} {x : (((Option Nat) × Int32 × Int32 × Int32 × Int32 × Int32 × Int32 × zH) ⊕ (((Option Nat) × Int32 × Int32 × Int32 × zH) ⊕ (zH)))} (hf : f_X11_layReach_b314 x0 x1 x2 x3 x5 x6 x7 h = some x) (hp : P_X11_layReach_243 X nx x) : zV X 314 [(0, tA x0), (1, tI x1), (2, tI x2), (3, tI x3), (5, tI x5), (6, tI x6), (7, tI x7)] [] h nx 0 0 := by
  unfold f_X11_layReach_b314 at hf
  refine zv_iinc K (x7 + (1 : Int32)) 6 [(7, tI (x7 + (1 : Int32))), (0, tA x0), (1, tI x1), (2, tI x2), (3, tI x3), (5, tI x5), (6, tI x6)] eX11_layReach_314 rfl rfl (z_lt hX.2 (by decide)) rfl ?_
  refine zv_goto K 243 eX11_layReach_317 (by decide) ?_
  cases hf
  exact zv_sub [1, 2, 3, 4, 5, 6, 0] rfl (show zV X 243 [(0, tA x0), (1, tI x1), (2, tI x2), (3, tI x3), (5, tI x5), (6, tI x6), (7, tI (x7 + (1 : Int32)))] [] h nx 0 0 from hp)
set_option maxHeartbeats 4000000 in
set_option maxRecDepth 100000 in
theorem v_X11_layReach_c243 {X : zX} (K : z_Ok X cX11_layReach none RX11 "layReach") (hX : z_Xo X rm_X11_layReach 10) {x0 : Option Nat} {x1 : Int32} {x2 : Int32} {x3 : Int32} {x5 : Int32} {x6 : Int32} {x7 : Int32} {h : zH} {nx : Nat} {x : (((Option Nat) × Int32 × Int32 × Int32 × Int32 × Int32 × Int32 × zH) ⊕ (((Option Nat) × Int32 × Int32 × Int32 × zH) ⊕ (zH)))} (hf : f_X11_layReach_c243 x0 x1 x2 x3 x5 x6 x7 h = some x) (hp : P_X11_layReach_243 X nx x) : zV X 243 [(0, tA x0), (1, tI x1), (2, tI x2), (3, tI x3), (5, tI x5), (6, tI x6), (7, tI x7)] [] h nx 0 0 := by
  unfold f_X11_layReach_c243 at hf
  refine zv_iload K 6 eX11_layReach_243 rfl ?_
  refine zv_iconst K (4 : Int32) eX11_layReach_245 (by decide) ?_
  refine zv_icmp_ge K 320 eX11_layReach_246 (by decide) hf (fun _ hf => ?_) (fun _ hf => ?_)
  · obtain ⟨w9, hf9, e9⟩ := z_i1_inv hf; clear hf; subst e9; have hf := hf9; clear hf9
    refine zv_iinc K (x3 + (1 : Int32)) 3 [(3, tI (x3 + (1 : Int32))), (0, tA x0), (1, tI x1), (2, tI x2), (5, tI x5), (6, tI x6), (7, tI x7)] eX11_layReach_320 rfl rfl (z_lt hX.2 (by decide)) rfl ?_
    refine zv_goto K 90 eX11_layReach_323 (by decide) ?_
    cases hf
    exact zv_sub [1, 2, 3, 0] rfl (show zV X 90 [(0, tA x0), (1, tI x1), (2, tI x2), (3, tI (x3 + (1 : Int32)))] [] h nx 0 0 from hp)
  · refine zv_aload_n K 0 eX11_layReach_249 rfl ?_
    refine zv_iload_n K 1 eX11_layReach_250 rfl ?_
    refine zv_iload_n K 2 eX11_layReach_251 rfl ?_
    refine zv_iconst K (2 : Int32) eX11_layReach_252 (by decide) ?_
    refine zv_isub K eX11_layReach_253 ?_
    obtain ⟨q1, hq1, hf⟩ := z_bind_inv hf
    obtain ⟨v3, h2, eh2, hf⟩ := z_b2_inv hf
    refine zv_cV0 K [tI x1, tI (x2 - (2 : Int32))] [] eX11_layReach_254 lk_X11_81 md_X11_cell im_X11_cell sl_X11_cell rfl rfl rfl rfl (Nat.le_of_ble_eq_true rfl) hq1 (c_X11_cell X.1.2.1 X.2.2.1 eh2) rfl rfl ⟨z_le (z_fr hX) (by decide), z_le (z_lo hX) (by decide)⟩ ⟨Nat.zero_le _, Nat.zero_le _⟩ ?_
    refine zv_iload K 6 eX11_layReach_257 rfl ?_
    obtain ⟨v5, h4, eh4, hf⟩ := z_b2_inv hf
    refine zv_cS0 K [tI v3, tI x7] [] eX11_layReach_259 lk_X11_91 md_X11_beside st_X11_beside rfl rfl (Nat.le_of_ble_eq_true rfl) (c_X11_beside X.1.2.1 X.2.2.1 eh4) rfl rfl ⟨z_le (z_fr hX) (by decide), z_le (z_lo hX) (by decide)⟩ ⟨Nat.zero_le _, Nat.zero_le _⟩ ?_
    refine zv_istore K [(8, tI v5), (0, tA x0), (1, tI x1), (2, tI x2), (3, tI x3), (5, tI x5), (6, tI x6), (7, tI x7)] eX11_layReach_262 (z_lt hX.2 (by decide)) rfl ?_
    refine zv_aload_n K 1 eX11_layReach_264 rfl ?_
    refine zv_iload K 0 eX11_layReach_265 rfl ?_
    obtain ⟨q6, hq6, hf⟩ := z_bind_inv hf
    obtain ⟨v8, h7, eh7, hf⟩ := z_b2_inv hf
    refine zv_cV0 K [tI v5] [] eX11_layReach_267 lk_X11_106 md_X11_isFree im_X11_isFree sl_X11_isFree rfl rfl rfl rfl (Nat.le_of_ble_eq_true rfl) hq6 (c_X11_isFree X.1.2.1 X.2.2.1 eh7) rfl rfl ⟨z_le (z_fr hX) (by decide), z_le (z_lo hX) (by decide)⟩ ⟨Nat.zero_le _, Nat.zero_le _⟩ ?_
    refine zv_if_eq K 314 eX11_layReach_270 (by decide) hf (fun _ hf => ?_) (fun _ hf => ?_)
    · exact zv_sub [1, 2, 3, 4, 5, 6, 7] rfl (v_X11_layReach_b314 K hX hf hp)
    · refine zv_aload_n K 1 eX11_layReach_273 rfl ?_
      refine zv_gA K eX11_layReach_274 fl_X11_7 hf (fun v9 hf => ?_)
      refine zv_iload_n K 2 eX11_layReach_277 rfl ?_
      refine zv_iconst K (5 : Int32) eX11_layReach_278 (by decide) ?_
      obtain ⟨v11, h10, eh10, hf⟩ := z_b2_inv hf
      refine zv_cS0 K [tI x1, tI (5 : Int32)] [tA v9] eX11_layReach_279 lk_X11_69 md_X11_of st_X11_of rfl rfl (Nat.le_of_ble_eq_true rfl) (c_X11_of X.1.2.1 X.2.2.1 eh10) rfl rfl ⟨z_le (z_fr hX) (by decide), z_le (z_lo hX) (by decide)⟩ ⟨Nat.zero_le _, Nat.zero_le _⟩ ?_
      refine zv_iload_n K 3 eX11_layReach_282 rfl ?_
      refine zv_iadd K eX11_layReach_283 ?_
      refine zv_iconst K (1 : Int32) eX11_layReach_284 (by decide) ?_
      refine zv_isub K eX11_layReach_285 ?_
      refine zv_iload K 0 eX11_layReach_286 rfl ?_
      refine zv_sI K eX11_layReach_288 hf (fun h12 hf => ?_)
      refine zv_aload_n K 1 eX11_layReach_289 rfl ?_
      refine zv_iload_n K 2 eX11_layReach_290 rfl ?_
      refine zv_iload K 5 eX11_layReach_291 rfl ?_
      refine zv_iconst K (1 : Int32) eX11_layReach_293 (by decide) ?_
      refine zv_iadd K eX11_layReach_294 ?_
      obtain ⟨q13, hq13, hf⟩ := z_bind_inv hf
      obtain ⟨h14, eh14, hf⟩ := z_bind_inv hf
      refine zv_cV0 K [tI x1, tI (x5 + (1 : Int32))] [] eX11_layReach_295 lk_X11_185 md_X11_come im_X11_come sl_X11_come rfl rfl rfl rfl (Nat.le_of_ble_eq_true rfl) hq13 (c_X11_come X.1.2.1 X.2.2.1 eh14) rfl rfl ⟨z_le (z_fr hX) (by decide), z_le (z_lo hX) (by decide)⟩ ⟨Nat.zero_le _, Nat.zero_le _⟩ ?_
      refine zv_aload_n K 1 eX11_layReach_298 rfl ?_
      refine zv_gA K eX11_layReach_299 fl_X11_7 hf (fun v15 hf => ?_)
      refine zv_iload_n K 2 eX11_layReach_302 rfl ?_
      refine zv_iconst K (5 : Int32) eX11_layReach_303 (by decide) ?_
      obtain ⟨v17, h16, eh16, hf⟩ := z_b2_inv hf
      refine zv_cS0 K [tI x1, tI (5 : Int32)] [tA v15] eX11_layReach_304 lk_X11_69 md_X11_of st_X11_of rfl rfl (Nat.le_of_ble_eq_true rfl) (c_X11_of X.1.2.1 X.2.2.1 eh16) rfl rfl ⟨z_le (z_fr hX) (by decide), z_le (z_lo hX) (by decide)⟩ ⟨Nat.zero_le _, Nat.zero_le _⟩ ?_
      refine zv_iload_n K 3 eX11_layReach_307 rfl ?_
      refine zv_iadd K eX11_layReach_308 ?_
      refine zv_iconst K (1 : Int32) eX11_layReach_309 (by decide) ?_
      refine zv_isub K eX11_layReach_310 ?_
      refine zv_iload K 6 eX11_layReach_311 rfl ?_
      refine zv_sI K eX11_layReach_313 hf (fun h18 hf => ?_)
      exact zv_sub [1, 2, 3, 4, 5, 6, 7] rfl (v_X11_layReach_b314 K hX hf hp)
theorem v_X11_layReach_b243 {X : zX} (K : z_Ok X cX11_layReach none RX11 "layReach") (hX : z_Xo X rm_X11_layReach 10) {x0 : Option Nat} {x1 : Int32} {x2 : Int32} {x3 : Int32} {x5 : Int32} {x6 : Int32} {x7 : Int32} {h : zH} {nx : Nat} {x : (((Option Nat) × Int32 × Int32 × Int32 × zH) ⊕ (zH))} (hf : f_X11_layReach_b243 x0 x1 x2 x3 x5 x6 x7 h = some x) (hp : P_X11_layReach_90 X nx x) : zV X 243 [(0, tA x0), (1, tI x1), (2, tI x2), (3, tI x3), (5, tI x5), (6, tI x6), (7, tI x7)] [] h nx 0 0 :=
  z_it_ind (P := fun s : (Option Nat) × Int32 × Int32 × Int32 × Int32 × Int32 × Int32 × zH => zV X 243 [(0, tA s.1), (1, tI s.2.1), (2, tI s.2.2.1), (3, tI s.2.2.2.1), (5, tI s.2.2.2.2.1), (6, tI s.2.2.2.2.2.1), (7, tI s.2.2.2.2.2.2.1)] [] s.2.2.2.2.2.2.2 nx 0 0) (fun s y hb hy => v_X11_layReach_c243 K hX hb (z_PL_of hy hp)) hf
set_option maxHeartbeats 4000000 in
set_option maxRecDepth 100000 in
theorem v_X11_layReach_b234 {X : zX} (K : z_Ok X cX11_layReach none RX11 "layReach") (hX : z_Xo X rm_X11_layReach 10) {x0 : Option Nat} {x1 : Int32} {x2 : Int32} {x3 : Int32} {x5 : Int32} {x6 : Int32} {x7 : Int32} {h : zH} {nx : Nat} {x : (((Option Nat) × Int32 × Int32 × Int32 × Int32 × Int32 × Int32 × zH) ⊕ (((Option Nat) × Int32 × Int32 × Int32 × zH) ⊕ (zH)))} (hf : f_X11_layReach_b234 x0 x1 x2 x3 x5 x6 x7 h = some x) (hp : P_X11_layReach_164 X nx x) : zV X 234 [(0, tA x0), (1, tI x1), (2, tI x2), (3, tI x3), (5, tI x5), (6, tI x6), (7, tI x7)] [] h nx 0 0 := by
  unfold f_X11_layReach_b234 at hf
  refine zv_iinc K (x7 + (1 : Int32)) 6 [(7, tI (x7 + (1 : Int32))), (0, tA x0), (1, tI x1), (2, tI x2), (3, tI x3), (5, tI x5), (6, tI x6)] eX11_layReach_234 rfl rfl (z_lt hX.2 (by decide)) rfl ?_
  refine zv_goto K 164 eX11_layReach_237 (by decide) ?_
  cases hf
  exact zv_sub [1, 2, 3, 4, 5, 6, 0] rfl (show zV X 164 [(0, tA x0), (1, tI x1), (2, tI x2), (3, tI x3), (5, tI x5), (6, tI x6), (7, tI (x7 + (1 : Int32)))] [] h nx 0 0 from hp)
set_option maxHeartbeats 4000000 in
set_option maxRecDepth 100000 in
theorem v_X11_layReach_c164 {X : zX} (K : z_Ok X cX11_layReach none RX11 "layReach") (hX : z_Xo X rm_X11_layReach 10) {x0 : Option Nat} {x1 : Int32} {x2 : Int32} {x3 : Int32} {x5 : Int32} {x6 : Int32} {x7 : Int32} {h : zH} {nx : Nat} {x : (((Option Nat) × Int32 × Int32 × Int32 × Int32 × Int32 × Int32 × zH) ⊕ (((Option Nat) × Int32 × Int32 × Int32 × zH) ⊕ (zH)))} (hf : f_X11_layReach_c164 x0 x1 x2 x3 x5 x6 x7 h = some x) (hp : P_X11_layReach_164 X nx x) : zV X 164 [(0, tA x0), (1, tI x1), (2, tI x2), (3, tI x3), (5, tI x5), (6, tI x6), (7, tI x7)] [] h nx 0 0 := by
  unfold f_X11_layReach_c164 at hf
  refine zv_iload K 6 eX11_layReach_164 rfl ?_
  refine zv_iload_n K 2 eX11_layReach_166 rfl ?_
  refine zv_iconst K (1 : Int32) eX11_layReach_167 (by decide) ?_
  refine zv_isub K eX11_layReach_168 ?_
  refine zv_icmp_ge K 240 eX11_layReach_169 (by decide) hf (fun _ hf => ?_) (fun _ hf => ?_)
  · obtain ⟨w9, hf9, e9⟩ := z_i1_inv hf; clear hf; subst e9; have hf := hf9; clear hf9
    refine zv_iconst K (0 : Int32) eX11_layReach_240 (by decide) ?_
    refine zv_istore K [(7, tI (0 : Int32)), (0, tA x0), (1, tI x1), (2, tI x2), (3, tI x3), (5, tI x5), (6, tI x6)] eX11_layReach_241 (z_lt hX.2 (by decide)) rfl ?_
    exact zv_sub [1, 2, 3, 4, 5, 6, 0] rfl (v_X11_layReach_b243 K hX hf hp)
  · refine zv_aload_n K 0 eX11_layReach_172 rfl ?_
    refine zv_iload_n K 1 eX11_layReach_173 rfl ?_
    refine zv_iload K 6 eX11_layReach_174 rfl ?_
    obtain ⟨q1, hq1, hf⟩ := z_bind_inv hf
    obtain ⟨v3, h2, eh2, hf⟩ := z_b2_inv hf
    refine zv_cV0 K [tI x1, tI x7] [] eX11_layReach_176 lk_X11_81 md_X11_cell im_X11_cell sl_X11_cell rfl rfl rfl rfl (Nat.le_of_ble_eq_true rfl) hq1 (c_X11_cell X.1.2.1 X.2.2.1 eh2) rfl rfl ⟨z_le (z_fr hX) (by decide), z_le (z_lo hX) (by decide)⟩ ⟨Nat.zero_le _, Nat.zero_le _⟩ ?_
    refine zv_istore K [(8, tI v3), (0, tA x0), (1, tI x1), (2, tI x2), (3, tI x3), (5, tI x5), (6, tI x6), (7, tI x7)] eX11_layReach_179 (z_lt hX.2 (by decide)) rfl ?_
    refine zv_aload_n K 1 eX11_layReach_181 rfl ?_
    refine zv_iload_n K 2 eX11_layReach_182 rfl ?_
    refine zv_iload K 7 eX11_layReach_183 rfl ?_
    obtain ⟨q4, hq4, hf⟩ := z_bind_inv hf
    obtain ⟨v6, h5, eh5, hf⟩ := z_b2_inv hf
    refine zv_cV0 K [tI x1, tI x7] [] eX11_layReach_185 lk_X11_127 md_X11_flipped im_X11_flipped sl_X11_flipped rfl rfl rfl rfl (Nat.le_of_ble_eq_true rfl) hq4 (c_X11_flipped X.1.2.1 X.2.2.1 eh5) rfl rfl ⟨z_le (z_fr hX) (by decide), z_le (z_lo hX) (by decide)⟩ ⟨Nat.zero_le _, Nat.zero_le _⟩ ?_
    refine zv_istore K [(9, tI v6), (8, tI v3), (0, tA x0), (1, tI x1), (2, tI x2), (3, tI x3), (5, tI x5), (6, tI x6), (7, tI x7)] eX11_layReach_188 (z_lt hX.2 (by decide)) rfl ?_
    refine zv_iload K 0 eX11_layReach_190 rfl ?_
    refine zv_if_lt K 234 eX11_layReach_192 (by decide) hf (fun _ hf => ?_) (fun _ hf => ?_)
    · exact zv_sub [2, 3, 4, 5, 6, 7, 8] rfl (v_X11_layReach_b234 K hX hf hp)
    · refine zv_aload_n K 2 eX11_layReach_195 rfl ?_
      refine zv_gA K eX11_layReach_196 fl_X11_7 hf (fun v7 hf => ?_)
      refine zv_iload_n K 3 eX11_layReach_199 rfl ?_
      refine zv_iconst K (5 : Int32) eX11_layReach_200 (by decide) ?_
      obtain ⟨v9, h8, eh8, hf⟩ := z_b2_inv hf
      refine zv_cS0 K [tI x1, tI (5 : Int32)] [tA v7] eX11_layReach_201 lk_X11_69 md_X11_of st_X11_of rfl rfl (Nat.le_of_ble_eq_true rfl) (c_X11_of X.1.2.1 X.2.2.1 eh8) rfl rfl ⟨z_le (z_fr hX) (by decide), z_le (z_lo hX) (by decide)⟩ ⟨Nat.zero_le _, Nat.zero_le _⟩ ?_
      refine zv_iload K 8 eX11_layReach_204 rfl ?_
      refine zv_iadd K eX11_layReach_206 ?_
      refine zv_iload K 0 eX11_layReach_207 rfl ?_
      refine zv_sI K eX11_layReach_209 hf (fun h10 hf => ?_)
      refine zv_aload_n K 2 eX11_layReach_210 rfl ?_
      refine zv_iload_n K 3 eX11_layReach_211 rfl ?_
      refine zv_iload K 6 eX11_layReach_212 rfl ?_
      refine zv_iconst K (1 : Int32) eX11_layReach_214 (by decide) ?_
      refine zv_iadd K eX11_layReach_215 ?_
      obtain ⟨q11, hq11, hf⟩ := z_bind_inv hf
      obtain ⟨h12, eh12, hf⟩ := z_bind_inv hf
      refine zv_cV0 K [tI x1, tI (x5 + (1 : Int32))] [] eX11_layReach_216 lk_X11_185 md_X11_come im_X11_come sl_X11_come rfl rfl rfl rfl (Nat.le_of_ble_eq_true rfl) hq11 (c_X11_come X.1.2.1 X.2.2.1 eh12) rfl rfl ⟨z_le (z_fr hX) (by decide), z_le (z_lo hX) (by decide)⟩ ⟨Nat.zero_le _, Nat.zero_le _⟩ ?_
      refine zv_aload_n K 2 eX11_layReach_219 rfl ?_
      refine zv_gA K eX11_layReach_220 fl_X11_7 hf (fun v13 hf => ?_)
      refine zv_iload_n K 3 eX11_layReach_223 rfl ?_
      refine zv_iconst K (5 : Int32) eX11_layReach_224 (by decide) ?_
      obtain ⟨v15, h14, eh14, hf⟩ := z_b2_inv hf
      refine zv_cS0 K [tI x1, tI (5 : Int32)] [tA v13] eX11_layReach_225 lk_X11_69 md_X11_of st_X11_of rfl rfl (Nat.le_of_ble_eq_true rfl) (c_X11_of X.1.2.1 X.2.2.1 eh14) rfl rfl ⟨z_le (z_fr hX) (by decide), z_le (z_lo hX) (by decide)⟩ ⟨Nat.zero_le _, Nat.zero_le _⟩ ?_
      refine zv_iload K 8 eX11_layReach_228 rfl ?_
      refine zv_iadd K eX11_layReach_230 ?_
      refine zv_iload K 1 eX11_layReach_231 rfl ?_
      refine zv_sI K eX11_layReach_233 hf (fun h16 hf => ?_)
      exact zv_sub [2, 3, 4, 5, 6, 7, 8] rfl (v_X11_layReach_b234 K hX hf hp)
theorem v_X11_layReach_b164 {X : zX} (K : z_Ok X cX11_layReach none RX11 "layReach") (hX : z_Xo X rm_X11_layReach 10) {x0 : Option Nat} {x1 : Int32} {x2 : Int32} {x3 : Int32} {x5 : Int32} {x6 : Int32} {x7 : Int32} {h : zH} {nx : Nat} {x : (((Option Nat) × Int32 × Int32 × Int32 × zH) ⊕ (zH))} (hf : f_X11_layReach_b164 x0 x1 x2 x3 x5 x6 x7 h = some x) (hp : P_X11_layReach_90 X nx x) : zV X 164 [(0, tA x0), (1, tI x1), (2, tI x2), (3, tI x3), (5, tI x5), (6, tI x6), (7, tI x7)] [] h nx 0 0 :=
  z_it_ind (P := fun s : (Option Nat) × Int32 × Int32 × Int32 × Int32 × Int32 × Int32 × zH => zV X 164 [(0, tA s.1), (1, tI s.2.1), (2, tI s.2.2.1), (3, tI s.2.2.2.1), (5, tI s.2.2.2.2.1), (6, tI s.2.2.2.2.2.1), (7, tI s.2.2.2.2.2.2.1)] [] s.2.2.2.2.2.2.2 nx 0 0) (fun s y hb hy => v_X11_layReach_c164 K hX hb (z_PL_of hy hp)) hf
set_option maxHeartbeats 4000000 in
set_option maxRecDepth 100000 in
theorem v_X11_layReach_b160 {X : zX} (K : z_Ok X cX11_layReach none RX11 "layReach") (hX : z_Xo X rm_X11_layReach 10) {x0 : Option Nat} {x1 : Int32} {x2 : Int32} {x3 : Int32} {x5 : Int32} {x6 : Int32} {s0 : Option Nat} {s1 : Int32} {s2 : Int32} {h : zH} {nx : Nat} {x : (((Option Nat) × Int32 × Int32 × Int32 × zH) ⊕ (zH))} (hf : f_X11_layReach_b160 x0 x1 x2 x3 x5 x6 s0 s1 s2 h = some x) (hp : P_X11_layReach_90 X nx x) : zV X 160 [(0, tA x0), (1, tI x1), (2, tI x2), (3, tI x3), (5, tI x5), (6, tI x6)] [tI s2, tI s1, tA s0] h nx 0 0 := by
  unfold f_X11_layReach_b160 at hf
  refine zv_sI K eX11_layReach_160 hf (fun h1 hf => ?_)
  refine zv_iconst K (1 : Int32) eX11_layReach_161 (by decide) ?_
  refine zv_istore K [(7, tI (1 : Int32)), (0, tA x0), (1, tI x1), (2, tI x2), (3, tI x3), (5, tI x5), (6, tI x6)] eX11_layReach_162 (z_lt hX.2 (by decide)) rfl ?_
  exact zv_sub [1, 2, 3, 4, 5, 6, 0] rfl (v_X11_layReach_b164 K hX hf hp)
set_option maxHeartbeats 4000000 in
set_option maxRecDepth 100000 in
theorem v_X11_layReach_c90 {X : zX} (K : z_Ok X cX11_layReach none RX11 "layReach") (hX : z_Xo X rm_X11_layReach 10) {x0 : Option Nat} {x1 : Int32} {x2 : Int32} {x3 : Int32} {h : zH} {nx : Nat} {x : (((Option Nat) × Int32 × Int32 × Int32 × zH) ⊕ (zH))} (hf : f_X11_layReach_c90 x0 x1 x2 x3 h = some x) (hp : P_X11_layReach_90 X nx x) : zV X 90 [(0, tA x0), (1, tI x1), (2, tI x2), (3, tI x3)] [] h nx 0 0 := by
  unfold f_X11_layReach_c90 at hf
  refine zv_iload_n K 3 eX11_layReach_90 rfl ?_
  refine zv_aload_n K 0 eX11_layReach_91 rfl ?_
  refine zv_gI K eX11_layReach_92 fl_X11_182 hf (fun v1 hf => ?_)
  refine zv_icmp_ge K 326 eX11_layReach_95 (by decide) hf (fun _ hf => ?_) (fun _ hf => ?_)
  · obtain ⟨w9, hf9, e9⟩ := z_i1_inv hf; clear hf; subst e9; have hf := hf9; clear hf9
    refine zv_iconst K (0 : Int32) eX11_layReach_326 (by decide) ?_
    refine zv_istore_n K [(3, tI (0 : Int32)), (0, tA x0), (1, tI x1), (2, tI x2)] eX11_layReach_327 (z_lt hX.2 (by decide)) rfl ?_
    exact zv_sub [1, 2, 0] rfl (v_X11_layReach_b328 K hX hf hp)
  · refine zv_aload_n K 0 eX11_layReach_98 rfl ?_
    refine zv_gA K eX11_layReach_99 fl_X11_53 hf (fun v2 hf => ?_)
    refine zv_iload_n K 3 eX11_layReach_102 rfl ?_
    refine zv_aI K eX11_layReach_103 hf (fun v3 hf => ?_)
    refine zv_istore K [(4, tI v3), (0, tA x0), (1, tI x1), (2, tI x2), (3, tI x3)] eX11_layReach_104 (z_lt hX.2 (by decide)) rfl ?_
    refine zv_aload_n K 1 eX11_layReach_106 rfl ?_
    refine zv_gA K eX11_layReach_107 fl_X11_50 hf (fun v4 hf => ?_)
    refine zv_iload K 0 eX11_layReach_110 rfl ?_
    refine zv_aI K eX11_layReach_112 hf (fun v5 hf => ?_)
    refine zv_istore K [(5, tI v5), (4, tI v3), (0, tA x0), (1, tI x1), (2, tI x2), (3, tI x3)] eX11_layReach_113 (z_lt hX.2 (by decide)) rfl ?_
    refine zv_aload_n K 2 eX11_layReach_115 rfl ?_
    refine zv_iload_n K 3 eX11_layReach_116 rfl ?_
    refine zv_iload K 1 eX11_layReach_117 rfl ?_
    obtain ⟨q6, hq6, hf⟩ := z_bind_inv hf
    obtain ⟨h7, eh7, hf⟩ := z_bind_inv hf
    refine zv_cV0 K [tI x1, tI v3] [] eX11_layReach_119 lk_X11_188 md_X11_lay im_X11_lay sl_X11_lay rfl rfl rfl rfl (Nat.le_of_ble_eq_true rfl) hq6 (c_X11_lay X.1.2.1 X.2.2.1 eh7) rfl rfl ⟨z_le (z_fr hX) (by decide), z_le (z_lo hX) (by decide)⟩ ⟨Nat.zero_le _, Nat.zero_le _⟩ ?_
    refine zv_aload_n K 2 eX11_layReach_122 rfl ?_
    refine zv_iload_n K 3 eX11_layReach_123 rfl ?_
    refine zv_iload_n K 4 eX11_layReach_124 rfl ?_
    refine zv_iconst K (1 : Int32) eX11_layReach_125 (by decide) ?_
    refine zv_isub K eX11_layReach_126 ?_
    obtain ⟨q8, hq8, hf⟩ := z_bind_inv hf
    obtain ⟨v10, h9, eh9, hf⟩ := z_b2_inv hf
    refine zv_cV0 K [tI x1, tI (x2 - (1 : Int32))] [] eX11_layReach_127 lk_X11_81 md_X11_cell im_X11_cell sl_X11_cell rfl rfl rfl rfl (Nat.le_of_ble_eq_true rfl) hq8 (c_X11_cell X.1.2.1 X.2.2.1 eh9) rfl rfl ⟨z_le (z_fr hX) (by decide), z_le (z_lo hX) (by decide)⟩ ⟨Nat.zero_le _, Nat.zero_le _⟩ ?_
    refine zv_istore K [(6, tI v10), (5, tI v5), (4, tI v3), (0, tA x0), (1, tI x1), (2, tI x2), (3, tI x3)] eX11_layReach_130 (z_lt hX.2 (by decide)) rfl ?_
    refine zv_aload_n K 3 eX11_layReach_132 rfl ?_
    refine zv_gA K eX11_layReach_133 fl_X11_56 hf (fun v11 hf => ?_)
    refine zv_iload K 0 eX11_layReach_136 rfl ?_
    refine zv_aload_n K 3 eX11_layReach_138 rfl ?_
    refine zv_gA K eX11_layReach_139 fl_X11_56 hf (fun v12 hf => ?_)
    refine zv_iload K 0 eX11_layReach_142 rfl ?_
    refine zv_aI K eX11_layReach_144 hf (fun v13 hf => ?_)
    refine zv_if_ge K 153 eX11_layReach_145 (by decide) hf (fun _ hf => ?_) (fun _ hf => ?_)
    · refine zv_aload_n K 3 eX11_layReach_153 rfl ?_
      refine zv_gA K eX11_layReach_154 fl_X11_56 hf (fun v14 hf => ?_)
      refine zv_iload K 0 eX11_layReach_157 rfl ?_
      refine zv_aI K eX11_layReach_159 hf (fun v15 hf => ?_)
      exact zv_sub [3, 4, 5, 6, 1, 0] rfl (v_X11_layReach_b160 K hX hf hp)
    · refine zv_iload K 1 eX11_layReach_148 rfl ?_
      refine zv_goto K 160 eX11_layReach_150 (by decide) ?_
      exact zv_sub [3, 4, 5, 6, 1, 0] rfl (v_X11_layReach_b160 K hX hf hp)
theorem v_X11_layReach_b90 {X : zX} (K : z_Ok X cX11_layReach none RX11 "layReach") (hX : z_Xo X rm_X11_layReach 10) {x0 : Option Nat} {x1 : Int32} {x2 : Int32} {x3 : Int32} {h : zH} {nx : Nat} {x : (zH)} (hf : f_X11_layReach_b90 x0 x1 x2 x3 h = some x) (hp : z_P0V X nx x) : zV X 90 [(0, tA x0), (1, tI x1), (2, tI x2), (3, tI x3)] [] h nx 0 0 :=
  z_it_ind (P := fun s : (Option Nat) × Int32 × Int32 × Int32 × zH => zV X 90 [(0, tA s.1), (1, tI s.2.1), (2, tI s.2.2.1), (3, tI s.2.2.2.1)] [] s.2.2.2.2 nx 0 0) (fun s y hb hy => v_X11_layReach_c90 K hX hb (z_PL_of hy hp)) hf
set_option maxHeartbeats 4000000 in
set_option maxRecDepth 100000 in
theorem v_X11_layReach_c53 {X : zX} (K : z_Ok X cX11_layReach none RX11 "layReach") (hX : z_Xo X rm_X11_layReach 10) {x0 : Option Nat} {x1 : Int32} {x2 : Int32} {x3 : Int32} {h : zH} {nx : Nat} {x : (((Option Nat) × Int32 × Int32 × Int32 × zH) ⊕ (zH))} (hf : f_X11_layReach_c53 x0 x1 x2 x3 h = some x) (hp : P_X11_layReach_53 X nx x) : zV X 53 [(0, tA x0), (1, tI x1), (2, tI x2), (3, tI x3)] [] h nx 0 0 := by
  unfold f_X11_layReach_c53 at hf
  refine zv_iload_n K 3 eX11_layReach_53 rfl ?_
  refine zv_bipush K (7 : Int32) eX11_layReach_54 (by decide) ?_
  refine zv_icmp_ge K 77 eX11_layReach_56 (by decide) hf (fun _ hf => ?_) (fun _ hf => ?_)
  · obtain ⟨w9, hf9, e9⟩ := z_i1_inv hf; clear hf; subst e9; have hf := hf9; clear hf9
    refine zv_aload_n K 0 eX11_layReach_77 rfl ?_
    refine zv_iconst K (0 : Int32) eX11_layReach_78 (by decide) ?_
    refine zv_pI K eX11_layReach_79 fl_X11_182 ff_11_19 rfl hf (fun h1 hf => ?_)
    refine zv_aload_n K 0 eX11_layReach_82 rfl ?_
    refine zv_iload_n K 1 eX11_layReach_83 rfl ?_
    refine zv_iconst K (0 : Int32) eX11_layReach_84 (by decide) ?_
    obtain ⟨q2, hq2, hf⟩ := z_bind_inv hf
    obtain ⟨h3, eh3, hf⟩ := z_bind_inv hf
    refine zv_cV0 K [tI x1, tI (0 : Int32)] [] eX11_layReach_85 lk_X11_185 md_X11_come im_X11_come sl_X11_come rfl rfl rfl rfl (Nat.le_of_ble_eq_true rfl) hq2 (c_X11_come X.1.2.1 X.2.2.1 eh3) rfl rfl ⟨z_le (z_fr hX) (by decide), z_le (z_lo hX) (by decide)⟩ ⟨Nat.zero_le _, Nat.zero_le _⟩ ?_
    refine zv_iconst K (0 : Int32) eX11_layReach_88 (by decide) ?_
    refine zv_istore_n K [(3, tI (0 : Int32)), (0, tA x0), (1, tI x1), (2, tI x2)] eX11_layReach_89 (z_lt hX.2 (by decide)) rfl ?_
    exact zv_sub [1, 2, 3, 0] rfl (v_X11_layReach_b90 K hX hf hp)
  · refine zv_aload_n K 0 eX11_layReach_59 rfl ?_
    refine zv_gA K eX11_layReach_60 fl_X11_59 hf (fun v4 hf => ?_)
    refine zv_iload_n K 3 eX11_layReach_63 rfl ?_
    refine zv_aload_n K 0 eX11_layReach_64 rfl ?_
    refine zv_iload_n K 1 eX11_layReach_65 rfl ?_
    refine zv_iload_n K 3 eX11_layReach_66 rfl ?_
    obtain ⟨q5, hq5, hf⟩ := z_bind_inv hf
    obtain ⟨v7, h6, eh6, hf⟩ := z_b2_inv hf
    refine zv_cV0 K [tI x1, tI x3] [tI x3, tA v4] eX11_layReach_67 lk_X11_81 md_X11_cell im_X11_cell sl_X11_cell rfl rfl rfl rfl (Nat.le_of_ble_eq_true rfl) hq5 (c_X11_cell X.1.2.1 X.2.2.1 eh6) rfl rfl ⟨z_le (z_fr hX) (by decide), z_le (z_lo hX) (by decide)⟩ ⟨Nat.zero_le _, Nat.zero_le _⟩ ?_
    refine zv_sI K eX11_layReach_70 hf (fun h8 hf => ?_)
    refine zv_iinc K (x3 + (1 : Int32)) 3 [(3, tI (x3 + (1 : Int32))), (0, tA x0), (1, tI x1), (2, tI x2)] eX11_layReach_71 rfl rfl (z_lt hX.2 (by decide)) rfl ?_
    refine zv_goto K 53 eX11_layReach_74 (by decide) ?_
    cases hf
    exact zv_sub [1, 2, 3, 0] rfl (show zV X 53 [(0, tA x0), (1, tI x1), (2, tI x2), (3, tI (x3 + (1 : Int32)))] [] h8 nx 0 0 from hp)
theorem v_X11_layReach_b53 {X : zX} (K : z_Ok X cX11_layReach none RX11 "layReach") (hX : z_Xo X rm_X11_layReach 10) {x0 : Option Nat} {x1 : Int32} {x2 : Int32} {x3 : Int32} {h : zH} {nx : Nat} {x : (zH)} (hf : f_X11_layReach_b53 x0 x1 x2 x3 h = some x) (hp : z_P0V X nx x) : zV X 53 [(0, tA x0), (1, tI x1), (2, tI x2), (3, tI x3)] [] h nx 0 0 :=
  z_it_ind (P := fun s : (Option Nat) × Int32 × Int32 × Int32 × zH => zV X 53 [(0, tA s.1), (1, tI s.2.1), (2, tI s.2.2.1), (3, tI s.2.2.2.1)] [] s.2.2.2.2 nx 0 0) (fun s y hb hy => v_X11_layReach_c53 K hX hb (z_PL_of hy hp)) hf
set_option maxHeartbeats 4000000 in
set_option maxRecDepth 100000 in
theorem v_X11_layReach_c31 {X : zX} (K : z_Ok X cX11_layReach none RX11 "layReach") (hX : z_Xo X rm_X11_layReach 10) {x0 : Option Nat} {x1 : Int32} {x2 : Int32} {x3 : Int32} {h : zH} {nx : Nat} {x : (((Option Nat) × Int32 × Int32 × Int32 × zH) ⊕ (zH))} (hf : f_X11_layReach_c31 x0 x1 x2 x3 h = some x) (hp : P_X11_layReach_31 X nx x) : zV X 31 [(0, tA x0), (1, tI x1), (2, tI x2), (3, tI x3)] [] h nx 0 0 := by
  unfold f_X11_layReach_c31 at hf
  refine zv_iload_n K 3 eX11_layReach_31 rfl ?_
  refine zv_bipush K (64 : Int32) eX11_layReach_32 (by decide) ?_
  refine zv_icmp_ge K 51 eX11_layReach_34 (by decide) hf (fun _ hf => ?_) (fun _ hf => ?_)
  · obtain ⟨w9, hf9, e9⟩ := z_i1_inv hf; clear hf; subst e9; have hf := hf9; clear hf9
    refine zv_iconst K (0 : Int32) eX11_layReach_51 (by decide) ?_
    refine zv_istore_n K [(3, tI (0 : Int32)), (0, tA x0), (1, tI x1), (2, tI x2)] eX11_layReach_52 (z_lt hX.2 (by decide)) rfl ?_
    exact zv_sub [1, 2, 3, 0] rfl (v_X11_layReach_b53 K hX hf hp)
  · refine zv_aload_n K 0 eX11_layReach_37 rfl ?_
    refine zv_gA K eX11_layReach_38 fl_X11_56 hf (fun v1 hf => ?_)
    refine zv_iload_n K 3 eX11_layReach_41 rfl ?_
    refine zv_bipush K (-4 : Int32) eX11_layReach_42 (by decide) ?_
    refine zv_sI K eX11_layReach_44 hf (fun h2 hf => ?_)
    refine zv_iinc K (x3 + (1 : Int32)) 3 [(3, tI (x3 + (1 : Int32))), (0, tA x0), (1, tI x1), (2, tI x2)] eX11_layReach_45 rfl rfl (z_lt hX.2 (by decide)) rfl ?_
    refine zv_goto K 31 eX11_layReach_48 (by decide) ?_
    cases hf
    exact zv_sub [1, 2, 3, 0] rfl (show zV X 31 [(0, tA x0), (1, tI x1), (2, tI x2), (3, tI (x3 + (1 : Int32)))] [] h2 nx 0 0 from hp)
theorem v_X11_layReach_b31 {X : zX} (K : z_Ok X cX11_layReach none RX11 "layReach") (hX : z_Xo X rm_X11_layReach 10) {x0 : Option Nat} {x1 : Int32} {x2 : Int32} {x3 : Int32} {h : zH} {nx : Nat} {x : (zH)} (hf : f_X11_layReach_b31 x0 x1 x2 x3 h = some x) (hp : z_P0V X nx x) : zV X 31 [(0, tA x0), (1, tI x1), (2, tI x2), (3, tI x3)] [] h nx 0 0 :=
  z_it_ind (P := fun s : (Option Nat) × Int32 × Int32 × Int32 × zH => zV X 31 [(0, tA s.1), (1, tI s.2.1), (2, tI s.2.2.1), (3, tI s.2.2.2.1)] [] s.2.2.2.2 nx 0 0) (fun s y hb hy => v_X11_layReach_c31 K hX hb (z_PL_of hy hp)) hf
set_option maxHeartbeats 4000000 in
set_option maxRecDepth 100000 in
theorem v_X11_layReach_c8 {X : zX} (K : z_Ok X cX11_layReach none RX11 "layReach") (hX : z_Xo X rm_X11_layReach 10) {x0 : Option Nat} {x1 : Int32} {x2 : Int32} {x3 : Int32} {h : zH} {nx : Nat} {x : (((Option Nat) × Int32 × Int32 × Int32 × zH) ⊕ (zH))} (hf : f_X11_layReach_c8 x0 x1 x2 x3 h = some x) (hp : P_X11_layReach_8 X nx x) : zV X 8 [(0, tA x0), (1, tI x1), (2, tI x2), (3, tI x3)] [] h nx 0 0 := by
  unfold f_X11_layReach_c8 at hf
  refine zv_iload_n K 3 eX11_layReach_8 rfl ?_
  refine zv_sipush K (4096 : Int32) eX11_layReach_9 (by decide) ?_
  refine zv_icmp_ge K 29 eX11_layReach_12 (by decide) hf (fun _ hf => ?_) (fun _ hf => ?_)
  · obtain ⟨w9, hf9, e9⟩ := z_i1_inv hf; clear hf; subst e9; have hf := hf9; clear hf9
    refine zv_iconst K (0 : Int32) eX11_layReach_29 (by decide) ?_
    refine zv_istore_n K [(3, tI (0 : Int32)), (0, tA x0), (1, tI x1), (2, tI x2)] eX11_layReach_30 (z_lt hX.2 (by decide)) rfl ?_
    exact zv_sub [1, 2, 3, 0] rfl (v_X11_layReach_b31 K hX hf hp)
  · refine zv_aload_n K 0 eX11_layReach_15 rfl ?_
    refine zv_gA K eX11_layReach_16 fl_X11_50 hf (fun v1 hf => ?_)
    refine zv_iload_n K 3 eX11_layReach_19 rfl ?_
    refine zv_bipush K (-4 : Int32) eX11_layReach_20 (by decide) ?_
    refine zv_sI K eX11_layReach_22 hf (fun h2 hf => ?_)
    refine zv_iinc K (x3 + (1 : Int32)) 3 [(3, tI (x3 + (1 : Int32))), (0, tA x0), (1, tI x1), (2, tI x2)] eX11_layReach_23 rfl rfl (z_lt hX.2 (by decide)) rfl ?_
    refine zv_goto K 8 eX11_layReach_26 (by decide) ?_
    cases hf
    exact zv_sub [1, 2, 3, 0] rfl (show zV X 8 [(0, tA x0), (1, tI x1), (2, tI x2), (3, tI (x3 + (1 : Int32)))] [] h2 nx 0 0 from hp)
theorem v_X11_layReach_b8 {X : zX} (K : z_Ok X cX11_layReach none RX11 "layReach") (hX : z_Xo X rm_X11_layReach 10) {x0 : Option Nat} {x1 : Int32} {x2 : Int32} {x3 : Int32} {h : zH} {nx : Nat} {x : (zH)} (hf : f_X11_layReach_b8 x0 x1 x2 x3 h = some x) (hp : z_P0V X nx x) : zV X 8 [(0, tA x0), (1, tI x1), (2, tI x2), (3, tI x3)] [] h nx 0 0 :=
  z_it_ind (P := fun s : (Option Nat) × Int32 × Int32 × Int32 × zH => zV X 8 [(0, tA s.1), (1, tI s.2.1), (2, tI s.2.2.1), (3, tI s.2.2.2.1)] [] s.2.2.2.2 nx 0 0) (fun s y hb hy => v_X11_layReach_c8 K hX hb (z_PL_of hy hp)) hf
set_option maxHeartbeats 4000000 in
set_option maxRecDepth 100000 in
theorem v_X11_layReach {X : zX} (K : z_Ok X cX11_layReach none RX11 "layReach") (hX : z_Xo X rm_X11_layReach 10) {x0 : Option Nat} {x1 : Int32} {h : zH} {nx : Nat} {x : (zH)} (hf : f_X11_layReach x0 x1 h = some x) (hp : z_P0V X nx x) : zV X 0 [(0, tA x0), (1, tI x1)] [] h nx 0 0 := by
  unfold f_X11_layReach at hf
  refine zv_aload_n K 0 eX11_layReach_0 rfl ?_
  refine zv_iload_n K 1 eX11_layReach_1 rfl ?_
  obtain ⟨q1, hq1, hf⟩ := z_bind_inv hf
  obtain ⟨v3, h2, eh2, hf⟩ := z_b2_inv hf
  refine zv_cV0 K [tI x1] [] eX11_layReach_2 lk_X11_77 md_X11_pieces im_X11_pieces sl_X11_pieces rfl rfl rfl rfl (Nat.le_of_ble_eq_true rfl) hq1 (c_X11_pieces X.1.2.1 X.2.2.1 eh2) rfl rfl ⟨z_le (z_fr hX) (by decide), z_le (z_lo hX) (by decide)⟩ ⟨Nat.zero_le _, Nat.zero_le _⟩ ?_
  refine zv_istore_n K [(2, tI v3), (0, tA x0), (1, tI x1)] eX11_layReach_5 (z_lt hX.2 (by decide)) rfl ?_
  refine zv_iconst K (0 : Int32) eX11_layReach_6 (by decide) ?_
  refine zv_istore_n K [(3, tI (0 : Int32)), (2, tI v3), (0, tA x0), (1, tI x1)] eX11_layReach_7 (z_lt hX.2 (by decide)) rfl ?_
  exact zv_sub [2, 3, 1, 0] rfl (v_X11_layReach_b8 K hX hf hp)
theorem c_X11_layReach (l : Launch) (G : zG) {x0 : Option Nat} {x1 : Int32} {h : zH} {nx : Nat} {x : zH} (hf : f_X11_layReach x0 x1 h = some x) : z_Ct l G yX11_layReach cX11_layReach 10 none rm_X11_layReach [tA x0, tI x1] h nx none x nx 0 0 :=
  z_enter [(0, tA x0), (1, tI x1)] (by decide +kernel) (Nat.le_of_ble_eq_true rfl) rfl (fun X hl hR hG hL K hq => by
    subst hl; subst hG
    exact v_X11_layReach K ⟨hR, hL⟩ hf hq)
set_option maxHeartbeats 4000000 in
set_option maxRecDepth 100000 in
theorem v_X11_forms {X : zX} (K : z_Ok X cX11_forms (some .int) RX11 "forms") (hX : z_Xo X rm_X11_forms 2) {x0 : Option Nat} {x1 : Int32} {h : zH} {nx : Nat} {x : (Int32 × zH)} (hf : f_X11_forms x0 x1 h = some x) (hp : z_P0I X nx x) : zV X 0 [(0, tA x0), (1, tI x1)] [] h nx 0 0 := by
  unfold f_X11_forms at hf
  refine zv_aload_n K 0 eX11_forms_0 rfl ?_
  refine zv_iload_n K 1 eX11_forms_1 rfl ?_
  obtain ⟨q1, hq1, hf⟩ := z_bind_inv hf
  obtain ⟨v3, h2, eh2, hf⟩ := z_b2_inv hf
  refine zv_cV0 K [tI x1] [] eX11_forms_2 lk_X11_73 md_X11_isArm im_X11_isArm sl_X11_isArm rfl rfl rfl rfl (Nat.le_of_ble_eq_true rfl) hq1 (c_X11_isArm X.1.2.1 X.2.2.1 eh2) rfl rfl ⟨z_le (z_fr hX) (by decide), z_le (z_lo hX) (by decide)⟩ ⟨Nat.zero_le _, Nat.zero_le _⟩ ?_
  refine zv_if_ne K 10 eX11_forms_5 (by decide) hf (fun _ hf => ?_) (fun _ hf => ?_)
  · refine zv_aload_n K 0 eX11_forms_10 rfl ?_
    refine zv_iload_n K 1 eX11_forms_11 rfl ?_
    obtain ⟨q4, hq4, hf⟩ := z_bind_inv hf
    obtain ⟨v6, h5, eh5, hf⟩ := z_b2_inv hf
    refine zv_cV0 K [tI x1] [] eX11_forms_12 lk_X11_109 md_X11_cutOf im_X11_cutOf sl_X11_cutOf rfl rfl rfl rfl (Nat.le_of_ble_eq_true rfl) hq4 (c_X11_cutOf X.1.2.1 X.2.2.1 eh5) rfl rfl ⟨z_le (z_fr hX) (by decide), z_le (z_lo hX) (by decide)⟩ ⟨Nat.zero_le _, Nat.zero_le _⟩ ?_
    refine zv_if_lt K 21 eX11_forms_15 (by decide) hf (fun _ hf => ?_) (fun _ hf => ?_)
    · refine zv_aload_n K 0 eX11_forms_21 rfl ?_
      refine zv_iload_n K 1 eX11_forms_22 rfl ?_
      obtain ⟨q7, hq7, hf⟩ := z_bind_inv hf
      obtain ⟨h8, eh8, hf⟩ := z_bind_inv hf
      refine zv_cV0 K [tI x1] [] eX11_forms_23 lk_X11_191 md_X11_layReach im_X11_layReach sl_X11_layReach rfl rfl rfl rfl (Nat.le_of_ble_eq_true rfl) hq7 (c_X11_layReach X.1.2.1 X.2.2.1 eh8) rfl rfl ⟨z_le (z_fr hX) (by decide), z_le (z_lo hX) (by decide)⟩ ⟨Nat.zero_le _, Nat.zero_le _⟩ ?_
      refine zv_aload_n K 0 eX11_forms_26 rfl ?_
      refine zv_gI K eX11_forms_27 fl_X11_182 hf (fun v9 hf => ?_)
      have e9 := Option.some.inj hf; subst e9
      exact zv_iret K eX11_forms_30 hp
    · refine zv_bipush K (-2 : Int32) eX11_forms_18 (by decide) ?_
      have e9 := Option.some.inj hf; subst e9
      exact zv_iret K eX11_forms_20 hp
  · refine zv_iconst K (-1 : Int32) eX11_forms_8 (by decide) ?_
    have e9 := Option.some.inj hf; subst e9
    exact zv_iret K eX11_forms_9 hp
theorem c_X11_forms (l : Launch) (G : zG) {x0 : Option Nat} {x1 : Int32} {h : zH} {nx : Nat} {x : Int32 × zH} (hf : f_X11_forms x0 x1 h = some x) : z_Ct l G yX11_forms cX11_forms 2 (some .int) rm_X11_forms [tA x0, tI x1] h nx (some (tI x.1)) x.2 nx 0 0 :=
  z_enter [(0, tA x0), (1, tI x1)] (by decide +kernel) (Nat.le_of_ble_eq_true rfl) rfl (fun X hl hR hG hL K hq => by
    subst hl; subst hG
    exact v_X11_forms K ⟨hR, hL⟩ hf hq)
def P_X11_reach_30 (X : zX) (nx : Nat) : ((Option Nat) × Int32 × Int32 × zH) ⊕ (Int32 × zH) → Prop := z_PL (fun s => zV X 30 [(0, tA s.1), (2, tI s.2.1), (3, tI s.2.2.1)] [] s.2.2.2 nx 0 0) (z_P0I X nx)
set_option maxHeartbeats 4000000 in
set_option maxRecDepth 100000 in
theorem v_X11_reach_b51 {X : zX} (K : z_Ok X cX11_reach (some .int) RX11 "reach") (hX : z_Xo X rm_X11_reach 4) {x0 : Option Nat} {x3 : Int32} {s0 : Int32} {s1 : Int32} {h : zH} {nx : Nat} {x : (((Option Nat) × Int32 × Int32 × zH) ⊕ (Int32 × zH))} (hf : f_X11_reach_b51 x0 x3 s0 s1 h = some x) (hp : P_X11_reach_30 X nx x) : zV X 51 [(0, tA x0), (3, tI x3)] [tI s1, tI s0] h nx 0 0 := by
  unfold f_X11_reach_b51 at hf
  refine zv_iadd K eX11_reach_51 ?_
  refine zv_istore_n K [(2, tI (s0 + s1)), (0, tA x0), (3, tI x3)] eX11_reach_52 (z_lt hX.2 (by decide)) rfl ?_
  refine zv_iinc K (x3 + (1 : Int32)) 2 [(3, tI (x3 + (1 : Int32))), (2, tI (s0 + s1)), (0, tA x0)] eX11_reach_53 rfl rfl (z_lt hX.2 (by decide)) rfl ?_
  refine zv_goto K 30 eX11_reach_56 (by decide) ?_
  cases hf
  exact zv_sub [2, 1, 0] rfl (show zV X 30 [(0, tA x0), (2, tI (s0 + s1)), (3, tI (x3 + (1 : Int32)))] [] h nx 0 0 from hp)
set_option maxHeartbeats 4000000 in
set_option maxRecDepth 100000 in
theorem v_X11_reach_c30 {X : zX} (K : z_Ok X cX11_reach (some .int) RX11 "reach") (hX : z_Xo X rm_X11_reach 4) {x0 : Option Nat} {x2 : Int32} {x3 : Int32} {h : zH} {nx : Nat} {x : (((Option Nat) × Int32 × Int32 × zH) ⊕ (Int32 × zH))} (hf : f_X11_reach_c30 x0 x2 x3 h = some x) (hp : P_X11_reach_30 X nx x) : zV X 30 [(0, tA x0), (2, tI x2), (3, tI x3)] [] h nx 0 0 := by
  unfold f_X11_reach_c30 at hf
  refine zv_iload_n K 2 eX11_reach_30 rfl ?_
  refine zv_bipush K (64 : Int32) eX11_reach_31 (by decide) ?_
  refine zv_icmp_ge K 59 eX11_reach_33 (by decide) hf (fun _ hf => ?_) (fun _ hf => ?_)
  · obtain ⟨w9, hf9, e9⟩ := z_i1_inv hf; clear hf; subst e9; have hf := hf9; clear hf9
    refine zv_iload_n K 1 eX11_reach_59 rfl ?_
    have e9 := Option.some.inj hf; subst e9
    exact zv_iret K eX11_reach_60 hp
  · refine zv_iload_n K 1 eX11_reach_36 rfl ?_
    refine zv_aload_n K 0 eX11_reach_37 rfl ?_
    refine zv_gA K eX11_reach_38 fl_X11_56 hf (fun v1 hf => ?_)
    refine zv_iload_n K 2 eX11_reach_41 rfl ?_
    refine zv_aI K eX11_reach_42 hf (fun v2 hf => ?_)
    refine zv_if_lt K 50 eX11_reach_43 (by decide) hf (fun _ hf => ?_) (fun _ hf => ?_)
    · refine zv_iconst K (0 : Int32) eX11_reach_50 (by decide) ?_
      exact zv_sub [0, 2] rfl (v_X11_reach_b51 K hX hf hp)
    · refine zv_iconst K (1 : Int32) eX11_reach_46 (by decide) ?_
      refine zv_goto K 51 eX11_reach_47 (by decide) ?_
      exact zv_sub [0, 2] rfl (v_X11_reach_b51 K hX hf hp)
theorem v_X11_reach_b30 {X : zX} (K : z_Ok X cX11_reach (some .int) RX11 "reach") (hX : z_Xo X rm_X11_reach 4) {x0 : Option Nat} {x2 : Int32} {x3 : Int32} {h : zH} {nx : Nat} {x : (Int32 × zH)} (hf : f_X11_reach_b30 x0 x2 x3 h = some x) (hp : z_P0I X nx x) : zV X 30 [(0, tA x0), (2, tI x2), (3, tI x3)] [] h nx 0 0 :=
  z_it_ind (P := fun s : (Option Nat) × Int32 × Int32 × zH => zV X 30 [(0, tA s.1), (2, tI s.2.1), (3, tI s.2.2.1)] [] s.2.2.2 nx 0 0) (fun s y hb hy => v_X11_reach_c30 K hX hb (z_PL_of hy hp)) hf
set_option maxHeartbeats 4000000 in
set_option maxRecDepth 100000 in
theorem v_X11_reach {X : zX} (K : z_Ok X cX11_reach (some .int) RX11 "reach") (hX : z_Xo X rm_X11_reach 4) {x0 : Option Nat} {x1 : Int32} {h : zH} {nx : Nat} {x : (Int32 × zH)} (hf : f_X11_reach x0 x1 h = some x) (hp : z_P0I X nx x) : zV X 0 [(0, tA x0), (1, tI x1)] [] h nx 0 0 := by
  unfold f_X11_reach at hf
  refine zv_aload_n K 0 eX11_reach_0 rfl ?_
  refine zv_iload_n K 1 eX11_reach_1 rfl ?_
  obtain ⟨q1, hq1, hf⟩ := z_bind_inv hf
  obtain ⟨v3, h2, eh2, hf⟩ := z_b2_inv hf
  refine zv_cV0 K [tI x1] [] eX11_reach_2 lk_X11_73 md_X11_isArm im_X11_isArm sl_X11_isArm rfl rfl rfl rfl (Nat.le_of_ble_eq_true rfl) hq1 (c_X11_isArm X.1.2.1 X.2.2.1 eh2) rfl rfl ⟨z_le (z_fr hX) (by decide), z_le (z_lo hX) (by decide)⟩ ⟨Nat.zero_le _, Nat.zero_le _⟩ ?_
  refine zv_if_ne K 10 eX11_reach_5 (by decide) hf (fun _ hf => ?_) (fun _ hf => ?_)
  · refine zv_aload_n K 0 eX11_reach_10 rfl ?_
    refine zv_iload_n K 1 eX11_reach_11 rfl ?_
    obtain ⟨q4, hq4, hf⟩ := z_bind_inv hf
    obtain ⟨v6, h5, eh5, hf⟩ := z_b2_inv hf
    refine zv_cV0 K [tI x1] [] eX11_reach_12 lk_X11_109 md_X11_cutOf im_X11_cutOf sl_X11_cutOf rfl rfl rfl rfl (Nat.le_of_ble_eq_true rfl) hq4 (c_X11_cutOf X.1.2.1 X.2.2.1 eh5) rfl rfl ⟨z_le (z_fr hX) (by decide), z_le (z_lo hX) (by decide)⟩ ⟨Nat.zero_le _, Nat.zero_le _⟩ ?_
    refine zv_if_lt K 21 eX11_reach_15 (by decide) hf (fun _ hf => ?_) (fun _ hf => ?_)
    · refine zv_aload_n K 0 eX11_reach_21 rfl ?_
      refine zv_iload_n K 1 eX11_reach_22 rfl ?_
      obtain ⟨q7, hq7, hf⟩ := z_bind_inv hf
      obtain ⟨h8, eh8, hf⟩ := z_bind_inv hf
      refine zv_cV0 K [tI x1] [] eX11_reach_23 lk_X11_191 md_X11_layReach im_X11_layReach sl_X11_layReach rfl rfl rfl rfl (Nat.le_of_ble_eq_true rfl) hq7 (c_X11_layReach X.1.2.1 X.2.2.1 eh8) rfl rfl ⟨z_le (z_fr hX) (by decide), z_le (z_lo hX) (by decide)⟩ ⟨Nat.zero_le _, Nat.zero_le _⟩ ?_
      refine zv_iconst K (0 : Int32) eX11_reach_26 (by decide) ?_
      refine zv_istore_n K [(2, tI (0 : Int32)), (0, tA x0), (1, tI x1)] eX11_reach_27 (z_lt hX.2 (by decide)) rfl ?_
      refine zv_iconst K (0 : Int32) eX11_reach_28 (by decide) ?_
      refine zv_istore_n K [(3, tI (0 : Int32)), (2, tI (0 : Int32)), (0, tA x0), (1, tI x1)] eX11_reach_29 (z_lt hX.2 (by decide)) rfl ?_
      exact zv_sub [2, 1, 0] rfl (v_X11_reach_b30 K hX hf hp)
    · refine zv_bipush K (-2 : Int32) eX11_reach_18 (by decide) ?_
      have e9 := Option.some.inj hf; subst e9
      exact zv_iret K eX11_reach_20 hp
  · refine zv_iconst K (-1 : Int32) eX11_reach_8 (by decide) ?_
    have e9 := Option.some.inj hf; subst e9
    exact zv_iret K eX11_reach_9 hp
theorem c_X11_reach (l : Launch) (G : zG) {x0 : Option Nat} {x1 : Int32} {h : zH} {nx : Nat} {x : Int32 × zH} (hf : f_X11_reach x0 x1 h = some x) : z_Ct l G yX11_reach cX11_reach 4 (some .int) rm_X11_reach [tA x0, tI x1] h nx (some (tI x.1)) x.2 nx 0 0 :=
  z_enter [(0, tA x0), (1, tI x1)] (by decide +kernel) (Nat.le_of_ble_eq_true rfl) rfl (fun X hl hR hG hL K hq => by
    subst hl; subst hG
    exact v_X11_reach K ⟨hR, hL⟩ hf hq)
set_option maxHeartbeats 4000000 in
set_option maxRecDepth 100000 in
theorem v_X11_far {X : zX} (K : z_Ok X cX11_far (some .int) RX11 "far") (hX : z_Xo X rm_X11_far 4) {x0 : Option Nat} {x1 : Int32} {x2 : Int32} {x3 : Int32} {h : zH} {nx : Nat} {x : (Int32 × zH)} (hf : f_X11_far x0 x1 x2 x3 h = some x) (hp : z_P0I X nx x) : zV X 0 [(0, tA x0), (1, tI x1), (2, tI x2), (3, tI x3)] [] h nx 0 0 := by
  unfold f_X11_far at hf
  refine zv_aload_n K 0 eX11_far_0 rfl ?_
  refine zv_iload_n K 1 eX11_far_1 rfl ?_
  obtain ⟨q1, hq1, hf⟩ := z_bind_inv hf
  obtain ⟨v3, h2, eh2, hf⟩ := z_b2_inv hf
  refine zv_cV0 K [tI x1] [] eX11_far_2 lk_X11_73 md_X11_isArm im_X11_isArm sl_X11_isArm rfl rfl rfl rfl (Nat.le_of_ble_eq_true rfl) hq1 (c_X11_isArm X.1.2.1 X.2.2.1 eh2) rfl rfl ⟨z_le (z_fr hX) (by decide), z_le (z_lo hX) (by decide)⟩ ⟨Nat.zero_le _, Nat.zero_le _⟩ ?_
  refine zv_if_eq K 16 eX11_far_5 (by decide) hf (fun _ hf => ?_) (fun _ hf => ?_)
  · refine zv_iconst K (-1 : Int32) eX11_far_16 (by decide) ?_
    have e9 := Option.some.inj hf; subst e9
    exact zv_iret K eX11_far_17 hp
  · refine zv_iload_n K 2 eX11_far_8 rfl ?_
    refine zv_iload_n K 3 eX11_far_9 rfl ?_
    obtain ⟨v5, h4, eh4, hf⟩ := z_b2_inv hf
    refine zv_cS0 K [tI x2, tI x3] [] eX11_far_10 lk_X11_87 md_X11_isCell st_X11_isCell rfl rfl (Nat.le_of_ble_eq_true rfl) (c_X11_isCell X.1.2.1 X.2.2.1 eh4) rfl rfl ⟨z_le (z_fr hX) (by decide), z_le (z_lo hX) (by decide)⟩ ⟨Nat.zero_le _, Nat.zero_le _⟩ ?_
    refine zv_if_ne K 18 eX11_far_13 (by decide) hf (fun _ hf => ?_) (fun _ hf => ?_)
    · refine zv_aload_n K 0 eX11_far_18 rfl ?_
      refine zv_iload_n K 1 eX11_far_19 rfl ?_
      obtain ⟨q6, hq6, hf⟩ := z_bind_inv hf
      obtain ⟨v8, h7, eh7, hf⟩ := z_b2_inv hf
      refine zv_cV0 K [tI x1] [] eX11_far_20 lk_X11_109 md_X11_cutOf im_X11_cutOf sl_X11_cutOf rfl rfl rfl rfl (Nat.le_of_ble_eq_true rfl) hq6 (c_X11_cutOf X.1.2.1 X.2.2.1 eh7) rfl rfl ⟨z_le (z_fr hX) (by decide), z_le (z_lo hX) (by decide)⟩ ⟨Nat.zero_le _, Nat.zero_le _⟩ ?_
      refine zv_if_lt K 29 eX11_far_23 (by decide) hf (fun _ hf => ?_) (fun _ hf => ?_)
      · refine zv_aload_n K 0 eX11_far_29 rfl ?_
        refine zv_iload_n K 1 eX11_far_30 rfl ?_
        obtain ⟨q9, hq9, hf⟩ := z_bind_inv hf
        obtain ⟨h10, eh10, hf⟩ := z_bind_inv hf
        refine zv_cV0 K [tI x1] [] eX11_far_31 lk_X11_191 md_X11_layReach im_X11_layReach sl_X11_layReach rfl rfl rfl rfl (Nat.le_of_ble_eq_true rfl) hq9 (c_X11_layReach X.1.2.1 X.2.2.1 eh10) rfl rfl ⟨z_le (z_fr hX) (by decide), z_le (z_lo hX) (by decide)⟩ ⟨Nat.zero_le _, Nat.zero_le _⟩ ?_
        refine zv_aload_n K 0 eX11_far_34 rfl ?_
        refine zv_gA K eX11_far_35 fl_X11_56 hf (fun v11 hf => ?_)
        refine zv_bipush K (8 : Int32) eX11_far_38 (by decide) ?_
        refine zv_iload_n K 3 eX11_far_40 rfl ?_
        refine zv_imul K eX11_far_41 ?_
        refine zv_iload_n K 2 eX11_far_42 rfl ?_
        refine zv_iadd K eX11_far_43 ?_
        refine zv_aI K eX11_far_44 hf (fun v12 hf => ?_)
        have e9 := Option.some.inj hf; subst e9
        exact zv_iret K eX11_far_45 hp
      · refine zv_bipush K (-2 : Int32) eX11_far_26 (by decide) ?_
        have e9 := Option.some.inj hf; subst e9
        exact zv_iret K eX11_far_28 hp
    · refine zv_iconst K (-1 : Int32) eX11_far_16 (by decide) ?_
      have e9 := Option.some.inj hf; subst e9
      exact zv_iret K eX11_far_17 hp
theorem c_X11_far (l : Launch) (G : zG) {x0 : Option Nat} {x1 : Int32} {x2 : Int32} {x3 : Int32} {h : zH} {nx : Nat} {x : Int32 × zH} (hf : f_X11_far x0 x1 x2 x3 h = some x) : z_Ct l G yX11_far cX11_far 4 (some .int) rm_X11_far [tA x0, tI x1, tI x2, tI x3] h nx (some (tI x.1)) x.2 nx 0 0 :=
  z_enter [(0, tA x0), (1, tI x1), (2, tI x2), (3, tI x3)] (by decide +kernel) (Nat.le_of_ble_eq_true rfl) rfl (fun X hl hR hG hL K hq => by
    subst hl; subst hG
    exact v_X11_far K ⟨hR, hL⟩ hf hq)
def P_X11_eats_96 (X : zX) (nx : Nat) : ((Option Nat) × Int32 × Int32 × zH) ⊕ (Int32 × zH) → Prop := z_PL (fun s => zV X 96 [(0, tA s.1), (6, tI s.2.1), (7, tI s.2.2.1)] [] s.2.2.2 nx 0 0) (z_P0I X nx)
def P_X11_eats_6 (X : zX) (nx : Nat) : ((Option Nat) × Int32 × Int32 × Int32 × Int32 × Int32 × Int32 × Int32 × zH) ⊕ (Int32 × zH) → Prop := z_PL (fun s => zV X 6 [(0, tA s.1), (1, tI s.2.1), (2, tI s.2.2.1), (3, tI s.2.2.2.1), (4, tI s.2.2.2.2.1), (5, tI s.2.2.2.2.2.1), (6, tI s.2.2.2.2.2.2.1), (7, tI s.2.2.2.2.2.2.2.1)] [] s.2.2.2.2.2.2.2.2 nx 0 0) (z_P0I X nx)
set_option maxHeartbeats 4000000 in
set_option maxRecDepth 100000 in
theorem v_X11_eats_c96 {X : zX} (K : z_Ok X cX11_eats (some .boolean) RX11 "eats") (hX : z_Xo X rm_X11_eats 9) {x0 : Option Nat} {x6 : Int32} {x7 : Int32} {h : zH} {nx : Nat} {x : (((Option Nat) × Int32 × Int32 × zH) ⊕ (Int32 × zH))} (hf : f_X11_eats_c96 x0 x6 x7 h = some x) (hp : P_X11_eats_96 X nx x) : zV X 96 [(0, tA x0), (6, tI x6), (7, tI x7)] [] h nx 0 0 := by
  unfold f_X11_eats_c96 at hf
  refine zv_iload K 2 eX11_eats_96 rfl ?_
  refine zv_sipush K (530 : Int32) eX11_eats_98 (by decide) ?_
  refine zv_icmp_ge K 124 eX11_eats_101 (by decide) hf (fun _ hf => ?_) (fun _ hf => ?_)
  · obtain ⟨w9, hf9, e9⟩ := z_i1_inv hf; clear hf; subst e9; have hf := hf9; clear hf9
    refine zv_iload K 1 eX11_eats_124 rfl ?_
    refine z_ite_inv _ hf (fun hv hf => ?_) (fun _ hf => ?_)
    · cases hf
      exact zv_zret K eX11_eats_126 hv hp
    · cases hf
  · refine zv_aload_n K 0 eX11_eats_104 rfl ?_
    refine zv_gA K eX11_eats_105 fl_X11_7 hf (fun v1 hf => ?_)
    refine zv_iload K 2 eX11_eats_108 rfl ?_
    refine zv_aload_n K 0 eX11_eats_110 rfl ?_
    refine zv_gA K eX11_eats_111 fl_X11_20 hf (fun v2 hf => ?_)
    refine zv_iload K 2 eX11_eats_114 rfl ?_
    refine zv_aI K eX11_eats_116 hf (fun v3 hf => ?_)
    refine zv_sI K eX11_eats_117 hf (fun h4 hf => ?_)
    refine zv_iinc K (x7 + (1 : Int32)) 2 [(7, tI (x7 + (1 : Int32))), (0, tA x0), (6, tI x6)] eX11_eats_118 rfl rfl (z_lt hX.2 (by decide)) rfl ?_
    refine zv_goto K 96 eX11_eats_121 (by decide) ?_
    cases hf
    exact zv_sub [1, 2, 0] rfl (show zV X 96 [(0, tA x0), (6, tI x6), (7, tI (x7 + (1 : Int32)))] [] h4 nx 0 0 from hp)
theorem v_X11_eats_b96 {X : zX} (K : z_Ok X cX11_eats (some .boolean) RX11 "eats") (hX : z_Xo X rm_X11_eats 9) {x0 : Option Nat} {x6 : Int32} {x7 : Int32} {h : zH} {nx : Nat} {x : (Int32 × zH)} (hf : f_X11_eats_b96 x0 x6 x7 h = some x) (hp : z_P0I X nx x) : zV X 96 [(0, tA x0), (6, tI x6), (7, tI x7)] [] h nx 0 0 :=
  z_it_ind (P := fun s : (Option Nat) × Int32 × Int32 × zH => zV X 96 [(0, tA s.1), (6, tI s.2.1), (7, tI s.2.2.1)] [] s.2.2.2 nx 0 0) (fun s y hb hy => v_X11_eats_c96 K hX hb (z_PL_of hy hp)) hf
set_option maxHeartbeats 4000000 in
set_option maxRecDepth 100000 in
theorem v_X11_eats_b93 {X : zX} (K : z_Ok X cX11_eats (some .boolean) RX11 "eats") (hX : z_Xo X rm_X11_eats 9) {x0 : Option Nat} {x6 : Int32} {h : zH} {nx : Nat} {x : (Int32 × zH)} (hf : f_X11_eats_b93 x0 x6 h = some x) (hp : z_P0I X nx x) : zV X 93 [(0, tA x0), (6, tI x6)] [] h nx 0 0 := by
  unfold f_X11_eats_b93 at hf
  refine zv_iconst K (0 : Int32) eX11_eats_93 (by decide) ?_
  refine zv_istore K [(7, tI (0 : Int32)), (0, tA x0), (6, tI x6)] eX11_eats_94 (z_lt hX.2 (by decide)) rfl ?_
  exact zv_sub [1, 2, 0] rfl (v_X11_eats_b96 K hX hf hp)
set_option maxHeartbeats 4000000 in
set_option maxRecDepth 100000 in
theorem v_X11_eats_b85 {X : zX} (K : z_Ok X cX11_eats (some .boolean) RX11 "eats") (hX : z_Xo X rm_X11_eats 9) {x0 : Option Nat} {x1 : Int32} {x2 : Int32} {x3 : Int32} {x4 : Int32} {x5 : Int32} {x7 : Int32} {s0 : Int32} {h : zH} {nx : Nat} {x : (((Option Nat) × Int32 × Int32 × Int32 × Int32 × Int32 × Int32 × Int32 × zH) ⊕ (Int32 × zH))} (hf : f_X11_eats_b85 x0 x1 x2 x3 x4 x5 x7 s0 h = some x) (hp : P_X11_eats_6 X nx x) : zV X 85 [(0, tA x0), (1, tI x1), (2, tI x2), (3, tI x3), (4, tI x4), (5, tI x5), (7, tI x7)] [tI s0] h nx 0 0 := by
  unfold f_X11_eats_b85 at hf
  refine zv_istore K [(6, tI s0), (0, tA x0), (1, tI x1), (2, tI x2), (3, tI x3), (4, tI x4), (5, tI x5), (7, tI x7)] eX11_eats_85 (z_lt hX.2 (by decide)) rfl ?_
  refine zv_iinc K (x7 + (1 : Int32)) 7 [(7, tI (x7 + (1 : Int32))), (6, tI s0), (0, tA x0), (1, tI x1), (2, tI x2), (3, tI x3), (4, tI x4), (5, tI x5)] eX11_eats_87 rfl rfl (z_lt hX.2 (by decide)) rfl ?_
  refine zv_goto K 6 eX11_eats_90 (by decide) ?_
  cases hf
  exact zv_sub [2, 3, 4, 5, 6, 7, 1, 0] rfl (show zV X 6 [(0, tA x0), (1, tI x1), (2, tI x2), (3, tI x3), (4, tI x4), (5, tI x5), (6, tI s0), (7, tI (x7 + (1 : Int32)))] [] h nx 0 0 from hp)
set_option maxHeartbeats 4000000 in
set_option maxRecDepth 100000 in
theorem v_X11_eats_b37 {X : zX} (K : z_Ok X cX11_eats (some .boolean) RX11 "eats") (hX : z_Xo X rm_X11_eats 9) {x0 : Option Nat} {x1 : Int32} {x2 : Int32} {x3 : Int32} {x4 : Int32} {x5 : Int32} {x7 : Int32} {s0 : Int32} {h : zH} {nx : Nat} {x : (((Option Nat) × Int32 × Int32 × Int32 × Int32 × Int32 × Int32 × Int32 × zH) ⊕ (Int32 × zH))} (hf : f_X11_eats_b37 x0 x1 x2 x3 x4 x5 x7 s0 h = some x) (hp : P_X11_eats_6 X nx x) : zV X 37 [(0, tA x0), (1, tI x1), (2, tI x2), (3, tI x3), (4, tI x4), (5, tI x5), (7, tI x7)] [tI s0] h nx 0 0 := by
  unfold f_X11_eats_b37 at hf
  refine zv_istore K [(8, tI s0), (0, tA x0), (1, tI x1), (2, tI x2), (3, tI x3), (4, tI x4), (5, tI x5), (7, tI x7)] eX11_eats_37 (z_lt hX.2 (by decide)) rfl ?_
  refine zv_aload_n K 1 eX11_eats_39 rfl ?_
  refine zv_gA K eX11_eats_40 fl_X11_7 hf (fun v1 hf => ?_)
  refine zv_iload_n K 2 eX11_eats_43 rfl ?_
  refine zv_iconst K (2 : Int32) eX11_eats_44 (by decide) ?_
  obtain ⟨v3, h2, eh2, hf⟩ := z_b2_inv hf
  refine zv_cS0 K [tI x1, tI (2 : Int32)] [tA v1] eX11_eats_45 lk_X11_69 md_X11_of st_X11_of rfl rfl (Nat.le_of_ble_eq_true rfl) (c_X11_of X.1.2.1 X.2.2.1 eh2) rfl rfl ⟨z_le (z_fr hX) (by decide), z_le (z_lo hX) (by decide)⟩ ⟨Nat.zero_le _, Nat.zero_le _⟩ ?_
  refine zv_iload K 6 eX11_eats_48 rfl ?_
  refine zv_iconst K (2 : Int32) eX11_eats_50 (by decide) ?_
  refine zv_iload K 5 eX11_eats_51 rfl ?_
  refine zv_iconst K (1 : Int32) eX11_eats_53 (by decide) ?_
  refine zv_isub K eX11_eats_54 ?_
  refine zv_iload K 0 eX11_eats_55 rfl ?_
  refine zv_isub K eX11_eats_57 ?_
  refine zv_imul K eX11_eats_58 ?_
  refine zv_ishr K eX11_eats_59 ?_
  refine zv_iconst K (3 : Int32) eX11_eats_60 (by decide) ?_
  refine zv_iand K eX11_eats_61 ?_
  refine zv_sI K eX11_eats_62 hf (fun h4 hf => ?_)
  refine zv_aload_n K 1 eX11_eats_63 rfl ?_
  obtain ⟨q5, hq5, hf⟩ := z_bind_inv hf
  obtain ⟨h6, eh6, hf⟩ := z_bind_inv hf
  refine zv_cV0 K [] [] eX11_eats_64 lk_X11_176 md_X11_tick im_X11_tick sl_X11_tick rfl rfl rfl rfl (Nat.le_of_ble_eq_true rfl) hq5 (c_X11_tick X.1.2.1 X.2.2.1 eh6) rfl rfl ⟨z_le (z_fr hX) (by decide), z_le (z_lo hX) (by decide)⟩ ⟨Nat.zero_le _, Nat.zero_le _⟩ ?_
  refine zv_aload_n K 1 eX11_eats_67 rfl ?_
  refine zv_gA K eX11_eats_68 fl_X11_7 hf (fun v7 hf => ?_)
  refine zv_iload_n K 3 eX11_eats_71 rfl ?_
  obtain ⟨v9, h8, eh8, hf⟩ := z_b2_inv hf
  refine zv_cS0 K [tI x2] [tA v7] eX11_eats_72 lk_X11_84 md_X11_thingAt st_X11_thingAt rfl rfl (Nat.le_of_ble_eq_true rfl) (c_X11_thingAt X.1.2.1 X.2.2.1 eh8) rfl rfl ⟨z_le (z_fr hX) (by decide), z_le (z_lo hX) (by decide)⟩ ⟨Nat.zero_le _, Nat.zero_le _⟩ ?_
  refine zv_aI K eX11_eats_75 hf (fun v10 hf => ?_)
  refine zv_iconst K (2 : Int32) eX11_eats_76 (by decide) ?_
  refine zv_icmp_ne K 84 eX11_eats_77 (by decide) hf (fun _ hf => ?_) (fun _ hf => ?_)
  · refine zv_iconst K (0 : Int32) eX11_eats_84 (by decide) ?_
    exact zv_sub [1, 2, 3, 4, 5, 6, 7] rfl (v_X11_eats_b85 K hX hf hp)
  · refine zv_iconst K (1 : Int32) eX11_eats_80 (by decide) ?_
    refine zv_goto K 85 eX11_eats_81 (by decide) ?_
    exact zv_sub [1, 2, 3, 4, 5, 6, 7] rfl (v_X11_eats_b85 K hX hf hp)
set_option maxHeartbeats 4000000 in
set_option maxRecDepth 100000 in
theorem v_X11_eats_c6 {X : zX} (K : z_Ok X cX11_eats (some .boolean) RX11 "eats") (hX : z_Xo X rm_X11_eats 9) {x0 : Option Nat} {x1 : Int32} {x2 : Int32} {x3 : Int32} {x4 : Int32} {x5 : Int32} {x6 : Int32} {x7 : Int32} {h : zH} {nx : Nat} {x : (((Option Nat) × Int32 × Int32 × Int32 × Int32 × Int32 × Int32 × Int32 × zH) ⊕ (Int32 × zH))} (hf : f_X11_eats_c6 x0 x1 x2 x3 x4 x5 x6 x7 h = some x) (hp : P_X11_eats_6 X nx x) : zV X 6 [(0, tA x0), (1, tI x1), (2, tI x2), (3, tI x3), (4, tI x4), (5, tI x5), (6, tI x6), (7, tI x7)] [] h nx 0 0 := by
  unfold f_X11_eats_c6 at hf
  refine zv_iload K 7 eX11_eats_6 rfl ?_
  refine zv_iload_n K 3 eX11_eats_8 rfl ?_
  refine zv_icmp_ge K 93 eX11_eats_9 (by decide) hf (fun _ hf => ?_) (fun _ hf => ?_)
  · obtain ⟨w9, hf9, e9⟩ := z_i1_inv hf; clear hf; subst e9; have hf := hf9; clear hf9
    exact zv_sub [0, 6] rfl (v_X11_eats_b93 K hX hf hp)
  · refine zv_iload K 6 eX11_eats_12 rfl ?_
    refine zv_if_ne K 93 eX11_eats_14 (by decide) hf (fun _ hf => ?_) (fun _ hf => ?_)
    · obtain ⟨w9, hf9, e9⟩ := z_i1_inv hf; clear hf; subst e9; have hf := hf9; clear hf9
      exact zv_sub [0, 6] rfl (v_X11_eats_b93 K hX hf hp)
    · refine zv_iload K 7 eX11_eats_17 rfl ?_
      refine zv_iconst K (2 : Int32) eX11_eats_19 (by decide) ?_
      refine zv_idiv K eX11_eats_20 (by decide) ?_
      refine zv_iload K 4 eX11_eats_21 rfl ?_
      refine zv_icmp_ge K 33 eX11_eats_23 (by decide) hf (fun _ hf => ?_) (fun _ hf => ?_)
      · refine zv_iload K 4 eX11_eats_33 rfl ?_
        refine zv_iconst K (1 : Int32) eX11_eats_35 (by decide) ?_
        refine zv_isub K eX11_eats_36 ?_
        exact zv_sub [0, 1, 2, 3, 4, 5, 7] rfl (v_X11_eats_b37 K hX hf hp)
      · refine zv_iload K 7 eX11_eats_26 rfl ?_
        refine zv_iconst K (2 : Int32) eX11_eats_28 (by decide) ?_
        refine zv_idiv K eX11_eats_29 (by decide) ?_
        refine zv_goto K 37 eX11_eats_30 (by decide) ?_
        exact zv_sub [0, 1, 2, 3, 4, 5, 7] rfl (v_X11_eats_b37 K hX hf hp)
theorem v_X11_eats_b6 {X : zX} (K : z_Ok X cX11_eats (some .boolean) RX11 "eats") (hX : z_Xo X rm_X11_eats 9) {x0 : Option Nat} {x1 : Int32} {x2 : Int32} {x3 : Int32} {x4 : Int32} {x5 : Int32} {x6 : Int32} {x7 : Int32} {h : zH} {nx : Nat} {x : (Int32 × zH)} (hf : f_X11_eats_b6 x0 x1 x2 x3 x4 x5 x6 x7 h = some x) (hp : z_P0I X nx x) : zV X 6 [(0, tA x0), (1, tI x1), (2, tI x2), (3, tI x3), (4, tI x4), (5, tI x5), (6, tI x6), (7, tI x7)] [] h nx 0 0 :=
  z_it_ind (P := fun s : (Option Nat) × Int32 × Int32 × Int32 × Int32 × Int32 × Int32 × Int32 × zH => zV X 6 [(0, tA s.1), (1, tI s.2.1), (2, tI s.2.2.1), (3, tI s.2.2.2.1), (4, tI s.2.2.2.2.1), (5, tI s.2.2.2.2.2.1), (6, tI s.2.2.2.2.2.2.1), (7, tI s.2.2.2.2.2.2.2.1)] [] s.2.2.2.2.2.2.2.2 nx 0 0) (fun s y hb hy => v_X11_eats_c6 K hX hb (z_PL_of hy hp)) hf
set_option maxHeartbeats 4000000 in
set_option maxRecDepth 100000 in
theorem v_X11_eats {X : zX} (K : z_Ok X cX11_eats (some .boolean) RX11 "eats") (hX : z_Xo X rm_X11_eats 9) {x0 : Option Nat} {x1 : Int32} {x2 : Int32} {x3 : Int32} {x4 : Int32} {x5 : Int32} {h : zH} {nx : Nat} {x : (Int32 × zH)} (hf : f_X11_eats x0 x1 x2 x3 x4 x5 h = some x) (hp : z_P0I X nx x) : zV X 0 [(0, tA x0), (1, tI x1), (2, tI x2), (3, tI x3), (4, tI x4), (5, tI x5)] [] h nx 0 0 := by
  unfold f_X11_eats at hf
  refine zv_iconst K (0 : Int32) eX11_eats_0 (by decide) ?_
  refine zv_istore K [(6, tI (0 : Int32)), (0, tA x0), (1, tI x1), (2, tI x2), (3, tI x3), (4, tI x4), (5, tI x5)] eX11_eats_1 (z_lt hX.2 (by decide)) rfl ?_
  refine zv_iconst K (0 : Int32) eX11_eats_3 (by decide) ?_
  refine zv_istore K [(7, tI (0 : Int32)), (6, tI (0 : Int32)), (0, tA x0), (1, tI x1), (2, tI x2), (3, tI x3), (4, tI x4), (5, tI x5)] eX11_eats_4 (z_lt hX.2 (by decide)) rfl ?_
  exact zv_sub [2, 3, 4, 5, 6, 7, 1, 0] rfl (v_X11_eats_b6 K hX hf hp)
theorem c_X11_eats (l : Launch) (G : zG) {x0 : Option Nat} {x1 : Int32} {x2 : Int32} {x3 : Int32} {x4 : Int32} {x5 : Int32} {h : zH} {nx : Nat} {x : Int32 × zH} (hf : f_X11_eats x0 x1 x2 x3 x4 x5 h = some x) : z_Ct l G yX11_eats cX11_eats 9 (some .boolean) rm_X11_eats [tA x0, tI x1, tI x2, tI x3, tI x4, tI x5] h nx (some (tI x.1)) x.2 nx 0 0 :=
  z_enter [(0, tA x0), (1, tI x1), (2, tI x2), (3, tI x3), (4, tI x4), (5, tI x5)] (by decide +kernel) (Nat.le_of_ble_eq_true rfl) rfl (fun X hl hR hG hL K hq => by
    subst hl; subst hG
    exact v_X11_eats K ⟨hR, hL⟩ hf hq)
def P_X11_fewest_88 (X : zX) (nx : Nat) : ((Option Nat) × Int32 × Int32 × Int32 × Int32 × Int32 × zH) ⊕ (Int32 × zH) → Prop := z_PL (fun s => zV X 88 [(0, tA s.1), (1, tI s.2.1), (2, tI s.2.2.1), (3, tI s.2.2.2.1), (4, tI s.2.2.2.2.1), (5, tI s.2.2.2.2.2.1)] [] s.2.2.2.2.2.2 nx 0 0) (z_P0I X nx)
def P_X11_fewest_57 (X : zX) (nx : Nat) : ((Option Nat) × Int32 × Int32 × Int32 × Int32 × Int32 × zH) ⊕ (Int32 × zH) → Prop := z_PL (fun s => zV X 57 [(0, tA s.1), (1, tI s.2.1), (2, tI s.2.2.1), (3, tI s.2.2.2.1), (4, tI s.2.2.2.2.1), (5, tI s.2.2.2.2.2.1)] [] s.2.2.2.2.2.2 nx 0 0) (z_P0I X nx)
def P_X11_fewest_97 (X : zX) (nx : Nat) : ((Option Nat) × Int32 × Int32 × Int32 × Int32 × Int32 × Int32 × zH) ⊕ (((Option Nat) × Int32 × Int32 × Int32 × Int32 × Int32 × zH) ⊕ (Int32 × zH)) → Prop := z_PL (fun s => zV X 97 [(0, tA s.1), (1, tI s.2.1), (2, tI s.2.2.1), (3, tI s.2.2.2.1), (4, tI s.2.2.2.2.1), (5, tI s.2.2.2.2.2.1), (6, tI s.2.2.2.2.2.2.1)] [] s.2.2.2.2.2.2.2 nx 0 0) (P_X11_fewest_88 X nx)
set_option maxHeartbeats 4000000 in
set_option maxRecDepth 100000 in
theorem v_X11_fewest_c97 {X : zX} (K : z_Ok X cX11_fewest (some .int) RX11 "fewest") (hX : z_Xo X rm_X11_fewest 7) {x0 : Option Nat} {x1 : Int32} {x2 : Int32} {x3 : Int32} {x4 : Int32} {x5 : Int32} {x6 : Int32} {h : zH} {nx : Nat} {x : (((Option Nat) × Int32 × Int32 × Int32 × Int32 × Int32 × Int32 × zH) ⊕ (((Option Nat) × Int32 × Int32 × Int32 × Int32 × Int32 × zH) ⊕ (Int32 × zH)))} (hf : f_X11_fewest_c97 x0 x1 x2 x3 x4 x5 x6 h = some x) (hp : P_X11_fewest_97 X nx x) : zV X 97 [(0, tA x0), (1, tI x1), (2, tI x2), (3, tI x3), (4, tI x4), (5, tI x5), (6, tI x6)] [] h nx 0 0 := by
  unfold f_X11_fewest_c97 at hf
  refine zv_iload K 6 eX11_fewest_97 rfl ?_
  refine zv_iload K 5 eX11_fewest_99 rfl ?_
  obtain ⟨v2, h1, eh1, hf⟩ := z_b2_inv hf
  refine zv_cS0 K [tI x5] [tI x6] eX11_fewest_101 lk_X11_103 md_X11_power st_X11_power rfl rfl (Nat.le_of_ble_eq_true rfl) (c_X11_power X.1.2.1 X.2.2.1 eh1) rfl rfl ⟨z_le (z_fr hX) (by decide), z_le (z_lo hX) (by decide)⟩ ⟨Nat.zero_le _, Nat.zero_le _⟩ ?_
  refine zv_icmp_ge K 161 eX11_fewest_104 (by decide) hf (fun _ hf => ?_) (fun _ hf => ?_)
  · obtain ⟨w9, hf9, e9⟩ := z_i1_inv hf; clear hf; subst e9; have hf := hf9; clear hf9
    refine zv_iinc K (x5 + (1 : Int32)) 5 [(5, tI (x5 + (1 : Int32))), (0, tA x0), (1, tI x1), (2, tI x2), (3, tI x3), (4, tI x4), (6, tI x6)] eX11_fewest_161 rfl rfl (z_lt hX.2 (by decide)) rfl ?_
    refine zv_goto K 88 eX11_fewest_164 (by decide) ?_
    cases hf
    exact zv_sub [1, 2, 3, 4, 5, 0] rfl (show zV X 88 [(0, tA x0), (1, tI x1), (2, tI x2), (3, tI x3), (4, tI x4), (5, tI (x5 + (1 : Int32)))] [] h1 nx 0 0 from hp)
  · refine zv_aload_n K 0 eX11_fewest_107 rfl ?_
    refine zv_iload_n K 1 eX11_fewest_108 rfl ?_
    refine zv_iload_n K 2 eX11_fewest_109 rfl ?_
    refine zv_iload_n K 3 eX11_fewest_110 rfl ?_
    refine zv_iload K 5 eX11_fewest_111 rfl ?_
    refine zv_iload K 6 eX11_fewest_113 rfl ?_
    obtain ⟨q3, hq3, hf⟩ := z_bind_inv hf
    obtain ⟨v5, h4, eh4, hf⟩ := z_b2_inv hf
    refine zv_cV0 K [tI x1, tI x2, tI x3, tI x5, tI x6] [] eX11_fewest_115 lk_X11_195 md_X11_eats im_X11_eats sl_X11_eats rfl rfl rfl rfl (Nat.le_of_ble_eq_true rfl) hq3 (c_X11_eats X.1.2.1 X.2.2.1 eh4) rfl rfl ⟨z_le (z_fr hX) (by decide), z_le (z_lo hX) (by decide)⟩ ⟨Nat.zero_le _, Nat.zero_le _⟩ ?_
    refine zv_if_eq K 155 eX11_fewest_118 (by decide) hf (fun _ hf => ?_) (fun _ hf => ?_)
    · refine zv_iinc K (x6 + (1 : Int32)) 6 [(6, tI (x6 + (1 : Int32))), (0, tA x0), (1, tI x1), (2, tI x2), (3, tI x3), (4, tI x4), (5, tI x5)] eX11_fewest_155 rfl rfl (z_lt hX.2 (by decide)) rfl ?_
      refine zv_goto K 97 eX11_fewest_158 (by decide) ?_
      cases hf
      exact zv_sub [1, 2, 3, 4, 5, 6, 0] rfl (show zV X 97 [(0, tA x0), (1, tI x1), (2, tI x2), (3, tI x3), (4, tI x4), (5, tI x5), (6, tI (x6 + (1 : Int32)))] [] h4 nx 0 0 from hp)
    · obtain ⟨w9, hf9, e9⟩ := z_i1_inv hf; clear hf; subst e9; have hf := hf9; clear hf9
      obtain ⟨w9, hf9, e9⟩ := z_i1_inv hf; clear hf; subst e9; have hf := hf9; clear hf9
      refine zv_iload K 4 eX11_fewest_121 rfl ?_
      refine zv_if_ne K 131 eX11_fewest_123 (by decide) hf (fun _ hf => ?_) (fun _ hf => ?_)
      · refine zv_iload K 4 eX11_fewest_131 rfl ?_
        refine zv_iload K 5 eX11_fewest_133 rfl ?_
        refine zv_icmp_le K 142 eX11_fewest_135 (by decide) hf (fun _ hf => ?_) (fun _ hf => ?_)
        · refine zv_iload K 6 eX11_fewest_142 rfl ?_
          refine zv_iconst K (2 : Int32) eX11_fewest_144 (by decide) ?_
          refine zv_iload K 5 eX11_fewest_145 rfl ?_
          refine zv_iload K 4 eX11_fewest_147 rfl ?_
          refine zv_isub K eX11_fewest_149 ?_
          refine zv_imul K eX11_fewest_150 ?_
          refine zv_ishr K eX11_fewest_151 ?_
          refine zv_iconst K (3 : Int32) eX11_fewest_152 (by decide) ?_
          refine zv_iand K eX11_fewest_153 ?_
          have e9 := Option.some.inj hf; subst e9
          exact zv_iret K eX11_fewest_154 hp
        · refine zv_iconst K (-1 : Int32) eX11_fewest_138 (by decide) ?_
          refine zv_goto K 154 eX11_fewest_139 (by decide) ?_
          have e9 := Option.some.inj hf; subst e9
          exact zv_iret K eX11_fewest_154 hp
      · refine zv_iload K 5 eX11_fewest_126 rfl ?_
        refine zv_goto K 154 eX11_fewest_128 (by decide) ?_
        have e9 := Option.some.inj hf; subst e9
        exact zv_iret K eX11_fewest_154 hp
theorem v_X11_fewest_b97 {X : zX} (K : z_Ok X cX11_fewest (some .int) RX11 "fewest") (hX : z_Xo X rm_X11_fewest 7) {x0 : Option Nat} {x1 : Int32} {x2 : Int32} {x3 : Int32} {x4 : Int32} {x5 : Int32} {x6 : Int32} {h : zH} {nx : Nat} {x : (((Option Nat) × Int32 × Int32 × Int32 × Int32 × Int32 × zH) ⊕ (Int32 × zH))} (hf : f_X11_fewest_b97 x0 x1 x2 x3 x4 x5 x6 h = some x) (hp : P_X11_fewest_88 X nx x) : zV X 97 [(0, tA x0), (1, tI x1), (2, tI x2), (3, tI x3), (4, tI x4), (5, tI x5), (6, tI x6)] [] h nx 0 0 :=
  z_it_ind (P := fun s : (Option Nat) × Int32 × Int32 × Int32 × Int32 × Int32 × Int32 × zH => zV X 97 [(0, tA s.1), (1, tI s.2.1), (2, tI s.2.2.1), (3, tI s.2.2.2.1), (4, tI s.2.2.2.2.1), (5, tI s.2.2.2.2.2.1), (6, tI s.2.2.2.2.2.2.1)] [] s.2.2.2.2.2.2.2 nx 0 0) (fun s y hb hy => v_X11_fewest_c97 K hX hb (z_PL_of hy hp)) hf
set_option maxHeartbeats 4000000 in
set_option maxRecDepth 100000 in
theorem v_X11_fewest_c88 {X : zX} (K : z_Ok X cX11_fewest (some .int) RX11 "fewest") (hX : z_Xo X rm_X11_fewest 7) {x0 : Option Nat} {x1 : Int32} {x2 : Int32} {x3 : Int32} {x4 : Int32} {x5 : Int32} {h : zH} {nx : Nat} {x : (((Option Nat) × Int32 × Int32 × Int32 × Int32 × Int32 × zH) ⊕ (Int32 × zH))} (hf : f_X11_fewest_c88 x0 x1 x2 x3 x4 x5 h = some x) (hp : P_X11_fewest_88 X nx x) : zV X 88 [(0, tA x0), (1, tI x1), (2, tI x2), (3, tI x3), (4, tI x4), (5, tI x5)] [] h nx 0 0 := by
  unfold f_X11_fewest_c88 at hf
  refine zv_iload K 5 eX11_fewest_88 rfl ?_
  refine zv_iconst K (5 : Int32) eX11_fewest_90 (by decide) ?_
  refine zv_icmp_ge K 167 eX11_fewest_91 (by decide) hf (fun _ hf => ?_) (fun _ hf => ?_)
  · obtain ⟨w9, hf9, e9⟩ := z_i1_inv hf; clear hf; subst e9; have hf := hf9; clear hf9
    refine zv_bipush K (-4 : Int32) eX11_fewest_167 (by decide) ?_
    have e9 := Option.some.inj hf; subst e9
    exact zv_iret K eX11_fewest_169 hp
  · refine zv_iconst K (0 : Int32) eX11_fewest_94 (by decide) ?_
    refine zv_istore K [(6, tI (0 : Int32)), (0, tA x0), (1, tI x1), (2, tI x2), (3, tI x3), (4, tI x4), (5, tI x5)] eX11_fewest_95 (z_lt hX.2 (by decide)) rfl ?_
    exact zv_sub [1, 2, 3, 4, 5, 6, 0] rfl (v_X11_fewest_b97 K hX hf hp)
theorem v_X11_fewest_b88 {X : zX} (K : z_Ok X cX11_fewest (some .int) RX11 "fewest") (hX : z_Xo X rm_X11_fewest 7) {x0 : Option Nat} {x1 : Int32} {x2 : Int32} {x3 : Int32} {x4 : Int32} {x5 : Int32} {h : zH} {nx : Nat} {x : (Int32 × zH)} (hf : f_X11_fewest_b88 x0 x1 x2 x3 x4 x5 h = some x) (hp : z_P0I X nx x) : zV X 88 [(0, tA x0), (1, tI x1), (2, tI x2), (3, tI x3), (4, tI x4), (5, tI x5)] [] h nx 0 0 :=
  z_it_ind (P := fun s : (Option Nat) × Int32 × Int32 × Int32 × Int32 × Int32 × zH => zV X 88 [(0, tA s.1), (1, tI s.2.1), (2, tI s.2.2.1), (3, tI s.2.2.2.1), (4, tI s.2.2.2.2.1), (5, tI s.2.2.2.2.2.1)] [] s.2.2.2.2.2.2 nx 0 0) (fun s y hb hy => v_X11_fewest_c88 K hX hb (z_PL_of hy hp)) hf
set_option maxHeartbeats 4000000 in
set_option maxRecDepth 100000 in
theorem v_X11_fewest_c57 {X : zX} (K : z_Ok X cX11_fewest (some .int) RX11 "fewest") (hX : z_Xo X rm_X11_fewest 7) {x0 : Option Nat} {x1 : Int32} {x2 : Int32} {x3 : Int32} {x4 : Int32} {x5 : Int32} {h : zH} {nx : Nat} {x : (((Option Nat) × Int32 × Int32 × Int32 × Int32 × Int32 × zH) ⊕ (Int32 × zH))} (hf : f_X11_fewest_c57 x0 x1 x2 x3 x4 x5 h = some x) (hp : P_X11_fewest_57 X nx x) : zV X 57 [(0, tA x0), (1, tI x1), (2, tI x2), (3, tI x3), (4, tI x4), (5, tI x5)] [] h nx 0 0 := by
  unfold f_X11_fewest_c57 at hf
  refine zv_iload K 5 eX11_fewest_57 rfl ?_
  refine zv_sipush K (530 : Int32) eX11_fewest_59 (by decide) ?_
  refine zv_icmp_ge K 85 eX11_fewest_62 (by decide) hf (fun _ hf => ?_) (fun _ hf => ?_)
  · obtain ⟨w9, hf9, e9⟩ := z_i1_inv hf; clear hf; subst e9; have hf := hf9; clear hf9
    refine zv_iconst K (1 : Int32) eX11_fewest_85 (by decide) ?_
    refine zv_istore K [(5, tI (1 : Int32)), (0, tA x0), (1, tI x1), (2, tI x2), (3, tI x3), (4, tI x4)] eX11_fewest_86 (z_lt hX.2 (by decide)) rfl ?_
    exact zv_sub [1, 2, 3, 4, 5, 0] rfl (v_X11_fewest_b88 K hX hf hp)
  · refine zv_aload_n K 0 eX11_fewest_65 rfl ?_
    refine zv_gA K eX11_fewest_66 fl_X11_20 hf (fun v1 hf => ?_)
    refine zv_iload K 5 eX11_fewest_69 rfl ?_
    refine zv_aload_n K 0 eX11_fewest_71 rfl ?_
    refine zv_gA K eX11_fewest_72 fl_X11_7 hf (fun v2 hf => ?_)
    refine zv_iload K 5 eX11_fewest_75 rfl ?_
    refine zv_aI K eX11_fewest_77 hf (fun v3 hf => ?_)
    refine zv_sI K eX11_fewest_78 hf (fun h4 hf => ?_)
    refine zv_iinc K (x5 + (1 : Int32)) 5 [(5, tI (x5 + (1 : Int32))), (0, tA x0), (1, tI x1), (2, tI x2), (3, tI x3), (4, tI x4)] eX11_fewest_79 rfl rfl (z_lt hX.2 (by decide)) rfl ?_
    refine zv_goto K 57 eX11_fewest_82 (by decide) ?_
    cases hf
    exact zv_sub [1, 2, 3, 4, 5, 0] rfl (show zV X 57 [(0, tA x0), (1, tI x1), (2, tI x2), (3, tI x3), (4, tI x4), (5, tI (x5 + (1 : Int32)))] [] h4 nx 0 0 from hp)
theorem v_X11_fewest_b57 {X : zX} (K : z_Ok X cX11_fewest (some .int) RX11 "fewest") (hX : z_Xo X rm_X11_fewest 7) {x0 : Option Nat} {x1 : Int32} {x2 : Int32} {x3 : Int32} {x4 : Int32} {x5 : Int32} {h : zH} {nx : Nat} {x : (Int32 × zH)} (hf : f_X11_fewest_b57 x0 x1 x2 x3 x4 x5 h = some x) (hp : z_P0I X nx x) : zV X 57 [(0, tA x0), (1, tI x1), (2, tI x2), (3, tI x3), (4, tI x4), (5, tI x5)] [] h nx 0 0 :=
  z_it_ind (P := fun s : (Option Nat) × Int32 × Int32 × Int32 × Int32 × Int32 × zH => zV X 57 [(0, tA s.1), (1, tI s.2.1), (2, tI s.2.2.1), (3, tI s.2.2.2.1), (4, tI s.2.2.2.2.1), (5, tI s.2.2.2.2.2.1)] [] s.2.2.2.2.2.2 nx 0 0) (fun s y hb hy => v_X11_fewest_c57 K hX hb (z_PL_of hy hp)) hf
set_option maxHeartbeats 4000000 in
set_option maxRecDepth 100000 in
theorem v_X11_fewest {X : zX} (K : z_Ok X cX11_fewest (some .int) RX11 "fewest") (hX : z_Xo X rm_X11_fewest 7) {x0 : Option Nat} {x1 : Int32} {x2 : Int32} {x3 : Int32} {x4 : Int32} {h : zH} {nx : Nat} {x : (Int32 × zH)} (hf : f_X11_fewest x0 x1 x2 x3 x4 h = some x) (hp : z_P0I X nx x) : zV X 0 [(0, tA x0), (1, tI x1), (2, tI x2), (3, tI x3), (4, tI x4)] [] h nx 0 0 := by
  unfold f_X11_fewest at hf
  refine zv_aload_n K 0 eX11_fewest_0 rfl ?_
  refine zv_iload_n K 1 eX11_fewest_1 rfl ?_
  obtain ⟨q1, hq1, hf⟩ := z_bind_inv hf
  obtain ⟨v3, h2, eh2, hf⟩ := z_b2_inv hf
  refine zv_cV0 K [tI x1] [] eX11_fewest_2 lk_X11_73 md_X11_isArm im_X11_isArm sl_X11_isArm rfl rfl rfl rfl (Nat.le_of_ble_eq_true rfl) hq1 (c_X11_isArm X.1.2.1 X.2.2.1 eh2) rfl rfl ⟨z_le (z_fr hX) (by decide), z_le (z_lo hX) (by decide)⟩ ⟨Nat.zero_le _, Nat.zero_le _⟩ ?_
  refine zv_if_eq K 36 eX11_fewest_5 (by decide) hf (fun _ hf => ?_) (fun _ hf => ?_)
  · refine zv_iconst K (-1 : Int32) eX11_fewest_36 (by decide) ?_
    have e9 := Option.some.inj hf; subst e9
    exact zv_iret K eX11_fewest_37 hp
  · refine zv_aload_n K 0 eX11_fewest_8 rfl ?_
    refine zv_iload_n K 2 eX11_fewest_9 rfl ?_
    obtain ⟨q4, hq4, hf⟩ := z_bind_inv hf
    obtain ⟨v6, h5, eh5, hf⟩ := z_b2_inv hf
    refine zv_cV0 K [tI x2] [] eX11_fewest_10 lk_X11_118 md_X11_isThing im_X11_isThing sl_X11_isThing rfl rfl rfl rfl (Nat.le_of_ble_eq_true rfl) hq4 (c_X11_isThing X.1.2.1 X.2.2.1 eh5) rfl rfl ⟨z_le (z_fr hX) (by decide), z_le (z_lo hX) (by decide)⟩ ⟨Nat.zero_le _, Nat.zero_le _⟩ ?_
    refine zv_if_eq K 36 eX11_fewest_13 (by decide) hf (fun _ hf => ?_) (fun _ hf => ?_)
    · refine zv_iconst K (-1 : Int32) eX11_fewest_36 (by decide) ?_
      have e9 := Option.some.inj hf; subst e9
      exact zv_iret K eX11_fewest_37 hp
    · refine zv_iload_n K 3 eX11_fewest_16 rfl ?_
      refine zv_iconst K (1 : Int32) eX11_fewest_17 (by decide) ?_
      refine zv_bipush K (20 : Int32) eX11_fewest_18 (by decide) ?_
      obtain ⟨v8, h7, eh7, hf⟩ := z_b2_inv hf
      refine zv_cS0 K [tI x3, tI (1 : Int32), tI (20 : Int32)] [] eX11_fewest_20 lk_X11_65 md_X11_in st_X11_in rfl rfl (Nat.le_of_ble_eq_true rfl) (c_X11_in X.1.2.1 X.2.2.1 eh7) rfl rfl ⟨z_le (z_fr hX) (by decide), z_le (z_lo hX) (by decide)⟩ ⟨Nat.zero_le _, Nat.zero_le _⟩ ?_
      refine zv_if_eq K 36 eX11_fewest_23 (by decide) hf (fun _ hf => ?_) (fun _ hf => ?_)
      · refine zv_iconst K (-1 : Int32) eX11_fewest_36 (by decide) ?_
        have e9 := Option.some.inj hf; subst e9
        exact zv_iret K eX11_fewest_37 hp
      · refine zv_iload K 4 eX11_fewest_26 rfl ?_
        refine zv_iconst K (0 : Int32) eX11_fewest_28 (by decide) ?_
        refine zv_iconst K (4 : Int32) eX11_fewest_29 (by decide) ?_
        obtain ⟨v10, h9, eh9, hf⟩ := z_b2_inv hf
        refine zv_cS0 K [tI x4, tI (0 : Int32), tI (4 : Int32)] [] eX11_fewest_30 lk_X11_65 md_X11_in st_X11_in rfl rfl (Nat.le_of_ble_eq_true rfl) (c_X11_in X.1.2.1 X.2.2.1 eh9) rfl rfl ⟨z_le (z_fr hX) (by decide), z_le (z_lo hX) (by decide)⟩ ⟨Nat.zero_le _, Nat.zero_le _⟩ ?_
        refine zv_if_ne K 38 eX11_fewest_33 (by decide) hf (fun _ hf => ?_) (fun _ hf => ?_)
        · refine zv_aload_n K 0 eX11_fewest_38 rfl ?_
          refine zv_gA K eX11_fewest_39 fl_X11_7 hf (fun v11 hf => ?_)
          refine zv_iload_n K 2 eX11_fewest_42 rfl ?_
          obtain ⟨v13, h12, eh12, hf⟩ := z_b2_inv hf
          refine zv_cS0 K [tI x2] [tA v11] eX11_fewest_43 lk_X11_84 md_X11_thingAt st_X11_thingAt rfl rfl (Nat.le_of_ble_eq_true rfl) (c_X11_thingAt X.1.2.1 X.2.2.1 eh12) rfl rfl ⟨z_le (z_fr hX) (by decide), z_le (z_lo hX) (by decide)⟩ ⟨Nat.zero_le _, Nat.zero_le _⟩ ?_
          refine zv_aI K eX11_fewest_46 hf (fun v14 hf => ?_)
          refine zv_iconst K (2 : Int32) eX11_fewest_47 (by decide) ?_
          refine zv_icmp_ne K 54 eX11_fewest_48 (by decide) hf (fun _ hf => ?_) (fun _ hf => ?_)
          · refine zv_iconst K (0 : Int32) eX11_fewest_54 (by decide) ?_
            refine zv_istore K [(5, tI (0 : Int32)), (0, tA x0), (1, tI x1), (2, tI x2), (3, tI x3), (4, tI x4)] eX11_fewest_55 (z_lt hX.2 (by decide)) rfl ?_
            exact zv_sub [1, 2, 3, 4, 5, 0] rfl (v_X11_fewest_b57 K hX hf hp)
          · refine zv_bipush K (-2 : Int32) eX11_fewest_51 (by decide) ?_
            have e9 := Option.some.inj hf; subst e9
            exact zv_iret K eX11_fewest_53 hp
        · refine zv_iconst K (-1 : Int32) eX11_fewest_36 (by decide) ?_
          have e9 := Option.some.inj hf; subst e9
          exact zv_iret K eX11_fewest_37 hp
theorem c_X11_fewest (l : Launch) (G : zG) {x0 : Option Nat} {x1 : Int32} {x2 : Int32} {x3 : Int32} {x4 : Int32} {h : zH} {nx : Nat} {x : Int32 × zH} (hf : f_X11_fewest x0 x1 x2 x3 x4 h = some x) : z_Ct l G yX11_fewest cX11_fewest 7 (some .int) rm_X11_fewest [tA x0, tI x1, tI x2, tI x3, tI x4] h nx (some (tI x.1)) x.2 nx 0 0 :=
  z_enter [(0, tA x0), (1, tI x1), (2, tI x2), (3, tI x3), (4, tI x4)] (by decide +kernel) (Nat.le_of_ble_eq_true rfl) rfl (fun X hl hR hG hL K hq => by
    subst hl; subst hG
    exact v_X11_fewest K ⟨hR, hL⟩ hf hq)
def P_X11_image_13 (X : zX) (nx : Nat) : ((Option Nat) × Int32 × Int32 × zH) ⊕ (Int32 × zH) → Prop := z_PL (fun s => zV X 13 [(0, tA s.1), (1, tI s.2.1), (2, tI s.2.2.1)] [] s.2.2.2 nx 0 0) (z_P0I X nx)
set_option maxHeartbeats 4000000 in
set_option maxRecDepth 100000 in
theorem v_X11_image_c13 {X : zX} (K : z_Ok X cX11_image (some .int) RX11 "image") (hX : z_Xo X rm_X11_image 3) {x0 : Option Nat} {x1 : Int32} {x2 : Int32} {h : zH} {nx : Nat} {x : (((Option Nat) × Int32 × Int32 × zH) ⊕ (Int32 × zH))} (hf : f_X11_image_c13 x0 x1 x2 h = some x) (hp : P_X11_image_13 X nx x) : zV X 13 [(0, tA x0), (1, tI x1), (2, tI x2)] [] h nx 0 0 := by
  unfold f_X11_image_c13 at hf
  refine zv_iload_n K 2 eX11_image_13 rfl ?_
  refine zv_sipush K (530 : Int32) eX11_image_14 (by decide) ?_
  refine zv_icmp_ge K 44 eX11_image_17 (by decide) hf (fun _ hf => ?_) (fun _ hf => ?_)
  · obtain ⟨w9, hf9, e9⟩ := z_i1_inv hf; clear hf; subst e9; have hf := hf9; clear hf9
    refine zv_aload_n K 0 eX11_image_44 rfl ?_
    refine zv_gA K eX11_image_45 fl_X11_16 hf (fun v1 hf => ?_)
    refine zv_iload_n K 1 eX11_image_48 rfl ?_
    refine zv_iconst K (1 : Int32) eX11_image_49 (by decide) ?_
    refine zv_sB K eX11_image_50 hf (fun h2 hf => ?_)
    refine zv_iconst K (1 : Int32) eX11_image_51 (by decide) ?_
    have e9 := Option.some.inj hf; subst e9
    exact zv_iret K eX11_image_52 hp
  · refine zv_aload_n K 0 eX11_image_20 rfl ?_
    refine zv_gA K eX11_image_21 fl_X11_13 hf (fun v3 hf => ?_)
    refine zv_sipush K (530 : Int32) eX11_image_24 (by decide) ?_
    refine zv_iload_n K 1 eX11_image_27 rfl ?_
    refine zv_imul K eX11_image_28 ?_
    refine zv_iload_n K 2 eX11_image_29 rfl ?_
    refine zv_iadd K eX11_image_30 ?_
    refine zv_aload_n K 0 eX11_image_31 rfl ?_
    refine zv_gA K eX11_image_32 fl_X11_7 hf (fun v4 hf => ?_)
    refine zv_iload_n K 2 eX11_image_35 rfl ?_
    refine zv_aI K eX11_image_36 hf (fun v5 hf => ?_)
    refine zv_sI K eX11_image_37 hf (fun h6 hf => ?_)
    refine zv_iinc K (x2 + (1 : Int32)) 2 [(2, tI (x2 + (1 : Int32))), (0, tA x0), (1, tI x1)] eX11_image_38 rfl rfl (z_lt hX.2 (by decide)) rfl ?_
    refine zv_goto K 13 eX11_image_41 (by decide) ?_
    cases hf
    exact zv_sub [1, 2, 0] rfl (show zV X 13 [(0, tA x0), (1, tI x1), (2, tI (x2 + (1 : Int32)))] [] h6 nx 0 0 from hp)
theorem v_X11_image_b13 {X : zX} (K : z_Ok X cX11_image (some .int) RX11 "image") (hX : z_Xo X rm_X11_image 3) {x0 : Option Nat} {x1 : Int32} {x2 : Int32} {h : zH} {nx : Nat} {x : (Int32 × zH)} (hf : f_X11_image_b13 x0 x1 x2 h = some x) (hp : z_P0I X nx x) : zV X 13 [(0, tA x0), (1, tI x1), (2, tI x2)] [] h nx 0 0 :=
  z_it_ind (P := fun s : (Option Nat) × Int32 × Int32 × zH => zV X 13 [(0, tA s.1), (1, tI s.2.1), (2, tI s.2.2.1)] [] s.2.2.2 nx 0 0) (fun s y hb hy => v_X11_image_c13 K hX hb (z_PL_of hy hp)) hf
set_option maxHeartbeats 4000000 in
set_option maxRecDepth 100000 in
theorem v_X11_image {X : zX} (K : z_Ok X cX11_image (some .int) RX11 "image") (hX : z_Xo X rm_X11_image 3) {x0 : Option Nat} {x1 : Int32} {h : zH} {nx : Nat} {x : (Int32 × zH)} (hf : f_X11_image x0 x1 h = some x) (hp : z_P0I X nx x) : zV X 0 [(0, tA x0), (1, tI x1)] [] h nx 0 0 := by
  unfold f_X11_image at hf
  refine zv_iload_n K 1 eX11_image_0 rfl ?_
  refine zv_iconst K (0 : Int32) eX11_image_1 (by decide) ?_
  refine zv_iconst K (1 : Int32) eX11_image_2 (by decide) ?_
  obtain ⟨v2, h1, eh1, hf⟩ := z_b2_inv hf
  refine zv_cS0 K [tI x1, tI (0 : Int32), tI (1 : Int32)] [] eX11_image_3 lk_X11_65 md_X11_in st_X11_in rfl rfl (Nat.le_of_ble_eq_true rfl) (c_X11_in X.1.2.1 X.2.2.1 eh1) rfl rfl ⟨z_le (z_fr hX) (by decide), z_le (z_lo hX) (by decide)⟩ ⟨Nat.zero_le _, Nat.zero_le _⟩ ?_
  refine zv_if_ne K 11 eX11_image_6 (by decide) hf (fun _ hf => ?_) (fun _ hf => ?_)
  · refine zv_iconst K (0 : Int32) eX11_image_11 (by decide) ?_
    refine zv_istore_n K [(2, tI (0 : Int32)), (0, tA x0), (1, tI x1)] eX11_image_12 (z_lt hX.2 (by decide)) rfl ?_
    exact zv_sub [1, 2, 0] rfl (v_X11_image_b13 K hX hf hp)
  · refine zv_iconst K (-1 : Int32) eX11_image_9 (by decide) ?_
    have e9 := Option.some.inj hf; subst e9
    exact zv_iret K eX11_image_10 hp
theorem c_X11_image (l : Launch) (G : zG) {x0 : Option Nat} {x1 : Int32} {h : zH} {nx : Nat} {x : Int32 × zH} (hf : f_X11_image x0 x1 h = some x) : z_Ct l G yX11_image cX11_image 3 (some .int) rm_X11_image [tA x0, tI x1] h nx (some (tI x.1)) x.2 nx 0 0 :=
  z_enter [(0, tA x0), (1, tI x1)] (by decide +kernel) (Nat.le_of_ble_eq_true rfl) rfl (fun X hl hR hG hL K hq => by
    subst hl; subst hG
    exact v_X11_image K ⟨hR, hL⟩ hf hq)
def P_X11_restore_25 (X : zX) (nx : Nat) : ((Option Nat) × Int32 × Int32 × zH) ⊕ (Int32 × zH) → Prop := z_PL (fun s => zV X 25 [(0, tA s.1), (1, tI s.2.1), (2, tI s.2.2.1)] [] s.2.2.2 nx 0 0) (z_P0I X nx)
set_option maxHeartbeats 4000000 in
set_option maxRecDepth 100000 in
theorem v_X11_restore_c25 {X : zX} (K : z_Ok X cX11_restore (some .int) RX11 "restore") (hX : z_Xo X rm_X11_restore 3) {x0 : Option Nat} {x1 : Int32} {x2 : Int32} {h : zH} {nx : Nat} {x : (((Option Nat) × Int32 × Int32 × zH) ⊕ (Int32 × zH))} (hf : f_X11_restore_c25 x0 x1 x2 h = some x) (hp : P_X11_restore_25 X nx x) : zV X 25 [(0, tA x0), (1, tI x1), (2, tI x2)] [] h nx 0 0 := by
  unfold f_X11_restore_c25 at hf
  refine zv_iload_n K 2 eX11_restore_25 rfl ?_
  refine zv_sipush K (530 : Int32) eX11_restore_26 (by decide) ?_
  refine zv_icmp_ge K 56 eX11_restore_29 (by decide) hf (fun _ hf => ?_) (fun _ hf => ?_)
  · obtain ⟨w9, hf9, e9⟩ := z_i1_inv hf; clear hf; subst e9; have hf := hf9; clear hf9
    refine zv_iconst K (1 : Int32) eX11_restore_56 (by decide) ?_
    have e9 := Option.some.inj hf; subst e9
    exact zv_iret K eX11_restore_57 hp
  · refine zv_aload_n K 0 eX11_restore_32 rfl ?_
    refine zv_gA K eX11_restore_33 fl_X11_7 hf (fun v1 hf => ?_)
    refine zv_iload_n K 2 eX11_restore_36 rfl ?_
    refine zv_aload_n K 0 eX11_restore_37 rfl ?_
    refine zv_gA K eX11_restore_38 fl_X11_13 hf (fun v2 hf => ?_)
    refine zv_sipush K (530 : Int32) eX11_restore_41 (by decide) ?_
    refine zv_iload_n K 1 eX11_restore_44 rfl ?_
    refine zv_imul K eX11_restore_45 ?_
    refine zv_iload_n K 2 eX11_restore_46 rfl ?_
    refine zv_iadd K eX11_restore_47 ?_
    refine zv_aI K eX11_restore_48 hf (fun v3 hf => ?_)
    refine zv_sI K eX11_restore_49 hf (fun h4 hf => ?_)
    refine zv_iinc K (x2 + (1 : Int32)) 2 [(2, tI (x2 + (1 : Int32))), (0, tA x0), (1, tI x1)] eX11_restore_50 rfl rfl (z_lt hX.2 (by decide)) rfl ?_
    refine zv_goto K 25 eX11_restore_53 (by decide) ?_
    cases hf
    exact zv_sub [1, 2, 0] rfl (show zV X 25 [(0, tA x0), (1, tI x1), (2, tI (x2 + (1 : Int32)))] [] h4 nx 0 0 from hp)
theorem v_X11_restore_b25 {X : zX} (K : z_Ok X cX11_restore (some .int) RX11 "restore") (hX : z_Xo X rm_X11_restore 3) {x0 : Option Nat} {x1 : Int32} {x2 : Int32} {h : zH} {nx : Nat} {x : (Int32 × zH)} (hf : f_X11_restore_b25 x0 x1 x2 h = some x) (hp : z_P0I X nx x) : zV X 25 [(0, tA x0), (1, tI x1), (2, tI x2)] [] h nx 0 0 :=
  z_it_ind (P := fun s : (Option Nat) × Int32 × Int32 × zH => zV X 25 [(0, tA s.1), (1, tI s.2.1), (2, tI s.2.2.1)] [] s.2.2.2 nx 0 0) (fun s y hb hy => v_X11_restore_c25 K hX hb (z_PL_of hy hp)) hf
set_option maxHeartbeats 4000000 in
set_option maxRecDepth 100000 in
theorem v_X11_restore {X : zX} (K : z_Ok X cX11_restore (some .int) RX11 "restore") (hX : z_Xo X rm_X11_restore 3) {x0 : Option Nat} {x1 : Int32} {h : zH} {nx : Nat} {x : (Int32 × zH)} (hf : f_X11_restore x0 x1 h = some x) (hp : z_P0I X nx x) : zV X 0 [(0, tA x0), (1, tI x1)] [] h nx 0 0 := by
  unfold f_X11_restore at hf
  refine zv_iload_n K 1 eX11_restore_0 rfl ?_
  refine zv_iconst K (0 : Int32) eX11_restore_1 (by decide) ?_
  refine zv_iconst K (1 : Int32) eX11_restore_2 (by decide) ?_
  obtain ⟨v2, h1, eh1, hf⟩ := z_b2_inv hf
  refine zv_cS0 K [tI x1, tI (0 : Int32), tI (1 : Int32)] [] eX11_restore_3 lk_X11_65 md_X11_in st_X11_in rfl rfl (Nat.le_of_ble_eq_true rfl) (c_X11_in X.1.2.1 X.2.2.1 eh1) rfl rfl ⟨z_le (z_fr hX) (by decide), z_le (z_lo hX) (by decide)⟩ ⟨Nat.zero_le _, Nat.zero_le _⟩ ?_
  refine zv_if_ne K 11 eX11_restore_6 (by decide) hf (fun _ hf => ?_) (fun _ hf => ?_)
  · refine zv_aload_n K 0 eX11_restore_11 rfl ?_
    refine zv_gA K eX11_restore_12 fl_X11_16 hf (fun v3 hf => ?_)
    refine zv_iload_n K 1 eX11_restore_15 rfl ?_
    refine zv_aB K eX11_restore_16 hf (fun v4 hf => ?_)
    refine zv_if_ne K 23 eX11_restore_17 (by decide) hf (fun _ hf => ?_) (fun _ hf => ?_)
    · refine zv_iconst K (0 : Int32) eX11_restore_23 (by decide) ?_
      refine zv_istore_n K [(2, tI (0 : Int32)), (0, tA x0), (1, tI x1)] eX11_restore_24 (z_lt hX.2 (by decide)) rfl ?_
      exact zv_sub [1, 2, 0] rfl (v_X11_restore_b25 K hX hf hp)
    · refine zv_bipush K (-4 : Int32) eX11_restore_20 (by decide) ?_
      have e9 := Option.some.inj hf; subst e9
      exact zv_iret K eX11_restore_22 hp
  · refine zv_iconst K (-1 : Int32) eX11_restore_9 (by decide) ?_
    have e9 := Option.some.inj hf; subst e9
    exact zv_iret K eX11_restore_10 hp
theorem c_X11_restore (l : Launch) (G : zG) {x0 : Option Nat} {x1 : Int32} {h : zH} {nx : Nat} {x : Int32 × zH} (hf : f_X11_restore x0 x1 h = some x) : z_Ct l G yX11_restore cX11_restore 3 (some .int) rm_X11_restore [tA x0, tI x1] h nx (some (tI x.1)) x.2 nx 0 0 :=
  z_enter [(0, tA x0), (1, tI x1)] (by decide +kernel) (Nat.le_of_ble_eq_true rfl) rfl (fun X hl hR hG hL K hq => by
    subst hl; subst hG
    exact v_X11_restore K ⟨hR, hL⟩ hf hq)
set_option maxHeartbeats 4000000 in
set_option maxRecDepth 100000 in
theorem v_X11_bars {X : zX} (K : z_Ok X cX11_bars (some .int) RX11 "bars") (hX : z_Xo X rm_X11_bars 5) {x0 : Option Nat} {x1 : Int32} {x2 : Int32} {x3 : Int32} {x4 : Int32} {h : zH} {nx : Nat} {x : (Int32 × zH)} (hf : f_X11_bars x0 x1 x2 x3 x4 h = some x) (hp : z_P0I X nx x) : zV X 0 [(0, tA x0), (1, tI x1), (2, tI x2), (3, tI x3), (4, tI x4)] [] h nx 0 0 := by
  unfold f_X11_bars at hf
  refine zv_aload_n K 0 eX11_bars_0 rfl ?_
  refine zv_iload_n K 1 eX11_bars_1 rfl ?_
  obtain ⟨q1, hq1, hf⟩ := z_bind_inv hf
  obtain ⟨v3, h2, eh2, hf⟩ := z_b2_inv hf
  refine zv_cV0 K [tI x1] [] eX11_bars_2 lk_X11_73 md_X11_isArm im_X11_isArm sl_X11_isArm rfl rfl rfl rfl (Nat.le_of_ble_eq_true rfl) hq1 (c_X11_isArm X.1.2.1 X.2.2.1 eh2) rfl rfl ⟨z_le (z_fr hX) (by decide), z_le (z_lo hX) (by decide)⟩ ⟨Nat.zero_le _, Nat.zero_le _⟩ ?_
  refine zv_if_eq K 24 eX11_bars_5 (by decide) hf (fun _ hf => ?_) (fun _ hf => ?_)
  · refine zv_iconst K (-1 : Int32) eX11_bars_24 (by decide) ?_
    have e9 := Option.some.inj hf; subst e9
    exact zv_iret K eX11_bars_25 hp
  · refine zv_iload_n K 2 eX11_bars_8 rfl ?_
    obtain ⟨v5, h4, eh4, hf⟩ := z_b2_inv hf
    refine zv_cS0 K [tI x2] [] eX11_bars_9 lk_X11_100 md_X11_isSheet st_X11_isSheet rfl rfl (Nat.le_of_ble_eq_true rfl) (c_X11_isSheet X.1.2.1 X.2.2.1 eh4) rfl rfl ⟨z_le (z_fr hX) (by decide), z_le (z_lo hX) (by decide)⟩ ⟨Nat.zero_le _, Nat.zero_le _⟩ ?_
    refine zv_if_eq K 24 eX11_bars_12 (by decide) hf (fun _ hf => ?_) (fun _ hf => ?_)
    · refine zv_iconst K (-1 : Int32) eX11_bars_24 (by decide) ?_
      have e9 := Option.some.inj hf; subst e9
      exact zv_iret K eX11_bars_25 hp
    · refine zv_iload_n K 3 eX11_bars_15 rfl ?_
      refine zv_iconst K (1 : Int32) eX11_bars_16 (by decide) ?_
      refine zv_iconst K (2 : Int32) eX11_bars_17 (by decide) ?_
      obtain ⟨v7, h6, eh6, hf⟩ := z_b2_inv hf
      refine zv_cS0 K [tI x3, tI (1 : Int32), tI (2 : Int32)] [] eX11_bars_18 lk_X11_65 md_X11_in st_X11_in rfl rfl (Nat.le_of_ble_eq_true rfl) (c_X11_in X.1.2.1 X.2.2.1 eh6) rfl rfl ⟨z_le (z_fr hX) (by decide), z_le (z_lo hX) (by decide)⟩ ⟨Nat.zero_le _, Nat.zero_le _⟩ ?_
      refine zv_if_ne K 26 eX11_bars_21 (by decide) hf (fun _ hf => ?_) (fun _ hf => ?_)
      · refine zv_aload_n K 0 eX11_bars_26 rfl ?_
        refine zv_gA K eX11_bars_27 fl_X11_26 hf (fun v8 hf => ?_)
        refine zv_iload_n K 2 eX11_bars_30 rfl ?_
        refine zv_aI K eX11_bars_31 hf (fun v9 hf => ?_)
        refine zv_if_ge K 40 eX11_bars_32 (by decide) hf (fun _ hf => ?_) (fun _ hf => ?_)
        · refine zv_aload_n K 0 eX11_bars_40 rfl ?_
          refine zv_gA K eX11_bars_41 fl_X11_26 hf (fun v10 hf => ?_)
          refine zv_iload_n K 2 eX11_bars_44 rfl ?_
          refine zv_aI K eX11_bars_45 hf (fun v11 hf => ?_)
          refine zv_iload_n K 3 eX11_bars_46 rfl ?_
          refine zv_icmp_eq K 55 eX11_bars_47 (by decide) hf (fun _ hf => ?_) (fun _ hf => ?_)
          · refine zv_iload K 4 eX11_bars_55 rfl ?_
            refine zv_if_lt K 77 eX11_bars_57 (by decide) hf (fun _ hf => ?_) (fun _ hf => ?_)
            · refine zv_bipush K (-13 : Int32) eX11_bars_77 (by decide) ?_
              refine zv_goto K 83 eX11_bars_79 (by decide) ?_
              have e9 := Option.some.inj hf; subst e9
              exact zv_iret K eX11_bars_83 hp
            · refine zv_iload K 4 eX11_bars_60 rfl ?_
              refine zv_aload_n K 0 eX11_bars_62 rfl ?_
              refine zv_gA K eX11_bars_63 fl_X11_29 hf (fun v12 hf => ?_)
              refine zv_iload_n K 2 eX11_bars_66 rfl ?_
              refine zv_aI K eX11_bars_67 hf (fun v13 hf => ?_)
              refine zv_aload_n K 0 eX11_bars_68 rfl ?_
              refine zv_iload_n K 1 eX11_bars_69 rfl ?_
              obtain ⟨q14, hq14, hf⟩ := z_bind_inv hf
              obtain ⟨v16, h15, eh15, hf⟩ := z_b2_inv hf
              refine zv_cV0 K [tI x1] [tI v13, tI x4] eX11_bars_70 lk_X11_77 md_X11_pieces im_X11_pieces sl_X11_pieces rfl rfl rfl rfl (Nat.le_of_ble_eq_true rfl) hq14 (c_X11_pieces X.1.2.1 X.2.2.1 eh15) rfl rfl ⟨z_le (z_fr hX) (by decide), z_le (z_lo hX) (by decide)⟩ ⟨Nat.zero_le _, Nat.zero_le _⟩ ?_
              refine zv_isub K eX11_bars_73 ?_
              refine zv_icmp_le K 82 eX11_bars_74 (by decide) hf (fun _ hf => ?_) (fun _ hf => ?_)
              · refine zv_iconst K (0 : Int32) eX11_bars_82 (by decide) ?_
                have e9 := Option.some.inj hf; subst e9
                exact zv_iret K eX11_bars_83 hp
              · refine zv_bipush K (-13 : Int32) eX11_bars_77 (by decide) ?_
                refine zv_goto K 83 eX11_bars_79 (by decide) ?_
                have e9 := Option.some.inj hf; subst e9
                exact zv_iret K eX11_bars_83 hp
          · refine zv_bipush K (-12 : Int32) eX11_bars_50 (by decide) ?_
            refine zv_goto K 83 eX11_bars_52 (by decide) ?_
            have e9 := Option.some.inj hf; subst e9
            exact zv_iret K eX11_bars_83 hp
        · refine zv_bipush K (-11 : Int32) eX11_bars_35 (by decide) ?_
          refine zv_goto K 83 eX11_bars_37 (by decide) ?_
          have e9 := Option.some.inj hf; subst e9
          exact zv_iret K eX11_bars_83 hp
      · refine zv_iconst K (-1 : Int32) eX11_bars_24 (by decide) ?_
        have e9 := Option.some.inj hf; subst e9
        exact zv_iret K eX11_bars_25 hp
theorem c_X11_bars (l : Launch) (G : zG) {x0 : Option Nat} {x1 : Int32} {x2 : Int32} {x3 : Int32} {x4 : Int32} {h : zH} {nx : Nat} {x : Int32 × zH} (hf : f_X11_bars x0 x1 x2 x3 x4 h = some x) : z_Ct l G yX11_bars cX11_bars 5 (some .int) rm_X11_bars [tA x0, tI x1, tI x2, tI x3, tI x4] h nx (some (tI x.1)) x.2 nx 0 0 :=
  z_enter [(0, tA x0), (1, tI x1), (2, tI x2), (3, tI x3), (4, tI x4)] (by decide +kernel) (Nat.le_of_ble_eq_true rfl) rfl (fun X hl hR hG hL K hq => by
    subst hl; subst hG
    exact v_X11_bars K ⟨hR, hL⟩ hf hq)
def P_X11_film_22 (X : zX) (nx : Nat) : ((Option Nat) × Int32 × Int32 × Int32 × Int32 × zH) ⊕ (Int32 × zH) → Prop := z_PL (fun s => zV X 22 [(0, tA s.1), (1, tI s.2.1), (2, tI s.2.2.1), (4, tI s.2.2.2.1), (6, tI s.2.2.2.2.1)] [] s.2.2.2.2.2 nx 0 0) (z_P0I X nx)
set_option maxHeartbeats 4000000 in
set_option maxRecDepth 100000 in
theorem v_X11_film_c22 {X : zX} (K : z_Ok X cX11_film (some .int) RX11 "film") (hX : z_Xo X rm_X11_film 7) {x0 : Option Nat} {x1 : Int32} {x2 : Int32} {x4 : Int32} {x6 : Int32} {h : zH} {nx : Nat} {x : (((Option Nat) × Int32 × Int32 × Int32 × Int32 × zH) ⊕ (Int32 × zH))} (hf : f_X11_film_c22 x0 x1 x2 x4 x6 h = some x) (hp : P_X11_film_22 X nx x) : zV X 22 [(0, tA x0), (1, tI x1), (2, tI x2), (4, tI x4), (6, tI x6)] [] h nx 0 0 := by
  unfold f_X11_film_c22 at hf
  refine zv_iload K 4 eX11_film_22 rfl ?_
  refine zv_aload_n K 0 eX11_film_24 rfl ?_
  refine zv_iload_n K 1 eX11_film_25 rfl ?_
  obtain ⟨q1, hq1, hf⟩ := z_bind_inv hf
  obtain ⟨v3, h2, eh2, hf⟩ := z_b2_inv hf
  refine zv_cV0 K [tI x1] [tI x6] eX11_film_26 lk_X11_77 md_X11_pieces im_X11_pieces sl_X11_pieces rfl rfl rfl rfl (Nat.le_of_ble_eq_true rfl) hq1 (c_X11_pieces X.1.2.1 X.2.2.1 eh2) rfl rfl ⟨z_le (z_fr hX) (by decide), z_le (z_lo hX) (by decide)⟩ ⟨Nat.zero_le _, Nat.zero_le _⟩ ?_
  refine zv_icmp_ge K 60 eX11_film_29 (by decide) hf (fun _ hf => ?_) (fun _ hf => ?_)
  · obtain ⟨w9, hf9, e9⟩ := z_i1_inv hf; clear hf; subst e9; have hf := hf9; clear hf9
    refine zv_aload_n K 0 eX11_film_60 rfl ?_
    refine zv_iload_n K 1 eX11_film_61 rfl ?_
    obtain ⟨q4, hq4, hf⟩ := z_bind_inv hf
    obtain ⟨v6, h5, eh5, hf⟩ := z_b2_inv hf
    refine zv_cV0 K [tI x1] [] eX11_film_62 lk_X11_77 md_X11_pieces im_X11_pieces sl_X11_pieces rfl rfl rfl rfl (Nat.le_of_ble_eq_true rfl) hq4 (c_X11_pieces X.1.2.1 X.2.2.1 eh5) rfl rfl ⟨z_le (z_fr hX) (by decide), z_le (z_lo hX) (by decide)⟩ ⟨Nat.zero_le _, Nat.zero_le _⟩ ?_
    have e9 := Option.some.inj hf; subst e9
    exact zv_iret K eX11_film_65 hp
  · refine zv_aload_n K 0 eX11_film_32 rfl ?_
    refine zv_gA K eX11_film_33 fl_X11_32 hf (fun v7 hf => ?_)
    refine zv_bipush K (64 : Int32) eX11_film_36 (by decide) ?_
    refine zv_iload_n K 2 eX11_film_38 rfl ?_
    refine zv_imul K eX11_film_39 ?_
    refine zv_iload K 3 eX11_film_40 rfl ?_
    refine zv_iadd K eX11_film_42 ?_
    refine zv_iload K 4 eX11_film_43 rfl ?_
    refine zv_iadd K eX11_film_45 ?_
    refine zv_aload_n K 0 eX11_film_46 rfl ?_
    refine zv_iload_n K 1 eX11_film_47 rfl ?_
    refine zv_iload K 4 eX11_film_48 rfl ?_
    obtain ⟨q8, hq8, hf⟩ := z_bind_inv hf
    obtain ⟨v10, h9, eh9, hf⟩ := z_b2_inv hf
    refine zv_cV0 K [tI x1, tI x6] [tI ((((64 : Int32) * x2) + x4) + x6), tA v7] eX11_film_50 lk_X11_81 md_X11_cell im_X11_cell sl_X11_cell rfl rfl rfl rfl (Nat.le_of_ble_eq_true rfl) hq8 (c_X11_cell X.1.2.1 X.2.2.1 eh9) rfl rfl ⟨z_le (z_fr hX) (by decide), z_le (z_lo hX) (by decide)⟩ ⟨Nat.zero_le _, Nat.zero_le _⟩ ?_
    refine zv_sI K eX11_film_53 hf (fun h11 hf => ?_)
    refine zv_iinc K (x6 + (1 : Int32)) 4 [(6, tI (x6 + (1 : Int32))), (0, tA x0), (1, tI x1), (2, tI x2), (4, tI x4)] eX11_film_54 rfl rfl (z_lt hX.2 (by decide)) rfl ?_
    refine zv_goto K 22 eX11_film_57 (by decide) ?_
    cases hf
    exact zv_sub [1, 2, 3, 4, 0] rfl (show zV X 22 [(0, tA x0), (1, tI x1), (2, tI x2), (4, tI x4), (6, tI (x6 + (1 : Int32)))] [] h11 nx 0 0 from hp)
theorem v_X11_film_b22 {X : zX} (K : z_Ok X cX11_film (some .int) RX11 "film") (hX : z_Xo X rm_X11_film 7) {x0 : Option Nat} {x1 : Int32} {x2 : Int32} {x4 : Int32} {x6 : Int32} {h : zH} {nx : Nat} {x : (Int32 × zH)} (hf : f_X11_film_b22 x0 x1 x2 x4 x6 h = some x) (hp : z_P0I X nx x) : zV X 22 [(0, tA x0), (1, tI x1), (2, tI x2), (4, tI x4), (6, tI x6)] [] h nx 0 0 :=
  z_it_ind (P := fun s : (Option Nat) × Int32 × Int32 × Int32 × Int32 × zH => zV X 22 [(0, tA s.1), (1, tI s.2.1), (2, tI s.2.2.1), (4, tI s.2.2.2.1), (6, tI s.2.2.2.2.1)] [] s.2.2.2.2.2 nx 0 0) (fun s y hb hy => v_X11_film_c22 K hX hb (z_PL_of hy hp)) hf
set_option maxHeartbeats 4000000 in
set_option maxRecDepth 100000 in
theorem v_X11_film {X : zX} (K : z_Ok X cX11_film (some .int) RX11 "film") (hX : z_Xo X rm_X11_film 7) {x0 : Option Nat} {x1 : Int32} {x2 : Int32} {x3 : Int32} {x4 : Int32} {h : zH} {nx : Nat} {x : (Int32 × zH)} (hf : f_X11_film x0 x1 x2 x3 x4 h = some x) (hp : z_P0I X nx x) : zV X 0 [(0, tA x0), (1, tI x1), (2, tI x2), (3, tI x3), (4, tI x4)] [] h nx 0 0 := by
  unfold f_X11_film at hf
  refine zv_aload_n K 0 eX11_film_0 rfl ?_
  refine zv_iload_n K 1 eX11_film_1 rfl ?_
  refine zv_iload_n K 2 eX11_film_2 rfl ?_
  refine zv_iload_n K 3 eX11_film_3 rfl ?_
  refine zv_iload K 4 eX11_film_4 rfl ?_
  obtain ⟨q1, hq1, hf⟩ := z_bind_inv hf
  obtain ⟨v3, h2, eh2, hf⟩ := z_b2_inv hf
  refine zv_cV0 K [tI x1, tI x2, tI x3, tI x4] [] eX11_film_6 lk_X11_199 md_X11_bars im_X11_bars sl_X11_bars rfl rfl rfl rfl (Nat.le_of_ble_eq_true rfl) hq1 (c_X11_bars X.1.2.1 X.2.2.1 eh2) rfl rfl ⟨z_le (z_fr hX) (by decide), z_le (z_lo hX) (by decide)⟩ ⟨Nat.zero_le _, Nat.zero_le _⟩ ?_
  refine zv_istore K [(5, tI v3), (0, tA x0), (1, tI x1), (2, tI x2), (3, tI x3), (4, tI x4)] eX11_film_9 (z_lt hX.2 (by decide)) rfl ?_
  refine zv_iload K 0 eX11_film_11 rfl ?_
  refine zv_if_ge K 19 eX11_film_13 (by decide) hf (fun _ hf => ?_) (fun _ hf => ?_)
  · refine zv_iconst K (0 : Int32) eX11_film_19 (by decide) ?_
    refine zv_istore K [(6, tI (0 : Int32)), (5, tI v3), (0, tA x0), (1, tI x1), (2, tI x2), (3, tI x3), (4, tI x4)] eX11_film_20 (z_lt hX.2 (by decide)) rfl ?_
    exact zv_sub [2, 3, 4, 6, 0] rfl (v_X11_film_b22 K hX hf hp)
  · refine zv_iload K 0 eX11_film_16 rfl ?_
    have e9 := Option.some.inj hf; subst e9
    exact zv_iret K eX11_film_18 hp
theorem c_X11_film (l : Launch) (G : zG) {x0 : Option Nat} {x1 : Int32} {x2 : Int32} {x3 : Int32} {x4 : Int32} {h : zH} {nx : Nat} {x : Int32 × zH} (hf : f_X11_film x0 x1 x2 x3 x4 h = some x) : z_Ct l G yX11_film cX11_film 7 (some .int) rm_X11_film [tA x0, tI x1, tI x2, tI x3, tI x4] h nx (some (tI x.1)) x.2 nx 0 0 :=
  z_enter [(0, tA x0), (1, tI x1), (2, tI x2), (3, tI x3), (4, tI x4)] (by decide +kernel) (Nat.le_of_ble_eq_true rfl) rfl (fun X hl hR hG hL K hq => by
    subst hl; subst hG
    exact v_X11_film K ⟨hR, hL⟩ hf hq)
def P_X11_differs_22 (X : zX) (nx : Nat) : ((Option Nat) × Int32 × Int32 × Int32 × Int32 × zH) ⊕ (Int32 × zH) → Prop := z_PL (fun s => zV X 22 [(0, tA s.1), (1, tI s.2.1), (2, tI s.2.2.1), (4, tI s.2.2.2.1), (6, tI s.2.2.2.2.1)] [] s.2.2.2.2.2 nx 0 0) (z_P0I X nx)
set_option maxHeartbeats 4000000 in
set_option maxRecDepth 100000 in
theorem v_X11_differs_c22 {X : zX} (K : z_Ok X cX11_differs (some .int) RX11 "differs") (hX : z_Xo X rm_X11_differs 7) {x0 : Option Nat} {x1 : Int32} {x2 : Int32} {x4 : Int32} {x6 : Int32} {h : zH} {nx : Nat} {x : (((Option Nat) × Int32 × Int32 × Int32 × Int32 × zH) ⊕ (Int32 × zH))} (hf : f_X11_differs_c22 x0 x1 x2 x4 x6 h = some x) (hp : P_X11_differs_22 X nx x) : zV X 22 [(0, tA x0), (1, tI x1), (2, tI x2), (4, tI x4), (6, tI x6)] [] h nx 0 0 := by
  unfold f_X11_differs_c22 at hf
  refine zv_iload K 4 eX11_differs_22 rfl ?_
  refine zv_aload_n K 0 eX11_differs_24 rfl ?_
  refine zv_iload_n K 1 eX11_differs_25 rfl ?_
  obtain ⟨q1, hq1, hf⟩ := z_bind_inv hf
  obtain ⟨v3, h2, eh2, hf⟩ := z_b2_inv hf
  refine zv_cV0 K [tI x1] [tI x6] eX11_differs_26 lk_X11_77 md_X11_pieces im_X11_pieces sl_X11_pieces rfl rfl rfl rfl (Nat.le_of_ble_eq_true rfl) hq1 (c_X11_pieces X.1.2.1 X.2.2.1 eh2) rfl rfl ⟨z_le (z_fr hX) (by decide), z_le (z_lo hX) (by decide)⟩ ⟨Nat.zero_le _, Nat.zero_le _⟩ ?_
  refine zv_icmp_ge K 66 eX11_differs_29 (by decide) hf (fun _ hf => ?_) (fun _ hf => ?_)
  · obtain ⟨w9, hf9, e9⟩ := z_i1_inv hf; clear hf; subst e9; have hf := hf9; clear hf9
    refine zv_bipush K (-4 : Int32) eX11_differs_66 (by decide) ?_
    have e9 := Option.some.inj hf; subst e9
    exact zv_iret K eX11_differs_68 hp
  · refine zv_aload_n K 0 eX11_differs_32 rfl ?_
    refine zv_gA K eX11_differs_33 fl_X11_32 hf (fun v4 hf => ?_)
    refine zv_bipush K (64 : Int32) eX11_differs_36 (by decide) ?_
    refine zv_iload_n K 2 eX11_differs_38 rfl ?_
    refine zv_imul K eX11_differs_39 ?_
    refine zv_iload K 3 eX11_differs_40 rfl ?_
    refine zv_iadd K eX11_differs_42 ?_
    refine zv_iload K 4 eX11_differs_43 rfl ?_
    refine zv_iadd K eX11_differs_45 ?_
    refine zv_aI K eX11_differs_46 hf (fun v5 hf => ?_)
    refine zv_aload_n K 0 eX11_differs_47 rfl ?_
    refine zv_iload_n K 1 eX11_differs_48 rfl ?_
    refine zv_iload K 4 eX11_differs_49 rfl ?_
    obtain ⟨q6, hq6, hf⟩ := z_bind_inv hf
    obtain ⟨v8, h7, eh7, hf⟩ := z_b2_inv hf
    refine zv_cV0 K [tI x1, tI x6] [tI v5] eX11_differs_51 lk_X11_81 md_X11_cell im_X11_cell sl_X11_cell rfl rfl rfl rfl (Nat.le_of_ble_eq_true rfl) hq6 (c_X11_cell X.1.2.1 X.2.2.1 eh7) rfl rfl ⟨z_le (z_fr hX) (by decide), z_le (z_lo hX) (by decide)⟩ ⟨Nat.zero_le _, Nat.zero_le _⟩ ?_
    refine zv_icmp_eq K 60 eX11_differs_54 (by decide) hf (fun _ hf => ?_) (fun _ hf => ?_)
    · refine zv_iinc K (x6 + (1 : Int32)) 4 [(6, tI (x6 + (1 : Int32))), (0, tA x0), (1, tI x1), (2, tI x2), (4, tI x4)] eX11_differs_60 rfl rfl (z_lt hX.2 (by decide)) rfl ?_
      refine zv_goto K 22 eX11_differs_63 (by decide) ?_
      cases hf
      exact zv_sub [1, 2, 3, 4, 0] rfl (show zV X 22 [(0, tA x0), (1, tI x1), (2, tI x2), (4, tI x4), (6, tI (x6 + (1 : Int32)))] [] h7 nx 0 0 from hp)
    · obtain ⟨w9, hf9, e9⟩ := z_i1_inv hf; clear hf; subst e9; have hf := hf9; clear hf9
      refine zv_iload K 4 eX11_differs_57 rfl ?_
      have e9 := Option.some.inj hf; subst e9
      exact zv_iret K eX11_differs_59 hp
theorem v_X11_differs_b22 {X : zX} (K : z_Ok X cX11_differs (some .int) RX11 "differs") (hX : z_Xo X rm_X11_differs 7) {x0 : Option Nat} {x1 : Int32} {x2 : Int32} {x4 : Int32} {x6 : Int32} {h : zH} {nx : Nat} {x : (Int32 × zH)} (hf : f_X11_differs_b22 x0 x1 x2 x4 x6 h = some x) (hp : z_P0I X nx x) : zV X 22 [(0, tA x0), (1, tI x1), (2, tI x2), (4, tI x4), (6, tI x6)] [] h nx 0 0 :=
  z_it_ind (P := fun s : (Option Nat) × Int32 × Int32 × Int32 × Int32 × zH => zV X 22 [(0, tA s.1), (1, tI s.2.1), (2, tI s.2.2.1), (4, tI s.2.2.2.1), (6, tI s.2.2.2.2.1)] [] s.2.2.2.2.2 nx 0 0) (fun s y hb hy => v_X11_differs_c22 K hX hb (z_PL_of hy hp)) hf
set_option maxHeartbeats 4000000 in
set_option maxRecDepth 100000 in
theorem v_X11_differs {X : zX} (K : z_Ok X cX11_differs (some .int) RX11 "differs") (hX : z_Xo X rm_X11_differs 7) {x0 : Option Nat} {x1 : Int32} {x2 : Int32} {x3 : Int32} {x4 : Int32} {h : zH} {nx : Nat} {x : (Int32 × zH)} (hf : f_X11_differs x0 x1 x2 x3 x4 h = some x) (hp : z_P0I X nx x) : zV X 0 [(0, tA x0), (1, tI x1), (2, tI x2), (3, tI x3), (4, tI x4)] [] h nx 0 0 := by
  unfold f_X11_differs at hf
  refine zv_aload_n K 0 eX11_differs_0 rfl ?_
  refine zv_iload_n K 1 eX11_differs_1 rfl ?_
  refine zv_iload_n K 2 eX11_differs_2 rfl ?_
  refine zv_iload_n K 3 eX11_differs_3 rfl ?_
  refine zv_iload K 4 eX11_differs_4 rfl ?_
  obtain ⟨q1, hq1, hf⟩ := z_bind_inv hf
  obtain ⟨v3, h2, eh2, hf⟩ := z_b2_inv hf
  refine zv_cV0 K [tI x1, tI x2, tI x3, tI x4] [] eX11_differs_6 lk_X11_199 md_X11_bars im_X11_bars sl_X11_bars rfl rfl rfl rfl (Nat.le_of_ble_eq_true rfl) hq1 (c_X11_bars X.1.2.1 X.2.2.1 eh2) rfl rfl ⟨z_le (z_fr hX) (by decide), z_le (z_lo hX) (by decide)⟩ ⟨Nat.zero_le _, Nat.zero_le _⟩ ?_
  refine zv_istore K [(5, tI v3), (0, tA x0), (1, tI x1), (2, tI x2), (3, tI x3), (4, tI x4)] eX11_differs_9 (z_lt hX.2 (by decide)) rfl ?_
  refine zv_iload K 0 eX11_differs_11 rfl ?_
  refine zv_if_ge K 19 eX11_differs_13 (by decide) hf (fun _ hf => ?_) (fun _ hf => ?_)
  · refine zv_iconst K (0 : Int32) eX11_differs_19 (by decide) ?_
    refine zv_istore K [(6, tI (0 : Int32)), (5, tI v3), (0, tA x0), (1, tI x1), (2, tI x2), (3, tI x3), (4, tI x4)] eX11_differs_20 (z_lt hX.2 (by decide)) rfl ?_
    exact zv_sub [2, 3, 4, 6, 0] rfl (v_X11_differs_b22 K hX hf hp)
  · refine zv_iload K 0 eX11_differs_16 rfl ?_
    have e9 := Option.some.inj hf; subst e9
    exact zv_iret K eX11_differs_18 hp
theorem c_X11_differs (l : Launch) (G : zG) {x0 : Option Nat} {x1 : Int32} {x2 : Int32} {x3 : Int32} {x4 : Int32} {h : zH} {nx : Nat} {x : Int32 × zH} (hf : f_X11_differs x0 x1 x2 x3 x4 h = some x) : z_Ct l G yX11_differs cX11_differs 7 (some .int) rm_X11_differs [tA x0, tI x1, tI x2, tI x3, tI x4] h nx (some (tI x.1)) x.2 nx 0 0 :=
  z_enter [(0, tA x0), (1, tI x1), (2, tI x2), (3, tI x3), (4, tI x4)] (by decide +kernel) (Nat.le_of_ble_eq_true rfl) rfl (fun X hl hR hG hL K hq => by
    subst hl; subst hG
    exact v_X11_differs K ⟨hR, hL⟩ hf hq)
def P_X11_sheet_48 (X : zX) (nx : Nat) : ((Option Nat) × Int32 × Int32 × Int32 × zH) ⊕ (Int32 × zH) → Prop := z_PL (fun s => zV X 48 [(0, tA s.1), (1, tI s.2.1), (3, tI s.2.2.1), (4, tI s.2.2.2.1)] [] s.2.2.2.2 nx 0 0) (z_P0I X nx)
set_option maxHeartbeats 4000000 in
set_option maxRecDepth 100000 in
theorem v_X11_sheet_c48 {X : zX} (K : z_Ok X cX11_sheet (some .int) RX11 "sheet") (hX : z_Xo X rm_X11_sheet 5) {x0 : Option Nat} {x1 : Int32} {x3 : Int32} {x4 : Int32} {h : zH} {nx : Nat} {x : (((Option Nat) × Int32 × Int32 × Int32 × zH) ⊕ (Int32 × zH))} (hf : f_X11_sheet_c48 x0 x1 x3 x4 h = some x) (hp : P_X11_sheet_48 X nx x) : zV X 48 [(0, tA x0), (1, tI x1), (3, tI x3), (4, tI x4)] [] h nx 0 0 := by
  unfold f_X11_sheet_c48 at hf
  refine zv_iload K 3 eX11_sheet_48 rfl ?_
  refine zv_bipush K (64 : Int32) eX11_sheet_50 (by decide) ?_
  refine zv_icmp_ge K 74 eX11_sheet_52 (by decide) hf (fun _ hf => ?_) (fun _ hf => ?_)
  · obtain ⟨w9, hf9, e9⟩ := z_i1_inv hf; clear hf; subst e9; have hf := hf9; clear hf9
    refine zv_iload_n K 2 eX11_sheet_74 rfl ?_
    have e9 := Option.some.inj hf; subst e9
    exact zv_iret K eX11_sheet_75 hp
  · refine zv_aload_n K 0 eX11_sheet_55 rfl ?_
    refine zv_gA K eX11_sheet_56 fl_X11_32 hf (fun v1 hf => ?_)
    refine zv_bipush K (64 : Int32) eX11_sheet_59 (by decide) ?_
    refine zv_iload_n K 1 eX11_sheet_61 rfl ?_
    refine zv_imul K eX11_sheet_62 ?_
    refine zv_iload K 3 eX11_sheet_63 rfl ?_
    refine zv_iadd K eX11_sheet_65 ?_
    refine zv_iconst K (0 : Int32) eX11_sheet_66 (by decide) ?_
    refine zv_sI K eX11_sheet_67 hf (fun h2 hf => ?_)
    refine zv_iinc K (x4 + (1 : Int32)) 3 [(4, tI (x4 + (1 : Int32))), (0, tA x0), (1, tI x1), (3, tI x3)] eX11_sheet_68 rfl rfl (z_lt hX.2 (by decide)) rfl ?_
    refine zv_goto K 48 eX11_sheet_71 (by decide) ?_
    cases hf
    exact zv_sub [1, 2, 3, 0] rfl (show zV X 48 [(0, tA x0), (1, tI x1), (3, tI x3), (4, tI (x4 + (1 : Int32)))] [] h2 nx 0 0 from hp)
theorem v_X11_sheet_b48 {X : zX} (K : z_Ok X cX11_sheet (some .int) RX11 "sheet") (hX : z_Xo X rm_X11_sheet 5) {x0 : Option Nat} {x1 : Int32} {x3 : Int32} {x4 : Int32} {h : zH} {nx : Nat} {x : (Int32 × zH)} (hf : f_X11_sheet_b48 x0 x1 x3 x4 h = some x) (hp : z_P0I X nx x) : zV X 48 [(0, tA x0), (1, tI x1), (3, tI x3), (4, tI x4)] [] h nx 0 0 :=
  z_it_ind (P := fun s : (Option Nat) × Int32 × Int32 × Int32 × zH => zV X 48 [(0, tA s.1), (1, tI s.2.1), (3, tI s.2.2.1), (4, tI s.2.2.2.1)] [] s.2.2.2.2 nx 0 0) (fun s y hb hy => v_X11_sheet_c48 K hX hb (z_PL_of hy hp)) hf
set_option maxHeartbeats 4000000 in
set_option maxRecDepth 100000 in
theorem v_X11_sheet {X : zX} (K : z_Ok X cX11_sheet (some .int) RX11 "sheet") (hX : z_Xo X rm_X11_sheet 5) {x0 : Option Nat} {x1 : Int32} {x2 : Int32} {x3 : Int32} {h : zH} {nx : Nat} {x : (Int32 × zH)} (hf : f_X11_sheet x0 x1 x2 x3 h = some x) (hp : z_P0I X nx x) : zV X 0 [(0, tA x0), (1, tI x1), (2, tI x2), (3, tI x3)] [] h nx 0 0 := by
  unfold f_X11_sheet at hf
  refine zv_iload_n K 1 eX11_sheet_0 rfl ?_
  obtain ⟨v2, h1, eh1, hf⟩ := z_b2_inv hf
  refine zv_cS0 K [tI x1] [] eX11_sheet_1 lk_X11_100 md_X11_isSheet st_X11_isSheet rfl rfl (Nat.le_of_ble_eq_true rfl) (c_X11_isSheet X.1.2.1 X.2.2.1 eh1) rfl rfl ⟨z_le (z_fr hX) (by decide), z_le (z_lo hX) (by decide)⟩ ⟨Nat.zero_le _, Nat.zero_le _⟩ ?_
  refine zv_if_eq K 22 eX11_sheet_4 (by decide) hf (fun _ hf => ?_) (fun _ hf => ?_)
  · refine zv_iconst K (-1 : Int32) eX11_sheet_22 (by decide) ?_
    have e9 := Option.some.inj hf; subst e9
    exact zv_iret K eX11_sheet_23 hp
  · refine zv_iload_n K 2 eX11_sheet_7 rfl ?_
    refine zv_iconst K (0 : Int32) eX11_sheet_8 (by decide) ?_
    refine zv_iconst K (2 : Int32) eX11_sheet_9 (by decide) ?_
    obtain ⟨v4, h3, eh3, hf⟩ := z_b2_inv hf
    refine zv_cS0 K [tI x2, tI (0 : Int32), tI (2 : Int32)] [] eX11_sheet_10 lk_X11_65 md_X11_in st_X11_in rfl rfl (Nat.le_of_ble_eq_true rfl) (c_X11_in X.1.2.1 X.2.2.1 eh3) rfl rfl ⟨z_le (z_fr hX) (by decide), z_le (z_lo hX) (by decide)⟩ ⟨Nat.zero_le _, Nat.zero_le _⟩ ?_
    refine zv_if_eq K 22 eX11_sheet_13 (by decide) hf (fun _ hf => ?_) (fun _ hf => ?_)
    · refine zv_iconst K (-1 : Int32) eX11_sheet_22 (by decide) ?_
      have e9 := Option.some.inj hf; subst e9
      exact zv_iret K eX11_sheet_23 hp
    · refine zv_iload_n K 3 eX11_sheet_16 rfl ?_
      refine zv_bipush K (64 : Int32) eX11_sheet_17 (by decide) ?_
      refine zv_icmp_le K 24 eX11_sheet_19 (by decide) hf (fun _ hf => ?_) (fun _ hf => ?_)
      · refine zv_iload_n K 3 eX11_sheet_24 rfl ?_
        refine zv_if_ge K 31 eX11_sheet_25 (by decide) hf (fun _ hf => ?_) (fun _ hf => ?_)
        · refine zv_aload_n K 0 eX11_sheet_31 rfl ?_
          refine zv_gA K eX11_sheet_32 fl_X11_26 hf (fun v5 hf => ?_)
          refine zv_iload_n K 1 eX11_sheet_35 rfl ?_
          refine zv_iload_n K 2 eX11_sheet_36 rfl ?_
          refine zv_sI K eX11_sheet_37 hf (fun h6 hf => ?_)
          refine zv_aload_n K 0 eX11_sheet_38 rfl ?_
          refine zv_gA K eX11_sheet_39 fl_X11_29 hf (fun v7 hf => ?_)
          refine zv_iload_n K 1 eX11_sheet_42 rfl ?_
          refine zv_iload_n K 3 eX11_sheet_43 rfl ?_
          refine zv_sI K eX11_sheet_44 hf (fun h8 hf => ?_)
          refine zv_iconst K (0 : Int32) eX11_sheet_45 (by decide) ?_
          refine zv_istore K [(4, tI (0 : Int32)), (0, tA x0), (1, tI x1), (2, tI x2), (3, tI x3)] eX11_sheet_46 (z_lt hX.2 (by decide)) rfl ?_
          exact zv_sub [1, 2, 4, 0] rfl (v_X11_sheet_b48 K hX hf hp)
        · refine zv_bipush K (-14 : Int32) eX11_sheet_28 (by decide) ?_
          have e9 := Option.some.inj hf; subst e9
          exact zv_iret K eX11_sheet_30 hp
      · refine zv_iconst K (-1 : Int32) eX11_sheet_22 (by decide) ?_
        have e9 := Option.some.inj hf; subst e9
        exact zv_iret K eX11_sheet_23 hp
theorem c_X11_sheet (l : Launch) (G : zG) {x0 : Option Nat} {x1 : Int32} {x2 : Int32} {x3 : Int32} {h : zH} {nx : Nat} {x : Int32 × zH} (hf : f_X11_sheet x0 x1 x2 x3 h = some x) : z_Ct l G yX11_sheet cX11_sheet 5 (some .int) rm_X11_sheet [tA x0, tI x1, tI x2, tI x3] h nx (some (tI x.1)) x.2 nx 0 0 :=
  z_enter [(0, tA x0), (1, tI x1), (2, tI x2), (3, tI x3)] (by decide +kernel) (Nat.le_of_ble_eq_true rfl) rfl (fun X hl hR hG hL K hq => by
    subst hl; subst hG
    exact v_X11_sheet K ⟨hR, hL⟩ hf hq)
set_option maxHeartbeats 4000000 in
set_option maxRecDepth 100000 in
theorem v_X11_drop {X : zX} (K : z_Ok X cX11_drop (some .int) RX11 "drop") (hX : z_Xo X rm_X11_drop 2) {x0 : Option Nat} {x1 : Int32} {h : zH} {nx : Nat} {x : (Int32 × zH)} (hf : f_X11_drop x0 x1 h = some x) (hp : z_P0I X nx x) : zV X 0 [(0, tA x0), (1, tI x1)] [] h nx 0 0 := by
  unfold f_X11_drop at hf
  refine zv_iload_n K 1 eX11_drop_0 rfl ?_
  obtain ⟨v2, h1, eh1, hf⟩ := z_b2_inv hf
  refine zv_cS0 K [tI x1] [] eX11_drop_1 lk_X11_100 md_X11_isSheet st_X11_isSheet rfl rfl (Nat.le_of_ble_eq_true rfl) (c_X11_isSheet X.1.2.1 X.2.2.1 eh1) rfl rfl ⟨z_le (z_fr hX) (by decide), z_le (z_lo hX) (by decide)⟩ ⟨Nat.zero_le _, Nat.zero_le _⟩ ?_
  refine zv_if_ne K 9 eX11_drop_4 (by decide) hf (fun _ hf => ?_) (fun _ hf => ?_)
  · refine zv_aload_n K 0 eX11_drop_9 rfl ?_
    refine zv_gA K eX11_drop_10 fl_X11_26 hf (fun v3 hf => ?_)
    refine zv_iload_n K 1 eX11_drop_13 rfl ?_
    refine zv_aI K eX11_drop_14 hf (fun v4 hf => ?_)
    refine zv_if_ge K 21 eX11_drop_15 (by decide) hf (fun _ hf => ?_) (fun _ hf => ?_)
    · refine zv_aload_n K 0 eX11_drop_21 rfl ?_
      refine zv_gA K eX11_drop_22 fl_X11_26 hf (fun v5 hf => ?_)
      refine zv_iload_n K 1 eX11_drop_25 rfl ?_
      refine zv_bipush K (-4 : Int32) eX11_drop_26 (by decide) ?_
      refine zv_sI K eX11_drop_28 hf (fun h6 hf => ?_)
      refine zv_aload_n K 0 eX11_drop_29 rfl ?_
      refine zv_gA K eX11_drop_30 fl_X11_29 hf (fun v7 hf => ?_)
      refine zv_iload_n K 1 eX11_drop_33 rfl ?_
      refine zv_aI K eX11_drop_34 hf (fun v8 hf => ?_)
      have e9 := Option.some.inj hf; subst e9
      exact zv_iret K eX11_drop_35 hp
    · refine zv_bipush K (-11 : Int32) eX11_drop_18 (by decide) ?_
      have e9 := Option.some.inj hf; subst e9
      exact zv_iret K eX11_drop_20 hp
  · refine zv_iconst K (-1 : Int32) eX11_drop_7 (by decide) ?_
    have e9 := Option.some.inj hf; subst e9
    exact zv_iret K eX11_drop_8 hp
theorem c_X11_drop (l : Launch) (G : zG) {x0 : Option Nat} {x1 : Int32} {h : zH} {nx : Nat} {x : Int32 × zH} (hf : f_X11_drop x0 x1 h = some x) : z_Ct l G yX11_drop cX11_drop 2 (some .int) rm_X11_drop [tA x0, tI x1] h nx (some (tI x.1)) x.2 nx 0 0 :=
  z_enter [(0, tA x0), (1, tI x1)] (by decide +kernel) (Nat.le_of_ble_eq_true rfl) rfl (fun X hl hR hG hL K hq => by
    subst hl; subst hG
    exact v_X11_drop K ⟨hR, hL⟩ hf hq)
set_option maxHeartbeats 4000000 in
set_option maxRecDepth 100000 in
theorem v_X11_item {X : zX} (K : z_Ok X cX11_item (some .int) RX11 "item") (hX : z_Xo X rm_X11_item 5) {x0 : Option Nat} {x1 : Int32} {x2 : Int32} {x3 : Int32} {x4 : Int32} {h : zH} {nx : Nat} {x : (Int32 × zH)} (hf : f_X11_item x0 x1 x2 x3 x4 h = some x) (hp : z_P0I X nx x) : zV X 0 [(0, tA x0), (1, tI x1), (2, tI x2), (3, tI x3), (4, tI x4)] [] h nx 0 0 := by
  unfold f_X11_item at hf
  refine zv_iload_n K 1 eX11_item_0 rfl ?_
  obtain ⟨v2, h1, eh1, hf⟩ := z_b2_inv hf
  refine zv_cS0 K [tI x1] [] eX11_item_1 lk_X11_100 md_X11_isSheet st_X11_isSheet rfl rfl (Nat.le_of_ble_eq_true rfl) (c_X11_isSheet X.1.2.1 X.2.2.1 eh1) rfl rfl ⟨z_le (z_fr hX) (by decide), z_le (z_lo hX) (by decide)⟩ ⟨Nat.zero_le _, Nat.zero_le _⟩ ?_
  refine zv_if_eq K 16 eX11_item_4 (by decide) hf (fun _ hf => ?_) (fun _ hf => ?_)
  · refine zv_iconst K (-1 : Int32) eX11_item_16 (by decide) ?_
    have e9 := Option.some.inj hf; subst e9
    exact zv_iret K eX11_item_17 hp
  · refine zv_iload_n K 2 eX11_item_7 rfl ?_
    refine zv_iconst K (0 : Int32) eX11_item_8 (by decide) ?_
    refine zv_iconst K (2 : Int32) eX11_item_9 (by decide) ?_
    obtain ⟨v4, h3, eh3, hf⟩ := z_b2_inv hf
    refine zv_cS0 K [tI x2, tI (0 : Int32), tI (2 : Int32)] [] eX11_item_10 lk_X11_65 md_X11_in st_X11_in rfl rfl (Nat.le_of_ble_eq_true rfl) (c_X11_in X.1.2.1 X.2.2.1 eh3) rfl rfl ⟨z_le (z_fr hX) (by decide), z_le (z_lo hX) (by decide)⟩ ⟨Nat.zero_le _, Nat.zero_le _⟩ ?_
    refine zv_if_ne K 18 eX11_item_13 (by decide) hf (fun _ hf => ?_) (fun _ hf => ?_)
    · refine zv_aload_n K 0 eX11_item_18 rfl ?_
      refine zv_gA K eX11_item_19 fl_X11_26 hf (fun v5 hf => ?_)
      refine zv_iload_n K 1 eX11_item_22 rfl ?_
      refine zv_aI K eX11_item_23 hf (fun v6 hf => ?_)
      refine zv_if_ge K 30 eX11_item_24 (by decide) hf (fun _ hf => ?_) (fun _ hf => ?_)
      · refine zv_aload_n K 0 eX11_item_30 rfl ?_
        refine zv_gA K eX11_item_31 fl_X11_26 hf (fun v7 hf => ?_)
        refine zv_iload_n K 1 eX11_item_34 rfl ?_
        refine zv_aI K eX11_item_35 hf (fun v8 hf => ?_)
        refine zv_iload_n K 2 eX11_item_36 rfl ?_
        refine zv_icmp_eq K 43 eX11_item_37 (by decide) hf (fun _ hf => ?_) (fun _ hf => ?_)
        · refine zv_iload_n K 3 eX11_item_43 rfl ?_
          refine zv_iconst K (0 : Int32) eX11_item_44 (by decide) ?_
          refine zv_aload_n K 0 eX11_item_45 rfl ?_
          refine zv_gA K eX11_item_46 fl_X11_29 hf (fun v9 hf => ?_)
          refine zv_iload_n K 1 eX11_item_49 rfl ?_
          refine zv_aI K eX11_item_50 hf (fun v10 hf => ?_)
          refine zv_iconst K (1 : Int32) eX11_item_51 (by decide) ?_
          refine zv_isub K eX11_item_52 ?_
          obtain ⟨v12, h11, eh11, hf⟩ := z_b2_inv hf
          refine zv_cS0 K [tI x3, tI (0 : Int32), tI (v10 - (1 : Int32))] [] eX11_item_53 lk_X11_65 md_X11_in st_X11_in rfl rfl (Nat.le_of_ble_eq_true rfl) (c_X11_in X.1.2.1 X.2.2.1 eh11) rfl rfl ⟨z_le (z_fr hX) (by decide), z_le (z_lo hX) (by decide)⟩ ⟨Nat.zero_le _, Nat.zero_le _⟩ ?_
          refine zv_if_ne K 62 eX11_item_56 (by decide) hf (fun _ hf => ?_) (fun _ hf => ?_)
          · refine zv_aload_n K 0 eX11_item_62 rfl ?_
            refine zv_gA K eX11_item_63 fl_X11_32 hf (fun v13 hf => ?_)
            refine zv_bipush K (64 : Int32) eX11_item_66 (by decide) ?_
            refine zv_iload_n K 1 eX11_item_68 rfl ?_
            refine zv_imul K eX11_item_69 ?_
            refine zv_iload_n K 3 eX11_item_70 rfl ?_
            refine zv_iadd K eX11_item_71 ?_
            refine zv_iload_n K 2 eX11_item_72 rfl ?_
            refine zv_if_ne K 89 eX11_item_73 (by decide) hf (fun _ hf => ?_) (fun _ hf => ?_)
            · refine zv_iload_n K 2 eX11_item_89 rfl ?_
              refine zv_iconst K (1 : Int32) eX11_item_90 (by decide) ?_
              refine zv_icmp_ne K 100 eX11_item_91 (by decide) hf (fun _ hf => ?_) (fun _ hf => ?_)
              · refine zv_iload K 4 eX11_item_100 rfl ?_
                refine zv_sI K eX11_item_102 hf (fun h14 hf => ?_)
                refine zv_iconst K (1 : Int32) eX11_item_103 (by decide) ?_
                have e9 := Option.some.inj hf; subst e9
                exact zv_iret K eX11_item_104 hp
              · refine zv_iload K 4 eX11_item_94 rfl ?_
                refine zv_i2b K eX11_item_96 ?_
                refine zv_goto K 102 eX11_item_97 (by decide) ?_
                refine zv_sI K eX11_item_102 hf (fun h15 hf => ?_)
                refine zv_iconst K (1 : Int32) eX11_item_103 (by decide) ?_
                have e9 := Option.some.inj hf; subst e9
                exact zv_iret K eX11_item_104 hp
            · refine zv_iload K 4 eX11_item_76 rfl ?_
              refine zv_if_eq K 85 eX11_item_78 (by decide) hf (fun _ hf => ?_) (fun _ hf => ?_)
              · refine zv_iconst K (0 : Int32) eX11_item_85 (by decide) ?_
                refine zv_goto K 102 eX11_item_86 (by decide) ?_
                refine zv_sI K eX11_item_102 hf (fun h16 hf => ?_)
                refine zv_iconst K (1 : Int32) eX11_item_103 (by decide) ?_
                have e9 := Option.some.inj hf; subst e9
                exact zv_iret K eX11_item_104 hp
              · refine zv_iconst K (1 : Int32) eX11_item_81 (by decide) ?_
                refine zv_goto K 102 eX11_item_82 (by decide) ?_
                refine zv_sI K eX11_item_102 hf (fun h17 hf => ?_)
                refine zv_iconst K (1 : Int32) eX11_item_103 (by decide) ?_
                have e9 := Option.some.inj hf; subst e9
                exact zv_iret K eX11_item_104 hp
          · refine zv_bipush K (-13 : Int32) eX11_item_59 (by decide) ?_
            have e9 := Option.some.inj hf; subst e9
            exact zv_iret K eX11_item_61 hp
        · refine zv_bipush K (-12 : Int32) eX11_item_40 (by decide) ?_
          have e9 := Option.some.inj hf; subst e9
          exact zv_iret K eX11_item_42 hp
      · refine zv_bipush K (-11 : Int32) eX11_item_27 (by decide) ?_
        have e9 := Option.some.inj hf; subst e9
        exact zv_iret K eX11_item_29 hp
    · refine zv_iconst K (-1 : Int32) eX11_item_16 (by decide) ?_
      have e9 := Option.some.inj hf; subst e9
      exact zv_iret K eX11_item_17 hp
theorem c_X11_item (l : Launch) (G : zG) {x0 : Option Nat} {x1 : Int32} {x2 : Int32} {x3 : Int32} {x4 : Int32} {h : zH} {nx : Nat} {x : Int32 × zH} (hf : f_X11_item x0 x1 x2 x3 x4 h = some x) : z_Ct l G yX11_item cX11_item 5 (some .int) rm_X11_item [tA x0, tI x1, tI x2, tI x3, tI x4] h nx (some (tI x.1)) x.2 nx 0 0 :=
  z_enter [(0, tA x0), (1, tI x1), (2, tI x2), (3, tI x3), (4, tI x4)] (by decide +kernel) (Nat.le_of_ble_eq_true rfl) rfl (fun X hl hR hG hL K hq => by
    subst hl; subst hG
    exact v_X11_item K ⟨hR, hL⟩ hf hq)
def P_X11_copy_147 (X : zX) (nx : Nat) : ((Option Nat) × Int32 × Int32 × Int32 × Int32 × zH) ⊕ (Int32 × zH) → Prop := z_PL (fun s => zV X 147 [(0, tA s.1), (3, tI s.2.1), (4, tI s.2.2.1), (5, tI s.2.2.2.1), (6, tI s.2.2.2.2.1)] [] s.2.2.2.2.2 nx 0 0) (z_P0I X nx)
def P_X11_copy_110 (X : zX) (nx : Nat) : ((Option Nat) × Int32 × Int32 × Int32 × Int32 × Int32 × Int32 × zH) ⊕ (Int32 × zH) → Prop := z_PL (fun s => zV X 110 [(0, tA s.1), (1, tI s.2.1), (2, tI s.2.2.1), (3, tI s.2.2.2.1), (4, tI s.2.2.2.2.1), (5, tI s.2.2.2.2.2.1), (6, tI s.2.2.2.2.2.2.1)] [] s.2.2.2.2.2.2.2 nx 0 0) (z_P0I X nx)
set_option maxHeartbeats 4000000 in
set_option maxRecDepth 100000 in
theorem v_X11_copy_c147 {X : zX} (K : z_Ok X cX11_copy (some .int) RX11 "copy") (hX : z_Xo X rm_X11_copy 7) {x0 : Option Nat} {x3 : Int32} {x4 : Int32} {x5 : Int32} {x6 : Int32} {h : zH} {nx : Nat} {x : (((Option Nat) × Int32 × Int32 × Int32 × Int32 × zH) ⊕ (Int32 × zH))} (hf : f_X11_copy_c147 x0 x3 x4 x5 x6 h = some x) (hp : P_X11_copy_147 X nx x) : zV X 147 [(0, tA x0), (3, tI x3), (4, tI x4), (5, tI x5), (6, tI x6)] [] h nx 0 0 := by
  unfold f_X11_copy_c147 at hf
  refine zv_iload K 4 eX11_copy_147 rfl ?_
  refine zv_iload K 3 eX11_copy_149 rfl ?_
  refine zv_icmp_ge K 182 eX11_copy_151 (by decide) hf (fun _ hf => ?_) (fun _ hf => ?_)
  · obtain ⟨w9, hf9, e9⟩ := z_i1_inv hf; clear hf; subst e9; have hf := hf9; clear hf9
    refine zv_iload K 3 eX11_copy_182 rfl ?_
    have e9 := Option.some.inj hf; subst e9
    exact zv_iret K eX11_copy_184 hp
  · refine zv_aload_n K 0 eX11_copy_154 rfl ?_
    refine zv_gA K eX11_copy_155 fl_X11_32 hf (fun v1 hf => ?_)
    refine zv_bipush K (64 : Int32) eX11_copy_158 (by decide) ?_
    refine zv_iload_n K 1 eX11_copy_160 rfl ?_
    refine zv_imul K eX11_copy_161 ?_
    refine zv_iload K 2 eX11_copy_162 rfl ?_
    refine zv_iadd K eX11_copy_164 ?_
    refine zv_iload K 4 eX11_copy_165 rfl ?_
    refine zv_iadd K eX11_copy_167 ?_
    refine zv_aload_n K 0 eX11_copy_168 rfl ?_
    refine zv_gA K eX11_copy_169 fl_X11_62 hf (fun v2 hf => ?_)
    refine zv_iload K 4 eX11_copy_172 rfl ?_
    refine zv_aI K eX11_copy_174 hf (fun v3 hf => ?_)
    refine zv_sI K eX11_copy_175 hf (fun h4 hf => ?_)
    refine zv_iinc K (x6 + (1 : Int32)) 4 [(6, tI (x6 + (1 : Int32))), (0, tA x0), (3, tI x3), (4, tI x4), (5, tI x5)] eX11_copy_176 rfl rfl (z_lt hX.2 (by decide)) rfl ?_
    refine zv_goto K 147 eX11_copy_179 (by decide) ?_
    cases hf
    exact zv_sub [1, 2, 3, 4, 0] rfl (show zV X 147 [(0, tA x0), (3, tI x3), (4, tI x4), (5, tI x5), (6, tI (x6 + (1 : Int32)))] [] h4 nx 0 0 from hp)
theorem v_X11_copy_b147 {X : zX} (K : z_Ok X cX11_copy (some .int) RX11 "copy") (hX : z_Xo X rm_X11_copy 7) {x0 : Option Nat} {x3 : Int32} {x4 : Int32} {x5 : Int32} {x6 : Int32} {h : zH} {nx : Nat} {x : (Int32 × zH)} (hf : f_X11_copy_b147 x0 x3 x4 x5 x6 h = some x) (hp : z_P0I X nx x) : zV X 147 [(0, tA x0), (3, tI x3), (4, tI x4), (5, tI x5), (6, tI x6)] [] h nx 0 0 :=
  z_it_ind (P := fun s : (Option Nat) × Int32 × Int32 × Int32 × Int32 × zH => zV X 147 [(0, tA s.1), (3, tI s.2.1), (4, tI s.2.2.1), (5, tI s.2.2.2.1), (6, tI s.2.2.2.2.1)] [] s.2.2.2.2.2 nx 0 0) (fun s y hb hy => v_X11_copy_c147 K hX hb (z_PL_of hy hp)) hf
set_option maxHeartbeats 4000000 in
set_option maxRecDepth 100000 in
theorem v_X11_copy_c110 {X : zX} (K : z_Ok X cX11_copy (some .int) RX11 "copy") (hX : z_Xo X rm_X11_copy 7) {x0 : Option Nat} {x1 : Int32} {x2 : Int32} {x3 : Int32} {x4 : Int32} {x5 : Int32} {x6 : Int32} {h : zH} {nx : Nat} {x : (((Option Nat) × Int32 × Int32 × Int32 × Int32 × Int32 × Int32 × zH) ⊕ (Int32 × zH))} (hf : f_X11_copy_c110 x0 x1 x2 x3 x4 x5 x6 h = some x) (hp : P_X11_copy_110 X nx x) : zV X 110 [(0, tA x0), (1, tI x1), (2, tI x2), (3, tI x3), (4, tI x4), (5, tI x5), (6, tI x6)] [] h nx 0 0 := by
  unfold f_X11_copy_c110 at hf
  refine zv_iload K 6 eX11_copy_110 rfl ?_
  refine zv_iload K 5 eX11_copy_112 rfl ?_
  refine zv_icmp_ge K 144 eX11_copy_114 (by decide) hf (fun _ hf => ?_) (fun _ hf => ?_)
  · obtain ⟨w9, hf9, e9⟩ := z_i1_inv hf; clear hf; subst e9; have hf := hf9; clear hf9
    refine zv_iconst K (0 : Int32) eX11_copy_144 (by decide) ?_
    refine zv_istore K [(6, tI (0 : Int32)), (0, tA x0), (1, tI x1), (2, tI x2), (3, tI x3), (4, tI x4), (5, tI x5)] eX11_copy_145 (z_lt hX.2 (by decide)) rfl ?_
    exact zv_sub [1, 4, 5, 6, 0] rfl (v_X11_copy_b147 K hX hf hp)
  · refine zv_aload_n K 0 eX11_copy_117 rfl ?_
    refine zv_gA K eX11_copy_118 fl_X11_62 hf (fun v1 hf => ?_)
    refine zv_iload K 6 eX11_copy_121 rfl ?_
    refine zv_aload_n K 0 eX11_copy_123 rfl ?_
    refine zv_gA K eX11_copy_124 fl_X11_32 hf (fun v2 hf => ?_)
    refine zv_bipush K (64 : Int32) eX11_copy_127 (by decide) ?_
    refine zv_iload_n K 1 eX11_copy_129 rfl ?_
    refine zv_imul K eX11_copy_130 ?_
    refine zv_iload_n K 2 eX11_copy_131 rfl ?_
    refine zv_iadd K eX11_copy_132 ?_
    refine zv_iload K 6 eX11_copy_133 rfl ?_
    refine zv_iadd K eX11_copy_135 ?_
    refine zv_aI K eX11_copy_136 hf (fun v3 hf => ?_)
    refine zv_sI K eX11_copy_137 hf (fun h4 hf => ?_)
    refine zv_iinc K (x6 + (1 : Int32)) 6 [(6, tI (x6 + (1 : Int32))), (0, tA x0), (1, tI x1), (2, tI x2), (3, tI x3), (4, tI x4), (5, tI x5)] eX11_copy_138 rfl rfl (z_lt hX.2 (by decide)) rfl ?_
    refine zv_goto K 110 eX11_copy_141 (by decide) ?_
    cases hf
    exact zv_sub [1, 2, 3, 4, 5, 6, 0] rfl (show zV X 110 [(0, tA x0), (1, tI x1), (2, tI x2), (3, tI x3), (4, tI x4), (5, tI x5), (6, tI (x6 + (1 : Int32)))] [] h4 nx 0 0 from hp)
theorem v_X11_copy_b110 {X : zX} (K : z_Ok X cX11_copy (some .int) RX11 "copy") (hX : z_Xo X rm_X11_copy 7) {x0 : Option Nat} {x1 : Int32} {x2 : Int32} {x3 : Int32} {x4 : Int32} {x5 : Int32} {x6 : Int32} {h : zH} {nx : Nat} {x : (Int32 × zH)} (hf : f_X11_copy_b110 x0 x1 x2 x3 x4 x5 x6 h = some x) (hp : z_P0I X nx x) : zV X 110 [(0, tA x0), (1, tI x1), (2, tI x2), (3, tI x3), (4, tI x4), (5, tI x5), (6, tI x6)] [] h nx 0 0 :=
  z_it_ind (P := fun s : (Option Nat) × Int32 × Int32 × Int32 × Int32 × Int32 × Int32 × zH => zV X 110 [(0, tA s.1), (1, tI s.2.1), (2, tI s.2.2.1), (3, tI s.2.2.2.1), (4, tI s.2.2.2.2.1), (5, tI s.2.2.2.2.2.1), (6, tI s.2.2.2.2.2.2.1)] [] s.2.2.2.2.2.2.2 nx 0 0) (fun s y hb hy => v_X11_copy_c110 K hX hb (z_PL_of hy hp)) hf
set_option maxHeartbeats 4000000 in
set_option maxRecDepth 100000 in
theorem v_X11_copy {X : zX} (K : z_Ok X cX11_copy (some .int) RX11 "copy") (hX : z_Xo X rm_X11_copy 7) {x0 : Option Nat} {x1 : Int32} {x2 : Int32} {x3 : Int32} {x4 : Int32} {x5 : Int32} {h : zH} {nx : Nat} {x : (Int32 × zH)} (hf : f_X11_copy x0 x1 x2 x3 x4 x5 h = some x) (hp : z_P0I X nx x) : zV X 0 [(0, tA x0), (1, tI x1), (2, tI x2), (3, tI x3), (4, tI x4), (5, tI x5)] [] h nx 0 0 := by
  unfold f_X11_copy at hf
  refine zv_iload_n K 1 eX11_copy_0 rfl ?_
  obtain ⟨v2, h1, eh1, hf⟩ := z_b2_inv hf
  refine zv_cS0 K [tI x1] [] eX11_copy_1 lk_X11_100 md_X11_isSheet st_X11_isSheet rfl rfl (Nat.le_of_ble_eq_true rfl) (c_X11_isSheet X.1.2.1 X.2.2.1 eh1) rfl rfl ⟨z_le (z_fr hX) (by decide), z_le (z_lo hX) (by decide)⟩ ⟨Nat.zero_le _, Nat.zero_le _⟩ ?_
  refine zv_if_eq K 14 eX11_copy_4 (by decide) hf (fun _ hf => ?_) (fun _ hf => ?_)
  · refine zv_iconst K (-1 : Int32) eX11_copy_14 (by decide) ?_
    have e9 := Option.some.inj hf; subst e9
    exact zv_iret K eX11_copy_15 hp
  · refine zv_iload_n K 3 eX11_copy_7 rfl ?_
    obtain ⟨v4, h3, eh3, hf⟩ := z_b2_inv hf
    refine zv_cS0 K [tI x3] [] eX11_copy_8 lk_X11_100 md_X11_isSheet st_X11_isSheet rfl rfl (Nat.le_of_ble_eq_true rfl) (c_X11_isSheet X.1.2.1 X.2.2.1 eh3) rfl rfl ⟨z_le (z_fr hX) (by decide), z_le (z_lo hX) (by decide)⟩ ⟨Nat.zero_le _, Nat.zero_le _⟩ ?_
    refine zv_if_ne K 16 eX11_copy_11 (by decide) hf (fun _ hf => ?_) (fun _ hf => ?_)
    · refine zv_aload_n K 0 eX11_copy_16 rfl ?_
      refine zv_gA K eX11_copy_17 fl_X11_26 hf (fun v5 hf => ?_)
      refine zv_iload_n K 1 eX11_copy_20 rfl ?_
      refine zv_aI K eX11_copy_21 hf (fun v6 hf => ?_)
      refine zv_if_lt K 34 eX11_copy_22 (by decide) hf (fun _ hf => ?_) (fun _ hf => ?_)
      · refine zv_bipush K (-11 : Int32) eX11_copy_34 (by decide) ?_
        have e9 := Option.some.inj hf; subst e9
        exact zv_iret K eX11_copy_36 hp
      · refine zv_aload_n K 0 eX11_copy_25 rfl ?_
        refine zv_gA K eX11_copy_26 fl_X11_26 hf (fun v7 hf => ?_)
        refine zv_iload_n K 3 eX11_copy_29 rfl ?_
        refine zv_aI K eX11_copy_30 hf (fun v8 hf => ?_)
        refine zv_if_ge K 37 eX11_copy_31 (by decide) hf (fun _ hf => ?_) (fun _ hf => ?_)
        · refine zv_aload_n K 0 eX11_copy_37 rfl ?_
          refine zv_gA K eX11_copy_38 fl_X11_26 hf (fun v9 hf => ?_)
          refine zv_iload_n K 1 eX11_copy_41 rfl ?_
          refine zv_aI K eX11_copy_42 hf (fun v10 hf => ?_)
          refine zv_aload_n K 0 eX11_copy_43 rfl ?_
          refine zv_gA K eX11_copy_44 fl_X11_26 hf (fun v11 hf => ?_)
          refine zv_iload_n K 3 eX11_copy_47 rfl ?_
          refine zv_aI K eX11_copy_48 hf (fun v12 hf => ?_)
          refine zv_icmp_eq K 55 eX11_copy_49 (by decide) hf (fun _ hf => ?_) (fun _ hf => ?_)
          · refine zv_iload_n K 2 eX11_copy_55 rfl ?_
            refine zv_if_lt K 104 eX11_copy_56 (by decide) hf (fun _ hf => ?_) (fun _ hf => ?_)
            · refine zv_bipush K (-13 : Int32) eX11_copy_104 (by decide) ?_
              have e9 := Option.some.inj hf; subst e9
              exact zv_iret K eX11_copy_106 hp
            · refine zv_iload K 4 eX11_copy_59 rfl ?_
              refine zv_if_lt K 104 eX11_copy_61 (by decide) hf (fun _ hf => ?_) (fun _ hf => ?_)
              · refine zv_bipush K (-13 : Int32) eX11_copy_104 (by decide) ?_
                have e9 := Option.some.inj hf; subst e9
                exact zv_iret K eX11_copy_106 hp
              · refine zv_iload K 5 eX11_copy_64 rfl ?_
                refine zv_if_lt K 104 eX11_copy_66 (by decide) hf (fun _ hf => ?_) (fun _ hf => ?_)
                · refine zv_bipush K (-13 : Int32) eX11_copy_104 (by decide) ?_
                  have e9 := Option.some.inj hf; subst e9
                  exact zv_iret K eX11_copy_106 hp
                · refine zv_iload_n K 2 eX11_copy_69 rfl ?_
                  refine zv_i2l K eX11_copy_70 ?_
                  refine zv_iload K 5 eX11_copy_71 rfl ?_
                  refine zv_i2l K eX11_copy_73 ?_
                  refine zv_ladd K eX11_copy_74 ?_
                  refine zv_aload_n K 0 eX11_copy_75 rfl ?_
                  refine zv_gA K eX11_copy_76 fl_X11_29 hf (fun v13 hf => ?_)
                  refine zv_iload_n K 1 eX11_copy_79 rfl ?_
                  refine zv_aI K eX11_copy_80 hf (fun v14 hf => ?_)
                  refine zv_i2l K eX11_copy_81 ?_
                  refine zv_lcmp K eX11_copy_82 ?_
                  refine zv_if_gt K 104 eX11_copy_83 (by decide) hf (fun _ hf => ?_) (fun _ hf => ?_)
                  · refine zv_bipush K (-13 : Int32) eX11_copy_104 (by decide) ?_
                    have e9 := Option.some.inj hf; subst e9
                    exact zv_iret K eX11_copy_106 hp
                  · refine zv_iload K 4 eX11_copy_86 rfl ?_
                    refine zv_i2l K eX11_copy_88 ?_
                    refine zv_iload K 5 eX11_copy_89 rfl ?_
                    refine zv_i2l K eX11_copy_91 ?_
                    refine zv_ladd K eX11_copy_92 ?_
                    refine zv_aload_n K 0 eX11_copy_93 rfl ?_
                    refine zv_gA K eX11_copy_94 fl_X11_29 hf (fun v15 hf => ?_)
                    refine zv_iload_n K 3 eX11_copy_97 rfl ?_
                    refine zv_aI K eX11_copy_98 hf (fun v16 hf => ?_)
                    refine zv_i2l K eX11_copy_99 ?_
                    refine zv_lcmp K eX11_copy_100 ?_
                    refine zv_if_le K 107 eX11_copy_101 (by decide) hf (fun _ hf => ?_) (fun _ hf => ?_)
                    · refine zv_iconst K (0 : Int32) eX11_copy_107 (by decide) ?_
                      refine zv_istore K [(6, tI (0 : Int32)), (0, tA x0), (1, tI x1), (2, tI x2), (3, tI x3), (4, tI x4), (5, tI x5)] eX11_copy_108 (z_lt hX.2 (by decide)) rfl ?_
                      exact zv_sub [1, 2, 3, 4, 5, 6, 0] rfl (v_X11_copy_b110 K hX hf hp)
                    · refine zv_bipush K (-13 : Int32) eX11_copy_104 (by decide) ?_
                      have e9 := Option.some.inj hf; subst e9
                      exact zv_iret K eX11_copy_106 hp
          · refine zv_bipush K (-12 : Int32) eX11_copy_52 (by decide) ?_
            have e9 := Option.some.inj hf; subst e9
            exact zv_iret K eX11_copy_54 hp
        · refine zv_bipush K (-11 : Int32) eX11_copy_34 (by decide) ?_
          have e9 := Option.some.inj hf; subst e9
          exact zv_iret K eX11_copy_36 hp
    · refine zv_iconst K (-1 : Int32) eX11_copy_14 (by decide) ?_
      have e9 := Option.some.inj hf; subst e9
      exact zv_iret K eX11_copy_15 hp
theorem c_X11_copy (l : Launch) (G : zG) {x0 : Option Nat} {x1 : Int32} {x2 : Int32} {x3 : Int32} {x4 : Int32} {x5 : Int32} {h : zH} {nx : Nat} {x : Int32 × zH} (hf : f_X11_copy x0 x1 x2 x3 x4 x5 h = some x) : z_Ct l G yX11_copy cX11_copy 7 (some .int) rm_X11_copy [tA x0, tI x1, tI x2, tI x3, tI x4, tI x5] h nx (some (tI x.1)) x.2 nx 0 0 :=
  z_enter [(0, tA x0), (1, tI x1), (2, tI x2), (3, tI x3), (4, tI x4), (5, tI x5)] (by decide +kernel) (Nat.le_of_ble_eq_true rfl) rfl (fun X hl hR hG hL K hq => by
    subst hl; subst hG
    exact v_X11_copy K ⟨hR, hL⟩ hf hq)
