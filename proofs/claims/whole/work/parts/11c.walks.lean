set_option maxHeartbeats 4000000 in
set_option maxRecDepth 100000 in
theorem v_X11_thingAt {X : zX} (K : z_Ok X cX11_thingAt (some .int) RX11 "thingAt") (hX : z_Xo X rm_X11_thingAt 1) {x0 : Int32} {h : zH} {nx : Nat} {x : (Int32 × zH)} (hf : f_X11_thingAt x0 h = some x) (hp : z_P0I X nx x) : zV X 0 [(0, tI x0)] [] h nx 0 0 := by
  unfold f_X11_thingAt at hf
  refine zv_sipush K (490 : Int32) eX11_thingAt_0 (by decide) ?_
  refine zv_iconst K (4 : Int32) eX11_thingAt_3 (by decide) ?_
  refine zv_iload_n K 0 eX11_thingAt_4 rfl ?_
  refine zv_imul K eX11_thingAt_5 ?_
  refine zv_iadd K eX11_thingAt_6 ?_
  have e9 := Option.some.inj hf; subst e9
  exact zv_iret K eX11_thingAt_7 hp
theorem c_X11_thingAt (l : Launch) (G : zG) {x0 : Int32} {h : zH} {nx : Nat} {x : Int32 × zH} (hf : f_X11_thingAt x0 h = some x) : z_Ct l G yX11_thingAt cX11_thingAt 1 (some .int) rm_X11_thingAt [tI x0] h nx (some (tI x.1)) x.2 nx 0 0 :=
  z_enter [(0, tI x0)] (by decide +kernel) (Nat.le_of_ble_eq_true rfl) rfl (fun X hl hR hG hL K hq => by
    subst hl; subst hG
    exact v_X11_thingAt K ⟨hR, hL⟩ hf hq)
set_option maxHeartbeats 4000000 in
set_option maxRecDepth 100000 in
theorem v_X11_isArm {X : zX} (K : z_Ok X cX11_isArm (some .boolean) RX11 "isArm") (hX : z_Xo X rm_X11_isArm 2) {x0 : Option Nat} {x1 : Int32} {h : zH} {nx : Nat} {x : (Int32 × zH)} (hf : f_X11_isArm x0 x1 h = some x) (hp : z_P0I X nx x) : zV X 0 [(0, tA x0), (1, tI x1)] [] h nx 0 0 := by
  unfold f_X11_isArm at hf
  refine zv_iload_n K 1 eX11_isArm_0 rfl ?_
  refine zv_iconst K (0 : Int32) eX11_isArm_1 (by decide) ?_
  refine zv_aload_n K 0 eX11_isArm_2 rfl ?_
  refine zv_gA K eX11_isArm_3 fl_X11_7 hf (fun v1 hf => ?_)
  refine zv_bipush K (64 : Int32) eX11_isArm_6 (by decide) ?_
  refine zv_aI K eX11_isArm_8 hf (fun v2 hf => ?_)
  refine zv_iconst K (1 : Int32) eX11_isArm_9 (by decide) ?_
  refine zv_isub K eX11_isArm_10 ?_
  obtain ⟨v4, h3, eh3, hf⟩ := z_b2_inv hf
  refine zv_cS0 K [tI x1, tI (0 : Int32), tI (v2 - (1 : Int32))] [] eX11_isArm_11 lk_X11_65 md_X11_in st_X11_in rfl rfl (Nat.le_of_ble_eq_true rfl) (c_X11_in X.1.2.1 X.2.2.1 eh3) rfl rfl ⟨z_le (z_fr hX) (by decide), z_le (z_lo hX) (by decide)⟩ ⟨Nat.zero_le _, Nat.zero_le _⟩ ?_
  refine z_ite_inv _ hf (fun hv hf => ?_) (fun _ hf => ?_)
  · cases hf
    exact zv_zret K eX11_isArm_14 hv hp
  · cases hf
theorem c_X11_isArm (l : Launch) (G : zG) {x0 : Option Nat} {x1 : Int32} {h : zH} {nx : Nat} {x : Int32 × zH} (hf : f_X11_isArm x0 x1 h = some x) : z_Ct l G yX11_isArm cX11_isArm 2 (some .boolean) rm_X11_isArm [tA x0, tI x1] h nx (some (tI x.1)) x.2 nx 0 0 :=
  z_enter [(0, tA x0), (1, tI x1)] (by decide +kernel) (Nat.le_of_ble_eq_true rfl) rfl (fun X hl hR hG hL K hq => by
    subst hl; subst hG
    exact v_X11_isArm K ⟨hR, hL⟩ hf hq)
set_option maxHeartbeats 4000000 in
set_option maxRecDepth 100000 in
theorem v_X11_isThing {X : zX} (K : z_Ok X cX11_isThing (some .boolean) RX11 "isThing") (hX : z_Xo X rm_X11_isThing 2) {x0 : Option Nat} {x1 : Int32} {h : zH} {nx : Nat} {x : (Int32 × zH)} (hf : f_X11_isThing x0 x1 h = some x) (hp : z_P0I X nx x) : zV X 0 [(0, tA x0), (1, tI x1)] [] h nx 0 0 := by
  unfold f_X11_isThing at hf
  refine zv_iload_n K 1 eX11_isThing_0 rfl ?_
  refine zv_iconst K (0 : Int32) eX11_isThing_1 (by decide) ?_
  refine zv_aload_n K 0 eX11_isThing_2 rfl ?_
  refine zv_gA K eX11_isThing_3 fl_X11_7 hf (fun v1 hf => ?_)
  refine zv_bipush K (65 : Int32) eX11_isThing_6 (by decide) ?_
  refine zv_aI K eX11_isThing_8 hf (fun v2 hf => ?_)
  refine zv_iconst K (1 : Int32) eX11_isThing_9 (by decide) ?_
  refine zv_isub K eX11_isThing_10 ?_
  obtain ⟨v4, h3, eh3, hf⟩ := z_b2_inv hf
  refine zv_cS0 K [tI x1, tI (0 : Int32), tI (v2 - (1 : Int32))] [] eX11_isThing_11 lk_X11_65 md_X11_in st_X11_in rfl rfl (Nat.le_of_ble_eq_true rfl) (c_X11_in X.1.2.1 X.2.2.1 eh3) rfl rfl ⟨z_le (z_fr hX) (by decide), z_le (z_lo hX) (by decide)⟩ ⟨Nat.zero_le _, Nat.zero_le _⟩ ?_
  refine z_ite_inv _ hf (fun hv hf => ?_) (fun _ hf => ?_)
  · cases hf
    exact zv_zret K eX11_isThing_14 hv hp
  · cases hf
theorem c_X11_isThing (l : Launch) (G : zG) {x0 : Option Nat} {x1 : Int32} {h : zH} {nx : Nat} {x : Int32 × zH} (hf : f_X11_isThing x0 x1 h = some x) : z_Ct l G yX11_isThing cX11_isThing 2 (some .boolean) rm_X11_isThing [tA x0, tI x1] h nx (some (tI x.1)) x.2 nx 0 0 :=
  z_enter [(0, tA x0), (1, tI x1)] (by decide +kernel) (Nat.le_of_ble_eq_true rfl) rfl (fun X hl hR hG hL K hq => by
    subst hl; subst hG
    exact v_X11_isThing K ⟨hR, hL⟩ hf hq)
set_option maxHeartbeats 4000000 in
set_option maxRecDepth 100000 in
theorem v_X11_pieces {X : zX} (K : z_Ok X cX11_pieces (some .int) RX11 "pieces") (hX : z_Xo X rm_X11_pieces 2) {x0 : Option Nat} {x1 : Int32} {h : zH} {nx : Nat} {x : (Int32 × zH)} (hf : f_X11_pieces x0 x1 h = some x) (hp : z_P0I X nx x) : zV X 0 [(0, tA x0), (1, tI x1)] [] h nx 0 0 := by
  unfold f_X11_pieces at hf
  refine zv_aload_n K 0 eX11_pieces_0 rfl ?_
  refine zv_gA K eX11_pieces_1 fl_X11_7 hf (fun v1 hf => ?_)
  refine zv_iload_n K 1 eX11_pieces_4 rfl ?_
  refine zv_iconst K (0 : Int32) eX11_pieces_5 (by decide) ?_
  obtain ⟨v3, h2, eh2, hf⟩ := z_b2_inv hf
  refine zv_cS0 K [tI x1, tI (0 : Int32)] [tA v1] eX11_pieces_6 lk_X11_69 md_X11_of st_X11_of rfl rfl (Nat.le_of_ble_eq_true rfl) (c_X11_of X.1.2.1 X.2.2.1 eh2) rfl rfl ⟨z_le (z_fr hX) (by decide), z_le (z_lo hX) (by decide)⟩ ⟨Nat.zero_le _, Nat.zero_le _⟩ ?_
  refine zv_aI K eX11_pieces_9 hf (fun v4 hf => ?_)
  have e9 := Option.some.inj hf; subst e9
  exact zv_iret K eX11_pieces_10 hp
theorem c_X11_pieces (l : Launch) (G : zG) {x0 : Option Nat} {x1 : Int32} {h : zH} {nx : Nat} {x : Int32 × zH} (hf : f_X11_pieces x0 x1 h = some x) : z_Ct l G yX11_pieces cX11_pieces 2 (some .int) rm_X11_pieces [tA x0, tI x1] h nx (some (tI x.1)) x.2 nx 0 0 :=
  z_enter [(0, tA x0), (1, tI x1)] (by decide +kernel) (Nat.le_of_ble_eq_true rfl) rfl (fun X hl hR hG hL K hq => by
    subst hl; subst hG
    exact v_X11_pieces K ⟨hR, hL⟩ hf hq)
set_option maxHeartbeats 4000000 in
set_option maxRecDepth 100000 in
theorem v_X11_isPiece {X : zX} (K : z_Ok X cX11_isPiece (some .boolean) RX11 "isPiece") (hX : z_Xo X rm_X11_isPiece 3) {x0 : Option Nat} {x1 : Int32} {x2 : Int32} {h : zH} {nx : Nat} {x : (Int32 × zH)} (hf : f_X11_isPiece x0 x1 x2 h = some x) (hp : z_P0I X nx x) : zV X 0 [(0, tA x0), (1, tI x1), (2, tI x2)] [] h nx 0 0 := by
  unfold f_X11_isPiece at hf
  refine zv_aload_n K 0 eX11_isPiece_0 rfl ?_
  refine zv_iload_n K 1 eX11_isPiece_1 rfl ?_
  obtain ⟨q1, hq1, hf⟩ := z_bind_inv hf
  obtain ⟨v3, h2, eh2, hf⟩ := z_b2_inv hf
  refine zv_cV0 K [tI x1] [] eX11_isPiece_2 lk_X11_73 md_X11_isArm im_X11_isArm sl_X11_isArm rfl rfl rfl rfl (Nat.le_of_ble_eq_true rfl) hq1 (c_X11_isArm X.1.2.1 X.2.2.1 eh2) rfl rfl ⟨z_le (z_fr hX) (by decide), z_le (z_lo hX) (by decide)⟩ ⟨Nat.zero_le _, Nat.zero_le _⟩ ?_
  refine zv_if_eq K 27 eX11_isPiece_5 (by decide) hf (fun _ hf => ?_) (fun _ hf => ?_)
  · refine zv_iconst K (0 : Int32) eX11_isPiece_27 (by decide) ?_
    cases hf
    exact zv_zret K eX11_isPiece_28 (by decide) hp
  · refine zv_iload_n K 2 eX11_isPiece_8 rfl ?_
    refine zv_iconst K (0 : Int32) eX11_isPiece_9 (by decide) ?_
    refine zv_aload_n K 0 eX11_isPiece_10 rfl ?_
    refine zv_iload_n K 1 eX11_isPiece_11 rfl ?_
    obtain ⟨q4, hq4, hf⟩ := z_bind_inv hf
    obtain ⟨v6, h5, eh5, hf⟩ := z_b2_inv hf
    refine zv_cV0 K [tI x1] [tI (0 : Int32), tI x2] eX11_isPiece_12 lk_X11_77 md_X11_pieces im_X11_pieces sl_X11_pieces rfl rfl rfl rfl (Nat.le_of_ble_eq_true rfl) hq4 (c_X11_pieces X.1.2.1 X.2.2.1 eh5) rfl rfl ⟨z_le (z_fr hX) (by decide), z_le (z_lo hX) (by decide)⟩ ⟨Nat.zero_le _, Nat.zero_le _⟩ ?_
    refine zv_iconst K (1 : Int32) eX11_isPiece_15 (by decide) ?_
    refine zv_isub K eX11_isPiece_16 ?_
    obtain ⟨v8, h7, eh7, hf⟩ := z_b2_inv hf
    refine zv_cS0 K [tI x2, tI (0 : Int32), tI (v6 - (1 : Int32))] [] eX11_isPiece_17 lk_X11_65 md_X11_in st_X11_in rfl rfl (Nat.le_of_ble_eq_true rfl) (c_X11_in X.1.2.1 X.2.2.1 eh7) rfl rfl ⟨z_le (z_fr hX) (by decide), z_le (z_lo hX) (by decide)⟩ ⟨Nat.zero_le _, Nat.zero_le _⟩ ?_
    refine zv_if_eq K 27 eX11_isPiece_20 (by decide) hf (fun _ hf => ?_) (fun _ hf => ?_)
    · refine zv_iconst K (0 : Int32) eX11_isPiece_27 (by decide) ?_
      cases hf
      exact zv_zret K eX11_isPiece_28 (by decide) hp
    · refine zv_iconst K (1 : Int32) eX11_isPiece_23 (by decide) ?_
      refine zv_goto K 28 eX11_isPiece_24 (by decide) ?_
      cases hf
      exact zv_zret K eX11_isPiece_28 (by decide) hp
theorem c_X11_isPiece (l : Launch) (G : zG) {x0 : Option Nat} {x1 : Int32} {x2 : Int32} {h : zH} {nx : Nat} {x : Int32 × zH} (hf : f_X11_isPiece x0 x1 x2 h = some x) : z_Ct l G yX11_isPiece cX11_isPiece 3 (some .boolean) rm_X11_isPiece [tA x0, tI x1, tI x2] h nx (some (tI x.1)) x.2 nx 0 0 :=
  z_enter [(0, tA x0), (1, tI x1), (2, tI x2)] (by decide +kernel) (Nat.le_of_ble_eq_true rfl) rfl (fun X hl hR hG hL K hq => by
    subst hl; subst hG
    exact v_X11_isPiece K ⟨hR, hL⟩ hf hq)
set_option maxHeartbeats 4000000 in
set_option maxRecDepth 100000 in
theorem v_X11_cell {X : zX} (K : z_Ok X cX11_cell (some .int) RX11 "cell") (hX : z_Xo X rm_X11_cell 3) {x0 : Option Nat} {x1 : Int32} {x2 : Int32} {h : zH} {nx : Nat} {x : (Int32 × zH)} (hf : f_X11_cell x0 x1 x2 h = some x) (hp : z_P0I X nx x) : zV X 0 [(0, tA x0), (1, tI x1), (2, tI x2)] [] h nx 0 0 := by
  unfold f_X11_cell at hf
  refine zv_aload_n K 0 eX11_cell_0 rfl ?_
  refine zv_gA K eX11_cell_1 fl_X11_7 hf (fun v1 hf => ?_)
  refine zv_iload_n K 1 eX11_cell_4 rfl ?_
  refine zv_iconst K (5 : Int32) eX11_cell_5 (by decide) ?_
  obtain ⟨v3, h2, eh2, hf⟩ := z_b2_inv hf
  refine zv_cS0 K [tI x1, tI (5 : Int32)] [tA v1] eX11_cell_6 lk_X11_69 md_X11_of st_X11_of rfl rfl (Nat.le_of_ble_eq_true rfl) (c_X11_of X.1.2.1 X.2.2.1 eh2) rfl rfl ⟨z_le (z_fr hX) (by decide), z_le (z_lo hX) (by decide)⟩ ⟨Nat.zero_le _, Nat.zero_le _⟩ ?_
  refine zv_iload_n K 2 eX11_cell_9 rfl ?_
  refine zv_iadd K eX11_cell_10 ?_
  refine zv_aI K eX11_cell_11 hf (fun v4 hf => ?_)
  have e9 := Option.some.inj hf; subst e9
  exact zv_iret K eX11_cell_12 hp
theorem c_X11_cell (l : Launch) (G : zG) {x0 : Option Nat} {x1 : Int32} {x2 : Int32} {h : zH} {nx : Nat} {x : Int32 × zH} (hf : f_X11_cell x0 x1 x2 h = some x) : z_Ct l G yX11_cell cX11_cell 3 (some .int) rm_X11_cell [tA x0, tI x1, tI x2] h nx (some (tI x.1)) x.2 nx 0 0 :=
  z_enter [(0, tA x0), (1, tI x1), (2, tI x2)] (by decide +kernel) (Nat.le_of_ble_eq_true rfl) rfl (fun X hl hR hG hL K hq => by
    subst hl; subst hG
    exact v_X11_cell K ⟨hR, hL⟩ hf hq)
def P_X11_hasPiece_2 (X : zX) (nx : Nat) : ((Option Nat) × Int32 × Int32 × zH) ⊕ (Int32 × zH) → Prop := z_PL (fun s => zV X 2 [(0, tA s.1), (1, tI s.2.1), (2, tI s.2.2.1)] [] s.2.2.2 nx 0 0) (z_P0I X nx)
def P_X11_hasPiece_15 (X : zX) (nx : Nat) : ((Option Nat) × Int32 × Int32 × Int32 × zH) ⊕ (((Option Nat) × Int32 × Int32 × zH) ⊕ (Int32 × zH)) → Prop := z_PL (fun s => zV X 15 [(0, tA s.1), (1, tI s.2.1), (2, tI s.2.2.1), (3, tI s.2.2.2.1)] [] s.2.2.2.2 nx 0 0) (P_X11_hasPiece_2 X nx)
set_option maxHeartbeats 4000000 in
set_option maxRecDepth 100000 in
theorem v_X11_hasPiece_c15 {X : zX} (K : z_Ok X cX11_hasPiece (some .boolean) RX11 "hasPiece") (hX : z_Xo X rm_X11_hasPiece 4) {x0 : Option Nat} {x1 : Int32} {x2 : Int32} {x3 : Int32} {h : zH} {nx : Nat} {x : (((Option Nat) × Int32 × Int32 × Int32 × zH) ⊕ (((Option Nat) × Int32 × Int32 × zH) ⊕ (Int32 × zH)))} (hf : f_X11_hasPiece_c15 x0 x1 x2 x3 h = some x) (hp : P_X11_hasPiece_15 X nx x) : zV X 15 [(0, tA x0), (1, tI x1), (2, tI x2), (3, tI x3)] [] h nx 0 0 := by
  unfold f_X11_hasPiece_c15 at hf
  refine zv_iload_n K 3 eX11_hasPiece_15 rfl ?_
  refine zv_aload_n K 0 eX11_hasPiece_16 rfl ?_
  refine zv_iload_n K 2 eX11_hasPiece_17 rfl ?_
  obtain ⟨q1, hq1, hf⟩ := z_bind_inv hf
  obtain ⟨v3, h2, eh2, hf⟩ := z_b2_inv hf
  refine zv_cV0 K [tI x2] [tI x3] eX11_hasPiece_18 lk_X11_77 md_X11_pieces im_X11_pieces sl_X11_pieces rfl rfl rfl rfl (Nat.le_of_ble_eq_true rfl) hq1 (c_X11_pieces X.1.2.1 X.2.2.1 eh2) rfl rfl ⟨z_le (z_fr hX) (by decide), z_le (z_lo hX) (by decide)⟩ ⟨Nat.zero_le _, Nat.zero_le _⟩ ?_
  refine zv_icmp_ge K 42 eX11_hasPiece_21 (by decide) hf (fun _ hf => ?_) (fun _ hf => ?_)
  · obtain ⟨w9, hf9, e9⟩ := z_i1_inv hf; clear hf; subst e9; have hf := hf9; clear hf9
    refine zv_iinc K (x2 + (1 : Int32)) 2 [(2, tI (x2 + (1 : Int32))), (0, tA x0), (1, tI x1), (3, tI x3)] eX11_hasPiece_42 rfl rfl (z_lt hX.2 (by decide)) rfl ?_
    refine zv_goto K 2 eX11_hasPiece_45 (by decide) ?_
    cases hf
    exact zv_sub [1, 2, 0] rfl (show zV X 2 [(0, tA x0), (1, tI x1), (2, tI (x2 + (1 : Int32)))] [] h2 nx 0 0 from hp)
  · refine zv_aload_n K 0 eX11_hasPiece_24 rfl ?_
    refine zv_iload_n K 2 eX11_hasPiece_25 rfl ?_
    refine zv_iload_n K 3 eX11_hasPiece_26 rfl ?_
    obtain ⟨q4, hq4, hf⟩ := z_bind_inv hf
    obtain ⟨v6, h5, eh5, hf⟩ := z_b2_inv hf
    refine zv_cV0 K [tI x2, tI x3] [] eX11_hasPiece_27 lk_X11_81 md_X11_cell im_X11_cell sl_X11_cell rfl rfl rfl rfl (Nat.le_of_ble_eq_true rfl) hq4 (c_X11_cell X.1.2.1 X.2.2.1 eh5) rfl rfl ⟨z_le (z_fr hX) (by decide), z_le (z_lo hX) (by decide)⟩ ⟨Nat.zero_le _, Nat.zero_le _⟩ ?_
    refine zv_iload_n K 1 eX11_hasPiece_30 rfl ?_
    refine zv_icmp_ne K 36 eX11_hasPiece_31 (by decide) hf (fun _ hf => ?_) (fun _ hf => ?_)
    · refine zv_iinc K (x3 + (1 : Int32)) 3 [(3, tI (x3 + (1 : Int32))), (0, tA x0), (1, tI x1), (2, tI x2)] eX11_hasPiece_36 rfl rfl (z_lt hX.2 (by decide)) rfl ?_
      refine zv_goto K 15 eX11_hasPiece_39 (by decide) ?_
      cases hf
      exact zv_sub [1, 2, 3, 0] rfl (show zV X 15 [(0, tA x0), (1, tI x1), (2, tI x2), (3, tI (x3 + (1 : Int32)))] [] h5 nx 0 0 from hp)
    · obtain ⟨w9, hf9, e9⟩ := z_i1_inv hf; clear hf; subst e9; have hf := hf9; clear hf9
      obtain ⟨w9, hf9, e9⟩ := z_i1_inv hf; clear hf; subst e9; have hf := hf9; clear hf9
      refine zv_iconst K (1 : Int32) eX11_hasPiece_34 (by decide) ?_
      cases hf
      exact zv_zret K eX11_hasPiece_35 (by decide) hp
theorem v_X11_hasPiece_b15 {X : zX} (K : z_Ok X cX11_hasPiece (some .boolean) RX11 "hasPiece") (hX : z_Xo X rm_X11_hasPiece 4) {x0 : Option Nat} {x1 : Int32} {x2 : Int32} {x3 : Int32} {h : zH} {nx : Nat} {x : (((Option Nat) × Int32 × Int32 × zH) ⊕ (Int32 × zH))} (hf : f_X11_hasPiece_b15 x0 x1 x2 x3 h = some x) (hp : P_X11_hasPiece_2 X nx x) : zV X 15 [(0, tA x0), (1, tI x1), (2, tI x2), (3, tI x3)] [] h nx 0 0 :=
  z_it_ind (P := fun s : (Option Nat) × Int32 × Int32 × Int32 × zH => zV X 15 [(0, tA s.1), (1, tI s.2.1), (2, tI s.2.2.1), (3, tI s.2.2.2.1)] [] s.2.2.2.2 nx 0 0) (fun s y hb hy => v_X11_hasPiece_c15 K hX hb (z_PL_of hy hp)) hf
set_option maxHeartbeats 4000000 in
set_option maxRecDepth 100000 in
theorem v_X11_hasPiece_c2 {X : zX} (K : z_Ok X cX11_hasPiece (some .boolean) RX11 "hasPiece") (hX : z_Xo X rm_X11_hasPiece 4) {x0 : Option Nat} {x1 : Int32} {x2 : Int32} {h : zH} {nx : Nat} {x : (((Option Nat) × Int32 × Int32 × zH) ⊕ (Int32 × zH))} (hf : f_X11_hasPiece_c2 x0 x1 x2 h = some x) (hp : P_X11_hasPiece_2 X nx x) : zV X 2 [(0, tA x0), (1, tI x1), (2, tI x2)] [] h nx 0 0 := by
  unfold f_X11_hasPiece_c2 at hf
  refine zv_iload_n K 2 eX11_hasPiece_2 rfl ?_
  refine zv_aload_n K 0 eX11_hasPiece_3 rfl ?_
  refine zv_gA K eX11_hasPiece_4 fl_X11_7 hf (fun v1 hf => ?_)
  refine zv_bipush K (64 : Int32) eX11_hasPiece_7 (by decide) ?_
  refine zv_aI K eX11_hasPiece_9 hf (fun v2 hf => ?_)
  refine zv_icmp_ge K 48 eX11_hasPiece_10 (by decide) hf (fun _ hf => ?_) (fun _ hf => ?_)
  · obtain ⟨w9, hf9, e9⟩ := z_i1_inv hf; clear hf; subst e9; have hf := hf9; clear hf9
    refine zv_iconst K (0 : Int32) eX11_hasPiece_48 (by decide) ?_
    cases hf
    exact zv_zret K eX11_hasPiece_49 (by decide) hp
  · refine zv_iconst K (0 : Int32) eX11_hasPiece_13 (by decide) ?_
    refine zv_istore_n K [(3, tI (0 : Int32)), (0, tA x0), (1, tI x1), (2, tI x2)] eX11_hasPiece_14 (z_lt hX.2 (by decide)) rfl ?_
    exact zv_sub [1, 2, 3, 0] rfl (v_X11_hasPiece_b15 K hX hf hp)
theorem v_X11_hasPiece_b2 {X : zX} (K : z_Ok X cX11_hasPiece (some .boolean) RX11 "hasPiece") (hX : z_Xo X rm_X11_hasPiece 4) {x0 : Option Nat} {x1 : Int32} {x2 : Int32} {h : zH} {nx : Nat} {x : (Int32 × zH)} (hf : f_X11_hasPiece_b2 x0 x1 x2 h = some x) (hp : z_P0I X nx x) : zV X 2 [(0, tA x0), (1, tI x1), (2, tI x2)] [] h nx 0 0 :=
  z_it_ind (P := fun s : (Option Nat) × Int32 × Int32 × zH => zV X 2 [(0, tA s.1), (1, tI s.2.1), (2, tI s.2.2.1)] [] s.2.2.2 nx 0 0) (fun s y hb hy => v_X11_hasPiece_c2 K hX hb (z_PL_of hy hp)) hf
set_option maxHeartbeats 4000000 in
set_option maxRecDepth 100000 in
theorem v_X11_hasPiece {X : zX} (K : z_Ok X cX11_hasPiece (some .boolean) RX11 "hasPiece") (hX : z_Xo X rm_X11_hasPiece 4) {x0 : Option Nat} {x1 : Int32} {h : zH} {nx : Nat} {x : (Int32 × zH)} (hf : f_X11_hasPiece x0 x1 h = some x) (hp : z_P0I X nx x) : zV X 0 [(0, tA x0), (1, tI x1)] [] h nx 0 0 := by
  unfold f_X11_hasPiece at hf
  refine zv_iconst K (0 : Int32) eX11_hasPiece_0 (by decide) ?_
  refine zv_istore_n K [(2, tI (0 : Int32)), (0, tA x0), (1, tI x1)] eX11_hasPiece_1 (z_lt hX.2 (by decide)) rfl ?_
  exact zv_sub [1, 2, 0] rfl (v_X11_hasPiece_b2 K hX hf hp)
theorem c_X11_hasPiece (l : Launch) (G : zG) {x0 : Option Nat} {x1 : Int32} {h : zH} {nx : Nat} {x : Int32 × zH} (hf : f_X11_hasPiece x0 x1 h = some x) : z_Ct l G yX11_hasPiece cX11_hasPiece 4 (some .boolean) rm_X11_hasPiece [tA x0, tI x1] h nx (some (tI x.1)) x.2 nx 0 0 :=
  z_enter [(0, tA x0), (1, tI x1)] (by decide +kernel) (Nat.le_of_ble_eq_true rfl) rfl (fun X hl hR hG hL K hq => by
    subst hl; subst hG
    exact v_X11_hasPiece K ⟨hR, hL⟩ hf hq)
def P_X11_lyingAt_2 (X : zX) (nx : Nat) : ((Option Nat) × Int32 × Int32 × zH) ⊕ (Int32 × zH) → Prop := z_PL (fun s => zV X 2 [(0, tA s.1), (1, tI s.2.1), (2, tI s.2.2.1)] [] s.2.2.2 nx 0 0) (z_P0I X nx)
set_option maxHeartbeats 4000000 in
set_option maxRecDepth 100000 in
theorem v_X11_lyingAt_b42 {X : zX} (K : z_Ok X cX11_lyingAt (some .int) RX11 "lyingAt") (hX : z_Xo X rm_X11_lyingAt 3) {x0 : Option Nat} {x1 : Int32} {x2 : Int32} {h : zH} {nx : Nat} {x : (((Option Nat) × Int32 × Int32 × zH) ⊕ (Int32 × zH))} (hf : f_X11_lyingAt_b42 x0 x1 x2 h = some x) (hp : P_X11_lyingAt_2 X nx x) : zV X 42 [(0, tA x0), (1, tI x1), (2, tI x2)] [] h nx 0 0 := by
  unfold f_X11_lyingAt_b42 at hf
  refine zv_iinc K (x2 + (1 : Int32)) 2 [(2, tI (x2 + (1 : Int32))), (0, tA x0), (1, tI x1)] eX11_lyingAt_42 rfl rfl (z_lt hX.2 (by decide)) rfl ?_
  refine zv_goto K 2 eX11_lyingAt_45 (by decide) ?_
  cases hf
  exact zv_sub [1, 2, 0] rfl (show zV X 2 [(0, tA x0), (1, tI x1), (2, tI (x2 + (1 : Int32)))] [] h nx 0 0 from hp)
set_option maxHeartbeats 4000000 in
set_option maxRecDepth 100000 in
theorem v_X11_lyingAt_c2 {X : zX} (K : z_Ok X cX11_lyingAt (some .int) RX11 "lyingAt") (hX : z_Xo X rm_X11_lyingAt 3) {x0 : Option Nat} {x1 : Int32} {x2 : Int32} {h : zH} {nx : Nat} {x : (((Option Nat) × Int32 × Int32 × zH) ⊕ (Int32 × zH))} (hf : f_X11_lyingAt_c2 x0 x1 x2 h = some x) (hp : P_X11_lyingAt_2 X nx x) : zV X 2 [(0, tA x0), (1, tI x1), (2, tI x2)] [] h nx 0 0 := by
  unfold f_X11_lyingAt_c2 at hf
  refine zv_iload_n K 2 eX11_lyingAt_2 rfl ?_
  refine zv_aload_n K 0 eX11_lyingAt_3 rfl ?_
  refine zv_gA K eX11_lyingAt_4 fl_X11_7 hf (fun v1 hf => ?_)
  refine zv_bipush K (65 : Int32) eX11_lyingAt_7 (by decide) ?_
  refine zv_aI K eX11_lyingAt_9 hf (fun v2 hf => ?_)
  refine zv_icmp_ge K 48 eX11_lyingAt_10 (by decide) hf (fun _ hf => ?_) (fun _ hf => ?_)
  · obtain ⟨w9, hf9, e9⟩ := z_i1_inv hf; clear hf; subst e9; have hf := hf9; clear hf9
    refine zv_bipush K (-4 : Int32) eX11_lyingAt_48 (by decide) ?_
    have e9 := Option.some.inj hf; subst e9
    exact zv_iret K eX11_lyingAt_50 hp
  · refine zv_aload_n K 0 eX11_lyingAt_13 rfl ?_
    refine zv_gA K eX11_lyingAt_14 fl_X11_7 hf (fun v3 hf => ?_)
    refine zv_iload_n K 2 eX11_lyingAt_17 rfl ?_
    obtain ⟨v5, h4, eh4, hf⟩ := z_b2_inv hf
    refine zv_cS0 K [tI x2] [tA v3] eX11_lyingAt_18 lk_X11_84 md_X11_thingAt st_X11_thingAt rfl rfl (Nat.le_of_ble_eq_true rfl) (c_X11_thingAt X.1.2.1 X.2.2.1 eh4) rfl rfl ⟨z_le (z_fr hX) (by decide), z_le (z_lo hX) (by decide)⟩ ⟨Nat.zero_le _, Nat.zero_le _⟩ ?_
    refine zv_aI K eX11_lyingAt_21 hf (fun v6 hf => ?_)
    refine zv_if_ne K 42 eX11_lyingAt_22 (by decide) hf (fun _ hf => ?_) (fun _ hf => ?_)
    · exact zv_sub [0, 1, 2] rfl (v_X11_lyingAt_b42 K hX hf hp)
    · refine zv_aload_n K 0 eX11_lyingAt_25 rfl ?_
      refine zv_gA K eX11_lyingAt_26 fl_X11_7 hf (fun v7 hf => ?_)
      refine zv_iload_n K 2 eX11_lyingAt_29 rfl ?_
      obtain ⟨v9, h8, eh8, hf⟩ := z_b2_inv hf
      refine zv_cS0 K [tI x2] [tA v7] eX11_lyingAt_30 lk_X11_84 md_X11_thingAt st_X11_thingAt rfl rfl (Nat.le_of_ble_eq_true rfl) (c_X11_thingAt X.1.2.1 X.2.2.1 eh8) rfl rfl ⟨z_le (z_fr hX) (by decide), z_le (z_lo hX) (by decide)⟩ ⟨Nat.zero_le _, Nat.zero_le _⟩ ?_
      refine zv_iconst K (1 : Int32) eX11_lyingAt_33 (by decide) ?_
      refine zv_iadd K eX11_lyingAt_34 ?_
      refine zv_aI K eX11_lyingAt_35 hf (fun v10 hf => ?_)
      refine zv_iload_n K 1 eX11_lyingAt_36 rfl ?_
      refine zv_icmp_ne K 42 eX11_lyingAt_37 (by decide) hf (fun _ hf => ?_) (fun _ hf => ?_)
      · exact zv_sub [0, 1, 2] rfl (v_X11_lyingAt_b42 K hX hf hp)
      · obtain ⟨w9, hf9, e9⟩ := z_i1_inv hf; clear hf; subst e9; have hf := hf9; clear hf9
        refine zv_iload_n K 2 eX11_lyingAt_40 rfl ?_
        have e9 := Option.some.inj hf; subst e9
        exact zv_iret K eX11_lyingAt_41 hp
theorem v_X11_lyingAt_b2 {X : zX} (K : z_Ok X cX11_lyingAt (some .int) RX11 "lyingAt") (hX : z_Xo X rm_X11_lyingAt 3) {x0 : Option Nat} {x1 : Int32} {x2 : Int32} {h : zH} {nx : Nat} {x : (Int32 × zH)} (hf : f_X11_lyingAt_b2 x0 x1 x2 h = some x) (hp : z_P0I X nx x) : zV X 2 [(0, tA x0), (1, tI x1), (2, tI x2)] [] h nx 0 0 :=
  z_it_ind (P := fun s : (Option Nat) × Int32 × Int32 × zH => zV X 2 [(0, tA s.1), (1, tI s.2.1), (2, tI s.2.2.1)] [] s.2.2.2 nx 0 0) (fun s y hb hy => v_X11_lyingAt_c2 K hX hb (z_PL_of hy hp)) hf
set_option maxHeartbeats 4000000 in
set_option maxRecDepth 100000 in
theorem v_X11_lyingAt {X : zX} (K : z_Ok X cX11_lyingAt (some .int) RX11 "lyingAt") (hX : z_Xo X rm_X11_lyingAt 3) {x0 : Option Nat} {x1 : Int32} {h : zH} {nx : Nat} {x : (Int32 × zH)} (hf : f_X11_lyingAt x0 x1 h = some x) (hp : z_P0I X nx x) : zV X 0 [(0, tA x0), (1, tI x1)] [] h nx 0 0 := by
  unfold f_X11_lyingAt at hf
  refine zv_iconst K (0 : Int32) eX11_lyingAt_0 (by decide) ?_
  refine zv_istore_n K [(2, tI (0 : Int32)), (0, tA x0), (1, tI x1)] eX11_lyingAt_1 (z_lt hX.2 (by decide)) rfl ?_
  exact zv_sub [1, 2, 0] rfl (v_X11_lyingAt_b2 K hX hf hp)
theorem c_X11_lyingAt (l : Launch) (G : zG) {x0 : Option Nat} {x1 : Int32} {h : zH} {nx : Nat} {x : Int32 × zH} (hf : f_X11_lyingAt x0 x1 h = some x) : z_Ct l G yX11_lyingAt cX11_lyingAt 3 (some .int) rm_X11_lyingAt [tA x0, tI x1] h nx (some (tI x.1)) x.2 nx 0 0 :=
  z_enter [(0, tA x0), (1, tI x1)] (by decide +kernel) (Nat.le_of_ble_eq_true rfl) rfl (fun X hl hR hG hL K hq => by
    subst hl; subst hG
    exact v_X11_lyingAt K ⟨hR, hL⟩ hf hq)
set_option maxHeartbeats 4000000 in
set_option maxRecDepth 100000 in
theorem v_X11_beside_b47 {X : zX} (K : z_Ok X cX11_beside (some .int) RX11 "beside") (hX : z_Xo X rm_X11_beside 4) {x2 : Int32} {s0 : Int32} {s1 : Int32} {h : zH} {nx : Nat} {x : (Int32 × zH)} (hf : f_X11_beside_b47 x2 s0 s1 h = some x) (hp : z_P0I X nx x) : zV X 47 [(2, tI x2)] [tI s1, tI s0] h nx 0 0 := by
  unfold f_X11_beside_b47 at hf
  refine zv_iadd K eX11_beside_47 ?_
  refine zv_istore_n K [(3, tI (s0 + s1)), (2, tI x2)] eX11_beside_48 (z_lt hX.2 (by decide)) rfl ?_
  refine zv_iload_n K 1 eX11_beside_49 rfl ?_
  refine zv_iload_n K 0 eX11_beside_50 rfl ?_
  obtain ⟨v2, h1, eh1, hf⟩ := z_b2_inv hf
  refine zv_cS0 K [tI x2, tI (s0 + s1)] [] eX11_beside_51 lk_X11_87 md_X11_isCell st_X11_isCell rfl rfl (Nat.le_of_ble_eq_true rfl) (c_X11_isCell X.1.2.1 X.2.2.1 eh1) rfl rfl ⟨z_le (z_fr hX) (by decide), z_le (z_lo hX) (by decide)⟩ ⟨Nat.zero_le _, Nat.zero_le _⟩ ?_
  refine zv_if_eq K 66 eX11_beside_54 (by decide) hf (fun _ hf => ?_) (fun _ hf => ?_)
  · refine zv_bipush K (-4 : Int32) eX11_beside_66 (by decide) ?_
    have e9 := Option.some.inj hf; subst e9
    exact zv_iret K eX11_beside_68 hp
  · refine zv_bipush K (8 : Int32) eX11_beside_57 (by decide) ?_
    refine zv_iload_n K 0 eX11_beside_59 rfl ?_
    refine zv_imul K eX11_beside_60 ?_
    refine zv_iload_n K 1 eX11_beside_61 rfl ?_
    refine zv_iadd K eX11_beside_62 ?_
    refine zv_goto K 68 eX11_beside_63 (by decide) ?_
    have e9 := Option.some.inj hf; subst e9
    exact zv_iret K eX11_beside_68 hp
set_option maxHeartbeats 4000000 in
set_option maxRecDepth 100000 in
theorem v_X11_beside_b22 {X : zX} (K : z_Ok X cX11_beside (some .int) RX11 "beside") (hX : z_Xo X rm_X11_beside 4) {x0 : Int32} {x1 : Int32} {s0 : Int32} {s1 : Int32} {h : zH} {nx : Nat} {x : (Int32 × zH)} (hf : f_X11_beside_b22 x0 x1 s0 s1 h = some x) (hp : z_P0I X nx x) : zV X 22 [(0, tI x0), (1, tI x1)] [tI s1, tI s0] h nx 0 0 := by
  unfold f_X11_beside_b22 at hf
  refine zv_iadd K eX11_beside_22 ?_
  refine zv_istore_n K [(2, tI (s0 + s1)), (0, tI x0), (1, tI x1)] eX11_beside_23 (z_lt hX.2 (by decide)) rfl ?_
  refine zv_iload_n K 1 eX11_beside_24 rfl ?_
  refine zv_bipush K (8 : Int32) eX11_beside_25 (by decide) ?_
  refine zv_idiv K eX11_beside_27 (by decide) ?_
  refine zv_iload_n K 2 eX11_beside_28 rfl ?_
  refine zv_iconst K (1 : Int32) eX11_beside_29 (by decide) ?_
  refine zv_icmp_ne K 37 eX11_beside_30 (by decide) hf (fun _ hf => ?_) (fun _ hf => ?_)
  · refine zv_iload_n K 2 eX11_beside_37 rfl ?_
    refine zv_iconst K (3 : Int32) eX11_beside_38 (by decide) ?_
    refine zv_icmp_ne K 46 eX11_beside_39 (by decide) hf (fun _ hf => ?_) (fun _ hf => ?_)
    · refine zv_iconst K (0 : Int32) eX11_beside_46 (by decide) ?_
      exact zv_sub [0] rfl (v_X11_beside_b47 K hX hf hp)
    · refine zv_iconst K (-1 : Int32) eX11_beside_42 (by decide) ?_
      refine zv_goto K 47 eX11_beside_43 (by decide) ?_
      exact zv_sub [0] rfl (v_X11_beside_b47 K hX hf hp)
  · refine zv_iconst K (1 : Int32) eX11_beside_33 (by decide) ?_
    refine zv_goto K 47 eX11_beside_34 (by decide) ?_
    exact zv_sub [0] rfl (v_X11_beside_b47 K hX hf hp)
set_option maxHeartbeats 4000000 in
set_option maxRecDepth 100000 in
theorem v_X11_beside {X : zX} (K : z_Ok X cX11_beside (some .int) RX11 "beside") (hX : z_Xo X rm_X11_beside 4) {x0 : Int32} {x1 : Int32} {h : zH} {nx : Nat} {x : (Int32 × zH)} (hf : f_X11_beside x0 x1 h = some x) (hp : z_P0I X nx x) : zV X 0 [(0, tI x0), (1, tI x1)] [] h nx 0 0 := by
  unfold f_X11_beside at hf
  refine zv_iload_n K 0 eX11_beside_0 rfl ?_
  refine zv_bipush K (8 : Int32) eX11_beside_1 (by decide) ?_
  refine zv_irem K eX11_beside_3 (by decide) ?_
  refine zv_iload_n K 1 eX11_beside_4 rfl ?_
  refine zv_if_ne K 12 eX11_beside_5 (by decide) hf (fun _ hf => ?_) (fun _ hf => ?_)
  · refine zv_iload_n K 1 eX11_beside_12 rfl ?_
    refine zv_iconst K (2 : Int32) eX11_beside_13 (by decide) ?_
    refine zv_icmp_ne K 21 eX11_beside_14 (by decide) hf (fun _ hf => ?_) (fun _ hf => ?_)
    · refine zv_iconst K (0 : Int32) eX11_beside_21 (by decide) ?_
      exact zv_sub [0, 1] rfl (v_X11_beside_b22 K hX hf hp)
    · refine zv_iconst K (-1 : Int32) eX11_beside_17 (by decide) ?_
      refine zv_goto K 22 eX11_beside_18 (by decide) ?_
      exact zv_sub [0, 1] rfl (v_X11_beside_b22 K hX hf hp)
  · refine zv_iconst K (1 : Int32) eX11_beside_8 (by decide) ?_
    refine zv_goto K 22 eX11_beside_9 (by decide) ?_
    exact zv_sub [0, 1] rfl (v_X11_beside_b22 K hX hf hp)
theorem c_X11_beside (l : Launch) (G : zG) {x0 : Int32} {x1 : Int32} {h : zH} {nx : Nat} {x : Int32 × zH} (hf : f_X11_beside x0 x1 h = some x) : z_Ct l G yX11_beside cX11_beside 4 (some .int) rm_X11_beside [tI x0, tI x1] h nx (some (tI x.1)) x.2 nx 0 0 :=
  z_enter [(0, tI x0), (1, tI x1)] (by decide +kernel) (Nat.le_of_ble_eq_true rfl) rfl (fun X hl hR hG hL K hq => by
    subst hl; subst hG
    exact v_X11_beside K ⟨hR, hL⟩ hf hq)
def P_X11_sideTo_2 (X : zX) (nx : Nat) : (Int32 × Int32 × Int32 × zH) ⊕ (Int32 × zH) → Prop := z_PL (fun s => zV X 2 [(0, tI s.1), (1, tI s.2.1), (2, tI s.2.2.1)] [] s.2.2.2 nx 0 0) (z_P0I X nx)
set_option maxHeartbeats 4000000 in
set_option maxRecDepth 100000 in
theorem v_X11_sideTo_c2 {X : zX} (K : z_Ok X cX11_sideTo (some .int) RX11 "sideTo") (hX : z_Xo X rm_X11_sideTo 3) {x0 : Int32} {x1 : Int32} {x2 : Int32} {h : zH} {nx : Nat} {x : ((Int32 × Int32 × Int32 × zH) ⊕ (Int32 × zH))} (hf : f_X11_sideTo_c2 x0 x1 x2 h = some x) (hp : P_X11_sideTo_2 X nx x) : zV X 2 [(0, tI x0), (1, tI x1), (2, tI x2)] [] h nx 0 0 := by
  unfold f_X11_sideTo_c2 at hf
  refine zv_iload_n K 2 eX11_sideTo_2 rfl ?_
  refine zv_iconst K (4 : Int32) eX11_sideTo_3 (by decide) ?_
  refine zv_icmp_ge K 22 eX11_sideTo_4 (by decide) hf (fun _ hf => ?_) (fun _ hf => ?_)
  · obtain ⟨w9, hf9, e9⟩ := z_i1_inv hf; clear hf; subst e9; have hf := hf9; clear hf9
    refine zv_iload_n K 2 eX11_sideTo_22 rfl ?_
    have e9 := Option.some.inj hf; subst e9
    exact zv_iret K eX11_sideTo_23 hp
  · refine zv_iload_n K 0 eX11_sideTo_7 rfl ?_
    refine zv_iload_n K 2 eX11_sideTo_8 rfl ?_
    obtain ⟨v2, h1, eh1, hf⟩ := z_b2_inv hf
    refine zv_cS0 K [tI x0, tI x2] [] eX11_sideTo_9 lk_X11_91 md_X11_beside st_X11_beside rfl rfl (Nat.le_of_ble_eq_true rfl) (c_X11_beside X.1.2.1 X.2.2.1 eh1) rfl rfl ⟨z_le (z_fr hX) (by decide), z_le (z_lo hX) (by decide)⟩ ⟨Nat.zero_le _, Nat.zero_le _⟩ ?_
    refine zv_iload_n K 1 eX11_sideTo_12 rfl ?_
    refine zv_icmp_eq K 22 eX11_sideTo_13 (by decide) hf (fun _ hf => ?_) (fun _ hf => ?_)
    · obtain ⟨w9, hf9, e9⟩ := z_i1_inv hf; clear hf; subst e9; have hf := hf9; clear hf9
      refine zv_iload_n K 2 eX11_sideTo_22 rfl ?_
      have e9 := Option.some.inj hf; subst e9
      exact zv_iret K eX11_sideTo_23 hp
    · refine zv_iinc K (x2 + (1 : Int32)) 2 [(2, tI (x2 + (1 : Int32))), (0, tI x0), (1, tI x1)] eX11_sideTo_16 rfl rfl (z_lt hX.2 (by decide)) rfl ?_
      refine zv_goto K 2 eX11_sideTo_19 (by decide) ?_
      cases hf
      exact zv_sub [1, 2, 0] rfl (show zV X 2 [(0, tI x0), (1, tI x1), (2, tI (x2 + (1 : Int32)))] [] h1 nx 0 0 from hp)
theorem v_X11_sideTo_b2 {X : zX} (K : z_Ok X cX11_sideTo (some .int) RX11 "sideTo") (hX : z_Xo X rm_X11_sideTo 3) {x0 : Int32} {x1 : Int32} {x2 : Int32} {h : zH} {nx : Nat} {x : (Int32 × zH)} (hf : f_X11_sideTo_b2 x0 x1 x2 h = some x) (hp : z_P0I X nx x) : zV X 2 [(0, tI x0), (1, tI x1), (2, tI x2)] [] h nx 0 0 :=
  z_it_ind (P := fun s : Int32 × Int32 × Int32 × zH => zV X 2 [(0, tI s.1), (1, tI s.2.1), (2, tI s.2.2.1)] [] s.2.2.2 nx 0 0) (fun s y hb hy => v_X11_sideTo_c2 K hX hb (z_PL_of hy hp)) hf
set_option maxHeartbeats 4000000 in
set_option maxRecDepth 100000 in
theorem v_X11_sideTo {X : zX} (K : z_Ok X cX11_sideTo (some .int) RX11 "sideTo") (hX : z_Xo X rm_X11_sideTo 3) {x0 : Int32} {x1 : Int32} {h : zH} {nx : Nat} {x : (Int32 × zH)} (hf : f_X11_sideTo x0 x1 h = some x) (hp : z_P0I X nx x) : zV X 0 [(0, tI x0), (1, tI x1)] [] h nx 0 0 := by
  unfold f_X11_sideTo at hf
  refine zv_iconst K (0 : Int32) eX11_sideTo_0 (by decide) ?_
  refine zv_istore_n K [(2, tI (0 : Int32)), (0, tI x0), (1, tI x1)] eX11_sideTo_1 (z_lt hX.2 (by decide)) rfl ?_
  exact zv_sub [1, 2, 0] rfl (v_X11_sideTo_b2 K hX hf hp)
theorem c_X11_sideTo (l : Launch) (G : zG) {x0 : Int32} {x1 : Int32} {h : zH} {nx : Nat} {x : Int32 × zH} (hf : f_X11_sideTo x0 x1 h = some x) : z_Ct l G yX11_sideTo cX11_sideTo 3 (some .int) rm_X11_sideTo [tI x0, tI x1] h nx (some (tI x.1)) x.2 nx 0 0 :=
  z_enter [(0, tI x0), (1, tI x1)] (by decide +kernel) (Nat.le_of_ble_eq_true rfl) rfl (fun X hl hR hG hL K hq => by
    subst hl; subst hG
    exact v_X11_sideTo K ⟨hR, hL⟩ hf hq)
set_option maxHeartbeats 4000000 in
set_option maxRecDepth 100000 in
theorem v_X11_isFree {X : zX} (K : z_Ok X cX11_isFree (some .boolean) RX11 "isFree") (hX : z_Xo X rm_X11_isFree 2) {x0 : Option Nat} {x1 : Int32} {h : zH} {nx : Nat} {x : (Int32 × zH)} (hf : f_X11_isFree x0 x1 h = some x) (hp : z_P0I X nx x) : zV X 0 [(0, tA x0), (1, tI x1)] [] h nx 0 0 := by
  unfold f_X11_isFree at hf
  refine zv_iload_n K 1 eX11_isFree_0 rfl ?_
  refine zv_if_lt K 25 eX11_isFree_1 (by decide) hf (fun _ hf => ?_) (fun _ hf => ?_)
  · refine zv_iconst K (0 : Int32) eX11_isFree_25 (by decide) ?_
    cases hf
    exact zv_zret K eX11_isFree_26 (by decide) hp
  · refine zv_aload_n K 0 eX11_isFree_4 rfl ?_
    refine zv_gA K eX11_isFree_5 fl_X11_7 hf (fun v1 hf => ?_)
    refine zv_iload_n K 1 eX11_isFree_8 rfl ?_
    refine zv_aI K eX11_isFree_9 hf (fun v2 hf => ?_)
    refine zv_if_ne K 25 eX11_isFree_10 (by decide) hf (fun _ hf => ?_) (fun _ hf => ?_)
    · refine zv_iconst K (0 : Int32) eX11_isFree_25 (by decide) ?_
      cases hf
      exact zv_zret K eX11_isFree_26 (by decide) hp
    · refine zv_aload_n K 0 eX11_isFree_13 rfl ?_
      refine zv_iload_n K 1 eX11_isFree_14 rfl ?_
      obtain ⟨q3, hq3, hf⟩ := z_bind_inv hf
      obtain ⟨v5, h4, eh4, hf⟩ := z_b2_inv hf
      refine zv_cV0 K [tI x1] [] eX11_isFree_15 lk_X11_94 md_X11_hasPiece im_X11_hasPiece sl_X11_hasPiece rfl rfl rfl rfl (Nat.le_of_ble_eq_true rfl) hq3 (c_X11_hasPiece X.1.2.1 X.2.2.1 eh4) rfl rfl ⟨z_le (z_fr hX) (by decide), z_le (z_lo hX) (by decide)⟩ ⟨Nat.zero_le _, Nat.zero_le _⟩ ?_
      refine zv_if_ne K 25 eX11_isFree_18 (by decide) hf (fun _ hf => ?_) (fun _ hf => ?_)
      · refine zv_iconst K (0 : Int32) eX11_isFree_25 (by decide) ?_
        cases hf
        exact zv_zret K eX11_isFree_26 (by decide) hp
      · refine zv_iconst K (1 : Int32) eX11_isFree_21 (by decide) ?_
        refine zv_goto K 26 eX11_isFree_22 (by decide) ?_
        cases hf
        exact zv_zret K eX11_isFree_26 (by decide) hp
theorem c_X11_isFree (l : Launch) (G : zG) {x0 : Option Nat} {x1 : Int32} {h : zH} {nx : Nat} {x : Int32 × zH} (hf : f_X11_isFree x0 x1 h = some x) : z_Ct l G yX11_isFree cX11_isFree 2 (some .boolean) rm_X11_isFree [tA x0, tI x1] h nx (some (tI x.1)) x.2 nx 0 0 :=
  z_enter [(0, tA x0), (1, tI x1)] (by decide +kernel) (Nat.le_of_ble_eq_true rfl) rfl (fun X hl hR hG hL K hq => by
    subst hl; subst hG
    exact v_X11_isFree K ⟨hR, hL⟩ hf hq)
set_option maxHeartbeats 4000000 in
set_option maxRecDepth 100000 in
theorem v_X11_wall_b43 {X : zX} (K : z_Ok X cX11_wall (some .int) RX11 "wall") (hX : z_Xo X rm_X11_wall 6) {x0 : Option Nat} {x3 : Int32} {x4 : Int32} {h : zH} {nx : Nat} {x : (Int32 × zH)} (hf : f_X11_wall_b43 x0 x3 x4 h = some x) (hp : z_P0I X nx x) : zV X 43 [(0, tA x0), (3, tI x3), (4, tI x4)] [] h nx 0 0 := by
  unfold f_X11_wall_b43 at hf
  refine zv_aload_n K 0 eX11_wall_43 rfl ?_
  refine zv_gA K eX11_wall_44 fl_X11_7 hf (fun v1 hf => ?_)
  refine zv_iload K 2 eX11_wall_47 rfl ?_
  refine zv_aI K eX11_wall_49 hf (fun v2 hf => ?_)
  refine zv_istore K [(5, tI v2), (0, tA x0), (3, tI x3), (4, tI x4)] eX11_wall_50 (z_lt hX.2 (by decide)) rfl ?_
  refine zv_aload_n K 1 eX11_wall_52 rfl ?_
  refine zv_gA K eX11_wall_53 fl_X11_7 hf (fun v3 hf => ?_)
  refine zv_iload K 3 eX11_wall_56 rfl ?_
  refine zv_iload_n K 2 eX11_wall_58 rfl ?_
  refine zv_if_eq K 66 eX11_wall_59 (by decide) hf (fun _ hf => ?_) (fun _ hf => ?_)
  · refine zv_iconst K (0 : Int32) eX11_wall_66 (by decide) ?_
    refine zv_sI K eX11_wall_67 hf (fun h4 hf => ?_)
    refine zv_iload K 0 eX11_wall_68 rfl ?_
    have e9 := Option.some.inj hf; subst e9
    exact zv_iret K eX11_wall_70 hp
  · refine zv_iconst K (1 : Int32) eX11_wall_62 (by decide) ?_
    refine zv_goto K 67 eX11_wall_63 (by decide) ?_
    refine zv_sI K eX11_wall_67 hf (fun h5 hf => ?_)
    refine zv_iload K 0 eX11_wall_68 rfl ?_
    have e9 := Option.some.inj hf; subst e9
    exact zv_iret K eX11_wall_70 hp
set_option maxHeartbeats 4000000 in
set_option maxRecDepth 100000 in
theorem v_X11_wall {X : zX} (K : z_Ok X cX11_wall (some .int) RX11 "wall") (hX : z_Xo X rm_X11_wall 6) {x0 : Option Nat} {x1 : Int32} {x2 : Int32} {x3 : Int32} {h : zH} {nx : Nat} {x : (Int32 × zH)} (hf : f_X11_wall x0 x1 x2 x3 h = some x) (hp : z_P0I X nx x) : zV X 0 [(0, tA x0), (1, tI x1), (2, tI x2), (3, tI x3)] [] h nx 0 0 := by
  unfold f_X11_wall at hf
  refine zv_iload_n K 1 eX11_wall_0 rfl ?_
  refine zv_iload_n K 2 eX11_wall_1 rfl ?_
  obtain ⟨v2, h1, eh1, hf⟩ := z_b2_inv hf
  refine zv_cS0 K [tI x1, tI x2] [] eX11_wall_2 lk_X11_87 md_X11_isCell st_X11_isCell rfl rfl (Nat.le_of_ble_eq_true rfl) (c_X11_isCell X.1.2.1 X.2.2.1 eh1) rfl rfl ⟨z_le (z_fr hX) (by decide), z_le (z_lo hX) (by decide)⟩ ⟨Nat.zero_le _, Nat.zero_le _⟩ ?_
  refine zv_if_ne K 10 eX11_wall_5 (by decide) hf (fun _ hf => ?_) (fun _ hf => ?_)
  · refine zv_bipush K (8 : Int32) eX11_wall_10 (by decide) ?_
    refine zv_iload_n K 2 eX11_wall_12 rfl ?_
    refine zv_imul K eX11_wall_13 ?_
    refine zv_iload_n K 1 eX11_wall_14 rfl ?_
    refine zv_iadd K eX11_wall_15 ?_
    refine zv_istore K [(4, tI (((8 : Int32) * x2) + x1)), (0, tA x0), (1, tI x1), (2, tI x2), (3, tI x3)] eX11_wall_16 (z_lt hX.2 (by decide)) rfl ?_
    refine zv_iload_n K 4 eX11_wall_18 rfl ?_
    refine zv_if_eq K 43 eX11_wall_19 (by decide) hf (fun _ hf => ?_) (fun _ hf => ?_)
    · exact zv_sub [1, 4, 0] rfl (v_X11_wall_b43 K hX hf hp)
    · refine zv_aload_n K 1 eX11_wall_22 rfl ?_
      refine zv_iload K 0 eX11_wall_23 rfl ?_
      obtain ⟨q3, hq3, hf⟩ := z_bind_inv hf
      obtain ⟨v5, h4, eh4, hf⟩ := z_b2_inv hf
      refine zv_cV0 K [tI (((8 : Int32) * x2) + x1)] [] eX11_wall_25 lk_X11_94 md_X11_hasPiece im_X11_hasPiece sl_X11_hasPiece rfl rfl rfl rfl (Nat.le_of_ble_eq_true rfl) hq3 (c_X11_hasPiece X.1.2.1 X.2.2.1 eh4) rfl rfl ⟨z_le (z_fr hX) (by decide), z_le (z_lo hX) (by decide)⟩ ⟨Nat.zero_le _, Nat.zero_le _⟩ ?_
      refine zv_if_ne K 40 eX11_wall_28 (by decide) hf (fun _ hf => ?_) (fun _ hf => ?_)
      · refine zv_bipush K (-2 : Int32) eX11_wall_40 (by decide) ?_
        have e9 := Option.some.inj hf; subst e9
        exact zv_iret K eX11_wall_42 hp
      · refine zv_aload_n K 1 eX11_wall_31 rfl ?_
        refine zv_iload K 0 eX11_wall_32 rfl ?_
        obtain ⟨q6, hq6, hf⟩ := z_bind_inv hf
        obtain ⟨v8, h7, eh7, hf⟩ := z_b2_inv hf
        refine zv_cV0 K [tI (((8 : Int32) * x2) + x1)] [] eX11_wall_34 lk_X11_97 md_X11_lyingAt im_X11_lyingAt sl_X11_lyingAt rfl rfl rfl rfl (Nat.le_of_ble_eq_true rfl) hq6 (c_X11_lyingAt X.1.2.1 X.2.2.1 eh7) rfl rfl ⟨z_le (z_fr hX) (by decide), z_le (z_lo hX) (by decide)⟩ ⟨Nat.zero_le _, Nat.zero_le _⟩ ?_
        refine zv_if_lt K 43 eX11_wall_37 (by decide) hf (fun _ hf => ?_) (fun _ hf => ?_)
        · exact zv_sub [1, 4, 0] rfl (v_X11_wall_b43 K hX hf hp)
        · refine zv_bipush K (-2 : Int32) eX11_wall_40 (by decide) ?_
          have e9 := Option.some.inj hf; subst e9
          exact zv_iret K eX11_wall_42 hp
  · refine zv_iconst K (-1 : Int32) eX11_wall_8 (by decide) ?_
    have e9 := Option.some.inj hf; subst e9
    exact zv_iret K eX11_wall_9 hp
theorem c_X11_wall (l : Launch) (G : zG) {x0 : Option Nat} {x1 : Int32} {x2 : Int32} {x3 : Int32} {h : zH} {nx : Nat} {x : Int32 × zH} (hf : f_X11_wall x0 x1 x2 x3 h = some x) : z_Ct l G yX11_wall cX11_wall 6 (some .int) rm_X11_wall [tA x0, tI x1, tI x2, tI x3] h nx (some (tI x.1)) x.2 nx 0 0 :=
  z_enter [(0, tA x0), (1, tI x1), (2, tI x2), (3, tI x3)] (by decide +kernel) (Nat.le_of_ble_eq_true rfl) rfl (fun X hl hR hG hL K hq => by
    subst hl; subst hG
    exact v_X11_wall K ⟨hR, hL⟩ hf hq)
set_option maxHeartbeats 4000000 in
set_option maxRecDepth 100000 in
theorem v_X11_isSheet {X : zX} (K : z_Ok X cX11_isSheet (some .boolean) RX11 "isSheet") (hX : z_Xo X rm_X11_isSheet 1) {x0 : Int32} {h : zH} {nx : Nat} {x : (Int32 × zH)} (hf : f_X11_isSheet x0 h = some x) (hp : z_P0I X nx x) : zV X 0 [(0, tI x0)] [] h nx 0 0 := by
  unfold f_X11_isSheet at hf
  refine zv_iload_n K 0 eX11_isSheet_0 rfl ?_
  refine zv_iconst K (0 : Int32) eX11_isSheet_1 (by decide) ?_
  refine zv_iconst K (3 : Int32) eX11_isSheet_2 (by decide) ?_
  obtain ⟨v2, h1, eh1, hf⟩ := z_b2_inv hf
  refine zv_cS0 K [tI x0, tI (0 : Int32), tI (3 : Int32)] [] eX11_isSheet_3 lk_X11_65 md_X11_in st_X11_in rfl rfl (Nat.le_of_ble_eq_true rfl) (c_X11_in X.1.2.1 X.2.2.1 eh1) rfl rfl ⟨z_le (z_fr hX) (by decide), z_le (z_lo hX) (by decide)⟩ ⟨Nat.zero_le _, Nat.zero_le _⟩ ?_
  refine z_ite_inv _ hf (fun hv hf => ?_) (fun _ hf => ?_)
  · cases hf
    exact zv_zret K eX11_isSheet_6 hv hp
  · cases hf
theorem c_X11_isSheet (l : Launch) (G : zG) {x0 : Int32} {h : zH} {nx : Nat} {x : Int32 × zH} (hf : f_X11_isSheet x0 h = some x) : z_Ct l G yX11_isSheet cX11_isSheet 1 (some .boolean) rm_X11_isSheet [tI x0] h nx (some (tI x.1)) x.2 nx 0 0 :=
  z_enter [(0, tI x0)] (by decide +kernel) (Nat.le_of_ble_eq_true rfl) rfl (fun X hl hR hG hL K hq => by
    subst hl; subst hG
    exact v_X11_isSheet K ⟨hR, hL⟩ hf hq)
def P_X11_walls_99 (X : zX) (nx : Nat) : ((Option Nat) × Int32 × Int32 × Int32 × zH) ⊕ (Int32 × zH) → Prop := z_PL (fun s => zV X 99 [(0, tA s.1), (1, tI s.2.1), (2, tI s.2.2.1), (3, tI s.2.2.2.1)] [] s.2.2.2.2 nx 0 0) (z_P0I X nx)
def P_X11_walls_49 (X : zX) (nx : Nat) : ((Option Nat) × Int32 × Int32 × zH) ⊕ (Int32 × zH) → Prop := z_PL (fun s => zV X 49 [(0, tA s.1), (1, tI s.2.1), (2, tI s.2.2.1)] [] s.2.2.2 nx 0 0) (z_P0I X nx)
set_option maxHeartbeats 4000000 in
set_option maxRecDepth 100000 in
theorem v_X11_walls_c99 {X : zX} (K : z_Ok X cX11_walls (some .int) RX11 "walls") (hX : z_Xo X rm_X11_walls 4) {x0 : Option Nat} {x1 : Int32} {x2 : Int32} {x3 : Int32} {h : zH} {nx : Nat} {x : (((Option Nat) × Int32 × Int32 × Int32 × zH) ⊕ (Int32 × zH))} (hf : f_X11_walls_c99 x0 x1 x2 x3 h = some x) (hp : P_X11_walls_99 X nx x) : zV X 99 [(0, tA x0), (1, tI x1), (2, tI x2), (3, tI x3)] [] h nx 0 0 := by
  unfold f_X11_walls_c99 at hf
  refine zv_iload_n K 3 eX11_walls_99 rfl ?_
  refine zv_bipush K (64 : Int32) eX11_walls_100 (by decide) ?_
  refine zv_icmp_ge K 137 eX11_walls_102 (by decide) hf (fun _ hf => ?_) (fun _ hf => ?_)
  · obtain ⟨w9, hf9, e9⟩ := z_i1_inv hf; clear hf; subst e9; have hf := hf9; clear hf9
    refine zv_iload_n K 2 eX11_walls_137 rfl ?_
    have e9 := Option.some.inj hf; subst e9
    exact zv_iret K eX11_walls_138 hp
  · refine zv_aload_n K 0 eX11_walls_105 rfl ?_
    refine zv_gA K eX11_walls_106 fl_X11_7 hf (fun v1 hf => ?_)
    refine zv_iload_n K 3 eX11_walls_109 rfl ?_
    refine zv_aload_n K 0 eX11_walls_110 rfl ?_
    refine zv_gA K eX11_walls_111 fl_X11_32 hf (fun v2 hf => ?_)
    refine zv_bipush K (64 : Int32) eX11_walls_114 (by decide) ?_
    refine zv_iload_n K 1 eX11_walls_116 rfl ?_
    refine zv_imul K eX11_walls_117 ?_
    refine zv_iload_n K 3 eX11_walls_118 rfl ?_
    refine zv_iadd K eX11_walls_119 ?_
    refine zv_aI K eX11_walls_120 hf (fun v3 hf => ?_)
    refine zv_sI K eX11_walls_121 hf (fun h4 hf => ?_)
    refine zv_iload_n K 2 eX11_walls_122 rfl ?_
    refine zv_aload_n K 0 eX11_walls_123 rfl ?_
    refine zv_gA K eX11_walls_124 fl_X11_7 hf (fun v5 hf => ?_)
    refine zv_iload_n K 3 eX11_walls_127 rfl ?_
    refine zv_aI K eX11_walls_128 hf (fun v6 hf => ?_)
    refine zv_iadd K eX11_walls_129 ?_
    refine zv_istore_n K [(2, tI (x2 + v6)), (0, tA x0), (1, tI x1), (3, tI x3)] eX11_walls_130 (z_lt hX.2 (by decide)) rfl ?_
    refine zv_iinc K (x3 + (1 : Int32)) 3 [(3, tI (x3 + (1 : Int32))), (2, tI (x2 + v6)), (0, tA x0), (1, tI x1)] eX11_walls_131 rfl rfl (z_lt hX.2 (by decide)) rfl ?_
    refine zv_goto K 99 eX11_walls_134 (by decide) ?_
    cases hf
    exact zv_sub [2, 3, 1, 0] rfl (show zV X 99 [(0, tA x0), (1, tI x1), (2, tI (x2 + v6)), (3, tI (x3 + (1 : Int32)))] [] h4 nx 0 0 from hp)
theorem v_X11_walls_b99 {X : zX} (K : z_Ok X cX11_walls (some .int) RX11 "walls") (hX : z_Xo X rm_X11_walls 4) {x0 : Option Nat} {x1 : Int32} {x2 : Int32} {x3 : Int32} {h : zH} {nx : Nat} {x : (Int32 × zH)} (hf : f_X11_walls_b99 x0 x1 x2 x3 h = some x) (hp : z_P0I X nx x) : zV X 99 [(0, tA x0), (1, tI x1), (2, tI x2), (3, tI x3)] [] h nx 0 0 :=
  z_it_ind (P := fun s : (Option Nat) × Int32 × Int32 × Int32 × zH => zV X 99 [(0, tA s.1), (1, tI s.2.1), (2, tI s.2.2.1), (3, tI s.2.2.2.1)] [] s.2.2.2.2 nx 0 0) (fun s y hb hy => v_X11_walls_c99 K hX hb (z_PL_of hy hp)) hf
set_option maxHeartbeats 4000000 in
set_option maxRecDepth 100000 in
theorem v_X11_walls_b89 {X : zX} (K : z_Ok X cX11_walls (some .int) RX11 "walls") (hX : z_Xo X rm_X11_walls 4) {x0 : Option Nat} {x1 : Int32} {x2 : Int32} {h : zH} {nx : Nat} {x : (((Option Nat) × Int32 × Int32 × zH) ⊕ (Int32 × zH))} (hf : f_X11_walls_b89 x0 x1 x2 h = some x) (hp : P_X11_walls_49 X nx x) : zV X 89 [(0, tA x0), (1, tI x1), (2, tI x2)] [] h nx 0 0 := by
  unfold f_X11_walls_b89 at hf
  refine zv_iinc K (x2 + (1 : Int32)) 2 [(2, tI (x2 + (1 : Int32))), (0, tA x0), (1, tI x1)] eX11_walls_89 rfl rfl (z_lt hX.2 (by decide)) rfl ?_
  refine zv_goto K 49 eX11_walls_92 (by decide) ?_
  cases hf
  exact zv_sub [1, 2, 0] rfl (show zV X 49 [(0, tA x0), (1, tI x1), (2, tI (x2 + (1 : Int32)))] [] h nx 0 0 from hp)
set_option maxHeartbeats 4000000 in
set_option maxRecDepth 100000 in
theorem v_X11_walls_c49 {X : zX} (K : z_Ok X cX11_walls (some .int) RX11 "walls") (hX : z_Xo X rm_X11_walls 4) {x0 : Option Nat} {x1 : Int32} {x2 : Int32} {h : zH} {nx : Nat} {x : (((Option Nat) × Int32 × Int32 × zH) ⊕ (Int32 × zH))} (hf : f_X11_walls_c49 x0 x1 x2 h = some x) (hp : P_X11_walls_49 X nx x) : zV X 49 [(0, tA x0), (1, tI x1), (2, tI x2)] [] h nx 0 0 := by
  unfold f_X11_walls_c49 at hf
  refine zv_iload_n K 2 eX11_walls_49 rfl ?_
  refine zv_bipush K (64 : Int32) eX11_walls_50 (by decide) ?_
  refine zv_icmp_ge K 95 eX11_walls_52 (by decide) hf (fun _ hf => ?_) (fun _ hf => ?_)
  · obtain ⟨w9, hf9, e9⟩ := z_i1_inv hf; clear hf; subst e9; have hf := hf9; clear hf9
    refine zv_iconst K (0 : Int32) eX11_walls_95 (by decide) ?_
    refine zv_istore_n K [(2, tI (0 : Int32)), (0, tA x0), (1, tI x1)] eX11_walls_96 (z_lt hX.2 (by decide)) rfl ?_
    refine zv_iconst K (0 : Int32) eX11_walls_97 (by decide) ?_
    refine zv_istore_n K [(3, tI (0 : Int32)), (2, tI (0 : Int32)), (0, tA x0), (1, tI x1)] eX11_walls_98 (z_lt hX.2 (by decide)) rfl ?_
    exact zv_sub [2, 3, 1, 0] rfl (v_X11_walls_b99 K hX hf hp)
  · refine zv_aload_n K 0 eX11_walls_55 rfl ?_
    refine zv_gA K eX11_walls_56 fl_X11_32 hf (fun v1 hf => ?_)
    refine zv_bipush K (64 : Int32) eX11_walls_59 (by decide) ?_
    refine zv_iload_n K 1 eX11_walls_61 rfl ?_
    refine zv_imul K eX11_walls_62 ?_
    refine zv_iload_n K 2 eX11_walls_63 rfl ?_
    refine zv_iadd K eX11_walls_64 ?_
    refine zv_aI K eX11_walls_65 hf (fun v2 hf => ?_)
    refine zv_iconst K (1 : Int32) eX11_walls_66 (by decide) ?_
    refine zv_icmp_ne K 89 eX11_walls_67 (by decide) hf (fun _ hf => ?_) (fun _ hf => ?_)
    · exact zv_sub [0, 1, 2] rfl (v_X11_walls_b89 K hX hf hp)
    · refine zv_aload_n K 0 eX11_walls_70 rfl ?_
      refine zv_iload_n K 2 eX11_walls_71 rfl ?_
      obtain ⟨q3, hq3, hf⟩ := z_bind_inv hf
      obtain ⟨v5, h4, eh4, hf⟩ := z_b2_inv hf
      refine zv_cV0 K [tI x2] [] eX11_walls_72 lk_X11_94 md_X11_hasPiece im_X11_hasPiece sl_X11_hasPiece rfl rfl rfl rfl (Nat.le_of_ble_eq_true rfl) hq3 (c_X11_hasPiece X.1.2.1 X.2.2.1 eh4) rfl rfl ⟨z_le (z_fr hX) (by decide), z_le (z_lo hX) (by decide)⟩ ⟨Nat.zero_le _, Nat.zero_le _⟩ ?_
      refine zv_if_ne K 86 eX11_walls_75 (by decide) hf (fun _ hf => ?_) (fun _ hf => ?_)
      · obtain ⟨w9, hf9, e9⟩ := z_i1_inv hf; clear hf; subst e9; have hf := hf9; clear hf9
        refine zv_bipush K (-2 : Int32) eX11_walls_86 (by decide) ?_
        have e9 := Option.some.inj hf; subst e9
        exact zv_iret K eX11_walls_88 hp
      · refine zv_aload_n K 0 eX11_walls_78 rfl ?_
        refine zv_iload_n K 2 eX11_walls_79 rfl ?_
        obtain ⟨q6, hq6, hf⟩ := z_bind_inv hf
        obtain ⟨v8, h7, eh7, hf⟩ := z_b2_inv hf
        refine zv_cV0 K [tI x2] [] eX11_walls_80 lk_X11_97 md_X11_lyingAt im_X11_lyingAt sl_X11_lyingAt rfl rfl rfl rfl (Nat.le_of_ble_eq_true rfl) hq6 (c_X11_lyingAt X.1.2.1 X.2.2.1 eh7) rfl rfl ⟨z_le (z_fr hX) (by decide), z_le (z_lo hX) (by decide)⟩ ⟨Nat.zero_le _, Nat.zero_le _⟩ ?_
        refine zv_if_lt K 89 eX11_walls_83 (by decide) hf (fun _ hf => ?_) (fun _ hf => ?_)
        · exact zv_sub [0, 1, 2] rfl (v_X11_walls_b89 K hX hf hp)
        · obtain ⟨w9, hf9, e9⟩ := z_i1_inv hf; clear hf; subst e9; have hf := hf9; clear hf9
          refine zv_bipush K (-2 : Int32) eX11_walls_86 (by decide) ?_
          have e9 := Option.some.inj hf; subst e9
          exact zv_iret K eX11_walls_88 hp
theorem v_X11_walls_b49 {X : zX} (K : z_Ok X cX11_walls (some .int) RX11 "walls") (hX : z_Xo X rm_X11_walls 4) {x0 : Option Nat} {x1 : Int32} {x2 : Int32} {h : zH} {nx : Nat} {x : (Int32 × zH)} (hf : f_X11_walls_b49 x0 x1 x2 h = some x) (hp : z_P0I X nx x) : zV X 49 [(0, tA x0), (1, tI x1), (2, tI x2)] [] h nx 0 0 :=
  z_it_ind (P := fun s : (Option Nat) × Int32 × Int32 × zH => zV X 49 [(0, tA s.1), (1, tI s.2.1), (2, tI s.2.2.1)] [] s.2.2.2 nx 0 0) (fun s y hb hy => v_X11_walls_c49 K hX hb (z_PL_of hy hp)) hf
set_option maxHeartbeats 4000000 in
set_option maxRecDepth 100000 in
theorem v_X11_walls {X : zX} (K : z_Ok X cX11_walls (some .int) RX11 "walls") (hX : z_Xo X rm_X11_walls 4) {x0 : Option Nat} {x1 : Int32} {h : zH} {nx : Nat} {x : (Int32 × zH)} (hf : f_X11_walls x0 x1 h = some x) (hp : z_P0I X nx x) : zV X 0 [(0, tA x0), (1, tI x1)] [] h nx 0 0 := by
  unfold f_X11_walls at hf
  refine zv_iload_n K 1 eX11_walls_0 rfl ?_
  obtain ⟨v2, h1, eh1, hf⟩ := z_b2_inv hf
  refine zv_cS0 K [tI x1] [] eX11_walls_1 lk_X11_100 md_X11_isSheet st_X11_isSheet rfl rfl (Nat.le_of_ble_eq_true rfl) (c_X11_isSheet X.1.2.1 X.2.2.1 eh1) rfl rfl ⟨z_le (z_fr hX) (by decide), z_le (z_lo hX) (by decide)⟩ ⟨Nat.zero_le _, Nat.zero_le _⟩ ?_
  refine zv_if_ne K 9 eX11_walls_4 (by decide) hf (fun _ hf => ?_) (fun _ hf => ?_)
  · refine zv_aload_n K 0 eX11_walls_9 rfl ?_
    refine zv_gA K eX11_walls_10 fl_X11_26 hf (fun v3 hf => ?_)
    refine zv_iload_n K 1 eX11_walls_13 rfl ?_
    refine zv_aI K eX11_walls_14 hf (fun v4 hf => ?_)
    refine zv_if_ge K 21 eX11_walls_15 (by decide) hf (fun _ hf => ?_) (fun _ hf => ?_)
    · refine zv_aload_n K 0 eX11_walls_21 rfl ?_
      refine zv_gA K eX11_walls_22 fl_X11_26 hf (fun v5 hf => ?_)
      refine zv_iload_n K 1 eX11_walls_25 rfl ?_
      refine zv_aI K eX11_walls_26 hf (fun v6 hf => ?_)
      refine zv_if_eq K 33 eX11_walls_27 (by decide) hf (fun _ hf => ?_) (fun _ hf => ?_)
      · refine zv_aload_n K 0 eX11_walls_33 rfl ?_
        refine zv_gA K eX11_walls_34 fl_X11_29 hf (fun v7 hf => ?_)
        refine zv_iload_n K 1 eX11_walls_37 rfl ?_
        refine zv_aI K eX11_walls_38 hf (fun v8 hf => ?_)
        refine zv_bipush K (64 : Int32) eX11_walls_39 (by decide) ?_
        refine zv_icmp_ge K 47 eX11_walls_41 (by decide) hf (fun _ hf => ?_) (fun _ hf => ?_)
        · refine zv_iconst K (0 : Int32) eX11_walls_47 (by decide) ?_
          refine zv_istore_n K [(2, tI (0 : Int32)), (0, tA x0), (1, tI x1)] eX11_walls_48 (z_lt hX.2 (by decide)) rfl ?_
          exact zv_sub [1, 2, 0] rfl (v_X11_walls_b49 K hX hf hp)
        · refine zv_bipush K (-13 : Int32) eX11_walls_44 (by decide) ?_
          have e9 := Option.some.inj hf; subst e9
          exact zv_iret K eX11_walls_46 hp
      · refine zv_bipush K (-12 : Int32) eX11_walls_30 (by decide) ?_
        have e9 := Option.some.inj hf; subst e9
        exact zv_iret K eX11_walls_32 hp
    · refine zv_bipush K (-11 : Int32) eX11_walls_18 (by decide) ?_
      have e9 := Option.some.inj hf; subst e9
      exact zv_iret K eX11_walls_20 hp
  · refine zv_iconst K (-1 : Int32) eX11_walls_7 (by decide) ?_
    have e9 := Option.some.inj hf; subst e9
    exact zv_iret K eX11_walls_8 hp
theorem c_X11_walls (l : Launch) (G : zG) {x0 : Option Nat} {x1 : Int32} {h : zH} {nx : Nat} {x : Int32 × zH} (hf : f_X11_walls x0 x1 h = some x) : z_Ct l G yX11_walls cX11_walls 4 (some .int) rm_X11_walls [tA x0, tI x1] h nx (some (tI x.1)) x.2 nx 0 0 :=
  z_enter [(0, tA x0), (1, tI x1)] (by decide +kernel) (Nat.le_of_ble_eq_true rfl) rfl (fun X hl hR hG hL K hq => by
    subst hl; subst hG
    exact v_X11_walls K ⟨hR, hL⟩ hf hq)
set_option maxHeartbeats 4000000 in
set_option maxRecDepth 100000 in
theorem v_X11_power {X : zX} (K : z_Ok X cX11_power (some .int) RX11 "power") (hX : z_Xo X rm_X11_power 1) {x0 : Int32} {h : zH} {nx : Nat} {x : (Int32 × zH)} (hf : f_X11_power x0 h = some x) (hp : z_P0I X nx x) : zV X 0 [(0, tI x0)] [] h nx 0 0 := by
  unfold f_X11_power at hf
  refine zv_iconst K (1 : Int32) eX11_power_0 (by decide) ?_
  refine zv_iconst K (2 : Int32) eX11_power_1 (by decide) ?_
  refine zv_iload_n K 0 eX11_power_2 rfl ?_
  refine zv_imul K eX11_power_3 ?_
  refine zv_ishl K eX11_power_4 ?_
  have e9 := Option.some.inj hf; subst e9
  exact zv_iret K eX11_power_5 hp
theorem c_X11_power (l : Launch) (G : zG) {x0 : Int32} {h : zH} {nx : Nat} {x : Int32 × zH} (hf : f_X11_power x0 h = some x) : z_Ct l G yX11_power cX11_power 1 (some .int) rm_X11_power [tI x0] h nx (some (tI x.1)) x.2 nx 0 0 :=
  z_enter [(0, tI x0)] (by decide +kernel) (Nat.le_of_ble_eq_true rfl) rfl (fun X hl hR hG hL K hq => by
    subst hl; subst hG
    exact v_X11_power K ⟨hR, hL⟩ hf hq)
def P_X11_arm_228 (X : zX) (nx : Nat) : ((Option Nat) × Int32 × Int32 × Int32 × zH) ⊕ (Int32 × zH) → Prop := z_PL (fun s => zV X 228 [(0, tA s.1), (3, tI s.2.1), (6, tI s.2.2.1), (7, tI s.2.2.2.1)] [] s.2.2.2.2 nx 0 0) (z_P0I X nx)
def P_X11_arm_174 (X : zX) (nx : Nat) : ((Option Nat) × Int32 × Int32 × Int32 × zH) ⊕ (Int32 × zH) → Prop := z_PL (fun s => zV X 174 [(0, tA s.1), (3, tI s.2.1), (6, tI s.2.2.1), (7, tI s.2.2.2.1)] [] s.2.2.2.2 nx 0 0) (z_P0I X nx)
def P_X11_arm_48 (X : zX) (nx : Nat) : ((Option Nat) × Int32 × Int32 × Int32 × Int32 × zH) ⊕ (Int32 × zH) → Prop := z_PL (fun s => zV X 48 [(0, tA s.1), (3, tI s.2.1), (4, tI s.2.2.1), (5, tI s.2.2.2.1), (6, tI s.2.2.2.2.1)] [] s.2.2.2.2.2 nx 0 0) (z_P0I X nx)
def P_X11_arm_93 (X : zX) (nx : Nat) : ((Option Nat) × Int32 × Int32 × Int32 × Int32 × Int32 × Int32 × zH) ⊕ (((Option Nat) × Int32 × Int32 × Int32 × Int32 × zH) ⊕ (Int32 × zH)) → Prop := z_PL (fun s => zV X 93 [(0, tA s.1), (3, tI s.2.1), (4, tI s.2.2.1), (5, tI s.2.2.2.1), (6, tI s.2.2.2.2.1), (7, tI s.2.2.2.2.2.1), (8, tI s.2.2.2.2.2.2.1)] [] s.2.2.2.2.2.2.2 nx 0 0) (P_X11_arm_48 X nx)
set_option maxHeartbeats 4000000 in
set_option maxRecDepth 100000 in
theorem v_X11_arm_b265 {X : zX} (K : z_Ok X cX11_arm (some .int) RX11 "arm") (hX : z_Xo X rm_X11_arm 9) {x0 : Option Nat} {x3 : Int32} {x6 : Int32} {x7 : Int32} {s0 : Option Nat} {s1 : Int32} {s2 : Int32} {h : zH} {nx : Nat} {x : (((Option Nat) × Int32 × Int32 × Int32 × zH) ⊕ (Int32 × zH))} (hf : f_X11_arm_b265 x0 x3 x6 x7 s0 s1 s2 h = some x) (hp : P_X11_arm_228 X nx x) : zV X 265 [(0, tA x0), (3, tI x3), (6, tI x6), (7, tI x7)] [tI s2, tI s1, tA s0] h nx 0 0 := by
  unfold f_X11_arm_b265 at hf
  refine zv_sI K eX11_arm_265 hf (fun h1 hf => ?_)
  refine zv_aload_n K 0 eX11_arm_266 rfl ?_
  refine zv_gA K eX11_arm_267 fl_X11_7 hf (fun v2 hf => ?_)
  refine zv_iload K 2 eX11_arm_270 rfl ?_
  refine zv_bipush K (19 : Int32) eX11_arm_272 (by decide) ?_
  obtain ⟨v4, h3, eh3, hf⟩ := z_b2_inv hf
  refine zv_cS0 K [tI x6, tI (19 : Int32)] [tA v2] eX11_arm_274 lk_X11_69 md_X11_of st_X11_of rfl rfl (Nat.le_of_ble_eq_true rfl) (c_X11_of X.1.2.1 X.2.2.1 eh3) rfl rfl ⟨z_le (z_fr hX) (by decide), z_le (z_lo hX) (by decide)⟩ ⟨Nat.zero_le _, Nat.zero_le _⟩ ?_
  refine zv_iload K 3 eX11_arm_277 rfl ?_
  refine zv_iadd K eX11_arm_279 ?_
  refine zv_bipush K (-4 : Int32) eX11_arm_280 (by decide) ?_
  refine zv_sI K eX11_arm_282 hf (fun h5 hf => ?_)
  refine zv_iinc K (x7 + (1 : Int32)) 3 [(7, tI (x7 + (1 : Int32))), (0, tA x0), (3, tI x3), (6, tI x6)] eX11_arm_283 rfl rfl (z_lt hX.2 (by decide)) rfl ?_
  refine zv_goto K 228 eX11_arm_286 (by decide) ?_
  cases hf
  exact zv_sub [1, 2, 3, 0] rfl (show zV X 228 [(0, tA x0), (3, tI x3), (6, tI x6), (7, tI (x7 + (1 : Int32)))] [] h5 nx 0 0 from hp)
set_option maxHeartbeats 4000000 in
set_option maxRecDepth 100000 in
theorem v_X11_arm_c228 {X : zX} (K : z_Ok X cX11_arm (some .int) RX11 "arm") (hX : z_Xo X rm_X11_arm 9) {x0 : Option Nat} {x3 : Int32} {x6 : Int32} {x7 : Int32} {h : zH} {nx : Nat} {x : (((Option Nat) × Int32 × Int32 × Int32 × zH) ⊕ (Int32 × zH))} (hf : f_X11_arm_c228 x0 x3 x6 x7 h = some x) (hp : P_X11_arm_228 X nx x) : zV X 228 [(0, tA x0), (3, tI x3), (6, tI x6), (7, tI x7)] [] h nx 0 0 := by
  unfold f_X11_arm_c228 at hf
  refine zv_iload K 3 eX11_arm_228 rfl ?_
  refine zv_bipush K (7 : Int32) eX11_arm_230 (by decide) ?_
  refine zv_icmp_ge K 289 eX11_arm_232 (by decide) hf (fun _ hf => ?_) (fun _ hf => ?_)
  · obtain ⟨w9, hf9, e9⟩ := z_i1_inv hf; clear hf; subst e9; have hf := hf9; clear hf9
    refine zv_aload_n K 0 eX11_arm_289 rfl ?_
    refine zv_gA K eX11_arm_290 fl_X11_7 hf (fun v1 hf => ?_)
    refine zv_bipush K (64 : Int32) eX11_arm_293 (by decide) ?_
    refine zv_dup2 K eX11_arm_295 rfl rfl ?_
    refine zv_aI K eX11_arm_296 hf (fun v2 hf => ?_)
    refine zv_iconst K (1 : Int32) eX11_arm_297 (by decide) ?_
    refine zv_iadd K eX11_arm_298 ?_
    refine zv_sI K eX11_arm_299 hf (fun h3 hf => ?_)
    refine zv_iload K 2 eX11_arm_300 rfl ?_
    have e9 := Option.some.inj hf; subst e9
    exact zv_iret K eX11_arm_302 hp
  · refine zv_aload_n K 0 eX11_arm_235 rfl ?_
    refine zv_gA K eX11_arm_236 fl_X11_7 hf (fun v4 hf => ?_)
    refine zv_iload K 2 eX11_arm_239 rfl ?_
    refine zv_iconst K (5 : Int32) eX11_arm_241 (by decide) ?_
    obtain ⟨v6, h5, eh5, hf⟩ := z_b2_inv hf
    refine zv_cS0 K [tI x6, tI (5 : Int32)] [tA v4] eX11_arm_242 lk_X11_69 md_X11_of st_X11_of rfl rfl (Nat.le_of_ble_eq_true rfl) (c_X11_of X.1.2.1 X.2.2.1 eh5) rfl rfl ⟨z_le (z_fr hX) (by decide), z_le (z_lo hX) (by decide)⟩ ⟨Nat.zero_le _, Nat.zero_le _⟩ ?_
    refine zv_iload K 3 eX11_arm_245 rfl ?_
    refine zv_iadd K eX11_arm_247 ?_
    refine zv_iload K 3 eX11_arm_248 rfl ?_
    refine zv_iload_n K 1 eX11_arm_250 rfl ?_
    refine zv_icmp_ge K 264 eX11_arm_251 (by decide) hf (fun _ hf => ?_) (fun _ hf => ?_)
    · refine zv_iconst K (0 : Int32) eX11_arm_264 (by decide) ?_
      exact zv_sub [0, 1, 2, 3] rfl (v_X11_arm_b265 K hX hf hp)
    · refine zv_aload_n K 0 eX11_arm_254 rfl ?_
      refine zv_gA K eX11_arm_255 fl_X11_35 hf (fun v7 hf => ?_)
      refine zv_iload K 3 eX11_arm_258 rfl ?_
      refine zv_aI K eX11_arm_260 hf (fun v8 hf => ?_)
      refine zv_goto K 265 eX11_arm_261 (by decide) ?_
      exact zv_sub [0, 1, 2, 3] rfl (v_X11_arm_b265 K hX hf hp)
theorem v_X11_arm_b228 {X : zX} (K : z_Ok X cX11_arm (some .int) RX11 "arm") (hX : z_Xo X rm_X11_arm 9) {x0 : Option Nat} {x3 : Int32} {x6 : Int32} {x7 : Int32} {h : zH} {nx : Nat} {x : (Int32 × zH)} (hf : f_X11_arm_b228 x0 x3 x6 x7 h = some x) (hp : z_P0I X nx x) : zV X 228 [(0, tA x0), (3, tI x3), (6, tI x6), (7, tI x7)] [] h nx 0 0 :=
  z_it_ind (P := fun s : (Option Nat) × Int32 × Int32 × Int32 × zH => zV X 228 [(0, tA s.1), (3, tI s.2.1), (6, tI s.2.2.1), (7, tI s.2.2.2.1)] [] s.2.2.2.2 nx 0 0) (fun s y hb hy => v_X11_arm_c228 K hX hb (z_PL_of hy hp)) hf
set_option maxHeartbeats 4000000 in
set_option maxRecDepth 100000 in
theorem v_X11_arm_c174 {X : zX} (K : z_Ok X cX11_arm (some .int) RX11 "arm") (hX : z_Xo X rm_X11_arm 9) {x0 : Option Nat} {x3 : Int32} {x6 : Int32} {x7 : Int32} {h : zH} {nx : Nat} {x : (((Option Nat) × Int32 × Int32 × Int32 × zH) ⊕ (Int32 × zH))} (hf : f_X11_arm_c174 x0 x3 x6 x7 h = some x) (hp : P_X11_arm_174 X nx x) : zV X 174 [(0, tA x0), (3, tI x3), (6, tI x6), (7, tI x7)] [] h nx 0 0 := by
  unfold f_X11_arm_c174 at hf
  refine zv_iload K 3 eX11_arm_174 rfl ?_
  refine zv_bipush K (40 : Int32) eX11_arm_176 (by decide) ?_
  refine zv_icmp_ge K 200 eX11_arm_178 (by decide) hf (fun _ hf => ?_) (fun _ hf => ?_)
  · obtain ⟨w9, hf9, e9⟩ := z_i1_inv hf; clear hf; subst e9; have hf := hf9; clear hf9
    refine zv_aload_n K 0 eX11_arm_200 rfl ?_
    refine zv_gA K eX11_arm_201 fl_X11_7 hf (fun v1 hf => ?_)
    refine zv_iload K 2 eX11_arm_204 rfl ?_
    refine zv_iconst K (0 : Int32) eX11_arm_206 (by decide) ?_
    obtain ⟨v3, h2, eh2, hf⟩ := z_b2_inv hf
    refine zv_cS0 K [tI x6, tI (0 : Int32)] [tA v1] eX11_arm_207 lk_X11_69 md_X11_of st_X11_of rfl rfl (Nat.le_of_ble_eq_true rfl) (c_X11_of X.1.2.1 X.2.2.1 eh2) rfl rfl ⟨z_le (z_fr hX) (by decide), z_le (z_lo hX) (by decide)⟩ ⟨Nat.zero_le _, Nat.zero_le _⟩ ?_
    refine zv_iload_n K 1 eX11_arm_210 rfl ?_
    refine zv_sI K eX11_arm_211 hf (fun h4 hf => ?_)
    refine zv_aload_n K 0 eX11_arm_212 rfl ?_
    refine zv_gA K eX11_arm_213 fl_X11_7 hf (fun v5 hf => ?_)
    refine zv_iload K 2 eX11_arm_216 rfl ?_
    refine zv_iconst K (1 : Int32) eX11_arm_218 (by decide) ?_
    obtain ⟨v7, h6, eh6, hf⟩ := z_b2_inv hf
    refine zv_cS0 K [tI x6, tI (1 : Int32)] [tA v5] eX11_arm_219 lk_X11_69 md_X11_of st_X11_of rfl rfl (Nat.le_of_ble_eq_true rfl) (c_X11_of X.1.2.1 X.2.2.1 eh6) rfl rfl ⟨z_le (z_fr hX) (by decide), z_le (z_lo hX) (by decide)⟩ ⟨Nat.zero_le _, Nat.zero_le _⟩ ?_
    refine zv_bipush K (-4 : Int32) eX11_arm_222 (by decide) ?_
    refine zv_sI K eX11_arm_224 hf (fun h8 hf => ?_)
    refine zv_iconst K (0 : Int32) eX11_arm_225 (by decide) ?_
    refine zv_istore K [(7, tI (0 : Int32)), (0, tA x0), (3, tI x3), (6, tI x6)] eX11_arm_226 (z_lt hX.2 (by decide)) rfl ?_
    exact zv_sub [1, 2, 3, 0] rfl (v_X11_arm_b228 K hX hf hp)
  · refine zv_aload_n K 0 eX11_arm_181 rfl ?_
    refine zv_gA K eX11_arm_182 fl_X11_7 hf (fun v9 hf => ?_)
    refine zv_iload K 2 eX11_arm_185 rfl ?_
    refine zv_iload K 3 eX11_arm_187 rfl ?_
    obtain ⟨v11, h10, eh10, hf⟩ := z_b2_inv hf
    refine zv_cS0 K [tI x6, tI x7] [tA v9] eX11_arm_189 lk_X11_69 md_X11_of st_X11_of rfl rfl (Nat.le_of_ble_eq_true rfl) (c_X11_of X.1.2.1 X.2.2.1 eh10) rfl rfl ⟨z_le (z_fr hX) (by decide), z_le (z_lo hX) (by decide)⟩ ⟨Nat.zero_le _, Nat.zero_le _⟩ ?_
    refine zv_iconst K (0 : Int32) eX11_arm_192 (by decide) ?_
    refine zv_sI K eX11_arm_193 hf (fun h12 hf => ?_)
    refine zv_iinc K (x7 + (1 : Int32)) 3 [(7, tI (x7 + (1 : Int32))), (0, tA x0), (3, tI x3), (6, tI x6)] eX11_arm_194 rfl rfl (z_lt hX.2 (by decide)) rfl ?_
    refine zv_goto K 174 eX11_arm_197 (by decide) ?_
    cases hf
    exact zv_sub [1, 2, 3, 0] rfl (show zV X 174 [(0, tA x0), (3, tI x3), (6, tI x6), (7, tI (x7 + (1 : Int32)))] [] h12 nx 0 0 from hp)
theorem v_X11_arm_b174 {X : zX} (K : z_Ok X cX11_arm (some .int) RX11 "arm") (hX : z_Xo X rm_X11_arm 9) {x0 : Option Nat} {x3 : Int32} {x6 : Int32} {x7 : Int32} {h : zH} {nx : Nat} {x : (Int32 × zH)} (hf : f_X11_arm_b174 x0 x3 x6 x7 h = some x) (hp : z_P0I X nx x) : zV X 174 [(0, tA x0), (3, tI x3), (6, tI x6), (7, tI x7)] [] h nx 0 0 :=
  z_it_ind (P := fun s : (Option Nat) × Int32 × Int32 × Int32 × zH => zV X 174 [(0, tA s.1), (3, tI s.2.1), (6, tI s.2.2.1), (7, tI s.2.2.2.1)] [] s.2.2.2.2 nx 0 0) (fun s y hb hy => v_X11_arm_c174 K hX hb (z_PL_of hy hp)) hf
set_option maxHeartbeats 4000000 in
set_option maxRecDepth 100000 in
theorem v_X11_arm_b130 {X : zX} (K : z_Ok X cX11_arm (some .int) RX11 "arm") (hX : z_Xo X rm_X11_arm 9) {x0 : Option Nat} {x3 : Int32} {x4 : Int32} {x5 : Int32} {x6 : Int32} {x7 : Int32} {h : zH} {nx : Nat} {x : (((Option Nat) × Int32 × Int32 × Int32 × Int32 × zH) ⊕ (Int32 × zH))} (hf : f_X11_arm_b130 x0 x3 x4 x5 x6 x7 h = some x) (hp : P_X11_arm_48 X nx x) : zV X 130 [(0, tA x0), (3, tI x3), (4, tI x4), (5, tI x5), (6, tI x6), (7, tI x7)] [] h nx 0 0 := by
  unfold f_X11_arm_b130 at hf
  refine zv_iload K 5 eX11_arm_130 rfl ?_
  refine zv_if_ne K 138 eX11_arm_132 (by decide) hf (fun _ hf => ?_) (fun _ hf => ?_)
  · refine zv_aload_n K 0 eX11_arm_138 rfl ?_
    refine zv_gA K eX11_arm_139 fl_X11_35 hf (fun v1 hf => ?_)
    refine zv_iload K 4 eX11_arm_142 rfl ?_
    refine zv_iload K 3 eX11_arm_144 rfl ?_
    refine zv_sI K eX11_arm_146 hf (fun h2 hf => ?_)
    refine zv_iinc K (x6 + (1 : Int32)) 4 [(6, tI (x6 + (1 : Int32))), (0, tA x0), (3, tI x3), (4, tI x4), (5, tI x5), (7, tI x7)] eX11_arm_147 rfl rfl (z_lt hX.2 (by decide)) rfl ?_
    refine zv_goto K 48 eX11_arm_150 (by decide) ?_
    cases hf
    exact zv_sub [1, 2, 3, 4, 0] rfl (show zV X 48 [(0, tA x0), (3, tI x3), (4, tI x4), (5, tI x5), (6, tI (x6 + (1 : Int32)))] [] h2 nx 0 0 from hp)
  · obtain ⟨w9, hf9, e9⟩ := z_i1_inv hf; clear hf; subst e9; have hf := hf9; clear hf9
    refine zv_bipush K (-2 : Int32) eX11_arm_135 (by decide) ?_
    have e9 := Option.some.inj hf; subst e9
    exact zv_iret K eX11_arm_137 hp
set_option maxHeartbeats 4000000 in
set_option maxRecDepth 100000 in
theorem v_X11_arm_b122 {X : zX} (K : z_Ok X cX11_arm (some .int) RX11 "arm") (hX : z_Xo X rm_X11_arm 9) {x0 : Option Nat} {x3 : Int32} {x4 : Int32} {x5 : Int32} {x6 : Int32} {x8 : Int32} {s0 : Int32} {h : zH} {nx : Nat} {x : (((Option Nat) × Int32 × Int32 × Int32 × Int32 × Int32 × Int32 × zH) ⊕ (((Option Nat) × Int32 × Int32 × Int32 × Int32 × zH) ⊕ (Int32 × zH)))} (hf : f_X11_arm_b122 x0 x3 x4 x5 x6 x8 s0 h = some x) (hp : P_X11_arm_93 X nx x) : zV X 122 [(0, tA x0), (3, tI x3), (4, tI x4), (5, tI x5), (6, tI x6), (8, tI x8)] [tI s0] h nx 0 0 := by
  unfold f_X11_arm_b122 at hf
  refine zv_istore K [(7, tI s0), (0, tA x0), (3, tI x3), (4, tI x4), (5, tI x5), (6, tI x6), (8, tI x8)] eX11_arm_122 (z_lt hX.2 (by decide)) rfl ?_
  refine zv_iinc K (x8 + (1 : Int32)) 6 [(8, tI (x8 + (1 : Int32))), (7, tI s0), (0, tA x0), (3, tI x3), (4, tI x4), (5, tI x5), (6, tI x6)] eX11_arm_124 rfl rfl (z_lt hX.2 (by decide)) rfl ?_
  refine zv_goto K 93 eX11_arm_127 (by decide) ?_
  cases hf
  exact zv_sub [2, 3, 4, 5, 6, 1, 0] rfl (show zV X 93 [(0, tA x0), (3, tI x3), (4, tI x4), (5, tI x5), (6, tI x6), (7, tI s0), (8, tI (x8 + (1 : Int32)))] [] h nx 0 0 from hp)
set_option maxHeartbeats 4000000 in
set_option maxRecDepth 100000 in
theorem v_X11_arm_c93 {X : zX} (K : z_Ok X cX11_arm (some .int) RX11 "arm") (hX : z_Xo X rm_X11_arm 9) {x0 : Option Nat} {x3 : Int32} {x4 : Int32} {x5 : Int32} {x6 : Int32} {x7 : Int32} {x8 : Int32} {h : zH} {nx : Nat} {x : (((Option Nat) × Int32 × Int32 × Int32 × Int32 × Int32 × Int32 × zH) ⊕ (((Option Nat) × Int32 × Int32 × Int32 × Int32 × zH) ⊕ (Int32 × zH)))} (hf : f_X11_arm_c93 x0 x3 x4 x5 x6 x7 x8 h = some x) (hp : P_X11_arm_93 X nx x) : zV X 93 [(0, tA x0), (3, tI x3), (4, tI x4), (5, tI x5), (6, tI x6), (7, tI x7), (8, tI x8)] [] h nx 0 0 := by
  unfold f_X11_arm_c93 at hf
  refine zv_iload K 6 eX11_arm_93 rfl ?_
  refine zv_iload K 4 eX11_arm_95 rfl ?_
  refine zv_icmp_ge K 130 eX11_arm_97 (by decide) hf (fun _ hf => ?_) (fun _ hf => ?_)
  · obtain ⟨w9, hf9, e9⟩ := z_i1_inv hf; clear hf; subst e9; have hf := hf9; clear hf9
    exact zv_sub [0, 1, 2, 3, 4, 5] rfl (v_X11_arm_b130 K hX hf hp)
  · refine zv_iload K 5 eX11_arm_100 rfl ?_
    refine zv_if_eq K 130 eX11_arm_102 (by decide) hf (fun _ hf => ?_) (fun _ hf => ?_)
    · obtain ⟨w9, hf9, e9⟩ := z_i1_inv hf; clear hf; subst e9; have hf := hf9; clear hf9
      exact zv_sub [0, 1, 2, 3, 4, 5] rfl (v_X11_arm_b130 K hX hf hp)
    · refine zv_aload_n K 0 eX11_arm_105 rfl ?_
      refine zv_gA K eX11_arm_106 fl_X11_35 hf (fun v1 hf => ?_)
      refine zv_iload K 6 eX11_arm_109 rfl ?_
      refine zv_aI K eX11_arm_111 hf (fun v2 hf => ?_)
      refine zv_iload K 3 eX11_arm_112 rfl ?_
      refine zv_icmp_eq K 121 eX11_arm_114 (by decide) hf (fun _ hf => ?_) (fun _ hf => ?_)
      · refine zv_iconst K (0 : Int32) eX11_arm_121 (by decide) ?_
        exact zv_sub [0, 1, 2, 3, 4, 6] rfl (v_X11_arm_b122 K hX hf hp)
      · refine zv_iconst K (1 : Int32) eX11_arm_117 (by decide) ?_
        refine zv_goto K 122 eX11_arm_118 (by decide) ?_
        exact zv_sub [0, 1, 2, 3, 4, 6] rfl (v_X11_arm_b122 K hX hf hp)
theorem v_X11_arm_b93 {X : zX} (K : z_Ok X cX11_arm (some .int) RX11 "arm") (hX : z_Xo X rm_X11_arm 9) {x0 : Option Nat} {x3 : Int32} {x4 : Int32} {x5 : Int32} {x6 : Int32} {x7 : Int32} {x8 : Int32} {h : zH} {nx : Nat} {x : (((Option Nat) × Int32 × Int32 × Int32 × Int32 × zH) ⊕ (Int32 × zH))} (hf : f_X11_arm_b93 x0 x3 x4 x5 x6 x7 x8 h = some x) (hp : P_X11_arm_48 X nx x) : zV X 93 [(0, tA x0), (3, tI x3), (4, tI x4), (5, tI x5), (6, tI x6), (7, tI x7), (8, tI x8)] [] h nx 0 0 :=
  z_it_ind (P := fun s : (Option Nat) × Int32 × Int32 × Int32 × Int32 × Int32 × Int32 × zH => zV X 93 [(0, tA s.1), (3, tI s.2.1), (4, tI s.2.2.1), (5, tI s.2.2.2.1), (6, tI s.2.2.2.2.1), (7, tI s.2.2.2.2.2.1), (8, tI s.2.2.2.2.2.2.1)] [] s.2.2.2.2.2.2.2 nx 0 0) (fun s y hb hy => v_X11_arm_c93 K hX hb (z_PL_of hy hp)) hf
set_option maxHeartbeats 4000000 in
set_option maxRecDepth 100000 in
theorem v_X11_arm_b80 {X : zX} (K : z_Ok X cX11_arm (some .int) RX11 "arm") (hX : z_Xo X rm_X11_arm 9) {x0 : Option Nat} {x3 : Int32} {x4 : Int32} {x6 : Int32} {s0 : Int32} {h : zH} {nx : Nat} {x : (((Option Nat) × Int32 × Int32 × Int32 × Int32 × zH) ⊕ (Int32 × zH))} (hf : f_X11_arm_b80 x0 x3 x4 x6 s0 h = some x) (hp : P_X11_arm_48 X nx x) : zV X 80 [(0, tA x0), (3, tI x3), (4, tI x4), (6, tI x6)] [tI s0] h nx 0 0 := by
  unfold f_X11_arm_b80 at hf
  refine zv_istore K [(5, tI s0), (0, tA x0), (3, tI x3), (4, tI x4), (6, tI x6)] eX11_arm_80 (z_lt hX.2 (by decide)) rfl ?_
  refine zv_aload_n K 1 eX11_arm_82 rfl ?_
  refine zv_iload K 0 eX11_arm_83 rfl ?_
  obtain ⟨q1, hq1, hf⟩ := z_bind_inv hf
  obtain ⟨v3, h2, eh2, hf⟩ := z_b2_inv hf
  refine zv_cV0 K [tI s0] [] eX11_arm_85 lk_X11_106 md_X11_isFree im_X11_isFree sl_X11_isFree rfl rfl rfl rfl (Nat.le_of_ble_eq_true rfl) hq1 (c_X11_isFree X.1.2.1 X.2.2.1 eh2) rfl rfl ⟨z_le (z_fr hX) (by decide), z_le (z_lo hX) (by decide)⟩ ⟨Nat.zero_le _, Nat.zero_le _⟩ ?_
  refine zv_istore K [(7, tI v3), (5, tI s0), (0, tA x0), (3, tI x3), (4, tI x4), (6, tI x6)] eX11_arm_88 (z_lt hX.2 (by decide)) rfl ?_
  refine zv_iconst K (0 : Int32) eX11_arm_90 (by decide) ?_
  refine zv_istore K [(8, tI (0 : Int32)), (7, tI v3), (5, tI s0), (0, tA x0), (3, tI x3), (4, tI x4), (6, tI x6)] eX11_arm_91 (z_lt hX.2 (by decide)) rfl ?_
  exact zv_sub [3, 4, 5, 2, 6, 1, 0] rfl (v_X11_arm_b93 K hX hf hp)
set_option maxHeartbeats 4000000 in
set_option maxRecDepth 100000 in
theorem v_X11_arm_c48 {X : zX} (K : z_Ok X cX11_arm (some .int) RX11 "arm") (hX : z_Xo X rm_X11_arm 9) {x0 : Option Nat} {x3 : Int32} {x4 : Int32} {x5 : Int32} {x6 : Int32} {h : zH} {nx : Nat} {x : (((Option Nat) × Int32 × Int32 × Int32 × Int32 × zH) ⊕ (Int32 × zH))} (hf : f_X11_arm_c48 x0 x3 x4 x5 x6 h = some x) (hp : P_X11_arm_48 X nx x) : zV X 48 [(0, tA x0), (3, tI x3), (4, tI x4), (5, tI x5), (6, tI x6)] [] h nx 0 0 := by
  unfold f_X11_arm_c48 at hf
  refine zv_iload K 4 eX11_arm_48 rfl ?_
  refine zv_iload_n K 1 eX11_arm_50 rfl ?_
  refine zv_icmp_ge K 153 eX11_arm_51 (by decide) hf (fun _ hf => ?_) (fun _ hf => ?_)
  · obtain ⟨w9, hf9, e9⟩ := z_i1_inv hf; clear hf; subst e9; have hf := hf9; clear hf9
    refine zv_aload_n K 0 eX11_arm_153 rfl ?_
    refine zv_gA K eX11_arm_154 fl_X11_7 hf (fun v1 hf => ?_)
    refine zv_bipush K (64 : Int32) eX11_arm_157 (by decide) ?_
    refine zv_aI K eX11_arm_159 hf (fun v2 hf => ?_)
    refine zv_istore K [(6, tI v2), (0, tA x0), (3, tI x3), (4, tI x4), (5, tI x5)] eX11_arm_160 (z_lt hX.2 (by decide)) rfl ?_
    refine zv_iload K 0 eX11_arm_162 rfl ?_
    refine zv_iconst K (3 : Int32) eX11_arm_164 (by decide) ?_
    refine zv_icmp_ne K 171 eX11_arm_165 (by decide) hf (fun _ hf => ?_) (fun _ hf => ?_)
    · refine zv_iconst K (0 : Int32) eX11_arm_171 (by decide) ?_
      refine zv_istore K [(7, tI (0 : Int32)), (6, tI v2), (0, tA x0), (3, tI x3), (4, tI x4), (5, tI x5)] eX11_arm_172 (z_lt hX.2 (by decide)) rfl ?_
      exact zv_sub [2, 3, 1, 0] rfl (v_X11_arm_b174 K hX hf hp)
    · refine zv_bipush K (-3 : Int32) eX11_arm_168 (by decide) ?_
      have e9 := Option.some.inj hf; subst e9
      exact zv_iret K eX11_arm_170 hp
  · refine zv_iload K 4 eX11_arm_54 rfl ?_
    refine zv_if_ne K 64 eX11_arm_56 (by decide) hf (fun _ hf => ?_) (fun _ hf => ?_)
    · refine zv_iload K 3 eX11_arm_64 rfl ?_
      refine zv_iload K 2 eX11_arm_66 rfl ?_
      refine zv_iconst K (2 : Int32) eX11_arm_68 (by decide) ?_
      refine zv_iload K 4 eX11_arm_69 rfl ?_
      refine zv_iconst K (1 : Int32) eX11_arm_71 (by decide) ?_
      refine zv_isub K eX11_arm_72 ?_
      refine zv_imul K eX11_arm_73 ?_
      refine zv_ishr K eX11_arm_74 ?_
      refine zv_iconst K (3 : Int32) eX11_arm_75 (by decide) ?_
      refine zv_iand K eX11_arm_76 ?_
      obtain ⟨v4, h3, eh3, hf⟩ := z_b2_inv hf
      refine zv_cS0 K [tI x5, tI ((x4 >>> (((2 : Int32) * (x6 - (1 : Int32))) &&& 31)) &&& (3 : Int32))] [] eX11_arm_77 lk_X11_91 md_X11_beside st_X11_beside rfl rfl (Nat.le_of_ble_eq_true rfl) (c_X11_beside X.1.2.1 X.2.2.1 eh3) rfl rfl ⟨z_le (z_fr hX) (by decide), z_le (z_lo hX) (by decide)⟩ ⟨Nat.zero_le _, Nat.zero_le _⟩ ?_
      exact zv_sub [0, 1, 2, 4] rfl (v_X11_arm_b80 K hX hf hp)
    · refine zv_iload K 3 eX11_arm_59 rfl ?_
      refine zv_goto K 80 eX11_arm_61 (by decide) ?_
      exact zv_sub [0, 1, 2, 4] rfl (v_X11_arm_b80 K hX hf hp)
theorem v_X11_arm_b48 {X : zX} (K : z_Ok X cX11_arm (some .int) RX11 "arm") (hX : z_Xo X rm_X11_arm 9) {x0 : Option Nat} {x3 : Int32} {x4 : Int32} {x5 : Int32} {x6 : Int32} {h : zH} {nx : Nat} {x : (Int32 × zH)} (hf : f_X11_arm_b48 x0 x3 x4 x5 x6 h = some x) (hp : z_P0I X nx x) : zV X 48 [(0, tA x0), (3, tI x3), (4, tI x4), (5, tI x5), (6, tI x6)] [] h nx 0 0 :=
  z_it_ind (P := fun s : (Option Nat) × Int32 × Int32 × Int32 × Int32 × zH => zV X 48 [(0, tA s.1), (3, tI s.2.1), (4, tI s.2.2.1), (5, tI s.2.2.2.1), (6, tI s.2.2.2.2.1)] [] s.2.2.2.2.2 nx 0 0) (fun s y hb hy => v_X11_arm_c48 K hX hb (z_PL_of hy hp)) hf
set_option maxHeartbeats 4000000 in
set_option maxRecDepth 100000 in
theorem v_X11_arm {X : zX} (K : z_Ok X cX11_arm (some .int) RX11 "arm") (hX : z_Xo X rm_X11_arm 9) {x0 : Option Nat} {x1 : Int32} {x2 : Int32} {x3 : Int32} {x4 : Int32} {h : zH} {nx : Nat} {x : (Int32 × zH)} (hf : f_X11_arm x0 x1 x2 x3 x4 h = some x) (hp : z_P0I X nx x) : zV X 0 [(0, tA x0), (1, tI x1), (2, tI x2), (3, tI x3), (4, tI x4)] [] h nx 0 0 := by
  unfold f_X11_arm at hf
  refine zv_iload_n K 1 eX11_arm_0 rfl ?_
  refine zv_iload_n K 2 eX11_arm_1 rfl ?_
  obtain ⟨v2, h1, eh1, hf⟩ := z_b2_inv hf
  refine zv_cS0 K [tI x1, tI x2] [] eX11_arm_2 lk_X11_87 md_X11_isCell st_X11_isCell rfl rfl (Nat.le_of_ble_eq_true rfl) (c_X11_isCell X.1.2.1 X.2.2.1 eh1) rfl rfl ⟨z_le (z_fr hX) (by decide), z_le (z_lo hX) (by decide)⟩ ⟨Nat.zero_le _, Nat.zero_le _⟩ ?_
  refine zv_if_eq K 35 eX11_arm_5 (by decide) hf (fun _ hf => ?_) (fun _ hf => ?_)
  · refine zv_iconst K (-1 : Int32) eX11_arm_35 (by decide) ?_
    have e9 := Option.some.inj hf; subst e9
    exact zv_iret K eX11_arm_36 hp
  · refine zv_iload_n K 3 eX11_arm_8 rfl ?_
    refine zv_iconst K (2 : Int32) eX11_arm_9 (by decide) ?_
    refine zv_bipush K (7 : Int32) eX11_arm_10 (by decide) ?_
    obtain ⟨v4, h3, eh3, hf⟩ := z_b2_inv hf
    refine zv_cS0 K [tI x3, tI (2 : Int32), tI (7 : Int32)] [] eX11_arm_12 lk_X11_65 md_X11_in st_X11_in rfl rfl (Nat.le_of_ble_eq_true rfl) (c_X11_in X.1.2.1 X.2.2.1 eh3) rfl rfl ⟨z_le (z_fr hX) (by decide), z_le (z_lo hX) (by decide)⟩ ⟨Nat.zero_le _, Nat.zero_le _⟩ ?_
    refine zv_if_eq K 35 eX11_arm_15 (by decide) hf (fun _ hf => ?_) (fun _ hf => ?_)
    · refine zv_iconst K (-1 : Int32) eX11_arm_35 (by decide) ?_
      have e9 := Option.some.inj hf; subst e9
      exact zv_iret K eX11_arm_36 hp
    · refine zv_iload K 4 eX11_arm_18 rfl ?_
      refine zv_iconst K (0 : Int32) eX11_arm_20 (by decide) ?_
      refine zv_iload_n K 3 eX11_arm_21 rfl ?_
      refine zv_iconst K (1 : Int32) eX11_arm_22 (by decide) ?_
      refine zv_isub K eX11_arm_23 ?_
      obtain ⟨v6, h5, eh5, hf⟩ := z_b2_inv hf
      refine zv_cS0 K [tI (x3 - (1 : Int32))] [tI (0 : Int32), tI x4] eX11_arm_24 lk_X11_103 md_X11_power st_X11_power rfl rfl (Nat.le_of_ble_eq_true rfl) (c_X11_power X.1.2.1 X.2.2.1 eh5) rfl rfl ⟨z_le (z_fr hX) (by decide), z_le (z_lo hX) (by decide)⟩ ⟨Nat.zero_le _, Nat.zero_le _⟩ ?_
      refine zv_iconst K (1 : Int32) eX11_arm_27 (by decide) ?_
      refine zv_isub K eX11_arm_28 ?_
      obtain ⟨v8, h7, eh7, hf⟩ := z_b2_inv hf
      refine zv_cS0 K [tI x4, tI (0 : Int32), tI (v6 - (1 : Int32))] [] eX11_arm_29 lk_X11_65 md_X11_in st_X11_in rfl rfl (Nat.le_of_ble_eq_true rfl) (c_X11_in X.1.2.1 X.2.2.1 eh7) rfl rfl ⟨z_le (z_fr hX) (by decide), z_le (z_lo hX) (by decide)⟩ ⟨Nat.zero_le _, Nat.zero_le _⟩ ?_
      refine zv_if_ne K 37 eX11_arm_32 (by decide) hf (fun _ hf => ?_) (fun _ hf => ?_)
      · refine zv_bipush K (8 : Int32) eX11_arm_37 (by decide) ?_
        refine zv_iload_n K 2 eX11_arm_39 rfl ?_
        refine zv_imul K eX11_arm_40 ?_
        refine zv_iload_n K 1 eX11_arm_41 rfl ?_
        refine zv_iadd K eX11_arm_42 ?_
        refine zv_istore K [(5, tI (((8 : Int32) * x2) + x1)), (0, tA x0), (1, tI x1), (2, tI x2), (3, tI x3), (4, tI x4)] eX11_arm_43 (z_lt hX.2 (by decide)) rfl ?_
        refine zv_iconst K (0 : Int32) eX11_arm_45 (by decide) ?_
        refine zv_istore K [(6, tI (0 : Int32)), (5, tI (((8 : Int32) * x2) + x1)), (0, tA x0), (1, tI x1), (2, tI x2), (3, tI x3), (4, tI x4)] eX11_arm_46 (z_lt hX.2 (by decide)) rfl ?_
        exact zv_sub [2, 5, 6, 1, 0] rfl (v_X11_arm_b48 K hX hf hp)
      · refine zv_iconst K (-1 : Int32) eX11_arm_35 (by decide) ?_
        have e9 := Option.some.inj hf; subst e9
        exact zv_iret K eX11_arm_36 hp
theorem c_X11_arm (l : Launch) (G : zG) {x0 : Option Nat} {x1 : Int32} {x2 : Int32} {x3 : Int32} {x4 : Int32} {h : zH} {nx : Nat} {x : Int32 × zH} (hf : f_X11_arm x0 x1 x2 x3 x4 h = some x) : z_Ct l G yX11_arm cX11_arm 9 (some .int) rm_X11_arm [tA x0, tI x1, tI x2, tI x3, tI x4] h nx (some (tI x.1)) x.2 nx 0 0 :=
  z_enter [(0, tA x0), (1, tI x1), (2, tI x2), (3, tI x3), (4, tI x4)] (by decide +kernel) (Nat.le_of_ble_eq_true rfl) rfl (fun X hl hR hG hL K hq => by
    subst hl; subst hG
    exact v_X11_arm K ⟨hR, hL⟩ hf hq)
set_option maxHeartbeats 4000000 in
set_option maxRecDepth 100000 in
theorem v_X11_thing {X : zX} (K : z_Ok X cX11_thing (some .int) RX11 "thing") (hX : z_Xo X rm_X11_thing 6) {x0 : Option Nat} {x1 : Int32} {x2 : Int32} {x3 : Int32} {h : zH} {nx : Nat} {x : (Int32 × zH)} (hf : f_X11_thing x0 x1 x2 x3 h = some x) (hp : z_P0I X nx x) : zV X 0 [(0, tA x0), (1, tI x1), (2, tI x2), (3, tI x3)] [] h nx 0 0 := by
  unfold f_X11_thing at hf
  refine zv_iload_n K 1 eX11_thing_0 rfl ?_
  refine zv_iload_n K 2 eX11_thing_1 rfl ?_
  obtain ⟨v2, h1, eh1, hf⟩ := z_b2_inv hf
  refine zv_cS0 K [tI x1, tI x2] [] eX11_thing_2 lk_X11_87 md_X11_isCell st_X11_isCell rfl rfl (Nat.le_of_ble_eq_true rfl) (c_X11_isCell X.1.2.1 X.2.2.1 eh1) rfl rfl ⟨z_le (z_fr hX) (by decide), z_le (z_lo hX) (by decide)⟩ ⟨Nat.zero_le _, Nat.zero_le _⟩ ?_
  refine zv_if_eq K 17 eX11_thing_5 (by decide) hf (fun _ hf => ?_) (fun _ hf => ?_)
  · refine zv_iconst K (-1 : Int32) eX11_thing_17 (by decide) ?_
    have e9 := Option.some.inj hf; subst e9
    exact zv_iret K eX11_thing_18 hp
  · refine zv_iload_n K 3 eX11_thing_8 rfl ?_
    refine zv_iconst K (0 : Int32) eX11_thing_9 (by decide) ?_
    refine zv_iconst K (3 : Int32) eX11_thing_10 (by decide) ?_
    obtain ⟨v4, h3, eh3, hf⟩ := z_b2_inv hf
    refine zv_cS0 K [tI x3, tI (0 : Int32), tI (3 : Int32)] [] eX11_thing_11 lk_X11_65 md_X11_in st_X11_in rfl rfl (Nat.le_of_ble_eq_true rfl) (c_X11_in X.1.2.1 X.2.2.1 eh3) rfl rfl ⟨z_le (z_fr hX) (by decide), z_le (z_lo hX) (by decide)⟩ ⟨Nat.zero_le _, Nat.zero_le _⟩ ?_
    refine zv_if_ne K 19 eX11_thing_14 (by decide) hf (fun _ hf => ?_) (fun _ hf => ?_)
    · refine zv_bipush K (8 : Int32) eX11_thing_19 (by decide) ?_
      refine zv_iload_n K 2 eX11_thing_21 rfl ?_
      refine zv_imul K eX11_thing_22 ?_
      refine zv_iload_n K 1 eX11_thing_23 rfl ?_
      refine zv_iadd K eX11_thing_24 ?_
      refine zv_istore K [(4, tI (((8 : Int32) * x2) + x1)), (0, tA x0), (1, tI x1), (2, tI x2), (3, tI x3)] eX11_thing_25 (z_lt hX.2 (by decide)) rfl ?_
      refine zv_aload_n K 1 eX11_thing_27 rfl ?_
      refine zv_gA K eX11_thing_28 fl_X11_7 hf (fun v5 hf => ?_)
      refine zv_iload K 0 eX11_thing_31 rfl ?_
      refine zv_aI K eX11_thing_33 hf (fun v6 hf => ?_)
      refine zv_iconst K (1 : Int32) eX11_thing_34 (by decide) ?_
      refine zv_icmp_eq K 47 eX11_thing_35 (by decide) hf (fun _ hf => ?_) (fun _ hf => ?_)
      · refine zv_bipush K (-2 : Int32) eX11_thing_47 (by decide) ?_
        have e9 := Option.some.inj hf; subst e9
        exact zv_iret K eX11_thing_49 hp
      · refine zv_aload_n K 1 eX11_thing_38 rfl ?_
        refine zv_iload K 0 eX11_thing_39 rfl ?_
        obtain ⟨q7, hq7, hf⟩ := z_bind_inv hf
        obtain ⟨v9, h8, eh8, hf⟩ := z_b2_inv hf
        refine zv_cV0 K [tI (((8 : Int32) * x2) + x1)] [] eX11_thing_41 lk_X11_97 md_X11_lyingAt im_X11_lyingAt sl_X11_lyingAt rfl rfl rfl rfl (Nat.le_of_ble_eq_true rfl) hq7 (c_X11_lyingAt X.1.2.1 X.2.2.1 eh8) rfl rfl ⟨z_le (z_fr hX) (by decide), z_le (z_lo hX) (by decide)⟩ ⟨Nat.zero_le _, Nat.zero_le _⟩ ?_
        refine zv_if_lt K 50 eX11_thing_44 (by decide) hf (fun _ hf => ?_) (fun _ hf => ?_)
        · refine zv_aload_n K 1 eX11_thing_50 rfl ?_
          refine zv_gA K eX11_thing_51 fl_X11_7 hf (fun v10 hf => ?_)
          refine zv_bipush K (65 : Int32) eX11_thing_54 (by decide) ?_
          refine zv_aI K eX11_thing_56 hf (fun v11 hf => ?_)
          refine zv_istore K [(5, tI v11), (4, tI (((8 : Int32) * x2) + x1)), (0, tA x0), (1, tI x1), (2, tI x2), (3, tI x3)] eX11_thing_57 (z_lt hX.2 (by decide)) rfl ?_
          refine zv_iload K 0 eX11_thing_59 rfl ?_
          refine zv_bipush K (8 : Int32) eX11_thing_61 (by decide) ?_
          refine zv_icmp_ne K 69 eX11_thing_63 (by decide) hf (fun _ hf => ?_) (fun _ hf => ?_)
          · refine zv_aload_n K 2 eX11_thing_69 rfl ?_
            refine zv_gA K eX11_thing_70 fl_X11_7 hf (fun v12 hf => ?_)
            refine zv_iload K 0 eX11_thing_73 rfl ?_
            obtain ⟨v14, h13, eh13, hf⟩ := z_b2_inv hf
            refine zv_cS0 K [tI v11] [tA v12] eX11_thing_75 lk_X11_84 md_X11_thingAt st_X11_thingAt rfl rfl (Nat.le_of_ble_eq_true rfl) (c_X11_thingAt X.1.2.1 X.2.2.1 eh13) rfl rfl ⟨z_le (z_fr hX) (by decide), z_le (z_lo hX) (by decide)⟩ ⟨Nat.zero_le _, Nat.zero_le _⟩ ?_
            refine zv_iconst K (0 : Int32) eX11_thing_78 (by decide) ?_
            refine zv_sI K eX11_thing_79 hf (fun h15 hf => ?_)
            refine zv_aload_n K 2 eX11_thing_80 rfl ?_
            refine zv_gA K eX11_thing_81 fl_X11_7 hf (fun v16 hf => ?_)
            refine zv_iload K 0 eX11_thing_84 rfl ?_
            obtain ⟨v18, h17, eh17, hf⟩ := z_b2_inv hf
            refine zv_cS0 K [tI v11] [tA v16] eX11_thing_86 lk_X11_84 md_X11_thingAt st_X11_thingAt rfl rfl (Nat.le_of_ble_eq_true rfl) (c_X11_thingAt X.1.2.1 X.2.2.1 eh17) rfl rfl ⟨z_le (z_fr hX) (by decide), z_le (z_lo hX) (by decide)⟩ ⟨Nat.zero_le _, Nat.zero_le _⟩ ?_
            refine zv_iconst K (1 : Int32) eX11_thing_89 (by decide) ?_
            refine zv_iadd K eX11_thing_90 ?_
            refine zv_iload K 1 eX11_thing_91 rfl ?_
            refine zv_sI K eX11_thing_93 hf (fun h19 hf => ?_)
            refine zv_aload_n K 2 eX11_thing_94 rfl ?_
            refine zv_gA K eX11_thing_95 fl_X11_7 hf (fun v20 hf => ?_)
            refine zv_iload K 0 eX11_thing_98 rfl ?_
            obtain ⟨v22, h21, eh21, hf⟩ := z_b2_inv hf
            refine zv_cS0 K [tI v11] [tA v20] eX11_thing_100 lk_X11_84 md_X11_thingAt st_X11_thingAt rfl rfl (Nat.le_of_ble_eq_true rfl) (c_X11_thingAt X.1.2.1 X.2.2.1 eh21) rfl rfl ⟨z_le (z_fr hX) (by decide), z_le (z_lo hX) (by decide)⟩ ⟨Nat.zero_le _, Nat.zero_le _⟩ ?_
            refine zv_iconst K (2 : Int32) eX11_thing_103 (by decide) ?_
            refine zv_iadd K eX11_thing_104 ?_
            refine zv_iload_n K 5 eX11_thing_105 rfl ?_
            refine zv_sI K eX11_thing_106 hf (fun h23 hf => ?_)
            refine zv_aload_n K 2 eX11_thing_107 rfl ?_
            refine zv_gA K eX11_thing_108 fl_X11_7 hf (fun v24 hf => ?_)
            refine zv_iload K 0 eX11_thing_111 rfl ?_
            obtain ⟨v26, h25, eh25, hf⟩ := z_b2_inv hf
            refine zv_cS0 K [tI v11] [tA v24] eX11_thing_113 lk_X11_84 md_X11_thingAt st_X11_thingAt rfl rfl (Nat.le_of_ble_eq_true rfl) (c_X11_thingAt X.1.2.1 X.2.2.1 eh25) rfl rfl ⟨z_le (z_fr hX) (by decide), z_le (z_lo hX) (by decide)⟩ ⟨Nat.zero_le _, Nat.zero_le _⟩ ?_
            refine zv_iconst K (3 : Int32) eX11_thing_116 (by decide) ?_
            refine zv_iadd K eX11_thing_117 ?_
            refine zv_bipush K (-4 : Int32) eX11_thing_118 (by decide) ?_
            refine zv_sI K eX11_thing_120 hf (fun h27 hf => ?_)
            refine zv_aload_n K 2 eX11_thing_121 rfl ?_
            refine zv_gA K eX11_thing_122 fl_X11_7 hf (fun v28 hf => ?_)
            refine zv_bipush K (65 : Int32) eX11_thing_125 (by decide) ?_
            refine zv_dup2 K eX11_thing_127 rfl rfl ?_
            refine zv_aI K eX11_thing_128 hf (fun v29 hf => ?_)
            refine zv_iconst K (1 : Int32) eX11_thing_129 (by decide) ?_
            refine zv_iadd K eX11_thing_130 ?_
            refine zv_sI K eX11_thing_131 hf (fun h30 hf => ?_)
            refine zv_iload K 0 eX11_thing_132 rfl ?_
            have e9 := Option.some.inj hf; subst e9
            exact zv_iret K eX11_thing_134 hp
          · refine zv_bipush K (-3 : Int32) eX11_thing_66 (by decide) ?_
            have e9 := Option.some.inj hf; subst e9
            exact zv_iret K eX11_thing_68 hp
        · refine zv_bipush K (-2 : Int32) eX11_thing_47 (by decide) ?_
          have e9 := Option.some.inj hf; subst e9
          exact zv_iret K eX11_thing_49 hp
    · refine zv_iconst K (-1 : Int32) eX11_thing_17 (by decide) ?_
      have e9 := Option.some.inj hf; subst e9
      exact zv_iret K eX11_thing_18 hp
theorem c_X11_thing (l : Launch) (G : zG) {x0 : Option Nat} {x1 : Int32} {x2 : Int32} {x3 : Int32} {h : zH} {nx : Nat} {x : Int32 × zH} (hf : f_X11_thing x0 x1 x2 x3 h = some x) : z_Ct l G yX11_thing cX11_thing 6 (some .int) rm_X11_thing [tA x0, tI x1, tI x2, tI x3] h nx (some (tI x.1)) x.2 nx 0 0 :=
  z_enter [(0, tA x0), (1, tI x1), (2, tI x2), (3, tI x3)] (by decide +kernel) (Nat.le_of_ble_eq_true rfl) rfl (fun X hl hR hG hL K hq => by
    subst hl; subst hG
    exact v_X11_thing K ⟨hR, hL⟩ hf hq)
set_option maxHeartbeats 4000000 in
set_option maxRecDepth 100000 in
theorem v_X11_cutOf {X : zX} (K : z_Ok X cX11_cutOf (some .int) RX11 "cutOf") (hX : z_Xo X rm_X11_cutOf 2) {x0 : Option Nat} {x1 : Int32} {h : zH} {nx : Nat} {x : (Int32 × zH)} (hf : f_X11_cutOf x0 x1 h = some x) (hp : z_P0I X nx x) : zV X 0 [(0, tA x0), (1, tI x1)] [] h nx 0 0 := by
  unfold f_X11_cutOf at hf
  refine zv_aload_n K 0 eX11_cutOf_0 rfl ?_
  refine zv_gA K eX11_cutOf_1 fl_X11_7 hf (fun v1 hf => ?_)
  refine zv_iload_n K 1 eX11_cutOf_4 rfl ?_
  refine zv_iconst K (1 : Int32) eX11_cutOf_5 (by decide) ?_
  obtain ⟨v3, h2, eh2, hf⟩ := z_b2_inv hf
  refine zv_cS0 K [tI x1, tI (1 : Int32)] [tA v1] eX11_cutOf_6 lk_X11_69 md_X11_of st_X11_of rfl rfl (Nat.le_of_ble_eq_true rfl) (c_X11_of X.1.2.1 X.2.2.1 eh2) rfl rfl ⟨z_le (z_fr hX) (by decide), z_le (z_lo hX) (by decide)⟩ ⟨Nat.zero_le _, Nat.zero_le _⟩ ?_
  refine zv_aI K eX11_cutOf_9 hf (fun v4 hf => ?_)
  have e9 := Option.some.inj hf; subst e9
  exact zv_iret K eX11_cutOf_10 hp
theorem c_X11_cutOf (l : Launch) (G : zG) {x0 : Option Nat} {x1 : Int32} {h : zH} {nx : Nat} {x : Int32 × zH} (hf : f_X11_cutOf x0 x1 h = some x) : z_Ct l G yX11_cutOf cX11_cutOf 2 (some .int) rm_X11_cutOf [tA x0, tI x1] h nx (some (tI x.1)) x.2 nx 0 0 :=
  z_enter [(0, tA x0), (1, tI x1)] (by decide +kernel) (Nat.le_of_ble_eq_true rfl) rfl (fun X hl hR hG hL K hq => by
    subst hl; subst hG
    exact v_X11_cutOf K ⟨hR, hL⟩ hf hq)
set_option maxHeartbeats 4000000 in
set_option maxRecDepth 100000 in
theorem v_X11_isTip {X : zX} (K : z_Ok X cX11_isTip (some .boolean) RX11 "isTip") (hX : z_Xo X rm_X11_isTip 3) {x0 : Option Nat} {x1 : Int32} {x2 : Int32} {h : zH} {nx : Nat} {x : (Int32 × zH)} (hf : f_X11_isTip x0 x1 x2 h = some x) (hp : z_P0I X nx x) : zV X 0 [(0, tA x0), (1, tI x1), (2, tI x2)] [] h nx 0 0 := by
  unfold f_X11_isTip at hf
  refine zv_iload_n K 2 eX11_isTip_0 rfl ?_
  refine zv_aload_n K 0 eX11_isTip_1 rfl ?_
  refine zv_iload_n K 1 eX11_isTip_2 rfl ?_
  obtain ⟨q1, hq1, hf⟩ := z_bind_inv hf
  obtain ⟨v3, h2, eh2, hf⟩ := z_b2_inv hf
  refine zv_cV0 K [tI x1] [tI x2] eX11_isTip_3 lk_X11_77 md_X11_pieces im_X11_pieces sl_X11_pieces rfl rfl rfl rfl (Nat.le_of_ble_eq_true rfl) hq1 (c_X11_pieces X.1.2.1 X.2.2.1 eh2) rfl rfl ⟨z_le (z_fr hX) (by decide), z_le (z_lo hX) (by decide)⟩ ⟨Nat.zero_le _, Nat.zero_le _⟩ ?_
  refine zv_iconst K (1 : Int32) eX11_isTip_6 (by decide) ?_
  refine zv_isub K eX11_isTip_7 ?_
  refine zv_icmp_eq K 22 eX11_isTip_8 (by decide) hf (fun _ hf => ?_) (fun _ hf => ?_)
  · refine zv_iconst K (1 : Int32) eX11_isTip_22 (by decide) ?_
    refine zv_goto K 27 eX11_isTip_23 (by decide) ?_
    cases hf
    exact zv_zret K eX11_isTip_27 (by decide) hp
  · refine zv_aload_n K 0 eX11_isTip_11 rfl ?_
    refine zv_iload_n K 1 eX11_isTip_12 rfl ?_
    obtain ⟨q4, hq4, hf⟩ := z_bind_inv hf
    obtain ⟨v6, h5, eh5, hf⟩ := z_b2_inv hf
    refine zv_cV0 K [tI x1] [] eX11_isTip_13 lk_X11_109 md_X11_cutOf im_X11_cutOf sl_X11_cutOf rfl rfl rfl rfl (Nat.le_of_ble_eq_true rfl) hq4 (c_X11_cutOf X.1.2.1 X.2.2.1 eh5) rfl rfl ⟨z_le (z_fr hX) (by decide), z_le (z_lo hX) (by decide)⟩ ⟨Nat.zero_le _, Nat.zero_le _⟩ ?_
    refine zv_iload_n K 2 eX11_isTip_16 rfl ?_
    refine zv_iconst K (1 : Int32) eX11_isTip_17 (by decide) ?_
    refine zv_iadd K eX11_isTip_18 ?_
    refine zv_icmp_ne K 26 eX11_isTip_19 (by decide) hf (fun _ hf => ?_) (fun _ hf => ?_)
    · refine zv_iconst K (0 : Int32) eX11_isTip_26 (by decide) ?_
      cases hf
      exact zv_zret K eX11_isTip_27 (by decide) hp
    · refine zv_iconst K (1 : Int32) eX11_isTip_22 (by decide) ?_
      refine zv_goto K 27 eX11_isTip_23 (by decide) ?_
      cases hf
      exact zv_zret K eX11_isTip_27 (by decide) hp
theorem c_X11_isTip (l : Launch) (G : zG) {x0 : Option Nat} {x1 : Int32} {x2 : Int32} {h : zH} {nx : Nat} {x : Int32 × zH} (hf : f_X11_isTip x0 x1 x2 h = some x) : z_Ct l G yX11_isTip cX11_isTip 3 (some .boolean) rm_X11_isTip [tA x0, tI x1, tI x2] h nx (some (tI x.1)) x.2 nx 0 0 :=
  z_enter [(0, tA x0), (1, tI x1), (2, tI x2)] (by decide +kernel) (Nat.le_of_ble_eq_true rfl) rfl (fun X hl hR hG hL K hq => by
    subst hl; subst hG
    exact v_X11_isTip K ⟨hR, hL⟩ hf hq)
set_option maxHeartbeats 4000000 in
set_option maxRecDepth 100000 in
theorem v_X11_piece {X : zX} (K : z_Ok X cX11_piece (some .int) RX11 "piece") (hX : z_Xo X rm_X11_piece 4) {x0 : Option Nat} {x1 : Int32} {x2 : Int32} {x3 : Int32} {h : zH} {nx : Nat} {x : (Int32 × zH)} (hf : f_X11_piece x0 x1 x2 x3 h = some x) (hp : z_P0I X nx x) : zV X 0 [(0, tA x0), (1, tI x1), (2, tI x2), (3, tI x3)] [] h nx 0 0 := by
  unfold f_X11_piece at hf
  refine zv_aload_n K 0 eX11_piece_0 rfl ?_
  refine zv_iload_n K 1 eX11_piece_1 rfl ?_
  refine zv_iload_n K 2 eX11_piece_2 rfl ?_
  obtain ⟨q1, hq1, hf⟩ := z_bind_inv hf
  obtain ⟨v3, h2, eh2, hf⟩ := z_b2_inv hf
  refine zv_cV0 K [tI x1, tI x2] [] eX11_piece_3 lk_X11_112 md_X11_isPiece im_X11_isPiece sl_X11_isPiece rfl rfl rfl rfl (Nat.le_of_ble_eq_true rfl) hq1 (c_X11_isPiece X.1.2.1 X.2.2.1 eh2) rfl rfl ⟨z_le (z_fr hX) (by decide), z_le (z_lo hX) (by decide)⟩ ⟨Nat.zero_le _, Nat.zero_le _⟩ ?_
  refine zv_if_ne K 11 eX11_piece_6 (by decide) hf (fun _ hf => ?_) (fun _ hf => ?_)
  · refine zv_iload_n K 3 eX11_piece_11 rfl ?_
    refine z_ite_inv _ hf (fun c0 hf => ?_) (fun c0 hf => ?_)
    · refine zv_tswIn K (off := 40) (0 : Int32) 52 eX11_piece_12 c0 (by decide) (by decide) (by rfl) (by decide) ?_
      refine zv_aload_n K 0 eX11_piece_52 rfl ?_
      refine zv_iload_n K 1 eX11_piece_53 rfl ?_
      refine zv_iload_n K 2 eX11_piece_54 rfl ?_
      obtain ⟨q4, hq4, hf⟩ := z_bind_inv hf
      obtain ⟨v6, h5, eh5, hf⟩ := z_b2_inv hf
      refine zv_cV0 K [tI x1, tI x2] [] eX11_piece_55 lk_X11_81 md_X11_cell im_X11_cell sl_X11_cell rfl rfl rfl rfl (Nat.le_of_ble_eq_true rfl) hq4 (c_X11_cell X.1.2.1 X.2.2.1 eh5) rfl rfl ⟨z_le (z_fr hX) (by decide), z_le (z_lo hX) (by decide)⟩ ⟨Nat.zero_le _, Nat.zero_le _⟩ ?_
      have e9 := Option.some.inj hf; subst e9
      exact zv_iret K eX11_piece_58 hp
    refine z_ite_inv _ hf (fun c1 hf => ?_) (fun c1 hf => ?_)
    · refine zv_tswIn K (off := 47) (1 : Int32) 59 eX11_piece_12 c1 (by decide) (by decide) (by rfl) (by decide) ?_
      refine zv_aload_n K 0 eX11_piece_59 rfl ?_
      refine zv_gA K eX11_piece_60 fl_X11_7 hf (fun v7 hf => ?_)
      refine zv_iload_n K 1 eX11_piece_63 rfl ?_
      refine zv_bipush K (12 : Int32) eX11_piece_64 (by decide) ?_
      obtain ⟨v9, h8, eh8, hf⟩ := z_b2_inv hf
      refine zv_cS0 K [tI x1, tI (12 : Int32)] [tA v7] eX11_piece_66 lk_X11_69 md_X11_of st_X11_of rfl rfl (Nat.le_of_ble_eq_true rfl) (c_X11_of X.1.2.1 X.2.2.1 eh8) rfl rfl ⟨z_le (z_fr hX) (by decide), z_le (z_lo hX) (by decide)⟩ ⟨Nat.zero_le _, Nat.zero_le _⟩ ?_
      refine zv_iload_n K 2 eX11_piece_69 rfl ?_
      refine zv_iadd K eX11_piece_70 ?_
      refine zv_aI K eX11_piece_71 hf (fun v10 hf => ?_)
      have e9 := Option.some.inj hf; subst e9
      exact zv_iret K eX11_piece_72 hp
    refine z_ite_inv _ hf (fun c2 hf => ?_) (fun c2 hf => ?_)
    · refine zv_tswIn K (off := 61) (2 : Int32) 73 eX11_piece_12 c2 (by decide) (by decide) (by rfl) (by decide) ?_
      refine zv_aload_n K 0 eX11_piece_73 rfl ?_
      refine zv_gA K eX11_piece_74 fl_X11_7 hf (fun v11 hf => ?_)
      refine zv_iload_n K 1 eX11_piece_77 rfl ?_
      refine zv_bipush K (19 : Int32) eX11_piece_78 (by decide) ?_
      obtain ⟨v13, h12, eh12, hf⟩ := z_b2_inv hf
      refine zv_cS0 K [tI x1, tI (19 : Int32)] [tA v11] eX11_piece_80 lk_X11_69 md_X11_of st_X11_of rfl rfl (Nat.le_of_ble_eq_true rfl) (c_X11_of X.1.2.1 X.2.2.1 eh12) rfl rfl ⟨z_le (z_fr hX) (by decide), z_le (z_lo hX) (by decide)⟩ ⟨Nat.zero_le _, Nat.zero_le _⟩ ?_
      refine zv_iload_n K 2 eX11_piece_83 rfl ?_
      refine zv_iadd K eX11_piece_84 ?_
      refine zv_aI K eX11_piece_85 hf (fun v14 hf => ?_)
      have e9 := Option.some.inj hf; subst e9
      exact zv_iret K eX11_piece_86 hp
    refine z_ite_inv _ hf (fun c3 hf => ?_) (fun c3 hf => ?_)
    · refine zv_tswIn K (off := 75) (3 : Int32) 87 eX11_piece_12 c3 (by decide) (by decide) (by rfl) (by decide) ?_
      refine zv_aload_n K 0 eX11_piece_87 rfl ?_
      refine zv_gA K eX11_piece_88 fl_X11_7 hf (fun v15 hf => ?_)
      refine zv_iload_n K 1 eX11_piece_91 rfl ?_
      refine zv_bipush K (26 : Int32) eX11_piece_92 (by decide) ?_
      obtain ⟨v17, h16, eh16, hf⟩ := z_b2_inv hf
      refine zv_cS0 K [tI x1, tI (26 : Int32)] [tA v15] eX11_piece_94 lk_X11_69 md_X11_of st_X11_of rfl rfl (Nat.le_of_ble_eq_true rfl) (c_X11_of X.1.2.1 X.2.2.1 eh16) rfl rfl ⟨z_le (z_fr hX) (by decide), z_le (z_lo hX) (by decide)⟩ ⟨Nat.zero_le _, Nat.zero_le _⟩ ?_
      refine zv_iload_n K 2 eX11_piece_97 rfl ?_
      refine zv_iadd K eX11_piece_98 ?_
      refine zv_aI K eX11_piece_99 hf (fun v18 hf => ?_)
      have e9 := Option.some.inj hf; subst e9
      exact zv_iret K eX11_piece_100 hp
    refine z_ite_inv _ hf (fun c4 hf => ?_) (fun c4 hf => ?_)
    · refine zv_tswIn K (off := 89) (4 : Int32) 101 eX11_piece_12 c4 (by decide) (by decide) (by rfl) (by decide) ?_
      refine zv_aload_n K 0 eX11_piece_101 rfl ?_
      refine zv_iload_n K 1 eX11_piece_102 rfl ?_
      obtain ⟨q19, hq19, hf⟩ := z_bind_inv hf
      obtain ⟨v21, h20, eh20, hf⟩ := z_b2_inv hf
      refine zv_cV0 K [tI x1] [] eX11_piece_103 lk_X11_109 md_X11_cutOf im_X11_cutOf sl_X11_cutOf rfl rfl rfl rfl (Nat.le_of_ble_eq_true rfl) hq19 (c_X11_cutOf X.1.2.1 X.2.2.1 eh20) rfl rfl ⟨z_le (z_fr hX) (by decide), z_le (z_lo hX) (by decide)⟩ ⟨Nat.zero_le _, Nat.zero_le _⟩ ?_
      refine zv_if_lt K 122 eX11_piece_106 (by decide) hf (fun _ hf => ?_) (fun _ hf => ?_)
      · refine zv_iconst K (0 : Int32) eX11_piece_122 (by decide) ?_
        have e9 := Option.some.inj hf; subst e9
        exact zv_iret K eX11_piece_123 hp
      · refine zv_iload_n K 2 eX11_piece_109 rfl ?_
        refine zv_aload_n K 0 eX11_piece_110 rfl ?_
        refine zv_iload_n K 1 eX11_piece_111 rfl ?_
        obtain ⟨q22, hq22, hf⟩ := z_bind_inv hf
        obtain ⟨v24, h23, eh23, hf⟩ := z_b2_inv hf
        refine zv_cV0 K [tI x1] [tI x2] eX11_piece_112 lk_X11_109 md_X11_cutOf im_X11_cutOf sl_X11_cutOf rfl rfl rfl rfl (Nat.le_of_ble_eq_true rfl) hq22 (c_X11_cutOf X.1.2.1 X.2.2.1 eh23) rfl rfl ⟨z_le (z_fr hX) (by decide), z_le (z_lo hX) (by decide)⟩ ⟨Nat.zero_le _, Nat.zero_le _⟩ ?_
        refine zv_icmp_lt K 122 eX11_piece_115 (by decide) hf (fun _ hf => ?_) (fun _ hf => ?_)
        · refine zv_iconst K (0 : Int32) eX11_piece_122 (by decide) ?_
          have e9 := Option.some.inj hf; subst e9
          exact zv_iret K eX11_piece_123 hp
        · refine zv_iconst K (1 : Int32) eX11_piece_118 (by decide) ?_
          refine zv_goto K 123 eX11_piece_119 (by decide) ?_
          have e9 := Option.some.inj hf; subst e9
          exact zv_iret K eX11_piece_123 hp
    refine z_ite_inv _ hf (fun c5 hf => ?_) (fun c5 hf => ?_)
    · refine zv_tswIn K (off := 112) (5 : Int32) 124 eX11_piece_12 c5 (by decide) (by decide) (by rfl) (by decide) ?_
      refine zv_aload_n K 0 eX11_piece_124 rfl ?_
      refine zv_iload_n K 1 eX11_piece_125 rfl ?_
      refine zv_iload_n K 2 eX11_piece_126 rfl ?_
      obtain ⟨q25, hq25, hf⟩ := z_bind_inv hf
      obtain ⟨v27, h26, eh26, hf⟩ := z_b2_inv hf
      refine zv_cV0 K [tI x1, tI x2] [] eX11_piece_127 lk_X11_115 md_X11_isTip im_X11_isTip sl_X11_isTip rfl rfl rfl rfl (Nat.le_of_ble_eq_true rfl) hq25 (c_X11_isTip X.1.2.1 X.2.2.1 eh26) rfl rfl ⟨z_le (z_fr hX) (by decide), z_le (z_lo hX) (by decide)⟩ ⟨Nat.zero_le _, Nat.zero_le _⟩ ?_
      refine zv_if_eq K 137 eX11_piece_130 (by decide) hf (fun _ hf => ?_) (fun _ hf => ?_)
      · refine zv_iconst K (0 : Int32) eX11_piece_137 (by decide) ?_
        have e9 := Option.some.inj hf; subst e9
        exact zv_iret K eX11_piece_138 hp
      · refine zv_iconst K (1 : Int32) eX11_piece_133 (by decide) ?_
        refine zv_goto K 138 eX11_piece_134 (by decide) ?_
        have e9 := Option.some.inj hf; subst e9
        exact zv_iret K eX11_piece_138 hp
    have ec0 := lv_neT (a := 0) c0 (by decide)
    have ec1 := lv_neT (a := 1) c1 (by decide)
    have ec2 := lv_neT (a := 2) c2 (by decide)
    have ec3 := lv_neT (a := 3) c3 (by decide)
    have ec4 := lv_neT (a := 4) c4 (by decide)
    have ec5 := lv_neT (a := 5) c5 (by decide)
    refine zv_tswOut K 139 eX11_piece_12 (by omega) (by decide) ?_
    refine zv_iconst K (-1 : Int32) eX11_piece_139 (by decide) ?_
    have e9 := Option.some.inj hf; subst e9
    exact zv_iret K eX11_piece_140 hp
  · refine zv_iconst K (-1 : Int32) eX11_piece_9 (by decide) ?_
    have e9 := Option.some.inj hf; subst e9
    exact zv_iret K eX11_piece_10 hp
theorem c_X11_piece (l : Launch) (G : zG) {x0 : Option Nat} {x1 : Int32} {x2 : Int32} {x3 : Int32} {h : zH} {nx : Nat} {x : Int32 × zH} (hf : f_X11_piece x0 x1 x2 x3 h = some x) : z_Ct l G yX11_piece cX11_piece 4 (some .int) rm_X11_piece [tA x0, tI x1, tI x2, tI x3] h nx (some (tI x.1)) x.2 nx 0 0 :=
  z_enter [(0, tA x0), (1, tI x1), (2, tI x2), (3, tI x3)] (by decide +kernel) (Nat.le_of_ble_eq_true rfl) rfl (fun X hl hR hG hL K hq => by
    subst hl; subst hG
    exact v_X11_piece K ⟨hR, hL⟩ hf hq)
set_option maxHeartbeats 4000000 in
set_option maxRecDepth 100000 in
theorem v_X11_told {X : zX} (K : z_Ok X cX11_told (some .int) RX11 "told") (hX : z_Xo X rm_X11_told 5) {x0 : Option Nat} {x1 : Int32} {x2 : Int32} {h : zH} {nx : Nat} {x : (Int32 × zH)} (hf : f_X11_told x0 x1 x2 h = some x) (hp : z_P0I X nx x) : zV X 0 [(0, tA x0), (1, tI x1), (2, tI x2)] [] h nx 0 0 := by
  unfold f_X11_told at hf
  refine zv_aload_n K 0 eX11_told_0 rfl ?_
  refine zv_iload_n K 1 eX11_told_1 rfl ?_
  obtain ⟨q1, hq1, hf⟩ := z_bind_inv hf
  obtain ⟨v3, h2, eh2, hf⟩ := z_b2_inv hf
  refine zv_cV0 K [tI x1] [] eX11_told_2 lk_X11_118 md_X11_isThing im_X11_isThing sl_X11_isThing rfl rfl rfl rfl (Nat.le_of_ble_eq_true rfl) hq1 (c_X11_isThing X.1.2.1 X.2.2.1 eh2) rfl rfl ⟨z_le (z_fr hX) (by decide), z_le (z_lo hX) (by decide)⟩ ⟨Nat.zero_le _, Nat.zero_le _⟩ ?_
  refine zv_if_eq K 17 eX11_told_5 (by decide) hf (fun _ hf => ?_) (fun _ hf => ?_)
  · refine zv_iconst K (-1 : Int32) eX11_told_17 (by decide) ?_
    have e9 := Option.some.inj hf; subst e9
    exact zv_iret K eX11_told_18 hp
  · refine zv_iload_n K 2 eX11_told_8 rfl ?_
    refine zv_iconst K (0 : Int32) eX11_told_9 (by decide) ?_
    refine zv_iconst K (3 : Int32) eX11_told_10 (by decide) ?_
    obtain ⟨v5, h4, eh4, hf⟩ := z_b2_inv hf
    refine zv_cS0 K [tI x2, tI (0 : Int32), tI (3 : Int32)] [] eX11_told_11 lk_X11_65 md_X11_in st_X11_in rfl rfl (Nat.le_of_ble_eq_true rfl) (c_X11_in X.1.2.1 X.2.2.1 eh4) rfl rfl ⟨z_le (z_fr hX) (by decide), z_le (z_lo hX) (by decide)⟩ ⟨Nat.zero_le _, Nat.zero_le _⟩ ?_
    refine zv_if_ne K 19 eX11_told_14 (by decide) hf (fun _ hf => ?_) (fun _ hf => ?_)
    · refine zv_aload_n K 0 eX11_told_19 rfl ?_
      refine zv_gA K eX11_told_20 fl_X11_7 hf (fun v6 hf => ?_)
      refine zv_iload_n K 1 eX11_told_23 rfl ?_
      obtain ⟨v8, h7, eh7, hf⟩ := z_b2_inv hf
      refine zv_cS0 K [tI x1] [tA v6] eX11_told_24 lk_X11_84 md_X11_thingAt st_X11_thingAt rfl rfl (Nat.le_of_ble_eq_true rfl) (c_X11_thingAt X.1.2.1 X.2.2.1 eh7) rfl rfl ⟨z_le (z_fr hX) (by decide), z_le (z_lo hX) (by decide)⟩ ⟨Nat.zero_le _, Nat.zero_le _⟩ ?_
      refine zv_aI K eX11_told_27 hf (fun v9 hf => ?_)
      refine zv_istore_n K [(3, tI v9), (0, tA x0), (1, tI x1), (2, tI x2)] eX11_told_28 (z_lt hX.2 (by decide)) rfl ?_
      refine zv_aload_n K 1 eX11_told_29 rfl ?_
      refine zv_gA K eX11_told_30 fl_X11_7 hf (fun v10 hf => ?_)
      refine zv_iload_n K 2 eX11_told_33 rfl ?_
      obtain ⟨v12, h11, eh11, hf⟩ := z_b2_inv hf
      refine zv_cS0 K [tI x1] [tA v10] eX11_told_34 lk_X11_84 md_X11_thingAt st_X11_thingAt rfl rfl (Nat.le_of_ble_eq_true rfl) (c_X11_thingAt X.1.2.1 X.2.2.1 eh11) rfl rfl ⟨z_le (z_fr hX) (by decide), z_le (z_lo hX) (by decide)⟩ ⟨Nat.zero_le _, Nat.zero_le _⟩ ?_
      refine zv_iconst K (3 : Int32) eX11_told_37 (by decide) ?_
      refine zv_iadd K eX11_told_38 ?_
      refine zv_aI K eX11_told_39 hf (fun v13 hf => ?_)
      refine zv_istore K [(4, tI v13), (3, tI v9), (0, tA x0), (1, tI x1), (2, tI x2)] eX11_told_40 (z_lt hX.2 (by decide)) rfl ?_
      refine zv_iload_n K 4 eX11_told_42 rfl ?_
      refine zv_iconst K (1 : Int32) eX11_told_43 (by decide) ?_
      refine zv_icmp_ne K 90 eX11_told_44 (by decide) hf (fun _ hf => ?_) (fun _ hf => ?_)
      · refine zv_iload_n K 4 eX11_told_90 rfl ?_
        refine zv_if_ne K 98 eX11_told_91 (by decide) hf (fun _ hf => ?_) (fun _ hf => ?_)
        · refine zv_iload_n K 4 eX11_told_98 rfl ?_
          refine zv_iconst K (2 : Int32) eX11_told_99 (by decide) ?_
          refine zv_icmp_ne K 117 eX11_told_100 (by decide) hf (fun _ hf => ?_) (fun _ hf => ?_)
          · refine zv_iload K 0 eX11_told_117 rfl ?_
            have e9 := Option.some.inj hf; subst e9
            exact zv_iret K eX11_told_119 hp
          · refine zv_aload_n K 2 eX11_told_103 rfl ?_
            refine zv_gA K eX11_told_104 fl_X11_7 hf (fun v14 hf => ?_)
            refine zv_iload_n K 3 eX11_told_107 rfl ?_
            obtain ⟨v16, h15, eh15, hf⟩ := z_b2_inv hf
            refine zv_cS0 K [tI x1] [tA v14] eX11_told_108 lk_X11_84 md_X11_thingAt st_X11_thingAt rfl rfl (Nat.le_of_ble_eq_true rfl) (c_X11_thingAt X.1.2.1 X.2.2.1 eh15) rfl rfl ⟨z_le (z_fr hX) (by decide), z_le (z_lo hX) (by decide)⟩ ⟨Nat.zero_le _, Nat.zero_le _⟩ ?_
            refine zv_iconst K (2 : Int32) eX11_told_111 (by decide) ?_
            refine zv_iadd K eX11_told_112 ?_
            refine zv_aI K eX11_told_113 hf (fun v17 hf => ?_)
            refine zv_goto K 119 eX11_told_114 (by decide) ?_
            have e9 := Option.some.inj hf; subst e9
            exact zv_iret K eX11_told_119 hp
        · refine zv_iload_n K 1 eX11_told_94 rfl ?_
          refine zv_goto K 119 eX11_told_95 (by decide) ?_
          have e9 := Option.some.inj hf; subst e9
          exact zv_iret K eX11_told_119 hp
      · refine zv_iload_n K 1 eX11_told_47 rfl ?_
        refine zv_if_ne K 65 eX11_told_48 (by decide) hf (fun _ hf => ?_) (fun _ hf => ?_)
        · refine zv_iload_n K 1 eX11_told_65 rfl ?_
          refine zv_iconst K (1 : Int32) eX11_told_66 (by decide) ?_
          refine zv_icmp_ne K 87 eX11_told_67 (by decide) hf (fun _ hf => ?_) (fun _ hf => ?_)
          · refine zv_bipush K (-4 : Int32) eX11_told_87 (by decide) ?_
            have e9 := Option.some.inj hf; subst e9
            exact zv_iret K eX11_told_89 hp
          · refine zv_aload_n K 2 eX11_told_70 rfl ?_
            refine zv_iload K 0 eX11_told_71 rfl ?_
            refine zv_bipush K (10 : Int32) eX11_told_73 (by decide) ?_
            refine zv_idiv K eX11_told_75 (by decide) ?_
            refine zv_iload K 0 eX11_told_76 rfl ?_
            refine zv_bipush K (10 : Int32) eX11_told_78 (by decide) ?_
            refine zv_irem K eX11_told_80 (by decide) ?_
            obtain ⟨q18, hq18, hf⟩ := z_bind_inv hf
            obtain ⟨v20, h19, eh19, hf⟩ := z_b2_inv hf
            refine zv_cV0 K [tI (v13 / (10 : Int32)), tI (v13 - v13 / (10 : Int32) * (10 : Int32))] [] eX11_told_81 lk_X11_81 md_X11_cell im_X11_cell sl_X11_cell rfl rfl rfl rfl (Nat.le_of_ble_eq_true rfl) hq18 (c_X11_cell X.1.2.1 X.2.2.1 eh19) rfl rfl ⟨z_le (z_fr hX) (by decide), z_le (z_lo hX) (by decide)⟩ ⟨Nat.zero_le _, Nat.zero_le _⟩ ?_
            refine zv_goto K 89 eX11_told_84 (by decide) ?_
            have e9 := Option.some.inj hf; subst e9
            exact zv_iret K eX11_told_89 hp
        · refine zv_aload_n K 2 eX11_told_51 rfl ?_
          refine zv_gA K eX11_told_52 fl_X11_7 hf (fun v21 hf => ?_)
          refine zv_iload_n K 3 eX11_told_55 rfl ?_
          obtain ⟨v23, h22, eh22, hf⟩ := z_b2_inv hf
          refine zv_cS0 K [tI x1] [tA v21] eX11_told_56 lk_X11_84 md_X11_thingAt st_X11_thingAt rfl rfl (Nat.le_of_ble_eq_true rfl) (c_X11_thingAt X.1.2.1 X.2.2.1 eh22) rfl rfl ⟨z_le (z_fr hX) (by decide), z_le (z_lo hX) (by decide)⟩ ⟨Nat.zero_le _, Nat.zero_le _⟩ ?_
          refine zv_iconst K (1 : Int32) eX11_told_59 (by decide) ?_
          refine zv_iadd K eX11_told_60 ?_
          refine zv_aI K eX11_told_61 hf (fun v24 hf => ?_)
          refine zv_goto K 89 eX11_told_62 (by decide) ?_
          have e9 := Option.some.inj hf; subst e9
          exact zv_iret K eX11_told_89 hp
    · refine zv_iconst K (-1 : Int32) eX11_told_17 (by decide) ?_
      have e9 := Option.some.inj hf; subst e9
      exact zv_iret K eX11_told_18 hp
theorem c_X11_told (l : Launch) (G : zG) {x0 : Option Nat} {x1 : Int32} {x2 : Int32} {h : zH} {nx : Nat} {x : Int32 × zH} (hf : f_X11_told x0 x1 x2 h = some x) : z_Ct l G yX11_told cX11_told 5 (some .int) rm_X11_told [tA x0, tI x1, tI x2] h nx (some (tI x.1)) x.2 nx 0 0 :=
  z_enter [(0, tA x0), (1, tI x1), (2, tI x2)] (by decide +kernel) (Nat.le_of_ble_eq_true rfl) rfl (fun X hl hR hG hL K hq => by
    subst hl; subst hG
    exact v_X11_told K ⟨hR, hL⟩ hf hq)
def P_X11_formOf_4 (X : zX) (nx : Nat) : ((Option Nat) × Int32 × Int32 × Int32 × zH) ⊕ (Int32 × zH) → Prop := z_PL (fun s => zV X 4 [(0, tA s.1), (1, tI s.2.1), (2, tI s.2.2.1), (3, tI s.2.2.2.1)] [] s.2.2.2.2 nx 0 0) (z_P0I X nx)
set_option maxHeartbeats 4000000 in
set_option maxRecDepth 100000 in
theorem v_X11_formOf_c4 {X : zX} (K : z_Ok X cX11_formOf (some .int) RX11 "formOf") (hX : z_Xo X rm_X11_formOf 4) {x0 : Option Nat} {x1 : Int32} {x2 : Int32} {x3 : Int32} {h : zH} {nx : Nat} {x : (((Option Nat) × Int32 × Int32 × Int32 × zH) ⊕ (Int32 × zH))} (hf : f_X11_formOf_c4 x0 x1 x2 x3 h = some x) (hp : P_X11_formOf_4 X nx x) : zV X 4 [(0, tA x0), (1, tI x1), (2, tI x2), (3, tI x3)] [] h nx 0 0 := by
  unfold f_X11_formOf_c4 at hf
  refine zv_iload_n K 3 eX11_formOf_4 rfl ?_
  refine zv_aload_n K 0 eX11_formOf_5 rfl ?_
  refine zv_iload_n K 1 eX11_formOf_6 rfl ?_
  obtain ⟨q1, hq1, hf⟩ := z_bind_inv hf
  obtain ⟨v3, h2, eh2, hf⟩ := z_b2_inv hf
  refine zv_cV0 K [tI x1] [tI x3] eX11_formOf_7 lk_X11_77 md_X11_pieces im_X11_pieces sl_X11_pieces rfl rfl rfl rfl (Nat.le_of_ble_eq_true rfl) hq1 (c_X11_pieces X.1.2.1 X.2.2.1 eh2) rfl rfl ⟨z_le (z_fr hX) (by decide), z_le (z_lo hX) (by decide)⟩ ⟨Nat.zero_le _, Nat.zero_le _⟩ ?_
  refine zv_icmp_ge K 45 eX11_formOf_10 (by decide) hf (fun _ hf => ?_) (fun _ hf => ?_)
  · obtain ⟨w9, hf9, e9⟩ := z_i1_inv hf; clear hf; subst e9; have hf := hf9; clear hf9
    refine zv_iload_n K 2 eX11_formOf_45 rfl ?_
    have e9 := Option.some.inj hf; subst e9
    exact zv_iret K eX11_formOf_46 hp
  · refine zv_iload_n K 2 eX11_formOf_13 rfl ?_
    refine zv_aload_n K 0 eX11_formOf_14 rfl ?_
    refine zv_iload_n K 1 eX11_formOf_15 rfl ?_
    refine zv_iload_n K 3 eX11_formOf_16 rfl ?_
    refine zv_iconst K (1 : Int32) eX11_formOf_17 (by decide) ?_
    refine zv_isub K eX11_formOf_18 ?_
    obtain ⟨q4, hq4, hf⟩ := z_bind_inv hf
    obtain ⟨v6, h5, eh5, hf⟩ := z_b2_inv hf
    refine zv_cV0 K [tI x1, tI (x3 - (1 : Int32))] [tI x2] eX11_formOf_19 lk_X11_81 md_X11_cell im_X11_cell sl_X11_cell rfl rfl rfl rfl (Nat.le_of_ble_eq_true rfl) hq4 (c_X11_cell X.1.2.1 X.2.2.1 eh5) rfl rfl ⟨z_le (z_fr hX) (by decide), z_le (z_lo hX) (by decide)⟩ ⟨Nat.zero_le _, Nat.zero_le _⟩ ?_
    refine zv_aload_n K 0 eX11_formOf_22 rfl ?_
    refine zv_iload_n K 1 eX11_formOf_23 rfl ?_
    refine zv_iload_n K 3 eX11_formOf_24 rfl ?_
    obtain ⟨q7, hq7, hf⟩ := z_bind_inv hf
    obtain ⟨v9, h8, eh8, hf⟩ := z_b2_inv hf
    refine zv_cV0 K [tI x1, tI x3] [tI v6, tI x2] eX11_formOf_25 lk_X11_81 md_X11_cell im_X11_cell sl_X11_cell rfl rfl rfl rfl (Nat.le_of_ble_eq_true rfl) hq7 (c_X11_cell X.1.2.1 X.2.2.1 eh8) rfl rfl ⟨z_le (z_fr hX) (by decide), z_le (z_lo hX) (by decide)⟩ ⟨Nat.zero_le _, Nat.zero_le _⟩ ?_
    obtain ⟨v11, h10, eh10, hf⟩ := z_b2_inv hf
    refine zv_cS0 K [tI v6, tI v9] [tI x2] eX11_formOf_28 lk_X11_124 md_X11_sideTo st_X11_sideTo rfl rfl (Nat.le_of_ble_eq_true rfl) (c_X11_sideTo X.1.2.1 X.2.2.1 eh10) rfl rfl ⟨z_le (z_fr hX) (by decide), z_le (z_lo hX) (by decide)⟩ ⟨Nat.zero_le _, Nat.zero_le _⟩ ?_
    refine zv_iconst K (2 : Int32) eX11_formOf_31 (by decide) ?_
    refine zv_iload_n K 3 eX11_formOf_32 rfl ?_
    refine zv_iconst K (1 : Int32) eX11_formOf_33 (by decide) ?_
    refine zv_isub K eX11_formOf_34 ?_
    refine zv_imul K eX11_formOf_35 ?_
    refine zv_ishl K eX11_formOf_36 ?_
    refine zv_ior K eX11_formOf_37 ?_
    refine zv_istore_n K [(2, tI (x2 ||| (v11 <<< (((2 : Int32) * (x3 - (1 : Int32))) &&& 31)))), (0, tA x0), (1, tI x1), (3, tI x3)] eX11_formOf_38 (z_lt hX.2 (by decide)) rfl ?_
    refine zv_iinc K (x3 + (1 : Int32)) 3 [(3, tI (x3 + (1 : Int32))), (2, tI (x2 ||| (v11 <<< (((2 : Int32) * (x3 - (1 : Int32))) &&& 31)))), (0, tA x0), (1, tI x1)] eX11_formOf_39 rfl rfl (z_lt hX.2 (by decide)) rfl ?_
    refine zv_goto K 4 eX11_formOf_42 (by decide) ?_
    cases hf
    exact zv_sub [2, 3, 1, 0] rfl (show zV X 4 [(0, tA x0), (1, tI x1), (2, tI (x2 ||| (v11 <<< (((2 : Int32) * (x3 - (1 : Int32))) &&& 31)))), (3, tI (x3 + (1 : Int32)))] [] h10 nx 0 0 from hp)
theorem v_X11_formOf_b4 {X : zX} (K : z_Ok X cX11_formOf (some .int) RX11 "formOf") (hX : z_Xo X rm_X11_formOf 4) {x0 : Option Nat} {x1 : Int32} {x2 : Int32} {x3 : Int32} {h : zH} {nx : Nat} {x : (Int32 × zH)} (hf : f_X11_formOf_b4 x0 x1 x2 x3 h = some x) (hp : z_P0I X nx x) : zV X 4 [(0, tA x0), (1, tI x1), (2, tI x2), (3, tI x3)] [] h nx 0 0 :=
  z_it_ind (P := fun s : (Option Nat) × Int32 × Int32 × Int32 × zH => zV X 4 [(0, tA s.1), (1, tI s.2.1), (2, tI s.2.2.1), (3, tI s.2.2.2.1)] [] s.2.2.2.2 nx 0 0) (fun s y hb hy => v_X11_formOf_c4 K hX hb (z_PL_of hy hp)) hf
set_option maxHeartbeats 4000000 in
set_option maxRecDepth 100000 in
theorem v_X11_formOf {X : zX} (K : z_Ok X cX11_formOf (some .int) RX11 "formOf") (hX : z_Xo X rm_X11_formOf 4) {x0 : Option Nat} {x1 : Int32} {h : zH} {nx : Nat} {x : (Int32 × zH)} (hf : f_X11_formOf x0 x1 h = some x) (hp : z_P0I X nx x) : zV X 0 [(0, tA x0), (1, tI x1)] [] h nx 0 0 := by
  unfold f_X11_formOf at hf
  refine zv_iconst K (0 : Int32) eX11_formOf_0 (by decide) ?_
  refine zv_istore_n K [(2, tI (0 : Int32)), (0, tA x0), (1, tI x1)] eX11_formOf_1 (z_lt hX.2 (by decide)) rfl ?_
  refine zv_iconst K (1 : Int32) eX11_formOf_2 (by decide) ?_
  refine zv_istore_n K [(3, tI (1 : Int32)), (2, tI (0 : Int32)), (0, tA x0), (1, tI x1)] eX11_formOf_3 (z_lt hX.2 (by decide)) rfl ?_
  exact zv_sub [2, 3, 1, 0] rfl (v_X11_formOf_b4 K hX hf hp)
theorem c_X11_formOf (l : Launch) (G : zG) {x0 : Option Nat} {x1 : Int32} {h : zH} {nx : Nat} {x : Int32 × zH} (hf : f_X11_formOf x0 x1 h = some x) : z_Ct l G yX11_formOf cX11_formOf 4 (some .int) rm_X11_formOf [tA x0, tI x1] h nx (some (tI x.1)) x.2 nx 0 0 :=
  z_enter [(0, tA x0), (1, tI x1)] (by decide +kernel) (Nat.le_of_ble_eq_true rfl) rfl (fun X hl hR hG hL K hq => by
    subst hl; subst hG
    exact v_X11_formOf K ⟨hR, hL⟩ hf hq)
set_option maxHeartbeats 4000000 in
set_option maxRecDepth 100000 in
theorem v_X11_form {X : zX} (K : z_Ok X cX11_form (some .int) RX11 "form") (hX : z_Xo X rm_X11_form 2) {x0 : Option Nat} {x1 : Int32} {h : zH} {nx : Nat} {x : (Int32 × zH)} (hf : f_X11_form x0 x1 h = some x) (hp : z_P0I X nx x) : zV X 0 [(0, tA x0), (1, tI x1)] [] h nx 0 0 := by
  unfold f_X11_form at hf
  refine zv_aload_n K 0 eX11_form_0 rfl ?_
  refine zv_iload_n K 1 eX11_form_1 rfl ?_
  obtain ⟨q1, hq1, hf⟩ := z_bind_inv hf
  obtain ⟨v3, h2, eh2, hf⟩ := z_b2_inv hf
  refine zv_cV0 K [tI x1] [] eX11_form_2 lk_X11_73 md_X11_isArm im_X11_isArm sl_X11_isArm rfl rfl rfl rfl (Nat.le_of_ble_eq_true rfl) hq1 (c_X11_isArm X.1.2.1 X.2.2.1 eh2) rfl rfl ⟨z_le (z_fr hX) (by decide), z_le (z_lo hX) (by decide)⟩ ⟨Nat.zero_le _, Nat.zero_le _⟩ ?_
  refine zv_if_ne K 10 eX11_form_5 (by decide) hf (fun _ hf => ?_) (fun _ hf => ?_)
  · refine zv_aload_n K 0 eX11_form_10 rfl ?_
    refine zv_iload_n K 1 eX11_form_11 rfl ?_
    obtain ⟨q4, hq4, hf⟩ := z_bind_inv hf
    obtain ⟨v6, h5, eh5, hf⟩ := z_b2_inv hf
    refine zv_cV0 K [tI x1] [] eX11_form_12 lk_X11_109 md_X11_cutOf im_X11_cutOf sl_X11_cutOf rfl rfl rfl rfl (Nat.le_of_ble_eq_true rfl) hq4 (c_X11_cutOf X.1.2.1 X.2.2.1 eh5) rfl rfl ⟨z_le (z_fr hX) (by decide), z_le (z_lo hX) (by decide)⟩ ⟨Nat.zero_le _, Nat.zero_le _⟩ ?_
    refine zv_if_lt K 23 eX11_form_15 (by decide) hf (fun _ hf => ?_) (fun _ hf => ?_)
    · refine zv_aload_n K 0 eX11_form_23 rfl ?_
      refine zv_iload_n K 1 eX11_form_24 rfl ?_
      obtain ⟨q7, hq7, hf⟩ := z_bind_inv hf
      obtain ⟨v9, h8, eh8, hf⟩ := z_b2_inv hf
      refine zv_cV0 K [tI x1] [] eX11_form_25 lk_X11_121 md_X11_formOf im_X11_formOf sl_X11_formOf rfl rfl rfl rfl (Nat.le_of_ble_eq_true rfl) hq7 (c_X11_formOf X.1.2.1 X.2.2.1 eh8) rfl rfl ⟨z_le (z_fr hX) (by decide), z_le (z_lo hX) (by decide)⟩ ⟨Nat.zero_le _, Nat.zero_le _⟩ ?_
      have e9 := Option.some.inj hf; subst e9
      exact zv_iret K eX11_form_28 hp
    · refine zv_bipush K (-2 : Int32) eX11_form_18 (by decide) ?_
      refine zv_goto K 28 eX11_form_20 (by decide) ?_
      have e9 := Option.some.inj hf; subst e9
      exact zv_iret K eX11_form_28 hp
  · refine zv_iconst K (-1 : Int32) eX11_form_8 (by decide) ?_
    have e9 := Option.some.inj hf; subst e9
    exact zv_iret K eX11_form_9 hp
theorem c_X11_form (l : Launch) (G : zG) {x0 : Option Nat} {x1 : Int32} {h : zH} {nx : Nat} {x : Int32 × zH} (hf : f_X11_form x0 x1 h = some x) : z_Ct l G yX11_form cX11_form 2 (some .int) rm_X11_form [tA x0, tI x1] h nx (some (tI x.1)) x.2 nx 0 0 :=
  z_enter [(0, tA x0), (1, tI x1)] (by decide +kernel) (Nat.le_of_ble_eq_true rfl) rfl (fun X hl hR hG hL K hq => by
    subst hl; subst hG
    exact v_X11_form K ⟨hR, hL⟩ hf hq)
set_option maxHeartbeats 4000000 in
set_option maxRecDepth 100000 in
theorem v_X11_flipped_b108 {X : zX} (K : z_Ok X cX11_flipped (some .int) RX11 "flipped") (hX : z_Xo X rm_X11_flipped 8) {x0 : Option Nat} {s0 : Int32} {h : zH} {nx : Nat} {x : (Int32 × zH)} (hf : f_X11_flipped_b108 x0 s0 h = some x) (hp : z_P0I X nx x) : zV X 108 [(0, tA x0)] [tI s0] h nx 0 0 := by
  unfold f_X11_flipped_b108 at hf
  refine zv_istore K [(7, tI s0), (0, tA x0)] eX11_flipped_108 (z_lt hX.2 (by decide)) rfl ?_
  refine zv_aload_n K 1 eX11_flipped_110 rfl ?_
  refine zv_iload K 0 eX11_flipped_111 rfl ?_
  obtain ⟨q1, hq1, hf⟩ := z_bind_inv hf
  obtain ⟨v3, h2, eh2, hf⟩ := z_b2_inv hf
  refine zv_cV0 K [tI s0] [] eX11_flipped_113 lk_X11_106 md_X11_isFree im_X11_isFree sl_X11_isFree rfl rfl rfl rfl (Nat.le_of_ble_eq_true rfl) hq1 (c_X11_isFree X.1.2.1 X.2.2.1 eh2) rfl rfl ⟨z_le (z_fr hX) (by decide), z_le (z_lo hX) (by decide)⟩ ⟨Nat.zero_le _, Nat.zero_le _⟩ ?_
  refine zv_if_eq K 124 eX11_flipped_116 (by decide) hf (fun _ hf => ?_) (fun _ hf => ?_)
  · refine zv_bipush K (-4 : Int32) eX11_flipped_124 (by decide) ?_
    have e9 := Option.some.inj hf; subst e9
    exact zv_iret K eX11_flipped_126 hp
  · refine zv_iload K 0 eX11_flipped_119 rfl ?_
    refine zv_goto K 126 eX11_flipped_121 (by decide) ?_
    have e9 := Option.some.inj hf; subst e9
    exact zv_iret K eX11_flipped_126 hp
set_option maxHeartbeats 4000000 in
set_option maxRecDepth 100000 in
theorem v_X11_flipped {X : zX} (K : z_Ok X cX11_flipped (some .int) RX11 "flipped") (hX : z_Xo X rm_X11_flipped 8) {x0 : Option Nat} {x1 : Int32} {x2 : Int32} {h : zH} {nx : Nat} {x : (Int32 × zH)} (hf : f_X11_flipped x0 x1 x2 h = some x) (hp : z_P0I X nx x) : zV X 0 [(0, tA x0), (1, tI x1), (2, tI x2)] [] h nx 0 0 := by
  unfold f_X11_flipped at hf
  refine zv_aload_n K 0 eX11_flipped_0 rfl ?_
  refine zv_iload_n K 1 eX11_flipped_1 rfl ?_
  refine zv_iload_n K 2 eX11_flipped_2 rfl ?_
  refine zv_iconst K (1 : Int32) eX11_flipped_3 (by decide) ?_
  refine zv_isub K eX11_flipped_4 ?_
  obtain ⟨q1, hq1, hf⟩ := z_bind_inv hf
  obtain ⟨v3, h2, eh2, hf⟩ := z_b2_inv hf
  refine zv_cV0 K [tI x1, tI (x2 - (1 : Int32))] [] eX11_flipped_5 lk_X11_81 md_X11_cell im_X11_cell sl_X11_cell rfl rfl rfl rfl (Nat.le_of_ble_eq_true rfl) hq1 (c_X11_cell X.1.2.1 X.2.2.1 eh2) rfl rfl ⟨z_le (z_fr hX) (by decide), z_le (z_lo hX) (by decide)⟩ ⟨Nat.zero_le _, Nat.zero_le _⟩ ?_
  refine zv_istore_n K [(3, tI v3), (0, tA x0), (1, tI x1), (2, tI x2)] eX11_flipped_8 (z_lt hX.2 (by decide)) rfl ?_
  refine zv_aload_n K 1 eX11_flipped_9 rfl ?_
  refine zv_iload_n K 2 eX11_flipped_10 rfl ?_
  refine zv_iload_n K 3 eX11_flipped_11 rfl ?_
  refine zv_iconst K (1 : Int32) eX11_flipped_12 (by decide) ?_
  refine zv_iadd K eX11_flipped_13 ?_
  obtain ⟨q4, hq4, hf⟩ := z_bind_inv hf
  obtain ⟨v6, h5, eh5, hf⟩ := z_b2_inv hf
  refine zv_cV0 K [tI x1, tI (x2 + (1 : Int32))] [] eX11_flipped_14 lk_X11_81 md_X11_cell im_X11_cell sl_X11_cell rfl rfl rfl rfl (Nat.le_of_ble_eq_true rfl) hq4 (c_X11_cell X.1.2.1 X.2.2.1 eh5) rfl rfl ⟨z_le (z_fr hX) (by decide), z_le (z_lo hX) (by decide)⟩ ⟨Nat.zero_le _, Nat.zero_le _⟩ ?_
  refine zv_istore K [(4, tI v6), (3, tI v3), (0, tA x0), (1, tI x1), (2, tI x2)] eX11_flipped_17 (z_lt hX.2 (by decide)) rfl ?_
  refine zv_iload_n K 1 eX11_flipped_19 rfl ?_
  refine zv_bipush K (8 : Int32) eX11_flipped_20 (by decide) ?_
  refine zv_irem K eX11_flipped_22 (by decide) ?_
  refine zv_iload K 0 eX11_flipped_23 rfl ?_
  refine zv_bipush K (8 : Int32) eX11_flipped_25 (by decide) ?_
  refine zv_irem K eX11_flipped_27 (by decide) ?_
  refine zv_isub K eX11_flipped_28 ?_
  refine zv_istore K [(5, tI ((v3 - v3 / (8 : Int32) * (8 : Int32)) - (v6 - v6 / (8 : Int32) * (8 : Int32)))), (4, tI v6), (3, tI v3), (0, tA x0), (1, tI x1), (2, tI x2)] eX11_flipped_29 (z_lt hX.2 (by decide)) rfl ?_
  refine zv_iload_n K 2 eX11_flipped_31 rfl ?_
  refine zv_bipush K (8 : Int32) eX11_flipped_32 (by decide) ?_
  refine zv_idiv K eX11_flipped_34 (by decide) ?_
  refine zv_iload K 1 eX11_flipped_35 rfl ?_
  refine zv_bipush K (8 : Int32) eX11_flipped_37 (by decide) ?_
  refine zv_idiv K eX11_flipped_39 (by decide) ?_
  refine zv_isub K eX11_flipped_40 ?_
  refine zv_istore K [(6, tI ((v3 / (8 : Int32)) - (v6 / (8 : Int32)))), (5, tI ((v3 - v3 / (8 : Int32) * (8 : Int32)) - (v6 - v6 / (8 : Int32) * (8 : Int32)))), (4, tI v6), (3, tI v3), (0, tA x0), (1, tI x1), (2, tI x2)] eX11_flipped_41 (z_lt hX.2 (by decide)) rfl ?_
  refine zv_iload K 1 eX11_flipped_43 rfl ?_
  refine zv_iload K 1 eX11_flipped_45 rfl ?_
  refine zv_imul K eX11_flipped_47 ?_
  refine zv_iconst K (1 : Int32) eX11_flipped_48 (by decide) ?_
  refine zv_icmp_ne K 61 eX11_flipped_49 (by decide) hf (fun _ hf => ?_) (fun _ hf => ?_)
  · refine zv_bipush K (-4 : Int32) eX11_flipped_61 (by decide) ?_
    have e9 := Option.some.inj hf; subst e9
    exact zv_iret K eX11_flipped_63 hp
  · refine zv_iload K 0 eX11_flipped_52 rfl ?_
    refine zv_iload K 0 eX11_flipped_54 rfl ?_
    refine zv_imul K eX11_flipped_56 ?_
    refine zv_iconst K (1 : Int32) eX11_flipped_57 (by decide) ?_
    refine zv_icmp_eq K 64 eX11_flipped_58 (by decide) hf (fun _ hf => ?_) (fun _ hf => ?_)
    · refine zv_bipush K (8 : Int32) eX11_flipped_64 (by decide) ?_
      refine zv_iload_n K 3 eX11_flipped_66 rfl ?_
      refine zv_bipush K (8 : Int32) eX11_flipped_67 (by decide) ?_
      refine zv_idiv K eX11_flipped_69 (by decide) ?_
      refine zv_imul K eX11_flipped_70 ?_
      refine zv_iload K 2 eX11_flipped_71 rfl ?_
      refine zv_bipush K (8 : Int32) eX11_flipped_73 (by decide) ?_
      refine zv_irem K eX11_flipped_75 (by decide) ?_
      refine zv_iadd K eX11_flipped_76 ?_
      refine zv_istore K [(7, tI (((8 : Int32) * (v3 / (8 : Int32))) + (v6 - v6 / (8 : Int32) * (8 : Int32)))), (6, tI ((v3 / (8 : Int32)) - (v6 / (8 : Int32)))), (5, tI ((v3 - v3 / (8 : Int32) * (8 : Int32)) - (v6 - v6 / (8 : Int32) * (8 : Int32)))), (4, tI v6), (3, tI v3), (0, tA x0), (1, tI x1), (2, tI x2)] eX11_flipped_77 (z_lt hX.2 (by decide)) rfl ?_
      refine zv_iload K 0 eX11_flipped_79 rfl ?_
      refine zv_aload_n K 5 eX11_flipped_81 rfl ?_
      refine zv_iload_n K 6 eX11_flipped_82 rfl ?_
      refine zv_iload_n K 7 eX11_flipped_83 rfl ?_
      obtain ⟨q7, hq7, hf⟩ := z_bind_inv hf
      obtain ⟨v9, h8, eh8, hf⟩ := z_b2_inv hf
      refine zv_cV0 K [tI x1, tI x2] [tI (((8 : Int32) * (v3 / (8 : Int32))) + (v6 - v6 / (8 : Int32) * (8 : Int32)))] eX11_flipped_84 lk_X11_81 md_X11_cell im_X11_cell sl_X11_cell rfl rfl rfl rfl (Nat.le_of_ble_eq_true rfl) hq7 (c_X11_cell X.1.2.1 X.2.2.1 eh8) rfl rfl ⟨z_le (z_fr hX) (by decide), z_le (z_lo hX) (by decide)⟩ ⟨Nat.zero_le _, Nat.zero_le _⟩ ?_
      refine zv_icmp_ne K 106 eX11_flipped_87 (by decide) hf (fun _ hf => ?_) (fun _ hf => ?_)
      · refine zv_iload K 0 eX11_flipped_106 rfl ?_
        exact zv_sub [5] rfl (v_X11_flipped_b108 K hX hf hp)
      · refine zv_bipush K (8 : Int32) eX11_flipped_90 (by decide) ?_
        refine zv_iload K 3 eX11_flipped_92 rfl ?_
        refine zv_bipush K (8 : Int32) eX11_flipped_94 (by decide) ?_
        refine zv_idiv K eX11_flipped_96 (by decide) ?_
        refine zv_imul K eX11_flipped_97 ?_
        refine zv_iload_n K 4 eX11_flipped_98 rfl ?_
        refine zv_bipush K (8 : Int32) eX11_flipped_99 (by decide) ?_
        refine zv_irem K eX11_flipped_101 (by decide) ?_
        refine zv_iadd K eX11_flipped_102 ?_
        refine zv_goto K 108 eX11_flipped_103 (by decide) ?_
        exact zv_sub [5] rfl (v_X11_flipped_b108 K hX hf hp)
    · refine zv_bipush K (-4 : Int32) eX11_flipped_61 (by decide) ?_
      have e9 := Option.some.inj hf; subst e9
      exact zv_iret K eX11_flipped_63 hp
theorem c_X11_flipped (l : Launch) (G : zG) {x0 : Option Nat} {x1 : Int32} {x2 : Int32} {h : zH} {nx : Nat} {x : Int32 × zH} (hf : f_X11_flipped x0 x1 x2 h = some x) : z_Ct l G yX11_flipped cX11_flipped 8 (some .int) rm_X11_flipped [tA x0, tI x1, tI x2] h nx (some (tI x.1)) x.2 nx 0 0 :=
  z_enter [(0, tA x0), (1, tI x1), (2, tI x2)] (by decide +kernel) (Nat.le_of_ble_eq_true rfl) rfl (fun X hl hR hG hL K hq => by
    subst hl; subst hG
    exact v_X11_flipped K ⟨hR, hL⟩ hf hq)
def P_X11_goesTo_49 (X : zX) (nx : Nat) : ((Option Nat) × Int32 × Int32 × Int32 × zH) ⊕ (Int32 × zH) → Prop := z_PL (fun s => zV X 49 [(0, tA s.1), (3, tI s.2.1), (4, tI s.2.2.1), (5, tI s.2.2.2.1)] [] s.2.2.2.2 nx 0 0) (z_P0I X nx)
set_option maxHeartbeats 4000000 in
set_option maxRecDepth 100000 in
theorem v_X11_goesTo_c49 {X : zX} (K : z_Ok X cX11_goesTo (some .int) RX11 "goesTo") (hX : z_Xo X rm_X11_goesTo 7) {x0 : Option Nat} {x3 : Int32} {x4 : Int32} {x5 : Int32} {h : zH} {nx : Nat} {x : (((Option Nat) × Int32 × Int32 × Int32 × zH) ⊕ (Int32 × zH))} (hf : f_X11_goesTo_c49 x0 x3 x4 x5 h = some x) (hp : P_X11_goesTo_49 X nx x) : zV X 49 [(0, tA x0), (3, tI x3), (4, tI x4), (5, tI x5)] [] h nx 0 0 := by
  unfold f_X11_goesTo_c49 at hf
  refine zv_iload K 3 eX11_goesTo_49 rfl ?_
  refine zv_iconst K (4 : Int32) eX11_goesTo_51 (by decide) ?_
  refine zv_icmp_ge K 86 eX11_goesTo_52 (by decide) hf (fun _ hf => ?_) (fun _ hf => ?_)
  · obtain ⟨w9, hf9, e9⟩ := z_i1_inv hf; clear hf; subst e9; have hf := hf9; clear hf9
    refine zv_bipush K (-4 : Int32) eX11_goesTo_86 (by decide) ?_
    have e9 := Option.some.inj hf; subst e9
    exact zv_iret K eX11_goesTo_88 hp
  · refine zv_iload_n K 1 eX11_goesTo_55 rfl ?_
    refine zv_iload K 2 eX11_goesTo_56 rfl ?_
    refine zv_iload K 3 eX11_goesTo_58 rfl ?_
    refine zv_iadd K eX11_goesTo_60 ?_
    refine zv_iconst K (4 : Int32) eX11_goesTo_61 (by decide) ?_
    refine zv_irem K eX11_goesTo_62 (by decide) ?_
    obtain ⟨v2, h1, eh1, hf⟩ := z_b2_inv hf
    refine zv_cS0 K [tI x3, tI ((x4 + x5) - (x4 + x5) / (4 : Int32) * (4 : Int32))] [] eX11_goesTo_63 lk_X11_91 md_X11_beside st_X11_beside rfl rfl (Nat.le_of_ble_eq_true rfl) (c_X11_beside X.1.2.1 X.2.2.1 eh1) rfl rfl ⟨z_le (z_fr hX) (by decide), z_le (z_lo hX) (by decide)⟩ ⟨Nat.zero_le _, Nat.zero_le _⟩ ?_
    refine zv_istore K [(6, tI v2), (0, tA x0), (3, tI x3), (4, tI x4), (5, tI x5)] eX11_goesTo_66 (z_lt hX.2 (by decide)) rfl ?_
    refine zv_aload_n K 1 eX11_goesTo_68 rfl ?_
    refine zv_iload K 0 eX11_goesTo_69 rfl ?_
    obtain ⟨q3, hq3, hf⟩ := z_bind_inv hf
    obtain ⟨v5, h4, eh4, hf⟩ := z_b2_inv hf
    refine zv_cV0 K [tI v2] [] eX11_goesTo_71 lk_X11_106 md_X11_isFree im_X11_isFree sl_X11_isFree rfl rfl rfl rfl (Nat.le_of_ble_eq_true rfl) hq3 (c_X11_isFree X.1.2.1 X.2.2.1 eh4) rfl rfl ⟨z_le (z_fr hX) (by decide), z_le (z_lo hX) (by decide)⟩ ⟨Nat.zero_le _, Nat.zero_le _⟩ ?_
    refine zv_if_eq K 80 eX11_goesTo_74 (by decide) hf (fun _ hf => ?_) (fun _ hf => ?_)
    · refine zv_iinc K (x5 + (1 : Int32)) 4 [(5, tI (x5 + (1 : Int32))), (6, tI v2), (0, tA x0), (3, tI x3), (4, tI x4)] eX11_goesTo_80 rfl rfl (z_lt hX.2 (by decide)) rfl ?_
      refine zv_goto K 49 eX11_goesTo_83 (by decide) ?_
      cases hf
      exact zv_sub [2, 3, 4, 0] rfl (show zV X 49 [(0, tA x0), (3, tI x3), (4, tI x4), (5, tI (x5 + (1 : Int32)))] [] h4 nx 0 0 from hp)
    · obtain ⟨w9, hf9, e9⟩ := z_i1_inv hf; clear hf; subst e9; have hf := hf9; clear hf9
      refine zv_iload K 0 eX11_goesTo_77 rfl ?_
      have e9 := Option.some.inj hf; subst e9
      exact zv_iret K eX11_goesTo_79 hp
theorem v_X11_goesTo_b49 {X : zX} (K : z_Ok X cX11_goesTo (some .int) RX11 "goesTo") (hX : z_Xo X rm_X11_goesTo 7) {x0 : Option Nat} {x3 : Int32} {x4 : Int32} {x5 : Int32} {h : zH} {nx : Nat} {x : (Int32 × zH)} (hf : f_X11_goesTo_b49 x0 x3 x4 x5 h = some x) (hp : z_P0I X nx x) : zV X 49 [(0, tA x0), (3, tI x3), (4, tI x4), (5, tI x5)] [] h nx 0 0 :=
  z_it_ind (P := fun s : (Option Nat) × Int32 × Int32 × Int32 × zH => zV X 49 [(0, tA s.1), (3, tI s.2.1), (4, tI s.2.2.1), (5, tI s.2.2.2.1)] [] s.2.2.2.2 nx 0 0) (fun s y hb hy => v_X11_goesTo_c49 K hX hb (z_PL_of hy hp)) hf
set_option maxHeartbeats 4000000 in
set_option maxRecDepth 100000 in
theorem v_X11_goesTo {X : zX} (K : z_Ok X cX11_goesTo (some .int) RX11 "goesTo") (hX : z_Xo X rm_X11_goesTo 7) {x0 : Option Nat} {x1 : Int32} {x2 : Int32} {h : zH} {nx : Nat} {x : (Int32 × zH)} (hf : f_X11_goesTo x0 x1 x2 h = some x) (hp : z_P0I X nx x) : zV X 0 [(0, tA x0), (1, tI x1), (2, tI x2)] [] h nx 0 0 := by
  unfold f_X11_goesTo at hf
  refine zv_iload_n K 2 eX11_goesTo_0 rfl ?_
  refine zv_if_eq K 13 eX11_goesTo_1 (by decide) hf (fun _ hf => ?_) (fun _ hf => ?_)
  · refine zv_bipush K (-4 : Int32) eX11_goesTo_13 (by decide) ?_
    have e9 := Option.some.inj hf; subst e9
    exact zv_iret K eX11_goesTo_15 hp
  · refine zv_iload_n K 2 eX11_goesTo_4 rfl ?_
    refine zv_aload_n K 0 eX11_goesTo_5 rfl ?_
    refine zv_iload_n K 1 eX11_goesTo_6 rfl ?_
    obtain ⟨q1, hq1, hf⟩ := z_bind_inv hf
    obtain ⟨v3, h2, eh2, hf⟩ := z_b2_inv hf
    refine zv_cV0 K [tI x1] [tI x2] eX11_goesTo_7 lk_X11_109 md_X11_cutOf im_X11_cutOf sl_X11_cutOf rfl rfl rfl rfl (Nat.le_of_ble_eq_true rfl) hq1 (c_X11_cutOf X.1.2.1 X.2.2.1 eh2) rfl rfl ⟨z_le (z_fr hX) (by decide), z_le (z_lo hX) (by decide)⟩ ⟨Nat.zero_le _, Nat.zero_le _⟩ ?_
    refine zv_icmp_ne K 16 eX11_goesTo_10 (by decide) hf (fun _ hf => ?_) (fun _ hf => ?_)
    · refine zv_aload_n K 0 eX11_goesTo_16 rfl ?_
      refine zv_iload_n K 1 eX11_goesTo_17 rfl ?_
      refine zv_iload_n K 2 eX11_goesTo_18 rfl ?_
      refine zv_iconst K (1 : Int32) eX11_goesTo_19 (by decide) ?_
      refine zv_isub K eX11_goesTo_20 ?_
      obtain ⟨q4, hq4, hf⟩ := z_bind_inv hf
      obtain ⟨v6, h5, eh5, hf⟩ := z_b2_inv hf
      refine zv_cV0 K [tI x1, tI (x2 - (1 : Int32))] [] eX11_goesTo_21 lk_X11_81 md_X11_cell im_X11_cell sl_X11_cell rfl rfl rfl rfl (Nat.le_of_ble_eq_true rfl) hq4 (c_X11_cell X.1.2.1 X.2.2.1 eh5) rfl rfl ⟨z_le (z_fr hX) (by decide), z_le (z_lo hX) (by decide)⟩ ⟨Nat.zero_le _, Nat.zero_le _⟩ ?_
      refine zv_istore_n K [(3, tI v6), (0, tA x0), (1, tI x1), (2, tI x2)] eX11_goesTo_24 (z_lt hX.2 (by decide)) rfl ?_
      refine zv_aload_n K 1 eX11_goesTo_25 rfl ?_
      refine zv_iload_n K 2 eX11_goesTo_26 rfl ?_
      refine zv_iload_n K 3 eX11_goesTo_27 rfl ?_
      obtain ⟨q7, hq7, hf⟩ := z_bind_inv hf
      obtain ⟨v9, h8, eh8, hf⟩ := z_b2_inv hf
      refine zv_cV0 K [tI x1, tI x2] [] eX11_goesTo_28 lk_X11_115 md_X11_isTip im_X11_isTip sl_X11_isTip rfl rfl rfl rfl (Nat.le_of_ble_eq_true rfl) hq7 (c_X11_isTip X.1.2.1 X.2.2.1 eh8) rfl rfl ⟨z_le (z_fr hX) (by decide), z_le (z_lo hX) (by decide)⟩ ⟨Nat.zero_le _, Nat.zero_le _⟩ ?_
      refine zv_if_eq K 89 eX11_goesTo_31 (by decide) hf (fun _ hf => ?_) (fun _ hf => ?_)
      · refine zv_aload_n K 1 eX11_goesTo_89 rfl ?_
        refine zv_iload_n K 2 eX11_goesTo_90 rfl ?_
        refine zv_iload_n K 3 eX11_goesTo_91 rfl ?_
        obtain ⟨q10, hq10, hf⟩ := z_bind_inv hf
        obtain ⟨v12, h11, eh11, hf⟩ := z_b2_inv hf
        refine zv_cV0 K [tI x1, tI x2] [] eX11_goesTo_92 lk_X11_127 md_X11_flipped im_X11_flipped sl_X11_flipped rfl rfl rfl rfl (Nat.le_of_ble_eq_true rfl) hq10 (c_X11_flipped X.1.2.1 X.2.2.1 eh11) rfl rfl ⟨z_le (z_fr hX) (by decide), z_le (z_lo hX) (by decide)⟩ ⟨Nat.zero_le _, Nat.zero_le _⟩ ?_
        have e9 := Option.some.inj hf; subst e9
        exact zv_iret K eX11_goesTo_95 hp
      · refine zv_iload_n K 0 eX11_goesTo_34 rfl ?_
        refine zv_aload_n K 1 eX11_goesTo_35 rfl ?_
        refine zv_iload_n K 2 eX11_goesTo_36 rfl ?_
        refine zv_iload_n K 3 eX11_goesTo_37 rfl ?_
        obtain ⟨q13, hq13, hf⟩ := z_bind_inv hf
        obtain ⟨v15, h14, eh14, hf⟩ := z_b2_inv hf
        refine zv_cV0 K [tI x1, tI x2] [tI v6] eX11_goesTo_38 lk_X11_81 md_X11_cell im_X11_cell sl_X11_cell rfl rfl rfl rfl (Nat.le_of_ble_eq_true rfl) hq13 (c_X11_cell X.1.2.1 X.2.2.1 eh14) rfl rfl ⟨z_le (z_fr hX) (by decide), z_le (z_lo hX) (by decide)⟩ ⟨Nat.zero_le _, Nat.zero_le _⟩ ?_
        obtain ⟨v17, h16, eh16, hf⟩ := z_b2_inv hf
        refine zv_cS0 K [tI v6, tI v15] [] eX11_goesTo_41 lk_X11_124 md_X11_sideTo st_X11_sideTo rfl rfl (Nat.le_of_ble_eq_true rfl) (c_X11_sideTo X.1.2.1 X.2.2.1 eh16) rfl rfl ⟨z_le (z_fr hX) (by decide), z_le (z_lo hX) (by decide)⟩ ⟨Nat.zero_le _, Nat.zero_le _⟩ ?_
        refine zv_istore K [(4, tI v17), (3, tI v6), (0, tA x0), (1, tI x1), (2, tI x2)] eX11_goesTo_44 (z_lt hX.2 (by decide)) rfl ?_
        refine zv_iconst K (1 : Int32) eX11_goesTo_46 (by decide) ?_
        refine zv_istore K [(5, tI (1 : Int32)), (4, tI v17), (3, tI v6), (0, tA x0), (1, tI x1), (2, tI x2)] eX11_goesTo_47 (z_lt hX.2 (by decide)) rfl ?_
        exact zv_sub [3, 2, 1, 0] rfl (v_X11_goesTo_b49 K hX hf hp)
    · refine zv_bipush K (-4 : Int32) eX11_goesTo_13 (by decide) ?_
      have e9 := Option.some.inj hf; subst e9
      exact zv_iret K eX11_goesTo_15 hp
theorem c_X11_goesTo (l : Launch) (G : zG) {x0 : Option Nat} {x1 : Int32} {x2 : Int32} {h : zH} {nx : Nat} {x : Int32 × zH} (hf : f_X11_goesTo x0 x1 x2 h = some x) : z_Ct l G yX11_goesTo cX11_goesTo 7 (some .int) rm_X11_goesTo [tA x0, tI x1, tI x2] h nx (some (tI x.1)) x.2 nx 0 0 :=
  z_enter [(0, tA x0), (1, tI x1), (2, tI x2)] (by decide +kernel) (Nat.le_of_ble_eq_true rfl) rfl (fun X hl hR hG hL K hq => by
    subst hl; subst hG
    exact v_X11_goesTo K ⟨hR, hL⟩ hf hq)
set_option maxHeartbeats 4000000 in
set_option maxRecDepth 100000 in
theorem v_X11_flip {X : zX} (K : z_Ok X cX11_flip (some .int) RX11 "flip") (hX : z_Xo X rm_X11_flip 4) {x0 : Option Nat} {x1 : Int32} {x2 : Int32} {h : zH} {nx : Nat} {x : (Int32 × zH)} (hf : f_X11_flip x0 x1 x2 h = some x) (hp : z_P0I X nx x) : zV X 0 [(0, tA x0), (1, tI x1), (2, tI x2)] [] h nx 0 0 := by
  unfold f_X11_flip at hf
  refine zv_aload_n K 0 eX11_flip_0 rfl ?_
  refine zv_iload_n K 1 eX11_flip_1 rfl ?_
  refine zv_iload_n K 2 eX11_flip_2 rfl ?_
  obtain ⟨q1, hq1, hf⟩ := z_bind_inv hf
  obtain ⟨v3, h2, eh2, hf⟩ := z_b2_inv hf
  refine zv_cV0 K [tI x1, tI x2] [] eX11_flip_3 lk_X11_112 md_X11_isPiece im_X11_isPiece sl_X11_isPiece rfl rfl rfl rfl (Nat.le_of_ble_eq_true rfl) hq1 (c_X11_isPiece X.1.2.1 X.2.2.1 eh2) rfl rfl ⟨z_le (z_fr hX) (by decide), z_le (z_lo hX) (by decide)⟩ ⟨Nat.zero_le _, Nat.zero_le _⟩ ?_
  refine zv_if_eq K 22 eX11_flip_6 (by decide) hf (fun _ hf => ?_) (fun _ hf => ?_)
  · refine zv_iconst K (-1 : Int32) eX11_flip_22 (by decide) ?_
    have e9 := Option.some.inj hf; subst e9
    exact zv_iret K eX11_flip_23 hp
  · refine zv_iload_n K 2 eX11_flip_9 rfl ?_
    refine zv_if_eq K 22 eX11_flip_10 (by decide) hf (fun _ hf => ?_) (fun _ hf => ?_)
    · refine zv_iconst K (-1 : Int32) eX11_flip_22 (by decide) ?_
      have e9 := Option.some.inj hf; subst e9
      exact zv_iret K eX11_flip_23 hp
    · refine zv_iload_n K 2 eX11_flip_13 rfl ?_
      refine zv_aload_n K 0 eX11_flip_14 rfl ?_
      refine zv_iload_n K 1 eX11_flip_15 rfl ?_
      obtain ⟨q4, hq4, hf⟩ := z_bind_inv hf
      obtain ⟨v6, h5, eh5, hf⟩ := z_b2_inv hf
      refine zv_cV0 K [tI x1] [tI x2] eX11_flip_16 lk_X11_109 md_X11_cutOf im_X11_cutOf sl_X11_cutOf rfl rfl rfl rfl (Nat.le_of_ble_eq_true rfl) hq4 (c_X11_cutOf X.1.2.1 X.2.2.1 eh5) rfl rfl ⟨z_le (z_fr hX) (by decide), z_le (z_lo hX) (by decide)⟩ ⟨Nat.zero_le _, Nat.zero_le _⟩ ?_
      refine zv_icmp_ne K 24 eX11_flip_19 (by decide) hf (fun _ hf => ?_) (fun _ hf => ?_)
      · refine zv_aload_n K 0 eX11_flip_24 rfl ?_
        refine zv_iload_n K 1 eX11_flip_25 rfl ?_
        refine zv_iload_n K 2 eX11_flip_26 rfl ?_
        obtain ⟨q7, hq7, hf⟩ := z_bind_inv hf
        obtain ⟨v9, h8, eh8, hf⟩ := z_b2_inv hf
        refine zv_cV0 K [tI x1, tI x2] [] eX11_flip_27 lk_X11_130 md_X11_goesTo im_X11_goesTo sl_X11_goesTo rfl rfl rfl rfl (Nat.le_of_ble_eq_true rfl) hq7 (c_X11_goesTo X.1.2.1 X.2.2.1 eh8) rfl rfl ⟨z_le (z_fr hX) (by decide), z_le (z_lo hX) (by decide)⟩ ⟨Nat.zero_le _, Nat.zero_le _⟩ ?_
        refine zv_istore_n K [(3, tI v9), (0, tA x0), (1, tI x1), (2, tI x2)] eX11_flip_30 (z_lt hX.2 (by decide)) rfl ?_
        refine zv_iload_n K 0 eX11_flip_31 rfl ?_
        refine zv_if_ge K 38 eX11_flip_32 (by decide) hf (fun _ hf => ?_) (fun _ hf => ?_)
        · refine zv_aload_n K 1 eX11_flip_38 rfl ?_
          refine zv_gA K eX11_flip_39 fl_X11_7 hf (fun v10 hf => ?_)
          refine zv_iload_n K 2 eX11_flip_42 rfl ?_
          refine zv_iconst K (5 : Int32) eX11_flip_43 (by decide) ?_
          obtain ⟨v12, h11, eh11, hf⟩ := z_b2_inv hf
          refine zv_cS0 K [tI x1, tI (5 : Int32)] [tA v10] eX11_flip_44 lk_X11_69 md_X11_of st_X11_of rfl rfl (Nat.le_of_ble_eq_true rfl) (c_X11_of X.1.2.1 X.2.2.1 eh11) rfl rfl ⟨z_le (z_fr hX) (by decide), z_le (z_lo hX) (by decide)⟩ ⟨Nat.zero_le _, Nat.zero_le _⟩ ?_
          refine zv_iload_n K 3 eX11_flip_47 rfl ?_
          refine zv_iadd K eX11_flip_48 ?_
          refine zv_iload_n K 0 eX11_flip_49 rfl ?_
          refine zv_sI K eX11_flip_50 hf (fun h13 hf => ?_)
          refine zv_iload_n K 0 eX11_flip_51 rfl ?_
          have e9 := Option.some.inj hf; subst e9
          exact zv_iret K eX11_flip_52 hp
        · refine zv_bipush K (-2 : Int32) eX11_flip_35 (by decide) ?_
          have e9 := Option.some.inj hf; subst e9
          exact zv_iret K eX11_flip_37 hp
      · refine zv_iconst K (-1 : Int32) eX11_flip_22 (by decide) ?_
        have e9 := Option.some.inj hf; subst e9
        exact zv_iret K eX11_flip_23 hp
theorem c_X11_flip (l : Launch) (G : zG) {x0 : Option Nat} {x1 : Int32} {x2 : Int32} {h : zH} {nx : Nat} {x : Int32 × zH} (hf : f_X11_flip x0 x1 x2 h = some x) : z_Ct l G yX11_flip cX11_flip 4 (some .int) rm_X11_flip [tA x0, tI x1, tI x2] h nx (some (tI x.1)) x.2 nx 0 0 :=
  z_enter [(0, tA x0), (1, tI x1), (2, tI x2)] (by decide +kernel) (Nat.le_of_ble_eq_true rfl) rfl (fun X hl hR hG hL K hq => by
    subst hl; subst hG
    exact v_X11_flip K ⟨hR, hL⟩ hf hq)
def P_X11_type_70 (X : zX) (nx : Nat) : ((Option Nat) × Int64 × Int32 × zH) ⊕ (Int32 × zH) → Prop := z_PL (fun s => zV X 70 [(0, tA s.1), (1, tJ s.2.1), (4, tI s.2.2.1)] [] s.2.2.2 nx 0 0) (z_P0I X nx)
def P_X11_type_15 (X : zX) (nx : Nat) : ((Option Nat) × Int64 × Int32 × Int32 × zH) ⊕ (Int32 × zH) → Prop := z_PL (fun s => zV X 15 [(0, tA s.1), (1, tJ s.2.1), (3, tI s.2.2.1), (4, tI s.2.2.2.1)] [] s.2.2.2.2 nx 0 0) (z_P0I X nx)
set_option maxHeartbeats 4000000 in
set_option maxRecDepth 100000 in
theorem v_X11_type_c70 {X : zX} (K : z_Ok X cX11_type (some .int) RX11 "type") (hX : z_Xo X rm_X11_type 5) {x0 : Option Nat} {x1 : Int64} {x4 : Int32} {h : zH} {nx : Nat} {x : (((Option Nat) × Int64 × Int32 × zH) ⊕ (Int32 × zH))} (hf : f_X11_type_c70 x0 x1 x4 h = some x) (hp : P_X11_type_70 X nx x) : zV X 70 [(0, tA x0), (1, tJ x1), (4, tI x4)] [] h nx 0 0 := by
  unfold f_X11_type_c70 at hf
  refine zv_iload K 2 eX11_type_70 rfl ?_
  refine zv_if_lt K 112 eX11_type_72 (by decide) hf (fun _ hf => ?_) (fun _ hf => ?_)
  · obtain ⟨w9, hf9, e9⟩ := z_i1_inv hf; clear hf; subst e9; have hf := hf9; clear hf9
    refine zv_aload_n K 0 eX11_type_112 rfl ?_
    refine zv_gI K eX11_type_113 fl_X11_135 hf (fun v1 hf => ?_)
    have e9 := Option.some.inj hf; subst e9
    exact zv_iret K eX11_type_116 hp
  · refine zv_aload_n K 0 eX11_type_75 rfl ?_
    refine zv_gA K eX11_type_76 fl_X11_23 hf (fun v2 hf => ?_)
    refine zv_aload_n K 0 eX11_type_79 rfl ?_
    refine zv_gI K eX11_type_80 fl_X11_135 hf (fun v3 hf => ?_)
    refine zv_lload_n K 1 eX11_type_83 rfl ?_
    refine zv_bipush K (8 : Int32) eX11_type_84 (by decide) ?_
    refine zv_iload K 2 eX11_type_86 rfl ?_
    refine zv_imul K eX11_type_88 ?_
    refine zv_lshr K eX11_type_89 ?_
    refine zv_ldc2 K (255 : Int64) eX11_type_90 kl_X11_133 ?_
    refine zv_land K eX11_type_93 ?_
    refine zv_l2i K eX11_type_94 ?_
    refine zv_sI K eX11_type_95 hf (fun h4 hf => ?_)
    refine zv_aload_n K 0 eX11_type_96 rfl ?_
    refine zv_dup K eX11_type_97 rfl ?_
    refine zv_gI K eX11_type_98 fl_X11_135 hf (fun v5 hf => ?_)
    refine zv_iconst K (1 : Int32) eX11_type_101 (by decide) ?_
    refine zv_iadd K eX11_type_102 ?_
    refine zv_pI K eX11_type_103 fl_X11_135 ff_11_4 rfl hf (fun h6 hf => ?_)
    refine zv_iinc K (x4 + (-1 : Int32)) 2 [(4, tI (x4 + (-1 : Int32))), (0, tA x0), (1, tJ x1)] eX11_type_106 rfl rfl (z_lt hX.2 (by decide)) rfl ?_
    refine zv_goto K 70 eX11_type_109 (by decide) ?_
    cases hf
    exact zv_sub [1, 2, 0] rfl (show zV X 70 [(0, tA x0), (1, tJ x1), (4, tI (x4 + (-1 : Int32)))] [] h6 nx 0 0 from hp)
theorem v_X11_type_b70 {X : zX} (K : z_Ok X cX11_type (some .int) RX11 "type") (hX : z_Xo X rm_X11_type 5) {x0 : Option Nat} {x1 : Int64} {x4 : Int32} {h : zH} {nx : Nat} {x : (Int32 × zH)} (hf : f_X11_type_b70 x0 x1 x4 h = some x) (hp : z_P0I X nx x) : zV X 70 [(0, tA x0), (1, tJ x1), (4, tI x4)] [] h nx 0 0 :=
  z_it_ind (P := fun s : (Option Nat) × Int64 × Int32 × zH => zV X 70 [(0, tA s.1), (1, tJ s.2.1), (4, tI s.2.2.1)] [] s.2.2.2 nx 0 0) (fun s y hb hy => v_X11_type_c70 K hX hb (z_PL_of hy hp)) hf
set_option maxHeartbeats 4000000 in
set_option maxRecDepth 100000 in
theorem v_X11_type_c15 {X : zX} (K : z_Ok X cX11_type (some .int) RX11 "type") (hX : z_Xo X rm_X11_type 5) {x0 : Option Nat} {x1 : Int64} {x3 : Int32} {x4 : Int32} {h : zH} {nx : Nat} {x : (((Option Nat) × Int64 × Int32 × Int32 × zH) ⊕ (Int32 × zH))} (hf : f_X11_type_c15 x0 x1 x3 x4 h = some x) (hp : P_X11_type_15 X nx x) : zV X 15 [(0, tA x0), (1, tJ x1), (3, tI x3), (4, tI x4)] [] h nx 0 0 := by
  unfold f_X11_type_c15 at hf
  refine zv_iload K 3 eX11_type_15 rfl ?_
  refine zv_iload_n K 2 eX11_type_17 rfl ?_
  refine zv_icmp_ge K 51 eX11_type_18 (by decide) hf (fun _ hf => ?_) (fun _ hf => ?_)
  · obtain ⟨w9, hf9, e9⟩ := z_i1_inv hf; clear hf; subst e9; have hf := hf9; clear hf9
    refine zv_aload_n K 0 eX11_type_51 rfl ?_
    refine zv_gI K eX11_type_52 fl_X11_135 hf (fun v1 hf => ?_)
    refine zv_iload_n K 2 eX11_type_55 rfl ?_
    refine zv_iadd K eX11_type_56 ?_
    refine zv_bipush K (100 : Int32) eX11_type_57 (by decide) ?_
    refine zv_icmp_le K 65 eX11_type_59 (by decide) hf (fun _ hf => ?_) (fun _ hf => ?_)
    · refine zv_iload_n K 2 eX11_type_65 rfl ?_
      refine zv_iconst K (1 : Int32) eX11_type_66 (by decide) ?_
      refine zv_isub K eX11_type_67 ?_
      refine zv_istore K [(4, tI (x3 - (1 : Int32))), (0, tA x0), (1, tJ x1), (3, tI x3)] eX11_type_68 (z_lt hX.2 (by decide)) rfl ?_
      exact zv_sub [1, 2, 0] rfl (v_X11_type_b70 K hX hf hp)
    · refine zv_bipush K (-3 : Int32) eX11_type_62 (by decide) ?_
      have e9 := Option.some.inj hf; subst e9
      exact zv_iret K eX11_type_64 hp
  · refine zv_lload_n K 1 eX11_type_21 rfl ?_
    refine zv_bipush K (8 : Int32) eX11_type_22 (by decide) ?_
    refine zv_iload K 3 eX11_type_24 rfl ?_
    refine zv_imul K eX11_type_26 ?_
    refine zv_lshr K eX11_type_27 ?_
    refine zv_ldc2 K (255 : Int64) eX11_type_28 kl_X11_133 ?_
    refine zv_land K eX11_type_31 ?_
    refine zv_l2i K eX11_type_32 ?_
    refine zv_bipush K (32 : Int32) eX11_type_33 (by decide) ?_
    refine zv_bipush K (126 : Int32) eX11_type_35 (by decide) ?_
    obtain ⟨v3, h2, eh2, hf⟩ := z_b2_inv hf
    refine zv_cS0 K [tI (Int64.toInt32 ((x1 >>> (Int32.toInt64 ((8 : Int32) * x4) &&& 63)) &&& (255 : Int64))), tI (32 : Int32), tI (126 : Int32)] [] eX11_type_37 lk_X11_65 md_X11_in st_X11_in rfl rfl (Nat.le_of_ble_eq_true rfl) (c_X11_in X.1.2.1 X.2.2.1 eh2) rfl rfl ⟨z_le (z_fr hX) (by decide), z_le (z_lo hX) (by decide)⟩ ⟨Nat.zero_le _, Nat.zero_le _⟩ ?_
    refine zv_if_ne K 45 eX11_type_40 (by decide) hf (fun _ hf => ?_) (fun _ hf => ?_)
    · refine zv_iinc K (x4 + (1 : Int32)) 3 [(4, tI (x4 + (1 : Int32))), (0, tA x0), (1, tJ x1), (3, tI x3)] eX11_type_45 rfl rfl (z_lt hX.2 (by decide)) rfl ?_
      refine zv_goto K 15 eX11_type_48 (by decide) ?_
      cases hf
      exact zv_sub [1, 2, 3, 0] rfl (show zV X 15 [(0, tA x0), (1, tJ x1), (3, tI x3), (4, tI (x4 + (1 : Int32)))] [] h2 nx 0 0 from hp)
    · obtain ⟨w9, hf9, e9⟩ := z_i1_inv hf; clear hf; subst e9; have hf := hf9; clear hf9
      refine zv_iconst K (-1 : Int32) eX11_type_43 (by decide) ?_
      have e9 := Option.some.inj hf; subst e9
      exact zv_iret K eX11_type_44 hp
theorem v_X11_type_b15 {X : zX} (K : z_Ok X cX11_type (some .int) RX11 "type") (hX : z_Xo X rm_X11_type 5) {x0 : Option Nat} {x1 : Int64} {x3 : Int32} {x4 : Int32} {h : zH} {nx : Nat} {x : (Int32 × zH)} (hf : f_X11_type_b15 x0 x1 x3 x4 h = some x) (hp : z_P0I X nx x) : zV X 15 [(0, tA x0), (1, tJ x1), (3, tI x3), (4, tI x4)] [] h nx 0 0 :=
  z_it_ind (P := fun s : (Option Nat) × Int64 × Int32 × Int32 × zH => zV X 15 [(0, tA s.1), (1, tJ s.2.1), (3, tI s.2.2.1), (4, tI s.2.2.2.1)] [] s.2.2.2.2 nx 0 0) (fun s y hb hy => v_X11_type_c15 K hX hb (z_PL_of hy hp)) hf
set_option maxHeartbeats 4000000 in
set_option maxRecDepth 100000 in
theorem v_X11_type {X : zX} (K : z_Ok X cX11_type (some .int) RX11 "type") (hX : z_Xo X rm_X11_type 5) {x0 : Option Nat} {x1 : Int64} {x3 : Int32} {h : zH} {nx : Nat} {x : (Int32 × zH)} (hf : f_X11_type x0 x1 x3 h = some x) (hp : z_P0I X nx x) : zV X 0 [(0, tA x0), (1, tJ x1), (3, tI x3)] [] h nx 0 0 := by
  unfold f_X11_type at hf
  refine zv_iload_n K 2 eX11_type_0 rfl ?_
  refine zv_iconst K (1 : Int32) eX11_type_1 (by decide) ?_
  refine zv_bipush K (8 : Int32) eX11_type_2 (by decide) ?_
  obtain ⟨v2, h1, eh1, hf⟩ := z_b2_inv hf
  refine zv_cS0 K [tI x3, tI (1 : Int32), tI (8 : Int32)] [] eX11_type_4 lk_X11_65 md_X11_in st_X11_in rfl rfl (Nat.le_of_ble_eq_true rfl) (c_X11_in X.1.2.1 X.2.2.1 eh1) rfl rfl ⟨z_le (z_fr hX) (by decide), z_le (z_lo hX) (by decide)⟩ ⟨Nat.zero_le _, Nat.zero_le _⟩ ?_
  refine zv_if_ne K 12 eX11_type_7 (by decide) hf (fun _ hf => ?_) (fun _ hf => ?_)
  · refine zv_iconst K (0 : Int32) eX11_type_12 (by decide) ?_
    refine zv_istore K [(4, tI (0 : Int32)), (0, tA x0), (1, tJ x1), (3, tI x3)] eX11_type_13 (z_lt hX.2 (by decide)) rfl ?_
    exact zv_sub [1, 2, 3, 0] rfl (v_X11_type_b15 K hX hf hp)
  · refine zv_iconst K (-1 : Int32) eX11_type_10 (by decide) ?_
    have e9 := Option.some.inj hf; subst e9
    exact zv_iret K eX11_type_11 hp
theorem c_X11_type (l : Launch) (G : zG) {x0 : Option Nat} {x1 : Int64} {x3 : Int32} {h : zH} {nx : Nat} {x : Int32 × zH} (hf : f_X11_type x0 x1 x3 h = some x) : z_Ct l G yX11_type cX11_type 5 (some .int) rm_X11_type [tA x0, tJ x1, tI x3] h nx (some (tI x.1)) x.2 nx 0 0 :=
  z_enter [(0, tA x0), (1, tJ x1), (3, tI x3)] (by decide +kernel) (Nat.le_of_ble_eq_true rfl) rfl (fun X hl hR hG hL K hq => by
    subst hl; subst hG
    exact v_X11_type K ⟨hR, hL⟩ hf hq)
def P_X11_faultOf_14 (X : zX) (nx : Nat) : ((Option Nat) × Int32 × Int32 × Int32 × Int32 × zH) ⊕ (Int32 × zH) → Prop := z_PL (fun s => zV X 14 [(0, tA s.1), (1, tI s.2.1), (2, tI s.2.2.1), (3, tI s.2.2.2.1), (4, tI s.2.2.2.2.1)] [] s.2.2.2.2.2 nx 0 0) (z_P0I X nx)
set_option maxHeartbeats 4000000 in
set_option maxRecDepth 100000 in
theorem v_X11_faultOf_b397 {X : zX} (K : z_Ok X cX11_faultOf (some .int) RX11 "faultOf") (hX : z_Xo X rm_X11_faultOf 8) {x0 : Option Nat} {x2 : Int32} {x3 : Int32} {x4 : Int32} {x6 : Int32} {h : zH} {nx : Nat} {x : (((Option Nat) × Int32 × Int32 × Int32 × Int32 × zH) ⊕ (Int32 × zH))} (hf : f_X11_faultOf_b397 x0 x2 x3 x4 x6 h = some x) (hp : P_X11_faultOf_14 X nx x) : zV X 397 [(0, tA x0), (2, tI x2), (3, tI x3), (4, tI x4), (6, tI x6)] [] h nx 0 0 := by
  unfold f_X11_faultOf_b397 at hf
  refine zv_iload K 4 eX11_faultOf_397 rfl ?_
  refine zv_if_ge K 405 eX11_faultOf_399 (by decide) hf (fun _ hf => ?_) (fun _ hf => ?_)
  · refine zv_iload K 4 eX11_faultOf_405 rfl ?_
    refine zv_istore_n K [(1, tI x6), (0, tA x0), (2, tI x2), (3, tI x3), (4, tI x4), (6, tI x6)] eX11_faultOf_407 (z_lt hX.2 (by decide)) rfl ?_
    refine zv_iinc K (x4 + (1 : Int32)) 4 [(4, tI (x4 + (1 : Int32))), (1, tI x6), (0, tA x0), (2, tI x2), (3, tI x3), (6, tI x6)] eX11_faultOf_408 rfl rfl (z_lt hX.2 (by decide)) rfl ?_
    refine zv_goto K 14 eX11_faultOf_411 (by decide) ?_
    cases hf
    exact zv_sub [2, 1, 3, 4, 0] rfl (show zV X 14 [(0, tA x0), (1, tI x6), (2, tI x2), (3, tI x3), (4, tI (x4 + (1 : Int32)))] [] h nx 0 0 from hp)
  · obtain ⟨w9, hf9, e9⟩ := z_i1_inv hf; clear hf; subst e9; have hf := hf9; clear hf9
    refine zv_iload K 3 eX11_faultOf_402 rfl ?_
    have e9 := Option.some.inj hf; subst e9
    exact zv_iret K eX11_faultOf_404 hp
set_option maxHeartbeats 4000000 in
set_option maxRecDepth 100000 in
theorem v_X11_faultOf_b205 {X : zX} (K : z_Ok X cX11_faultOf (some .int) RX11 "faultOf") (hX : z_Xo X rm_X11_faultOf 8) {x0 : Option Nat} {x2 : Int32} {x3 : Int32} {x4 : Int32} {s0 : Int32} {h : zH} {nx : Nat} {x : (((Option Nat) × Int32 × Int32 × Int32 × Int32 × zH) ⊕ (Int32 × zH))} (hf : f_X11_faultOf_b205 x0 x2 x3 x4 s0 h = some x) (hp : P_X11_faultOf_14 X nx x) : zV X 205 [(0, tA x0), (2, tI x2), (3, tI x3), (4, tI x4)] [tI s0] h nx 0 0 := by
  unfold f_X11_faultOf_b205 at hf
  refine zv_istore K [(6, tI s0), (0, tA x0), (2, tI x2), (3, tI x3), (4, tI x4)] eX11_faultOf_205 (z_lt hX.2 (by decide)) rfl ?_
  refine zv_goto K 397 eX11_faultOf_207 (by decide) ?_
  exact zv_sub [1, 2, 3, 4, 0] rfl (v_X11_faultOf_b397 K hX hf hp)
set_option maxHeartbeats 4000000 in
set_option maxRecDepth 100000 in
theorem v_X11_faultOf_b178 {X : zX} (K : z_Ok X cX11_faultOf (some .int) RX11 "faultOf") (hX : z_Xo X rm_X11_faultOf 8) {x0 : Option Nat} {x1 : Int32} {x2 : Int32} {x3 : Int32} {x4 : Int32} {x5 : Int32} {h : zH} {nx : Nat} {x : (((Option Nat) × Int32 × Int32 × Int32 × Int32 × zH) ⊕ (Int32 × zH))} (hf : f_X11_faultOf_b178 x0 x1 x2 x3 x4 x5 h = some x) (hp : P_X11_faultOf_14 X nx x) : zV X 178 [(0, tA x0), (1, tI x1), (2, tI x2), (3, tI x3), (4, tI x4), (5, tI x5)] [] h nx 0 0 := by
  unfold f_X11_faultOf_b178 at hf
  refine zv_iload K 5 eX11_faultOf_178 rfl ?_
  refine zv_bipush K (48 : Int32) eX11_faultOf_180 (by decide) ?_
  refine zv_bipush K (51 : Int32) eX11_faultOf_182 (by decide) ?_
  obtain ⟨v2, h1, eh1, hf⟩ := z_b2_inv hf
  refine zv_cS0 K [tI x5, tI (48 : Int32), tI (51 : Int32)] [] eX11_faultOf_184 lk_X11_65 md_X11_in st_X11_in rfl rfl (Nat.le_of_ble_eq_true rfl) (c_X11_in X.1.2.1 X.2.2.1 eh1) rfl rfl ⟨z_le (z_fr hX) (by decide), z_le (z_lo hX) (by decide)⟩ ⟨Nat.zero_le _, Nat.zero_le _⟩ ?_
  refine zv_if_eq K 203 eX11_faultOf_187 (by decide) hf (fun _ hf => ?_) (fun _ hf => ?_)
  · refine zv_bipush K (-4 : Int32) eX11_faultOf_203 (by decide) ?_
    exact zv_sub [0, 2, 3, 4] rfl (v_X11_faultOf_b205 K hX hf hp)
  · refine zv_iload_n K 1 eX11_faultOf_190 rfl ?_
    refine zv_iconst K (2 : Int32) eX11_faultOf_191 (by decide) ?_
    refine zv_icmp_ne K 199 eX11_faultOf_192 (by decide) hf (fun _ hf => ?_) (fun _ hf => ?_)
    · refine zv_iconst K (5 : Int32) eX11_faultOf_199 (by decide) ?_
      refine zv_goto K 205 eX11_faultOf_200 (by decide) ?_
      exact zv_sub [0, 2, 3, 4] rfl (v_X11_faultOf_b205 K hX hf hp)
    · refine zv_iconst K (3 : Int32) eX11_faultOf_195 (by decide) ?_
      refine zv_goto K 205 eX11_faultOf_196 (by decide) ?_
      exact zv_sub [0, 2, 3, 4] rfl (v_X11_faultOf_b205 K hX hf hp)
set_option maxHeartbeats 4000000 in
set_option maxRecDepth 100000 in
theorem v_X11_faultOf_b392 {X : zX} (K : z_Ok X cX11_faultOf (some .int) RX11 "faultOf") (hX : z_Xo X rm_X11_faultOf 8) {x0 : Option Nat} {x2 : Int32} {x3 : Int32} {x4 : Int32} {s0 : Int32} {h : zH} {nx : Nat} {x : (((Option Nat) × Int32 × Int32 × Int32 × Int32 × zH) ⊕ (Int32 × zH))} (hf : f_X11_faultOf_b392 x0 x2 x3 x4 s0 h = some x) (hp : P_X11_faultOf_14 X nx x) : zV X 392 [(0, tA x0), (2, tI x2), (3, tI x3), (4, tI x4)] [tI s0] h nx 0 0 := by
  unfold f_X11_faultOf_b392 at hf
  refine zv_istore K [(6, tI s0), (0, tA x0), (2, tI x2), (3, tI x3), (4, tI x4)] eX11_faultOf_392 (z_lt hX.2 (by decide)) rfl ?_
  refine zv_iinc K (x3 + (1 : Int32)) 3 [(3, tI (x3 + (1 : Int32))), (6, tI s0), (0, tA x0), (2, tI x2), (4, tI x4)] eX11_faultOf_394 rfl rfl (z_lt hX.2 (by decide)) rfl ?_
  exact zv_sub [2, 3, 0, 4, 1] rfl (v_X11_faultOf_b397 K hX hf hp)
set_option maxHeartbeats 4000000 in
set_option maxRecDepth 100000 in
theorem v_X11_faultOf_b367 {X : zX} (K : z_Ok X cX11_faultOf (some .int) RX11 "faultOf") (hX : z_Xo X rm_X11_faultOf 8) {x0 : Option Nat} {x2 : Int32} {x3 : Int32} {x4 : Int32} {h : zH} {nx : Nat} {x : (((Option Nat) × Int32 × Int32 × Int32 × Int32 × zH) ⊕ (Int32 × zH))} (hf : f_X11_faultOf_b367 x0 x2 x3 x4 h = some x) (hp : P_X11_faultOf_14 X nx x) : zV X 367 [(0, tA x0), (2, tI x2), (3, tI x3), (4, tI x4)] [] h nx 0 0 := by
  unfold f_X11_faultOf_b367 at hf
  refine zv_iconst K (5 : Int32) eX11_faultOf_367 (by decide) ?_
  refine zv_goto K 392 eX11_faultOf_368 (by decide) ?_
  exact zv_sub [0, 1, 2, 3] rfl (v_X11_faultOf_b392 K hX hf hp)
set_option maxHeartbeats 4000000 in
set_option maxRecDepth 100000 in
theorem v_X11_faultOf_b385 {X : zX} (K : z_Ok X cX11_faultOf (some .int) RX11 "faultOf") (hX : z_Xo X rm_X11_faultOf 8) {x0 : Option Nat} {x2 : Int32} {x3 : Int32} {x4 : Int32} {h : zH} {nx : Nat} {x : (((Option Nat) × Int32 × Int32 × Int32 × Int32 × zH) ⊕ (Int32 × zH))} (hf : f_X11_faultOf_b385 x0 x2 x3 x4 h = some x) (hp : P_X11_faultOf_14 X nx x) : zV X 385 [(0, tA x0), (2, tI x2), (3, tI x3), (4, tI x4)] [] h nx 0 0 := by
  unfold f_X11_faultOf_b385 at hf
  refine zv_bipush K (6 : Int32) eX11_faultOf_385 (by decide) ?_
  refine zv_goto K 392 eX11_faultOf_387 (by decide) ?_
  exact zv_sub [0, 1, 2, 3] rfl (v_X11_faultOf_b392 K hX hf hp)
set_option maxHeartbeats 4000000 in
set_option maxRecDepth 100000 in
theorem v_X11_faultOf_b334 {X : zX} (K : z_Ok X cX11_faultOf (some .int) RX11 "faultOf") (hX : z_Xo X rm_X11_faultOf 8) {x0 : Option Nat} {x2 : Int32} {x3 : Int32} {x4 : Int32} {x5 : Int32} {x6 : Int32} {h : zH} {nx : Nat} {x : (((Option Nat) × Int32 × Int32 × Int32 × Int32 × zH) ⊕ (Int32 × zH))} (hf : f_X11_faultOf_b334 x0 x2 x3 x4 x5 x6 h = some x) (hp : P_X11_faultOf_14 X nx x) : zV X 334 [(0, tA x0), (2, tI x2), (3, tI x3), (4, tI x4), (5, tI x5), (6, tI x6)] [] h nx 0 0 := by
  unfold f_X11_faultOf_b334 at hf
  refine zv_iload_n K 2 eX11_faultOf_334 rfl ?_
  refine zv_iconst K (4 : Int32) eX11_faultOf_335 (by decide) ?_
  refine zv_icmp_ge K 397 eX11_faultOf_336 (by decide) hf (fun _ hf => ?_) (fun _ hf => ?_)
  · exact zv_sub [0, 1, 2, 3, 5] rfl (v_X11_faultOf_b397 K hX hf hp)
  · refine zv_iload K 4 eX11_faultOf_339 rfl ?_
    refine zv_bipush K (102 : Int32) eX11_faultOf_341 (by decide) ?_
    refine zv_icmp_eq K 367 eX11_faultOf_343 (by decide) hf (fun _ hf => ?_) (fun _ hf => ?_)
    · exact zv_sub [0, 1, 2, 3] rfl (v_X11_faultOf_b367 K hX hf hp)
    · refine zv_iload K 4 eX11_faultOf_346 rfl ?_
      refine zv_bipush K (103 : Int32) eX11_faultOf_348 (by decide) ?_
      refine zv_icmp_eq K 367 eX11_faultOf_350 (by decide) hf (fun _ hf => ?_) (fun _ hf => ?_)
      · exact zv_sub [0, 1, 2, 3] rfl (v_X11_faultOf_b367 K hX hf hp)
      · refine zv_iload K 4 eX11_faultOf_353 rfl ?_
        refine zv_bipush K (112 : Int32) eX11_faultOf_355 (by decide) ?_
        refine zv_icmp_eq K 367 eX11_faultOf_357 (by decide) hf (fun _ hf => ?_) (fun _ hf => ?_)
        · exact zv_sub [0, 1, 2, 3] rfl (v_X11_faultOf_b367 K hX hf hp)
        · refine zv_iload K 4 eX11_faultOf_360 rfl ?_
          refine zv_bipush K (100 : Int32) eX11_faultOf_362 (by decide) ?_
          refine zv_icmp_ne K 371 eX11_faultOf_364 (by decide) hf (fun _ hf => ?_) (fun _ hf => ?_)
          · refine zv_iload K 4 eX11_faultOf_371 rfl ?_
            refine zv_bipush K (115 : Int32) eX11_faultOf_373 (by decide) ?_
            refine zv_icmp_eq K 385 eX11_faultOf_375 (by decide) hf (fun _ hf => ?_) (fun _ hf => ?_)
            · exact zv_sub [0, 1, 2, 3] rfl (v_X11_faultOf_b385 K hX hf hp)
            · refine zv_iload K 4 eX11_faultOf_378 rfl ?_
              refine zv_bipush K (111 : Int32) eX11_faultOf_380 (by decide) ?_
              refine zv_icmp_ne K 390 eX11_faultOf_382 (by decide) hf (fun _ hf => ?_) (fun _ hf => ?_)
              · refine zv_bipush K (-4 : Int32) eX11_faultOf_390 (by decide) ?_
                exact zv_sub [0, 1, 2, 3] rfl (v_X11_faultOf_b392 K hX hf hp)
              · exact zv_sub [0, 1, 2, 3] rfl (v_X11_faultOf_b385 K hX hf hp)
          · exact zv_sub [0, 1, 2, 3] rfl (v_X11_faultOf_b367 K hX hf hp)
set_option maxHeartbeats 4000000 in
set_option maxRecDepth 100000 in
theorem v_X11_faultOf_b290 {X : zX} (K : z_Ok X cX11_faultOf (some .int) RX11 "faultOf") (hX : z_Xo X rm_X11_faultOf 8) {x0 : Option Nat} {x4 : Int32} {x6 : Int32} {s0 : Int32} {s1 : Int32} {h : zH} {nx : Nat} {x : (((Option Nat) × Int32 × Int32 × Int32 × Int32 × zH) ⊕ (Int32 × zH))} (hf : f_X11_faultOf_b290 x0 x4 x6 s0 s1 h = some x) (hp : P_X11_faultOf_14 X nx x) : zV X 290 [(0, tA x0), (4, tI x4), (6, tI x6)] [tI s1, tI s0] h nx 0 0 := by
  unfold f_X11_faultOf_b290 at hf
  refine zv_isub K eX11_faultOf_290 ?_
  refine zv_istore_n K [(2, tI (s0 - s1)), (0, tA x0), (4, tI x4), (6, tI x6)] eX11_faultOf_291 (z_lt hX.2 (by decide)) rfl ?_
  refine zv_iconst K (0 : Int32) eX11_faultOf_292 (by decide) ?_
  refine zv_istore_n K [(3, tI (0 : Int32)), (2, tI (s0 - s1)), (0, tA x0), (4, tI x4), (6, tI x6)] eX11_faultOf_293 (z_lt hX.2 (by decide)) rfl ?_
  refine zv_goto K 397 eX11_faultOf_294 (by decide) ?_
  exact zv_sub [2, 1, 0, 3, 4] rfl (v_X11_faultOf_b397 K hX hf hp)
set_option maxHeartbeats 4000000 in
set_option maxRecDepth 100000 in
theorem v_X11_faultOf_b277 {X : zX} (K : z_Ok X cX11_faultOf (some .int) RX11 "faultOf") (hX : z_Xo X rm_X11_faultOf 8) {x0 : Option Nat} {x2 : Int32} {x4 : Int32} {x7 : Int32} {s0 : Int32} {h : zH} {nx : Nat} {x : (((Option Nat) × Int32 × Int32 × Int32 × Int32 × zH) ⊕ (Int32 × zH))} (hf : f_X11_faultOf_b277 x0 x2 x4 x7 s0 h = some x) (hp : P_X11_faultOf_14 X nx x) : zV X 277 [(0, tA x0), (2, tI x2), (4, tI x4), (7, tI x7)] [tI s0] h nx 0 0 := by
  unfold f_X11_faultOf_b277 at hf
  refine zv_istore K [(6, tI s0), (0, tA x0), (2, tI x2), (4, tI x4), (7, tI x7)] eX11_faultOf_277 (z_lt hX.2 (by decide)) rfl ?_
  refine zv_iload_n K 2 eX11_faultOf_279 rfl ?_
  refine zv_iload K 4 eX11_faultOf_280 rfl ?_
  refine zv_if_eq K 289 eX11_faultOf_282 (by decide) hf (fun _ hf => ?_) (fun _ hf => ?_)
  · refine zv_iconst K (0 : Int32) eX11_faultOf_289 (by decide) ?_
    exact zv_sub [1, 3, 0] rfl (v_X11_faultOf_b290 K hX hf hp)
  · refine zv_iconst K (1 : Int32) eX11_faultOf_285 (by decide) ?_
    refine zv_goto K 290 eX11_faultOf_286 (by decide) ?_
    exact zv_sub [1, 3, 0] rfl (v_X11_faultOf_b290 K hX hf hp)
set_option maxHeartbeats 4000000 in
set_option maxRecDepth 100000 in
theorem v_X11_faultOf_b247 {X : zX} (K : z_Ok X cX11_faultOf (some .int) RX11 "faultOf") (hX : z_Xo X rm_X11_faultOf 8) {x0 : Option Nat} {x2 : Int32} {x4 : Int32} {x7 : Int32} {h : zH} {nx : Nat} {x : (((Option Nat) × Int32 × Int32 × Int32 × Int32 × zH) ⊕ (Int32 × zH))} (hf : f_X11_faultOf_b247 x0 x2 x4 x7 h = some x) (hp : P_X11_faultOf_14 X nx x) : zV X 247 [(0, tA x0), (2, tI x2), (4, tI x4), (7, tI x7)] [] h nx 0 0 := by
  unfold f_X11_faultOf_b247 at hf
  refine zv_iconst K (0 : Int32) eX11_faultOf_247 (by decide) ?_
  refine zv_goto K 277 eX11_faultOf_248 (by decide) ?_
  exact zv_sub [0, 1, 2, 3] rfl (v_X11_faultOf_b277 K hX hf hp)
set_option maxHeartbeats 4000000 in
set_option maxRecDepth 100000 in
theorem v_X11_faultOf_b275 {X : zX} (K : z_Ok X cX11_faultOf (some .int) RX11 "faultOf") (hX : z_Xo X rm_X11_faultOf 8) {x0 : Option Nat} {x2 : Int32} {x4 : Int32} {x7 : Int32} {h : zH} {nx : Nat} {x : (((Option Nat) × Int32 × Int32 × Int32 × Int32 × zH) ⊕ (Int32 × zH))} (hf : f_X11_faultOf_b275 x0 x2 x4 x7 h = some x) (hp : P_X11_faultOf_14 X nx x) : zV X 275 [(0, tA x0), (2, tI x2), (4, tI x4), (7, tI x7)] [] h nx 0 0 := by
  unfold f_X11_faultOf_b275 at hf
  refine zv_bipush K (-4 : Int32) eX11_faultOf_275 (by decide) ?_
  exact zv_sub [0, 1, 2, 3] rfl (v_X11_faultOf_b277 K hX hf hp)
set_option maxHeartbeats 4000000 in
set_option maxRecDepth 100000 in
theorem v_X11_faultOf_b231 {X : zX} (K : z_Ok X cX11_faultOf (some .int) RX11 "faultOf") (hX : z_Xo X rm_X11_faultOf 8) {x0 : Option Nat} {x2 : Int32} {x4 : Int32} {x5 : Int32} {s0 : Int32} {h : zH} {nx : Nat} {x : (((Option Nat) × Int32 × Int32 × Int32 × Int32 × zH) ⊕ (Int32 × zH))} (hf : f_X11_faultOf_b231 x0 x2 x4 x5 s0 h = some x) (hp : P_X11_faultOf_14 X nx x) : zV X 231 [(0, tA x0), (2, tI x2), (4, tI x4), (5, tI x5)] [tI s0] h nx 0 0 := by
  unfold f_X11_faultOf_b231 at hf
  refine zv_istore K [(7, tI s0), (0, tA x0), (2, tI x2), (4, tI x4), (5, tI x5)] eX11_faultOf_231 (z_lt hX.2 (by decide)) rfl ?_
  refine zv_iload K 4 eX11_faultOf_233 rfl ?_
  refine zv_bipush K (38 : Int32) eX11_faultOf_235 (by decide) ?_
  refine zv_icmp_eq K 247 eX11_faultOf_237 (by decide) hf (fun _ hf => ?_) (fun _ hf => ?_)
  · exact zv_sub [1, 2, 3, 0] rfl (v_X11_faultOf_b247 K hX hf hp)
  · refine zv_iload K 4 eX11_faultOf_240 rfl ?_
    refine zv_bipush K (124 : Int32) eX11_faultOf_242 (by decide) ?_
    refine zv_icmp_ne K 251 eX11_faultOf_244 (by decide) hf (fun _ hf => ?_) (fun _ hf => ?_)
    · refine zv_iload K 0 eX11_faultOf_251 rfl ?_
      refine zv_if_eq K 260 eX11_faultOf_253 (by decide) hf (fun _ hf => ?_) (fun _ hf => ?_)
      · refine zv_iload K 4 eX11_faultOf_260 rfl ?_
        refine zv_bipush K (58 : Int32) eX11_faultOf_262 (by decide) ?_
        refine zv_icmp_ne K 275 eX11_faultOf_264 (by decide) hf (fun _ hf => ?_) (fun _ hf => ?_)
        · exact zv_sub [1, 2, 3, 0] rfl (v_X11_faultOf_b275 K hX hf hp)
        · refine zv_iload_n K 2 eX11_faultOf_267 rfl ?_
          refine zv_if_ne K 275 eX11_faultOf_268 (by decide) hf (fun _ hf => ?_) (fun _ hf => ?_)
          · exact zv_sub [1, 2, 3, 0] rfl (v_X11_faultOf_b275 K hX hf hp)
          · refine zv_iconst K (4 : Int32) eX11_faultOf_271 (by decide) ?_
            refine zv_goto K 277 eX11_faultOf_272 (by decide) ?_
            exact zv_sub [1, 2, 3, 0] rfl (v_X11_faultOf_b277 K hX hf hp)
      · refine zv_iconst K (3 : Int32) eX11_faultOf_256 (by decide) ?_
        refine zv_goto K 277 eX11_faultOf_257 (by decide) ?_
        exact zv_sub [1, 2, 3, 0] rfl (v_X11_faultOf_b277 K hX hf hp)
    · exact zv_sub [1, 2, 3, 0] rfl (v_X11_faultOf_b247 K hX hf hp)
set_option maxHeartbeats 4000000 in
set_option maxRecDepth 100000 in
theorem v_X11_faultOf_b230 {X : zX} (K : z_Ok X cX11_faultOf (some .int) RX11 "faultOf") (hX : z_Xo X rm_X11_faultOf 8) {x0 : Option Nat} {x2 : Int32} {x4 : Int32} {x5 : Int32} {h : zH} {nx : Nat} {x : (((Option Nat) × Int32 × Int32 × Int32 × Int32 × zH) ⊕ (Int32 × zH))} (hf : f_X11_faultOf_b230 x0 x2 x4 x5 h = some x) (hp : P_X11_faultOf_14 X nx x) : zV X 230 [(0, tA x0), (2, tI x2), (4, tI x4), (5, tI x5)] [] h nx 0 0 := by
  unfold f_X11_faultOf_b230 at hf
  refine zv_iconst K (0 : Int32) eX11_faultOf_230 (by decide) ?_
  exact zv_sub [0, 1, 2, 3] rfl (v_X11_faultOf_b231 K hX hf hp)
set_option maxHeartbeats 4000000 in
set_option maxRecDepth 100000 in
theorem v_X11_faultOf_b162 {X : zX} (K : z_Ok X cX11_faultOf (some .int) RX11 "faultOf") (hX : z_Xo X rm_X11_faultOf 8) {x0 : Option Nat} {x3 : Int32} {x4 : Int32} {x6 : Int32} {s0 : Int32} {s1 : Int32} {h : zH} {nx : Nat} {x : (((Option Nat) × Int32 × Int32 × Int32 × Int32 × zH) ⊕ (Int32 × zH))} (hf : f_X11_faultOf_b162 x0 x3 x4 x6 s0 s1 h = some x) (hp : P_X11_faultOf_14 X nx x) : zV X 162 [(0, tA x0), (3, tI x3), (4, tI x4), (6, tI x6)] [tI s1, tI s0] h nx 0 0 := by
  unfold f_X11_faultOf_b162 at hf
  refine zv_iadd K eX11_faultOf_162 ?_
  refine zv_istore_n K [(2, tI (s0 + s1)), (0, tA x0), (3, tI x3), (4, tI x4), (6, tI x6)] eX11_faultOf_163 (z_lt hX.2 (by decide)) rfl ?_
  refine zv_goto K 397 eX11_faultOf_164 (by decide) ?_
  exact zv_sub [1, 0, 2, 3, 4] rfl (v_X11_faultOf_b397 K hX hf hp)
set_option maxHeartbeats 4000000 in
set_option maxRecDepth 100000 in
theorem v_X11_faultOf_b149 {X : zX} (K : z_Ok X cX11_faultOf (some .int) RX11 "faultOf") (hX : z_Xo X rm_X11_faultOf 8) {x0 : Option Nat} {x2 : Int32} {x3 : Int32} {x4 : Int32} {x7 : Int32} {s0 : Int32} {h : zH} {nx : Nat} {x : (((Option Nat) × Int32 × Int32 × Int32 × Int32 × zH) ⊕ (Int32 × zH))} (hf : f_X11_faultOf_b149 x0 x2 x3 x4 x7 s0 h = some x) (hp : P_X11_faultOf_14 X nx x) : zV X 149 [(0, tA x0), (2, tI x2), (3, tI x3), (4, tI x4), (7, tI x7)] [tI s0] h nx 0 0 := by
  unfold f_X11_faultOf_b149 at hf
  refine zv_istore K [(6, tI s0), (0, tA x0), (2, tI x2), (3, tI x3), (4, tI x4), (7, tI x7)] eX11_faultOf_149 (z_lt hX.2 (by decide)) rfl ?_
  refine zv_iload_n K 2 eX11_faultOf_151 rfl ?_
  refine zv_iload K 5 eX11_faultOf_152 rfl ?_
  refine zv_if_eq K 161 eX11_faultOf_154 (by decide) hf (fun _ hf => ?_) (fun _ hf => ?_)
  · refine zv_iconst K (0 : Int32) eX11_faultOf_161 (by decide) ?_
    exact zv_sub [1, 3, 4, 0] rfl (v_X11_faultOf_b162 K hX hf hp)
  · refine zv_iconst K (1 : Int32) eX11_faultOf_157 (by decide) ?_
    refine zv_goto K 162 eX11_faultOf_158 (by decide) ?_
    exact zv_sub [1, 3, 4, 0] rfl (v_X11_faultOf_b162 K hX hf hp)
set_option maxHeartbeats 4000000 in
set_option maxRecDepth 100000 in
theorem v_X11_faultOf_b94 {X : zX} (K : z_Ok X cX11_faultOf (some .int) RX11 "faultOf") (hX : z_Xo X rm_X11_faultOf 8) {x0 : Option Nat} {x2 : Int32} {x3 : Int32} {x4 : Int32} {x7 : Int32} {h : zH} {nx : Nat} {x : (((Option Nat) × Int32 × Int32 × Int32 × Int32 × zH) ⊕ (Int32 × zH))} (hf : f_X11_faultOf_b94 x0 x2 x3 x4 x7 h = some x) (hp : P_X11_faultOf_14 X nx x) : zV X 94 [(0, tA x0), (2, tI x2), (3, tI x3), (4, tI x4), (7, tI x7)] [] h nx 0 0 := by
  unfold f_X11_faultOf_b94 at hf
  refine zv_iconst K (2 : Int32) eX11_faultOf_94 (by decide) ?_
  refine zv_goto K 149 eX11_faultOf_95 (by decide) ?_
  exact zv_sub [0, 1, 2, 3, 4] rfl (v_X11_faultOf_b149 K hX hf hp)
set_option maxHeartbeats 4000000 in
set_option maxRecDepth 100000 in
theorem v_X11_faultOf_b119 {X : zX} (K : z_Ok X cX11_faultOf (some .int) RX11 "faultOf") (hX : z_Xo X rm_X11_faultOf 8) {x0 : Option Nat} {x2 : Int32} {x3 : Int32} {x4 : Int32} {x7 : Int32} {h : zH} {nx : Nat} {x : (((Option Nat) × Int32 × Int32 × Int32 × Int32 × zH) ⊕ (Int32 × zH))} (hf : f_X11_faultOf_b119 x0 x2 x3 x4 x7 h = some x) (hp : P_X11_faultOf_14 X nx x) : zV X 119 [(0, tA x0), (2, tI x2), (3, tI x3), (4, tI x4), (7, tI x7)] [] h nx 0 0 := by
  unfold f_X11_faultOf_b119 at hf
  refine zv_iconst K (3 : Int32) eX11_faultOf_119 (by decide) ?_
  refine zv_goto K 149 eX11_faultOf_120 (by decide) ?_
  exact zv_sub [0, 1, 2, 3, 4] rfl (v_X11_faultOf_b149 K hX hf hp)
set_option maxHeartbeats 4000000 in
set_option maxRecDepth 100000 in
theorem v_X11_faultOf_b138 {X : zX} (K : z_Ok X cX11_faultOf (some .int) RX11 "faultOf") (hX : z_Xo X rm_X11_faultOf 8) {x0 : Option Nat} {x2 : Int32} {x3 : Int32} {x4 : Int32} {x7 : Int32} {h : zH} {nx : Nat} {x : (((Option Nat) × Int32 × Int32 × Int32 × Int32 × zH) ⊕ (Int32 × zH))} (hf : f_X11_faultOf_b138 x0 x2 x3 x4 x7 h = some x) (hp : P_X11_faultOf_14 X nx x) : zV X 138 [(0, tA x0), (2, tI x2), (3, tI x3), (4, tI x4), (7, tI x7)] [] h nx 0 0 := by
  unfold f_X11_faultOf_b138 at hf
  refine zv_iload K 4 eX11_faultOf_138 rfl ?_
  refine zv_if_eq K 147 eX11_faultOf_140 (by decide) hf (fun _ hf => ?_) (fun _ hf => ?_)
  · refine zv_bipush K (-4 : Int32) eX11_faultOf_147 (by decide) ?_
    exact zv_sub [0, 1, 2, 3, 4] rfl (v_X11_faultOf_b149 K hX hf hp)
  · refine zv_iconst K (0 : Int32) eX11_faultOf_143 (by decide) ?_
    refine zv_goto K 149 eX11_faultOf_144 (by decide) ?_
    exact zv_sub [0, 1, 2, 3, 4] rfl (v_X11_faultOf_b149 K hX hf hp)
set_option maxHeartbeats 4000000 in
set_option maxRecDepth 100000 in
theorem v_X11_faultOf_b71 {X : zX} (K : z_Ok X cX11_faultOf (some .int) RX11 "faultOf") (hX : z_Xo X rm_X11_faultOf 8) {x0 : Option Nat} {x1 : Int32} {x2 : Int32} {x3 : Int32} {x4 : Int32} {x5 : Int32} {s0 : Int32} {h : zH} {nx : Nat} {x : (((Option Nat) × Int32 × Int32 × Int32 × Int32 × zH) ⊕ (Int32 × zH))} (hf : f_X11_faultOf_b71 x0 x1 x2 x3 x4 x5 s0 h = some x) (hp : P_X11_faultOf_14 X nx x) : zV X 71 [(0, tA x0), (1, tI x1), (2, tI x2), (3, tI x3), (4, tI x4), (5, tI x5)] [tI s0] h nx 0 0 := by
  unfold f_X11_faultOf_b71 at hf
  refine zv_istore K [(7, tI s0), (0, tA x0), (1, tI x1), (2, tI x2), (3, tI x3), (4, tI x4), (5, tI x5)] eX11_faultOf_71 (z_lt hX.2 (by decide)) rfl ?_
  refine zv_iload K 6 eX11_faultOf_73 rfl ?_
  refine zv_bipush K (119 : Int32) eX11_faultOf_75 (by decide) ?_
  refine zv_icmp_eq K 94 eX11_faultOf_77 (by decide) hf (fun _ hf => ?_) (fun _ hf => ?_)
  · exact zv_sub [1, 3, 4, 5, 0] rfl (v_X11_faultOf_b94 K hX hf hp)
  · refine zv_iload K 6 eX11_faultOf_80 rfl ?_
    refine zv_bipush K (116 : Int32) eX11_faultOf_82 (by decide) ?_
    refine zv_icmp_eq K 94 eX11_faultOf_84 (by decide) hf (fun _ hf => ?_) (fun _ hf => ?_)
    · exact zv_sub [1, 3, 4, 5, 0] rfl (v_X11_faultOf_b94 K hX hf hp)
    · refine zv_iload K 6 eX11_faultOf_87 rfl ?_
      refine zv_bipush K (109 : Int32) eX11_faultOf_89 (by decide) ?_
      refine zv_icmp_ne K 98 eX11_faultOf_91 (by decide) hf (fun _ hf => ?_) (fun _ hf => ?_)
      · refine zv_iload K 6 eX11_faultOf_98 rfl ?_
        refine zv_bipush K (104 : Int32) eX11_faultOf_100 (by decide) ?_
        refine zv_icmp_eq K 119 eX11_faultOf_102 (by decide) hf (fun _ hf => ?_) (fun _ hf => ?_)
        · exact zv_sub [1, 3, 4, 5, 0] rfl (v_X11_faultOf_b119 K hX hf hp)
        · refine zv_iload K 6 eX11_faultOf_105 rfl ?_
          refine zv_bipush K (120 : Int32) eX11_faultOf_107 (by decide) ?_
          refine zv_icmp_eq K 119 eX11_faultOf_109 (by decide) hf (fun _ hf => ?_) (fun _ hf => ?_)
          · exact zv_sub [1, 3, 4, 5, 0] rfl (v_X11_faultOf_b119 K hX hf hp)
          · refine zv_iload K 6 eX11_faultOf_112 rfl ?_
            refine zv_bipush K (42 : Int32) eX11_faultOf_114 (by decide) ?_
            refine zv_icmp_ne K 123 eX11_faultOf_116 (by decide) hf (fun _ hf => ?_) (fun _ hf => ?_)
            · refine zv_iload K 6 eX11_faultOf_123 rfl ?_
              refine zv_bipush K (33 : Int32) eX11_faultOf_125 (by decide) ?_
              refine zv_icmp_ne K 138 eX11_faultOf_127 (by decide) hf (fun _ hf => ?_) (fun _ hf => ?_)
              · exact zv_sub [1, 3, 4, 5, 0] rfl (v_X11_faultOf_b138 K hX hf hp)
              · refine zv_iload_n K 2 eX11_faultOf_130 rfl ?_
                refine zv_if_ne K 138 eX11_faultOf_131 (by decide) hf (fun _ hf => ?_) (fun _ hf => ?_)
                · exact zv_sub [1, 3, 4, 5, 0] rfl (v_X11_faultOf_b138 K hX hf hp)
                · refine zv_iconst K (1 : Int32) eX11_faultOf_134 (by decide) ?_
                  refine zv_goto K 149 eX11_faultOf_135 (by decide) ?_
                  exact zv_sub [1, 3, 4, 5, 0] rfl (v_X11_faultOf_b149 K hX hf hp)
            · exact zv_sub [1, 3, 4, 5, 0] rfl (v_X11_faultOf_b119 K hX hf hp)
      · exact zv_sub [1, 3, 4, 5, 0] rfl (v_X11_faultOf_b94 K hX hf hp)
set_option maxHeartbeats 4000000 in
set_option maxRecDepth 100000 in
theorem v_X11_faultOf_b70 {X : zX} (K : z_Ok X cX11_faultOf (some .int) RX11 "faultOf") (hX : z_Xo X rm_X11_faultOf 8) {x0 : Option Nat} {x1 : Int32} {x2 : Int32} {x3 : Int32} {x4 : Int32} {x5 : Int32} {h : zH} {nx : Nat} {x : (((Option Nat) × Int32 × Int32 × Int32 × Int32 × zH) ⊕ (Int32 × zH))} (hf : f_X11_faultOf_b70 x0 x1 x2 x3 x4 x5 h = some x) (hp : P_X11_faultOf_14 X nx x) : zV X 70 [(0, tA x0), (1, tI x1), (2, tI x2), (3, tI x3), (4, tI x4), (5, tI x5)] [] h nx 0 0 := by
  unfold f_X11_faultOf_b70 at hf
  refine zv_iconst K (0 : Int32) eX11_faultOf_70 (by decide) ?_
  exact zv_sub [0, 1, 2, 3, 4, 5] rfl (v_X11_faultOf_b71 K hX hf hp)
set_option maxHeartbeats 4000000 in
set_option maxRecDepth 100000 in
theorem v_X11_faultOf_c14 {X : zX} (K : z_Ok X cX11_faultOf (some .int) RX11 "faultOf") (hX : z_Xo X rm_X11_faultOf 8) {x0 : Option Nat} {x1 : Int32} {x2 : Int32} {x3 : Int32} {x4 : Int32} {h : zH} {nx : Nat} {x : (((Option Nat) × Int32 × Int32 × Int32 × Int32 × zH) ⊕ (Int32 × zH))} (hf : f_X11_faultOf_c14 x0 x1 x2 x3 x4 h = some x) (hp : P_X11_faultOf_14 X nx x) : zV X 14 [(0, tA x0), (1, tI x1), (2, tI x2), (3, tI x3), (4, tI x4)] [] h nx 0 0 := by
  unfold f_X11_faultOf_c14 at hf
  refine zv_iload K 4 eX11_faultOf_14 rfl ?_
  refine zv_aload_n K 0 eX11_faultOf_16 rfl ?_
  refine zv_gI K eX11_faultOf_17 fl_X11_135 hf (fun v1 hf => ?_)
  refine zv_icmp_ge K 414 eX11_faultOf_20 (by decide) hf (fun _ hf => ?_) (fun _ hf => ?_)
  · obtain ⟨w9, hf9, e9⟩ := z_i1_inv hf; clear hf; subst e9; have hf := hf9; clear hf9
    refine zv_iload_n K 1 eX11_faultOf_414 rfl ?_
    refine zv_iconst K (5 : Int32) eX11_faultOf_415 (by decide) ?_
    refine zv_icmp_ne K 424 eX11_faultOf_416 (by decide) hf (fun _ hf => ?_) (fun _ hf => ?_)
    · refine zv_aload_n K 0 eX11_faultOf_424 rfl ?_
      refine zv_gI K eX11_faultOf_425 fl_X11_135 hf (fun v2 hf => ?_)
      have e9 := Option.some.inj hf; subst e9
      exact zv_iret K eX11_faultOf_428 hp
    · refine zv_bipush K (-4 : Int32) eX11_faultOf_419 (by decide) ?_
      refine zv_goto K 428 eX11_faultOf_421 (by decide) ?_
      have e9 := Option.some.inj hf; subst e9
      exact zv_iret K eX11_faultOf_428 hp
  · refine zv_aload_n K 0 eX11_faultOf_23 rfl ?_
    refine zv_gA K eX11_faultOf_24 fl_X11_23 hf (fun v3 hf => ?_)
    refine zv_iload K 4 eX11_faultOf_27 rfl ?_
    refine zv_aI K eX11_faultOf_29 hf (fun v4 hf => ?_)
    refine zv_istore K [(5, tI v4), (0, tA x0), (1, tI x1), (2, tI x2), (3, tI x3), (4, tI x4)] eX11_faultOf_30 (z_lt hX.2 (by decide)) rfl ?_
    refine zv_bipush K (-4 : Int32) eX11_faultOf_32 (by decide) ?_
    refine zv_istore K [(6, tI (-4 : Int32)), (5, tI v4), (0, tA x0), (1, tI x1), (2, tI x2), (3, tI x3), (4, tI x4)] eX11_faultOf_34 (z_lt hX.2 (by decide)) rfl ?_
    refine zv_iload K 1 eX11_faultOf_36 rfl ?_
    refine zv_bipush K (32 : Int32) eX11_faultOf_38 (by decide) ?_
    refine zv_icmp_ne K 49 eX11_faultOf_40 (by decide) hf (fun _ hf => ?_) (fun _ hf => ?_)
    · refine zv_iload_n K 3 eX11_faultOf_49 rfl ?_
      refine zv_iconst K (2 : Int32) eX11_faultOf_50 (by decide) ?_
      refine zv_icmp_ge K 167 eX11_faultOf_51 (by decide) hf (fun _ hf => ?_) (fun _ hf => ?_)
      · refine zv_iload_n K 3 eX11_faultOf_167 rfl ?_
        refine zv_iconst K (2 : Int32) eX11_faultOf_168 (by decide) ?_
        refine zv_icmp_eq K 178 eX11_faultOf_169 (by decide) hf (fun _ hf => ?_) (fun _ hf => ?_)
        · exact zv_sub [2, 3, 4, 5, 6, 1] rfl (v_X11_faultOf_b178 K hX hf hp)
        · refine zv_iload_n K 3 eX11_faultOf_172 rfl ?_
          refine zv_bipush K (6 : Int32) eX11_faultOf_173 (by decide) ?_
          refine zv_icmp_ne K 210 eX11_faultOf_175 (by decide) hf (fun _ hf => ?_) (fun _ hf => ?_)
          · refine zv_iload_n K 3 eX11_faultOf_210 rfl ?_
            refine zv_iconst K (3 : Int32) eX11_faultOf_211 (by decide) ?_
            refine zv_icmp_ne K 297 eX11_faultOf_212 (by decide) hf (fun _ hf => ?_) (fun _ hf => ?_)
            · refine zv_iload K 1 eX11_faultOf_297 rfl ?_
              refine zv_bipush K (59 : Int32) eX11_faultOf_299 (by decide) ?_
              refine zv_icmp_ne K 334 eX11_faultOf_301 (by decide) hf (fun _ hf => ?_) (fun _ hf => ?_)
              · exact zv_sub [2, 4, 5, 6, 1, 0] rfl (v_X11_faultOf_b334 K hX hf hp)
              · refine zv_iload_n K 3 eX11_faultOf_304 rfl ?_
                refine zv_iconst K (5 : Int32) eX11_faultOf_305 (by decide) ?_
                refine zv_icmp_ne K 334 eX11_faultOf_306 (by decide) hf (fun _ hf => ?_) (fun _ hf => ?_)
                · exact zv_sub [2, 4, 5, 6, 1, 0] rfl (v_X11_faultOf_b334 K hX hf hp)
                · refine zv_aload_n K 2 eX11_faultOf_309 rfl ?_
                  refine zv_gI K eX11_faultOf_310 fl_X11_139 hf (fun v5 hf => ?_)
                  refine zv_bipush K (6 : Int32) eX11_faultOf_313 (by decide) ?_
                  refine zv_icmp_ge K 334 eX11_faultOf_315 (by decide) hf (fun _ hf => ?_) (fun _ hf => ?_)
                  · exact zv_sub [2, 4, 5, 6, 1, 0] rfl (v_X11_faultOf_b334 K hX hf hp)
                  · refine zv_aload_n K 2 eX11_faultOf_318 rfl ?_
                    refine zv_dup K eX11_faultOf_319 rfl ?_
                    refine zv_gI K eX11_faultOf_320 fl_X11_139 hf (fun v6 hf => ?_)
                    refine zv_iconst K (1 : Int32) eX11_faultOf_323 (by decide) ?_
                    refine zv_iadd K eX11_faultOf_324 ?_
                    refine zv_pI K eX11_faultOf_325 fl_X11_139 ff_11_10 rfl hf (fun h7 hf => ?_)
                    refine zv_iconst K (0 : Int32) eX11_faultOf_328 (by decide) ?_
                    refine zv_istore K [(6, tI (0 : Int32)), (5, tI v4), (0, tA x0), (1, tI x1), (2, tI x2), (3, tI x3), (4, tI x4)] eX11_faultOf_329 (z_lt hX.2 (by decide)) rfl ?_
                    refine zv_goto K 397 eX11_faultOf_331 (by decide) ?_
                    exact zv_sub [2, 4, 5, 6, 0] rfl (v_X11_faultOf_b397 K hX hf hp)
            · refine zv_iload K 1 eX11_faultOf_215 rfl ?_
              refine zv_bipush K (41 : Int32) eX11_faultOf_217 (by decide) ?_
              refine zv_icmp_ne K 230 eX11_faultOf_219 (by decide) hf (fun _ hf => ?_) (fun _ hf => ?_)
              · exact zv_sub [2, 4, 6, 1] rfl (v_X11_faultOf_b230 K hX hf hp)
              · refine zv_iload_n K 4 eX11_faultOf_222 rfl ?_
                refine zv_if_le K 230 eX11_faultOf_223 (by decide) hf (fun _ hf => ?_) (fun _ hf => ?_)
                · exact zv_sub [2, 4, 6, 1] rfl (v_X11_faultOf_b230 K hX hf hp)
                · refine zv_iconst K (1 : Int32) eX11_faultOf_226 (by decide) ?_
                  refine zv_goto K 231 eX11_faultOf_227 (by decide) ?_
                  exact zv_sub [2, 4, 6, 1] rfl (v_X11_faultOf_b231 K hX hf hp)
          · exact zv_sub [2, 3, 4, 5, 6, 1] rfl (v_X11_faultOf_b178 K hX hf hp)
      · refine zv_iload K 1 eX11_faultOf_54 rfl ?_
        refine zv_bipush K (40 : Int32) eX11_faultOf_56 (by decide) ?_
        refine zv_icmp_ne K 70 eX11_faultOf_58 (by decide) hf (fun _ hf => ?_) (fun _ hf => ?_)
        · exact zv_sub [2, 3, 4, 5, 6, 1] rfl (v_X11_faultOf_b70 K hX hf hp)
        · refine zv_iload_n K 4 eX11_faultOf_61 rfl ?_
          refine zv_iconst K (4 : Int32) eX11_faultOf_62 (by decide) ?_
          refine zv_icmp_ge K 70 eX11_faultOf_63 (by decide) hf (fun _ hf => ?_) (fun _ hf => ?_)
          · exact zv_sub [2, 3, 4, 5, 6, 1] rfl (v_X11_faultOf_b70 K hX hf hp)
          · refine zv_iconst K (1 : Int32) eX11_faultOf_66 (by decide) ?_
            refine zv_goto K 71 eX11_faultOf_67 (by decide) ?_
            exact zv_sub [2, 3, 4, 5, 6, 1] rfl (v_X11_faultOf_b71 K hX hf hp)
    · refine zv_iload_n K 3 eX11_faultOf_43 rfl ?_
      refine zv_istore K [(6, tI x1), (5, tI v4), (0, tA x0), (1, tI x1), (2, tI x2), (3, tI x3), (4, tI x4)] eX11_faultOf_44 (z_lt hX.2 (by decide)) rfl ?_
      refine zv_goto K 397 eX11_faultOf_46 (by decide) ?_
      exact zv_sub [2, 4, 5, 6, 0] rfl (v_X11_faultOf_b397 K hX hf hp)
theorem v_X11_faultOf_b14 {X : zX} (K : z_Ok X cX11_faultOf (some .int) RX11 "faultOf") (hX : z_Xo X rm_X11_faultOf 8) {x0 : Option Nat} {x1 : Int32} {x2 : Int32} {x3 : Int32} {x4 : Int32} {h : zH} {nx : Nat} {x : (Int32 × zH)} (hf : f_X11_faultOf_b14 x0 x1 x2 x3 x4 h = some x) (hp : z_P0I X nx x) : zV X 14 [(0, tA x0), (1, tI x1), (2, tI x2), (3, tI x3), (4, tI x4)] [] h nx 0 0 :=
  z_it_ind (P := fun s : (Option Nat) × Int32 × Int32 × Int32 × Int32 × zH => zV X 14 [(0, tA s.1), (1, tI s.2.1), (2, tI s.2.2.1), (3, tI s.2.2.2.1), (4, tI s.2.2.2.2.1)] [] s.2.2.2.2.2 nx 0 0) (fun s y hb hy => v_X11_faultOf_c14 K hX hb (z_PL_of hy hp)) hf
set_option maxHeartbeats 4000000 in
set_option maxRecDepth 100000 in
theorem v_X11_faultOf {X : zX} (K : z_Ok X cX11_faultOf (some .int) RX11 "faultOf") (hX : z_Xo X rm_X11_faultOf 8) {x0 : Option Nat} {h : zH} {nx : Nat} {x : (Int32 × zH)} (hf : f_X11_faultOf x0 h = some x) (hp : z_P0I X nx x) : zV X 0 [(0, tA x0)] [] h nx 0 0 := by
  unfold f_X11_faultOf at hf
  refine zv_iconst K (0 : Int32) eX11_faultOf_0 (by decide) ?_
  refine zv_istore_n K [(1, tI (0 : Int32)), (0, tA x0)] eX11_faultOf_1 (z_lt hX.2 (by decide)) rfl ?_
  refine zv_iconst K (0 : Int32) eX11_faultOf_2 (by decide) ?_
  refine zv_istore_n K [(2, tI (0 : Int32)), (1, tI (0 : Int32)), (0, tA x0)] eX11_faultOf_3 (z_lt hX.2 (by decide)) rfl ?_
  refine zv_iconst K (0 : Int32) eX11_faultOf_4 (by decide) ?_
  refine zv_istore_n K [(3, tI (0 : Int32)), (2, tI (0 : Int32)), (1, tI (0 : Int32)), (0, tA x0)] eX11_faultOf_5 (z_lt hX.2 (by decide)) rfl ?_
  refine zv_aload_n K 3 eX11_faultOf_6 rfl ?_
  refine zv_iconst K (1 : Int32) eX11_faultOf_7 (by decide) ?_
  refine zv_pI K eX11_faultOf_8 fl_X11_139 ff_11_10 rfl hf (fun h1 hf => ?_)
  refine zv_iconst K (0 : Int32) eX11_faultOf_11 (by decide) ?_
  refine zv_istore K [(4, tI (0 : Int32)), (3, tI (0 : Int32)), (2, tI (0 : Int32)), (1, tI (0 : Int32)), (0, tA x0)] eX11_faultOf_12 (z_lt hX.2 (by decide)) rfl ?_
  exact zv_sub [4, 3, 2, 1, 0] rfl (v_X11_faultOf_b14 K hX hf hp)
theorem c_X11_faultOf (l : Launch) (G : zG) {x0 : Option Nat} {h : zH} {nx : Nat} {x : Int32 × zH} (hf : f_X11_faultOf x0 h = some x) : z_Ct l G yX11_faultOf cX11_faultOf 8 (some .int) rm_X11_faultOf [tA x0] h nx (some (tI x.1)) x.2 nx 0 0 :=
  z_enter [(0, tA x0)] (by decide +kernel) (Nat.le_of_ble_eq_true rfl) rfl (fun X hl hR hG hL K hq => by
    subst hl; subst hG
    exact v_X11_faultOf K ⟨hR, hL⟩ hf hq)
def P_X11_rules_40 (X : zX) (nx : Nat) : ((Option Nat) × Int32 × Int32 × Int32 × Int32 × zH) ⊕ (Int32 × zH) → Prop := z_PL (fun s => zV X 40 [(0, tA s.1), (1, tI s.2.1), (3, tI s.2.2.1), (4, tI s.2.2.2.1), (5, tI s.2.2.2.2.1)] [] s.2.2.2.2.2 nx 0 0) (z_P0I X nx)
set_option maxHeartbeats 4000000 in
set_option maxRecDepth 100000 in
theorem v_X11_rules_b84 {X : zX} (K : z_Ok X cX11_rules (some .int) RX11 "rules") (hX : z_Xo X rm_X11_rules 6) {x0 : Option Nat} {x1 : Int32} {x3 : Int32} {x4 : Int32} {x5 : Int32} {h : zH} {nx : Nat} {x : (((Option Nat) × Int32 × Int32 × Int32 × Int32 × zH) ⊕ (Int32 × zH))} (hf : f_X11_rules_b84 x0 x1 x3 x4 x5 h = some x) (hp : P_X11_rules_40 X nx x) : zV X 84 [(0, tA x0), (1, tI x1), (3, tI x3), (4, tI x4), (5, tI x5)] [] h nx 0 0 := by
  unfold f_X11_rules_b84 at hf
  refine zv_iinc K (x5 + (1 : Int32)) 4 [(5, tI (x5 + (1 : Int32))), (0, tA x0), (1, tI x1), (3, tI x3), (4, tI x4)] eX11_rules_84 rfl rfl (z_lt hX.2 (by decide)) rfl ?_
  refine zv_goto K 40 eX11_rules_87 (by decide) ?_
  cases hf
  exact zv_sub [1, 2, 3, 4, 0] rfl (show zV X 40 [(0, tA x0), (1, tI x1), (3, tI x3), (4, tI x4), (5, tI (x5 + (1 : Int32)))] [] h nx 0 0 from hp)
set_option maxHeartbeats 4000000 in
set_option maxRecDepth 100000 in
theorem v_X11_rules_c40 {X : zX} (K : z_Ok X cX11_rules (some .int) RX11 "rules") (hX : z_Xo X rm_X11_rules 6) {x0 : Option Nat} {x1 : Int32} {x3 : Int32} {x4 : Int32} {x5 : Int32} {h : zH} {nx : Nat} {x : (((Option Nat) × Int32 × Int32 × Int32 × Int32 × zH) ⊕ (Int32 × zH))} (hf : f_X11_rules_c40 x0 x1 x3 x4 x5 h = some x) (hp : P_X11_rules_40 X nx x) : zV X 40 [(0, tA x0), (1, tI x1), (3, tI x3), (4, tI x4), (5, tI x5)] [] h nx 0 0 := by
  unfold f_X11_rules_c40 at hf
  refine zv_iload K 4 eX11_rules_40 rfl ?_
  refine zv_iload_n K 2 eX11_rules_42 rfl ?_
  refine zv_icmp_ge K 90 eX11_rules_43 (by decide) hf (fun _ hf => ?_) (fun _ hf => ?_)
  · obtain ⟨w9, hf9, e9⟩ := z_i1_inv hf; clear hf; subst e9; have hf := hf9; clear hf9
    refine zv_aload_n K 0 eX11_rules_90 rfl ?_
    refine zv_gA K eX11_rules_91 fl_X11_7 hf (fun v1 hf => ?_)
    refine zv_iload_n K 1 eX11_rules_94 rfl ?_
    refine zv_iconst K (3 : Int32) eX11_rules_95 (by decide) ?_
    obtain ⟨v3, h2, eh2, hf⟩ := z_b2_inv hf
    refine zv_cS0 K [tI x1, tI (3 : Int32)] [tA v1] eX11_rules_96 lk_X11_69 md_X11_of st_X11_of rfl rfl (Nat.le_of_ble_eq_true rfl) (c_X11_of X.1.2.1 X.2.2.1 eh2) rfl rfl ⟨z_le (z_fr hX) (by decide), z_le (z_lo hX) (by decide)⟩ ⟨Nat.zero_le _, Nat.zero_le _⟩ ?_
    refine zv_iload K 3 eX11_rules_99 rfl ?_
    refine zv_sI K eX11_rules_101 hf (fun h4 hf => ?_)
    refine zv_aload_n K 0 eX11_rules_102 rfl ?_
    refine zv_gA K eX11_rules_103 fl_X11_7 hf (fun v5 hf => ?_)
    refine zv_iload_n K 1 eX11_rules_106 rfl ?_
    refine zv_iconst K (4 : Int32) eX11_rules_107 (by decide) ?_
    obtain ⟨v7, h6, eh6, hf⟩ := z_b2_inv hf
    refine zv_cS0 K [tI x1, tI (4 : Int32)] [tA v5] eX11_rules_108 lk_X11_69 md_X11_of st_X11_of rfl rfl (Nat.le_of_ble_eq_true rfl) (c_X11_of X.1.2.1 X.2.2.1 eh6) rfl rfl ⟨z_le (z_fr hX) (by decide), z_le (z_lo hX) (by decide)⟩ ⟨Nat.zero_le _, Nat.zero_le _⟩ ?_
    refine zv_aload_n K 0 eX11_rules_111 rfl ?_
    refine zv_gI K eX11_rules_112 fl_X11_139 hf (fun v8 hf => ?_)
    refine zv_sI K eX11_rules_115 hf (fun h9 hf => ?_)
    refine zv_aload_n K 0 eX11_rules_116 rfl ?_
    refine zv_gI K eX11_rules_117 fl_X11_139 hf (fun v10 hf => ?_)
    have e9 := Option.some.inj hf; subst e9
    exact zv_iret K eX11_rules_120 hp
  · refine zv_aload_n K 0 eX11_rules_46 rfl ?_
    refine zv_gA K eX11_rules_47 fl_X11_23 hf (fun v11 hf => ?_)
    refine zv_iload K 4 eX11_rules_50 rfl ?_
    refine zv_aI K eX11_rules_52 hf (fun v12 hf => ?_)
    refine zv_bipush K (32 : Int32) eX11_rules_53 (by decide) ?_
    refine zv_icmp_eq K 84 eX11_rules_55 (by decide) hf (fun _ hf => ?_) (fun _ hf => ?_)
    · exact zv_sub [0, 1, 2, 3, 4] rfl (v_X11_rules_b84 K hX hf hp)
    · refine zv_aload_n K 0 eX11_rules_58 rfl ?_
      refine zv_gA K eX11_rules_59 fl_X11_7 hf (fun v13 hf => ?_)
      refine zv_sipush K (190 : Int32) eX11_rules_62 (by decide) ?_
      refine zv_bipush K (100 : Int32) eX11_rules_65 (by decide) ?_
      refine zv_iload_n K 1 eX11_rules_67 rfl ?_
      refine zv_imul K eX11_rules_68 ?_
      refine zv_iadd K eX11_rules_69 ?_
      refine zv_iload K 3 eX11_rules_70 rfl ?_
      refine zv_iadd K eX11_rules_72 ?_
      refine zv_aload_n K 0 eX11_rules_73 rfl ?_
      refine zv_gA K eX11_rules_74 fl_X11_23 hf (fun v14 hf => ?_)
      refine zv_iload K 4 eX11_rules_77 rfl ?_
      refine zv_aI K eX11_rules_79 hf (fun v15 hf => ?_)
      refine zv_sI K eX11_rules_80 hf (fun h16 hf => ?_)
      refine zv_iinc K (x4 + (1 : Int32)) 3 [(4, tI (x4 + (1 : Int32))), (0, tA x0), (1, tI x1), (3, tI x3), (5, tI x5)] eX11_rules_81 rfl rfl (z_lt hX.2 (by decide)) rfl ?_
      exact zv_sub [1, 2, 3, 0, 4] rfl (v_X11_rules_b84 K hX hf hp)
theorem v_X11_rules_b40 {X : zX} (K : z_Ok X cX11_rules (some .int) RX11 "rules") (hX : z_Xo X rm_X11_rules 6) {x0 : Option Nat} {x1 : Int32} {x3 : Int32} {x4 : Int32} {x5 : Int32} {h : zH} {nx : Nat} {x : (Int32 × zH)} (hf : f_X11_rules_b40 x0 x1 x3 x4 x5 h = some x) (hp : z_P0I X nx x) : zV X 40 [(0, tA x0), (1, tI x1), (3, tI x3), (4, tI x4), (5, tI x5)] [] h nx 0 0 :=
  z_it_ind (P := fun s : (Option Nat) × Int32 × Int32 × Int32 × Int32 × zH => zV X 40 [(0, tA s.1), (1, tI s.2.1), (3, tI s.2.2.1), (4, tI s.2.2.2.1), (5, tI s.2.2.2.2.1)] [] s.2.2.2.2.2 nx 0 0) (fun s y hb hy => v_X11_rules_c40 K hX hb (z_PL_of hy hp)) hf
set_option maxHeartbeats 4000000 in
set_option maxRecDepth 100000 in
theorem v_X11_rules {X : zX} (K : z_Ok X cX11_rules (some .int) RX11 "rules") (hX : z_Xo X rm_X11_rules 6) {x0 : Option Nat} {x1 : Int32} {h : zH} {nx : Nat} {x : (Int32 × zH)} (hf : f_X11_rules x0 x1 h = some x) (hp : z_P0I X nx x) : zV X 0 [(0, tA x0), (1, tI x1)] [] h nx 0 0 := by
  unfold f_X11_rules at hf
  refine zv_aload_n K 0 eX11_rules_0 rfl ?_
  refine zv_iload_n K 1 eX11_rules_1 rfl ?_
  obtain ⟨q1, hq1, hf⟩ := z_bind_inv hf
  obtain ⟨v3, h2, eh2, hf⟩ := z_b2_inv hf
  refine zv_cV0 K [tI x1] [] eX11_rules_2 lk_X11_73 md_X11_isArm im_X11_isArm sl_X11_isArm rfl rfl rfl rfl (Nat.le_of_ble_eq_true rfl) hq1 (c_X11_isArm X.1.2.1 X.2.2.1 eh2) rfl rfl ⟨z_le (z_fr hX) (by decide), z_le (z_lo hX) (by decide)⟩ ⟨Nat.zero_le _, Nat.zero_le _⟩ ?_
  refine zv_if_ne K 10 eX11_rules_5 (by decide) hf (fun _ hf => ?_) (fun _ hf => ?_)
  · refine zv_aload_n K 0 eX11_rules_10 rfl ?_
    obtain ⟨q4, hq4, hf⟩ := z_bind_inv hf
    obtain ⟨v6, h5, eh5, hf⟩ := z_b2_inv hf
    refine zv_cV0 K [] [] eX11_rules_11 lk_X11_142 md_X11_faultOf im_X11_faultOf sl_X11_faultOf rfl rfl rfl rfl (Nat.le_of_ble_eq_true rfl) hq4 (c_X11_faultOf X.1.2.1 X.2.2.1 eh5) rfl rfl ⟨z_le (z_fr hX) (by decide), z_le (z_lo hX) (by decide)⟩ ⟨Nat.zero_le _, Nat.zero_le _⟩ ?_
    refine zv_istore_n K [(2, tI v6), (0, tA x0), (1, tI x1)] eX11_rules_14 (z_lt hX.2 (by decide)) rfl ?_
    refine zv_aload_n K 1 eX11_rules_15 rfl ?_
    refine zv_gI K eX11_rules_16 fl_X11_135 hf (fun v7 hf => ?_)
    refine zv_istore_n K [(3, tI v7), (2, tI v6), (0, tA x0), (1, tI x1)] eX11_rules_19 (z_lt hX.2 (by decide)) rfl ?_
    refine zv_aload_n K 2 eX11_rules_20 rfl ?_
    refine zv_iconst K (0 : Int32) eX11_rules_21 (by decide) ?_
    refine zv_pI K eX11_rules_22 fl_X11_135 ff_11_4 rfl hf (fun h8 hf => ?_)
    refine zv_iload_n K 1 eX11_rules_25 rfl ?_
    refine zv_if_lt K 34 eX11_rules_26 (by decide) hf (fun _ hf => ?_) (fun _ hf => ?_)
    · refine zv_iconst K (0 : Int32) eX11_rules_34 (by decide) ?_
      refine zv_istore K [(4, tI (0 : Int32)), (3, tI v7), (2, tI v6), (0, tA x0), (1, tI x1)] eX11_rules_35 (z_lt hX.2 (by decide)) rfl ?_
      refine zv_iconst K (0 : Int32) eX11_rules_37 (by decide) ?_
      refine zv_istore K [(5, tI (0 : Int32)), (4, tI (0 : Int32)), (3, tI v7), (2, tI v6), (0, tA x0), (1, tI x1)] eX11_rules_38 (z_lt hX.2 (by decide)) rfl ?_
      exact zv_sub [4, 5, 2, 1, 0] rfl (v_X11_rules_b40 K hX hf hp)
    · refine zv_bipush K (-20 : Int32) eX11_rules_29 (by decide) ?_
      refine zv_iload_n K 1 eX11_rules_31 rfl ?_
      refine zv_isub K eX11_rules_32 ?_
      have e9 := Option.some.inj hf; subst e9
      exact zv_iret K eX11_rules_33 hp
  · refine zv_iconst K (-1 : Int32) eX11_rules_8 (by decide) ?_
    have e9 := Option.some.inj hf; subst e9
    exact zv_iret K eX11_rules_9 hp
theorem c_X11_rules (l : Launch) (G : zG) {x0 : Option Nat} {x1 : Int32} {h : zH} {nx : Nat} {x : Int32 × zH} (hf : f_X11_rules x0 x1 h = some x) : z_Ct l G yX11_rules cX11_rules 6 (some .int) rm_X11_rules [tA x0, tI x1] h nx (some (tI x.1)) x.2 nx 0 0 :=
  z_enter [(0, tA x0), (1, tI x1)] (by decide +kernel) (Nat.le_of_ble_eq_true rfl) rfl (fun X hl hR hG hL K hq => by
    subst hl; subst hG
    exact v_X11_rules K ⟨hR, hL⟩ hf hq)
set_option maxHeartbeats 4000000 in
set_option maxRecDepth 100000 in
theorem v_X11_head {X : zX} (K : z_Ok X cX11_head (some .int) RX11 "head") (hX : z_Xo X rm_X11_head 4) {x0 : Option Nat} {x1 : Int32} {x2 : Int32} {h : zH} {nx : Nat} {x : (Int32 × zH)} (hf : f_X11_head x0 x1 x2 h = some x) (hp : z_P0I X nx x) : zV X 0 [(0, tA x0), (1, tI x1), (2, tI x2)] [] h nx 0 0 := by
  unfold f_X11_head at hf
  refine zv_aload_n K 0 eX11_head_0 rfl ?_
  refine zv_iload_n K 1 eX11_head_1 rfl ?_
  obtain ⟨q1, hq1, hf⟩ := z_bind_inv hf
  obtain ⟨v3, h2, eh2, hf⟩ := z_b2_inv hf
  refine zv_cV0 K [tI x1] [] eX11_head_2 lk_X11_73 md_X11_isArm im_X11_isArm sl_X11_isArm rfl rfl rfl rfl (Nat.le_of_ble_eq_true rfl) hq1 (c_X11_isArm X.1.2.1 X.2.2.1 eh2) rfl rfl ⟨z_le (z_fr hX) (by decide), z_le (z_lo hX) (by decide)⟩ ⟨Nat.zero_le _, Nat.zero_le _⟩ ?_
  refine zv_if_eq K 17 eX11_head_5 (by decide) hf (fun _ hf => ?_) (fun _ hf => ?_)
  · refine zv_iconst K (-1 : Int32) eX11_head_17 (by decide) ?_
    have e9 := Option.some.inj hf; subst e9
    exact zv_iret K eX11_head_18 hp
  · refine zv_iload_n K 2 eX11_head_8 rfl ?_
    refine zv_iconst K (0 : Int32) eX11_head_9 (by decide) ?_
    refine zv_iconst K (3 : Int32) eX11_head_10 (by decide) ?_
    obtain ⟨v5, h4, eh4, hf⟩ := z_b2_inv hf
    refine zv_cS0 K [tI x2, tI (0 : Int32), tI (3 : Int32)] [] eX11_head_11 lk_X11_65 md_X11_in st_X11_in rfl rfl (Nat.le_of_ble_eq_true rfl) (c_X11_in X.1.2.1 X.2.2.1 eh4) rfl rfl ⟨z_le (z_fr hX) (by decide), z_le (z_lo hX) (by decide)⟩ ⟨Nat.zero_le _, Nat.zero_le _⟩ ?_
    refine zv_if_ne K 19 eX11_head_14 (by decide) hf (fun _ hf => ?_) (fun _ hf => ?_)
    · refine zv_aload_n K 0 eX11_head_19 rfl ?_
      refine zv_gA K eX11_head_20 fl_X11_7 hf (fun v6 hf => ?_)
      refine zv_iload_n K 1 eX11_head_23 rfl ?_
      refine zv_iconst K (2 : Int32) eX11_head_24 (by decide) ?_
      obtain ⟨v8, h7, eh7, hf⟩ := z_b2_inv hf
      refine zv_cS0 K [tI x1, tI (2 : Int32)] [tA v6] eX11_head_25 lk_X11_69 md_X11_of st_X11_of rfl rfl (Nat.le_of_ble_eq_true rfl) (c_X11_of X.1.2.1 X.2.2.1 eh7) rfl rfl ⟨z_le (z_fr hX) (by decide), z_le (z_lo hX) (by decide)⟩ ⟨Nat.zero_le _, Nat.zero_le _⟩ ?_
      refine zv_aI K eX11_head_28 hf (fun v9 hf => ?_)
      refine zv_istore_n K [(3, tI v9), (0, tA x0), (1, tI x1), (2, tI x2)] eX11_head_29 (z_lt hX.2 (by decide)) rfl ?_
      refine zv_aload_n K 1 eX11_head_30 rfl ?_
      refine zv_gA K eX11_head_31 fl_X11_7 hf (fun v10 hf => ?_)
      refine zv_iload_n K 2 eX11_head_34 rfl ?_
      refine zv_iconst K (2 : Int32) eX11_head_35 (by decide) ?_
      obtain ⟨v12, h11, eh11, hf⟩ := z_b2_inv hf
      refine zv_cS0 K [tI x1, tI (2 : Int32)] [tA v10] eX11_head_36 lk_X11_69 md_X11_of st_X11_of rfl rfl (Nat.le_of_ble_eq_true rfl) (c_X11_of X.1.2.1 X.2.2.1 eh11) rfl rfl ⟨z_le (z_fr hX) (by decide), z_le (z_lo hX) (by decide)⟩ ⟨Nat.zero_le _, Nat.zero_le _⟩ ?_
      refine zv_iload_n K 3 eX11_head_39 rfl ?_
      refine zv_sI K eX11_head_40 hf (fun h13 hf => ?_)
      refine zv_iload_n K 0 eX11_head_41 rfl ?_
      have e9 := Option.some.inj hf; subst e9
      exact zv_iret K eX11_head_42 hp
    · refine zv_iconst K (-1 : Int32) eX11_head_17 (by decide) ?_
      have e9 := Option.some.inj hf; subst e9
      exact zv_iret K eX11_head_18 hp
theorem c_X11_head (l : Launch) (G : zG) {x0 : Option Nat} {x1 : Int32} {x2 : Int32} {h : zH} {nx : Nat} {x : Int32 × zH} (hf : f_X11_head x0 x1 x2 h = some x) : z_Ct l G yX11_head cX11_head 4 (some .int) rm_X11_head [tA x0, tI x1, tI x2] h nx (some (tI x.1)) x.2 nx 0 0 :=
  z_enter [(0, tA x0), (1, tI x1), (2, tI x2)] (by decide +kernel) (Nat.le_of_ble_eq_true rfl) rfl (fun X hl hR hG hL K hq => by
    subst hl; subst hG
    exact v_X11_head K ⟨hR, hL⟩ hf hq)
set_option maxHeartbeats 4000000 in
set_option maxRecDepth 100000 in
theorem v_X11_skin {X : zX} (K : z_Ok X cX11_skin (some .int) RX11 "skin") (hX : z_Xo X rm_X11_skin 3) {x0 : Option Nat} {x1 : Int32} {h : zH} {nx : Nat} {x : (Int32 × zH)} (hf : f_X11_skin x0 x1 h = some x) (hp : z_P0I X nx x) : zV X 0 [(0, tA x0), (1, tI x1)] [] h nx 0 0 := by
  unfold f_X11_skin at hf
  refine zv_iload_n K 1 eX11_skin_0 rfl ?_
  refine zv_iconst K (0 : Int32) eX11_skin_1 (by decide) ?_
  refine zv_iconst K (3 : Int32) eX11_skin_2 (by decide) ?_
  obtain ⟨v2, h1, eh1, hf⟩ := z_b2_inv hf
  refine zv_cS0 K [tI x1, tI (0 : Int32), tI (3 : Int32)] [] eX11_skin_3 lk_X11_65 md_X11_in st_X11_in rfl rfl (Nat.le_of_ble_eq_true rfl) (c_X11_in X.1.2.1 X.2.2.1 eh1) rfl rfl ⟨z_le (z_fr hX) (by decide), z_le (z_lo hX) (by decide)⟩ ⟨Nat.zero_le _, Nat.zero_le _⟩ ?_
  refine zv_if_ne K 11 eX11_skin_6 (by decide) hf (fun _ hf => ?_) (fun _ hf => ?_)
  · refine zv_aload_n K 0 eX11_skin_11 rfl ?_
    refine zv_gA K eX11_skin_12 fl_X11_7 hf (fun v3 hf => ?_)
    refine zv_bipush K (66 : Int32) eX11_skin_15 (by decide) ?_
    refine zv_aI K eX11_skin_17 hf (fun v4 hf => ?_)
    refine zv_istore_n K [(2, tI v4), (0, tA x0), (1, tI x1)] eX11_skin_18 (z_lt hX.2 (by decide)) rfl ?_
    refine zv_aload_n K 1 eX11_skin_19 rfl ?_
    refine zv_gA K eX11_skin_20 fl_X11_7 hf (fun v5 hf => ?_)
    refine zv_bipush K (66 : Int32) eX11_skin_23 (by decide) ?_
    refine zv_iload_n K 2 eX11_skin_25 rfl ?_
    refine zv_sI K eX11_skin_26 hf (fun h6 hf => ?_)
    refine zv_iload_n K 0 eX11_skin_27 rfl ?_
    have e9 := Option.some.inj hf; subst e9
    exact zv_iret K eX11_skin_28 hp
  · refine zv_iconst K (-1 : Int32) eX11_skin_9 (by decide) ?_
    have e9 := Option.some.inj hf; subst e9
    exact zv_iret K eX11_skin_10 hp
theorem c_X11_skin (l : Launch) (G : zG) {x0 : Option Nat} {x1 : Int32} {h : zH} {nx : Nat} {x : Int32 × zH} (hf : f_X11_skin x0 x1 h = some x) : z_Ct l G yX11_skin cX11_skin 3 (some .int) rm_X11_skin [tA x0, tI x1] h nx (some (tI x.1)) x.2 nx 0 0 :=
  z_enter [(0, tA x0), (1, tI x1)] (by decide +kernel) (Nat.le_of_ble_eq_true rfl) rfl (fun X hl hR hG hL K hq => by
    subst hl; subst hG
    exact v_X11_skin K ⟨hR, hL⟩ hf hq)
def P_X11_isNear_5 (X : zX) (nx : Nat) : ((Option Nat) × Int32 × Int32 × Int32 × Int32 × zH) ⊕ (Int32 × zH) → Prop := z_PL (fun s => zV X 5 [(0, tA s.1), (1, tI s.2.1), (2, tI s.2.2.1), (3, tI s.2.2.2.1), (4, tI s.2.2.2.2.1)] [] s.2.2.2.2.2 nx 0 0) (z_P0I X nx)
set_option maxHeartbeats 4000000 in
set_option maxRecDepth 100000 in
theorem v_X11_isNear_b76 {X : zX} (K : z_Ok X cX11_isNear (some .boolean) RX11 "isNear") (hX : z_Xo X rm_X11_isNear 7) {x0 : Option Nat} {x1 : Int32} {x2 : Int32} {x4 : Int32} {s0 : Int32} {h : zH} {nx : Nat} {x : (((Option Nat) × Int32 × Int32 × Int32 × Int32 × zH) ⊕ (Int32 × zH))} (hf : f_X11_isNear_b76 x0 x1 x2 x4 s0 h = some x) (hp : P_X11_isNear_5 X nx x) : zV X 76 [(0, tA x0), (1, tI x1), (2, tI x2), (4, tI x4)] [tI s0] h nx 0 0 := by
  unfold f_X11_isNear_b76 at hf
  refine zv_istore_n K [(3, tI s0), (0, tA x0), (1, tI x1), (2, tI x2), (4, tI x4)] eX11_isNear_76 (z_lt hX.2 (by decide)) rfl ?_
  refine zv_iinc K (x4 + (1 : Int32)) 4 [(4, tI (x4 + (1 : Int32))), (3, tI s0), (0, tA x0), (1, tI x1), (2, tI x2)] eX11_isNear_77 rfl rfl (z_lt hX.2 (by decide)) rfl ?_
  refine zv_goto K 5 eX11_isNear_80 (by decide) ?_
  cases hf
  exact zv_sub [2, 3, 4, 1, 0] rfl (show zV X 5 [(0, tA x0), (1, tI x1), (2, tI x2), (3, tI s0), (4, tI (x4 + (1 : Int32)))] [] h nx 0 0 from hp)
set_option maxHeartbeats 4000000 in
set_option maxRecDepth 100000 in
theorem v_X11_isNear_b71 {X : zX} (K : z_Ok X cX11_isNear (some .boolean) RX11 "isNear") (hX : z_Xo X rm_X11_isNear 7) {x0 : Option Nat} {x1 : Int32} {x2 : Int32} {x4 : Int32} {h : zH} {nx : Nat} {x : (((Option Nat) × Int32 × Int32 × Int32 × Int32 × zH) ⊕ (Int32 × zH))} (hf : f_X11_isNear_b71 x0 x1 x2 x4 h = some x) (hp : P_X11_isNear_5 X nx x) : zV X 71 [(0, tA x0), (1, tI x1), (2, tI x2), (4, tI x4)] [] h nx 0 0 := by
  unfold f_X11_isNear_b71 at hf
  refine zv_iconst K (1 : Int32) eX11_isNear_71 (by decide) ?_
  refine zv_goto K 76 eX11_isNear_72 (by decide) ?_
  exact zv_sub [0, 1, 2, 3] rfl (v_X11_isNear_b76 K hX hf hp)
set_option maxHeartbeats 4000000 in
set_option maxRecDepth 100000 in
theorem v_X11_isNear_b75 {X : zX} (K : z_Ok X cX11_isNear (some .boolean) RX11 "isNear") (hX : z_Xo X rm_X11_isNear 7) {x0 : Option Nat} {x1 : Int32} {x2 : Int32} {x4 : Int32} {h : zH} {nx : Nat} {x : (((Option Nat) × Int32 × Int32 × Int32 × Int32 × zH) ⊕ (Int32 × zH))} (hf : f_X11_isNear_b75 x0 x1 x2 x4 h = some x) (hp : P_X11_isNear_5 X nx x) : zV X 75 [(0, tA x0), (1, tI x1), (2, tI x2), (4, tI x4)] [] h nx 0 0 := by
  unfold f_X11_isNear_b75 at hf
  refine zv_iconst K (0 : Int32) eX11_isNear_75 (by decide) ?_
  exact zv_sub [0, 1, 2, 3] rfl (v_X11_isNear_b76 K hX hf hp)
set_option maxHeartbeats 4000000 in
set_option maxRecDepth 100000 in
theorem v_X11_isNear_b44 {X : zX} (K : z_Ok X cX11_isNear (some .boolean) RX11 "isNear") (hX : z_Xo X rm_X11_isNear 7) {x0 : Option Nat} {x1 : Int32} {x2 : Int32} {x3 : Int32} {x4 : Int32} {s0 : Int32} {h : zH} {nx : Nat} {x : (((Option Nat) × Int32 × Int32 × Int32 × Int32 × zH) ⊕ (Int32 × zH))} (hf : f_X11_isNear_b44 x0 x1 x2 x3 x4 s0 h = some x) (hp : P_X11_isNear_5 X nx x) : zV X 44 [(0, tA x0), (1, tI x1), (2, tI x2), (3, tI x3), (4, tI x4)] [tI s0] h nx 0 0 := by
  unfold f_X11_isNear_b44 at hf
  refine zv_istore K [(6, tI s0), (0, tA x0), (1, tI x1), (2, tI x2), (3, tI x3), (4, tI x4)] eX11_isNear_44 (z_lt hX.2 (by decide)) rfl ?_
  refine zv_iload_n K 4 eX11_isNear_46 rfl ?_
  refine zv_if_ne K 71 eX11_isNear_47 (by decide) hf (fun _ hf => ?_) (fun _ hf => ?_)
  · exact zv_sub [1, 2, 3, 5] rfl (v_X11_isNear_b71 K hX hf hp)
  · refine zv_iload K 0 eX11_isNear_50 rfl ?_
    refine zv_if_lt K 75 eX11_isNear_52 (by decide) hf (fun _ hf => ?_) (fun _ hf => ?_)
    · exact zv_sub [1, 2, 3, 5] rfl (v_X11_isNear_b75 K hX hf hp)
    · refine zv_aload_n K 1 eX11_isNear_55 rfl ?_
      refine zv_gA K eX11_isNear_56 fl_X11_7 hf (fun v1 hf => ?_)
      refine zv_iload K 0 eX11_isNear_59 rfl ?_
      obtain ⟨v3, h2, eh2, hf⟩ := z_b2_inv hf
      refine zv_cS0 K [tI s0] [tA v1] eX11_isNear_61 lk_X11_84 md_X11_thingAt st_X11_thingAt rfl rfl (Nat.le_of_ble_eq_true rfl) (c_X11_thingAt X.1.2.1 X.2.2.1 eh2) rfl rfl ⟨z_le (z_fr hX) (by decide), z_le (z_lo hX) (by decide)⟩ ⟨Nat.zero_le _, Nat.zero_le _⟩ ?_
      refine zv_iconst K (2 : Int32) eX11_isNear_64 (by decide) ?_
      refine zv_iadd K eX11_isNear_65 ?_
      refine zv_aI K eX11_isNear_66 hf (fun v4 hf => ?_)
      refine zv_iload_n K 3 eX11_isNear_67 rfl ?_
      refine zv_icmp_ne K 75 eX11_isNear_68 (by decide) hf (fun _ hf => ?_) (fun _ hf => ?_)
      · exact zv_sub [1, 2, 3, 5] rfl (v_X11_isNear_b75 K hX hf hp)
      · exact zv_sub [1, 2, 3, 5] rfl (v_X11_isNear_b71 K hX hf hp)
set_option maxHeartbeats 4000000 in
set_option maxRecDepth 100000 in
theorem v_X11_isNear_b26 {X : zX} (K : z_Ok X cX11_isNear (some .boolean) RX11 "isNear") (hX : z_Xo X rm_X11_isNear 7) {x0 : Option Nat} {x1 : Int32} {x2 : Int32} {x3 : Int32} {x4 : Int32} {s0 : Int32} {h : zH} {nx : Nat} {x : (((Option Nat) × Int32 × Int32 × Int32 × Int32 × zH) ⊕ (Int32 × zH))} (hf : f_X11_isNear_b26 x0 x1 x2 x3 x4 s0 h = some x) (hp : P_X11_isNear_5 X nx x) : zV X 26 [(0, tA x0), (1, tI x1), (2, tI x2), (3, tI x3), (4, tI x4)] [tI s0] h nx 0 0 := by
  unfold f_X11_isNear_b26 at hf
  refine zv_istore K [(5, tI s0), (0, tA x0), (1, tI x1), (2, tI x2), (3, tI x3), (4, tI x4)] eX11_isNear_26 (z_lt hX.2 (by decide)) rfl ?_
  refine zv_iload K 0 eX11_isNear_28 rfl ?_
  refine zv_if_ge K 38 eX11_isNear_30 (by decide) hf (fun _ hf => ?_) (fun _ hf => ?_)
  · refine zv_aload_n K 1 eX11_isNear_38 rfl ?_
    refine zv_iload K 0 eX11_isNear_39 rfl ?_
    obtain ⟨q1, hq1, hf⟩ := z_bind_inv hf
    obtain ⟨v3, h2, eh2, hf⟩ := z_b2_inv hf
    refine zv_cV0 K [tI s0] [] eX11_isNear_41 lk_X11_97 md_X11_lyingAt im_X11_lyingAt sl_X11_lyingAt rfl rfl rfl rfl (Nat.le_of_ble_eq_true rfl) hq1 (c_X11_lyingAt X.1.2.1 X.2.2.1 eh2) rfl rfl ⟨z_le (z_fr hX) (by decide), z_le (z_lo hX) (by decide)⟩ ⟨Nat.zero_le _, Nat.zero_le _⟩ ?_
    exact zv_sub [1, 2, 3, 4, 5] rfl (v_X11_isNear_b44 K hX hf hp)
  · refine zv_bipush K (-4 : Int32) eX11_isNear_33 (by decide) ?_
    refine zv_goto K 44 eX11_isNear_35 (by decide) ?_
    exact zv_sub [1, 2, 3, 4, 5] rfl (v_X11_isNear_b44 K hX hf hp)
set_option maxHeartbeats 4000000 in
set_option maxRecDepth 100000 in
theorem v_X11_isNear_c5 {X : zX} (K : z_Ok X cX11_isNear (some .boolean) RX11 "isNear") (hX : z_Xo X rm_X11_isNear 7) {x0 : Option Nat} {x1 : Int32} {x2 : Int32} {x3 : Int32} {x4 : Int32} {h : zH} {nx : Nat} {x : (((Option Nat) × Int32 × Int32 × Int32 × Int32 × zH) ⊕ (Int32 × zH))} (hf : f_X11_isNear_c5 x0 x1 x2 x3 x4 h = some x) (hp : P_X11_isNear_5 X nx x) : zV X 5 [(0, tA x0), (1, tI x1), (2, tI x2), (3, tI x3), (4, tI x4)] [] h nx 0 0 := by
  unfold f_X11_isNear_c5 at hf
  refine zv_iload K 4 eX11_isNear_5 rfl ?_
  refine zv_iconst K (4 : Int32) eX11_isNear_7 (by decide) ?_
  refine zv_icmp_ge K 83 eX11_isNear_8 (by decide) hf (fun _ hf => ?_) (fun _ hf => ?_)
  · obtain ⟨w9, hf9, e9⟩ := z_i1_inv hf; clear hf; subst e9; have hf := hf9; clear hf9
    refine zv_iload_n K 3 eX11_isNear_83 rfl ?_
    refine z_ite_inv _ hf (fun hv hf => ?_) (fun _ hf => ?_)
    · cases hf
      exact zv_zret K eX11_isNear_84 hv hp
    · cases hf
  · refine zv_iload K 4 eX11_isNear_11 rfl ?_
    refine zv_if_ge K 20 eX11_isNear_13 (by decide) hf (fun _ hf => ?_) (fun _ hf => ?_)
    · refine zv_iload_n K 1 eX11_isNear_20 rfl ?_
      refine zv_iload K 4 eX11_isNear_21 rfl ?_
      obtain ⟨v2, h1, eh1, hf⟩ := z_b2_inv hf
      refine zv_cS0 K [tI x1, tI x4] [] eX11_isNear_23 lk_X11_91 md_X11_beside st_X11_beside rfl rfl (Nat.le_of_ble_eq_true rfl) (c_X11_beside X.1.2.1 X.2.2.1 eh1) rfl rfl ⟨z_le (z_fr hX) (by decide), z_le (z_lo hX) (by decide)⟩ ⟨Nat.zero_le _, Nat.zero_le _⟩ ?_
      exact zv_sub [0, 1, 2, 3, 4] rfl (v_X11_isNear_b26 K hX hf hp)
    · refine zv_iload_n K 1 eX11_isNear_16 rfl ?_
      refine zv_goto K 26 eX11_isNear_17 (by decide) ?_
      exact zv_sub [0, 1, 2, 3, 4] rfl (v_X11_isNear_b26 K hX hf hp)
theorem v_X11_isNear_b5 {X : zX} (K : z_Ok X cX11_isNear (some .boolean) RX11 "isNear") (hX : z_Xo X rm_X11_isNear 7) {x0 : Option Nat} {x1 : Int32} {x2 : Int32} {x3 : Int32} {x4 : Int32} {h : zH} {nx : Nat} {x : (Int32 × zH)} (hf : f_X11_isNear_b5 x0 x1 x2 x3 x4 h = some x) (hp : z_P0I X nx x) : zV X 5 [(0, tA x0), (1, tI x1), (2, tI x2), (3, tI x3), (4, tI x4)] [] h nx 0 0 :=
  z_it_ind (P := fun s : (Option Nat) × Int32 × Int32 × Int32 × Int32 × zH => zV X 5 [(0, tA s.1), (1, tI s.2.1), (2, tI s.2.2.1), (3, tI s.2.2.2.1), (4, tI s.2.2.2.2.1)] [] s.2.2.2.2.2 nx 0 0) (fun s y hb hy => v_X11_isNear_c5 K hX hb (z_PL_of hy hp)) hf
set_option maxHeartbeats 4000000 in
set_option maxRecDepth 100000 in
theorem v_X11_isNear {X : zX} (K : z_Ok X cX11_isNear (some .boolean) RX11 "isNear") (hX : z_Xo X rm_X11_isNear 7) {x0 : Option Nat} {x1 : Int32} {x2 : Int32} {h : zH} {nx : Nat} {x : (Int32 × zH)} (hf : f_X11_isNear x0 x1 x2 h = some x) (hp : z_P0I X nx x) : zV X 0 [(0, tA x0), (1, tI x1), (2, tI x2)] [] h nx 0 0 := by
  unfold f_X11_isNear at hf
  refine zv_iconst K (0 : Int32) eX11_isNear_0 (by decide) ?_
  refine zv_istore_n K [(3, tI (0 : Int32)), (0, tA x0), (1, tI x1), (2, tI x2)] eX11_isNear_1 (z_lt hX.2 (by decide)) rfl ?_
  refine zv_iconst K (-1 : Int32) eX11_isNear_2 (by decide) ?_
  refine zv_istore K [(4, tI (-1 : Int32)), (3, tI (0 : Int32)), (0, tA x0), (1, tI x1), (2, tI x2)] eX11_isNear_3 (z_lt hX.2 (by decide)) rfl ?_
  exact zv_sub [2, 3, 4, 1, 0] rfl (v_X11_isNear_b5 K hX hf hp)
theorem c_X11_isNear (l : Launch) (G : zG) {x0 : Option Nat} {x1 : Int32} {x2 : Int32} {h : zH} {nx : Nat} {x : Int32 × zH} (hf : f_X11_isNear x0 x1 x2 h = some x) : z_Ct l G yX11_isNear cX11_isNear 7 (some .boolean) rm_X11_isNear [tA x0, tI x1, tI x2] h nx (some (tI x.1)) x.2 nx 0 0 :=
  z_enter [(0, tA x0), (1, tI x1), (2, tI x2)] (by decide +kernel) (Nat.le_of_ble_eq_true rfl) rfl (fun X hl hR hG hL K hq => by
    subst hl; subst hG
    exact v_X11_isNear K ⟨hR, hL⟩ hf hq)
set_option maxHeartbeats 4000000 in
set_option maxRecDepth 100000 in
theorem v_X11_claims {X : zX} (K : z_Ok X cX11_claims (some .boolean) RX11 "claims") (hX : z_Xo X rm_X11_claims 5) {x0 : Option Nat} {x1 : Int32} {x2 : Int32} {x3 : Int32} {x4 : Int32} {h : zH} {nx : Nat} {x : (Int32 × zH)} (hf : f_X11_claims x0 x1 x2 x3 x4 h = some x) (hp : z_P0I X nx x) : zV X 0 [(0, tA x0), (1, tI x1), (2, tI x2), (3, tI x3), (4, tI x4)] [] h nx 0 0 := by
  unfold f_X11_claims at hf
  refine zv_iload_n K 3 eX11_claims_0 rfl ?_
  refine z_ite_inv _ hf (fun c104 hf => ?_) (fun c104 hf => ?_)
  · refine zv_lsw K (off := 114) 115 eX11_claims_1 (by decide) (by rw [c104]; decide) (by decide) ?_
    refine zv_aload_n K 0 eX11_claims_115 rfl ?_
    refine zv_gA K eX11_claims_116 fl_X11_7 hf (fun v1 hf => ?_)
    refine zv_iload_n K 1 eX11_claims_119 rfl ?_
    refine zv_bipush K (19 : Int32) eX11_claims_120 (by decide) ?_
    obtain ⟨v3, h2, eh2, hf⟩ := z_b2_inv hf
    refine zv_cS0 K [tI x1, tI (19 : Int32)] [tA v1] eX11_claims_122 lk_X11_69 md_X11_of st_X11_of rfl rfl (Nat.le_of_ble_eq_true rfl) (c_X11_of X.1.2.1 X.2.2.1 eh2) rfl rfl ⟨z_le (z_fr hX) (by decide), z_le (z_lo hX) (by decide)⟩ ⟨Nat.zero_le _, Nat.zero_le _⟩ ?_
    refine zv_iload_n K 2 eX11_claims_125 rfl ?_
    refine zv_iadd K eX11_claims_126 ?_
    refine zv_aI K eX11_claims_127 hf (fun v4 hf => ?_)
    refine zv_if_lt K 135 eX11_claims_128 (by decide) hf (fun _ hf => ?_) (fun _ hf => ?_)
    · refine zv_iconst K (0 : Int32) eX11_claims_135 (by decide) ?_
      cases hf
      exact zv_zret K eX11_claims_136 (by decide) hp
    · refine zv_iconst K (1 : Int32) eX11_claims_131 (by decide) ?_
      refine zv_goto K 136 eX11_claims_132 (by decide) ?_
      cases hf
      exact zv_zret K eX11_claims_136 (by decide) hp
  refine z_ite_inv _ hf (fun c109 hf => ?_) (fun c109 hf => ?_)
  · refine zv_lsw K (off := 90) 91 eX11_claims_1 (by decide) (by rw [c109]; decide) (by decide) ?_
    refine zv_aload_n K 0 eX11_claims_91 rfl ?_
    refine zv_gA K eX11_claims_92 fl_X11_7 hf (fun v5 hf => ?_)
    refine zv_iload_n K 1 eX11_claims_95 rfl ?_
    refine zv_bipush K (12 : Int32) eX11_claims_96 (by decide) ?_
    obtain ⟨v7, h6, eh6, hf⟩ := z_b2_inv hf
    refine zv_cS0 K [tI x1, tI (12 : Int32)] [tA v5] eX11_claims_98 lk_X11_69 md_X11_of st_X11_of rfl rfl (Nat.le_of_ble_eq_true rfl) (c_X11_of X.1.2.1 X.2.2.1 eh6) rfl rfl ⟨z_le (z_fr hX) (by decide), z_le (z_lo hX) (by decide)⟩ ⟨Nat.zero_le _, Nat.zero_le _⟩ ?_
    refine zv_iload_n K 2 eX11_claims_101 rfl ?_
    refine zv_iadd K eX11_claims_102 ?_
    refine zv_aI K eX11_claims_103 hf (fun v8 hf => ?_)
    refine zv_iload K 4 eX11_claims_104 rfl ?_
    refine zv_icmp_ne K 113 eX11_claims_106 (by decide) hf (fun _ hf => ?_) (fun _ hf => ?_)
    · refine zv_iconst K (0 : Int32) eX11_claims_113 (by decide) ?_
      cases hf
      exact zv_zret K eX11_claims_114 (by decide) hp
    · refine zv_iconst K (1 : Int32) eX11_claims_109 (by decide) ?_
      refine zv_goto K 114 eX11_claims_110 (by decide) ?_
      cases hf
      exact zv_zret K eX11_claims_114 (by decide) hp
  refine z_ite_inv _ hf (fun c116 hf => ?_) (fun c116 hf => ?_)
  · refine zv_lsw K (off := 77) 78 eX11_claims_1 (by decide) (by rw [c116]; decide) (by decide) ?_
    refine zv_aload_n K 0 eX11_claims_78 rfl ?_
    refine zv_aload_n K 0 eX11_claims_79 rfl ?_
    refine zv_iload_n K 1 eX11_claims_80 rfl ?_
    refine zv_iload_n K 2 eX11_claims_81 rfl ?_
    obtain ⟨q9, hq9, hf⟩ := z_bind_inv hf
    obtain ⟨v11, h10, eh10, hf⟩ := z_b2_inv hf
    refine zv_cV0 K [tI x1, tI x2] [tA x0] eX11_claims_82 lk_X11_81 md_X11_cell im_X11_cell sl_X11_cell rfl rfl rfl rfl (Nat.le_of_ble_eq_true rfl) hq9 (c_X11_cell X.1.2.1 X.2.2.1 eh10) rfl rfl ⟨z_le (z_fr hX) (by decide), z_le (z_lo hX) (by decide)⟩ ⟨Nat.zero_le _, Nat.zero_le _⟩ ?_
    refine zv_iload K 4 eX11_claims_85 rfl ?_
    obtain ⟨q12, hq12, hf⟩ := z_bind_inv hf
    obtain ⟨v14, h13, eh13, hf⟩ := z_b2_inv hf
    refine zv_cV0 K [tI v11, tI x4] [] eX11_claims_87 lk_X11_146 md_X11_isNear im_X11_isNear sl_X11_isNear rfl rfl rfl rfl (Nat.le_of_ble_eq_true rfl) hq12 (c_X11_isNear X.1.2.1 X.2.2.1 eh13) rfl rfl ⟨z_le (z_fr hX) (by decide), z_le (z_lo hX) (by decide)⟩ ⟨Nat.zero_le _, Nat.zero_le _⟩ ?_
    refine z_ite_inv _ hf (fun hv hf => ?_) (fun _ hf => ?_)
    · cases hf
      exact zv_zret K eX11_claims_90 hv hp
    · cases hf
  refine z_ite_inv _ hf (fun c119 hf => ?_) (fun c119 hf => ?_)
  · refine zv_lsw K (off := 51) 52 eX11_claims_1 (by decide) (by rw [c119]; decide) (by decide) ?_
    refine zv_aload_n K 0 eX11_claims_52 rfl ?_
    refine zv_gA K eX11_claims_53 fl_X11_7 hf (fun v15 hf => ?_)
    refine zv_iload_n K 1 eX11_claims_56 rfl ?_
    refine zv_bipush K (26 : Int32) eX11_claims_57 (by decide) ?_
    obtain ⟨v17, h16, eh16, hf⟩ := z_b2_inv hf
    refine zv_cS0 K [tI x1, tI (26 : Int32)] [tA v15] eX11_claims_59 lk_X11_69 md_X11_of st_X11_of rfl rfl (Nat.le_of_ble_eq_true rfl) (c_X11_of X.1.2.1 X.2.2.1 eh16) rfl rfl ⟨z_le (z_fr hX) (by decide), z_le (z_lo hX) (by decide)⟩ ⟨Nat.zero_le _, Nat.zero_le _⟩ ?_
    refine zv_iload_n K 2 eX11_claims_62 rfl ?_
    refine zv_iadd K eX11_claims_63 ?_
    refine zv_iconst K (1 : Int32) eX11_claims_64 (by decide) ?_
    refine zv_isub K eX11_claims_65 ?_
    refine zv_aI K eX11_claims_66 hf (fun v18 hf => ?_)
    refine zv_iload K 4 eX11_claims_67 rfl ?_
    refine zv_icmp_ne K 76 eX11_claims_69 (by decide) hf (fun _ hf => ?_) (fun _ hf => ?_)
    · refine zv_iconst K (0 : Int32) eX11_claims_76 (by decide) ?_
      cases hf
      exact zv_zret K eX11_claims_77 (by decide) hp
    · refine zv_iconst K (1 : Int32) eX11_claims_72 (by decide) ?_
      refine zv_goto K 77 eX11_claims_73 (by decide) ?_
      cases hf
      exact zv_zret K eX11_claims_77 (by decide) hp
  refine z_ite_inv _ hf (fun c120 hf => ?_) (fun c120 hf => ?_)
  · refine zv_lsw K (off := 136) 137 eX11_claims_1 (by decide) (by rw [c120]; decide) (by decide) ?_
    refine zv_aload_n K 0 eX11_claims_137 rfl ?_
    refine zv_iload_n K 1 eX11_claims_138 rfl ?_
    refine zv_iload_n K 2 eX11_claims_139 rfl ?_
    obtain ⟨q19, hq19, hf⟩ := z_bind_inv hf
    obtain ⟨v21, h20, eh20, hf⟩ := z_b2_inv hf
    refine zv_cV0 K [tI x1, tI x2] [] eX11_claims_140 lk_X11_115 md_X11_isTip im_X11_isTip sl_X11_isTip rfl rfl rfl rfl (Nat.le_of_ble_eq_true rfl) hq19 (c_X11_isTip X.1.2.1 X.2.2.1 eh20) rfl rfl ⟨z_le (z_fr hX) (by decide), z_le (z_lo hX) (by decide)⟩ ⟨Nat.zero_le _, Nat.zero_le _⟩ ?_
    refine z_ite_inv _ hf (fun hv hf => ?_) (fun _ hf => ?_)
    · cases hf
      exact zv_zret K eX11_claims_143 hv hp
    · cases hf
  have ec104 := lv_neT (a := 104) c104 (by decide)
  have ec109 := lv_neT (a := 109) c109 (by decide)
  have ec116 := lv_neT (a := 116) c116 (by decide)
  have ec119 := lv_neT (a := 119) c119 (by decide)
  have ec120 := lv_neT (a := 120) c120 (by decide)
  refine zv_lsw K (off := 143) 144 eX11_claims_1 (by decide) (by refine Eq.trans (show _ = (if (104 : Int) = (x3).toInt then (114 : Int) else if (109 : Int) = (x3).toInt then (90 : Int) else if (116 : Int) = (x3).toInt then (77 : Int) else if (119 : Int) = (x3).toInt then (51 : Int) else if (120 : Int) = (x3).toInt then (136 : Int) else (143 : Int)) from rfl) ?_; rw [if_neg (fun e => ec104 e.symm), if_neg (fun e => ec109 e.symm), if_neg (fun e => ec116 e.symm), if_neg (fun e => ec119 e.symm), if_neg (fun e => ec120 e.symm)]) (by decide) ?_
  refine zv_iconst K (1 : Int32) eX11_claims_144 (by decide) ?_
  cases hf
  exact zv_zret K eX11_claims_145 (by decide) hp
theorem c_X11_claims (l : Launch) (G : zG) {x0 : Option Nat} {x1 : Int32} {x2 : Int32} {x3 : Int32} {x4 : Int32} {h : zH} {nx : Nat} {x : Int32 × zH} (hf : f_X11_claims x0 x1 x2 x3 x4 h = some x) : z_Ct l G yX11_claims cX11_claims 5 (some .boolean) rm_X11_claims [tA x0, tI x1, tI x2, tI x3, tI x4] h nx (some (tI x.1)) x.2 nx 0 0 :=
  z_enter [(0, tA x0), (1, tI x1), (2, tI x2), (3, tI x3), (4, tI x4)] (by decide +kernel) (Nat.le_of_ble_eq_true rfl) rfl (fun X hl hR hG hL K hq => by
    subst hl; subst hG
    exact v_X11_claims K ⟨hR, hL⟩ hf hq)
def P_X11_holdsTest_29 (X : zX) (nx : Nat) : ((Option Nat) × Int32 × Int32 × Int32 × Int32 × Int32 × zH) ⊕ (Int32 × zH) → Prop := z_PL (fun s => zV X 29 [(0, tA s.1), (1, tI s.2.1), (2, tI s.2.2.1), (3, tI s.2.2.2.1), (4, tI s.2.2.2.2.1), (5, tI s.2.2.2.2.2.1)] [] s.2.2.2.2.2.2 nx 0 0) (z_P0I X nx)
set_option maxHeartbeats 4000000 in
set_option maxRecDepth 100000 in
theorem v_X11_holdsTest_b373 {X : zX} (K : z_Ok X cX11_holdsTest (some .boolean) RX11 "holdsTest") (hX : z_Xo X rm_X11_holdsTest 9) {x0 : Option Nat} {x1 : Int32} {x2 : Int32} {x3 : Int32} {x4 : Int32} {s0 : Option Nat} {s1 : Int32} {s2 : Int32} {h : zH} {nx : Nat} {x : (((Option Nat) × Int32 × Int32 × Int32 × Int32 × Int32 × zH) ⊕ (Int32 × zH))} (hf : f_X11_holdsTest_b373 x0 x1 x2 x3 x4 s0 s1 s2 h = some x) (hp : P_X11_holdsTest_29 X nx x) : zV X 373 [(0, tA x0), (1, tI x1), (2, tI x2), (3, tI x3), (4, tI x4)] [tI s2, tI s1, tA s0] h nx 0 0 := by
  unfold f_X11_holdsTest_b373 at hf
  refine zv_sB K eX11_holdsTest_373 hf (fun h1 hf => ?_)
  refine zv_iconst K (0 : Int32) eX11_holdsTest_374 (by decide) ?_
  refine zv_istore K [(5, tI (0 : Int32)), (0, tA x0), (1, tI x1), (2, tI x2), (3, tI x3), (4, tI x4)] eX11_holdsTest_375 (z_lt hX.2 (by decide)) rfl ?_
  refine zv_goto K 29 eX11_holdsTest_377 (by decide) ?_
  cases hf
  exact zv_sub [1, 2, 3, 4, 5, 0] rfl (show zV X 29 [(0, tA x0), (1, tI x1), (2, tI x2), (3, tI x3), (4, tI x4), (5, tI (0 : Int32))] [] h1 nx 0 0 from hp)
set_option maxHeartbeats 4000000 in
set_option maxRecDepth 100000 in
theorem v_X11_holdsTest_b372 {X : zX} (K : z_Ok X cX11_holdsTest (some .boolean) RX11 "holdsTest") (hX : z_Xo X rm_X11_holdsTest 9) {x0 : Option Nat} {x1 : Int32} {x2 : Int32} {x3 : Int32} {x4 : Int32} {s0 : Option Nat} {s1 : Int32} {h : zH} {nx : Nat} {x : (((Option Nat) × Int32 × Int32 × Int32 × Int32 × Int32 × zH) ⊕ (Int32 × zH))} (hf : f_X11_holdsTest_b372 x0 x1 x2 x3 x4 s0 s1 h = some x) (hp : P_X11_holdsTest_29 X nx x) : zV X 372 [(0, tA x0), (1, tI x1), (2, tI x2), (3, tI x3), (4, tI x4)] [tI s1, tA s0] h nx 0 0 := by
  unfold f_X11_holdsTest_b372 at hf
  refine zv_iconst K (0 : Int32) eX11_holdsTest_372 (by decide) ?_
  exact zv_sub [0, 1, 2, 3, 4] rfl (v_X11_holdsTest_b373 K hX hf hp)
set_option maxHeartbeats 4000000 in
set_option maxRecDepth 100000 in
theorem v_X11_holdsTest_b341 {X : zX} (K : z_Ok X cX11_holdsTest (some .boolean) RX11 "holdsTest") (hX : z_Xo X rm_X11_holdsTest 9) {x0 : Option Nat} {x1 : Int32} {x2 : Int32} {x3 : Int32} {x4 : Int32} {x5 : Int32} {x8 : Int32} {s0 : Option Nat} {s1 : Int32} {s2 : Int32} {h : zH} {nx : Nat} {x : (((Option Nat) × Int32 × Int32 × Int32 × Int32 × Int32 × zH) ⊕ (Int32 × zH))} (hf : f_X11_holdsTest_b341 x0 x1 x2 x3 x4 x5 x8 s0 s1 s2 h = some x) (hp : P_X11_holdsTest_29 X nx x) : zV X 341 [(0, tA x0), (1, tI x1), (2, tI x2), (3, tI x3), (4, tI x4), (5, tI x5), (8, tI x8)] [tI s2, tI s1, tA s0] h nx 0 0 := by
  unfold f_X11_holdsTest_b341 at hf
  refine zv_iadd K eX11_holdsTest_341 ?_
  refine zv_pI K eX11_holdsTest_342 fl_X11_149 ff_11_14 rfl hf (fun h1 hf => ?_)
  refine zv_aload_n K 0 eX11_holdsTest_345 rfl ?_
  refine zv_gA K eX11_holdsTest_346 fl_X11_41 hf (fun v2 hf => ?_)
  refine zv_iload K 4 eX11_holdsTest_349 rfl ?_
  refine zv_aload_n K 0 eX11_holdsTest_351 rfl ?_
  refine zv_gA K eX11_holdsTest_352 fl_X11_41 hf (fun v3 hf => ?_)
  refine zv_iload K 4 eX11_holdsTest_355 rfl ?_
  refine zv_aB K eX11_holdsTest_357 hf (fun v4 hf => ?_)
  refine zv_if_eq K 372 eX11_holdsTest_358 (by decide) hf (fun _ hf => ?_) (fun _ hf => ?_)
  · exact zv_sub [0, 1, 2, 3, 4] rfl (v_X11_holdsTest_b372 K hX hf hp)
  · refine zv_iload K 6 eX11_holdsTest_361 rfl ?_
    refine zv_iload K 5 eX11_holdsTest_363 rfl ?_
    refine zv_icmp_eq K 372 eX11_holdsTest_365 (by decide) hf (fun _ hf => ?_) (fun _ hf => ?_)
    · exact zv_sub [0, 1, 2, 3, 4] rfl (v_X11_holdsTest_b372 K hX hf hp)
    · refine zv_iconst K (1 : Int32) eX11_holdsTest_368 (by decide) ?_
      refine zv_goto K 373 eX11_holdsTest_369 (by decide) ?_
      exact zv_sub [0, 1, 2, 3, 4] rfl (v_X11_holdsTest_b373 K hX hf hp)
set_option maxHeartbeats 4000000 in
set_option maxRecDepth 100000 in
theorem v_X11_holdsTest_b321 {X : zX} (K : z_Ok X cX11_holdsTest (some .boolean) RX11 "holdsTest") (hX : z_Xo X rm_X11_holdsTest 9) {x0 : Option Nat} {x1 : Int32} {x2 : Int32} {x3 : Int32} {x4 : Int32} {x5 : Int32} {x7 : Int32} {s0 : Option Nat} {s1 : Int32} {s2 : Int32} {s3 : Int32} {s4 : Int32} {h : zH} {nx : Nat} {x : (((Option Nat) × Int32 × Int32 × Int32 × Int32 × Int32 × zH) ⊕ (Int32 × zH))} (hf : f_X11_holdsTest_b321 x0 x1 x2 x3 x4 x5 x7 s0 s1 s2 s3 s4 h = some x) (hp : P_X11_holdsTest_29 X nx x) : zV X 321 [(0, tA x0), (1, tI x1), (2, tI x2), (3, tI x3), (4, tI x4), (5, tI x5), (7, tI x7)] [tI s4, tI s3, tI s2, tI s1, tA s0] h nx 0 0 := by
  unfold f_X11_holdsTest_b321 at hf
  obtain ⟨q1, hq1, hf⟩ := z_bind_inv hf
  obtain ⟨v3, h2, eh2, hf⟩ := z_b2_inv hf
  refine zv_cV0 K [tI s1, tI s2, tI s3, tI s4] [] eX11_holdsTest_321 lk_X11_152 md_X11_claims im_X11_claims sl_X11_claims rfl rfl rfl rfl (Nat.le_of_ble_eq_true rfl) hq1 (c_X11_claims X.1.2.1 X.2.2.1 eh2) rfl rfl ⟨z_le (z_fr hX) (by decide), z_le (z_lo hX) (by decide)⟩ ⟨Nat.zero_le _, Nat.zero_le _⟩ ?_
  refine zv_istore K [(8, tI v3), (0, tA x0), (1, tI x1), (2, tI x2), (3, tI x3), (4, tI x4), (5, tI x5), (7, tI x7)] eX11_holdsTest_324 (z_lt hX.2 (by decide)) rfl ?_
  refine zv_aload_n K 1 eX11_holdsTest_326 rfl ?_
  refine zv_dup K eX11_holdsTest_327 rfl ?_
  refine zv_gI K eX11_holdsTest_328 fl_X11_149 hf (fun v4 hf => ?_)
  refine zv_iload K 7 eX11_holdsTest_331 rfl ?_
  refine zv_if_eq K 340 eX11_holdsTest_333 (by decide) hf (fun _ hf => ?_) (fun _ hf => ?_)
  · refine zv_iconst K (0 : Int32) eX11_holdsTest_340 (by decide) ?_
    exact zv_sub [1, 2, 3, 4, 5, 6, 0] rfl (v_X11_holdsTest_b341 K hX hf hp)
  · refine zv_iconst K (1 : Int32) eX11_holdsTest_336 (by decide) ?_
    refine zv_goto K 341 eX11_holdsTest_337 (by decide) ?_
    exact zv_sub [1, 2, 3, 4, 5, 6, 0] rfl (v_X11_holdsTest_b341 K hX hf hp)
set_option maxHeartbeats 4000000 in
set_option maxRecDepth 100000 in
theorem v_X11_holdsTest_b291 {X : zX} (K : z_Ok X cX11_holdsTest (some .boolean) RX11 "holdsTest") (hX : z_Xo X rm_X11_holdsTest 9) {x0 : Option Nat} {x1 : Int32} {x2 : Int32} {x3 : Int32} {x4 : Int32} {x5 : Int32} {x6 : Int32} {s0 : Int32} {h : zH} {nx : Nat} {x : (((Option Nat) × Int32 × Int32 × Int32 × Int32 × Int32 × zH) ⊕ (Int32 × zH))} (hf : f_X11_holdsTest_b291 x0 x1 x2 x3 x4 x5 x6 s0 h = some x) (hp : P_X11_holdsTest_29 X nx x) : zV X 291 [(0, tA x0), (1, tI x1), (2, tI x2), (3, tI x3), (4, tI x4), (5, tI x5), (6, tI x6)] [tI s0] h nx 0 0 := by
  unfold f_X11_holdsTest_b291 at hf
  refine zv_istore K [(7, tI s0), (0, tA x0), (1, tI x1), (2, tI x2), (3, tI x3), (4, tI x4), (5, tI x5), (6, tI x6)] eX11_holdsTest_291 (z_lt hX.2 (by decide)) rfl ?_
  refine zv_aload_n K 1 eX11_holdsTest_293 rfl ?_
  refine zv_iload_n K 2 eX11_holdsTest_294 rfl ?_
  refine zv_iload_n K 3 eX11_holdsTest_295 rfl ?_
  refine zv_iload K 7 eX11_holdsTest_296 rfl ?_
  refine zv_iload K 0 eX11_holdsTest_298 rfl ?_
  refine zv_if_eq K 320 eX11_holdsTest_300 (by decide) hf (fun _ hf => ?_) (fun _ hf => ?_)
  · refine zv_iconst K (0 : Int32) eX11_holdsTest_320 (by decide) ?_
    exact zv_sub [1, 2, 3, 4, 5, 6, 0] rfl (v_X11_holdsTest_b321 K hX hf hp)
  · refine zv_aload_n K 1 eX11_holdsTest_303 rfl ?_
    refine zv_gA K eX11_holdsTest_304 fl_X11_7 hf (fun v1 hf => ?_)
    refine zv_iload_n K 4 eX11_holdsTest_307 rfl ?_
    refine zv_aload_n K 1 eX11_holdsTest_308 rfl ?_
    refine zv_gI K eX11_holdsTest_309 fl_X11_149 hf (fun v2 hf => ?_)
    refine zv_iadd K eX11_holdsTest_312 ?_
    refine zv_aI K eX11_holdsTest_313 hf (fun v3 hf => ?_)
    refine zv_bipush K (48 : Int32) eX11_holdsTest_314 (by decide) ?_
    refine zv_isub K eX11_holdsTest_316 ?_
    refine zv_goto K 321 eX11_holdsTest_317 (by decide) ?_
    exact zv_sub [1, 2, 3, 4, 5, 6, 0] rfl (v_X11_holdsTest_b321 K hX hf hp)
set_option maxHeartbeats 4000000 in
set_option maxRecDepth 100000 in
theorem v_X11_holdsTest_b286 {X : zX} (K : z_Ok X cX11_holdsTest (some .boolean) RX11 "holdsTest") (hX : z_Xo X rm_X11_holdsTest 9) {x0 : Option Nat} {x1 : Int32} {x2 : Int32} {x3 : Int32} {x4 : Int32} {x5 : Int32} {x6 : Int32} {h : zH} {nx : Nat} {x : (((Option Nat) × Int32 × Int32 × Int32 × Int32 × Int32 × zH) ⊕ (Int32 × zH))} (hf : f_X11_holdsTest_b286 x0 x1 x2 x3 x4 x5 x6 h = some x) (hp : P_X11_holdsTest_29 X nx x) : zV X 286 [(0, tA x0), (1, tI x1), (2, tI x2), (3, tI x3), (4, tI x4), (5, tI x5), (6, tI x6)] [] h nx 0 0 := by
  unfold f_X11_holdsTest_b286 at hf
  refine zv_iconst K (1 : Int32) eX11_holdsTest_286 (by decide) ?_
  refine zv_goto K 291 eX11_holdsTest_287 (by decide) ?_
  exact zv_sub [0, 1, 2, 3, 4, 5, 6] rfl (v_X11_holdsTest_b291 K hX hf hp)
set_option maxHeartbeats 4000000 in
set_option maxRecDepth 100000 in
theorem v_X11_holdsTest_b254 {X : zX} (K : z_Ok X cX11_holdsTest (some .boolean) RX11 "holdsTest") (hX : z_Xo X rm_X11_holdsTest 9) {x0 : Option Nat} {x1 : Int32} {x2 : Int32} {x3 : Int32} {x4 : Int32} {x5 : Int32} {s0 : Option Nat} {s1 : Int32} {s2 : Int32} {h : zH} {nx : Nat} {x : (((Option Nat) × Int32 × Int32 × Int32 × Int32 × Int32 × zH) ⊕ (Int32 × zH))} (hf : f_X11_holdsTest_b254 x0 x1 x2 x3 x4 x5 s0 s1 s2 h = some x) (hp : P_X11_holdsTest_29 X nx x) : zV X 254 [(0, tA x0), (1, tI x1), (2, tI x2), (3, tI x3), (4, tI x4), (5, tI x5)] [tI s2, tI s1, tA s0] h nx 0 0 := by
  unfold f_X11_holdsTest_b254 at hf
  refine zv_sB K eX11_holdsTest_254 hf (fun h1 hf => ?_)
  refine zv_goto K 377 eX11_holdsTest_255 (by decide) ?_
  refine zv_goto K 29 eX11_holdsTest_377 (by decide) ?_
  cases hf
  exact zv_sub [0, 1, 2, 3, 4, 5] rfl (show zV X 29 [(0, tA x0), (1, tI x1), (2, tI x2), (3, tI x3), (4, tI x4), (5, tI x5)] [] h1 nx 0 0 from hp)
set_option maxHeartbeats 4000000 in
set_option maxRecDepth 100000 in
theorem v_X11_holdsTest_b253 {X : zX} (K : z_Ok X cX11_holdsTest (some .boolean) RX11 "holdsTest") (hX : z_Xo X rm_X11_holdsTest 9) {x0 : Option Nat} {x1 : Int32} {x2 : Int32} {x3 : Int32} {x4 : Int32} {x5 : Int32} {s0 : Option Nat} {s1 : Int32} {h : zH} {nx : Nat} {x : (((Option Nat) × Int32 × Int32 × Int32 × Int32 × Int32 × zH) ⊕ (Int32 × zH))} (hf : f_X11_holdsTest_b253 x0 x1 x2 x3 x4 x5 s0 s1 h = some x) (hp : P_X11_holdsTest_29 X nx x) : zV X 253 [(0, tA x0), (1, tI x1), (2, tI x2), (3, tI x3), (4, tI x4), (5, tI x5)] [tI s1, tA s0] h nx 0 0 := by
  unfold f_X11_holdsTest_b253 at hf
  refine zv_iconst K (0 : Int32) eX11_holdsTest_253 (by decide) ?_
  exact zv_sub [0, 1, 2, 3, 4, 5] rfl (v_X11_holdsTest_b254 K hX hf hp)
set_option maxHeartbeats 4000000 in
set_option maxRecDepth 100000 in
theorem v_X11_holdsTest_b223 {X : zX} (K : z_Ok X cX11_holdsTest (some .boolean) RX11 "holdsTest") (hX : z_Xo X rm_X11_holdsTest 9) {x0 : Option Nat} {x1 : Int32} {x2 : Int32} {x3 : Int32} {x4 : Int32} {x5 : Int32} {s0 : Int32} {h : zH} {nx : Nat} {x : (((Option Nat) × Int32 × Int32 × Int32 × Int32 × Int32 × zH) ⊕ (Int32 × zH))} (hf : f_X11_holdsTest_b223 x0 x1 x2 x3 x4 x5 s0 h = some x) (hp : P_X11_holdsTest_29 X nx x) : zV X 223 [(0, tA x0), (1, tI x1), (2, tI x2), (3, tI x3), (4, tI x4), (5, tI x5)] [tI s0] h nx 0 0 := by
  unfold f_X11_holdsTest_b223 at hf
  refine zv_istore K [(7, tI s0), (0, tA x0), (1, tI x1), (2, tI x2), (3, tI x3), (4, tI x4), (5, tI x5)] eX11_holdsTest_223 (z_lt hX.2 (by decide)) rfl ?_
  refine zv_iinc K (x4 + (-1 : Int32)) 5 [(4, tI (x4 + (-1 : Int32))), (7, tI s0), (0, tA x0), (1, tI x1), (2, tI x2), (3, tI x3), (5, tI x5)] eX11_holdsTest_225 rfl rfl (z_lt hX.2 (by decide)) rfl ?_
  refine zv_aload_n K 2 eX11_holdsTest_228 rfl ?_
  refine zv_gA K eX11_holdsTest_229 fl_X11_41 hf (fun v1 hf => ?_)
  refine zv_iload K 0 eX11_holdsTest_232 rfl ?_
  refine zv_aload_n K 2 eX11_holdsTest_234 rfl ?_
  refine zv_gA K eX11_holdsTest_235 fl_X11_41 hf (fun v2 hf => ?_)
  refine zv_iload K 0 eX11_holdsTest_238 rfl ?_
  refine zv_aB K eX11_holdsTest_240 hf (fun v3 hf => ?_)
  refine zv_if_eq K 253 eX11_holdsTest_241 (by decide) hf (fun _ hf => ?_) (fun _ hf => ?_)
  · exact zv_sub [2, 3, 4, 5, 0, 6] rfl (v_X11_holdsTest_b253 K hX hf hp)
  · refine zv_iload K 1 eX11_holdsTest_244 rfl ?_
    refine zv_if_eq K 253 eX11_holdsTest_246 (by decide) hf (fun _ hf => ?_) (fun _ hf => ?_)
    · exact zv_sub [2, 3, 4, 5, 0, 6] rfl (v_X11_holdsTest_b253 K hX hf hp)
    · refine zv_iconst K (1 : Int32) eX11_holdsTest_249 (by decide) ?_
      refine zv_goto K 254 eX11_holdsTest_250 (by decide) ?_
      exact zv_sub [2, 3, 4, 5, 0, 6] rfl (v_X11_holdsTest_b254 K hX hf hp)
set_option maxHeartbeats 4000000 in
set_option maxRecDepth 100000 in
theorem v_X11_holdsTest_b204 {X : zX} (K : z_Ok X cX11_holdsTest (some .boolean) RX11 "holdsTest") (hX : z_Xo X rm_X11_holdsTest 9) {x0 : Option Nat} {x1 : Int32} {x2 : Int32} {x3 : Int32} {x4 : Int32} {x5 : Int32} {s0 : Int32} {h : zH} {nx : Nat} {x : (((Option Nat) × Int32 × Int32 × Int32 × Int32 × Int32 × zH) ⊕ (Int32 × zH))} (hf : f_X11_holdsTest_b204 x0 x1 x2 x3 x4 x5 s0 h = some x) (hp : P_X11_holdsTest_29 X nx x) : zV X 204 [(0, tA x0), (1, tI x1), (2, tI x2), (3, tI x3), (4, tI x4), (5, tI x5)] [tI s0] h nx 0 0 := by
  unfold f_X11_holdsTest_b204 at hf
  refine zv_istore K [(7, tI s0), (0, tA x0), (1, tI x1), (2, tI x2), (3, tI x3), (4, tI x4), (5, tI x5)] eX11_holdsTest_204 (z_lt hX.2 (by decide)) rfl ?_
  refine zv_iload K 0 eX11_holdsTest_206 rfl ?_
  refine zv_aload_n K 1 eX11_holdsTest_208 rfl ?_
  refine zv_gA K eX11_holdsTest_209 fl_X11_44 hf (fun v1 hf => ?_)
  refine zv_iload K 5 eX11_holdsTest_212 rfl ?_
  refine zv_aB K eX11_holdsTest_214 hf (fun v2 hf => ?_)
  refine zv_icmp_eq K 222 eX11_holdsTest_215 (by decide) hf (fun _ hf => ?_) (fun _ hf => ?_)
  · refine zv_iconst K (0 : Int32) eX11_holdsTest_222 (by decide) ?_
    exact zv_sub [1, 2, 3, 4, 5, 6] rfl (v_X11_holdsTest_b223 K hX hf hp)
  · refine zv_iconst K (1 : Int32) eX11_holdsTest_218 (by decide) ?_
    refine zv_goto K 223 eX11_holdsTest_219 (by decide) ?_
    exact zv_sub [1, 2, 3, 4, 5, 6] rfl (v_X11_holdsTest_b223 K hX hf hp)
set_option maxHeartbeats 4000000 in
set_option maxRecDepth 100000 in
theorem v_X11_holdsTest_b199 {X : zX} (K : z_Ok X cX11_holdsTest (some .boolean) RX11 "holdsTest") (hX : z_Xo X rm_X11_holdsTest 9) {x0 : Option Nat} {x1 : Int32} {x2 : Int32} {x3 : Int32} {x4 : Int32} {x5 : Int32} {h : zH} {nx : Nat} {x : (((Option Nat) × Int32 × Int32 × Int32 × Int32 × Int32 × zH) ⊕ (Int32 × zH))} (hf : f_X11_holdsTest_b199 x0 x1 x2 x3 x4 x5 h = some x) (hp : P_X11_holdsTest_29 X nx x) : zV X 199 [(0, tA x0), (1, tI x1), (2, tI x2), (3, tI x3), (4, tI x4), (5, tI x5)] [] h nx 0 0 := by
  unfold f_X11_holdsTest_b199 at hf
  refine zv_iconst K (1 : Int32) eX11_holdsTest_199 (by decide) ?_
  refine zv_goto K 204 eX11_holdsTest_200 (by decide) ?_
  exact zv_sub [0, 1, 2, 3, 4, 5] rfl (v_X11_holdsTest_b204 K hX hf hp)
set_option maxHeartbeats 4000000 in
set_option maxRecDepth 100000 in
theorem v_X11_holdsTest_b160 {X : zX} (K : z_Ok X cX11_holdsTest (some .boolean) RX11 "holdsTest") (hX : z_Xo X rm_X11_holdsTest 9) {x0 : Option Nat} {x1 : Int32} {x2 : Int32} {x3 : Int32} {x4 : Int32} {x5 : Int32} {s0 : Option Nat} {s1 : Int32} {s2 : Int32} {h : zH} {nx : Nat} {x : (((Option Nat) × Int32 × Int32 × Int32 × Int32 × Int32 × zH) ⊕ (Int32 × zH))} (hf : f_X11_holdsTest_b160 x0 x1 x2 x3 x4 x5 s0 s1 s2 h = some x) (hp : P_X11_holdsTest_29 X nx x) : zV X 160 [(0, tA x0), (1, tI x1), (2, tI x2), (3, tI x3), (4, tI x4), (5, tI x5)] [tI s2, tI s1, tA s0] h nx 0 0 := by
  unfold f_X11_holdsTest_b160 at hf
  refine zv_sB K eX11_holdsTest_160 hf (fun h1 hf => ?_)
  refine zv_aload_n K 0 eX11_holdsTest_161 rfl ?_
  refine zv_gA K eX11_holdsTest_162 fl_X11_41 hf (fun v2 hf => ?_)
  refine zv_iload K 4 eX11_holdsTest_165 rfl ?_
  refine zv_iconst K (1 : Int32) eX11_holdsTest_167 (by decide) ?_
  refine zv_sB K eX11_holdsTest_168 hf (fun h3 hf => ?_)
  refine zv_goto K 377 eX11_holdsTest_169 (by decide) ?_
  refine zv_goto K 29 eX11_holdsTest_377 (by decide) ?_
  cases hf
  exact zv_sub [0, 1, 2, 3, 4, 5] rfl (show zV X 29 [(0, tA x0), (1, tI x1), (2, tI x2), (3, tI x3), (4, tI x4), (5, tI x5)] [] h3 nx 0 0 from hp)
set_option maxHeartbeats 4000000 in
set_option maxRecDepth 100000 in
theorem v_X11_holdsTest_b155 {X : zX} (K : z_Ok X cX11_holdsTest (some .boolean) RX11 "holdsTest") (hX : z_Xo X rm_X11_holdsTest 9) {x0 : Option Nat} {x1 : Int32} {x2 : Int32} {x3 : Int32} {x4 : Int32} {x5 : Int32} {s0 : Option Nat} {s1 : Int32} {h : zH} {nx : Nat} {x : (((Option Nat) × Int32 × Int32 × Int32 × Int32 × Int32 × zH) ⊕ (Int32 × zH))} (hf : f_X11_holdsTest_b155 x0 x1 x2 x3 x4 x5 s0 s1 h = some x) (hp : P_X11_holdsTest_29 X nx x) : zV X 155 [(0, tA x0), (1, tI x1), (2, tI x2), (3, tI x3), (4, tI x4), (5, tI x5)] [tI s1, tA s0] h nx 0 0 := by
  unfold f_X11_holdsTest_b155 at hf
  refine zv_iconst K (1 : Int32) eX11_holdsTest_155 (by decide) ?_
  refine zv_goto K 160 eX11_holdsTest_156 (by decide) ?_
  exact zv_sub [0, 1, 2, 3, 4, 5] rfl (v_X11_holdsTest_b160 K hX hf hp)
set_option maxHeartbeats 4000000 in
set_option maxRecDepth 100000 in
theorem v_X11_holdsTest_c29 {X : zX} (K : z_Ok X cX11_holdsTest (some .boolean) RX11 "holdsTest") (hX : z_Xo X rm_X11_holdsTest 9) {x0 : Option Nat} {x1 : Int32} {x2 : Int32} {x3 : Int32} {x4 : Int32} {x5 : Int32} {h : zH} {nx : Nat} {x : (((Option Nat) × Int32 × Int32 × Int32 × Int32 × Int32 × zH) ⊕ (Int32 × zH))} (hf : f_X11_holdsTest_c29 x0 x1 x2 x3 x4 x5 h = some x) (hp : P_X11_holdsTest_29 X nx x) : zV X 29 [(0, tA x0), (1, tI x1), (2, tI x2), (3, tI x3), (4, tI x4), (5, tI x5)] [] h nx 0 0 := by
  unfold f_X11_holdsTest_c29 at hf
  refine zv_aload_n K 0 eX11_holdsTest_29 rfl ?_
  refine zv_gA K eX11_holdsTest_30 fl_X11_7 hf (fun v1 hf => ?_)
  refine zv_iload_n K 3 eX11_holdsTest_33 rfl ?_
  refine zv_aload_n K 0 eX11_holdsTest_34 rfl ?_
  refine zv_gI K eX11_holdsTest_35 fl_X11_149 hf (fun v2 hf => ?_)
  refine zv_iadd K eX11_holdsTest_38 ?_
  refine zv_aI K eX11_holdsTest_39 hf (fun v3 hf => ?_)
  refine zv_bipush K (58 : Int32) eX11_holdsTest_40 (by decide) ?_
  refine zv_icmp_eq K 380 eX11_holdsTest_42 (by decide) hf (fun _ hf => ?_) (fun _ hf => ?_)
  · obtain ⟨w9, hf9, e9⟩ := z_i1_inv hf; clear hf; subst e9; have hf := hf9; clear hf9
    refine zv_aload_n K 0 eX11_holdsTest_380 rfl ?_
    refine zv_dup K eX11_holdsTest_381 rfl ?_
    refine zv_gI K eX11_holdsTest_382 fl_X11_149 hf (fun v4 hf => ?_)
    refine zv_iconst K (1 : Int32) eX11_holdsTest_385 (by decide) ?_
    refine zv_iadd K eX11_holdsTest_386 ?_
    refine zv_pI K eX11_holdsTest_387 fl_X11_149 ff_11_14 rfl hf (fun h5 hf => ?_)
    refine zv_aload_n K 0 eX11_holdsTest_390 rfl ?_
    refine zv_gA K eX11_holdsTest_391 fl_X11_38 hf (fun v6 hf => ?_)
    refine zv_iconst K (0 : Int32) eX11_holdsTest_394 (by decide) ?_
    refine zv_aB K eX11_holdsTest_395 hf (fun v7 hf => ?_)
    refine zv_if_ne K 408 eX11_holdsTest_396 (by decide) hf (fun _ hf => ?_) (fun _ hf => ?_)
    · refine zv_iconst K (1 : Int32) eX11_holdsTest_408 (by decide) ?_
      refine zv_goto K 413 eX11_holdsTest_409 (by decide) ?_
      cases hf
      exact zv_zret K eX11_holdsTest_413 (by decide) hp
    · refine zv_aload_n K 0 eX11_holdsTest_399 rfl ?_
      refine zv_gA K eX11_holdsTest_400 fl_X11_41 hf (fun v8 hf => ?_)
      refine zv_iconst K (0 : Int32) eX11_holdsTest_403 (by decide) ?_
      refine zv_aB K eX11_holdsTest_404 hf (fun v9 hf => ?_)
      refine zv_if_eq K 412 eX11_holdsTest_405 (by decide) hf (fun _ hf => ?_) (fun _ hf => ?_)
      · refine zv_iconst K (0 : Int32) eX11_holdsTest_412 (by decide) ?_
        cases hf
        exact zv_zret K eX11_holdsTest_413 (by decide) hp
      · refine zv_iconst K (1 : Int32) eX11_holdsTest_408 (by decide) ?_
        refine zv_goto K 413 eX11_holdsTest_409 (by decide) ?_
        cases hf
        exact zv_zret K eX11_holdsTest_413 (by decide) hp
  · refine zv_aload_n K 0 eX11_holdsTest_45 rfl ?_
    refine zv_gA K eX11_holdsTest_46 fl_X11_7 hf (fun v10 hf => ?_)
    refine zv_iload_n K 3 eX11_holdsTest_49 rfl ?_
    refine zv_aload_n K 0 eX11_holdsTest_50 rfl ?_
    refine zv_gI K eX11_holdsTest_51 fl_X11_149 hf (fun v11 hf => ?_)
    refine zv_iadd K eX11_holdsTest_54 ?_
    refine zv_aI K eX11_holdsTest_55 hf (fun v12 hf => ?_)
    refine zv_istore K [(6, tI v12), (0, tA x0), (1, tI x1), (2, tI x2), (3, tI x3), (4, tI x4), (5, tI x5)] eX11_holdsTest_56 (z_lt hX.2 (by decide)) rfl ?_
    refine zv_aload_n K 1 eX11_holdsTest_58 rfl ?_
    refine zv_dup K eX11_holdsTest_59 rfl ?_
    refine zv_gI K eX11_holdsTest_60 fl_X11_149 hf (fun v13 hf => ?_)
    refine zv_iconst K (1 : Int32) eX11_holdsTest_63 (by decide) ?_
    refine zv_iadd K eX11_holdsTest_64 ?_
    refine zv_pI K eX11_holdsTest_65 fl_X11_149 ff_11_14 rfl hf (fun h14 hf => ?_)
    refine zv_iload K 0 eX11_holdsTest_68 rfl ?_
    refine zv_bipush K (33 : Int32) eX11_holdsTest_70 (by decide) ?_
    refine zv_icmp_ne K 81 eX11_holdsTest_72 (by decide) hf (fun _ hf => ?_) (fun _ hf => ?_)
    · refine zv_iload K 0 eX11_holdsTest_81 rfl ?_
      refine zv_bipush K (40 : Int32) eX11_holdsTest_83 (by decide) ?_
      refine zv_icmp_ne K 122 eX11_holdsTest_85 (by decide) hf (fun _ hf => ?_) (fun _ hf => ?_)
      · refine zv_iload K 0 eX11_holdsTest_122 rfl ?_
        refine zv_bipush K (124 : Int32) eX11_holdsTest_124 (by decide) ?_
        refine zv_icmp_ne K 172 eX11_holdsTest_126 (by decide) hf (fun _ hf => ?_) (fun _ hf => ?_)
        · refine zv_iload K 0 eX11_holdsTest_172 rfl ?_
          refine zv_bipush K (41 : Int32) eX11_holdsTest_174 (by decide) ?_
          refine zv_icmp_ne K 258 eX11_holdsTest_176 (by decide) hf (fun _ hf => ?_) (fun _ hf => ?_)
          · refine zv_iload K 0 eX11_holdsTest_258 rfl ?_
            refine zv_bipush K (38 : Int32) eX11_holdsTest_260 (by decide) ?_
            refine zv_icmp_eq K 377 eX11_holdsTest_262 (by decide) hf (fun _ hf => ?_) (fun _ hf => ?_)
            · refine zv_goto K 29 eX11_holdsTest_377 (by decide) ?_
              cases hf
              exact zv_sub [1, 2, 3, 4, 5, 6] rfl (show zV X 29 [(0, tA x0), (1, tI x1), (2, tI x2), (3, tI x3), (4, tI x4), (5, tI x5)] [] h14 nx 0 0 from hp)
            · refine zv_iload K 0 eX11_holdsTest_265 rfl ?_
              refine zv_bipush K (119 : Int32) eX11_holdsTest_267 (by decide) ?_
              refine zv_icmp_eq K 286 eX11_holdsTest_269 (by decide) hf (fun _ hf => ?_) (fun _ hf => ?_)
              · exact zv_sub [1, 2, 3, 4, 5, 6, 0] rfl (v_X11_holdsTest_b286 K hX hf hp)
              · refine zv_iload K 0 eX11_holdsTest_272 rfl ?_
                refine zv_bipush K (116 : Int32) eX11_holdsTest_274 (by decide) ?_
                refine zv_icmp_eq K 286 eX11_holdsTest_276 (by decide) hf (fun _ hf => ?_) (fun _ hf => ?_)
                · exact zv_sub [1, 2, 3, 4, 5, 6, 0] rfl (v_X11_holdsTest_b286 K hX hf hp)
                · refine zv_iload K 0 eX11_holdsTest_279 rfl ?_
                  refine zv_bipush K (109 : Int32) eX11_holdsTest_281 (by decide) ?_
                  refine zv_icmp_ne K 290 eX11_holdsTest_283 (by decide) hf (fun _ hf => ?_) (fun _ hf => ?_)
                  · refine zv_iconst K (0 : Int32) eX11_holdsTest_290 (by decide) ?_
                    exact zv_sub [1, 2, 3, 4, 5, 6, 0] rfl (v_X11_holdsTest_b291 K hX hf hp)
                  · exact zv_sub [1, 2, 3, 4, 5, 6, 0] rfl (v_X11_holdsTest_b286 K hX hf hp)
          · refine zv_aload_n K 1 eX11_holdsTest_179 rfl ?_
            refine zv_gA K eX11_holdsTest_180 fl_X11_38 hf (fun v15 hf => ?_)
            refine zv_iload K 5 eX11_holdsTest_183 rfl ?_
            refine zv_aB K eX11_holdsTest_185 hf (fun v16 hf => ?_)
            refine zv_if_ne K 199 eX11_holdsTest_186 (by decide) hf (fun _ hf => ?_) (fun _ hf => ?_)
            · exact zv_sub [1, 2, 3, 4, 5, 6] rfl (v_X11_holdsTest_b199 K hX hf hp)
            · refine zv_aload_n K 1 eX11_holdsTest_189 rfl ?_
              refine zv_gA K eX11_holdsTest_190 fl_X11_41 hf (fun v17 hf => ?_)
              refine zv_iload K 5 eX11_holdsTest_193 rfl ?_
              refine zv_aB K eX11_holdsTest_195 hf (fun v18 hf => ?_)
              refine zv_if_eq K 203 eX11_holdsTest_196 (by decide) hf (fun _ hf => ?_) (fun _ hf => ?_)
              · refine zv_iconst K (0 : Int32) eX11_holdsTest_203 (by decide) ?_
                exact zv_sub [1, 2, 3, 4, 5, 6] rfl (v_X11_holdsTest_b204 K hX hf hp)
              · exact zv_sub [1, 2, 3, 4, 5, 6] rfl (v_X11_holdsTest_b199 K hX hf hp)
        · refine zv_aload_n K 1 eX11_holdsTest_129 rfl ?_
          refine zv_gA K eX11_holdsTest_130 fl_X11_38 hf (fun v19 hf => ?_)
          refine zv_iload K 5 eX11_holdsTest_133 rfl ?_
          refine zv_aload_n K 1 eX11_holdsTest_135 rfl ?_
          refine zv_gA K eX11_holdsTest_136 fl_X11_38 hf (fun v20 hf => ?_)
          refine zv_iload K 5 eX11_holdsTest_139 rfl ?_
          refine zv_aB K eX11_holdsTest_141 hf (fun v21 hf => ?_)
          refine zv_if_ne K 155 eX11_holdsTest_142 (by decide) hf (fun _ hf => ?_) (fun _ hf => ?_)
          · exact zv_sub [1, 2, 3, 4, 5, 6] rfl (v_X11_holdsTest_b155 K hX hf hp)
          · refine zv_aload_n K 1 eX11_holdsTest_145 rfl ?_
            refine zv_gA K eX11_holdsTest_146 fl_X11_41 hf (fun v22 hf => ?_)
            refine zv_iload K 5 eX11_holdsTest_149 rfl ?_
            refine zv_aB K eX11_holdsTest_151 hf (fun v23 hf => ?_)
            refine zv_if_eq K 159 eX11_holdsTest_152 (by decide) hf (fun _ hf => ?_) (fun _ hf => ?_)
            · refine zv_iconst K (0 : Int32) eX11_holdsTest_159 (by decide) ?_
              exact zv_sub [1, 2, 3, 4, 5, 6] rfl (v_X11_holdsTest_b160 K hX hf hp)
            · exact zv_sub [1, 2, 3, 4, 5, 6] rfl (v_X11_holdsTest_b155 K hX hf hp)
      · refine zv_iinc K (x4 + (1 : Int32)) 5 [(4, tI (x4 + (1 : Int32))), (6, tI v12), (0, tA x0), (1, tI x1), (2, tI x2), (3, tI x3), (5, tI x5)] eX11_holdsTest_88 rfl rfl (z_lt hX.2 (by decide)) rfl ?_
        refine zv_aload_n K 2 eX11_holdsTest_91 rfl ?_
        refine zv_gA K eX11_holdsTest_92 fl_X11_38 hf (fun v24 hf => ?_)
        refine zv_iload K 0 eX11_holdsTest_95 rfl ?_
        refine zv_iconst K (0 : Int32) eX11_holdsTest_97 (by decide) ?_
        refine zv_sB K eX11_holdsTest_98 hf (fun h25 hf => ?_)
        refine zv_aload_n K 2 eX11_holdsTest_99 rfl ?_
        refine zv_gA K eX11_holdsTest_100 fl_X11_41 hf (fun v26 hf => ?_)
        refine zv_iload K 0 eX11_holdsTest_103 rfl ?_
        refine zv_iconst K (1 : Int32) eX11_holdsTest_105 (by decide) ?_
        refine zv_sB K eX11_holdsTest_106 hf (fun h27 hf => ?_)
        refine zv_aload_n K 2 eX11_holdsTest_107 rfl ?_
        refine zv_gA K eX11_holdsTest_108 fl_X11_44 hf (fun v28 hf => ?_)
        refine zv_iload K 0 eX11_holdsTest_111 rfl ?_
        refine zv_iload K 6 eX11_holdsTest_113 rfl ?_
        refine zv_sB K eX11_holdsTest_115 hf (fun h29 hf => ?_)
        refine zv_iconst K (0 : Int32) eX11_holdsTest_116 (by decide) ?_
        refine zv_istore K [(5, tI (0 : Int32)), (4, tI (x4 + (1 : Int32))), (6, tI v12), (0, tA x0), (1, tI x1), (2, tI x2), (3, tI x3)] eX11_holdsTest_117 (z_lt hX.2 (by decide)) rfl ?_
        refine zv_goto K 377 eX11_holdsTest_119 (by decide) ?_
        refine zv_goto K 29 eX11_holdsTest_377 (by decide) ?_
        cases hf
        exact zv_sub [3, 4, 5, 6, 1, 0] rfl (show zV X 29 [(0, tA x0), (1, tI x1), (2, tI x2), (3, tI x3), (4, tI (x4 + (1 : Int32))), (5, tI (0 : Int32))] [] h29 nx 0 0 from hp)
    · refine zv_iconst K (1 : Int32) eX11_holdsTest_75 (by decide) ?_
      refine zv_istore K [(5, tI (1 : Int32)), (6, tI v12), (0, tA x0), (1, tI x1), (2, tI x2), (3, tI x3), (4, tI x4)] eX11_holdsTest_76 (z_lt hX.2 (by decide)) rfl ?_
      refine zv_goto K 377 eX11_holdsTest_78 (by decide) ?_
      refine zv_goto K 29 eX11_holdsTest_377 (by decide) ?_
      cases hf
      exact zv_sub [2, 3, 4, 5, 6, 0] rfl (show zV X 29 [(0, tA x0), (1, tI x1), (2, tI x2), (3, tI x3), (4, tI x4), (5, tI (1 : Int32))] [] h14 nx 0 0 from hp)
theorem v_X11_holdsTest_b29 {X : zX} (K : z_Ok X cX11_holdsTest (some .boolean) RX11 "holdsTest") (hX : z_Xo X rm_X11_holdsTest 9) {x0 : Option Nat} {x1 : Int32} {x2 : Int32} {x3 : Int32} {x4 : Int32} {x5 : Int32} {h : zH} {nx : Nat} {x : (Int32 × zH)} (hf : f_X11_holdsTest_b29 x0 x1 x2 x3 x4 x5 h = some x) (hp : z_P0I X nx x) : zV X 29 [(0, tA x0), (1, tI x1), (2, tI x2), (3, tI x3), (4, tI x4), (5, tI x5)] [] h nx 0 0 :=
  z_it_ind (P := fun s : (Option Nat) × Int32 × Int32 × Int32 × Int32 × Int32 × zH => zV X 29 [(0, tA s.1), (1, tI s.2.1), (2, tI s.2.2.1), (3, tI s.2.2.2.1), (4, tI s.2.2.2.2.1), (5, tI s.2.2.2.2.2.1)] [] s.2.2.2.2.2.2 nx 0 0) (fun s y hb hy => v_X11_holdsTest_c29 K hX hb (z_PL_of hy hp)) hf
set_option maxHeartbeats 4000000 in
set_option maxRecDepth 100000 in
theorem v_X11_holdsTest {X : zX} (K : z_Ok X cX11_holdsTest (some .boolean) RX11 "holdsTest") (hX : z_Xo X rm_X11_holdsTest 9) {x0 : Option Nat} {x1 : Int32} {x2 : Int32} {h : zH} {nx : Nat} {x : (Int32 × zH)} (hf : f_X11_holdsTest x0 x1 x2 h = some x) (hp : z_P0I X nx x) : zV X 0 [(0, tA x0), (1, tI x1), (2, tI x2)] [] h nx 0 0 := by
  unfold f_X11_holdsTest at hf
  refine zv_sipush K (190 : Int32) eX11_holdsTest_0 (by decide) ?_
  refine zv_bipush K (100 : Int32) eX11_holdsTest_3 (by decide) ?_
  refine zv_iload_n K 1 eX11_holdsTest_5 rfl ?_
  refine zv_imul K eX11_holdsTest_6 ?_
  refine zv_iadd K eX11_holdsTest_7 ?_
  refine zv_istore_n K [(3, tI ((190 : Int32) + ((100 : Int32) * x1))), (0, tA x0), (1, tI x1), (2, tI x2)] eX11_holdsTest_8 (z_lt hX.2 (by decide)) rfl ?_
  refine zv_iconst K (0 : Int32) eX11_holdsTest_9 (by decide) ?_
  refine zv_istore K [(4, tI (0 : Int32)), (3, tI ((190 : Int32) + ((100 : Int32) * x1))), (0, tA x0), (1, tI x1), (2, tI x2)] eX11_holdsTest_10 (z_lt hX.2 (by decide)) rfl ?_
  refine zv_iconst K (0 : Int32) eX11_holdsTest_12 (by decide) ?_
  refine zv_istore K [(5, tI (0 : Int32)), (4, tI (0 : Int32)), (3, tI ((190 : Int32) + ((100 : Int32) * x1))), (0, tA x0), (1, tI x1), (2, tI x2)] eX11_holdsTest_13 (z_lt hX.2 (by decide)) rfl ?_
  refine zv_aload_n K 3 eX11_holdsTest_15 rfl ?_
  refine zv_gA K eX11_holdsTest_16 fl_X11_38 hf (fun v1 hf => ?_)
  refine zv_iconst K (0 : Int32) eX11_holdsTest_19 (by decide) ?_
  refine zv_iconst K (0 : Int32) eX11_holdsTest_20 (by decide) ?_
  refine zv_sB K eX11_holdsTest_21 hf (fun h2 hf => ?_)
  refine zv_aload_n K 3 eX11_holdsTest_22 rfl ?_
  refine zv_gA K eX11_holdsTest_23 fl_X11_41 hf (fun v3 hf => ?_)
  refine zv_iconst K (0 : Int32) eX11_holdsTest_26 (by decide) ?_
  refine zv_iconst K (1 : Int32) eX11_holdsTest_27 (by decide) ?_
  refine zv_sB K eX11_holdsTest_28 hf (fun h4 hf => ?_)
  exact zv_sub [3, 4, 5, 2, 1, 0] rfl (v_X11_holdsTest_b29 K hX hf hp)
theorem c_X11_holdsTest (l : Launch) (G : zG) {x0 : Option Nat} {x1 : Int32} {x2 : Int32} {h : zH} {nx : Nat} {x : Int32 × zH} (hf : f_X11_holdsTest x0 x1 x2 h = some x) : z_Ct l G yX11_holdsTest cX11_holdsTest 9 (some .boolean) rm_X11_holdsTest [tA x0, tI x1, tI x2] h nx (some (tI x.1)) x.2 nx 0 0 :=
  z_enter [(0, tA x0), (1, tI x1), (2, tI x2)] (by decide +kernel) (Nat.le_of_ble_eq_true rfl) rfl (fun X hl hR hG hL K hq => by
    subst hl; subst hG
    exact v_X11_holdsTest K ⟨hR, hL⟩ hf hq)
def P_X11_findsOf_17 (X : zX) (nx : Nat) : ((Option Nat) × Int32 × Int32 × Int32 × Int32 × zH) ⊕ (Int32 × zH) → Prop := z_PL (fun s => zV X 17 [(0, tA s.1), (1, tI s.2.1), (2, tI s.2.2.1), (3, tI s.2.2.2.1), (4, tI s.2.2.2.2.1)] [] s.2.2.2.2.2 nx 0 0) (z_P0I X nx)
def P_X11_findsOf_44 (X : zX) (nx : Nat) : ((Option Nat) × Int32 × Int32 × Int32 × Int32 × zH) ⊕ (((Option Nat) × Int32 × Int32 × Int32 × Int32 × zH) ⊕ (Int32 × zH)) → Prop := z_PL (fun s => zV X 44 [(0, tA s.1), (1, tI s.2.1), (2, tI s.2.2.1), (3, tI s.2.2.2.1), (4, tI s.2.2.2.2.1)] [] s.2.2.2.2.2 nx 0 0) (P_X11_findsOf_17 X nx)
set_option maxHeartbeats 4000000 in
set_option maxRecDepth 100000 in
theorem v_X11_findsOf_b90 {X : zX} (K : z_Ok X cX11_findsOf (some .int) RX11 "findsOf") (hX : z_Xo X rm_X11_findsOf 5) {x0 : Option Nat} {x1 : Int32} {x2 : Int32} {x3 : Int32} {x4 : Int32} {h : zH} {nx : Nat} {x : (((Option Nat) × Int32 × Int32 × Int32 × Int32 × zH) ⊕ (Int32 × zH))} (hf : f_X11_findsOf_b90 x0 x1 x2 x3 x4 h = some x) (hp : P_X11_findsOf_17 X nx x) : zV X 90 [(0, tA x0), (1, tI x1), (2, tI x2), (3, tI x3), (4, tI x4)] [] h nx 0 0 := by
  unfold f_X11_findsOf_b90 at hf
  refine zv_aload_n K 0 eX11_findsOf_90 rfl ?_
  refine zv_dup K eX11_findsOf_91 rfl ?_
  refine zv_gI K eX11_findsOf_92 fl_X11_149 hf (fun v1 hf => ?_)
  refine zv_iconst K (1 : Int32) eX11_findsOf_95 (by decide) ?_
  refine zv_iadd K eX11_findsOf_96 ?_
  refine zv_pI K eX11_findsOf_97 fl_X11_149 ff_11_14 rfl hf (fun h2 hf => ?_)
  refine zv_iinc K (x4 + (1 : Int32)) 4 [(4, tI (x4 + (1 : Int32))), (0, tA x0), (1, tI x1), (2, tI x2), (3, tI x3)] eX11_findsOf_100 rfl rfl (z_lt hX.2 (by decide)) rfl ?_
  refine zv_goto K 17 eX11_findsOf_103 (by decide) ?_
  cases hf
  exact zv_sub [1, 2, 3, 4, 0] rfl (show zV X 17 [(0, tA x0), (1, tI x1), (2, tI x2), (3, tI x3), (4, tI (x4 + (1 : Int32)))] [] h2 nx 0 0 from hp)
set_option maxHeartbeats 4000000 in
set_option maxRecDepth 100000 in
theorem v_X11_findsOf_c44 {X : zX} (K : z_Ok X cX11_findsOf (some .int) RX11 "findsOf") (hX : z_Xo X rm_X11_findsOf 5) {x0 : Option Nat} {x1 : Int32} {x2 : Int32} {x3 : Int32} {x4 : Int32} {h : zH} {nx : Nat} {x : (((Option Nat) × Int32 × Int32 × Int32 × Int32 × zH) ⊕ (((Option Nat) × Int32 × Int32 × Int32 × Int32 × zH) ⊕ (Int32 × zH)))} (hf : f_X11_findsOf_c44 x0 x1 x2 x3 x4 h = some x) (hp : P_X11_findsOf_44 X nx x) : zV X 44 [(0, tA x0), (1, tI x1), (2, tI x2), (3, tI x3), (4, tI x4)] [] h nx 0 0 := by
  unfold f_X11_findsOf_c44 at hf
  refine zv_aload_n K 0 eX11_findsOf_44 rfl ?_
  refine zv_gI K eX11_findsOf_45 fl_X11_149 hf (fun v1 hf => ?_)
  refine zv_aload_n K 0 eX11_findsOf_48 rfl ?_
  refine zv_gA K eX11_findsOf_49 fl_X11_7 hf (fun v2 hf => ?_)
  refine zv_iload_n K 1 eX11_findsOf_52 rfl ?_
  refine zv_iconst K (3 : Int32) eX11_findsOf_53 (by decide) ?_
  obtain ⟨v4, h3, eh3, hf⟩ := z_b2_inv hf
  refine zv_cS0 K [tI x1, tI (3 : Int32)] [tA v2, tI v1] eX11_findsOf_54 lk_X11_69 md_X11_of st_X11_of rfl rfl (Nat.le_of_ble_eq_true rfl) (c_X11_of X.1.2.1 X.2.2.1 eh3) rfl rfl ⟨z_le (z_fr hX) (by decide), z_le (z_lo hX) (by decide)⟩ ⟨Nat.zero_le _, Nat.zero_le _⟩ ?_
  refine zv_aI K eX11_findsOf_57 hf (fun v5 hf => ?_)
  refine zv_icmp_ge K 90 eX11_findsOf_58 (by decide) hf (fun _ hf => ?_) (fun _ hf => ?_)
  · obtain ⟨w9, hf9, e9⟩ := z_i1_inv hf; clear hf; subst e9; have hf := hf9; clear hf9
    exact zv_sub [0, 1, 2, 3, 4] rfl (v_X11_findsOf_b90 K hX hf hp)
  · refine zv_aload_n K 0 eX11_findsOf_61 rfl ?_
    refine zv_gA K eX11_findsOf_62 fl_X11_7 hf (fun v6 hf => ?_)
    refine zv_iload_n K 3 eX11_findsOf_65 rfl ?_
    refine zv_aload_n K 0 eX11_findsOf_66 rfl ?_
    refine zv_gI K eX11_findsOf_67 fl_X11_149 hf (fun v7 hf => ?_)
    refine zv_iadd K eX11_findsOf_70 ?_
    refine zv_aI K eX11_findsOf_71 hf (fun v8 hf => ?_)
    refine zv_bipush K (59 : Int32) eX11_findsOf_72 (by decide) ?_
    refine zv_icmp_eq K 90 eX11_findsOf_74 (by decide) hf (fun _ hf => ?_) (fun _ hf => ?_)
    · obtain ⟨w9, hf9, e9⟩ := z_i1_inv hf; clear hf; subst e9; have hf := hf9; clear hf9
      exact zv_sub [0, 1, 2, 3, 4] rfl (v_X11_findsOf_b90 K hX hf hp)
    · refine zv_aload_n K 0 eX11_findsOf_77 rfl ?_
      refine zv_dup K eX11_findsOf_78 rfl ?_
      refine zv_gI K eX11_findsOf_79 fl_X11_149 hf (fun v9 hf => ?_)
      refine zv_iconst K (1 : Int32) eX11_findsOf_82 (by decide) ?_
      refine zv_iadd K eX11_findsOf_83 ?_
      refine zv_pI K eX11_findsOf_84 fl_X11_149 ff_11_14 rfl hf (fun h10 hf => ?_)
      refine zv_goto K 44 eX11_findsOf_87 (by decide) ?_
      cases hf
      exact zv_sub [0, 1, 2, 3, 4] rfl (show zV X 44 [(0, tA x0), (1, tI x1), (2, tI x2), (3, tI x3), (4, tI x4)] [] h10 nx 0 0 from hp)
theorem v_X11_findsOf_b44 {X : zX} (K : z_Ok X cX11_findsOf (some .int) RX11 "findsOf") (hX : z_Xo X rm_X11_findsOf 5) {x0 : Option Nat} {x1 : Int32} {x2 : Int32} {x3 : Int32} {x4 : Int32} {h : zH} {nx : Nat} {x : (((Option Nat) × Int32 × Int32 × Int32 × Int32 × zH) ⊕ (Int32 × zH))} (hf : f_X11_findsOf_b44 x0 x1 x2 x3 x4 h = some x) (hp : P_X11_findsOf_17 X nx x) : zV X 44 [(0, tA x0), (1, tI x1), (2, tI x2), (3, tI x3), (4, tI x4)] [] h nx 0 0 :=
  z_it_ind (P := fun s : (Option Nat) × Int32 × Int32 × Int32 × Int32 × zH => zV X 44 [(0, tA s.1), (1, tI s.2.1), (2, tI s.2.2.1), (3, tI s.2.2.2.1), (4, tI s.2.2.2.2.1)] [] s.2.2.2.2.2 nx 0 0) (fun s y hb hy => v_X11_findsOf_c44 K hX hb (z_PL_of hy hp)) hf
set_option maxHeartbeats 4000000 in
set_option maxRecDepth 100000 in
theorem v_X11_findsOf_c17 {X : zX} (K : z_Ok X cX11_findsOf (some .int) RX11 "findsOf") (hX : z_Xo X rm_X11_findsOf 5) {x0 : Option Nat} {x1 : Int32} {x2 : Int32} {x3 : Int32} {x4 : Int32} {h : zH} {nx : Nat} {x : (((Option Nat) × Int32 × Int32 × Int32 × Int32 × zH) ⊕ (Int32 × zH))} (hf : f_X11_findsOf_c17 x0 x1 x2 x3 x4 h = some x) (hp : P_X11_findsOf_17 X nx x) : zV X 17 [(0, tA x0), (1, tI x1), (2, tI x2), (3, tI x3), (4, tI x4)] [] h nx 0 0 := by
  unfold f_X11_findsOf_c17 at hf
  refine zv_iload K 4 eX11_findsOf_17 rfl ?_
  refine zv_aload_n K 0 eX11_findsOf_19 rfl ?_
  refine zv_gA K eX11_findsOf_20 fl_X11_7 hf (fun v1 hf => ?_)
  refine zv_iload_n K 1 eX11_findsOf_23 rfl ?_
  refine zv_iconst K (4 : Int32) eX11_findsOf_24 (by decide) ?_
  obtain ⟨v3, h2, eh2, hf⟩ := z_b2_inv hf
  refine zv_cS0 K [tI x1, tI (4 : Int32)] [tA v1, tI x4] eX11_findsOf_25 lk_X11_69 md_X11_of st_X11_of rfl rfl (Nat.le_of_ble_eq_true rfl) (c_X11_of X.1.2.1 X.2.2.1 eh2) rfl rfl ⟨z_le (z_fr hX) (by decide), z_le (z_lo hX) (by decide)⟩ ⟨Nat.zero_le _, Nat.zero_le _⟩ ?_
  refine zv_aI K eX11_findsOf_28 hf (fun v4 hf => ?_)
  refine zv_icmp_ge K 106 eX11_findsOf_29 (by decide) hf (fun _ hf => ?_) (fun _ hf => ?_)
  · obtain ⟨w9, hf9, e9⟩ := z_i1_inv hf; clear hf; subst e9; have hf := hf9; clear hf9
    refine zv_bipush K (-4 : Int32) eX11_findsOf_106 (by decide) ?_
    have e9 := Option.some.inj hf; subst e9
    exact zv_iret K eX11_findsOf_108 hp
  · refine zv_aload_n K 0 eX11_findsOf_32 rfl ?_
    refine zv_iload_n K 1 eX11_findsOf_33 rfl ?_
    refine zv_iload_n K 2 eX11_findsOf_34 rfl ?_
    obtain ⟨q5, hq5, hf⟩ := z_bind_inv hf
    obtain ⟨v7, h6, eh6, hf⟩ := z_b2_inv hf
    refine zv_cV0 K [tI x1, tI x2] [] eX11_findsOf_35 lk_X11_156 md_X11_holdsTest im_X11_holdsTest sl_X11_holdsTest rfl rfl rfl rfl (Nat.le_of_ble_eq_true rfl) hq5 (c_X11_holdsTest X.1.2.1 X.2.2.1 eh6) rfl rfl ⟨z_le (z_fr hX) (by decide), z_le (z_lo hX) (by decide)⟩ ⟨Nat.zero_le _, Nat.zero_le _⟩ ?_
    refine zv_if_eq K 44 eX11_findsOf_38 (by decide) hf (fun _ hf => ?_) (fun _ hf => ?_)
    · exact zv_sub [0, 1, 2, 3, 4] rfl (v_X11_findsOf_b44 K hX hf hp)
    · obtain ⟨w9, hf9, e9⟩ := z_i1_inv hf; clear hf; subst e9; have hf := hf9; clear hf9
      refine zv_iload K 4 eX11_findsOf_41 rfl ?_
      have e9 := Option.some.inj hf; subst e9
      exact zv_iret K eX11_findsOf_43 hp
theorem v_X11_findsOf_b17 {X : zX} (K : z_Ok X cX11_findsOf (some .int) RX11 "findsOf") (hX : z_Xo X rm_X11_findsOf 5) {x0 : Option Nat} {x1 : Int32} {x2 : Int32} {x3 : Int32} {x4 : Int32} {h : zH} {nx : Nat} {x : (Int32 × zH)} (hf : f_X11_findsOf_b17 x0 x1 x2 x3 x4 h = some x) (hp : z_P0I X nx x) : zV X 17 [(0, tA x0), (1, tI x1), (2, tI x2), (3, tI x3), (4, tI x4)] [] h nx 0 0 :=
  z_it_ind (P := fun s : (Option Nat) × Int32 × Int32 × Int32 × Int32 × zH => zV X 17 [(0, tA s.1), (1, tI s.2.1), (2, tI s.2.2.1), (3, tI s.2.2.2.1), (4, tI s.2.2.2.2.1)] [] s.2.2.2.2.2 nx 0 0) (fun s y hb hy => v_X11_findsOf_c17 K hX hb (z_PL_of hy hp)) hf
set_option maxHeartbeats 4000000 in
set_option maxRecDepth 100000 in
theorem v_X11_findsOf {X : zX} (K : z_Ok X cX11_findsOf (some .int) RX11 "findsOf") (hX : z_Xo X rm_X11_findsOf 5) {x0 : Option Nat} {x1 : Int32} {x2 : Int32} {h : zH} {nx : Nat} {x : (Int32 × zH)} (hf : f_X11_findsOf x0 x1 x2 h = some x) (hp : z_P0I X nx x) : zV X 0 [(0, tA x0), (1, tI x1), (2, tI x2)] [] h nx 0 0 := by
  unfold f_X11_findsOf at hf
  refine zv_sipush K (190 : Int32) eX11_findsOf_0 (by decide) ?_
  refine zv_bipush K (100 : Int32) eX11_findsOf_3 (by decide) ?_
  refine zv_iload_n K 1 eX11_findsOf_5 rfl ?_
  refine zv_imul K eX11_findsOf_6 ?_
  refine zv_iadd K eX11_findsOf_7 ?_
  refine zv_istore_n K [(3, tI ((190 : Int32) + ((100 : Int32) * x1))), (0, tA x0), (1, tI x1), (2, tI x2)] eX11_findsOf_8 (z_lt hX.2 (by decide)) rfl ?_
  refine zv_aload_n K 1 eX11_findsOf_9 rfl ?_
  refine zv_iconst K (0 : Int32) eX11_findsOf_10 (by decide) ?_
  refine zv_pI K eX11_findsOf_11 fl_X11_149 ff_11_14 rfl hf (fun h1 hf => ?_)
  refine zv_iconst K (0 : Int32) eX11_findsOf_14 (by decide) ?_
  refine zv_istore K [(4, tI (0 : Int32)), (3, tI ((190 : Int32) + ((100 : Int32) * x1))), (0, tA x0), (1, tI x1), (2, tI x2)] eX11_findsOf_15 (z_lt hX.2 (by decide)) rfl ?_
  exact zv_sub [2, 3, 4, 1, 0] rfl (v_X11_findsOf_b17 K hX hf hp)
theorem c_X11_findsOf (l : Launch) (G : zG) {x0 : Option Nat} {x1 : Int32} {x2 : Int32} {h : zH} {nx : Nat} {x : Int32 × zH} (hf : f_X11_findsOf x0 x1 x2 h = some x) : z_Ct l G yX11_findsOf cX11_findsOf 5 (some .int) rm_X11_findsOf [tA x0, tI x1, tI x2] h nx (some (tI x.1)) x.2 nx 0 0 :=
  z_enter [(0, tA x0), (1, tI x1), (2, tI x2)] (by decide +kernel) (Nat.le_of_ble_eq_true rfl) rfl (fun X hl hR hG hL K hq => by
    subst hl; subst hG
    exact v_X11_findsOf K ⟨hR, hL⟩ hf hq)
def P_X11_grab_19 (X : zX) (nx : Nat) : ((Option Nat) × Int32 × Int32 × Int32 × zH) ⊕ (zH) → Prop := z_PL (fun s => zV X 19 [(0, tA s.1), (1, tI s.2.1), (2, tI s.2.2.1), (3, tI s.2.2.2.1)] [] s.2.2.2.2 nx 0 0) (z_P0V X nx)
set_option maxHeartbeats 4000000 in
set_option maxRecDepth 100000 in
theorem v_X11_grab_b139 {X : zX} (K : z_Ok X cX11_grab none RX11 "grab") (hX : z_Xo X rm_X11_grab 6) {x0 : Option Nat} {x1 : Int32} {x2 : Int32} {x3 : Int32} {h : zH} {nx : Nat} {x : (((Option Nat) × Int32 × Int32 × Int32 × zH) ⊕ (zH))} (hf : f_X11_grab_b139 x0 x1 x2 x3 h = some x) (hp : P_X11_grab_19 X nx x) : zV X 139 [(0, tA x0), (1, tI x1), (2, tI x2), (3, tI x3)] [] h nx 0 0 := by
  unfold f_X11_grab_b139 at hf
  refine zv_iinc K (x3 + (1 : Int32)) 3 [(3, tI (x3 + (1 : Int32))), (0, tA x0), (1, tI x1), (2, tI x2)] eX11_grab_139 rfl rfl (z_lt hX.2 (by decide)) rfl ?_
  refine zv_goto K 19 eX11_grab_142 (by decide) ?_
  cases hf
  exact zv_sub [1, 2, 3, 0] rfl (show zV X 19 [(0, tA x0), (1, tI x1), (2, tI x2), (3, tI (x3 + (1 : Int32)))] [] h nx 0 0 from hp)
set_option maxHeartbeats 4000000 in
set_option maxRecDepth 100000 in
theorem v_X11_grab_b65 {X : zX} (K : z_Ok X cX11_grab none RX11 "grab") (hX : z_Xo X rm_X11_grab 6) {x0 : Option Nat} {x1 : Int32} {x2 : Int32} {x3 : Int32} {s0 : Int32} {h : zH} {nx : Nat} {x : (((Option Nat) × Int32 × Int32 × Int32 × zH) ⊕ (zH))} (hf : f_X11_grab_b65 x0 x1 x2 x3 s0 h = some x) (hp : P_X11_grab_19 X nx x) : zV X 65 [(0, tA x0), (1, tI x1), (2, tI x2), (3, tI x3)] [tI s0] h nx 0 0 := by
  unfold f_X11_grab_b65 at hf
  refine zv_istore K [(5, tI s0), (0, tA x0), (1, tI x1), (2, tI x2), (3, tI x3)] eX11_grab_65 (z_lt hX.2 (by decide)) rfl ?_
  refine zv_iload K 0 eX11_grab_67 rfl ?_
  refine zv_if_lt K 139 eX11_grab_69 (by decide) hf (fun _ hf => ?_) (fun _ hf => ?_)
  · exact zv_sub [1, 2, 3, 4] rfl (v_X11_grab_b139 K hX hf hp)
  · refine zv_aload_n K 1 eX11_grab_72 rfl ?_
    refine zv_gA K eX11_grab_73 fl_X11_7 hf (fun v1 hf => ?_)
    refine zv_iload K 0 eX11_grab_76 rfl ?_
    obtain ⟨v3, h2, eh2, hf⟩ := z_b2_inv hf
    refine zv_cS0 K [tI s0] [tA v1] eX11_grab_78 lk_X11_84 md_X11_thingAt st_X11_thingAt rfl rfl (Nat.le_of_ble_eq_true rfl) (c_X11_thingAt X.1.2.1 X.2.2.1 eh2) rfl rfl ⟨z_le (z_fr hX) (by decide), z_le (z_lo hX) (by decide)⟩ ⟨Nat.zero_le _, Nat.zero_le _⟩ ?_
    refine zv_iconst K (2 : Int32) eX11_grab_81 (by decide) ?_
    refine zv_iadd K eX11_grab_82 ?_
    refine zv_aI K eX11_grab_83 hf (fun v4 hf => ?_)
    refine zv_aload_n K 1 eX11_grab_84 rfl ?_
    refine zv_gA K eX11_grab_85 fl_X11_7 hf (fun v5 hf => ?_)
    refine zv_bipush K (66 : Int32) eX11_grab_88 (by decide) ?_
    refine zv_aI K eX11_grab_90 hf (fun v6 hf => ?_)
    refine zv_icmp_eq K 139 eX11_grab_91 (by decide) hf (fun _ hf => ?_) (fun _ hf => ?_)
    · exact zv_sub [1, 2, 3, 4] rfl (v_X11_grab_b139 K hX hf hp)
    · obtain ⟨w9, hf9, e9⟩ := z_i1_inv hf; clear hf; subst e9; have hf := hf9; clear hf9
      refine zv_aload_n K 1 eX11_grab_94 rfl ?_
      refine zv_gA K eX11_grab_95 fl_X11_7 hf (fun v7 hf => ?_)
      refine zv_iload K 0 eX11_grab_98 rfl ?_
      obtain ⟨v9, h8, eh8, hf⟩ := z_b2_inv hf
      refine zv_cS0 K [tI s0] [tA v7] eX11_grab_100 lk_X11_84 md_X11_thingAt st_X11_thingAt rfl rfl (Nat.le_of_ble_eq_true rfl) (c_X11_thingAt X.1.2.1 X.2.2.1 eh8) rfl rfl ⟨z_le (z_fr hX) (by decide), z_le (z_lo hX) (by decide)⟩ ⟨Nat.zero_le _, Nat.zero_le _⟩ ?_
      refine zv_iconst K (1 : Int32) eX11_grab_103 (by decide) ?_
      refine zv_sI K eX11_grab_104 hf (fun h10 hf => ?_)
      refine zv_aload_n K 1 eX11_grab_105 rfl ?_
      refine zv_gA K eX11_grab_106 fl_X11_7 hf (fun v11 hf => ?_)
      refine zv_iload K 0 eX11_grab_109 rfl ?_
      obtain ⟨v13, h12, eh12, hf⟩ := z_b2_inv hf
      refine zv_cS0 K [tI s0] [tA v11] eX11_grab_111 lk_X11_84 md_X11_thingAt st_X11_thingAt rfl rfl (Nat.le_of_ble_eq_true rfl) (c_X11_thingAt X.1.2.1 X.2.2.1 eh12) rfl rfl ⟨z_le (z_fr hX) (by decide), z_le (z_lo hX) (by decide)⟩ ⟨Nat.zero_le _, Nat.zero_le _⟩ ?_
      refine zv_iconst K (3 : Int32) eX11_grab_114 (by decide) ?_
      refine zv_iadd K eX11_grab_115 ?_
      refine zv_bipush K (10 : Int32) eX11_grab_116 (by decide) ?_
      refine zv_iload_n K 2 eX11_grab_118 rfl ?_
      refine zv_imul K eX11_grab_119 ?_
      refine zv_iload_n K 3 eX11_grab_120 rfl ?_
      refine zv_iadd K eX11_grab_121 ?_
      refine zv_sI K eX11_grab_122 hf (fun h14 hf => ?_)
      refine zv_aload_n K 1 eX11_grab_123 rfl ?_
      refine zv_gA K eX11_grab_124 fl_X11_7 hf (fun v15 hf => ?_)
      refine zv_iload_n K 2 eX11_grab_127 rfl ?_
      refine zv_bipush K (19 : Int32) eX11_grab_128 (by decide) ?_
      obtain ⟨v17, h16, eh16, hf⟩ := z_b2_inv hf
      refine zv_cS0 K [tI x1, tI (19 : Int32)] [tA v15] eX11_grab_130 lk_X11_69 md_X11_of st_X11_of rfl rfl (Nat.le_of_ble_eq_true rfl) (c_X11_of X.1.2.1 X.2.2.1 eh16) rfl rfl ⟨z_le (z_fr hX) (by decide), z_le (z_lo hX) (by decide)⟩ ⟨Nat.zero_le _, Nat.zero_le _⟩ ?_
      refine zv_iload_n K 3 eX11_grab_133 rfl ?_
      refine zv_iadd K eX11_grab_134 ?_
      refine zv_iload K 0 eX11_grab_135 rfl ?_
      refine zv_sI K eX11_grab_137 hf (fun h18 hf => ?_)
      have e9 := Option.some.inj hf; subst e9
      exact zv_vret K eX11_grab_138 hp
set_option maxHeartbeats 4000000 in
set_option maxRecDepth 100000 in
theorem v_X11_grab_b47 {X : zX} (K : z_Ok X cX11_grab none RX11 "grab") (hX : z_Xo X rm_X11_grab 6) {x0 : Option Nat} {x1 : Int32} {x2 : Int32} {x3 : Int32} {s0 : Int32} {h : zH} {nx : Nat} {x : (((Option Nat) × Int32 × Int32 × Int32 × zH) ⊕ (zH))} (hf : f_X11_grab_b47 x0 x1 x2 x3 s0 h = some x) (hp : P_X11_grab_19 X nx x) : zV X 47 [(0, tA x0), (1, tI x1), (2, tI x2), (3, tI x3)] [tI s0] h nx 0 0 := by
  unfold f_X11_grab_b47 at hf
  refine zv_istore K [(4, tI s0), (0, tA x0), (1, tI x1), (2, tI x2), (3, tI x3)] eX11_grab_47 (z_lt hX.2 (by decide)) rfl ?_
  refine zv_iload K 0 eX11_grab_49 rfl ?_
  refine zv_if_ge K 59 eX11_grab_51 (by decide) hf (fun _ hf => ?_) (fun _ hf => ?_)
  · refine zv_aload_n K 1 eX11_grab_59 rfl ?_
    refine zv_iload K 0 eX11_grab_60 rfl ?_
    obtain ⟨q1, hq1, hf⟩ := z_bind_inv hf
    obtain ⟨v3, h2, eh2, hf⟩ := z_b2_inv hf
    refine zv_cV0 K [tI s0] [] eX11_grab_62 lk_X11_97 md_X11_lyingAt im_X11_lyingAt sl_X11_lyingAt rfl rfl rfl rfl (Nat.le_of_ble_eq_true rfl) hq1 (c_X11_lyingAt X.1.2.1 X.2.2.1 eh2) rfl rfl ⟨z_le (z_fr hX) (by decide), z_le (z_lo hX) (by decide)⟩ ⟨Nat.zero_le _, Nat.zero_le _⟩ ?_
    exact zv_sub [1, 2, 3, 4] rfl (v_X11_grab_b65 K hX hf hp)
  · refine zv_bipush K (-4 : Int32) eX11_grab_54 (by decide) ?_
    refine zv_goto K 65 eX11_grab_56 (by decide) ?_
    exact zv_sub [1, 2, 3, 4] rfl (v_X11_grab_b65 K hX hf hp)
set_option maxHeartbeats 4000000 in
set_option maxRecDepth 100000 in
theorem v_X11_grab_c19 {X : zX} (K : z_Ok X cX11_grab none RX11 "grab") (hX : z_Xo X rm_X11_grab 6) {x0 : Option Nat} {x1 : Int32} {x2 : Int32} {x3 : Int32} {h : zH} {nx : Nat} {x : (((Option Nat) × Int32 × Int32 × Int32 × zH) ⊕ (zH))} (hf : f_X11_grab_c19 x0 x1 x2 x3 h = some x) (hp : P_X11_grab_19 X nx x) : zV X 19 [(0, tA x0), (1, tI x1), (2, tI x2), (3, tI x3)] [] h nx 0 0 := by
  unfold f_X11_grab_c19 at hf
  refine zv_iload_n K 3 eX11_grab_19 rfl ?_
  refine zv_iconst K (4 : Int32) eX11_grab_20 (by decide) ?_
  refine zv_icmp_ge K 145 eX11_grab_21 (by decide) hf (fun _ hf => ?_) (fun _ hf => ?_)
  · obtain ⟨w9, hf9, e9⟩ := z_i1_inv hf; clear hf; subst e9; have hf := hf9; clear hf9
    have e9 := Option.some.inj hf; subst e9
    exact zv_vret K eX11_grab_145 hp
  · refine zv_iload_n K 3 eX11_grab_24 rfl ?_
    refine zv_if_ge K 37 eX11_grab_25 (by decide) hf (fun _ hf => ?_) (fun _ hf => ?_)
    · refine zv_aload_n K 0 eX11_grab_37 rfl ?_
      refine zv_iload_n K 1 eX11_grab_38 rfl ?_
      refine zv_iload_n K 2 eX11_grab_39 rfl ?_
      obtain ⟨q1, hq1, hf⟩ := z_bind_inv hf
      obtain ⟨v3, h2, eh2, hf⟩ := z_b2_inv hf
      refine zv_cV0 K [tI x1, tI x2] [] eX11_grab_40 lk_X11_81 md_X11_cell im_X11_cell sl_X11_cell rfl rfl rfl rfl (Nat.le_of_ble_eq_true rfl) hq1 (c_X11_cell X.1.2.1 X.2.2.1 eh2) rfl rfl ⟨z_le (z_fr hX) (by decide), z_le (z_lo hX) (by decide)⟩ ⟨Nat.zero_le _, Nat.zero_le _⟩ ?_
      refine zv_iload_n K 3 eX11_grab_43 rfl ?_
      obtain ⟨v5, h4, eh4, hf⟩ := z_b2_inv hf
      refine zv_cS0 K [tI v3, tI x3] [] eX11_grab_44 lk_X11_91 md_X11_beside st_X11_beside rfl rfl (Nat.le_of_ble_eq_true rfl) (c_X11_beside X.1.2.1 X.2.2.1 eh4) rfl rfl ⟨z_le (z_fr hX) (by decide), z_le (z_lo hX) (by decide)⟩ ⟨Nat.zero_le _, Nat.zero_le _⟩ ?_
      exact zv_sub [0, 1, 2, 3] rfl (v_X11_grab_b47 K hX hf hp)
    · refine zv_aload_n K 0 eX11_grab_28 rfl ?_
      refine zv_iload_n K 1 eX11_grab_29 rfl ?_
      refine zv_iload_n K 2 eX11_grab_30 rfl ?_
      obtain ⟨q6, hq6, hf⟩ := z_bind_inv hf
      obtain ⟨v8, h7, eh7, hf⟩ := z_b2_inv hf
      refine zv_cV0 K [tI x1, tI x2] [] eX11_grab_31 lk_X11_81 md_X11_cell im_X11_cell sl_X11_cell rfl rfl rfl rfl (Nat.le_of_ble_eq_true rfl) hq6 (c_X11_cell X.1.2.1 X.2.2.1 eh7) rfl rfl ⟨z_le (z_fr hX) (by decide), z_le (z_lo hX) (by decide)⟩ ⟨Nat.zero_le _, Nat.zero_le _⟩ ?_
      refine zv_goto K 47 eX11_grab_34 (by decide) ?_
      exact zv_sub [0, 1, 2, 3] rfl (v_X11_grab_b47 K hX hf hp)
theorem v_X11_grab_b19 {X : zX} (K : z_Ok X cX11_grab none RX11 "grab") (hX : z_Xo X rm_X11_grab 6) {x0 : Option Nat} {x1 : Int32} {x2 : Int32} {x3 : Int32} {h : zH} {nx : Nat} {x : (zH)} (hf : f_X11_grab_b19 x0 x1 x2 x3 h = some x) (hp : z_P0V X nx x) : zV X 19 [(0, tA x0), (1, tI x1), (2, tI x2), (3, tI x3)] [] h nx 0 0 :=
  z_it_ind (P := fun s : (Option Nat) × Int32 × Int32 × Int32 × zH => zV X 19 [(0, tA s.1), (1, tI s.2.1), (2, tI s.2.2.1), (3, tI s.2.2.2.1)] [] s.2.2.2.2 nx 0 0) (fun s y hb hy => v_X11_grab_c19 K hX hb (z_PL_of hy hp)) hf
set_option maxHeartbeats 4000000 in
set_option maxRecDepth 100000 in
theorem v_X11_grab {X : zX} (K : z_Ok X cX11_grab none RX11 "grab") (hX : z_Xo X rm_X11_grab 6) {x0 : Option Nat} {x1 : Int32} {x2 : Int32} {h : zH} {nx : Nat} {x : (zH)} (hf : f_X11_grab x0 x1 x2 h = some x) (hp : z_P0V X nx x) : zV X 0 [(0, tA x0), (1, tI x1), (2, tI x2)] [] h nx 0 0 := by
  unfold f_X11_grab at hf
  refine zv_aload_n K 0 eX11_grab_0 rfl ?_
  refine zv_gA K eX11_grab_1 fl_X11_7 hf (fun v1 hf => ?_)
  refine zv_iload_n K 1 eX11_grab_4 rfl ?_
  refine zv_bipush K (19 : Int32) eX11_grab_5 (by decide) ?_
  obtain ⟨v3, h2, eh2, hf⟩ := z_b2_inv hf
  refine zv_cS0 K [tI x1, tI (19 : Int32)] [tA v1] eX11_grab_7 lk_X11_69 md_X11_of st_X11_of rfl rfl (Nat.le_of_ble_eq_true rfl) (c_X11_of X.1.2.1 X.2.2.1 eh2) rfl rfl ⟨z_le (z_fr hX) (by decide), z_le (z_lo hX) (by decide)⟩ ⟨Nat.zero_le _, Nat.zero_le _⟩ ?_
  refine zv_iload_n K 2 eX11_grab_10 rfl ?_
  refine zv_iadd K eX11_grab_11 ?_
  refine zv_aI K eX11_grab_12 hf (fun v4 hf => ?_)
  refine zv_if_lt K 17 eX11_grab_13 (by decide) hf (fun _ hf => ?_) (fun _ hf => ?_)
  · refine zv_iconst K (-1 : Int32) eX11_grab_17 (by decide) ?_
    refine zv_istore_n K [(3, tI (-1 : Int32)), (0, tA x0), (1, tI x1), (2, tI x2)] eX11_grab_18 (z_lt hX.2 (by decide)) rfl ?_
    exact zv_sub [1, 2, 3, 0] rfl (v_X11_grab_b19 K hX hf hp)
  · have e9 := Option.some.inj hf; subst e9
    exact zv_vret K eX11_grab_16 hp
theorem c_X11_grab (l : Launch) (G : zG) {x0 : Option Nat} {x1 : Int32} {x2 : Int32} {h : zH} {nx : Nat} {x : zH} (hf : f_X11_grab x0 x1 x2 h = some x) : z_Ct l G yX11_grab cX11_grab 6 none rm_X11_grab [tA x0, tI x1, tI x2] h nx none x nx 0 0 :=
  z_enter [(0, tA x0), (1, tI x1), (2, tI x2)] (by decide +kernel) (Nat.le_of_ble_eq_true rfl) rfl (fun X hl hR hG hL K hq => by
    subst hl; subst hG
    exact v_X11_grab K ⟨hR, hL⟩ hf hq)
set_option maxHeartbeats 4000000 in
set_option maxRecDepth 100000 in
theorem v_X11_pass_b53 {X : zX} (K : z_Ok X cX11_pass none RX11 "pass") (hX : z_Xo X rm_X11_pass 4) {x0 : Option Nat} {x1 : Int32} {x2 : Int32} {x3 : Int32} {h : zH} {nx : Nat} {x : (zH)} (hf : f_X11_pass_b53 x0 x1 x2 x3 h = some x) (hp : z_P0V X nx x) : zV X 53 [(0, tA x0), (1, tI x1), (2, tI x2), (3, tI x3)] [] h nx 0 0 := by
  unfold f_X11_pass_b53 at hf
  refine zv_aload_n K 0 eX11_pass_53 rfl ?_
  refine zv_gA K eX11_pass_54 fl_X11_7 hf (fun v1 hf => ?_)
  refine zv_iload_n K 1 eX11_pass_57 rfl ?_
  refine zv_bipush K (19 : Int32) eX11_pass_58 (by decide) ?_
  obtain ⟨v3, h2, eh2, hf⟩ := z_b2_inv hf
  refine zv_cS0 K [tI x1, tI (19 : Int32)] [tA v1] eX11_pass_60 lk_X11_69 md_X11_of st_X11_of rfl rfl (Nat.le_of_ble_eq_true rfl) (c_X11_of X.1.2.1 X.2.2.1 eh2) rfl rfl ⟨z_le (z_fr hX) (by decide), z_le (z_lo hX) (by decide)⟩ ⟨Nat.zero_le _, Nat.zero_le _⟩ ?_
  refine zv_iload_n K 2 eX11_pass_63 rfl ?_
  refine zv_iadd K eX11_pass_64 ?_
  refine zv_bipush K (-4 : Int32) eX11_pass_65 (by decide) ?_
  refine zv_sI K eX11_pass_67 hf (fun h4 hf => ?_)
  refine zv_aload_n K 0 eX11_pass_68 rfl ?_
  refine zv_gA K eX11_pass_69 fl_X11_7 hf (fun v5 hf => ?_)
  refine zv_iload_n K 3 eX11_pass_72 rfl ?_
  obtain ⟨v7, h6, eh6, hf⟩ := z_b2_inv hf
  refine zv_cS0 K [tI x3] [tA v5] eX11_pass_73 lk_X11_84 md_X11_thingAt st_X11_thingAt rfl rfl (Nat.le_of_ble_eq_true rfl) (c_X11_thingAt X.1.2.1 X.2.2.1 eh6) rfl rfl ⟨z_le (z_fr hX) (by decide), z_le (z_lo hX) (by decide)⟩ ⟨Nat.zero_le _, Nat.zero_le _⟩ ?_
  refine zv_iconst K (3 : Int32) eX11_pass_76 (by decide) ?_
  refine zv_iadd K eX11_pass_77 ?_
  refine zv_bipush K (10 : Int32) eX11_pass_78 (by decide) ?_
  refine zv_iload_n K 1 eX11_pass_80 rfl ?_
  refine zv_imul K eX11_pass_81 ?_
  refine zv_iload_n K 2 eX11_pass_82 rfl ?_
  refine zv_iadd K eX11_pass_83 ?_
  refine zv_iconst K (1 : Int32) eX11_pass_84 (by decide) ?_
  refine zv_isub K eX11_pass_85 ?_
  refine zv_sI K eX11_pass_86 hf (fun h8 hf => ?_)
  refine zv_iload_n K 2 eX11_pass_87 rfl ?_
  refine zv_iconst K (1 : Int32) eX11_pass_88 (by decide) ?_
  refine zv_icmp_ne K 105 eX11_pass_89 (by decide) hf (fun _ hf => ?_) (fun _ hf => ?_)
  · refine zv_aload_n K 0 eX11_pass_105 rfl ?_
    refine zv_gA K eX11_pass_106 fl_X11_7 hf (fun v9 hf => ?_)
    refine zv_iload_n K 1 eX11_pass_109 rfl ?_
    refine zv_bipush K (19 : Int32) eX11_pass_110 (by decide) ?_
    obtain ⟨v11, h10, eh10, hf⟩ := z_b2_inv hf
    refine zv_cS0 K [tI x1, tI (19 : Int32)] [tA v9] eX11_pass_112 lk_X11_69 md_X11_of st_X11_of rfl rfl (Nat.le_of_ble_eq_true rfl) (c_X11_of X.1.2.1 X.2.2.1 eh10) rfl rfl ⟨z_le (z_fr hX) (by decide), z_le (z_lo hX) (by decide)⟩ ⟨Nat.zero_le _, Nat.zero_le _⟩ ?_
    refine zv_iload_n K 2 eX11_pass_115 rfl ?_
    refine zv_iadd K eX11_pass_116 ?_
    refine zv_iconst K (1 : Int32) eX11_pass_117 (by decide) ?_
    refine zv_isub K eX11_pass_118 ?_
    refine zv_iload_n K 3 eX11_pass_119 rfl ?_
    refine zv_sI K eX11_pass_120 hf (fun h12 hf => ?_)
    have e9 := Option.some.inj hf; subst e9
    exact zv_vret K eX11_pass_121 hp
  · refine zv_aload_n K 0 eX11_pass_92 rfl ?_
    refine zv_gA K eX11_pass_93 fl_X11_7 hf (fun v13 hf => ?_)
    refine zv_iload_n K 3 eX11_pass_96 rfl ?_
    obtain ⟨v15, h14, eh14, hf⟩ := z_b2_inv hf
    refine zv_cS0 K [tI x3] [tA v13] eX11_pass_97 lk_X11_84 md_X11_thingAt st_X11_thingAt rfl rfl (Nat.le_of_ble_eq_true rfl) (c_X11_thingAt X.1.2.1 X.2.2.1 eh14) rfl rfl ⟨z_le (z_fr hX) (by decide), z_le (z_lo hX) (by decide)⟩ ⟨Nat.zero_le _, Nat.zero_le _⟩ ?_
    refine zv_iconst K (2 : Int32) eX11_pass_100 (by decide) ?_
    refine zv_sI K eX11_pass_101 hf (fun h16 hf => ?_)
    refine zv_goto K 121 eX11_pass_102 (by decide) ?_
    have e9 := Option.some.inj hf; subst e9
    exact zv_vret K eX11_pass_121 hp
set_option maxHeartbeats 4000000 in
set_option maxRecDepth 100000 in
theorem v_X11_pass {X : zX} (K : z_Ok X cX11_pass none RX11 "pass") (hX : z_Xo X rm_X11_pass 4) {x0 : Option Nat} {x1 : Int32} {x2 : Int32} {h : zH} {nx : Nat} {x : (zH)} (hf : f_X11_pass x0 x1 x2 h = some x) (hp : z_P0V X nx x) : zV X 0 [(0, tA x0), (1, tI x1), (2, tI x2)] [] h nx 0 0 := by
  unfold f_X11_pass at hf
  refine zv_aload_n K 0 eX11_pass_0 rfl ?_
  refine zv_gA K eX11_pass_1 fl_X11_7 hf (fun v1 hf => ?_)
  refine zv_iload_n K 1 eX11_pass_4 rfl ?_
  refine zv_bipush K (19 : Int32) eX11_pass_5 (by decide) ?_
  obtain ⟨v3, h2, eh2, hf⟩ := z_b2_inv hf
  refine zv_cS0 K [tI x1, tI (19 : Int32)] [tA v1] eX11_pass_7 lk_X11_69 md_X11_of st_X11_of rfl rfl (Nat.le_of_ble_eq_true rfl) (c_X11_of X.1.2.1 X.2.2.1 eh2) rfl rfl ⟨z_le (z_fr hX) (by decide), z_le (z_lo hX) (by decide)⟩ ⟨Nat.zero_le _, Nat.zero_le _⟩ ?_
  refine zv_iload_n K 2 eX11_pass_10 rfl ?_
  refine zv_iadd K eX11_pass_11 ?_
  refine zv_aI K eX11_pass_12 hf (fun v4 hf => ?_)
  refine zv_istore_n K [(3, tI v4), (0, tA x0), (1, tI x1), (2, tI x2)] eX11_pass_13 (z_lt hX.2 (by decide)) rfl ?_
  refine zv_iload_n K 0 eX11_pass_14 rfl ?_
  refine zv_if_lt K 52 eX11_pass_15 (by decide) hf (fun _ hf => ?_) (fun _ hf => ?_)
  · have e9 := Option.some.inj hf; subst e9
    exact zv_vret K eX11_pass_52 hp
  · refine zv_iload_n K 3 eX11_pass_18 rfl ?_
    refine zv_iconst K (1 : Int32) eX11_pass_19 (by decide) ?_
    refine zv_isub K eX11_pass_20 ?_
    refine zv_aload_n K 1 eX11_pass_21 rfl ?_
    refine zv_iload_n K 2 eX11_pass_22 rfl ?_
    obtain ⟨q5, hq5, hf⟩ := z_bind_inv hf
    obtain ⟨v7, h6, eh6, hf⟩ := z_b2_inv hf
    refine zv_cV0 K [tI x1] [tI (x2 - (1 : Int32))] eX11_pass_23 lk_X11_109 md_X11_cutOf im_X11_cutOf sl_X11_cutOf rfl rfl rfl rfl (Nat.le_of_ble_eq_true rfl) hq5 (c_X11_cutOf X.1.2.1 X.2.2.1 eh6) rfl rfl ⟨z_le (z_fr hX) (by decide), z_le (z_lo hX) (by decide)⟩ ⟨Nat.zero_le _, Nat.zero_le _⟩ ?_
    refine zv_icmp_eq K 52 eX11_pass_26 (by decide) hf (fun _ hf => ?_) (fun _ hf => ?_)
    · have e9 := Option.some.inj hf; subst e9
      exact zv_vret K eX11_pass_52 hp
    · refine zv_iload_n K 3 eX11_pass_29 rfl ?_
      refine zv_iconst K (1 : Int32) eX11_pass_30 (by decide) ?_
      refine zv_icmp_le K 53 eX11_pass_31 (by decide) hf (fun _ hf => ?_) (fun _ hf => ?_)
      · exact zv_sub [1, 2, 3, 0] rfl (v_X11_pass_b53 K hX hf hp)
      · refine zv_aload_n K 1 eX11_pass_34 rfl ?_
        refine zv_gA K eX11_pass_35 fl_X11_7 hf (fun v8 hf => ?_)
        refine zv_iload_n K 2 eX11_pass_38 rfl ?_
        refine zv_bipush K (19 : Int32) eX11_pass_39 (by decide) ?_
        obtain ⟨v10, h9, eh9, hf⟩ := z_b2_inv hf
        refine zv_cS0 K [tI x1, tI (19 : Int32)] [tA v8] eX11_pass_41 lk_X11_69 md_X11_of st_X11_of rfl rfl (Nat.le_of_ble_eq_true rfl) (c_X11_of X.1.2.1 X.2.2.1 eh9) rfl rfl ⟨z_le (z_fr hX) (by decide), z_le (z_lo hX) (by decide)⟩ ⟨Nat.zero_le _, Nat.zero_le _⟩ ?_
        refine zv_iload_n K 3 eX11_pass_44 rfl ?_
        refine zv_iadd K eX11_pass_45 ?_
        refine zv_iconst K (1 : Int32) eX11_pass_46 (by decide) ?_
        refine zv_isub K eX11_pass_47 ?_
        refine zv_aI K eX11_pass_48 hf (fun v11 hf => ?_)
        refine zv_if_lt K 53 eX11_pass_49 (by decide) hf (fun _ hf => ?_) (fun _ hf => ?_)
        · exact zv_sub [1, 2, 3, 0] rfl (v_X11_pass_b53 K hX hf hp)
        · have e9 := Option.some.inj hf; subst e9
          exact zv_vret K eX11_pass_52 hp
theorem c_X11_pass (l : Launch) (G : zG) {x0 : Option Nat} {x1 : Int32} {x2 : Int32} {h : zH} {nx : Nat} {x : zH} (hf : f_X11_pass x0 x1 x2 h = some x) : z_Ct l G yX11_pass cX11_pass 4 none rm_X11_pass [tA x0, tI x1, tI x2] h nx none x nx 0 0 :=
  z_enter [(0, tA x0), (1, tI x1), (2, tI x2)] (by decide +kernel) (Nat.le_of_ble_eq_true rfl) rfl (fun X hl hR hG hL K hq => by
    subst hl; subst hG
    exact v_X11_pass K ⟨hR, hL⟩ hf hq)
set_option maxHeartbeats 4000000 in
set_option maxRecDepth 100000 in
theorem v_X11_letGo {X : zX} (K : z_Ok X cX11_letGo none RX11 "letGo") (hX : z_Xo X rm_X11_letGo 4) {x0 : Option Nat} {x1 : Int32} {x2 : Int32} {h : zH} {nx : Nat} {x : (zH)} (hf : f_X11_letGo x0 x1 x2 h = some x) (hp : z_P0V X nx x) : zV X 0 [(0, tA x0), (1, tI x1), (2, tI x2)] [] h nx 0 0 := by
  unfold f_X11_letGo at hf
  refine zv_aload_n K 0 eX11_letGo_0 rfl ?_
  refine zv_gA K eX11_letGo_1 fl_X11_7 hf (fun v1 hf => ?_)
  refine zv_iload_n K 1 eX11_letGo_4 rfl ?_
  refine zv_bipush K (19 : Int32) eX11_letGo_5 (by decide) ?_
  obtain ⟨v3, h2, eh2, hf⟩ := z_b2_inv hf
  refine zv_cS0 K [tI x1, tI (19 : Int32)] [tA v1] eX11_letGo_7 lk_X11_69 md_X11_of st_X11_of rfl rfl (Nat.le_of_ble_eq_true rfl) (c_X11_of X.1.2.1 X.2.2.1 eh2) rfl rfl ⟨z_le (z_fr hX) (by decide), z_le (z_lo hX) (by decide)⟩ ⟨Nat.zero_le _, Nat.zero_le _⟩ ?_
  refine zv_iload_n K 2 eX11_letGo_10 rfl ?_
  refine zv_iadd K eX11_letGo_11 ?_
  refine zv_aI K eX11_letGo_12 hf (fun v4 hf => ?_)
  refine zv_istore_n K [(3, tI v4), (0, tA x0), (1, tI x1), (2, tI x2)] eX11_letGo_13 (z_lt hX.2 (by decide)) rfl ?_
  refine zv_iload_n K 0 eX11_letGo_14 rfl ?_
  refine zv_if_lt K 86 eX11_letGo_15 (by decide) hf (fun _ hf => ?_) (fun _ hf => ?_)
  · have e9 := Option.some.inj hf; subst e9
    exact zv_vret K eX11_letGo_86 hp
  · refine zv_aload_n K 1 eX11_letGo_18 rfl ?_
    refine zv_aload_n K 1 eX11_letGo_19 rfl ?_
    refine zv_iload_n K 2 eX11_letGo_20 rfl ?_
    refine zv_iload_n K 3 eX11_letGo_21 rfl ?_
    obtain ⟨q5, hq5, hf⟩ := z_bind_inv hf
    obtain ⟨v7, h6, eh6, hf⟩ := z_b2_inv hf
    refine zv_cV0 K [tI x1, tI x2] [tA x0] eX11_letGo_22 lk_X11_81 md_X11_cell im_X11_cell sl_X11_cell rfl rfl rfl rfl (Nat.le_of_ble_eq_true rfl) hq5 (c_X11_cell X.1.2.1 X.2.2.1 eh6) rfl rfl ⟨z_le (z_fr hX) (by decide), z_le (z_lo hX) (by decide)⟩ ⟨Nat.zero_le _, Nat.zero_le _⟩ ?_
    obtain ⟨q8, hq8, hf⟩ := z_bind_inv hf
    obtain ⟨v10, h9, eh9, hf⟩ := z_b2_inv hf
    refine zv_cV0 K [tI v7] [] eX11_letGo_25 lk_X11_97 md_X11_lyingAt im_X11_lyingAt sl_X11_lyingAt rfl rfl rfl rfl (Nat.le_of_ble_eq_true rfl) hq8 (c_X11_lyingAt X.1.2.1 X.2.2.1 eh9) rfl rfl ⟨z_le (z_fr hX) (by decide), z_le (z_lo hX) (by decide)⟩ ⟨Nat.zero_le _, Nat.zero_le _⟩ ?_
    refine zv_if_ge K 86 eX11_letGo_28 (by decide) hf (fun _ hf => ?_) (fun _ hf => ?_)
    · have e9 := Option.some.inj hf; subst e9
      exact zv_vret K eX11_letGo_86 hp
    · refine zv_aload_n K 1 eX11_letGo_31 rfl ?_
      refine zv_gA K eX11_letGo_32 fl_X11_7 hf (fun v11 hf => ?_)
      refine zv_iload_n K 2 eX11_letGo_35 rfl ?_
      refine zv_bipush K (19 : Int32) eX11_letGo_36 (by decide) ?_
      obtain ⟨v13, h12, eh12, hf⟩ := z_b2_inv hf
      refine zv_cS0 K [tI x1, tI (19 : Int32)] [tA v11] eX11_letGo_38 lk_X11_69 md_X11_of st_X11_of rfl rfl (Nat.le_of_ble_eq_true rfl) (c_X11_of X.1.2.1 X.2.2.1 eh12) rfl rfl ⟨z_le (z_fr hX) (by decide), z_le (z_lo hX) (by decide)⟩ ⟨Nat.zero_le _, Nat.zero_le _⟩ ?_
      refine zv_iload_n K 3 eX11_letGo_41 rfl ?_
      refine zv_iadd K eX11_letGo_42 ?_
      refine zv_bipush K (-4 : Int32) eX11_letGo_43 (by decide) ?_
      refine zv_sI K eX11_letGo_45 hf (fun h14 hf => ?_)
      refine zv_aload_n K 1 eX11_letGo_46 rfl ?_
      refine zv_gA K eX11_letGo_47 fl_X11_7 hf (fun v15 hf => ?_)
      refine zv_iload_n K 0 eX11_letGo_50 rfl ?_
      obtain ⟨v17, h16, eh16, hf⟩ := z_b2_inv hf
      refine zv_cS0 K [tI v4] [tA v15] eX11_letGo_51 lk_X11_84 md_X11_thingAt st_X11_thingAt rfl rfl (Nat.le_of_ble_eq_true rfl) (c_X11_thingAt X.1.2.1 X.2.2.1 eh16) rfl rfl ⟨z_le (z_fr hX) (by decide), z_le (z_lo hX) (by decide)⟩ ⟨Nat.zero_le _, Nat.zero_le _⟩ ?_
      refine zv_iconst K (0 : Int32) eX11_letGo_54 (by decide) ?_
      refine zv_sI K eX11_letGo_55 hf (fun h18 hf => ?_)
      refine zv_aload_n K 1 eX11_letGo_56 rfl ?_
      refine zv_gA K eX11_letGo_57 fl_X11_7 hf (fun v19 hf => ?_)
      refine zv_iload_n K 0 eX11_letGo_60 rfl ?_
      obtain ⟨v21, h20, eh20, hf⟩ := z_b2_inv hf
      refine zv_cS0 K [tI v4] [tA v19] eX11_letGo_61 lk_X11_84 md_X11_thingAt st_X11_thingAt rfl rfl (Nat.le_of_ble_eq_true rfl) (c_X11_thingAt X.1.2.1 X.2.2.1 eh20) rfl rfl ⟨z_le (z_fr hX) (by decide), z_le (z_lo hX) (by decide)⟩ ⟨Nat.zero_le _, Nat.zero_le _⟩ ?_
      refine zv_iconst K (1 : Int32) eX11_letGo_64 (by decide) ?_
      refine zv_iadd K eX11_letGo_65 ?_
      refine zv_aload_n K 1 eX11_letGo_66 rfl ?_
      refine zv_iload_n K 2 eX11_letGo_67 rfl ?_
      refine zv_iload_n K 3 eX11_letGo_68 rfl ?_
      obtain ⟨q22, hq22, hf⟩ := z_bind_inv hf
      obtain ⟨v24, h23, eh23, hf⟩ := z_b2_inv hf
      refine zv_cV0 K [tI x1, tI x2] [tI (v21 + (1 : Int32)), tA v19] eX11_letGo_69 lk_X11_81 md_X11_cell im_X11_cell sl_X11_cell rfl rfl rfl rfl (Nat.le_of_ble_eq_true rfl) hq22 (c_X11_cell X.1.2.1 X.2.2.1 eh23) rfl rfl ⟨z_le (z_fr hX) (by decide), z_le (z_lo hX) (by decide)⟩ ⟨Nat.zero_le _, Nat.zero_le _⟩ ?_
      refine zv_sI K eX11_letGo_72 hf (fun h25 hf => ?_)
      refine zv_aload_n K 1 eX11_letGo_73 rfl ?_
      refine zv_gA K eX11_letGo_74 fl_X11_7 hf (fun v26 hf => ?_)
      refine zv_iload_n K 0 eX11_letGo_77 rfl ?_
      obtain ⟨v28, h27, eh27, hf⟩ := z_b2_inv hf
      refine zv_cS0 K [tI v4] [tA v26] eX11_letGo_78 lk_X11_84 md_X11_thingAt st_X11_thingAt rfl rfl (Nat.le_of_ble_eq_true rfl) (c_X11_thingAt X.1.2.1 X.2.2.1 eh27) rfl rfl ⟨z_le (z_fr hX) (by decide), z_le (z_lo hX) (by decide)⟩ ⟨Nat.zero_le _, Nat.zero_le _⟩ ?_
      refine zv_iconst K (3 : Int32) eX11_letGo_81 (by decide) ?_
      refine zv_iadd K eX11_letGo_82 ?_
      refine zv_bipush K (-4 : Int32) eX11_letGo_83 (by decide) ?_
      refine zv_sI K eX11_letGo_85 hf (fun h29 hf => ?_)
      have e9 := Option.some.inj hf; subst e9
      exact zv_vret K eX11_letGo_86 hp
theorem c_X11_letGo (l : Launch) (G : zG) {x0 : Option Nat} {x1 : Int32} {x2 : Int32} {h : zH} {nx : Nat} {x : zH} (hf : f_X11_letGo x0 x1 x2 h = some x) : z_Ct l G yX11_letGo cX11_letGo 4 none rm_X11_letGo [tA x0, tI x1, tI x2] h nx none x nx 0 0 :=
  z_enter [(0, tA x0), (1, tI x1), (2, tI x2)] (by decide +kernel) (Nat.le_of_ble_eq_true rfl) rfl (fun X hl hR hG hL K hq => by
    subst hl; subst hG
    exact v_X11_letGo K ⟨hR, hL⟩ hf hq)
def P_X11_act_16 (X : zX) (nx : Nat) : ((Option Nat) × Int32 × Int32 × Int32 × Int32 × Int32 × zH) ⊕ (Int32 × zH) → Prop := z_PL (fun s => zV X 16 [(0, tA s.1), (1, tI s.2.1), (2, tI s.2.2.1), (4, tI s.2.2.2.1), (5, tI s.2.2.2.2.1), (6, tI s.2.2.2.2.2.1)] [] s.2.2.2.2.2.2 nx 0 0) (z_P0I X nx)
set_option maxHeartbeats 4000000 in
set_option maxRecDepth 100000 in
theorem v_X11_act_b224 {X : zX} (K : z_Ok X cX11_act (some .int) RX11 "act") (hX : z_Xo X rm_X11_act 9) {x0 : Option Nat} {x1 : Int32} {x2 : Int32} {x4 : Int32} {x5 : Int32} {x6 : Int32} {h : zH} {nx : Nat} {x : (((Option Nat) × Int32 × Int32 × Int32 × Int32 × Int32 × zH) ⊕ (Int32 × zH))} (hf : f_X11_act_b224 x0 x1 x2 x4 x5 x6 h = some x) (hp : P_X11_act_16 X nx x) : zV X 224 [(0, tA x0), (1, tI x1), (2, tI x2), (4, tI x4), (5, tI x5), (6, tI x6)] [] h nx 0 0 := by
  unfold f_X11_act_b224 at hf
  refine zv_iinc K (x6 + (1 : Int32)) 5 [(6, tI (x6 + (1 : Int32))), (0, tA x0), (1, tI x1), (2, tI x2), (4, tI x4), (5, tI x5)] eX11_act_224 rfl rfl (z_lt hX.2 (by decide)) rfl ?_
  refine zv_goto K 16 eX11_act_227 (by decide) ?_
  cases hf
  exact zv_sub [1, 2, 3, 4, 5, 0] rfl (show zV X 16 [(0, tA x0), (1, tI x1), (2, tI x2), (4, tI x4), (5, tI x5), (6, tI (x6 + (1 : Int32)))] [] h nx 0 0 from hp)
set_option maxHeartbeats 4000000 in
set_option maxRecDepth 100000 in
theorem v_X11_act_b223 {X : zX} (K : z_Ok X cX11_act (some .int) RX11 "act") (hX : z_Xo X rm_X11_act 9) {x0 : Option Nat} {x1 : Int32} {x2 : Int32} {x4 : Int32} {x5 : Int32} {x6 : Int32} {s0 : Option Nat} {s1 : Int32} {s2 : Int32} {h : zH} {nx : Nat} {x : (((Option Nat) × Int32 × Int32 × Int32 × Int32 × Int32 × zH) ⊕ (Int32 × zH))} (hf : f_X11_act_b223 x0 x1 x2 x4 x5 x6 s0 s1 s2 h = some x) (hp : P_X11_act_16 X nx x) : zV X 223 [(0, tA x0), (1, tI x1), (2, tI x2), (4, tI x4), (5, tI x5), (6, tI x6)] [tI s2, tI s1, tA s0] h nx 0 0 := by
  unfold f_X11_act_b223 at hf
  refine zv_sI K eX11_act_223 hf (fun h1 hf => ?_)
  exact zv_sub [0, 1, 2, 3, 4, 5] rfl (v_X11_act_b224 K hX hf hp)
set_option maxHeartbeats 4000000 in
set_option maxRecDepth 100000 in
theorem v_X11_act_b184 {X : zX} (K : z_Ok X cX11_act (some .int) RX11 "act") (hX : z_Xo X rm_X11_act 9) {x0 : Option Nat} {x1 : Int32} {x2 : Int32} {x4 : Int32} {x6 : Int32} {x7 : Int32} {x8 : Int32} {s0 : Int32} {h : zH} {nx : Nat} {x : (((Option Nat) × Int32 × Int32 × Int32 × Int32 × Int32 × zH) ⊕ (Int32 × zH))} (hf : f_X11_act_b184 x0 x1 x2 x4 x6 x7 x8 s0 h = some x) (hp : P_X11_act_16 X nx x) : zV X 184 [(0, tA x0), (1, tI x1), (2, tI x2), (4, tI x4), (6, tI x6), (7, tI x7), (8, tI x8)] [tI s0] h nx 0 0 := by
  unfold f_X11_act_b184 at hf
  refine zv_istore K [(5, tI s0), (0, tA x0), (1, tI x1), (2, tI x2), (4, tI x4), (6, tI x6), (7, tI x7), (8, tI x8)] eX11_act_184 (z_lt hX.2 (by decide)) rfl ?_
  refine zv_aload_n K 1 eX11_act_186 rfl ?_
  refine zv_gA K eX11_act_187 fl_X11_7 hf (fun v1 hf => ?_)
  refine zv_iload_n K 2 eX11_act_190 rfl ?_
  refine zv_bipush K (12 : Int32) eX11_act_191 (by decide) ?_
  obtain ⟨v3, h2, eh2, hf⟩ := z_b2_inv hf
  refine zv_cS0 K [tI x1, tI (12 : Int32)] [tA v1] eX11_act_193 lk_X11_69 md_X11_of st_X11_of rfl rfl (Nat.le_of_ble_eq_true rfl) (c_X11_of X.1.2.1 X.2.2.1 eh2) rfl rfl ⟨z_le (z_fr hX) (by decide), z_le (z_lo hX) (by decide)⟩ ⟨Nat.zero_le _, Nat.zero_le _⟩ ?_
  refine zv_iload_n K 3 eX11_act_196 rfl ?_
  refine zv_iadd K eX11_act_197 ?_
  refine zv_iload K 6 eX11_act_198 rfl ?_
  refine zv_bipush K (115 : Int32) eX11_act_200 (by decide) ?_
  refine zv_icmp_ne K 210 eX11_act_202 (by decide) hf (fun _ hf => ?_) (fun _ hf => ?_)
  · refine zv_aload_n K 1 eX11_act_210 rfl ?_
    refine zv_gA K eX11_act_211 fl_X11_7 hf (fun v4 hf => ?_)
    refine zv_iload_n K 2 eX11_act_214 rfl ?_
    refine zv_bipush K (12 : Int32) eX11_act_215 (by decide) ?_
    obtain ⟨v6, h5, eh5, hf⟩ := z_b2_inv hf
    refine zv_cS0 K [tI x1, tI (12 : Int32)] [tA v4, tI (v3 + x2), tA v1] eX11_act_217 lk_X11_69 md_X11_of st_X11_of rfl rfl (Nat.le_of_ble_eq_true rfl) (c_X11_of X.1.2.1 X.2.2.1 eh5) rfl rfl ⟨z_le (z_fr hX) (by decide), z_le (z_lo hX) (by decide)⟩ ⟨Nat.zero_le _, Nat.zero_le _⟩ ?_
    refine zv_iload_n K 3 eX11_act_220 rfl ?_
    refine zv_iadd K eX11_act_221 ?_
    refine zv_aI K eX11_act_222 hf (fun v7 hf => ?_)
    exact zv_sub [1, 2, 3, 4, 0, 5] rfl (v_X11_act_b223 K hX hf hp)
  · refine zv_iload K 7 eX11_act_205 rfl ?_
    refine zv_goto K 223 eX11_act_207 (by decide) ?_
    exact zv_sub [1, 2, 3, 4, 0, 5] rfl (v_X11_act_b223 K hX hf hp)
set_option maxHeartbeats 4000000 in
set_option maxRecDepth 100000 in
theorem v_X11_act_b100 {X : zX} (K : z_Ok X cX11_act (some .int) RX11 "act") (hX : z_Xo X rm_X11_act 9) {x0 : Option Nat} {x1 : Int32} {x2 : Int32} {x4 : Int32} {x5 : Int32} {x6 : Int32} {s0 : Option Nat} {s1 : Int32} {s2 : Int32} {h : zH} {nx : Nat} {x : (((Option Nat) × Int32 × Int32 × Int32 × Int32 × Int32 × zH) ⊕ (Int32 × zH))} (hf : f_X11_act_b100 x0 x1 x2 x4 x5 x6 s0 s1 s2 h = some x) (hp : P_X11_act_16 X nx x) : zV X 100 [(0, tA x0), (1, tI x1), (2, tI x2), (4, tI x4), (5, tI x5), (6, tI x6)] [tI s2, tI s1, tA s0] h nx 0 0 := by
  unfold f_X11_act_b100 at hf
  refine zv_sI K eX11_act_100 hf (fun h1 hf => ?_)
  refine zv_goto K 224 eX11_act_101 (by decide) ?_
  exact zv_sub [0, 1, 2, 3, 4, 5] rfl (v_X11_act_b224 K hX hf hp)
set_option maxHeartbeats 4000000 in
set_option maxRecDepth 100000 in
theorem v_X11_act_c16 {X : zX} (K : z_Ok X cX11_act (some .int) RX11 "act") (hX : z_Xo X rm_X11_act 9) {x0 : Option Nat} {x1 : Int32} {x2 : Int32} {x4 : Int32} {x5 : Int32} {x6 : Int32} {h : zH} {nx : Nat} {x : (((Option Nat) × Int32 × Int32 × Int32 × Int32 × Int32 × zH) ⊕ (Int32 × zH))} (hf : f_X11_act_c16 x0 x1 x2 x4 x5 x6 h = some x) (hp : P_X11_act_16 X nx x) : zV X 16 [(0, tA x0), (1, tI x1), (2, tI x2), (4, tI x4), (5, tI x5), (6, tI x6)] [] h nx 0 0 := by
  unfold f_X11_act_c16 at hf
  refine zv_iload K 5 eX11_act_16 rfl ?_
  refine zv_aload_n K 0 eX11_act_18 rfl ?_
  refine zv_gA K eX11_act_19 fl_X11_7 hf (fun v1 hf => ?_)
  refine zv_iload_n K 1 eX11_act_22 rfl ?_
  refine zv_iconst K (3 : Int32) eX11_act_23 (by decide) ?_
  obtain ⟨v3, h2, eh2, hf⟩ := z_b2_inv hf
  refine zv_cS0 K [tI x1, tI (3 : Int32)] [tA v1, tI x6] eX11_act_24 lk_X11_69 md_X11_of st_X11_of rfl rfl (Nat.le_of_ble_eq_true rfl) (c_X11_of X.1.2.1 X.2.2.1 eh2) rfl rfl ⟨z_le (z_fr hX) (by decide), z_le (z_lo hX) (by decide)⟩ ⟨Nat.zero_le _, Nat.zero_le _⟩ ?_
  refine zv_aI K eX11_act_27 hf (fun v4 hf => ?_)
  refine zv_icmp_ge K 230 eX11_act_28 (by decide) hf (fun _ hf => ?_) (fun _ hf => ?_)
  · obtain ⟨w9, hf9, e9⟩ := z_i1_inv hf; clear hf; subst e9; have hf := hf9; clear hf9
    refine zv_iload K 4 eX11_act_230 rfl ?_
    have e9 := Option.some.inj hf; subst e9
    exact zv_iret K eX11_act_232 hp
  · refine zv_aload_n K 0 eX11_act_31 rfl ?_
    refine zv_gA K eX11_act_32 fl_X11_7 hf (fun v5 hf => ?_)
    refine zv_iload K 3 eX11_act_35 rfl ?_
    refine zv_iload K 5 eX11_act_37 rfl ?_
    refine zv_iadd K eX11_act_39 ?_
    refine zv_aI K eX11_act_40 hf (fun v6 hf => ?_)
    refine zv_bipush K (59 : Int32) eX11_act_41 (by decide) ?_
    refine zv_icmp_eq K 230 eX11_act_43 (by decide) hf (fun _ hf => ?_) (fun _ hf => ?_)
    · obtain ⟨w9, hf9, e9⟩ := z_i1_inv hf; clear hf; subst e9; have hf := hf9; clear hf9
      refine zv_iload K 4 eX11_act_230 rfl ?_
      have e9 := Option.some.inj hf; subst e9
      exact zv_iret K eX11_act_232 hp
    · refine zv_aload_n K 0 eX11_act_46 rfl ?_
      refine zv_gA K eX11_act_47 fl_X11_7 hf (fun v7 hf => ?_)
      refine zv_iload K 3 eX11_act_50 rfl ?_
      refine zv_iload K 5 eX11_act_52 rfl ?_
      refine zv_iadd K eX11_act_54 ?_
      refine zv_aI K eX11_act_55 hf (fun v8 hf => ?_)
      refine zv_istore K [(7, tI v8), (0, tA x0), (1, tI x1), (2, tI x2), (4, tI x4), (5, tI x5), (6, tI x6)] eX11_act_56 (z_lt hX.2 (by decide)) rfl ?_
      refine zv_iload K 0 eX11_act_58 rfl ?_
      refine zv_bipush K (102 : Int32) eX11_act_60 (by decide) ?_
      refine zv_icmp_ne K 104 eX11_act_62 (by decide) hf (fun _ hf => ?_) (fun _ hf => ?_)
      · refine zv_iload K 0 eX11_act_104 rfl ?_
        refine zv_bipush K (103 : Int32) eX11_act_106 (by decide) ?_
        refine zv_icmp_ne K 120 eX11_act_108 (by decide) hf (fun _ hf => ?_) (fun _ hf => ?_)
        · refine zv_iload K 0 eX11_act_120 rfl ?_
          refine zv_bipush K (112 : Int32) eX11_act_122 (by decide) ?_
          refine zv_icmp_ne K 136 eX11_act_124 (by decide) hf (fun _ hf => ?_) (fun _ hf => ?_)
          · refine zv_iload K 0 eX11_act_136 rfl ?_
            refine zv_bipush K (100 : Int32) eX11_act_138 (by decide) ?_
            refine zv_icmp_ne K 152 eX11_act_140 (by decide) hf (fun _ hf => ?_) (fun _ hf => ?_)
            · refine zv_iinc K (x6 + (1 : Int32)) 6 [(6, tI (x6 + (1 : Int32))), (7, tI v8), (0, tA x0), (1, tI x1), (2, tI x2), (4, tI x4), (5, tI x5)] eX11_act_152 rfl rfl (z_lt hX.2 (by decide)) rfl ?_
              refine zv_aload_n K 2 eX11_act_155 rfl ?_
              refine zv_gA K eX11_act_156 fl_X11_7 hf (fun v9 hf => ?_)
              refine zv_iload K 5 eX11_act_159 rfl ?_
              refine zv_iload K 0 eX11_act_161 rfl ?_
              refine zv_iadd K eX11_act_163 ?_
              refine zv_aI K eX11_act_164 hf (fun v10 hf => ?_)
              refine zv_bipush K (48 : Int32) eX11_act_165 (by decide) ?_
              refine zv_isub K eX11_act_167 ?_
              refine zv_istore K [(8, tI (v10 - (48 : Int32))), (6, tI (x6 + (1 : Int32))), (7, tI v8), (0, tA x0), (1, tI x1), (2, tI x2), (4, tI x4), (5, tI x5)] eX11_act_168 (z_lt hX.2 (by decide)) rfl ?_
              refine zv_iload K 2 eX11_act_170 rfl ?_
              refine zv_bipush K (111 : Int32) eX11_act_172 (by decide) ?_
              refine zv_icmp_ne K 182 eX11_act_174 (by decide) hf (fun _ hf => ?_) (fun _ hf => ?_)
              · refine zv_iload K 7 eX11_act_182 rfl ?_
                exact zv_sub [3, 4, 5, 6, 1, 2, 0] rfl (v_X11_act_b184 K hX hf hp)
              · refine zv_iload K 0 eX11_act_177 rfl ?_
                refine zv_goto K 184 eX11_act_179 (by decide) ?_
                exact zv_sub [3, 4, 5, 6, 1, 2, 0] rfl (v_X11_act_b184 K hX hf hp)
            · refine zv_aload_n K 1 eX11_act_143 rfl ?_
              refine zv_iload_n K 2 eX11_act_144 rfl ?_
              refine zv_iload_n K 3 eX11_act_145 rfl ?_
              obtain ⟨q11, hq11, hf⟩ := z_bind_inv hf
              obtain ⟨h12, eh12, hf⟩ := z_bind_inv hf
              refine zv_cV0 K [tI x1, tI x2] [] eX11_act_146 lk_X11_166 md_X11_letGo im_X11_letGo sl_X11_letGo rfl rfl rfl rfl (Nat.le_of_ble_eq_true rfl) hq11 (c_X11_letGo X.1.2.1 X.2.2.1 eh12) rfl rfl ⟨z_le (z_fr hX) (by decide), z_le (z_lo hX) (by decide)⟩ ⟨Nat.zero_le _, Nat.zero_le _⟩ ?_
              refine zv_goto K 224 eX11_act_149 (by decide) ?_
              exact zv_sub [1, 2, 3, 4, 5, 6] rfl (v_X11_act_b224 K hX hf hp)
          · refine zv_aload_n K 1 eX11_act_127 rfl ?_
            refine zv_iload_n K 2 eX11_act_128 rfl ?_
            refine zv_iload_n K 3 eX11_act_129 rfl ?_
            obtain ⟨q13, hq13, hf⟩ := z_bind_inv hf
            obtain ⟨h14, eh14, hf⟩ := z_bind_inv hf
            refine zv_cV0 K [tI x1, tI x2] [] eX11_act_130 lk_X11_163 md_X11_pass im_X11_pass sl_X11_pass rfl rfl rfl rfl (Nat.le_of_ble_eq_true rfl) hq13 (c_X11_pass X.1.2.1 X.2.2.1 eh14) rfl rfl ⟨z_le (z_fr hX) (by decide), z_le (z_lo hX) (by decide)⟩ ⟨Nat.zero_le _, Nat.zero_le _⟩ ?_
            refine zv_goto K 224 eX11_act_133 (by decide) ?_
            exact zv_sub [1, 2, 3, 4, 5, 6] rfl (v_X11_act_b224 K hX hf hp)
        · refine zv_aload_n K 1 eX11_act_111 rfl ?_
          refine zv_iload_n K 2 eX11_act_112 rfl ?_
          refine zv_iload_n K 3 eX11_act_113 rfl ?_
          obtain ⟨q15, hq15, hf⟩ := z_bind_inv hf
          obtain ⟨h16, eh16, hf⟩ := z_bind_inv hf
          refine zv_cV0 K [tI x1, tI x2] [] eX11_act_114 lk_X11_159 md_X11_grab im_X11_grab sl_X11_grab rfl rfl rfl rfl (Nat.le_of_ble_eq_true rfl) hq15 (c_X11_grab X.1.2.1 X.2.2.1 eh16) rfl rfl ⟨z_le (z_fr hX) (by decide), z_le (z_lo hX) (by decide)⟩ ⟨Nat.zero_le _, Nat.zero_le _⟩ ?_
          refine zv_goto K 224 eX11_act_117 (by decide) ?_
          exact zv_sub [1, 2, 3, 4, 5, 6] rfl (v_X11_act_b224 K hX hf hp)
      · refine zv_aload_n K 1 eX11_act_65 rfl ?_
        refine zv_iload_n K 2 eX11_act_66 rfl ?_
        refine zv_iload_n K 3 eX11_act_67 rfl ?_
        obtain ⟨q17, hq17, hf⟩ := z_bind_inv hf
        obtain ⟨v19, h18, eh18, hf⟩ := z_b2_inv hf
        refine zv_cV0 K [tI x1, tI x2] [] eX11_act_68 lk_X11_130 md_X11_goesTo im_X11_goesTo sl_X11_goesTo rfl rfl rfl rfl (Nat.le_of_ble_eq_true rfl) hq17 (c_X11_goesTo X.1.2.1 X.2.2.1 eh18) rfl rfl ⟨z_le (z_fr hX) (by decide), z_le (z_lo hX) (by decide)⟩ ⟨Nat.zero_le _, Nat.zero_le _⟩ ?_
        refine zv_istore K [(8, tI v19), (7, tI v8), (0, tA x0), (1, tI x1), (2, tI x2), (4, tI x4), (5, tI x5), (6, tI x6)] eX11_act_71 (z_lt hX.2 (by decide)) rfl ?_
        refine zv_aload_n K 2 eX11_act_73 rfl ?_
        refine zv_gA K eX11_act_74 fl_X11_7 hf (fun v20 hf => ?_)
        refine zv_iload_n K 3 eX11_act_77 rfl ?_
        refine zv_iconst K (5 : Int32) eX11_act_78 (by decide) ?_
        obtain ⟨v22, h21, eh21, hf⟩ := z_b2_inv hf
        refine zv_cS0 K [tI x1, tI (5 : Int32)] [tA v20] eX11_act_79 lk_X11_69 md_X11_of st_X11_of rfl rfl (Nat.le_of_ble_eq_true rfl) (c_X11_of X.1.2.1 X.2.2.1 eh21) rfl rfl ⟨z_le (z_fr hX) (by decide), z_le (z_lo hX) (by decide)⟩ ⟨Nat.zero_le _, Nat.zero_le _⟩ ?_
        refine zv_iload_n K 4 eX11_act_82 rfl ?_
        refine zv_iadd K eX11_act_83 ?_
        refine zv_iload K 0 eX11_act_84 rfl ?_
        refine zv_if_ge K 98 eX11_act_86 (by decide) hf (fun _ hf => ?_) (fun _ hf => ?_)
        · refine zv_iload K 0 eX11_act_98 rfl ?_
          exact zv_sub [2, 3, 4, 5, 6, 7] rfl (v_X11_act_b100 K hX hf hp)
        · refine zv_aload_n K 2 eX11_act_89 rfl ?_
          refine zv_iload_n K 3 eX11_act_90 rfl ?_
          refine zv_iload_n K 4 eX11_act_91 rfl ?_
          obtain ⟨q23, hq23, hf⟩ := z_bind_inv hf
          obtain ⟨v25, h24, eh24, hf⟩ := z_b2_inv hf
          refine zv_cV0 K [tI x1, tI x2] [tI (v22 + x2), tA v20] eX11_act_92 lk_X11_81 md_X11_cell im_X11_cell sl_X11_cell rfl rfl rfl rfl (Nat.le_of_ble_eq_true rfl) hq23 (c_X11_cell X.1.2.1 X.2.2.1 eh24) rfl rfl ⟨z_le (z_fr hX) (by decide), z_le (z_lo hX) (by decide)⟩ ⟨Nat.zero_le _, Nat.zero_le _⟩ ?_
          refine zv_goto K 100 eX11_act_95 (by decide) ?_
          exact zv_sub [2, 3, 4, 5, 6, 7] rfl (v_X11_act_b100 K hX hf hp)
theorem v_X11_act_b16 {X : zX} (K : z_Ok X cX11_act (some .int) RX11 "act") (hX : z_Xo X rm_X11_act 9) {x0 : Option Nat} {x1 : Int32} {x2 : Int32} {x4 : Int32} {x5 : Int32} {x6 : Int32} {h : zH} {nx : Nat} {x : (Int32 × zH)} (hf : f_X11_act_b16 x0 x1 x2 x4 x5 x6 h = some x) (hp : z_P0I X nx x) : zV X 16 [(0, tA x0), (1, tI x1), (2, tI x2), (4, tI x4), (5, tI x5), (6, tI x6)] [] h nx 0 0 :=
  z_it_ind (P := fun s : (Option Nat) × Int32 × Int32 × Int32 × Int32 × Int32 × zH => zV X 16 [(0, tA s.1), (1, tI s.2.1), (2, tI s.2.2.1), (4, tI s.2.2.2.1), (5, tI s.2.2.2.2.1), (6, tI s.2.2.2.2.2.1)] [] s.2.2.2.2.2.2 nx 0 0) (fun s y hb hy => v_X11_act_c16 K hX hb (z_PL_of hy hp)) hf
set_option maxHeartbeats 4000000 in
set_option maxRecDepth 100000 in
theorem v_X11_act {X : zX} (K : z_Ok X cX11_act (some .int) RX11 "act") (hX : z_Xo X rm_X11_act 9) {x0 : Option Nat} {x1 : Int32} {x2 : Int32} {x3 : Int32} {h : zH} {nx : Nat} {x : (Int32 × zH)} (hf : f_X11_act x0 x1 x2 x3 h = some x) (hp : z_P0I X nx x) : zV X 0 [(0, tA x0), (1, tI x1), (2, tI x2), (3, tI x3)] [] h nx 0 0 := by
  unfold f_X11_act at hf
  refine zv_sipush K (190 : Int32) eX11_act_0 (by decide) ?_
  refine zv_bipush K (100 : Int32) eX11_act_3 (by decide) ?_
  refine zv_iload_n K 1 eX11_act_5 rfl ?_
  refine zv_imul K eX11_act_6 ?_
  refine zv_iadd K eX11_act_7 ?_
  refine zv_istore K [(4, tI ((190 : Int32) + ((100 : Int32) * x1))), (0, tA x0), (1, tI x1), (2, tI x2), (3, tI x3)] eX11_act_8 (z_lt hX.2 (by decide)) rfl ?_
  refine zv_iconst K (0 : Int32) eX11_act_10 (by decide) ?_
  refine zv_istore K [(5, tI (0 : Int32)), (4, tI ((190 : Int32) + ((100 : Int32) * x1))), (0, tA x0), (1, tI x1), (2, tI x2), (3, tI x3)] eX11_act_11 (z_lt hX.2 (by decide)) rfl ?_
  refine zv_iload_n K 5 eX11_act_13 rfl ?_
  refine zv_istore K [(6, tI x3), (5, tI (0 : Int32)), (4, tI ((190 : Int32) + ((100 : Int32) * x1))), (0, tA x0), (1, tI x1), (2, tI x2), (3, tI x3)] eX11_act_14 (z_lt hX.2 (by decide)) rfl ?_
  exact zv_sub [3, 4, 5, 2, 1, 0] rfl (v_X11_act_b16 K hX hf hp)
theorem c_X11_act (l : Launch) (G : zG) {x0 : Option Nat} {x1 : Int32} {x2 : Int32} {x3 : Int32} {h : zH} {nx : Nat} {x : Int32 × zH} (hf : f_X11_act x0 x1 x2 x3 h = some x) : z_Ct l G yX11_act cX11_act 9 (some .int) rm_X11_act [tA x0, tI x1, tI x2, tI x3] h nx (some (tI x.1)) x.2 nx 0 0 :=
  z_enter [(0, tA x0), (1, tI x1), (2, tI x2), (3, tI x3)] (by decide +kernel) (Nat.le_of_ble_eq_true rfl) rfl (fun X hl hR hG hL K hq => by
    subst hl; subst hG
    exact v_X11_act K ⟨hR, hL⟩ hf hq)
def P_X11_tick_76 (X : zX) (nx : Nat) : ((Option Nat) × Int32 × zH) ⊕ (zH) → Prop := z_PL (fun s => zV X 76 [(0, tA s.1), (1, tI s.2.1)] [] s.2.2 nx 0 0) (z_P0V X nx)
def P_X11_tick_2 (X : zX) (nx : Nat) : ((Option Nat) × Int32 × zH) ⊕ (zH) → Prop := z_PL (fun s => zV X 2 [(0, tA s.1), (1, tI s.2.1)] [] s.2.2 nx 0 0) (z_P0V X nx)
def P_X11_tick_110 (X : zX) (nx : Nat) : ((Option Nat) × Int32 × Int32 × zH) ⊕ (((Option Nat) × Int32 × zH) ⊕ (zH)) → Prop := z_PL (fun s => zV X 110 [(0, tA s.1), (1, tI s.2.1), (2, tI s.2.2.1)] [] s.2.2.2 nx 0 0) (P_X11_tick_76 X nx)
def P_X11_tick_15 (X : zX) (nx : Nat) : ((Option Nat) × Int32 × Int32 × zH) ⊕ (((Option Nat) × Int32 × zH) ⊕ (zH)) → Prop := z_PL (fun s => zV X 15 [(0, tA s.1), (1, tI s.2.1), (2, tI s.2.2.1)] [] s.2.2.2 nx 0 0) (P_X11_tick_2 X nx)
set_option maxHeartbeats 4000000 in
set_option maxRecDepth 100000 in
theorem v_X11_tick_b166 {X : zX} (K : z_Ok X cX11_tick none RX11 "tick") (hX : z_Xo X rm_X11_tick 3) {x0 : Option Nat} {x1 : Int32} {x2 : Int32} {s0 : Option Nat} {s1 : Int32} {s2 : Int32} {h : zH} {nx : Nat} {x : (((Option Nat) × Int32 × Int32 × zH) ⊕ (((Option Nat) × Int32 × zH) ⊕ (zH)))} (hf : f_X11_tick_b166 x0 x1 x2 s0 s1 s2 h = some x) (hp : P_X11_tick_110 X nx x) : zV X 166 [(0, tA x0), (1, tI x1), (2, tI x2)] [tI s2, tI s1, tA s0] h nx 0 0 := by
  unfold f_X11_tick_b166 at hf
  refine zv_sI K eX11_tick_166 hf (fun h1 hf => ?_)
  refine zv_iinc K (x2 + (1 : Int32)) 2 [(2, tI (x2 + (1 : Int32))), (0, tA x0), (1, tI x1)] eX11_tick_167 rfl rfl (z_lt hX.2 (by decide)) rfl ?_
  refine zv_goto K 110 eX11_tick_170 (by decide) ?_
  cases hf
  exact zv_sub [1, 2, 0] rfl (show zV X 110 [(0, tA x0), (1, tI x1), (2, tI (x2 + (1 : Int32)))] [] h1 nx 0 0 from hp)
set_option maxHeartbeats 4000000 in
set_option maxRecDepth 100000 in
theorem v_X11_tick_c110 {X : zX} (K : z_Ok X cX11_tick none RX11 "tick") (hX : z_Xo X rm_X11_tick 3) {x0 : Option Nat} {x1 : Int32} {x2 : Int32} {h : zH} {nx : Nat} {x : (((Option Nat) × Int32 × Int32 × zH) ⊕ (((Option Nat) × Int32 × zH) ⊕ (zH)))} (hf : f_X11_tick_c110 x0 x1 x2 h = some x) (hp : P_X11_tick_110 X nx x) : zV X 110 [(0, tA x0), (1, tI x1), (2, tI x2)] [] h nx 0 0 := by
  unfold f_X11_tick_c110 at hf
  refine zv_iload_n K 2 eX11_tick_110 rfl ?_
  refine zv_aload_n K 0 eX11_tick_111 rfl ?_
  refine zv_iload_n K 1 eX11_tick_112 rfl ?_
  obtain ⟨q1, hq1, hf⟩ := z_bind_inv hf
  obtain ⟨v3, h2, eh2, hf⟩ := z_b2_inv hf
  refine zv_cV0 K [tI x1] [tI x2] eX11_tick_113 lk_X11_77 md_X11_pieces im_X11_pieces sl_X11_pieces rfl rfl rfl rfl (Nat.le_of_ble_eq_true rfl) hq1 (c_X11_pieces X.1.2.1 X.2.2.1 eh2) rfl rfl ⟨z_le (z_fr hX) (by decide), z_le (z_lo hX) (by decide)⟩ ⟨Nat.zero_le _, Nat.zero_le _⟩ ?_
  refine zv_icmp_ge K 173 eX11_tick_116 (by decide) hf (fun _ hf => ?_) (fun _ hf => ?_)
  · obtain ⟨w9, hf9, e9⟩ := z_i1_inv hf; clear hf; subst e9; have hf := hf9; clear hf9
    refine zv_iinc K (x1 + (1 : Int32)) 1 [(1, tI (x1 + (1 : Int32))), (0, tA x0), (2, tI x2)] eX11_tick_173 rfl rfl (z_lt hX.2 (by decide)) rfl ?_
    refine zv_goto K 76 eX11_tick_176 (by decide) ?_
    cases hf
    exact zv_sub [1, 0] rfl (show zV X 76 [(0, tA x0), (1, tI (x1 + (1 : Int32)))] [] h2 nx 0 0 from hp)
  · refine zv_aload_n K 0 eX11_tick_119 rfl ?_
    refine zv_gA K eX11_tick_120 fl_X11_7 hf (fun v4 hf => ?_)
    refine zv_iload_n K 1 eX11_tick_123 rfl ?_
    refine zv_bipush K (26 : Int32) eX11_tick_124 (by decide) ?_
    obtain ⟨v6, h5, eh5, hf⟩ := z_b2_inv hf
    refine zv_cS0 K [tI x1, tI (26 : Int32)] [tA v4] eX11_tick_126 lk_X11_69 md_X11_of st_X11_of rfl rfl (Nat.le_of_ble_eq_true rfl) (c_X11_of X.1.2.1 X.2.2.1 eh5) rfl rfl ⟨z_le (z_fr hX) (by decide), z_le (z_lo hX) (by decide)⟩ ⟨Nat.zero_le _, Nat.zero_le _⟩ ?_
    refine zv_iload_n K 2 eX11_tick_129 rfl ?_
    refine zv_iadd K eX11_tick_130 ?_
    refine zv_aload_n K 0 eX11_tick_131 rfl ?_
    refine zv_gA K eX11_tick_132 fl_X11_47 hf (fun v7 hf => ?_)
    refine zv_bipush K (7 : Int32) eX11_tick_135 (by decide) ?_
    refine zv_iload_n K 1 eX11_tick_137 rfl ?_
    refine zv_imul K eX11_tick_138 ?_
    refine zv_iload_n K 2 eX11_tick_139 rfl ?_
    refine zv_iadd K eX11_tick_140 ?_
    refine zv_aI K eX11_tick_141 hf (fun v8 hf => ?_)
    refine zv_if_ge K 149 eX11_tick_142 (by decide) hf (fun _ hf => ?_) (fun _ hf => ?_)
    · refine zv_aload_n K 0 eX11_tick_149 rfl ?_
      refine zv_iload_n K 1 eX11_tick_150 rfl ?_
      refine zv_iload_n K 2 eX11_tick_151 rfl ?_
      refine zv_aload_n K 0 eX11_tick_152 rfl ?_
      refine zv_gA K eX11_tick_153 fl_X11_47 hf (fun v9 hf => ?_)
      refine zv_bipush K (7 : Int32) eX11_tick_156 (by decide) ?_
      refine zv_iload_n K 1 eX11_tick_158 rfl ?_
      refine zv_imul K eX11_tick_159 ?_
      refine zv_iload_n K 2 eX11_tick_160 rfl ?_
      refine zv_iadd K eX11_tick_161 ?_
      refine zv_aI K eX11_tick_162 hf (fun v10 hf => ?_)
      obtain ⟨q11, hq11, hf⟩ := z_bind_inv hf
      obtain ⟨v13, h12, eh12, hf⟩ := z_b2_inv hf
      refine zv_cV0 K [tI x1, tI x2, tI v10] [tI (v6 + x2), tA v4] eX11_tick_163 lk_X11_172 md_X11_act im_X11_act sl_X11_act rfl rfl rfl rfl (Nat.le_of_ble_eq_true rfl) hq11 (c_X11_act X.1.2.1 X.2.2.1 eh12) rfl rfl ⟨z_le (z_fr hX) (by decide), z_le (z_lo hX) (by decide)⟩ ⟨Nat.zero_le _, Nat.zero_le _⟩ ?_
      exact zv_sub [0, 1, 2] rfl (v_X11_tick_b166 K hX hf hp)
    · refine zv_iconst K (0 : Int32) eX11_tick_145 (by decide) ?_
      refine zv_goto K 166 eX11_tick_146 (by decide) ?_
      exact zv_sub [0, 1, 2] rfl (v_X11_tick_b166 K hX hf hp)
theorem v_X11_tick_b110 {X : zX} (K : z_Ok X cX11_tick none RX11 "tick") (hX : z_Xo X rm_X11_tick 3) {x0 : Option Nat} {x1 : Int32} {x2 : Int32} {h : zH} {nx : Nat} {x : (((Option Nat) × Int32 × zH) ⊕ (zH))} (hf : f_X11_tick_b110 x0 x1 x2 h = some x) (hp : P_X11_tick_76 X nx x) : zV X 110 [(0, tA x0), (1, tI x1), (2, tI x2)] [] h nx 0 0 :=
  z_it_ind (P := fun s : (Option Nat) × Int32 × Int32 × zH => zV X 110 [(0, tA s.1), (1, tI s.2.1), (2, tI s.2.2.1)] [] s.2.2.2 nx 0 0) (fun s y hb hy => v_X11_tick_c110 K hX hb (z_PL_of hy hp)) hf
set_option maxHeartbeats 4000000 in
set_option maxRecDepth 100000 in
theorem v_X11_tick_c76 {X : zX} (K : z_Ok X cX11_tick none RX11 "tick") (hX : z_Xo X rm_X11_tick 3) {x0 : Option Nat} {x1 : Int32} {h : zH} {nx : Nat} {x : (((Option Nat) × Int32 × zH) ⊕ (zH))} (hf : f_X11_tick_c76 x0 x1 h = some x) (hp : P_X11_tick_76 X nx x) : zV X 76 [(0, tA x0), (1, tI x1)] [] h nx 0 0 := by
  unfold f_X11_tick_c76 at hf
  refine zv_iload_n K 1 eX11_tick_76 rfl ?_
  refine zv_aload_n K 0 eX11_tick_77 rfl ?_
  refine zv_gA K eX11_tick_78 fl_X11_7 hf (fun v1 hf => ?_)
  refine zv_bipush K (64 : Int32) eX11_tick_81 (by decide) ?_
  refine zv_aI K eX11_tick_83 hf (fun v2 hf => ?_)
  refine zv_icmp_ge K 179 eX11_tick_84 (by decide) hf (fun _ hf => ?_) (fun _ hf => ?_)
  · obtain ⟨w9, hf9, e9⟩ := z_i1_inv hf; clear hf; subst e9; have hf := hf9; clear hf9
    refine zv_aload_n K 0 eX11_tick_179 rfl ?_
    refine zv_gA K eX11_tick_180 fl_X11_7 hf (fun v3 hf => ?_)
    refine zv_bipush K (67 : Int32) eX11_tick_183 (by decide) ?_
    refine zv_dup2 K eX11_tick_185 rfl rfl ?_
    refine zv_aI K eX11_tick_186 hf (fun v4 hf => ?_)
    refine zv_iconst K (1 : Int32) eX11_tick_187 (by decide) ?_
    refine zv_iadd K eX11_tick_188 ?_
    refine zv_sI K eX11_tick_189 hf (fun h5 hf => ?_)
    have e9 := Option.some.inj hf; subst e9
    exact zv_vret K eX11_tick_190 hp
  · refine zv_aload_n K 0 eX11_tick_87 rfl ?_
    refine zv_gA K eX11_tick_88 fl_X11_7 hf (fun v6 hf => ?_)
    refine zv_iload_n K 1 eX11_tick_91 rfl ?_
    refine zv_bipush K (26 : Int32) eX11_tick_92 (by decide) ?_
    obtain ⟨v8, h7, eh7, hf⟩ := z_b2_inv hf
    refine zv_cS0 K [tI x1, tI (26 : Int32)] [tA v6] eX11_tick_94 lk_X11_69 md_X11_of st_X11_of rfl rfl (Nat.le_of_ble_eq_true rfl) (c_X11_of X.1.2.1 X.2.2.1 eh7) rfl rfl ⟨z_le (z_fr hX) (by decide), z_le (z_lo hX) (by decide)⟩ ⟨Nat.zero_le _, Nat.zero_le _⟩ ?_
    refine zv_aload_n K 0 eX11_tick_97 rfl ?_
    refine zv_gA K eX11_tick_98 fl_X11_7 hf (fun v9 hf => ?_)
    refine zv_iload_n K 1 eX11_tick_101 rfl ?_
    refine zv_iconst K (2 : Int32) eX11_tick_102 (by decide) ?_
    obtain ⟨v11, h10, eh10, hf⟩ := z_b2_inv hf
    refine zv_cS0 K [tI x1, tI (2 : Int32)] [tA v9, tI v8, tA v6] eX11_tick_103 lk_X11_69 md_X11_of st_X11_of rfl rfl (Nat.le_of_ble_eq_true rfl) (c_X11_of X.1.2.1 X.2.2.1 eh10) rfl rfl ⟨z_le (z_fr hX) (by decide), z_le (z_lo hX) (by decide)⟩ ⟨Nat.zero_le _, Nat.zero_le _⟩ ?_
    refine zv_aI K eX11_tick_106 hf (fun v12 hf => ?_)
    refine zv_sI K eX11_tick_107 hf (fun h13 hf => ?_)
    refine zv_iconst K (1 : Int32) eX11_tick_108 (by decide) ?_
    refine zv_istore_n K [(2, tI (1 : Int32)), (0, tA x0), (1, tI x1)] eX11_tick_109 (z_lt hX.2 (by decide)) rfl ?_
    exact zv_sub [1, 2, 0] rfl (v_X11_tick_b110 K hX hf hp)
theorem v_X11_tick_b76 {X : zX} (K : z_Ok X cX11_tick none RX11 "tick") (hX : z_Xo X rm_X11_tick 3) {x0 : Option Nat} {x1 : Int32} {h : zH} {nx : Nat} {x : (zH)} (hf : f_X11_tick_b76 x0 x1 h = some x) (hp : z_P0V X nx x) : zV X 76 [(0, tA x0), (1, tI x1)] [] h nx 0 0 :=
  z_it_ind (P := fun s : (Option Nat) × Int32 × zH => zV X 76 [(0, tA s.1), (1, tI s.2.1)] [] s.2.2 nx 0 0) (fun s y hb hy => v_X11_tick_c76 K hX hb (z_PL_of hy hp)) hf
set_option maxHeartbeats 4000000 in
set_option maxRecDepth 100000 in
theorem v_X11_tick_b61 {X : zX} (K : z_Ok X cX11_tick none RX11 "tick") (hX : z_Xo X rm_X11_tick 3) {x0 : Option Nat} {x1 : Int32} {x2 : Int32} {s0 : Option Nat} {s1 : Int32} {s2 : Int32} {h : zH} {nx : Nat} {x : (((Option Nat) × Int32 × Int32 × zH) ⊕ (((Option Nat) × Int32 × zH) ⊕ (zH)))} (hf : f_X11_tick_b61 x0 x1 x2 s0 s1 s2 h = some x) (hp : P_X11_tick_15 X nx x) : zV X 61 [(0, tA x0), (1, tI x1), (2, tI x2)] [tI s2, tI s1, tA s0] h nx 0 0 := by
  unfold f_X11_tick_b61 at hf
  refine zv_sI K eX11_tick_61 hf (fun h1 hf => ?_)
  refine zv_iinc K (x2 + (1 : Int32)) 2 [(2, tI (x2 + (1 : Int32))), (0, tA x0), (1, tI x1)] eX11_tick_62 rfl rfl (z_lt hX.2 (by decide)) rfl ?_
  refine zv_goto K 15 eX11_tick_65 (by decide) ?_
  cases hf
  exact zv_sub [1, 2, 0] rfl (show zV X 15 [(0, tA x0), (1, tI x1), (2, tI (x2 + (1 : Int32)))] [] h1 nx 0 0 from hp)
set_option maxHeartbeats 4000000 in
set_option maxRecDepth 100000 in
theorem v_X11_tick_b52 {X : zX} (K : z_Ok X cX11_tick none RX11 "tick") (hX : z_Xo X rm_X11_tick 3) {x0 : Option Nat} {x1 : Int32} {x2 : Int32} {s0 : Option Nat} {s1 : Int32} {h : zH} {nx : Nat} {x : (((Option Nat) × Int32 × Int32 × zH) ⊕ (((Option Nat) × Int32 × zH) ⊕ (zH)))} (hf : f_X11_tick_b52 x0 x1 x2 s0 s1 h = some x) (hp : P_X11_tick_15 X nx x) : zV X 52 [(0, tA x0), (1, tI x1), (2, tI x2)] [tI s1, tA s0] h nx 0 0 := by
  unfold f_X11_tick_b52 at hf
  refine zv_bipush K (-4 : Int32) eX11_tick_52 (by decide) ?_
  refine zv_goto K 61 eX11_tick_54 (by decide) ?_
  exact zv_sub [0, 1, 2] rfl (v_X11_tick_b61 K hX hf hp)
set_option maxHeartbeats 4000000 in
set_option maxRecDepth 100000 in
theorem v_X11_tick_c15 {X : zX} (K : z_Ok X cX11_tick none RX11 "tick") (hX : z_Xo X rm_X11_tick 3) {x0 : Option Nat} {x1 : Int32} {x2 : Int32} {h : zH} {nx : Nat} {x : (((Option Nat) × Int32 × Int32 × zH) ⊕ (((Option Nat) × Int32 × zH) ⊕ (zH)))} (hf : f_X11_tick_c15 x0 x1 x2 h = some x) (hp : P_X11_tick_15 X nx x) : zV X 15 [(0, tA x0), (1, tI x1), (2, tI x2)] [] h nx 0 0 := by
  unfold f_X11_tick_c15 at hf
  refine zv_iload_n K 2 eX11_tick_15 rfl ?_
  refine zv_aload_n K 0 eX11_tick_16 rfl ?_
  refine zv_iload_n K 1 eX11_tick_17 rfl ?_
  obtain ⟨q1, hq1, hf⟩ := z_bind_inv hf
  obtain ⟨v3, h2, eh2, hf⟩ := z_b2_inv hf
  refine zv_cV0 K [tI x1] [tI x2] eX11_tick_18 lk_X11_77 md_X11_pieces im_X11_pieces sl_X11_pieces rfl rfl rfl rfl (Nat.le_of_ble_eq_true rfl) hq1 (c_X11_pieces X.1.2.1 X.2.2.1 eh2) rfl rfl ⟨z_le (z_fr hX) (by decide), z_le (z_lo hX) (by decide)⟩ ⟨Nat.zero_le _, Nat.zero_le _⟩ ?_
  refine zv_icmp_ge K 68 eX11_tick_21 (by decide) hf (fun _ hf => ?_) (fun _ hf => ?_)
  · obtain ⟨w9, hf9, e9⟩ := z_i1_inv hf; clear hf; subst e9; have hf := hf9; clear hf9
    refine zv_iinc K (x1 + (1 : Int32)) 1 [(1, tI (x1 + (1 : Int32))), (0, tA x0), (2, tI x2)] eX11_tick_68 rfl rfl (z_lt hX.2 (by decide)) rfl ?_
    refine zv_goto K 2 eX11_tick_71 (by decide) ?_
    cases hf
    exact zv_sub [1, 0] rfl (show zV X 2 [(0, tA x0), (1, tI (x1 + (1 : Int32)))] [] h2 nx 0 0 from hp)
  · refine zv_aload_n K 0 eX11_tick_24 rfl ?_
    refine zv_gA K eX11_tick_25 fl_X11_47 hf (fun v4 hf => ?_)
    refine zv_bipush K (7 : Int32) eX11_tick_28 (by decide) ?_
    refine zv_iload_n K 1 eX11_tick_30 rfl ?_
    refine zv_imul K eX11_tick_31 ?_
    refine zv_iload_n K 2 eX11_tick_32 rfl ?_
    refine zv_iadd K eX11_tick_33 ?_
    refine zv_aload_n K 0 eX11_tick_34 rfl ?_
    refine zv_iload_n K 1 eX11_tick_35 rfl ?_
    refine zv_iload_n K 2 eX11_tick_36 rfl ?_
    obtain ⟨q5, hq5, hf⟩ := z_bind_inv hf
    obtain ⟨v7, h6, eh6, hf⟩ := z_b2_inv hf
    refine zv_cV0 K [tI x1, tI x2] [tI (((7 : Int32) * x1) + x2), tA v4] eX11_tick_37 lk_X11_169 md_X11_findsOf im_X11_findsOf sl_X11_findsOf rfl rfl rfl rfl (Nat.le_of_ble_eq_true rfl) hq5 (c_X11_findsOf X.1.2.1 X.2.2.1 eh6) rfl rfl ⟨z_le (z_fr hX) (by decide), z_le (z_lo hX) (by decide)⟩ ⟨Nat.zero_le _, Nat.zero_le _⟩ ?_
    refine zv_if_lt K 52 eX11_tick_40 (by decide) hf (fun _ hf => ?_) (fun _ hf => ?_)
    · exact zv_sub [0, 1, 2] rfl (v_X11_tick_b52 K hX hf hp)
    · refine zv_iload_n K 2 eX11_tick_43 rfl ?_
      refine zv_aload_n K 0 eX11_tick_44 rfl ?_
      refine zv_iload_n K 1 eX11_tick_45 rfl ?_
      obtain ⟨q8, hq8, hf⟩ := z_bind_inv hf
      obtain ⟨v10, h9, eh9, hf⟩ := z_b2_inv hf
      refine zv_cV0 K [tI x1] [tI x2, tI (((7 : Int32) * x1) + x2), tA v4] eX11_tick_46 lk_X11_109 md_X11_cutOf im_X11_cutOf sl_X11_cutOf rfl rfl rfl rfl (Nat.le_of_ble_eq_true rfl) hq8 (c_X11_cutOf X.1.2.1 X.2.2.1 eh9) rfl rfl ⟨z_le (z_fr hX) (by decide), z_le (z_lo hX) (by decide)⟩ ⟨Nat.zero_le _, Nat.zero_le _⟩ ?_
      refine zv_icmp_ne K 57 eX11_tick_49 (by decide) hf (fun _ hf => ?_) (fun _ hf => ?_)
      · refine zv_aload_n K 0 eX11_tick_57 rfl ?_
        refine zv_gI K eX11_tick_58 fl_X11_149 hf (fun v11 hf => ?_)
        exact zv_sub [0, 1, 2] rfl (v_X11_tick_b61 K hX hf hp)
      · exact zv_sub [0, 1, 2] rfl (v_X11_tick_b52 K hX hf hp)
theorem v_X11_tick_b15 {X : zX} (K : z_Ok X cX11_tick none RX11 "tick") (hX : z_Xo X rm_X11_tick 3) {x0 : Option Nat} {x1 : Int32} {x2 : Int32} {h : zH} {nx : Nat} {x : (((Option Nat) × Int32 × zH) ⊕ (zH))} (hf : f_X11_tick_b15 x0 x1 x2 h = some x) (hp : P_X11_tick_2 X nx x) : zV X 15 [(0, tA x0), (1, tI x1), (2, tI x2)] [] h nx 0 0 :=
  z_it_ind (P := fun s : (Option Nat) × Int32 × Int32 × zH => zV X 15 [(0, tA s.1), (1, tI s.2.1), (2, tI s.2.2.1)] [] s.2.2.2 nx 0 0) (fun s y hb hy => v_X11_tick_c15 K hX hb (z_PL_of hy hp)) hf
set_option maxHeartbeats 4000000 in
set_option maxRecDepth 100000 in
theorem v_X11_tick_c2 {X : zX} (K : z_Ok X cX11_tick none RX11 "tick") (hX : z_Xo X rm_X11_tick 3) {x0 : Option Nat} {x1 : Int32} {h : zH} {nx : Nat} {x : (((Option Nat) × Int32 × zH) ⊕ (zH))} (hf : f_X11_tick_c2 x0 x1 h = some x) (hp : P_X11_tick_2 X nx x) : zV X 2 [(0, tA x0), (1, tI x1)] [] h nx 0 0 := by
  unfold f_X11_tick_c2 at hf
  refine zv_iload_n K 1 eX11_tick_2 rfl ?_
  refine zv_aload_n K 0 eX11_tick_3 rfl ?_
  refine zv_gA K eX11_tick_4 fl_X11_7 hf (fun v1 hf => ?_)
  refine zv_bipush K (64 : Int32) eX11_tick_7 (by decide) ?_
  refine zv_aI K eX11_tick_9 hf (fun v2 hf => ?_)
  refine zv_icmp_ge K 74 eX11_tick_10 (by decide) hf (fun _ hf => ?_) (fun _ hf => ?_)
  · obtain ⟨w9, hf9, e9⟩ := z_i1_inv hf; clear hf; subst e9; have hf := hf9; clear hf9
    refine zv_iconst K (0 : Int32) eX11_tick_74 (by decide) ?_
    refine zv_istore_n K [(1, tI (0 : Int32)), (0, tA x0)] eX11_tick_75 (z_lt hX.2 (by decide)) rfl ?_
    exact zv_sub [1, 0] rfl (v_X11_tick_b76 K hX hf hp)
  · refine zv_iconst K (1 : Int32) eX11_tick_13 (by decide) ?_
    refine zv_istore_n K [(2, tI (1 : Int32)), (0, tA x0), (1, tI x1)] eX11_tick_14 (z_lt hX.2 (by decide)) rfl ?_
    exact zv_sub [1, 2, 0] rfl (v_X11_tick_b15 K hX hf hp)
theorem v_X11_tick_b2 {X : zX} (K : z_Ok X cX11_tick none RX11 "tick") (hX : z_Xo X rm_X11_tick 3) {x0 : Option Nat} {x1 : Int32} {h : zH} {nx : Nat} {x : (zH)} (hf : f_X11_tick_b2 x0 x1 h = some x) (hp : z_P0V X nx x) : zV X 2 [(0, tA x0), (1, tI x1)] [] h nx 0 0 :=
  z_it_ind (P := fun s : (Option Nat) × Int32 × zH => zV X 2 [(0, tA s.1), (1, tI s.2.1)] [] s.2.2 nx 0 0) (fun s y hb hy => v_X11_tick_c2 K hX hb (z_PL_of hy hp)) hf
set_option maxHeartbeats 4000000 in
set_option maxRecDepth 100000 in
theorem v_X11_tick {X : zX} (K : z_Ok X cX11_tick none RX11 "tick") (hX : z_Xo X rm_X11_tick 3) {x0 : Option Nat} {h : zH} {nx : Nat} {x : (zH)} (hf : f_X11_tick x0 h = some x) (hp : z_P0V X nx x) : zV X 0 [(0, tA x0)] [] h nx 0 0 := by
  unfold f_X11_tick at hf
  refine zv_iconst K (0 : Int32) eX11_tick_0 (by decide) ?_
  refine zv_istore_n K [(1, tI (0 : Int32)), (0, tA x0)] eX11_tick_1 (z_lt hX.2 (by decide)) rfl ?_
  exact zv_sub [1, 0] rfl (v_X11_tick_b2 K hX hf hp)
theorem c_X11_tick (l : Launch) (G : zG) {x0 : Option Nat} {h : zH} {nx : Nat} {x : zH} (hf : f_X11_tick x0 h = some x) : z_Ct l G yX11_tick cX11_tick 3 none rm_X11_tick [tA x0] h nx none x nx 0 0 :=
  z_enter [(0, tA x0)] (by decide +kernel) (Nat.le_of_ble_eq_true rfl) rfl (fun X hl hR hG hL K hq => by
    subst hl; subst hG
    exact v_X11_tick K ⟨hR, hL⟩ hf hq)
def P_X11_things_4 (X : zX) (nx : Nat) : ((Option Nat) × Int32 × Int32 × Int32 × zH) ⊕ (Int32 × zH) → Prop := z_PL (fun s => zV X 4 [(0, tA s.1), (1, tI s.2.1), (2, tI s.2.2.1), (3, tI s.2.2.2.1)] [] s.2.2.2.2 nx 0 0) (z_P0I X nx)
set_option maxHeartbeats 4000000 in
set_option maxRecDepth 100000 in
theorem v_X11_things_b34 {X : zX} (K : z_Ok X cX11_things (some .int) RX11 "things") (hX : z_Xo X rm_X11_things 4) {x0 : Option Nat} {x1 : Int32} {x3 : Int32} {s0 : Int32} {s1 : Int32} {h : zH} {nx : Nat} {x : (((Option Nat) × Int32 × Int32 × Int32 × zH) ⊕ (Int32 × zH))} (hf : f_X11_things_b34 x0 x1 x3 s0 s1 h = some x) (hp : P_X11_things_4 X nx x) : zV X 34 [(0, tA x0), (1, tI x1), (3, tI x3)] [tI s1, tI s0] h nx 0 0 := by
  unfold f_X11_things_b34 at hf
  refine zv_iadd K eX11_things_34 ?_
  refine zv_istore_n K [(2, tI (s0 + s1)), (0, tA x0), (1, tI x1), (3, tI x3)] eX11_things_35 (z_lt hX.2 (by decide)) rfl ?_
  refine zv_iinc K (x3 + (1 : Int32)) 3 [(3, tI (x3 + (1 : Int32))), (2, tI (s0 + s1)), (0, tA x0), (1, tI x1)] eX11_things_36 rfl rfl (z_lt hX.2 (by decide)) rfl ?_
  refine zv_goto K 4 eX11_things_39 (by decide) ?_
  cases hf
  exact zv_sub [2, 3, 1, 0] rfl (show zV X 4 [(0, tA x0), (1, tI x1), (2, tI (s0 + s1)), (3, tI (x3 + (1 : Int32)))] [] h nx 0 0 from hp)
set_option maxHeartbeats 4000000 in
set_option maxRecDepth 100000 in
theorem v_X11_things_c4 {X : zX} (K : z_Ok X cX11_things (some .int) RX11 "things") (hX : z_Xo X rm_X11_things 4) {x0 : Option Nat} {x1 : Int32} {x2 : Int32} {x3 : Int32} {h : zH} {nx : Nat} {x : (((Option Nat) × Int32 × Int32 × Int32 × zH) ⊕ (Int32 × zH))} (hf : f_X11_things_c4 x0 x1 x2 x3 h = some x) (hp : P_X11_things_4 X nx x) : zV X 4 [(0, tA x0), (1, tI x1), (2, tI x2), (3, tI x3)] [] h nx 0 0 := by
  unfold f_X11_things_c4 at hf
  refine zv_iload_n K 3 eX11_things_4 rfl ?_
  refine zv_aload_n K 0 eX11_things_5 rfl ?_
  refine zv_gA K eX11_things_6 fl_X11_7 hf (fun v1 hf => ?_)
  refine zv_bipush K (65 : Int32) eX11_things_9 (by decide) ?_
  refine zv_aI K eX11_things_11 hf (fun v2 hf => ?_)
  refine zv_icmp_ge K 42 eX11_things_12 (by decide) hf (fun _ hf => ?_) (fun _ hf => ?_)
  · obtain ⟨w9, hf9, e9⟩ := z_i1_inv hf; clear hf; subst e9; have hf := hf9; clear hf9
    refine zv_iload_n K 2 eX11_things_42 rfl ?_
    have e9 := Option.some.inj hf; subst e9
    exact zv_iret K eX11_things_43 hp
  · refine zv_iload_n K 2 eX11_things_15 rfl ?_
    refine zv_aload_n K 0 eX11_things_16 rfl ?_
    refine zv_gA K eX11_things_17 fl_X11_7 hf (fun v3 hf => ?_)
    refine zv_iload_n K 3 eX11_things_20 rfl ?_
    obtain ⟨v5, h4, eh4, hf⟩ := z_b2_inv hf
    refine zv_cS0 K [tI x3] [tA v3, tI x2] eX11_things_21 lk_X11_84 md_X11_thingAt st_X11_thingAt rfl rfl (Nat.le_of_ble_eq_true rfl) (c_X11_thingAt X.1.2.1 X.2.2.1 eh4) rfl rfl ⟨z_le (z_fr hX) (by decide), z_le (z_lo hX) (by decide)⟩ ⟨Nat.zero_le _, Nat.zero_le _⟩ ?_
    refine zv_aI K eX11_things_24 hf (fun v6 hf => ?_)
    refine zv_iload_n K 1 eX11_things_25 rfl ?_
    refine zv_icmp_ne K 33 eX11_things_26 (by decide) hf (fun _ hf => ?_) (fun _ hf => ?_)
    · refine zv_iconst K (0 : Int32) eX11_things_33 (by decide) ?_
      exact zv_sub [0, 1, 3] rfl (v_X11_things_b34 K hX hf hp)
    · refine zv_iconst K (1 : Int32) eX11_things_29 (by decide) ?_
      refine zv_goto K 34 eX11_things_30 (by decide) ?_
      exact zv_sub [0, 1, 3] rfl (v_X11_things_b34 K hX hf hp)
theorem v_X11_things_b4 {X : zX} (K : z_Ok X cX11_things (some .int) RX11 "things") (hX : z_Xo X rm_X11_things 4) {x0 : Option Nat} {x1 : Int32} {x2 : Int32} {x3 : Int32} {h : zH} {nx : Nat} {x : (Int32 × zH)} (hf : f_X11_things_b4 x0 x1 x2 x3 h = some x) (hp : z_P0I X nx x) : zV X 4 [(0, tA x0), (1, tI x1), (2, tI x2), (3, tI x3)] [] h nx 0 0 :=
  z_it_ind (P := fun s : (Option Nat) × Int32 × Int32 × Int32 × zH => zV X 4 [(0, tA s.1), (1, tI s.2.1), (2, tI s.2.2.1), (3, tI s.2.2.2.1)] [] s.2.2.2.2 nx 0 0) (fun s y hb hy => v_X11_things_c4 K hX hb (z_PL_of hy hp)) hf
set_option maxHeartbeats 4000000 in
set_option maxRecDepth 100000 in
theorem v_X11_things {X : zX} (K : z_Ok X cX11_things (some .int) RX11 "things") (hX : z_Xo X rm_X11_things 4) {x0 : Option Nat} {x1 : Int32} {h : zH} {nx : Nat} {x : (Int32 × zH)} (hf : f_X11_things x0 x1 h = some x) (hp : z_P0I X nx x) : zV X 0 [(0, tA x0), (1, tI x1)] [] h nx 0 0 := by
  unfold f_X11_things at hf
  refine zv_iconst K (0 : Int32) eX11_things_0 (by decide) ?_
  refine zv_istore_n K [(2, tI (0 : Int32)), (0, tA x0), (1, tI x1)] eX11_things_1 (z_lt hX.2 (by decide)) rfl ?_
  refine zv_iconst K (0 : Int32) eX11_things_2 (by decide) ?_
  refine zv_istore_n K [(3, tI (0 : Int32)), (2, tI (0 : Int32)), (0, tA x0), (1, tI x1)] eX11_things_3 (z_lt hX.2 (by decide)) rfl ?_
  exact zv_sub [2, 3, 1, 0] rfl (v_X11_things_b4 K hX hf hp)
theorem c_X11_things (l : Launch) (G : zG) {x0 : Option Nat} {x1 : Int32} {h : zH} {nx : Nat} {x : Int32 × zH} (hf : f_X11_things x0 x1 h = some x) : z_Ct l G yX11_things cX11_things 4 (some .int) rm_X11_things [tA x0, tI x1] h nx (some (tI x.1)) x.2 nx 0 0 :=
  z_enter [(0, tA x0), (1, tI x1)] (by decide +kernel) (Nat.le_of_ble_eq_true rfl) rfl (fun X hl hR hG hL K hq => by
    subst hl; subst hG
    exact v_X11_things K ⟨hR, hL⟩ hf hq)
def P_X11_ticks_14 (X : zX) (nx : Nat) : ((Option Nat) × Int32 × Int32 × zH) ⊕ (Int32 × zH) → Prop := z_PL (fun s => zV X 14 [(0, tA s.1), (1, tI s.2.1), (2, tI s.2.2.1)] [] s.2.2.2 nx 0 0) (z_P0I X nx)
set_option maxHeartbeats 4000000 in
set_option maxRecDepth 100000 in
theorem v_X11_ticks_c14 {X : zX} (K : z_Ok X cX11_ticks (some .int) RX11 "ticks") (hX : z_Xo X rm_X11_ticks 3) {x0 : Option Nat} {x1 : Int32} {x2 : Int32} {h : zH} {nx : Nat} {x : (((Option Nat) × Int32 × Int32 × zH) ⊕ (Int32 × zH))} (hf : f_X11_ticks_c14 x0 x1 x2 h = some x) (hp : P_X11_ticks_14 X nx x) : zV X 14 [(0, tA x0), (1, tI x1), (2, tI x2)] [] h nx 0 0 := by
  unfold f_X11_ticks_c14 at hf
  refine zv_iload_n K 2 eX11_ticks_14 rfl ?_
  refine zv_iload_n K 1 eX11_ticks_15 rfl ?_
  refine zv_icmp_ge K 29 eX11_ticks_16 (by decide) hf (fun _ hf => ?_) (fun _ hf => ?_)
  · obtain ⟨w9, hf9, e9⟩ := z_i1_inv hf; clear hf; subst e9; have hf := hf9; clear hf9
    refine zv_aload_n K 0 eX11_ticks_29 rfl ?_
    refine zv_iconst K (2 : Int32) eX11_ticks_30 (by decide) ?_
    obtain ⟨q1, hq1, hf⟩ := z_bind_inv hf
    obtain ⟨v3, h2, eh2, hf⟩ := z_b2_inv hf
    refine zv_cV0 K [tI (2 : Int32)] [] eX11_ticks_31 lk_X11_179 md_X11_things im_X11_things sl_X11_things rfl rfl rfl rfl (Nat.le_of_ble_eq_true rfl) hq1 (c_X11_things X.1.2.1 X.2.2.1 eh2) rfl rfl ⟨z_le (z_fr hX) (by decide), z_le (z_lo hX) (by decide)⟩ ⟨Nat.zero_le _, Nat.zero_le _⟩ ?_
    have e9 := Option.some.inj hf; subst e9
    exact zv_iret K eX11_ticks_34 hp
  · refine zv_aload_n K 0 eX11_ticks_19 rfl ?_
    obtain ⟨q4, hq4, hf⟩ := z_bind_inv hf
    obtain ⟨h5, eh5, hf⟩ := z_bind_inv hf
    refine zv_cV0 K [] [] eX11_ticks_20 lk_X11_176 md_X11_tick im_X11_tick sl_X11_tick rfl rfl rfl rfl (Nat.le_of_ble_eq_true rfl) hq4 (c_X11_tick X.1.2.1 X.2.2.1 eh5) rfl rfl ⟨z_le (z_fr hX) (by decide), z_le (z_lo hX) (by decide)⟩ ⟨Nat.zero_le _, Nat.zero_le _⟩ ?_
    refine zv_iinc K (x2 + (1 : Int32)) 2 [(2, tI (x2 + (1 : Int32))), (0, tA x0), (1, tI x1)] eX11_ticks_23 rfl rfl (z_lt hX.2 (by decide)) rfl ?_
    refine zv_goto K 14 eX11_ticks_26 (by decide) ?_
    cases hf
    exact zv_sub [1, 2, 0] rfl (show zV X 14 [(0, tA x0), (1, tI x1), (2, tI (x2 + (1 : Int32)))] [] h5 nx 0 0 from hp)
theorem v_X11_ticks_b14 {X : zX} (K : z_Ok X cX11_ticks (some .int) RX11 "ticks") (hX : z_Xo X rm_X11_ticks 3) {x0 : Option Nat} {x1 : Int32} {x2 : Int32} {h : zH} {nx : Nat} {x : (Int32 × zH)} (hf : f_X11_ticks_b14 x0 x1 x2 h = some x) (hp : z_P0I X nx x) : zV X 14 [(0, tA x0), (1, tI x1), (2, tI x2)] [] h nx 0 0 :=
  z_it_ind (P := fun s : (Option Nat) × Int32 × Int32 × zH => zV X 14 [(0, tA s.1), (1, tI s.2.1), (2, tI s.2.2.1)] [] s.2.2.2 nx 0 0) (fun s y hb hy => v_X11_ticks_c14 K hX hb (z_PL_of hy hp)) hf
set_option maxHeartbeats 4000000 in
set_option maxRecDepth 100000 in
theorem v_X11_ticks {X : zX} (K : z_Ok X cX11_ticks (some .int) RX11 "ticks") (hX : z_Xo X rm_X11_ticks 3) {x0 : Option Nat} {x1 : Int32} {h : zH} {nx : Nat} {x : (Int32 × zH)} (hf : f_X11_ticks x0 x1 h = some x) (hp : z_P0I X nx x) : zV X 0 [(0, tA x0), (1, tI x1)] [] h nx 0 0 := by
  unfold f_X11_ticks at hf
  refine zv_iload_n K 1 eX11_ticks_0 rfl ?_
  refine zv_iconst K (1 : Int32) eX11_ticks_1 (by decide) ?_
  refine zv_bipush K (60 : Int32) eX11_ticks_2 (by decide) ?_
  obtain ⟨v2, h1, eh1, hf⟩ := z_b2_inv hf
  refine zv_cS0 K [tI x1, tI (1 : Int32), tI (60 : Int32)] [] eX11_ticks_4 lk_X11_65 md_X11_in st_X11_in rfl rfl (Nat.le_of_ble_eq_true rfl) (c_X11_in X.1.2.1 X.2.2.1 eh1) rfl rfl ⟨z_le (z_fr hX) (by decide), z_le (z_lo hX) (by decide)⟩ ⟨Nat.zero_le _, Nat.zero_le _⟩ ?_
  refine zv_if_ne K 12 eX11_ticks_7 (by decide) hf (fun _ hf => ?_) (fun _ hf => ?_)
  · refine zv_iconst K (0 : Int32) eX11_ticks_12 (by decide) ?_
    refine zv_istore_n K [(2, tI (0 : Int32)), (0, tA x0), (1, tI x1)] eX11_ticks_13 (z_lt hX.2 (by decide)) rfl ?_
    exact zv_sub [1, 2, 0] rfl (v_X11_ticks_b14 K hX hf hp)
  · refine zv_iconst K (-1 : Int32) eX11_ticks_10 (by decide) ?_
    have e9 := Option.some.inj hf; subst e9
    exact zv_iret K eX11_ticks_11 hp
theorem c_X11_ticks (l : Launch) (G : zG) {x0 : Option Nat} {x1 : Int32} {h : zH} {nx : Nat} {x : Int32 × zH} (hf : f_X11_ticks x0 x1 h = some x) : z_Ct l G yX11_ticks cX11_ticks 3 (some .int) rm_X11_ticks [tA x0, tI x1] h nx (some (tI x.1)) x.2 nx 0 0 :=
  z_enter [(0, tA x0), (1, tI x1)] (by decide +kernel) (Nat.le_of_ble_eq_true rfl) rfl (fun X hl hR hG hL K hq => by
    subst hl; subst hG
    exact v_X11_ticks K ⟨hR, hL⟩ hf hq)
set_option maxHeartbeats 4000000 in
set_option maxRecDepth 100000 in
theorem v_X11_finds {X : zX} (K : z_Ok X cX11_finds (some .int) RX11 "finds") (hX : z_Xo X rm_X11_finds 3) {x0 : Option Nat} {x1 : Int32} {x2 : Int32} {h : zH} {nx : Nat} {x : (Int32 × zH)} (hf : f_X11_finds x0 x1 x2 h = some x) (hp : z_P0I X nx x) : zV X 0 [(0, tA x0), (1, tI x1), (2, tI x2)] [] h nx 0 0 := by
  unfold f_X11_finds at hf
  refine zv_aload_n K 0 eX11_finds_0 rfl ?_
  refine zv_iload_n K 1 eX11_finds_1 rfl ?_
  refine zv_iload_n K 2 eX11_finds_2 rfl ?_
  obtain ⟨q1, hq1, hf⟩ := z_bind_inv hf
  obtain ⟨v3, h2, eh2, hf⟩ := z_b2_inv hf
  refine zv_cV0 K [tI x1, tI x2] [] eX11_finds_3 lk_X11_112 md_X11_isPiece im_X11_isPiece sl_X11_isPiece rfl rfl rfl rfl (Nat.le_of_ble_eq_true rfl) hq1 (c_X11_isPiece X.1.2.1 X.2.2.1 eh2) rfl rfl ⟨z_le (z_fr hX) (by decide), z_le (z_lo hX) (by decide)⟩ ⟨Nat.zero_le _, Nat.zero_le _⟩ ?_
  refine zv_if_eq K 13 eX11_finds_6 (by decide) hf (fun _ hf => ?_) (fun _ hf => ?_)
  · refine zv_iconst K (-1 : Int32) eX11_finds_13 (by decide) ?_
    refine zv_goto K 23 eX11_finds_14 (by decide) ?_
    have e9 := Option.some.inj hf; subst e9
    exact zv_iret K eX11_finds_23 hp
  · refine zv_iload_n K 2 eX11_finds_9 rfl ?_
    refine zv_if_ne K 17 eX11_finds_10 (by decide) hf (fun _ hf => ?_) (fun _ hf => ?_)
    · refine zv_aload_n K 0 eX11_finds_17 rfl ?_
      refine zv_iload_n K 1 eX11_finds_18 rfl ?_
      refine zv_iload_n K 2 eX11_finds_19 rfl ?_
      obtain ⟨q4, hq4, hf⟩ := z_bind_inv hf
      obtain ⟨v6, h5, eh5, hf⟩ := z_b2_inv hf
      refine zv_cV0 K [tI x1, tI x2] [] eX11_finds_20 lk_X11_169 md_X11_findsOf im_X11_findsOf sl_X11_findsOf rfl rfl rfl rfl (Nat.le_of_ble_eq_true rfl) hq4 (c_X11_findsOf X.1.2.1 X.2.2.1 eh5) rfl rfl ⟨z_le (z_fr hX) (by decide), z_le (z_lo hX) (by decide)⟩ ⟨Nat.zero_le _, Nat.zero_le _⟩ ?_
      have e9 := Option.some.inj hf; subst e9
      exact zv_iret K eX11_finds_23 hp
    · refine zv_iconst K (-1 : Int32) eX11_finds_13 (by decide) ?_
      refine zv_goto K 23 eX11_finds_14 (by decide) ?_
      have e9 := Option.some.inj hf; subst e9
      exact zv_iret K eX11_finds_23 hp
theorem c_X11_finds (l : Launch) (G : zG) {x0 : Option Nat} {x1 : Int32} {x2 : Int32} {h : zH} {nx : Nat} {x : Int32 × zH} (hf : f_X11_finds x0 x1 x2 h = some x) : z_Ct l G yX11_finds cX11_finds 3 (some .int) rm_X11_finds [tA x0, tI x1, tI x2] h nx (some (tI x.1)) x.2 nx 0 0 :=
  z_enter [(0, tA x0), (1, tI x1), (2, tI x2)] (by decide +kernel) (Nat.le_of_ble_eq_true rfl) rfl (fun X hl hR hG hL K hq => by
    subst hl; subst hG
    exact v_X11_finds K ⟨hR, hL⟩ hf hq)
set_option maxHeartbeats 4000000 in
set_option maxRecDepth 100000 in
theorem v_X11_cut {X : zX} (K : z_Ok X cX11_cut (some .int) RX11 "cut") (hX : z_Xo X rm_X11_cut 3) {x0 : Option Nat} {x1 : Int32} {x2 : Int32} {h : zH} {nx : Nat} {x : (Int32 × zH)} (hf : f_X11_cut x0 x1 x2 h = some x) (hp : z_P0I X nx x) : zV X 0 [(0, tA x0), (1, tI x1), (2, tI x2)] [] h nx 0 0 := by
  unfold f_X11_cut at hf
  refine zv_aload_n K 0 eX11_cut_0 rfl ?_
  refine zv_iload_n K 1 eX11_cut_1 rfl ?_
  refine zv_iload_n K 2 eX11_cut_2 rfl ?_
  obtain ⟨q1, hq1, hf⟩ := z_bind_inv hf
  obtain ⟨v3, h2, eh2, hf⟩ := z_b2_inv hf
  refine zv_cV0 K [tI x1, tI x2] [] eX11_cut_3 lk_X11_112 md_X11_isPiece im_X11_isPiece sl_X11_isPiece rfl rfl rfl rfl (Nat.le_of_ble_eq_true rfl) hq1 (c_X11_isPiece X.1.2.1 X.2.2.1 eh2) rfl rfl ⟨z_le (z_fr hX) (by decide), z_le (z_lo hX) (by decide)⟩ ⟨Nat.zero_le _, Nat.zero_le _⟩ ?_
  refine zv_if_eq K 13 eX11_cut_6 (by decide) hf (fun _ hf => ?_) (fun _ hf => ?_)
  · refine zv_iconst K (-1 : Int32) eX11_cut_13 (by decide) ?_
    have e9 := Option.some.inj hf; subst e9
    exact zv_iret K eX11_cut_14 hp
  · refine zv_iload_n K 2 eX11_cut_9 rfl ?_
    refine zv_if_ne K 15 eX11_cut_10 (by decide) hf (fun _ hf => ?_) (fun _ hf => ?_)
    · refine zv_aload_n K 0 eX11_cut_15 rfl ?_
      refine zv_iload_n K 1 eX11_cut_16 rfl ?_
      obtain ⟨q4, hq4, hf⟩ := z_bind_inv hf
      obtain ⟨v6, h5, eh5, hf⟩ := z_b2_inv hf
      refine zv_cV0 K [tI x1] [] eX11_cut_17 lk_X11_109 md_X11_cutOf im_X11_cutOf sl_X11_cutOf rfl rfl rfl rfl (Nat.le_of_ble_eq_true rfl) hq4 (c_X11_cutOf X.1.2.1 X.2.2.1 eh5) rfl rfl ⟨z_le (z_fr hX) (by decide), z_le (z_lo hX) (by decide)⟩ ⟨Nat.zero_le _, Nat.zero_le _⟩ ?_
      refine zv_if_lt K 26 eX11_cut_20 (by decide) hf (fun _ hf => ?_) (fun _ hf => ?_)
      · refine zv_aload_n K 0 eX11_cut_26 rfl ?_
        refine zv_gA K eX11_cut_27 fl_X11_7 hf (fun v7 hf => ?_)
        refine zv_iload_n K 1 eX11_cut_30 rfl ?_
        refine zv_iconst K (1 : Int32) eX11_cut_31 (by decide) ?_
        obtain ⟨v9, h8, eh8, hf⟩ := z_b2_inv hf
        refine zv_cS0 K [tI x1, tI (1 : Int32)] [tA v7] eX11_cut_32 lk_X11_69 md_X11_of st_X11_of rfl rfl (Nat.le_of_ble_eq_true rfl) (c_X11_of X.1.2.1 X.2.2.1 eh8) rfl rfl ⟨z_le (z_fr hX) (by decide), z_le (z_lo hX) (by decide)⟩ ⟨Nat.zero_le _, Nat.zero_le _⟩ ?_
        refine zv_iload_n K 2 eX11_cut_35 rfl ?_
        refine zv_sI K eX11_cut_36 hf (fun h10 hf => ?_)
        refine zv_aload_n K 0 eX11_cut_37 rfl ?_
        refine zv_iload_n K 1 eX11_cut_38 rfl ?_
        obtain ⟨q11, hq11, hf⟩ := z_bind_inv hf
        obtain ⟨v13, h12, eh12, hf⟩ := z_b2_inv hf
        refine zv_cV0 K [tI x1] [] eX11_cut_39 lk_X11_77 md_X11_pieces im_X11_pieces sl_X11_pieces rfl rfl rfl rfl (Nat.le_of_ble_eq_true rfl) hq11 (c_X11_pieces X.1.2.1 X.2.2.1 eh12) rfl rfl ⟨z_le (z_fr hX) (by decide), z_le (z_lo hX) (by decide)⟩ ⟨Nat.zero_le _, Nat.zero_le _⟩ ?_
        refine zv_iload_n K 2 eX11_cut_42 rfl ?_
        refine zv_isub K eX11_cut_43 ?_
        have e9 := Option.some.inj hf; subst e9
        exact zv_iret K eX11_cut_44 hp
      · refine zv_bipush K (-2 : Int32) eX11_cut_23 (by decide) ?_
        have e9 := Option.some.inj hf; subst e9
        exact zv_iret K eX11_cut_25 hp
    · refine zv_iconst K (-1 : Int32) eX11_cut_13 (by decide) ?_
      have e9 := Option.some.inj hf; subst e9
      exact zv_iret K eX11_cut_14 hp
theorem c_X11_cut (l : Launch) (G : zG) {x0 : Option Nat} {x1 : Int32} {x2 : Int32} {h : zH} {nx : Nat} {x : Int32 × zH} (hf : f_X11_cut x0 x1 x2 h = some x) : z_Ct l G yX11_cut cX11_cut 3 (some .int) rm_X11_cut [tA x0, tI x1, tI x2] h nx (some (tI x.1)) x.2 nx 0 0 :=
  z_enter [(0, tA x0), (1, tI x1), (2, tI x2)] (by decide +kernel) (Nat.le_of_ble_eq_true rfl) rfl (fun X hl hR hG hL K hq => by
    subst hl; subst hG
    exact v_X11_cut K ⟨hR, hL⟩ hf hq)
