def rm_X0_init (cc0 ss0 : Nat) : Room := { frames := 2, cells := cc0, slots := ss0, locals := 40 }
def rm_J7_fill_53178 : Room := { frames := 2, cells := 0, slots := 0, locals := 40 }
def rm_X0_begin : Room := { frames := 3, cells := 0, slots := 0, locals := 63 }
def rm_X0_become : Room := { frames := 2, cells := 0, slots := 0, locals := 40 }
def rm_X0_isCut : Room := { frames := 2, cells := 0, slots := 0, locals := 40 }
def rm_X0_isCutOff : Room := { frames := 3, cells := 0, slots := 0, locals := 60 }
def rm_X0_isTip : Room := { frames := 2, cells := 0, slots := 0, locals := 40 }
def rm_X0_canEverMove : Room := { frames := 2, cells := 0, slots := 0, locals := 40 }
def rm_X10_sideOf : Room := { frames := 2, cells := 0, slots := 0, locals := 40 }
def rm_X0_formNow : Room := { frames := 3, cells := 0, slots := 0, locals := 61 }
def rm_X1_init : Room := { frames := 2, cells := 0, slots := 0, locals := 40 }
def rm_X1_holds (dd : Nat) : Room := { frames := 2 + 4 * dd, cells := 0, slots := 0, locals := 40 + 200 * dd }
def rm_X2_init (cc0 ss0 : Nat) : Room := { frames := 2, cells := cc0, slots := ss0, locals := 40 }
def rm_X3_init (cc0 ss0 : Nat) : Room := { frames := 2, cells := cc0, slots := ss0, locals := 40 }
def rm_X3_layOut : Room := { frames := 2, cells := 0, slots := 0, locals := 40 }
def rm_X10_formsOf : Room := { frames := 2, cells := 0, slots := 0, locals := 40 }
def rm_J7_rangeCheck_23922 : Room := { frames := 2, cells := 0, slots := 0, locals := 40 }
def rm_J7_fill_fda19 : Room := { frames := 3, cells := 0, slots := 0, locals := 62 }
def rm_X3_see : Room := { frames := 2, cells := 0, slots := 0, locals := 40 }
def rm_X3_seeFlip : Room := { frames := 3, cells := 0, slots := 0, locals := 62 }
def rm_X10_beside : Room := { frames := 2, cells := 0, slots := 0, locals := 40 }
def rm_X3_seeTurns : Room := { frames := 3, cells := 0, slots := 0, locals := 64 }
def rm_X3_goOnFrom : Room := { frames := 4, cells := 0, slots := 0, locals := 92 }
def rm_X3_searchAnew : Room := { frames := 5, cells := 0, slots := 0, locals := 118 }
def rm_X3_search : Room := { frames := 6, cells := 0, slots := 0, locals := 139 }
def rm_X4_init : Room := { frames := 2, cells := 0, slots := 0, locals := 40 }
def rm_X4_goTo : Room := { frames := 2, cells := 0, slots := 0, locals := 40 }
def rm_X5_init (cc0 ss0 : Nat) : Room := { frames := 2, cells := cc0, slots := ss0, locals := 40 }
def rm_X4_takes : Room := { frames := 3, cells := 0, slots := 0, locals := 61 }
def rm_X4_fail : Room := { frames := 2, cells := 0, slots := 0, locals := 40 }
def rm_X4_need : Room := { frames := 3, cells := 0, slots := 0, locals := 61 }
def rm_X10_isDigit : Room := { frames := 2, cells := 0, slots := 0, locals := 40 }
def rm_X4_readDigit : Room := { frames := 3, cells := 0, slots := 0, locals := 61 }
def rm_X4_readSense : Room := { frames := 4, cells := 0, slots := 0, locals := 82 }
def rm_X4_readClaim (dd cc0 ss0 : Nat) : Room := { frames := 7 + 4 * dd, cells := cc0, slots := ss0, locals := 202 + 200 * dd }
def rm_X4_readTest (dd cc0 ss0 : Nat) : Room := { frames := 5 + 4 * dd, cells := cc0, slots := ss0, locals := 102 + 200 * dd }
def rm_X4_isAct : Room := { frames := 2, cells := 0, slots := 0, locals := 40 }
def rm_X4_readAct : Room := { frames := 4, cells := 0, slots := 0, locals := 82 }
def rm_X4_readClause (cc0 ss0 : Nat) : Room := { frames := 38, cells := cc0, slots := ss0, locals := 1727 }
def rm_X4_read (cc0 ss0 : Nat) : Room := { frames := 39, cells := cc0, slots := ss0, locals := 1749 }
def rm_X5_firstFor : Room := { frames := 35, cells := 0, slots := 0, locals := 1665 }
def rm_X8_init : Room := { frames := 2, cells := 0, slots := 0, locals := 40 }
def rm_X6_init (cc0 ss0 : Nat) : Room := { frames := 3, cells := cc0, slots := ss0, locals := 60 }
def rm_X8_become : Room := { frames := 2, cells := 0, slots := 0, locals := 40 }
def rm_X6_become : Room := { frames := 3, cells := 0, slots := 0, locals := 61 }
def rm_X6_lyingCells : Room := { frames := 2, cells := 0, slots := 0, locals := 40 }
def rm_X6_inUse : Room := { frames := 3, cells := 0, slots := 0, locals := 60 }
def rm_X6_isFree : Room := { frames := 2, cells := 0, slots := 0, locals := 40 }
def rm_X6_canLie : Room := { frames := 3, cells := 0, slots := 0, locals := 64 }
def rm_X6_addArm : Room := { frames := 4, cells := 0, slots := 0, locals := 85 }
def rm_X6_lay : Room := { frames := 2, cells := 0, slots := 0, locals := 40 }
def rm_X6_addThing : Room := { frames := 3, cells := 0, slots := 0, locals := 62 }
def rm_X6_countThings : Room := { frames := 2, cells := 0, slots := 0, locals := 40 }
def rm_X6_cellOfThing : Room := { frames := 2, cells := 0, slots := 0, locals := 40 }
def rm_X6_lift : Room := { frames := 2, cells := 0, slots := 0, locals := 40 }
def rm_X6_lyingAt : Room := { frames := 2, cells := 0, slots := 0, locals := 40 }
def rm_X6_turned : Room := { frames := 3, cells := 0, slots := 0, locals := 64 }
def rm_X10_touchByCorner : Room := { frames := 2, cells := 0, slots := 0, locals := 40 }
def rm_X6_flipped : Room := { frames := 3, cells := 0, slots := 0, locals := 63 }
def rm_X6_move : Room := { frames := 4, cells := 0, slots := 0, locals := 89 }
def rm_X10_near : Room := { frames := 2, cells := 0, slots := 0, locals := 40 }
def rm_X6_senses : Room := { frames := 3, cells := 0, slots := 0, locals := 64 }
def rm_X6_clauseFor : Room := { frames := 36, cells := 0, slots := 0, locals := 1687 }
def rm_X6_give : Room := { frames := 2, cells := 0, slots := 0, locals := 40 }
def rm_X6_grab : Room := { frames := 3, cells := 0, slots := 0, locals := 64 }
def rm_X6_passOn : Room := { frames := 3, cells := 0, slots := 0, locals := 63 }
def rm_X6_letGo : Room := { frames := 3, cells := 0, slots := 0, locals := 62 }
def rm_X6_doActs : Room := { frames := 5, cells := 0, slots := 0, locals := 112 }
def rm_X6_tick : Room := { frames := 37, cells := 0, slots := 0, locals := 1709 }
def rm_X7_init (cc0 ss0 : Nat) : Room := { frames := 2, cells := cc0, slots := ss0, locals := 40 }
def rm_X7_begin : Room := { frames := 3, cells := 0, slots := 0, locals := 63 }
def rm_X7_forget : Room := { frames := 2, cells := 0, slots := 0, locals := 40 }
def rm_X7_holdsNothing : Room := { frames := 2, cells := 0, slots := 0, locals := 40 }
def rm_X7_spans : Room := { frames := 2, cells := 0, slots := 0, locals := 40 }
def rm_X7_refuses : Room := { frames := 3, cells := 0, slots := 0, locals := 62 }
def rm_X7_asCells : Room := { frames := 2, cells := 0, slots := 0, locals := 40 }
def rm_X9_init (cc0 ss0 : Nat) : Room := { frames := 4, cells := cc0, slots := ss0, locals := 81 }
def rm_X9_isEatenBy (dd : Nat) : Room := { frames := 38 + 4 * dd, cells := 0, slots := 0, locals := 1731 + 200 * dd }
def rm_X9_search : Room := { frames := 71, cells := 0, slots := 0, locals := 3359 }
def rm_X10_init (cc0 ss0 : Nat) : Room := { frames := 5, cells := cc0, slots := ss0, locals := 102 }
def rm_X10_isCell : Room := { frames := 2, cells := 0, slots := 0, locals := 40 }
def rm_X10_cellOf : Room := { frames := 2, cells := 0, slots := 0, locals := 40 }
def rm_X10_wall : Room := { frames := 4, cells := 0, slots := 0, locals := 80 }
def rm_X10_isSheet : Room := { frames := 2, cells := 0, slots := 0, locals := 40 }
def rm_J13_bitCount_95d88 : Room := { frames := 2, cells := 0, slots := 0, locals := 40 }
def rm_X10_walls : Room := { frames := 4, cells := 0, slots := 0, locals := 85 }
def rm_X10_arm : Room := { frames := 5, cells := 0, slots := 0, locals := 108 }
def rm_X10_thing : Room := { frames := 4, cells := 0, slots := 0, locals := 84 }
def rm_X10_isArm : Room := { frames := 2, cells := 0, slots := 0, locals := 40 }
def rm_X10_isPiece : Room := { frames := 3, cells := 0, slots := 0, locals := 61 }
def rm_X10_piece : Room := { frames := 4, cells := 0, slots := 0, locals := 83 }
def rm_X10_isThing : Room := { frames := 2, cells := 0, slots := 0, locals := 40 }
def rm_X10_told : Room := { frames := 3, cells := 0, slots := 0, locals := 61 }
def rm_X10_form : Room := { frames := 4, cells := 0, slots := 0, locals := 83 }
def rm_X10_flip : Room := { frames := 5, cells := 0, slots := 0, locals := 112 }
def rm_X10_byteOf : Room := { frames := 2, cells := 0, slots := 0, locals := 40 }
def rm_X10_type : Room := { frames := 3, cells := 0, slots := 0, locals := 62 }
def rm_X10_rules (cc0 ss0 : Nat) : Room := { frames := 40, cells := cc0, slots := ss0, locals := 1772 }
def rm_X10_head : Room := { frames := 3, cells := 0, slots := 0, locals := 61 }
def rm_X10_skin : Room := { frames := 3, cells := 0, slots := 0, locals := 60 }
def rm_X10_ticks : Room := { frames := 38, cells := 0, slots := 0, locals := 1731 }
def rm_X10_finds : Room := { frames := 37, cells := 0, slots := 0, locals := 1709 }
def rm_X10_cut : Room := { frames := 4, cells := 0, slots := 0, locals := 83 }
def rm_X10_count : Room := { frames := 3, cells := 0, slots := 0, locals := 63 }
def rm_X10_refusesReach : Room := { frames := 7, cells := 0, slots := 0, locals := 164 }
def rm_X10_forms : Room := { frames := 8, cells := 0, slots := 0, locals := 185 }
def rm_X10_reach : Room := { frames := 8, cells := 0, slots := 0, locals := 185 }
def rm_X10_far : Room := { frames := 8, cells := 0, slots := 0, locals := 185 }
def rm_X10_fewest : Room := { frames := 72, cells := 0, slots := 0, locals := 3384 }
def rm_X10_isImage : Room := { frames := 2, cells := 0, slots := 0, locals := 40 }
def rm_X10_image (cc0 ss0 : Nat) : Room := { frames := 4, cells := cc0, slots := ss0, locals := 83 }
def rm_X10_restore : Room := { frames := 4, cells := 0, slots := 0, locals := 83 }
def rm_X10_refusesFilm : Room := { frames := 4, cells := 0, slots := 0, locals := 85 }
def rm_X10_film : Room := { frames := 5, cells := 0, slots := 0, locals := 109 }
def rm_X10_differs : Room := { frames := 5, cells := 0, slots := 0, locals := 109 }
def rm_X10_isLane : Room := { frames := 2, cells := 0, slots := 0, locals := 40 }
def rm_X10_sheet : Room := { frames := 4, cells := 0, slots := 0, locals := 85 }
def rm_X10_drop : Room := { frames := 3, cells := 0, slots := 0, locals := 61 }
def rm_X10_narrowed : Room := { frames := 2, cells := 0, slots := 0, locals := 40 }
def rm_X10_item : Room := { frames := 4, cells := 0, slots := 0, locals := 85 }
def rm_X10_copy : Room := { frames := 3, cells := 0, slots := 0, locals := 62 }
def rm_X11_init (cc0 ss0 : Nat) : Room := { frames := 2, cells := cc0, slots := ss0, locals := 40 }
def rm_X11_in : Room := { frames := 2, cells := 0, slots := 0, locals := 40 }
def rm_X11_isCell : Room := { frames := 3, cells := 0, slots := 0, locals := 62 }
def rm_X11_of : Room := { frames := 2, cells := 0, slots := 0, locals := 40 }
def rm_X11_thingAt : Room := { frames := 2, cells := 0, slots := 0, locals := 40 }
def rm_X11_isArm : Room := { frames := 3, cells := 0, slots := 0, locals := 62 }
def rm_X11_isThing : Room := { frames := 3, cells := 0, slots := 0, locals := 62 }
def rm_X11_pieces : Room := { frames := 3, cells := 0, slots := 0, locals := 61 }
def rm_X11_isPiece : Room := { frames := 4, cells := 0, slots := 0, locals := 83 }
def rm_X11_cell : Room := { frames := 3, cells := 0, slots := 0, locals := 61 }
def rm_X11_hasPiece : Room := { frames := 4, cells := 0, slots := 0, locals := 83 }
def rm_X11_lyingAt : Room := { frames := 3, cells := 0, slots := 0, locals := 60 }
def rm_X11_beside : Room := { frames := 4, cells := 0, slots := 0, locals := 83 }
def rm_X11_sideTo : Room := { frames := 5, cells := 0, slots := 0, locals := 106 }
def rm_X11_isFree : Room := { frames := 5, cells := 0, slots := 0, locals := 106 }
def rm_X11_wall : Room := { frames := 5, cells := 0, slots := 0, locals := 106 }
def rm_X11_isSheet : Room := { frames := 3, cells := 0, slots := 0, locals := 62 }
def rm_X11_walls : Room := { frames := 5, cells := 0, slots := 0, locals := 106 }
def rm_X11_power : Room := { frames := 2, cells := 0, slots := 0, locals := 40 }
def rm_X11_arm : Room := { frames := 6, cells := 0, slots := 0, locals := 127 }
def rm_X11_thing : Room := { frames := 4, cells := 0, slots := 0, locals := 83 }
def rm_X11_cutOf : Room := { frames := 3, cells := 0, slots := 0, locals := 61 }
def rm_X11_isTip : Room := { frames := 4, cells := 0, slots := 0, locals := 82 }
def rm_X11_piece : Room := { frames := 5, cells := 0, slots := 0, locals := 105 }
def rm_X11_told : Room := { frames := 4, cells := 0, slots := 0, locals := 83 }
def rm_X11_formOf : Room := { frames := 6, cells := 0, slots := 0, locals := 128 }
def rm_X11_form : Room := { frames := 7, cells := 0, slots := 0, locals := 151 }
def rm_X11_flipped : Room := { frames := 6, cells := 0, slots := 0, locals := 127 }
def rm_X11_goesTo : Room := { frames := 7, cells := 0, slots := 0, locals := 154 }
def rm_X11_flip : Room := { frames := 8, cells := 0, slots := 0, locals := 180 }
def rm_X11_type : Room := { frames := 3, cells := 0, slots := 0, locals := 62 }
def rm_X11_faultOf : Room := { frames := 3, cells := 0, slots := 0, locals := 62 }
def rm_X11_rules : Room := { frames := 4, cells := 0, slots := 0, locals := 89 }
def rm_X11_head : Room := { frames := 4, cells := 0, slots := 0, locals := 83 }
def rm_X11_skin : Room := { frames := 3, cells := 0, slots := 0, locals := 62 }
def rm_X11_isNear : Room := { frames := 5, cells := 0, slots := 0, locals := 106 }
def rm_X11_claims : Room := { frames := 6, cells := 0, slots := 0, locals := 132 }
def rm_X11_holdsTest : Room := { frames := 7, cells := 0, slots := 0, locals := 156 }
def rm_X11_findsOf : Room := { frames := 8, cells := 0, slots := 0, locals := 184 }
def rm_X11_grab : Room := { frames := 5, cells := 0, slots := 0, locals := 106 }
def rm_X11_pass : Room := { frames := 4, cells := 0, slots := 0, locals := 82 }
def rm_X11_letGo : Room := { frames := 4, cells := 0, slots := 0, locals := 83 }
def rm_X11_act : Room := { frames := 8, cells := 0, slots := 0, locals := 180 }
def rm_X11_tick : Room := { frames := 9, cells := 0, slots := 0, locals := 208 }
def rm_X11_things : Room := { frames := 3, cells := 0, slots := 0, locals := 60 }
def rm_X11_ticks : Room := { frames := 10, cells := 0, slots := 0, locals := 230 }
def rm_X11_finds : Room := { frames := 9, cells := 0, slots := 0, locals := 208 }
def rm_X11_cut : Room := { frames := 5, cells := 0, slots := 0, locals := 105 }
def rm_X11_count : Room := { frames := 4, cells := 0, slots := 0, locals := 83 }
def rm_X11_lay : Room := { frames := 5, cells := 0, slots := 0, locals := 106 }
def rm_X11_come : Room := { frames := 7, cells := 0, slots := 0, locals := 151 }
def rm_X11_layReach : Room := { frames := 8, cells := 0, slots := 0, locals := 174 }
def rm_X11_forms : Room := { frames := 9, cells := 0, slots := 0, locals := 203 }
def rm_X11_reach : Room := { frames := 9, cells := 0, slots := 0, locals := 203 }
def rm_X11_far : Room := { frames := 9, cells := 0, slots := 0, locals := 203 }
def rm_X11_eats : Room := { frames := 10, cells := 0, slots := 0, locals := 230 }
def rm_X11_fewest : Room := { frames := 11, cells := 0, slots := 0, locals := 258 }
def rm_X11_image : Room := { frames := 3, cells := 0, slots := 0, locals := 62 }
def rm_X11_restore : Room := { frames := 3, cells := 0, slots := 0, locals := 62 }
def rm_X11_bars : Room := { frames := 4, cells := 0, slots := 0, locals := 83 }
def rm_X11_film : Room := { frames := 5, cells := 0, slots := 0, locals := 107 }
def rm_X11_differs : Room := { frames := 5, cells := 0, slots := 0, locals := 107 }
def rm_X11_sheet : Room := { frames := 4, cells := 0, slots := 0, locals := 82 }
def rm_X11_drop : Room := { frames := 4, cells := 0, slots := 0, locals := 82 }
def rm_X11_item : Room := { frames := 4, cells := 0, slots := 0, locals := 82 }
def rm_X11_copy : Room := { frames := 4, cells := 0, slots := 0, locals := 82 }
theorem m_X0_init_b41  {s0 : Option Nat} {s1 : Option Nat} {h : zH} {nx z : Nat} {x : ((Nat × Nat) × (zH))} (hf : f_X0_init_b41 s0 s1 h nx z = some x) : nx ≤ x.1.1 ∧ z ≤ x.1.2 := by
  unfold f_X0_init_b41 at hf
  obtain ⟨_, _, hf⟩ := z_bind_inv hf
  cases hf
  exact ⟨by (try dsimp only at *); omega, by (try dsimp only at *); omega⟩
set_option maxHeartbeats 4000000 in
set_option maxRecDepth 100000 in
theorem v_X0_init_b41 {X : zX} {cc0 ss0 nx0 z0 : Nat} (K : z_Ok X cX0_init none RX0 "<init>") (hX : z_Xo X (rm_X0_init cc0 ss0) 1) {s0 : Option Nat} {s1 : Option Nat} {h : zH} {nx z : Nat} (hm : nx0 ≤ nx ∧ z0 ≤ z) {x : ((Nat × Nat) × (zH))} (hf : f_X0_init_b41 s0 s1 h nx z = some x) (hp : z_Pm X nx0 z0 (z_P0Vm X nx0 z0) x) : zV X 41 [] [tA s1, tA s0] h nx (nx - nx0) (z - z0) := by
  have mB := m_X0_init_b41 hf
  unfold f_X0_init_b41 at hf
  refine zv_pXA K eX0_init_41 fx_X0_24 (Or.inr ⟨_, rfl⟩) hf (fun h1 hf => ?_)
  have e9 := Option.some.inj hf; subst e9
  exact zv_vret K eX0_init_44 hp.2
theorem m_X0_init_b33  {x0 : Option Nat} {s0 : Option Nat} {s1 : Option Nat} {h : zH} {nx z : Nat} {x : ((Nat × Nat) × (zH))} (hf : f_X0_init_b33 x0 s0 s1 h nx z = some x) : nx ≤ x.1.1 ∧ z ≤ x.1.2 := by
  unfold f_X0_init_b33 at hf
  obtain ⟨_, _, hf⟩ := z_bind_inv hf
  have m9 := m_X0_init_b41 hf
  exact ⟨by (try dsimp only at *); omega, by (try dsimp only at *); omega⟩
set_option maxHeartbeats 4000000 in
set_option maxRecDepth 100000 in
theorem v_X0_init_b33 {X : zX} {cc0 ss0 nx0 z0 : Nat} (K : z_Ok X cX0_init none RX0 "<init>") (hX : z_Xo X (rm_X0_init cc0 ss0) 1) {x0 : Option Nat} {s0 : Option Nat} {s1 : Option Nat} {h : zH} {nx z : Nat} (hm : nx0 ≤ nx ∧ z0 ≤ z) {x : ((Nat × Nat) × (zH))} (hf : f_X0_init_b33 x0 s0 s1 h nx z = some x) (hp : z_Pm X nx0 z0 (z_P0Vm X nx0 z0) x) : zV X 33 [(0, tA x0)] [tA s1, tA s0] h nx (nx - nx0) (z - z0) := by
  have mB := m_X0_init_b33 hf
  unfold f_X0_init_b33 at hf
  refine zv_pXA K eX0_init_33 fx_X0_21 (Or.inr ⟨_, rfl⟩) hf (fun h1 hf => ?_)
  refine zv_aload_n K 0 eX0_init_36 rfl ?_
  refine zv_bipush K (7 : Int32) eX0_init_37 (by decide) ?_
  have m9 := m_X0_init_b41 hf
  refine zv_newI K 7 (nx + 1 - nx0) (z + 7 - z0) eX0_init_39 ar_int (by decide) (by decide) (by decide) (by omega) (by omega) (z_bd hp m9) ?_
  exact zv_sub [] rfl (v_X0_init_b41 K hX (by omega) hf hp)
theorem m_X0_init_b25  {x0 : Option Nat} {s0 : Option Nat} {s1 : Option Nat} {h : zH} {nx z : Nat} {x : ((Nat × Nat) × (zH))} (hf : f_X0_init_b25 x0 s0 s1 h nx z = some x) : nx ≤ x.1.1 ∧ z ≤ x.1.2 := by
  unfold f_X0_init_b25 at hf
  obtain ⟨_, _, hf⟩ := z_bind_inv hf
  have m9 := m_X0_init_b33 hf
  exact ⟨by (try dsimp only at *); omega, by (try dsimp only at *); omega⟩
set_option maxHeartbeats 4000000 in
set_option maxRecDepth 100000 in
theorem v_X0_init_b25 {X : zX} {cc0 ss0 nx0 z0 : Nat} (K : z_Ok X cX0_init none RX0 "<init>") (hX : z_Xo X (rm_X0_init cc0 ss0) 1) {x0 : Option Nat} {s0 : Option Nat} {s1 : Option Nat} {h : zH} {nx z : Nat} (hm : nx0 ≤ nx ∧ z0 ≤ z) {x : ((Nat × Nat) × (zH))} (hf : f_X0_init_b25 x0 s0 s1 h nx z = some x) (hp : z_Pm X nx0 z0 (z_P0Vm X nx0 z0) x) : zV X 25 [(0, tA x0)] [tA s1, tA s0] h nx (nx - nx0) (z - z0) := by
  have mB := m_X0_init_b25 hf
  unfold f_X0_init_b25 at hf
  refine zv_pXA K eX0_init_25 fx_X0_18 (Or.inr ⟨_, rfl⟩) hf (fun h1 hf => ?_)
  refine zv_aload_n K 0 eX0_init_28 rfl ?_
  refine zv_bipush K (7 : Int32) eX0_init_29 (by decide) ?_
  have m9 := m_X0_init_b33 hf
  refine zv_newI K 7 (nx + 1 - nx0) (z + 7 - z0) eX0_init_31 ar_int (by decide) (by decide) (by decide) (by omega) (by omega) (z_bd hp m9) ?_
  exact zv_sub [0] rfl (v_X0_init_b33 K hX (by omega) hf hp)
theorem m_X0_init_b17  {x0 : Option Nat} {s0 : Option Nat} {s1 : Option Nat} {h : zH} {nx z : Nat} {x : ((Nat × Nat) × (zH))} (hf : f_X0_init_b17 x0 s0 s1 h nx z = some x) : nx ≤ x.1.1 ∧ z ≤ x.1.2 := by
  unfold f_X0_init_b17 at hf
  obtain ⟨_, _, hf⟩ := z_bind_inv hf
  have m9 := m_X0_init_b25 hf
  exact ⟨by (try dsimp only at *); omega, by (try dsimp only at *); omega⟩
set_option maxHeartbeats 4000000 in
set_option maxRecDepth 100000 in
theorem v_X0_init_b17 {X : zX} {cc0 ss0 nx0 z0 : Nat} (K : z_Ok X cX0_init none RX0 "<init>") (hX : z_Xo X (rm_X0_init cc0 ss0) 1) {x0 : Option Nat} {s0 : Option Nat} {s1 : Option Nat} {h : zH} {nx z : Nat} (hm : nx0 ≤ nx ∧ z0 ≤ z) {x : ((Nat × Nat) × (zH))} (hf : f_X0_init_b17 x0 s0 s1 h nx z = some x) (hp : z_Pm X nx0 z0 (z_P0Vm X nx0 z0) x) : zV X 17 [(0, tA x0)] [tA s1, tA s0] h nx (nx - nx0) (z - z0) := by
  have mB := m_X0_init_b17 hf
  unfold f_X0_init_b17 at hf
  refine zv_pXA K eX0_init_17 fx_X0_15 (Or.inr ⟨_, rfl⟩) hf (fun h1 hf => ?_)
  refine zv_aload_n K 0 eX0_init_20 rfl ?_
  refine zv_bipush K (7 : Int32) eX0_init_21 (by decide) ?_
  have m9 := m_X0_init_b25 hf
  refine zv_newI K 7 (nx + 1 - nx0) (z + 7 - z0) eX0_init_23 ar_int (by decide) (by decide) (by decide) (by omega) (by omega) (z_bd hp m9) ?_
  exact zv_sub [0] rfl (v_X0_init_b25 K hX (by omega) hf hp)
theorem m_X0_init_b9  {x0 : Option Nat} {s0 : Option Nat} {s1 : Option Nat} {h : zH} {nx z : Nat} {x : ((Nat × Nat) × (zH))} (hf : f_X0_init_b9 x0 s0 s1 h nx z = some x) : nx ≤ x.1.1 ∧ z ≤ x.1.2 := by
  unfold f_X0_init_b9 at hf
  obtain ⟨_, _, hf⟩ := z_bind_inv hf
  have m9 := m_X0_init_b17 hf
  exact ⟨by (try dsimp only at *); omega, by (try dsimp only at *); omega⟩
set_option maxHeartbeats 4000000 in
set_option maxRecDepth 100000 in
theorem v_X0_init_b9 {X : zX} {cc0 ss0 nx0 z0 : Nat} (K : z_Ok X cX0_init none RX0 "<init>") (hX : z_Xo X (rm_X0_init cc0 ss0) 1) {x0 : Option Nat} {s0 : Option Nat} {s1 : Option Nat} {h : zH} {nx z : Nat} (hm : nx0 ≤ nx ∧ z0 ≤ z) {x : ((Nat × Nat) × (zH))} (hf : f_X0_init_b9 x0 s0 s1 h nx z = some x) (hp : z_Pm X nx0 z0 (z_P0Vm X nx0 z0) x) : zV X 9 [(0, tA x0)] [tA s1, tA s0] h nx (nx - nx0) (z - z0) := by
  have mB := m_X0_init_b9 hf
  unfold f_X0_init_b9 at hf
  refine zv_pXA K eX0_init_9 fx_X0_9 (Or.inr ⟨_, rfl⟩) hf (fun h1 hf => ?_)
  refine zv_aload_n K 0 eX0_init_12 rfl ?_
  refine zv_bipush K (7 : Int32) eX0_init_13 (by decide) ?_
  have m9 := m_X0_init_b17 hf
  refine zv_newI K 7 (nx + 1 - nx0) (z + 7 - z0) eX0_init_15 ar_int (by decide) (by decide) (by decide) (by omega) (by omega) (z_bd hp m9) ?_
  exact zv_sub [0] rfl (v_X0_init_b17 K hX (by omega) hf hp)
theorem m_X0_init  {x0 : Option Nat} {h : zH} {nx z : Nat} {x : ((Nat × Nat) × (zH))} (hf : f_X0_init x0 h nx z = some x) : nx ≤ x.1.1 ∧ z ≤ x.1.2 := by
  unfold f_X0_init at hf
  obtain ⟨_, _, hf⟩ := z_bind_inv hf
  have m9 := m_X0_init_b9 hf
  exact ⟨by (try dsimp only at *); omega, by (try dsimp only at *); omega⟩
set_option maxHeartbeats 4000000 in
set_option maxRecDepth 100000 in
theorem v_X0_init {X : zX} {cc0 ss0 nx0 z0 : Nat} (K : z_Ok X cX0_init none RX0 "<init>") (hX : z_Xo X (rm_X0_init cc0 ss0) 1) {x0 : Option Nat} {h : zH} {nx z : Nat} (hm : nx0 ≤ nx ∧ z0 ≤ z) {x : ((Nat × Nat) × (zH))} (hf : f_X0_init x0 h nx z = some x) (hp : z_Pm X nx0 z0 (z_P0Vm X nx0 z0) x) : zV X 0 [(0, tA x0)] [] h nx (nx - nx0) (z - z0) := by
  have mB := m_X0_init hf
  unfold f_X0_init at hf
  refine zv_aload_n K 0 eX0_init_0 rfl ?_
  refine zv_objInit K eX0_init_1 oi_X0_3 oi_im oi_co ⟨z_le (z_fr hX) (by exact Nat.le_of_ble_eq_true rfl), z_le (z_lo hX) (by exact Nat.le_of_ble_eq_true rfl)⟩ (Nat.le_of_ble_eq_true rfl) hf (fun v1 hf => ?_)
  refine zv_aload_n K 0 eX0_init_4 rfl ?_
  refine zv_bipush K (7 : Int32) eX0_init_5 (by decide) ?_
  have m9 := m_X0_init_b9 hf
  refine zv_newI K 7 (nx + 1 - nx0) (z + 7 - z0) eX0_init_7 ar_int (by decide) (by decide) (by decide) (by omega) (by omega) (z_bd hp m9) ?_
  exact zv_sub [0] rfl (v_X0_init_b9 K hX (by omega) hf hp)
theorem c_X0_init (l : Launch) (G : zG) {x0 : Option Nat} {h : zH} {nx z : Nat} {x : (Nat × Nat) × (zH)} (hf : f_X0_init x0 h nx z = some x) : z_Ct l G yX0_init cX0_init 1 none (rm_X0_init (x.1.1 - nx) (x.1.2 - z)) [tA x0] h nx none x.2 x.1.1 (x.1.1 - nx) (x.1.2 - z) :=
  z_enter [(0, tA x0)] (by decide +kernel) (Nat.le_of_ble_eq_true rfl) rfl (fun X hl hR hG hL K hq => by
    subst hl; subst hG
    have mm := m_X0_init hf
    have := v_X0_init K ⟨hR, hL⟩ (nx0 := nx) (z0 := z) ⟨Nat.le_refl _, Nat.le_refl _⟩ hf ⟨by rw [hR]; (try dsimp only [rm_X0_init]); omega, hq⟩
    rw [Nat.sub_self, Nat.sub_self] at this
    exact this)
def P_J7_fill_53178_5 (X : zX) (nx : Nat) : ((Option Nat) × Int32 × Int32 × Int32 × zH) ⊕ (zH) → Prop := z_PL (fun s => zV X 5 [(0, tA s.1), (1, tI s.2.1), (2, tI s.2.2.1), (3, tI s.2.2.2.1)] [] s.2.2.2.2 nx 0 0) (z_P0V X nx)
set_option maxHeartbeats 4000000 in
set_option maxRecDepth 100000 in
theorem v_J7_fill_53178_c5 {X : zX} (K : z_Ok X cJ7_fill_53178 none RJ7 "fill") (hX : z_Xo X rm_J7_fill_53178 4) {x0 : Option Nat} {x1 : Int32} {x2 : Int32} {x3 : Int32} {h : zH} {nx : Nat} {x : (((Option Nat) × Int32 × Int32 × Int32 × zH) ⊕ (zH))} (hf : f_J7_fill_53178_c5 x0 x1 x2 x3 h = some x) (hp : P_J7_fill_53178_5 X nx x) : zV X 5 [(0, tA x0), (1, tI x1), (2, tI x2), (3, tI x3)] [] h nx 0 0 := by
  unfold f_J7_fill_53178_c5 at hf
  refine zv_iload_n K 2 eJ7_fill_53178_5 rfl ?_
  refine zv_iload_n K 3 eJ7_fill_53178_6 rfl ?_
  refine zv_icmp_ge K 20 eJ7_fill_53178_7 (by decide) hf (fun _ hf => ?_) (fun _ hf => ?_)
  · obtain ⟨w9, hf9, e9⟩ := z_i1_inv hf; clear hf; subst e9; have hf := hf9; clear hf9
    have e9 := Option.some.inj hf; subst e9
    exact zv_vret K eJ7_fill_53178_20 hp
  · refine zv_aload_n K 0 eJ7_fill_53178_10 rfl ?_
    refine zv_iload_n K 2 eJ7_fill_53178_11 rfl ?_
    refine zv_iload_n K 1 eJ7_fill_53178_12 rfl ?_
    refine zv_sI K eJ7_fill_53178_13 hf (fun h1 hf => ?_)
    refine zv_iinc K (x2 + (1 : Int32)) 2 [(2, tI (x2 + (1 : Int32))), (0, tA x0), (1, tI x1), (3, tI x3)] eJ7_fill_53178_14 rfl rfl (z_lt hX.2 (by decide)) rfl ?_
    refine zv_goto K 5 eJ7_fill_53178_17 (by decide) ?_
    cases hf
    exact zv_sub [1, 2, 0, 3] rfl (show zV X 5 [(0, tA x0), (1, tI x1), (2, tI (x2 + (1 : Int32))), (3, tI x3)] [] h1 nx 0 0 from hp)
theorem v_J7_fill_53178_b5 {X : zX} (K : z_Ok X cJ7_fill_53178 none RJ7 "fill") (hX : z_Xo X rm_J7_fill_53178 4) {x0 : Option Nat} {x1 : Int32} {x2 : Int32} {x3 : Int32} {h : zH} {nx : Nat} {x : (zH)} (hf : f_J7_fill_53178_b5 x0 x1 x2 x3 h = some x) (hp : z_P0V X nx x) : zV X 5 [(0, tA x0), (1, tI x1), (2, tI x2), (3, tI x3)] [] h nx 0 0 :=
  z_it_ind (P := fun s : (Option Nat) × Int32 × Int32 × Int32 × zH => zV X 5 [(0, tA s.1), (1, tI s.2.1), (2, tI s.2.2.1), (3, tI s.2.2.2.1)] [] s.2.2.2.2 nx 0 0) (fun s y hb hy => v_J7_fill_53178_c5 K hX hb (z_PL_of hy hp)) hf
set_option maxHeartbeats 4000000 in
set_option maxRecDepth 100000 in
theorem v_J7_fill_53178 {X : zX} (K : z_Ok X cJ7_fill_53178 none RJ7 "fill") (hX : z_Xo X rm_J7_fill_53178 4) {x0 : Option Nat} {x1 : Int32} {h : zH} {nx : Nat} {x : (zH)} (hf : f_J7_fill_53178 x0 x1 h = some x) (hp : z_P0V X nx x) : zV X 0 [(0, tA x0), (1, tI x1)] [] h nx 0 0 := by
  unfold f_J7_fill_53178 at hf
  refine zv_iconst K (0 : Int32) eJ7_fill_53178_0 (by decide) ?_
  refine zv_istore_n K [(2, tI (0 : Int32)), (0, tA x0), (1, tI x1)] eJ7_fill_53178_1 (z_lt hX.2 (by decide)) rfl ?_
  refine zv_aload_n K 1 eJ7_fill_53178_2 rfl ?_
  refine zv_len K eJ7_fill_53178_3 hf (fun v1 hf => ?_)
  refine zv_istore_n K [(3, tI v1), (2, tI (0 : Int32)), (0, tA x0), (1, tI x1)] eJ7_fill_53178_4 (z_lt hX.2 (by decide)) rfl ?_
  exact zv_sub [2, 3, 1, 0] rfl (v_J7_fill_53178_b5 K hX hf hp)
theorem c_J7_fill_53178 (l : Launch) (G : zG) {x0 : Option Nat} {x1 : Int32} {h : zH} {nx : Nat} {x : zH} (hf : f_J7_fill_53178 x0 x1 h = some x) : z_Ct l G yJ7_fill_53178 cJ7_fill_53178 4 none rm_J7_fill_53178 [tA x0, tI x1] h nx none x nx 0 0 :=
  z_enter [(0, tA x0), (1, tI x1)] (by decide +kernel) (Nat.le_of_ble_eq_true rfl) rfl (fun X hl hR hG hL K hq => by
    subst hl; subst hG
    exact v_J7_fill_53178 K ⟨hR, hL⟩ hf hq)
set_option maxHeartbeats 4000000 in
set_option maxRecDepth 100000 in
theorem v_X0_begin {X : zX} (K : z_Ok X cX0_begin none RX0 "begin") (hX : z_Xo X rm_X0_begin 3) {x0 : Option Nat} {x1 : Option Nat} {x2 : Int32} {h : zH} {nx : Nat} {x : (zH)} (hf : f_X0_begin x0 x1 x2 h = some x) (hp : z_P0V X nx x) : zV X 0 [(0, tA x0), (1, tA x1), (2, tI x2)] [] h nx 0 0 := by
  unfold f_X0_begin at hf
  refine zv_aload_n K 0 eX0_begin_0 rfl ?_
  refine zv_iload_n K 2 eX0_begin_1 rfl ?_
  refine zv_pI K eX0_begin_2 fl_X0_27 ff_0_0 rfl hf (fun h1 hf => ?_)
  refine zv_aload_n K 0 eX0_begin_5 rfl ?_
  refine zv_iconst K (0 : Int32) eX0_begin_6 (by decide) ?_
  refine zv_pI K eX0_begin_7 fl_X0_31 ff_0_1 rfl hf (fun h2 hf => ?_)
  refine zv_aload_n K 0 eX0_begin_10 rfl ?_
  refine zv_iconst K (0 : Int32) eX0_begin_11 (by decide) ?_
  refine zv_pI K eX0_begin_12 fl_X0_34 ff_0_2 rfl hf (fun h3 hf => ?_)
  refine zv_aload_n K 0 eX0_begin_15 rfl ?_
  refine zv_anull K eX0_begin_16 ?_
  refine zv_pA K eX0_begin_17 fl_X0_37 ff_0_3 (Or.inl ⟨_, rfl⟩) hf (fun h4 hf => ?_)
  refine zv_aload_n K 1 eX0_begin_20 rfl ?_
  refine zv_iconst K (0 : Int32) eX0_begin_21 (by decide) ?_
  refine zv_aload_n K 0 eX0_begin_22 rfl ?_
  refine zv_gA K eX0_begin_23 fl_X0_9 hf (fun v5 hf => ?_)
  refine zv_iconst K (0 : Int32) eX0_begin_26 (by decide) ?_
  refine zv_iload_n K 2 eX0_begin_27 rfl ?_
  refine zv_cp K eX0_begin_28 ac_X0_41 ⟨z_le (z_fr hX) (by decide), z_le (z_lo hX) (by decide)⟩ (Nat.le_of_ble_eq_true rfl) hf (fun h6 hf => ?_)
  refine zv_aload_n K 0 eX0_begin_31 rfl ?_
  refine zv_gA K eX0_begin_32 fl_X0_15 hf (fun v7 hf => ?_)
  refine zv_iconst K (0 : Int32) eX0_begin_35 (by decide) ?_
  obtain ⟨h8, eh8, hf⟩ := z_bind_inv hf
  refine zv_cS0 K [tA v7, tI (0 : Int32)] [] eX0_begin_36 lk_X0_47 md_J7_fill_53178 st_J7_fill_53178 rfl rfl (Nat.le_of_ble_eq_true rfl) (c_J7_fill_53178 X.1.2.1 X.2.2.1 eh8) rfl rfl ⟨z_le (z_fr hX) (by decide), z_le (z_lo hX) (by decide)⟩ ⟨Nat.zero_le _, Nat.zero_le _⟩ ?_
  refine zv_aload_n K 0 eX0_begin_39 rfl ?_
  refine zv_gA K eX0_begin_40 fl_X0_18 hf (fun v9 hf => ?_)
  refine zv_bipush K (-4 : Int32) eX0_begin_43 (by decide) ?_
  obtain ⟨h10, eh10, hf⟩ := z_bind_inv hf
  refine zv_cS0 K [tA v9, tI (-4 : Int32)] [] eX0_begin_45 lk_X0_47 md_J7_fill_53178 st_J7_fill_53178 rfl rfl (Nat.le_of_ble_eq_true rfl) (c_J7_fill_53178 X.1.2.1 X.2.2.1 eh10) rfl rfl ⟨z_le (z_fr hX) (by decide), z_le (z_lo hX) (by decide)⟩ ⟨Nat.zero_le _, Nat.zero_le _⟩ ?_
  refine zv_aload_n K 0 eX0_begin_48 rfl ?_
  refine zv_gA K eX0_begin_49 fl_X0_21 hf (fun v11 hf => ?_)
  refine zv_iconst K (0 : Int32) eX0_begin_52 (by decide) ?_
  obtain ⟨h12, eh12, hf⟩ := z_bind_inv hf
  refine zv_cS0 K [tA v11, tI (0 : Int32)] [] eX0_begin_53 lk_X0_47 md_J7_fill_53178 st_J7_fill_53178 rfl rfl (Nat.le_of_ble_eq_true rfl) (c_J7_fill_53178 X.1.2.1 X.2.2.1 eh12) rfl rfl ⟨z_le (z_fr hX) (by decide), z_le (z_lo hX) (by decide)⟩ ⟨Nat.zero_le _, Nat.zero_le _⟩ ?_
  have e9 := Option.some.inj hf; subst e9
  exact zv_vret K eX0_begin_56 hp
theorem c_X0_begin (l : Launch) (G : zG) {x0 : Option Nat} {x1 : Option Nat} {x2 : Int32} {h : zH} {nx : Nat} {x : zH} (hf : f_X0_begin x0 x1 x2 h = some x) : z_Ct l G yX0_begin cX0_begin 3 none rm_X0_begin [tA x0, tA x1, tI x2] h nx none x nx 0 0 :=
  z_enter [(0, tA x0), (1, tA x1), (2, tI x2)] (by decide +kernel) (Nat.le_of_ble_eq_true rfl) rfl (fun X hl hR hG hL K hq => by
    subst hl; subst hG
    exact v_X0_begin K ⟨hR, hL⟩ hf hq)
set_option maxHeartbeats 4000000 in
set_option maxRecDepth 100000 in
theorem v_X0_become {X : zX} (K : z_Ok X cX0_become none RX0 "become") (hX : z_Xo X rm_X0_become 2) {x0 : Option Nat} {x1 : Option Nat} {h : zH} {nx : Nat} {x : (zH)} (hf : f_X0_become x0 x1 h = some x) (hp : z_P0V X nx x) : zV X 0 [(0, tA x0), (1, tA x1)] [] h nx 0 0 := by
  unfold f_X0_become at hf
  refine zv_aload_n K 0 eX0_become_0 rfl ?_
  refine zv_aload_n K 1 eX0_become_1 rfl ?_
  refine zv_gI K eX0_become_2 fl_X0_27 hf (fun v1 hf => ?_)
  refine zv_pI K eX0_become_5 fl_X0_27 ff_0_0 rfl hf (fun h2 hf => ?_)
  refine zv_aload_n K 0 eX0_become_8 rfl ?_
  refine zv_aload_n K 1 eX0_become_9 rfl ?_
  refine zv_gI K eX0_become_10 fl_X0_31 hf (fun v3 hf => ?_)
  refine zv_pI K eX0_become_13 fl_X0_31 ff_0_1 rfl hf (fun h4 hf => ?_)
  refine zv_aload_n K 0 eX0_become_16 rfl ?_
  refine zv_aload_n K 1 eX0_become_17 rfl ?_
  refine zv_gI K eX0_become_18 fl_X0_34 hf (fun v5 hf => ?_)
  refine zv_pI K eX0_become_21 fl_X0_34 ff_0_2 rfl hf (fun h6 hf => ?_)
  refine zv_aload_n K 0 eX0_become_24 rfl ?_
  refine zv_aload_n K 1 eX0_become_25 rfl ?_
  refine zv_gA K eX0_become_26 fl_X0_37 hf (fun v7 hf => ?_)
  refine zv_pA K eX0_become_29 fl_X0_37 ff_0_3 (Or.inl ⟨_, rfl⟩) hf (fun h8 hf => ?_)
  refine zv_aload_n K 1 eX0_become_32 rfl ?_
  refine zv_gA K eX0_become_33 fl_X0_9 hf (fun v9 hf => ?_)
  refine zv_iconst K (0 : Int32) eX0_become_36 (by decide) ?_
  refine zv_aload_n K 0 eX0_become_37 rfl ?_
  refine zv_gA K eX0_become_38 fl_X0_9 hf (fun v10 hf => ?_)
  refine zv_iconst K (0 : Int32) eX0_become_41 (by decide) ?_
  refine zv_aload_n K 0 eX0_become_42 rfl ?_
  refine zv_gI K eX0_become_43 fl_X0_27 hf (fun v11 hf => ?_)
  refine zv_cp K eX0_become_46 ac_X0_41 ⟨z_le (z_fr hX) (by decide), z_le (z_lo hX) (by decide)⟩ (Nat.le_of_ble_eq_true rfl) hf (fun h12 hf => ?_)
  refine zv_aload_n K 1 eX0_become_49 rfl ?_
  refine zv_gA K eX0_become_50 fl_X0_15 hf (fun v13 hf => ?_)
  refine zv_iconst K (0 : Int32) eX0_become_53 (by decide) ?_
  refine zv_aload_n K 0 eX0_become_54 rfl ?_
  refine zv_gA K eX0_become_55 fl_X0_15 hf (fun v14 hf => ?_)
  refine zv_iconst K (0 : Int32) eX0_become_58 (by decide) ?_
  refine zv_aload_n K 0 eX0_become_59 rfl ?_
  refine zv_gI K eX0_become_60 fl_X0_27 hf (fun v15 hf => ?_)
  refine zv_cp K eX0_become_63 ac_X0_41 ⟨z_le (z_fr hX) (by decide), z_le (z_lo hX) (by decide)⟩ (Nat.le_of_ble_eq_true rfl) hf (fun h16 hf => ?_)
  refine zv_aload_n K 1 eX0_become_66 rfl ?_
  refine zv_gA K eX0_become_67 fl_X0_18 hf (fun v17 hf => ?_)
  refine zv_iconst K (0 : Int32) eX0_become_70 (by decide) ?_
  refine zv_aload_n K 0 eX0_become_71 rfl ?_
  refine zv_gA K eX0_become_72 fl_X0_18 hf (fun v18 hf => ?_)
  refine zv_iconst K (0 : Int32) eX0_become_75 (by decide) ?_
  refine zv_aload_n K 0 eX0_become_76 rfl ?_
  refine zv_gI K eX0_become_77 fl_X0_27 hf (fun v19 hf => ?_)
  refine zv_cp K eX0_become_80 ac_X0_41 ⟨z_le (z_fr hX) (by decide), z_le (z_lo hX) (by decide)⟩ (Nat.le_of_ble_eq_true rfl) hf (fun h20 hf => ?_)
  refine zv_aload_n K 1 eX0_become_83 rfl ?_
  refine zv_gA K eX0_become_84 fl_X0_21 hf (fun v21 hf => ?_)
  refine zv_iconst K (0 : Int32) eX0_become_87 (by decide) ?_
  refine zv_aload_n K 0 eX0_become_88 rfl ?_
  refine zv_gA K eX0_become_89 fl_X0_21 hf (fun v22 hf => ?_)
  refine zv_iconst K (0 : Int32) eX0_become_92 (by decide) ?_
  refine zv_aload_n K 0 eX0_become_93 rfl ?_
  refine zv_gI K eX0_become_94 fl_X0_27 hf (fun v23 hf => ?_)
  refine zv_cp K eX0_become_97 ac_X0_41 ⟨z_le (z_fr hX) (by decide), z_le (z_lo hX) (by decide)⟩ (Nat.le_of_ble_eq_true rfl) hf (fun h24 hf => ?_)
  have e9 := Option.some.inj hf; subst e9
  exact zv_vret K eX0_become_100 hp
theorem c_X0_become (l : Launch) (G : zG) {x0 : Option Nat} {x1 : Option Nat} {h : zH} {nx : Nat} {x : zH} (hf : f_X0_become x0 x1 h = some x) : z_Ct l G yX0_become cX0_become 2 none rm_X0_become [tA x0, tA x1] h nx none x nx 0 0 :=
  z_enter [(0, tA x0), (1, tA x1)] (by decide +kernel) (Nat.le_of_ble_eq_true rfl) rfl (fun X hl hR hG hL K hq => by
    subst hl; subst hG
    exact v_X0_become K ⟨hR, hL⟩ hf hq)
set_option maxHeartbeats 4000000 in
set_option maxRecDepth 100000 in
theorem v_X0_isCut {X : zX} (K : z_Ok X cX0_isCut (some .boolean) RX0 "isCut") (hX : z_Xo X rm_X0_isCut 1) {x0 : Option Nat} {h : zH} {nx : Nat} {x : (Int32 × zH)} (hf : f_X0_isCut x0 h = some x) (hp : z_P0I X nx x) : zV X 0 [(0, tA x0)] [] h nx 0 0 := by
  unfold f_X0_isCut at hf
  refine zv_aload_n K 0 eX0_isCut_0 rfl ?_
  refine zv_gI K eX0_isCut_1 fl_X0_31 hf (fun v1 hf => ?_)
  refine zv_if_le K 11 eX0_isCut_4 (by decide) hf (fun _ hf => ?_) (fun _ hf => ?_)
  · refine zv_iconst K (0 : Int32) eX0_isCut_11 (by decide) ?_
    cases hf
    exact zv_zret K eX0_isCut_12 (by decide) hp
  · refine zv_iconst K (1 : Int32) eX0_isCut_7 (by decide) ?_
    refine zv_goto K 12 eX0_isCut_8 (by decide) ?_
    cases hf
    exact zv_zret K eX0_isCut_12 (by decide) hp
theorem c_X0_isCut (l : Launch) (G : zG) {x0 : Option Nat} {h : zH} {nx : Nat} {x : Int32 × zH} (hf : f_X0_isCut x0 h = some x) : z_Ct l G yX0_isCut cX0_isCut 1 (some .boolean) rm_X0_isCut [tA x0] h nx (some (tI x.1)) x.2 nx 0 0 :=
  z_enter [(0, tA x0)] (by decide +kernel) (Nat.le_of_ble_eq_true rfl) rfl (fun X hl hR hG hL K hq => by
    subst hl; subst hG
    exact v_X0_isCut K ⟨hR, hL⟩ hf hq)
set_option maxHeartbeats 4000000 in
set_option maxRecDepth 100000 in
theorem v_X0_isCutOff {X : zX} (K : z_Ok X cX0_isCutOff (some .boolean) RX0 "isCutOff") (hX : z_Xo X rm_X0_isCutOff 2) {x0 : Option Nat} {x1 : Int32} {h : zH} {nx : Nat} {x : (Int32 × zH)} (hf : f_X0_isCutOff x0 x1 h = some x) (hp : z_P0I X nx x) : zV X 0 [(0, tA x0), (1, tI x1)] [] h nx 0 0 := by
  unfold f_X0_isCutOff at hf
  refine zv_aload_n K 0 eX0_isCutOff_0 rfl ?_
  obtain ⟨q1, hq1, hf⟩ := z_bind_inv hf
  obtain ⟨v3, h2, eh2, hf⟩ := z_b2_inv hf
  refine zv_cV0 K [] [] eX0_isCutOff_1 lk_X0_53 md_X0_isCut im_X0_isCut sl_X0_isCut rfl rfl rfl rfl (Nat.le_of_ble_eq_true rfl) hq1 (c_X0_isCut X.1.2.1 X.2.2.1 eh2) rfl rfl ⟨z_le (z_fr hX) (by decide), z_le (z_lo hX) (by decide)⟩ ⟨Nat.zero_le _, Nat.zero_le _⟩ ?_
  refine zv_if_eq K 19 eX0_isCutOff_4 (by decide) hf (fun _ hf => ?_) (fun _ hf => ?_)
  · refine zv_iconst K (0 : Int32) eX0_isCutOff_19 (by decide) ?_
    cases hf
    exact zv_zret K eX0_isCutOff_20 (by decide) hp
  · refine zv_iload_n K 1 eX0_isCutOff_7 rfl ?_
    refine zv_aload_n K 0 eX0_isCutOff_8 rfl ?_
    refine zv_gI K eX0_isCutOff_9 fl_X0_31 hf (fun v4 hf => ?_)
    refine zv_icmp_lt K 19 eX0_isCutOff_12 (by decide) hf (fun _ hf => ?_) (fun _ hf => ?_)
    · refine zv_iconst K (0 : Int32) eX0_isCutOff_19 (by decide) ?_
      cases hf
      exact zv_zret K eX0_isCutOff_20 (by decide) hp
    · refine zv_iconst K (1 : Int32) eX0_isCutOff_15 (by decide) ?_
      refine zv_goto K 20 eX0_isCutOff_16 (by decide) ?_
      cases hf
      exact zv_zret K eX0_isCutOff_20 (by decide) hp
theorem c_X0_isCutOff (l : Launch) (G : zG) {x0 : Option Nat} {x1 : Int32} {h : zH} {nx : Nat} {x : Int32 × zH} (hf : f_X0_isCutOff x0 x1 h = some x) : z_Ct l G yX0_isCutOff cX0_isCutOff 2 (some .boolean) rm_X0_isCutOff [tA x0, tI x1] h nx (some (tI x.1)) x.2 nx 0 0 :=
  z_enter [(0, tA x0), (1, tI x1)] (by decide +kernel) (Nat.le_of_ble_eq_true rfl) rfl (fun X hl hR hG hL K hq => by
    subst hl; subst hG
    exact v_X0_isCutOff K ⟨hR, hL⟩ hf hq)
set_option maxHeartbeats 4000000 in
set_option maxRecDepth 100000 in
theorem v_X0_isTip {X : zX} (K : z_Ok X cX0_isTip (some .boolean) RX0 "isTip") (hX : z_Xo X rm_X0_isTip 2) {x0 : Option Nat} {x1 : Int32} {h : zH} {nx : Nat} {x : (Int32 × zH)} (hf : f_X0_isTip x0 x1 h = some x) (hp : z_P0I X nx x) : zV X 0 [(0, tA x0), (1, tI x1)] [] h nx 0 0 := by
  unfold f_X0_isTip at hf
  refine zv_iload_n K 1 eX0_isTip_0 rfl ?_
  refine zv_aload_n K 0 eX0_isTip_1 rfl ?_
  refine zv_gI K eX0_isTip_2 fl_X0_27 hf (fun v1 hf => ?_)
  refine zv_iconst K (1 : Int32) eX0_isTip_5 (by decide) ?_
  refine zv_isub K eX0_isTip_6 ?_
  refine zv_icmp_eq K 20 eX0_isTip_7 (by decide) hf (fun _ hf => ?_) (fun _ hf => ?_)
  · refine zv_iconst K (1 : Int32) eX0_isTip_20 (by decide) ?_
    refine zv_goto K 25 eX0_isTip_21 (by decide) ?_
    cases hf
    exact zv_zret K eX0_isTip_25 (by decide) hp
  · refine zv_iload_n K 1 eX0_isTip_10 rfl ?_
    refine zv_aload_n K 0 eX0_isTip_11 rfl ?_
    refine zv_gI K eX0_isTip_12 fl_X0_31 hf (fun v2 hf => ?_)
    refine zv_iconst K (1 : Int32) eX0_isTip_15 (by decide) ?_
    refine zv_isub K eX0_isTip_16 ?_
    refine zv_icmp_ne K 24 eX0_isTip_17 (by decide) hf (fun _ hf => ?_) (fun _ hf => ?_)
    · refine zv_iconst K (0 : Int32) eX0_isTip_24 (by decide) ?_
      cases hf
      exact zv_zret K eX0_isTip_25 (by decide) hp
    · refine zv_iconst K (1 : Int32) eX0_isTip_20 (by decide) ?_
      refine zv_goto K 25 eX0_isTip_21 (by decide) ?_
      cases hf
      exact zv_zret K eX0_isTip_25 (by decide) hp
theorem c_X0_isTip (l : Launch) (G : zG) {x0 : Option Nat} {x1 : Int32} {h : zH} {nx : Nat} {x : Int32 × zH} (hf : f_X0_isTip x0 x1 h = some x) : z_Ct l G yX0_isTip cX0_isTip 2 (some .boolean) rm_X0_isTip [tA x0, tI x1] h nx (some (tI x.1)) x.2 nx 0 0 :=
  z_enter [(0, tA x0), (1, tI x1)] (by decide +kernel) (Nat.le_of_ble_eq_true rfl) rfl (fun X hl hR hG hL K hq => by
    subst hl; subst hG
    exact v_X0_isTip K ⟨hR, hL⟩ hf hq)
set_option maxHeartbeats 4000000 in
set_option maxRecDepth 100000 in
theorem v_X0_canEverMove {X : zX} (K : z_Ok X cX0_canEverMove (some .boolean) RX0 "canEverMove") (hX : z_Xo X rm_X0_canEverMove 2) {x0 : Option Nat} {x1 : Int32} {h : zH} {nx : Nat} {x : (Int32 × zH)} (hf : f_X0_canEverMove x0 x1 h = some x) (hp : z_P0I X nx x) : zV X 0 [(0, tA x0), (1, tI x1)] [] h nx 0 0 := by
  unfold f_X0_canEverMove at hf
  refine zv_iload_n K 1 eX0_canEverMove_0 rfl ?_
  refine zv_if_le K 16 eX0_canEverMove_1 (by decide) hf (fun _ hf => ?_) (fun _ hf => ?_)
  · refine zv_iconst K (0 : Int32) eX0_canEverMove_16 (by decide) ?_
    cases hf
    exact zv_zret K eX0_canEverMove_17 (by decide) hp
  · refine zv_iload_n K 1 eX0_canEverMove_4 rfl ?_
    refine zv_aload_n K 0 eX0_canEverMove_5 rfl ?_
    refine zv_gI K eX0_canEverMove_6 fl_X0_31 hf (fun v1 hf => ?_)
    refine zv_icmp_eq K 16 eX0_canEverMove_9 (by decide) hf (fun _ hf => ?_) (fun _ hf => ?_)
    · refine zv_iconst K (0 : Int32) eX0_canEverMove_16 (by decide) ?_
      cases hf
      exact zv_zret K eX0_canEverMove_17 (by decide) hp
    · refine zv_iconst K (1 : Int32) eX0_canEverMove_12 (by decide) ?_
      refine zv_goto K 17 eX0_canEverMove_13 (by decide) ?_
      cases hf
      exact zv_zret K eX0_canEverMove_17 (by decide) hp
theorem c_X0_canEverMove (l : Launch) (G : zG) {x0 : Option Nat} {x1 : Int32} {h : zH} {nx : Nat} {x : Int32 × zH} (hf : f_X0_canEverMove x0 x1 h = some x) : z_Ct l G yX0_canEverMove cX0_canEverMove 2 (some .boolean) rm_X0_canEverMove [tA x0, tI x1] h nx (some (tI x.1)) x.2 nx 0 0 :=
  z_enter [(0, tA x0), (1, tI x1)] (by decide +kernel) (Nat.le_of_ble_eq_true rfl) rfl (fun X hl hR hG hL K hq => by
    subst hl; subst hG
    exact v_X0_canEverMove K ⟨hR, hL⟩ hf hq)
set_option maxHeartbeats 4000000 in
set_option maxRecDepth 100000 in
theorem v_X10_sideOf {X : zX} (K : z_Ok X cX10_sideOf (some .int) RX10 "sideOf") (hX : z_Xo X rm_X10_sideOf 2) {x0 : Int32} {x1 : Int32} {h : zH} {nx : Nat} {x : (Int32 × zH)} (hf : f_X10_sideOf x0 x1 h = some x) (hp : z_P0I X nx x) : zV X 0 [(0, tI x0), (1, tI x1)] [] h nx 0 0 := by
  unfold f_X10_sideOf at hf
  refine zv_iload_n K 1 eX10_sideOf_0 rfl ?_
  refine zv_iload_n K 0 eX10_sideOf_1 rfl ?_
  refine zv_isub K eX10_sideOf_2 ?_
  refine z_ite_inv _ hf (fun cm1 hf => ?_) (fun cm1 hf => ?_)
  · refine zv_lsw K (off := 37) 40 eX10_sideOf_3 (by decide) (by rw [cm1]; decide) (by decide) ?_
    refine zv_iconst K (2 : Int32) eX10_sideOf_40 (by decide) ?_
    have e9 := Option.some.inj hf; subst e9
    exact zv_iret K eX10_sideOf_41 hp
  refine z_ite_inv _ hf (fun c1 hf => ?_) (fun c1 hf => ?_)
  · refine zv_lsw K (off := 33) 36 eX10_sideOf_3 (by decide) (by rw [c1]; decide) (by decide) ?_
    refine zv_iconst K (0 : Int32) eX10_sideOf_36 (by decide) ?_
    have e9 := Option.some.inj hf; subst e9
    exact zv_iret K eX10_sideOf_37 hp
  refine z_ite_inv _ hf (fun c8 hf => ?_) (fun c8 hf => ?_)
  · refine zv_lsw K (off := 35) 38 eX10_sideOf_3 (by decide) (by rw [c8]; decide) (by decide) ?_
    refine zv_iconst K (1 : Int32) eX10_sideOf_38 (by decide) ?_
    have e9 := Option.some.inj hf; subst e9
    exact zv_iret K eX10_sideOf_39 hp
  have ecm1 := lv_neT (a := -1) cm1 (by decide)
  have ec1 := lv_neT (a := 1) c1 (by decide)
  have ec8 := lv_neT (a := 8) c8 (by decide)
  refine zv_lsw K (off := 39) 42 eX10_sideOf_3 (by decide) (by refine Eq.trans (show _ = (if (-1 : Int) = (x1 - x0).toInt then (37 : Int) else if (1 : Int) = (x1 - x0).toInt then (33 : Int) else if (8 : Int) = (x1 - x0).toInt then (35 : Int) else (39 : Int)) from rfl) ?_; rw [if_neg (fun e => ecm1 e.symm), if_neg (fun e => ec1 e.symm), if_neg (fun e => ec8 e.symm)]) (by decide) ?_
  refine zv_iconst K (3 : Int32) eX10_sideOf_42 (by decide) ?_
  have e9 := Option.some.inj hf; subst e9
  exact zv_iret K eX10_sideOf_43 hp
theorem c_X10_sideOf (l : Launch) (G : zG) {x0 : Int32} {x1 : Int32} {h : zH} {nx : Nat} {x : Int32 × zH} (hf : f_X10_sideOf x0 x1 h = some x) : z_Ct l G yX10_sideOf cX10_sideOf 2 (some .int) rm_X10_sideOf [tI x0, tI x1] h nx (some (tI x.1)) x.2 nx 0 0 :=
  z_enter [(0, tI x0), (1, tI x1)] (by decide +kernel) (Nat.le_of_ble_eq_true rfl) rfl (fun X hl hR hG hL K hq => by
    subst hl; subst hG
    exact v_X10_sideOf K ⟨hR, hL⟩ hf hq)
def P_X0_formNow_4 (X : zX) (nx : Nat) : ((Option Nat) × Int32 × Int32 × zH) ⊕ (Int32 × zH) → Prop := z_PL (fun s => zV X 4 [(0, tA s.1), (1, tI s.2.1), (2, tI s.2.2.1)] [] s.2.2.2 nx 0 0) (z_P0I X nx)
set_option maxHeartbeats 4000000 in
set_option maxRecDepth 100000 in
theorem v_X0_formNow_c4 {X : zX} (K : z_Ok X cX0_formNow (some .int) RX0 "formNow") (hX : z_Xo X rm_X0_formNow 3) {x0 : Option Nat} {x1 : Int32} {x2 : Int32} {h : zH} {nx : Nat} {x : (((Option Nat) × Int32 × Int32 × zH) ⊕ (Int32 × zH))} (hf : f_X0_formNow_c4 x0 x1 x2 h = some x) (hp : P_X0_formNow_4 X nx x) : zV X 4 [(0, tA x0), (1, tI x1), (2, tI x2)] [] h nx 0 0 := by
  unfold f_X0_formNow_c4 at hf
  refine zv_iload_n K 2 eX0_formNow_4 rfl ?_
  refine zv_aload_n K 0 eX0_formNow_5 rfl ?_
  refine zv_gI K eX0_formNow_6 fl_X0_27 hf (fun v1 hf => ?_)
  refine zv_icmp_ge K 44 eX0_formNow_9 (by decide) hf (fun _ hf => ?_) (fun _ hf => ?_)
  · obtain ⟨w9, hf9, e9⟩ := z_i1_inv hf; clear hf; subst e9; have hf := hf9; clear hf9
    refine zv_iload_n K 1 eX0_formNow_44 rfl ?_
    have e9 := Option.some.inj hf; subst e9
    exact zv_iret K eX0_formNow_45 hp
  · refine zv_iload_n K 1 eX0_formNow_12 rfl ?_
    refine zv_aload_n K 0 eX0_formNow_13 rfl ?_
    refine zv_gA K eX0_formNow_14 fl_X0_9 hf (fun v2 hf => ?_)
    refine zv_iload_n K 2 eX0_formNow_17 rfl ?_
    refine zv_iconst K (1 : Int32) eX0_formNow_18 (by decide) ?_
    refine zv_isub K eX0_formNow_19 ?_
    refine zv_aI K eX0_formNow_20 hf (fun v3 hf => ?_)
    refine zv_aload_n K 0 eX0_formNow_21 rfl ?_
    refine zv_gA K eX0_formNow_22 fl_X0_9 hf (fun v4 hf => ?_)
    refine zv_iload_n K 2 eX0_formNow_25 rfl ?_
    refine zv_aI K eX0_formNow_26 hf (fun v5 hf => ?_)
    obtain ⟨v7, h6, eh6, hf⟩ := z_b2_inv hf
    refine zv_cS0 K [tI v3, tI v5] [tI x1] eX0_formNow_27 lk_X0_57 md_X10_sideOf st_X10_sideOf rfl rfl (Nat.le_of_ble_eq_true rfl) (c_X10_sideOf X.1.2.1 X.2.2.1 eh6) rfl rfl ⟨z_le (z_fr hX) (by decide), z_le (z_lo hX) (by decide)⟩ ⟨Nat.zero_le _, Nat.zero_le _⟩ ?_
    refine zv_iconst K (2 : Int32) eX0_formNow_30 (by decide) ?_
    refine zv_iload_n K 2 eX0_formNow_31 rfl ?_
    refine zv_iconst K (1 : Int32) eX0_formNow_32 (by decide) ?_
    refine zv_isub K eX0_formNow_33 ?_
    refine zv_imul K eX0_formNow_34 ?_
    refine zv_ishl K eX0_formNow_35 ?_
    refine zv_ior K eX0_formNow_36 ?_
    refine zv_istore_n K [(1, tI (x1 ||| (v7 <<< (((2 : Int32) * (x2 - (1 : Int32))) &&& 31)))), (0, tA x0), (2, tI x2)] eX0_formNow_37 (z_lt hX.2 (by decide)) rfl ?_
    refine zv_iinc K (x2 + (1 : Int32)) 2 [(2, tI (x2 + (1 : Int32))), (1, tI (x1 ||| (v7 <<< (((2 : Int32) * (x2 - (1 : Int32))) &&& 31)))), (0, tA x0)] eX0_formNow_38 rfl rfl (z_lt hX.2 (by decide)) rfl ?_
    refine zv_goto K 4 eX0_formNow_41 (by decide) ?_
    cases hf
    exact zv_sub [2, 1, 0] rfl (show zV X 4 [(0, tA x0), (1, tI (x1 ||| (v7 <<< (((2 : Int32) * (x2 - (1 : Int32))) &&& 31)))), (2, tI (x2 + (1 : Int32)))] [] h6 nx 0 0 from hp)
theorem v_X0_formNow_b4 {X : zX} (K : z_Ok X cX0_formNow (some .int) RX0 "formNow") (hX : z_Xo X rm_X0_formNow 3) {x0 : Option Nat} {x1 : Int32} {x2 : Int32} {h : zH} {nx : Nat} {x : (Int32 × zH)} (hf : f_X0_formNow_b4 x0 x1 x2 h = some x) (hp : z_P0I X nx x) : zV X 4 [(0, tA x0), (1, tI x1), (2, tI x2)] [] h nx 0 0 :=
  z_it_ind (P := fun s : (Option Nat) × Int32 × Int32 × zH => zV X 4 [(0, tA s.1), (1, tI s.2.1), (2, tI s.2.2.1)] [] s.2.2.2 nx 0 0) (fun s y hb hy => v_X0_formNow_c4 K hX hb (z_PL_of hy hp)) hf
set_option maxHeartbeats 4000000 in
set_option maxRecDepth 100000 in
theorem v_X0_formNow {X : zX} (K : z_Ok X cX0_formNow (some .int) RX0 "formNow") (hX : z_Xo X rm_X0_formNow 3) {x0 : Option Nat} {h : zH} {nx : Nat} {x : (Int32 × zH)} (hf : f_X0_formNow x0 h = some x) (hp : z_P0I X nx x) : zV X 0 [(0, tA x0)] [] h nx 0 0 := by
  unfold f_X0_formNow at hf
  refine zv_iconst K (0 : Int32) eX0_formNow_0 (by decide) ?_
  refine zv_istore_n K [(1, tI (0 : Int32)), (0, tA x0)] eX0_formNow_1 (z_lt hX.2 (by decide)) rfl ?_
  refine zv_iconst K (1 : Int32) eX0_formNow_2 (by decide) ?_
  refine zv_istore_n K [(2, tI (1 : Int32)), (1, tI (0 : Int32)), (0, tA x0)] eX0_formNow_3 (z_lt hX.2 (by decide)) rfl ?_
  exact zv_sub [2, 1, 0] rfl (v_X0_formNow_b4 K hX hf hp)
theorem c_X0_formNow (l : Launch) (G : zG) {x0 : Option Nat} {h : zH} {nx : Nat} {x : Int32 × zH} (hf : f_X0_formNow x0 h = some x) : z_Ct l G yX0_formNow cX0_formNow 3 (some .int) rm_X0_formNow [tA x0] h nx (some (tI x.1)) x.2 nx 0 0 :=
  z_enter [(0, tA x0)] (by decide +kernel) (Nat.le_of_ble_eq_true rfl) rfl (fun X hl hR hG hL K hq => by
    subst hl; subst hG
    exact v_X0_formNow K ⟨hR, hL⟩ hf hq)
set_option maxHeartbeats 4000000 in
set_option maxRecDepth 100000 in
theorem v_X1_init {X : zX} (K : z_Ok X cX1_init none RX1 "<init>") (hX : z_Xo X rm_X1_init 1) {x0 : Option Nat} {h : zH} {nx : Nat} {x : (zH)} (hf : f_X1_init x0 h = some x) (hp : z_P0V X nx x) : zV X 0 [(0, tA x0)] [] h nx 0 0 := by
  unfold f_X1_init at hf
  refine zv_aload_n K 0 eX1_init_0 rfl ?_
  refine zv_objInit K eX1_init_1 oi_X1_3 oi_im oi_co ⟨z_le (z_fr hX) (by decide), z_le (z_lo hX) (by decide)⟩ (Nat.le_of_ble_eq_true rfl) hf (fun v1 hf => ?_)
  have e9 := Option.some.inj hf; subst e9
  exact zv_vret K eX1_init_4 hp
theorem c_X1_init (l : Launch) (G : zG) {x0 : Option Nat} {h : zH} {nx : Nat} {x : zH} (hf : f_X1_init x0 h = some x) : z_Ct l G yX1_init cX1_init 1 none rm_X1_init [tA x0] h nx none x nx 0 0 :=
  z_enter [(0, tA x0)] (by decide +kernel) (Nat.le_of_ble_eq_true rfl) rfl (fun X hl hR hG hL K hq => by
    subst hl; subst hG
    exact v_X1_init K ⟨hR, hL⟩ hf hq)
def P_X1_holds_12 (X : zX) (nx : Nat) : (Int32 × Int32 × Int32 × (Option Nat) × zH) ⊕ (Int32 × zH) → Prop := z_PL (fun s => zV X 12 [(1, tI s.1), (2, tI s.2.1), (3, tI s.2.2.1), (4, tA s.2.2.2.1)] [] s.2.2.2.2 nx 0 0) (z_P0I X nx)
set_option maxHeartbeats 4000000 in
set_option maxRecDepth 100000 in
theorem v_X1_holds_b93 {X : zX} {rec : Option Nat → Int32 → Int32 → zH → Option (Int32 × zH)} {dd : Nat} (K : z_Ok X cX1_holds (some .boolean) RX1 "holds") (hX : z_Xo X (rm_X1_holds (dd + 1)) 6) (hrec : ∀ {y0 : Option Nat} {y1 : Int32} {y2 : Int32} {h : zH} {nx : Nat} {x : Int32 × zH}, rec y0 y1 y2 h = some x → z_Ct X.1.2.1 X.2.2.1 yX1_holds cX1_holds 6 (some .boolean) (rm_X1_holds dd) [tA y0, tI y1, tI y2] h nx (some (tI x.1)) x.2 nx 0 0) {x1 : Int32} {x2 : Int32} {x3 : Int32} {x4 : Option Nat} {h : zH} {nx : Nat} {x : ((Int32 × Int32 × Int32 × (Option Nat) × zH) ⊕ (Int32 × zH))} (hf : f_X1_holds_b93 rec x1 x2 x3 x4 h = some x) (hp : P_X1_holds_12 X nx x) : zV X 93 [(1, tI x1), (2, tI x2), (3, tI x3), (4, tA x4)] [] h nx 0 0 := by
  unfold f_X1_holds_b93 at hf
  refine zv_aload K 3 eX1_holds_93 rfl ?_
  refine zv_gA K eX1_holds_95 fl_X1_30 hf (fun v1 hf => ?_)
  refine zv_astore K [(4, tA v1), (1, tI x1), (2, tI x2), (3, tI x3)] eX1_holds_98 (z_lt hX.2 (by decide)) rfl ?_
  refine zv_goto K 12 eX1_holds_100 (by decide) ?_
  cases hf
  exact zv_sub [1, 2, 3, 0] rfl (show zV X 12 [(1, tI x1), (2, tI x2), (3, tI x3), (4, tA v1)] [] h nx 0 0 from hp)
set_option maxHeartbeats 4000000 in
set_option maxRecDepth 100000 in
theorem v_X1_holds_b92 {X : zX} {rec : Option Nat → Int32 → Int32 → zH → Option (Int32 × zH)} {dd : Nat} (K : z_Ok X cX1_holds (some .boolean) RX1 "holds") (hX : z_Xo X (rm_X1_holds (dd + 1)) 6) (hrec : ∀ {y0 : Option Nat} {y1 : Int32} {y2 : Int32} {h : zH} {nx : Nat} {x : Int32 × zH}, rec y0 y1 y2 h = some x → z_Ct X.1.2.1 X.2.2.1 yX1_holds cX1_holds 6 (some .boolean) (rm_X1_holds dd) [tA y0, tI y1, tI y2] h nx (some (tI x.1)) x.2 nx 0 0) {x1 : Int32} {x2 : Int32} {x4 : Option Nat} {s0 : Int32} {h : zH} {nx : Nat} {x : ((Int32 × Int32 × Int32 × (Option Nat) × zH) ⊕ (Int32 × zH))} (hf : f_X1_holds_b92 rec x1 x2 x4 s0 h = some x) (hp : P_X1_holds_12 X nx x) : zV X 92 [(1, tI x1), (2, tI x2), (4, tA x4)] [tI s0] h nx 0 0 := by
  unfold f_X1_holds_b92 at hf
  refine zv_istore_n K [(3, tI s0), (1, tI x1), (2, tI x2), (4, tA x4)] eX1_holds_92 (z_lt hX.2 (by decide)) rfl ?_
  exact zv_sub [1, 2, 0, 3] rfl (v_X1_holds_b93 K hX hrec hf hp)
set_option maxHeartbeats 4000000 in
set_option maxRecDepth 100000 in
theorem v_X1_holds_b75 {X : zX} {rec : Option Nat → Int32 → Int32 → zH → Option (Int32 × zH)} {dd : Nat} (K : z_Ok X cX1_holds (some .boolean) RX1 "holds") (hX : z_Xo X (rm_X1_holds (dd + 1)) 6) (hrec : ∀ {y0 : Option Nat} {y1 : Int32} {y2 : Int32} {h : zH} {nx : Nat} {x : Int32 × zH}, rec y0 y1 y2 h = some x → z_Ct X.1.2.1 X.2.2.1 yX1_holds cX1_holds 6 (some .boolean) (rm_X1_holds dd) [tA y0, tI y1, tI y2] h nx (some (tI x.1)) x.2 nx 0 0) {x1 : Int32} {x2 : Int32} {x4 : Option Nat} {s0 : Int32} {h : zH} {nx : Nat} {x : ((Int32 × Int32 × Int32 × (Option Nat) × zH) ⊕ (Int32 × zH))} (hf : f_X1_holds_b75 rec x1 x2 x4 s0 h = some x) (hp : P_X1_holds_12 X nx x) : zV X 75 [(1, tI x1), (2, tI x2), (4, tA x4)] [tI s0] h nx 0 0 := by
  unfold f_X1_holds_b75 at hf
  refine zv_istore K [(5, tI s0), (1, tI x1), (2, tI x2), (4, tA x4)] eX1_holds_75 (z_lt hX.2 (by decide)) rfl ?_
  refine zv_iload K 0 eX1_holds_77 rfl ?_
  refine zv_aload K 3 eX1_holds_79 rfl ?_
  refine zv_gI K eX1_holds_81 fl_X1_27 hf (fun v1 hf => ?_)
  refine zv_icmp_eq K 91 eX1_holds_84 (by decide) hf (fun _ hf => ?_) (fun _ hf => ?_)
  · refine zv_iconst K (0 : Int32) eX1_holds_91 (by decide) ?_
    exact zv_sub [1, 2, 3] rfl (v_X1_holds_b92 K hX hrec hf hp)
  · refine zv_iconst K (1 : Int32) eX1_holds_87 (by decide) ?_
    refine zv_goto K 92 eX1_holds_88 (by decide) ?_
    exact zv_sub [1, 2, 3] rfl (v_X1_holds_b92 K hX hrec hf hp)
set_option maxHeartbeats 4000000 in
set_option maxRecDepth 100000 in
theorem v_X1_holds_b33 {X : zX} {rec : Option Nat → Int32 → Int32 → zH → Option (Int32 × zH)} {dd : Nat} (K : z_Ok X cX1_holds (some .boolean) RX1 "holds") (hX : z_Xo X (rm_X1_holds (dd + 1)) 6) (hrec : ∀ {y0 : Option Nat} {y1 : Int32} {y2 : Int32} {h : zH} {nx : Nat} {x : Int32 × zH}, rec y0 y1 y2 h = some x → z_Ct X.1.2.1 X.2.2.1 yX1_holds cX1_holds 6 (some .boolean) (rm_X1_holds dd) [tA y0, tI y1, tI y2] h nx (some (tI x.1)) x.2 nx 0 0) {x1 : Int32} {x2 : Int32} {x3 : Int32} {x4 : Option Nat} {h : zH} {nx : Nat} {x : ((Int32 × Int32 × Int32 × (Option Nat) × zH) ⊕ (Int32 × zH))} (hf : f_X1_holds_b33 rec x1 x2 x3 x4 h = some x) (hp : P_X1_holds_12 X nx x) : zV X 33 [(1, tI x1), (2, tI x2), (3, tI x3), (4, tA x4)] [] h nx 0 0 := by
  unfold f_X1_holds_b33 at hf
  refine zv_iload_n K 2 eX1_holds_33 rfl ?_
  refine zv_if_eq K 93 eX1_holds_34 (by decide) hf (fun _ hf => ?_) (fun _ hf => ?_)
  · exact zv_sub [0, 1, 2, 3] rfl (v_X1_holds_b93 K hX hrec hf hp)
  · refine zv_aload K 3 eX1_holds_37 rfl ?_
    refine zv_gA K eX1_holds_39 fl_X1_15 hf (fun v1 hf => ?_)
    refine zv_ifnonnull K 63 eX1_holds_42 (by decide) hf (fun _ hf => ?_) (fun _ hf => ?_)
    · refine zv_aload K 3 eX1_holds_63 rfl ?_
      refine zv_gA K eX1_holds_65 fl_X1_15 hf (fun v2 hf => ?_)
      refine zv_iload_n K 0 eX1_holds_68 rfl ?_
      refine zv_iload_n K 1 eX1_holds_69 rfl ?_
      refine zv_iconst K (1 : Int32) eX1_holds_70 (by decide) ?_
      refine zv_iadd K eX1_holds_71 ?_
      obtain ⟨v4, h3, eh3, hf⟩ := z_b2_inv hf
      refine zv_cS0 K [tA v2, tI x1, tI (x2 + (1 : Int32))] [] eX1_holds_72 lk_X1_23 md_X1_holds st_X1_holds rfl rfl (Nat.le_of_ble_eq_true rfl) (hrec eh3) rfl rfl ⟨z_le (z_fr hX) (by simp only [rm_X1_holds]; omega), z_le (z_lo hX) (by simp only [rm_X1_holds]; omega)⟩ ⟨Nat.zero_le _, Nat.zero_le _⟩ ?_
      exact zv_sub [0, 1, 3] rfl (v_X1_holds_b75 K hX hrec hf hp)
    · refine zv_iload_n K 0 eX1_holds_45 rfl ?_
      refine zv_aload K 3 eX1_holds_46 rfl ?_
      refine zv_gI K eX1_holds_48 fl_X1_19 hf (fun v5 hf => ?_)
      refine zv_iand K eX1_holds_51 ?_
      refine zv_if_eq K 59 eX1_holds_52 (by decide) hf (fun _ hf => ?_) (fun _ hf => ?_)
      · refine zv_iconst K (0 : Int32) eX1_holds_59 (by decide) ?_
        refine zv_goto K 75 eX1_holds_60 (by decide) ?_
        exact zv_sub [0, 1, 3] rfl (v_X1_holds_b75 K hX hrec hf hp)
      · refine zv_iconst K (1 : Int32) eX1_holds_55 (by decide) ?_
        refine zv_goto K 75 eX1_holds_56 (by decide) ?_
        exact zv_sub [0, 1, 3] rfl (v_X1_holds_b75 K hX hrec hf hp)
set_option maxHeartbeats 4000000 in
set_option maxRecDepth 100000 in
theorem v_X1_holds_c12 {X : zX} {rec : Option Nat → Int32 → Int32 → zH → Option (Int32 × zH)} {dd : Nat} (K : z_Ok X cX1_holds (some .boolean) RX1 "holds") (hX : z_Xo X (rm_X1_holds (dd + 1)) 6) (hrec : ∀ {y0 : Option Nat} {y1 : Int32} {y2 : Int32} {h : zH} {nx : Nat} {x : Int32 × zH}, rec y0 y1 y2 h = some x → z_Ct X.1.2.1 X.2.2.1 yX1_holds cX1_holds 6 (some .boolean) (rm_X1_holds dd) [tA y0, tI y1, tI y2] h nx (some (tI x.1)) x.2 nx 0 0) {x1 : Int32} {x2 : Int32} {x3 : Int32} {x4 : Option Nat} {h : zH} {nx : Nat} {x : ((Int32 × Int32 × Int32 × (Option Nat) × zH) ⊕ (Int32 × zH))} (hf : f_X1_holds_c12 rec x1 x2 x3 x4 h = some x) (hp : P_X1_holds_12 X nx x) : zV X 12 [(1, tI x1), (2, tI x2), (3, tI x3), (4, tA x4)] [] h nx 0 0 := by
  unfold f_X1_holds_c12 at hf
  refine zv_aload K 3 eX1_holds_12 rfl ?_
  refine zv_ifnull K 103 eX1_holds_14 (by decide) hf (fun _ hf => ?_) (fun _ hf => ?_)
  · obtain ⟨w9, hf9, e9⟩ := z_i1_inv hf; clear hf; subst e9; have hf := hf9; clear hf9
    refine zv_iload_n K 2 eX1_holds_103 rfl ?_
    refine z_ite_inv _ hf (fun hv hf => ?_) (fun _ hf => ?_)
    · cases hf
      exact zv_zret K eX1_holds_104 hv hp
    · cases hf
  · refine zv_aload K 3 eX1_holds_17 rfl ?_
    refine zv_gI K eX1_holds_19 fl_X1_9 hf (fun v1 hf => ?_)
    refine zv_if_eq K 33 eX1_holds_22 (by decide) hf (fun _ hf => ?_) (fun _ hf => ?_)
    · exact zv_sub [0, 1, 2, 3] rfl (v_X1_holds_b33 K hX hrec hf hp)
    · refine zv_iload_n K 2 eX1_holds_25 rfl ?_
      refine zv_if_eq K 31 eX1_holds_26 (by decide) hf (fun _ hf => ?_) (fun _ hf => ?_)
      · refine zv_iconst K (1 : Int32) eX1_holds_31 (by decide) ?_
        refine zv_istore_n K [(3, tI (1 : Int32)), (1, tI x1), (2, tI x2), (4, tA x4)] eX1_holds_32 (z_lt hX.2 (by decide)) rfl ?_
        exact zv_sub [1, 2, 0, 3] rfl (v_X1_holds_b33 K hX hrec hf hp)
      · obtain ⟨w9, hf9, e9⟩ := z_i1_inv hf; clear hf; subst e9; have hf := hf9; clear hf9
        refine zv_iconst K (1 : Int32) eX1_holds_29 (by decide) ?_
        cases hf
        exact zv_zret K eX1_holds_30 (by decide) hp
theorem v_X1_holds_b12 {X : zX} {rec : Option Nat → Int32 → Int32 → zH → Option (Int32 × zH)} {dd : Nat} (K : z_Ok X cX1_holds (some .boolean) RX1 "holds") (hX : z_Xo X (rm_X1_holds (dd + 1)) 6) (hrec : ∀ {y0 : Option Nat} {y1 : Int32} {y2 : Int32} {h : zH} {nx : Nat} {x : Int32 × zH}, rec y0 y1 y2 h = some x → z_Ct X.1.2.1 X.2.2.1 yX1_holds cX1_holds 6 (some .boolean) (rm_X1_holds dd) [tA y0, tI y1, tI y2] h nx (some (tI x.1)) x.2 nx 0 0) {x1 : Int32} {x2 : Int32} {x3 : Int32} {x4 : Option Nat} {h : zH} {nx : Nat} {x : (Int32 × zH)} (hf : f_X1_holds_b12 rec x1 x2 x3 x4 h = some x) (hp : z_P0I X nx x) : zV X 12 [(1, tI x1), (2, tI x2), (3, tI x3), (4, tA x4)] [] h nx 0 0 :=
  z_it_ind (P := fun s : Int32 × Int32 × Int32 × (Option Nat) × zH => zV X 12 [(1, tI s.1), (2, tI s.2.1), (3, tI s.2.2.1), (4, tA s.2.2.2.1)] [] s.2.2.2.2 nx 0 0) (fun s y hb hy => v_X1_holds_c12 K hX hrec hb (z_PL_of hy hp)) hf
set_option maxHeartbeats 4000000 in
set_option maxRecDepth 100000 in
theorem v_X1_holds_r {X : zX} {rec : Option Nat → Int32 → Int32 → zH → Option (Int32 × zH)} {dd : Nat} (K : z_Ok X cX1_holds (some .boolean) RX1 "holds") (hX : z_Xo X (rm_X1_holds (dd + 1)) 6) (hrec : ∀ {y0 : Option Nat} {y1 : Int32} {y2 : Int32} {h : zH} {nx : Nat} {x : Int32 × zH}, rec y0 y1 y2 h = some x → z_Ct X.1.2.1 X.2.2.1 yX1_holds cX1_holds 6 (some .boolean) (rm_X1_holds dd) [tA y0, tI y1, tI y2] h nx (some (tI x.1)) x.2 nx 0 0) {x0 : Option Nat} {x1 : Int32} {x2 : Int32} {h : zH} {nx : Nat} {x : (Int32 × zH)} (hf : f_X1_holds_r rec x0 x1 x2 h = some x) (hp : z_P0I X nx x) : zV X 0 [(0, tA x0), (1, tI x1), (2, tI x2)] [] h nx 0 0 := by
  unfold f_X1_holds_r at hf
  refine zv_iload_n K 2 eX1_holds_0 rfl ?_
  refine zv_iconst K (4 : Int32) eX1_holds_1 (by decide) ?_
  refine zv_icmp_le K 7 eX1_holds_2 (by decide) hf (fun _ hf => ?_) (fun _ hf => ?_)
  · refine zv_iconst K (1 : Int32) eX1_holds_7 (by decide) ?_
    refine zv_istore_n K [(3, tI (1 : Int32)), (0, tA x0), (1, tI x1), (2, tI x2)] eX1_holds_8 (z_lt hX.2 (by decide)) rfl ?_
    refine zv_aload_n K 1 eX1_holds_9 rfl ?_
    refine zv_astore K [(4, tA x0), (3, tI (1 : Int32)), (0, tA x0), (1, tI x1), (2, tI x2)] eX1_holds_10 (z_lt hX.2 (by decide)) rfl ?_
    exact zv_sub [3, 4, 1, 0] rfl (v_X1_holds_b12 K hX hrec hf hp)
  · refine zv_iconst K (0 : Int32) eX1_holds_5 (by decide) ?_
    cases hf
    exact zv_zret K eX1_holds_6 (by decide) hp
theorem c_X1_holds (l : Launch) (G : zG) : ∀ {dd : Nat} {x0 : Option Nat} {x1 : Int32} {x2 : Int32} {h : zH} {nx : Nat} {x : Int32 × zH}, f_X1_holds  dd x0 x1 x2 h = some x → z_Ct l G yX1_holds cX1_holds 6 (some .boolean) (rm_X1_holds dd) [tA x0, tI x1, tI x2] h nx (some (tI x.1)) x.2 nx 0 0 := by
  intro dd
  induction dd with
  | zero => intros; rename_i hf; cases hf
  | succ dd ih =>
    intro x0 x1 x2 h nx x hf
    refine z_enter [(0, tA x0), (1, tI x1), (2, tI x2)] (by decide +kernel) (Nat.le_of_ble_eq_true rfl) rfl (fun X hl hR hG hL K hq => ?_)
    subst hl; subst hG
    exact v_X1_holds_r (rec := f_X1_holds  dd) K ⟨hR, hL⟩ (fun e => ih e) hf hq
theorem m_X2_init_b15  {s0 : Option Nat} {s1 : Option Nat} {h : zH} {nx z : Nat} {x : ((Nat × Nat) × (zH))} (hf : f_X2_init_b15 s0 s1 h nx z = some x) : nx ≤ x.1.1 ∧ z ≤ x.1.2 := by
  unfold f_X2_init_b15 at hf
  obtain ⟨_, _, hf⟩ := z_bind_inv hf
  cases hf
  exact ⟨by (try dsimp only at *); omega, by (try dsimp only at *); omega⟩
set_option maxHeartbeats 4000000 in
set_option maxRecDepth 100000 in
theorem v_X2_init_b15 {X : zX} {cc0 ss0 nx0 z0 : Nat} (K : z_Ok X cX2_init none RX2 "<init>") (hX : z_Xo X (rm_X2_init cc0 ss0) 1) {s0 : Option Nat} {s1 : Option Nat} {h : zH} {nx z : Nat} (hm : nx0 ≤ nx ∧ z0 ≤ z) {x : ((Nat × Nat) × (zH))} (hf : f_X2_init_b15 s0 s1 h nx z = some x) (hp : z_Pm X nx0 z0 (z_P0Vm X nx0 z0) x) : zV X 15 [] [tA s1, tA s0] h nx (nx - nx0) (z - z0) := by
  have mB := m_X2_init_b15 hf
  unfold f_X2_init_b15 at hf
  refine zv_pXA K eX2_init_15 fx_X2_15 (Or.inr ⟨_, rfl⟩) hf (fun h1 hf => ?_)
  have e9 := Option.some.inj hf; subst e9
  exact zv_vret K eX2_init_18 hp.2
theorem m_X2_init_b8  {x0 : Option Nat} {s0 : Option Nat} {s1 : Option Nat} {h : zH} {nx z : Nat} {x : ((Nat × Nat) × (zH))} (hf : f_X2_init_b8 x0 s0 s1 h nx z = some x) : nx ≤ x.1.1 ∧ z ≤ x.1.2 := by
  unfold f_X2_init_b8 at hf
  obtain ⟨_, _, hf⟩ := z_bind_inv hf
  have m9 := m_X2_init_b15 hf
  exact ⟨by (try dsimp only at *); omega, by (try dsimp only at *); omega⟩
set_option maxHeartbeats 4000000 in
set_option maxRecDepth 100000 in
theorem v_X2_init_b8 {X : zX} {cc0 ss0 nx0 z0 : Nat} (K : z_Ok X cX2_init none RX2 "<init>") (hX : z_Xo X (rm_X2_init cc0 ss0) 1) {x0 : Option Nat} {s0 : Option Nat} {s1 : Option Nat} {h : zH} {nx z : Nat} (hm : nx0 ≤ nx ∧ z0 ≤ z) {x : ((Nat × Nat) × (zH))} (hf : f_X2_init_b8 x0 s0 s1 h nx z = some x) (hp : z_Pm X nx0 z0 (z_P0Vm X nx0 z0) x) : zV X 8 [(0, tA x0)] [tA s1, tA s0] h nx (nx - nx0) (z - z0) := by
  have mB := m_X2_init_b8 hf
  unfold f_X2_init_b8 at hf
  refine zv_pXA K eX2_init_8 fx_X2_9 (Or.inr ⟨_, rfl⟩) hf (fun h1 hf => ?_)
  refine zv_aload_n K 0 eX2_init_11 rfl ?_
  refine zv_iconst K (4 : Int32) eX2_init_12 (by decide) ?_
  have m9 := m_X2_init_b15 hf
  refine zv_newI K 4 (nx + 1 - nx0) (z + 4 - z0) eX2_init_13 ar_int (by decide) (by decide) (by decide) (by omega) (by omega) (z_bd hp m9) ?_
  exact zv_sub [] rfl (v_X2_init_b15 K hX (by omega) hf hp)
theorem m_X2_init  {x0 : Option Nat} {h : zH} {nx z : Nat} {x : ((Nat × Nat) × (zH))} (hf : f_X2_init x0 h nx z = some x) : nx ≤ x.1.1 ∧ z ≤ x.1.2 := by
  unfold f_X2_init at hf
  obtain ⟨_, _, hf⟩ := z_bind_inv hf
  have m9 := m_X2_init_b8 hf
  exact ⟨by (try dsimp only at *); omega, by (try dsimp only at *); omega⟩
set_option maxHeartbeats 4000000 in
set_option maxRecDepth 100000 in
theorem v_X2_init {X : zX} {cc0 ss0 nx0 z0 : Nat} (K : z_Ok X cX2_init none RX2 "<init>") (hX : z_Xo X (rm_X2_init cc0 ss0) 1) {x0 : Option Nat} {h : zH} {nx z : Nat} (hm : nx0 ≤ nx ∧ z0 ≤ z) {x : ((Nat × Nat) × (zH))} (hf : f_X2_init x0 h nx z = some x) (hp : z_Pm X nx0 z0 (z_P0Vm X nx0 z0) x) : zV X 0 [(0, tA x0)] [] h nx (nx - nx0) (z - z0) := by
  have mB := m_X2_init hf
  unfold f_X2_init at hf
  refine zv_aload_n K 0 eX2_init_0 rfl ?_
  refine zv_objInit K eX2_init_1 oi_X2_3 oi_im oi_co ⟨z_le (z_fr hX) (by exact Nat.le_of_ble_eq_true rfl), z_le (z_lo hX) (by exact Nat.le_of_ble_eq_true rfl)⟩ (Nat.le_of_ble_eq_true rfl) hf (fun v1 hf => ?_)
  refine zv_aload_n K 0 eX2_init_4 rfl ?_
  refine zv_iconst K (4 : Int32) eX2_init_5 (by decide) ?_
  have m9 := m_X2_init_b8 hf
  refine zv_newI K 4 (nx + 1 - nx0) (z + 4 - z0) eX2_init_6 ar_int (by decide) (by decide) (by decide) (by omega) (by omega) (z_bd hp m9) ?_
  exact zv_sub [0] rfl (v_X2_init_b8 K hX (by omega) hf hp)
theorem c_X2_init (l : Launch) (G : zG) {x0 : Option Nat} {h : zH} {nx z : Nat} {x : (Nat × Nat) × (zH)} (hf : f_X2_init x0 h nx z = some x) : z_Ct l G yX2_init cX2_init 1 none (rm_X2_init (x.1.1 - nx) (x.1.2 - z)) [tA x0] h nx none x.2 x.1.1 (x.1.1 - nx) (x.1.2 - z) :=
  z_enter [(0, tA x0)] (by decide +kernel) (Nat.le_of_ble_eq_true rfl) rfl (fun X hl hR hG hL K hq => by
    subst hl; subst hG
    have mm := m_X2_init hf
    have := v_X2_init K ⟨hR, hL⟩ (nx0 := nx) (z0 := z) ⟨Nat.le_refl _, Nat.le_refl _⟩ hf ⟨by rw [hR]; (try dsimp only [rm_X2_init]); omega, hq⟩
    rw [Nat.sub_self, Nat.sub_self] at this
    exact this)
theorem m_X3_init_b35  {s0 : Option Nat} {s1 : Option Nat} {h : zH} {nx z : Nat} {x : ((Nat × Nat) × (zH))} (hf : f_X3_init_b35 s0 s1 h nx z = some x) : nx ≤ x.1.1 ∧ z ≤ x.1.2 := by
  unfold f_X3_init_b35 at hf
  obtain ⟨_, _, hf⟩ := z_bind_inv hf
  cases hf
  exact ⟨by (try dsimp only at *); omega, by (try dsimp only at *); omega⟩
set_option maxHeartbeats 4000000 in
set_option maxRecDepth 100000 in
theorem v_X3_init_b35 {X : zX} {cc0 ss0 nx0 z0 : Nat} (K : z_Ok X cX3_init none RX3 "<init>") (hX : z_Xo X (rm_X3_init cc0 ss0) 1) {s0 : Option Nat} {s1 : Option Nat} {h : zH} {nx z : Nat} (hm : nx0 ≤ nx ∧ z0 ≤ z) {x : ((Nat × Nat) × (zH))} (hf : f_X3_init_b35 s0 s1 h nx z = some x) (hp : z_Pm X nx0 z0 (z_P0Vm X nx0 z0) x) : zV X 35 [] [tA s1, tA s0] h nx (nx - nx0) (z - z0) := by
  have mB := m_X3_init_b35 hf
  unfold f_X3_init_b35 at hf
  refine zv_pXA K eX3_init_35 fx_X3_21 (Or.inr ⟨_, rfl⟩) hf (fun h1 hf => ?_)
  have e9 := Option.some.inj hf; subst e9
  exact zv_vret K eX3_init_38 hp.2
theorem m_X3_init_b27  {x0 : Option Nat} {s0 : Option Nat} {s1 : Option Nat} {h : zH} {nx z : Nat} {x : ((Nat × Nat) × (zH))} (hf : f_X3_init_b27 x0 s0 s1 h nx z = some x) : nx ≤ x.1.1 ∧ z ≤ x.1.2 := by
  unfold f_X3_init_b27 at hf
  obtain ⟨_, _, hf⟩ := z_bind_inv hf
  have m9 := m_X3_init_b35 hf
  exact ⟨by (try dsimp only at *); omega, by (try dsimp only at *); omega⟩
set_option maxHeartbeats 4000000 in
set_option maxRecDepth 100000 in
theorem v_X3_init_b27 {X : zX} {cc0 ss0 nx0 z0 : Nat} (K : z_Ok X cX3_init none RX3 "<init>") (hX : z_Xo X (rm_X3_init cc0 ss0) 1) {x0 : Option Nat} {s0 : Option Nat} {s1 : Option Nat} {h : zH} {nx z : Nat} (hm : nx0 ≤ nx ∧ z0 ≤ z) {x : ((Nat × Nat) × (zH))} (hf : f_X3_init_b27 x0 s0 s1 h nx z = some x) (hp : z_Pm X nx0 z0 (z_P0Vm X nx0 z0) x) : zV X 27 [(0, tA x0)] [tA s1, tA s0] h nx (nx - nx0) (z - z0) := by
  have mB := m_X3_init_b27 hf
  unfold f_X3_init_b27 at hf
  refine zv_pXA K eX3_init_27 fx_X3_18 (Or.inr ⟨_, rfl⟩) hf (fun h1 hf => ?_)
  refine zv_aload_n K 0 eX3_init_30 rfl ?_
  refine zv_bipush K (7 : Int32) eX3_init_31 (by decide) ?_
  have m9 := m_X3_init_b35 hf
  refine zv_newI K 7 (nx + 1 - nx0) (z + 7 - z0) eX3_init_33 ar_int (by decide) (by decide) (by decide) (by omega) (by omega) (z_bd hp m9) ?_
  exact zv_sub [] rfl (v_X3_init_b35 K hX (by omega) hf hp)
theorem m_X3_init_b19  {x0 : Option Nat} {s0 : Option Nat} {s1 : Option Nat} {h : zH} {nx z : Nat} {x : ((Nat × Nat) × (zH))} (hf : f_X3_init_b19 x0 s0 s1 h nx z = some x) : nx ≤ x.1.1 ∧ z ≤ x.1.2 := by
  unfold f_X3_init_b19 at hf
  obtain ⟨_, _, hf⟩ := z_bind_inv hf
  have m9 := m_X3_init_b27 hf
  exact ⟨by (try dsimp only at *); omega, by (try dsimp only at *); omega⟩
set_option maxHeartbeats 4000000 in
set_option maxRecDepth 100000 in
theorem v_X3_init_b19 {X : zX} {cc0 ss0 nx0 z0 : Nat} (K : z_Ok X cX3_init none RX3 "<init>") (hX : z_Xo X (rm_X3_init cc0 ss0) 1) {x0 : Option Nat} {s0 : Option Nat} {s1 : Option Nat} {h : zH} {nx z : Nat} (hm : nx0 ≤ nx ∧ z0 ≤ z) {x : ((Nat × Nat) × (zH))} (hf : f_X3_init_b19 x0 s0 s1 h nx z = some x) (hp : z_Pm X nx0 z0 (z_P0Vm X nx0 z0) x) : zV X 19 [(0, tA x0)] [tA s1, tA s0] h nx (nx - nx0) (z - z0) := by
  have mB := m_X3_init_b19 hf
  unfold f_X3_init_b19 at hf
  refine zv_pXA K eX3_init_19 fx_X3_15 (Or.inr ⟨_, rfl⟩) hf (fun h1 hf => ?_)
  refine zv_aload_n K 0 eX3_init_22 rfl ?_
  refine zv_bipush K (64 : Int32) eX3_init_23 (by decide) ?_
  have m9 := m_X3_init_b27 hf
  refine zv_newI K 64 (nx + 1 - nx0) (z + 64 - z0) eX3_init_25 ar_int (by decide) (by decide) (by decide) (by omega) (by omega) (z_bd hp m9) ?_
  exact zv_sub [0] rfl (v_X3_init_b27 K hX (by omega) hf hp)
theorem m_X3_init_b10  {x0 : Option Nat} {s0 : Option Nat} {s1 : Option Nat} {h : zH} {nx z : Nat} {x : ((Nat × Nat) × (zH))} (hf : f_X3_init_b10 x0 s0 s1 h nx z = some x) : nx ≤ x.1.1 ∧ z ≤ x.1.2 := by
  unfold f_X3_init_b10 at hf
  obtain ⟨_, _, hf⟩ := z_bind_inv hf
  have m9 := m_X3_init_b19 hf
  exact ⟨by (try dsimp only at *); omega, by (try dsimp only at *); omega⟩
set_option maxHeartbeats 4000000 in
set_option maxRecDepth 100000 in
theorem v_X3_init_b10 {X : zX} {cc0 ss0 nx0 z0 : Nat} (K : z_Ok X cX3_init none RX3 "<init>") (hX : z_Xo X (rm_X3_init cc0 ss0) 1) {x0 : Option Nat} {s0 : Option Nat} {s1 : Option Nat} {h : zH} {nx z : Nat} (hm : nx0 ≤ nx ∧ z0 ≤ z) {x : ((Nat × Nat) × (zH))} (hf : f_X3_init_b10 x0 s0 s1 h nx z = some x) (hp : z_Pm X nx0 z0 (z_P0Vm X nx0 z0) x) : zV X 10 [(0, tA x0)] [tA s1, tA s0] h nx (nx - nx0) (z - z0) := by
  have mB := m_X3_init_b10 hf
  unfold f_X3_init_b10 at hf
  refine zv_pXA K eX3_init_10 fx_X3_9 (Or.inr ⟨_, rfl⟩) hf (fun h1 hf => ?_)
  refine zv_aload_n K 0 eX3_init_13 rfl ?_
  refine zv_sipush K (4096 : Int32) eX3_init_14 (by decide) ?_
  have m9 := m_X3_init_b19 hf
  refine zv_newI K 4096 (nx + 1 - nx0) (z + 4096 - z0) eX3_init_17 ar_int (by decide) (by decide) (by decide) (by omega) (by omega) (z_bd hp m9) ?_
  exact zv_sub [0] rfl (v_X3_init_b19 K hX (by omega) hf hp)
theorem m_X3_init  {x0 : Option Nat} {h : zH} {nx z : Nat} {x : ((Nat × Nat) × (zH))} (hf : f_X3_init x0 h nx z = some x) : nx ≤ x.1.1 ∧ z ≤ x.1.2 := by
  unfold f_X3_init at hf
  obtain ⟨_, _, hf⟩ := z_bind_inv hf
  have m9 := m_X3_init_b10 hf
  exact ⟨by (try dsimp only at *); omega, by (try dsimp only at *); omega⟩
set_option maxHeartbeats 4000000 in
set_option maxRecDepth 100000 in
theorem v_X3_init {X : zX} {cc0 ss0 nx0 z0 : Nat} (K : z_Ok X cX3_init none RX3 "<init>") (hX : z_Xo X (rm_X3_init cc0 ss0) 1) {x0 : Option Nat} {h : zH} {nx z : Nat} (hm : nx0 ≤ nx ∧ z0 ≤ z) {x : ((Nat × Nat) × (zH))} (hf : f_X3_init x0 h nx z = some x) (hp : z_Pm X nx0 z0 (z_P0Vm X nx0 z0) x) : zV X 0 [(0, tA x0)] [] h nx (nx - nx0) (z - z0) := by
  have mB := m_X3_init hf
  unfold f_X3_init at hf
  refine zv_aload_n K 0 eX3_init_0 rfl ?_
  refine zv_objInit K eX3_init_1 oi_X3_3 oi_im oi_co ⟨z_le (z_fr hX) (by exact Nat.le_of_ble_eq_true rfl), z_le (z_lo hX) (by exact Nat.le_of_ble_eq_true rfl)⟩ (Nat.le_of_ble_eq_true rfl) hf (fun v1 hf => ?_)
  refine zv_aload_n K 0 eX3_init_4 rfl ?_
  refine zv_sipush K (4096 : Int32) eX3_init_5 (by decide) ?_
  have m9 := m_X3_init_b10 hf
  refine zv_newI K 4096 (nx + 1 - nx0) (z + 4096 - z0) eX3_init_8 ar_int (by decide) (by decide) (by decide) (by omega) (by omega) (z_bd hp m9) ?_
  exact zv_sub [0] rfl (v_X3_init_b10 K hX (by omega) hf hp)
theorem c_X3_init (l : Launch) (G : zG) {x0 : Option Nat} {h : zH} {nx z : Nat} {x : (Nat × Nat) × (zH)} (hf : f_X3_init x0 h nx z = some x) : z_Ct l G yX3_init cX3_init 1 none (rm_X3_init (x.1.1 - nx) (x.1.2 - z)) [tA x0] h nx none x.2 x.1.1 (x.1.1 - nx) (x.1.2 - z) :=
  z_enter [(0, tA x0)] (by decide +kernel) (Nat.le_of_ble_eq_true rfl) rfl (fun X hl hR hG hL K hq => by
    subst hl; subst hG
    have mm := m_X3_init hf
    have := v_X3_init K ⟨hR, hL⟩ (nx0 := nx) (z0 := z) ⟨Nat.le_refl _, Nat.le_refl _⟩ hf ⟨by rw [hR]; (try dsimp only [rm_X3_init]); omega, hq⟩
    rw [Nat.sub_self, Nat.sub_self] at this
    exact this)
def P_X3_layOut_20 (X : zX) (nx : Nat) : ((Option Nat) × Int32 × Int64 × Int32 × zH) ⊕ (Int64 × zH) → Prop := z_PL (fun s => zV X 20 [(0, tA s.1), (1, tI s.2.1), (2, tJ s.2.2.1), (4, tI s.2.2.2.1)] [] s.2.2.2.2 nx 0 0) (z_P0J X nx)
set_option maxHeartbeats 4000000 in
set_option maxRecDepth 100000 in
theorem v_X3_layOut_c20 {X : zX} (K : z_Ok X cX3_layOut (some .long) RX3 "layOut") (hX : z_Xo X rm_X3_layOut 5) {x0 : Option Nat} {x1 : Int32} {x2 : Int64} {x4 : Int32} {h : zH} {nx : Nat} {x : (((Option Nat) × Int32 × Int64 × Int32 × zH) ⊕ (Int64 × zH))} (hf : f_X3_layOut_c20 X.2.2.1.2.2.1 x0 x1 x2 x4 h = some x) (hp : P_X3_layOut_20 X nx x) : zV X 20 [(0, tA x0), (1, tI x1), (2, tJ x2), (4, tI x4)] [] h nx 0 0 := by
  unfold f_X3_layOut_c20 at hf
  refine zv_iload K 3 eX3_layOut_20 rfl ?_
  refine zv_aload_n K 0 eX3_layOut_22 rfl ?_
  refine zv_gI K eX3_layOut_23 fl_X3_46 hf (fun v1 hf => ?_)
  refine zv_icmp_ge K 78 eX3_layOut_26 (by decide) hf (fun _ hf => ?_) (fun _ hf => ?_)
  · obtain ⟨w9, hf9, e9⟩ := z_i1_inv hf; clear hf; subst e9; have hf := hf9; clear hf9
    refine zv_lload_n K 2 eX3_layOut_78 rfl ?_
    have e9 := Option.some.inj hf; subst e9
    exact zv_lret K eX3_layOut_79 hp
  · refine zv_aload_n K 0 eX3_layOut_29 rfl ?_
    refine zv_gA K eX3_layOut_30 fl_X3_21 hf (fun v2 hf => ?_)
    refine zv_iload K 3 eX3_layOut_33 rfl ?_
    refine zv_aload_n K 0 eX3_layOut_35 rfl ?_
    refine zv_gA K eX3_layOut_36 fl_X3_21 hf (fun v3 hf => ?_)
    refine zv_iload K 3 eX3_layOut_39 rfl ?_
    refine zv_iconst K (1 : Int32) eX3_layOut_41 (by decide) ?_
    refine zv_isub K eX3_layOut_42 ?_
    refine zv_aI K eX3_layOut_43 hf (fun v4 hf => ?_)
    refine zv_step K eX3_layOut_44 sp_X3_94 ?_
    refine zv_iload_n K 1 eX3_layOut_47 rfl ?_
    refine zv_iconst K (2 : Int32) eX3_layOut_48 (by decide) ?_
    refine zv_iload K 3 eX3_layOut_49 rfl ?_
    refine zv_iconst K (1 : Int32) eX3_layOut_51 (by decide) ?_
    refine zv_isub K eX3_layOut_52 ?_
    refine zv_imul K eX3_layOut_53 ?_
    refine zv_ishr K eX3_layOut_54 ?_
    refine zv_iconst K (3 : Int32) eX3_layOut_55 (by decide) ?_
    refine zv_iand K eX3_layOut_56 ?_
    refine zv_aI K eX3_layOut_57 hf (fun v5 hf => ?_)
    refine zv_iadd K eX3_layOut_58 ?_
    refine zv_sI K eX3_layOut_59 hf (fun h6 hf => ?_)
    refine zv_lload_n K 2 eX3_layOut_60 rfl ?_
    refine zv_lconst K (1 : Int64) eX3_layOut_61 (by decide) ?_
    refine zv_aload_n K 0 eX3_layOut_62 rfl ?_
    refine zv_gA K eX3_layOut_63 fl_X3_21 hf (fun v7 hf => ?_)
    refine zv_iload K 3 eX3_layOut_66 rfl ?_
    refine zv_aI K eX3_layOut_68 hf (fun v8 hf => ?_)
    refine zv_lshl K eX3_layOut_69 ?_
    refine zv_lor K eX3_layOut_70 ?_
    refine zv_lstore_n K [(2, tJ (x2 ||| ((1 : Int64) <<< (Int32.toInt64 v8 &&& 63)))), (0, tA x0), (1, tI x1), (4, tI x4)] eX3_layOut_71 (z_lt hX.2 (by decide)) rfl ?_
    refine zv_iinc K (x4 + (1 : Int32)) 3 [(4, tI (x4 + (1 : Int32))), (2, tJ (x2 ||| ((1 : Int64) <<< (Int32.toInt64 v8 &&& 63)))), (0, tA x0), (1, tI x1)] eX3_layOut_72 rfl rfl (z_lt hX.2 (by decide)) rfl ?_
    refine zv_goto K 20 eX3_layOut_75 (by decide) ?_
    cases hf
    exact zv_sub [2, 3, 1, 0] rfl (show zV X 20 [(0, tA x0), (1, tI x1), (2, tJ (x2 ||| ((1 : Int64) <<< (Int32.toInt64 v8 &&& 63)))), (4, tI (x4 + (1 : Int32)))] [] h6 nx 0 0 from hp)
theorem v_X3_layOut_b20 {X : zX} (K : z_Ok X cX3_layOut (some .long) RX3 "layOut") (hX : z_Xo X rm_X3_layOut 5) {x0 : Option Nat} {x1 : Int32} {x2 : Int64} {x4 : Int32} {h : zH} {nx : Nat} {x : (Int64 × zH)} (hf : f_X3_layOut_b20 X.2.2.1.2.2.1 x0 x1 x2 x4 h = some x) (hp : z_P0J X nx x) : zV X 20 [(0, tA x0), (1, tI x1), (2, tJ x2), (4, tI x4)] [] h nx 0 0 :=
  z_it_ind (P := fun s : (Option Nat) × Int32 × Int64 × Int32 × zH => zV X 20 [(0, tA s.1), (1, tI s.2.1), (2, tJ s.2.2.1), (4, tI s.2.2.2.1)] [] s.2.2.2.2 nx 0 0) (fun s y hb hy => v_X3_layOut_c20 K hX hb (z_PL_of hy hp)) hf
set_option maxHeartbeats 4000000 in
set_option maxRecDepth 100000 in
theorem v_X3_layOut {X : zX} (K : z_Ok X cX3_layOut (some .long) RX3 "layOut") (hX : z_Xo X rm_X3_layOut 5) {x0 : Option Nat} {x1 : Int32} {h : zH} {nx : Nat} {x : (Int64 × zH)} (hf : f_X3_layOut X.2.2.1.2.2.1 x0 x1 h = some x) (hp : z_P0J X nx x) : zV X 0 [(0, tA x0), (1, tI x1)] [] h nx 0 0 := by
  unfold f_X3_layOut at hf
  refine zv_aload_n K 0 eX3_layOut_0 rfl ?_
  refine zv_gA K eX3_layOut_1 fl_X3_21 hf (fun v1 hf => ?_)
  refine zv_iconst K (0 : Int32) eX3_layOut_4 (by decide) ?_
  refine zv_aload_n K 0 eX3_layOut_5 rfl ?_
  refine zv_gI K eX3_layOut_6 fl_X3_39 hf (fun v2 hf => ?_)
  refine zv_sI K eX3_layOut_9 hf (fun h3 hf => ?_)
  refine zv_lconst K (1 : Int64) eX3_layOut_10 (by decide) ?_
  refine zv_aload_n K 0 eX3_layOut_11 rfl ?_
  refine zv_gI K eX3_layOut_12 fl_X3_39 hf (fun v4 hf => ?_)
  refine zv_lshl K eX3_layOut_15 ?_
  refine zv_lstore_n K [(2, tJ ((1 : Int64) <<< (Int32.toInt64 v4 &&& 63))), (0, tA x0), (1, tI x1)] eX3_layOut_16 (z_lt hX.2 (by decide)) rfl ?_
  refine zv_iconst K (1 : Int32) eX3_layOut_17 (by decide) ?_
  refine zv_istore K [(4, tI (1 : Int32)), (2, tJ ((1 : Int64) <<< (Int32.toInt64 v4 &&& 63))), (0, tA x0), (1, tI x1)] eX3_layOut_18 (z_lt hX.2 (by decide)) rfl ?_
  exact zv_sub [2, 3, 1, 0] rfl (v_X3_layOut_b20 K hX hf hp)
theorem c_X3_layOut (l : Launch) (G : zG) {x0 : Option Nat} {x1 : Int32} {h : zH} {nx : Nat} {x : Int64 × zH} (hf : f_X3_layOut G.2.2.1 x0 x1 h = some x) : z_Ct l G yX3_layOut cX3_layOut 5 (some .long) rm_X3_layOut [tA x0, tI x1] h nx (some (tJ x.1)) x.2 nx 0 0 :=
  z_enter [(0, tA x0), (1, tI x1)] (by decide +kernel) (Nat.le_of_ble_eq_true rfl) rfl (fun X hl hR hG hL K hq => by
    subst hl; subst hG
    exact v_X3_layOut K ⟨hR, hL⟩ hf hq)
set_option maxHeartbeats 4000000 in
set_option maxRecDepth 100000 in
theorem v_X10_formsOf {X : zX} (K : z_Ok X cX10_formsOf (some .int) RX10 "formsOf") (hX : z_Xo X rm_X10_formsOf 1) {x0 : Int32} {h : zH} {nx : Nat} {x : (Int32 × zH)} (hf : f_X10_formsOf x0 h = some x) (hp : z_P0I X nx x) : zV X 0 [(0, tI x0)] [] h nx 0 0 := by
  unfold f_X10_formsOf at hf
  refine zv_iconst K (1 : Int32) eX10_formsOf_0 (by decide) ?_
  refine zv_iconst K (2 : Int32) eX10_formsOf_1 (by decide) ?_
  refine zv_iload_n K 0 eX10_formsOf_2 rfl ?_
  refine zv_iconst K (1 : Int32) eX10_formsOf_3 (by decide) ?_
  refine zv_isub K eX10_formsOf_4 ?_
  refine zv_imul K eX10_formsOf_5 ?_
  refine zv_ishl K eX10_formsOf_6 ?_
  have e9 := Option.some.inj hf; subst e9
  exact zv_iret K eX10_formsOf_7 hp
theorem c_X10_formsOf (l : Launch) (G : zG) {x0 : Int32} {h : zH} {nx : Nat} {x : Int32 × zH} (hf : f_X10_formsOf x0 h = some x) : z_Ct l G yX10_formsOf cX10_formsOf 1 (some .int) rm_X10_formsOf [tI x0] h nx (some (tI x.1)) x.2 nx 0 0 :=
  z_enter [(0, tI x0)] (by decide +kernel) (Nat.le_of_ble_eq_true rfl) rfl (fun X hl hR hG hL K hq => by
    subst hl; subst hG
    exact v_X10_formsOf K ⟨hR, hL⟩ hf hq)
set_option maxHeartbeats 4000000 in
set_option maxRecDepth 100000 in
theorem v_J7_rangeCheck_23922 {X : zX} (K : z_Ok X cJ7_rangeCheck_23922 none RJ7 "rangeCheck") (hX : z_Xo X rm_J7_rangeCheck_23922 3) {x0 : Int32} {x1 : Int32} {x2 : Int32} {h : zH} {nx : Nat} {x : (zH)} (hf : f_J7_rangeCheck_23922 x0 x1 x2 h = some x) (hp : z_P0V X nx x) : zV X 0 [(0, tI x0), (1, tI x1), (2, tI x2)] [] h nx 0 0 := by
  unfold f_J7_rangeCheck_23922 at hf
  refine zv_iload_n K 1 eJ7_rangeCheck_23922_0 rfl ?_
  refine zv_iload_n K 2 eJ7_rangeCheck_23922_1 rfl ?_
  refine zv_icmp_le K 46 eJ7_rangeCheck_23922_2 (by decide) hf (fun _ hf => ?_) (fun _ hf => ?_)
  · refine zv_iload_n K 1 eJ7_rangeCheck_23922_46 rfl ?_
    refine zv_if_ge K 59 eJ7_rangeCheck_23922_47 (by decide) hf (fun _ hf => ?_) (fun _ hf => ?_)
    · refine zv_iload_n K 2 eJ7_rangeCheck_23922_59 rfl ?_
      refine zv_iload_n K 0 eJ7_rangeCheck_23922_60 rfl ?_
      refine zv_icmp_le K 73 eJ7_rangeCheck_23922_61 (by decide) hf (fun _ hf => ?_) (fun _ hf => ?_)
      · have e9 := Option.some.inj hf; subst e9
        exact zv_vret K eJ7_rangeCheck_23922_73 hp
      · cases hf
    · cases hf
  · cases hf
theorem c_J7_rangeCheck_23922 (l : Launch) (G : zG) {x0 : Int32} {x1 : Int32} {x2 : Int32} {h : zH} {nx : Nat} {x : zH} (hf : f_J7_rangeCheck_23922 x0 x1 x2 h = some x) : z_Ct l G yJ7_rangeCheck_23922 cJ7_rangeCheck_23922 3 none rm_J7_rangeCheck_23922 [tI x0, tI x1, tI x2] h nx none x nx 0 0 :=
  z_enter [(0, tI x0), (1, tI x1), (2, tI x2)] (by decide +kernel) (Nat.le_of_ble_eq_true rfl) rfl (fun X hl hR hG hL K hq => by
    subst hl; subst hG
    exact v_J7_rangeCheck_23922 K ⟨hR, hL⟩ hf hq)
def P_J7_fill_fda19_10 (X : zX) (nx : Nat) : ((Option Nat) × Int32 × Int32 × Int32 × zH) ⊕ (zH) → Prop := z_PL (fun s => zV X 10 [(0, tA s.1), (2, tI s.2.1), (3, tI s.2.2.1), (4, tI s.2.2.2.1)] [] s.2.2.2.2 nx 0 0) (z_P0V X nx)
set_option maxHeartbeats 4000000 in
set_option maxRecDepth 100000 in
theorem v_J7_fill_fda19_c10 {X : zX} (K : z_Ok X cJ7_fill_fda19 none RJ7 "fill") (hX : z_Xo X rm_J7_fill_fda19 5) {x0 : Option Nat} {x2 : Int32} {x3 : Int32} {x4 : Int32} {h : zH} {nx : Nat} {x : (((Option Nat) × Int32 × Int32 × Int32 × zH) ⊕ (zH))} (hf : f_J7_fill_fda19_c10 x0 x2 x3 x4 h = some x) (hp : P_J7_fill_fda19_10 X nx x) : zV X 10 [(0, tA x0), (2, tI x2), (3, tI x3), (4, tI x4)] [] h nx 0 0 := by
  unfold f_J7_fill_fda19_c10 at hf
  refine zv_iload K 3 eJ7_fill_fda19_10 rfl ?_
  refine zv_iload_n K 1 eJ7_fill_fda19_12 rfl ?_
  refine zv_icmp_ge K 27 eJ7_fill_fda19_13 (by decide) hf (fun _ hf => ?_) (fun _ hf => ?_)
  · obtain ⟨w9, hf9, e9⟩ := z_i1_inv hf; clear hf; subst e9; have hf := hf9; clear hf9
    have e9 := Option.some.inj hf; subst e9
    exact zv_vret K eJ7_fill_fda19_27 hp
  · refine zv_aload_n K 0 eJ7_fill_fda19_16 rfl ?_
    refine zv_iload K 3 eJ7_fill_fda19_17 rfl ?_
    refine zv_iload_n K 2 eJ7_fill_fda19_19 rfl ?_
    refine zv_sI K eJ7_fill_fda19_20 hf (fun h1 hf => ?_)
    refine zv_iinc K (x4 + (1 : Int32)) 3 [(4, tI (x4 + (1 : Int32))), (0, tA x0), (2, tI x2), (3, tI x3)] eJ7_fill_fda19_21 rfl rfl (z_lt hX.2 (by decide)) rfl ?_
    refine zv_goto K 10 eJ7_fill_fda19_24 (by decide) ?_
    cases hf
    exact zv_sub [1, 2, 3, 0] rfl (show zV X 10 [(0, tA x0), (2, tI x2), (3, tI x3), (4, tI (x4 + (1 : Int32)))] [] h1 nx 0 0 from hp)
theorem v_J7_fill_fda19_b10 {X : zX} (K : z_Ok X cJ7_fill_fda19 none RJ7 "fill") (hX : z_Xo X rm_J7_fill_fda19 5) {x0 : Option Nat} {x2 : Int32} {x3 : Int32} {x4 : Int32} {h : zH} {nx : Nat} {x : (zH)} (hf : f_J7_fill_fda19_b10 x0 x2 x3 x4 h = some x) (hp : z_P0V X nx x) : zV X 10 [(0, tA x0), (2, tI x2), (3, tI x3), (4, tI x4)] [] h nx 0 0 :=
  z_it_ind (P := fun s : (Option Nat) × Int32 × Int32 × Int32 × zH => zV X 10 [(0, tA s.1), (2, tI s.2.1), (3, tI s.2.2.1), (4, tI s.2.2.2.1)] [] s.2.2.2.2 nx 0 0) (fun s y hb hy => v_J7_fill_fda19_c10 K hX hb (z_PL_of hy hp)) hf
set_option maxHeartbeats 4000000 in
set_option maxRecDepth 100000 in
theorem v_J7_fill_fda19 {X : zX} (K : z_Ok X cJ7_fill_fda19 none RJ7 "fill") (hX : z_Xo X rm_J7_fill_fda19 5) {x0 : Option Nat} {x1 : Int32} {x2 : Int32} {x3 : Int32} {h : zH} {nx : Nat} {x : (zH)} (hf : f_J7_fill_fda19 x0 x1 x2 x3 h = some x) (hp : z_P0V X nx x) : zV X 0 [(0, tA x0), (1, tI x1), (2, tI x2), (3, tI x3)] [] h nx 0 0 := by
  unfold f_J7_fill_fda19 at hf
  refine zv_aload_n K 0 eJ7_fill_fda19_0 rfl ?_
  refine zv_len K eJ7_fill_fda19_1 hf (fun v1 hf => ?_)
  refine zv_iload_n K 1 eJ7_fill_fda19_2 rfl ?_
  refine zv_iload_n K 2 eJ7_fill_fda19_3 rfl ?_
  obtain ⟨h2, eh2, hf⟩ := z_bind_inv hf
  refine zv_cS0 K [tI v1, tI x1, tI x2] [] eJ7_fill_fda19_4 lk_J7_13 md_J7_rangeCheck_23922 st_J7_rangeCheck_23922 rfl rfl (Nat.le_of_ble_eq_true rfl) (c_J7_rangeCheck_23922 X.1.2.1 X.2.2.1 eh2) rfl rfl ⟨z_le (z_fr hX) (by decide), z_le (z_lo hX) (by decide)⟩ ⟨Nat.zero_le _, Nat.zero_le _⟩ ?_
  refine zv_iload_n K 1 eJ7_fill_fda19_7 rfl ?_
  refine zv_istore K [(4, tI x1), (0, tA x0), (1, tI x1), (2, tI x2), (3, tI x3)] eJ7_fill_fda19_8 (z_lt hX.2 (by decide)) rfl ?_
  exact zv_sub [1, 3, 4, 0] rfl (v_J7_fill_fda19_b10 K hX hf hp)
theorem c_J7_fill_fda19 (l : Launch) (G : zG) {x0 : Option Nat} {x1 : Int32} {x2 : Int32} {x3 : Int32} {h : zH} {nx : Nat} {x : zH} (hf : f_J7_fill_fda19 x0 x1 x2 x3 h = some x) : z_Ct l G yJ7_fill_fda19 cJ7_fill_fda19 5 none rm_J7_fill_fda19 [tA x0, tI x1, tI x2, tI x3] h nx none x nx 0 0 :=
  z_enter [(0, tA x0), (1, tI x1), (2, tI x2), (3, tI x3)] (by decide +kernel) (Nat.le_of_ble_eq_true rfl) rfl (fun X hl hR hG hL K hq => by
    subst hl; subst hG
    exact v_J7_fill_fda19 K ⟨hR, hL⟩ hf hq)
set_option maxHeartbeats 4000000 in
set_option maxRecDepth 100000 in
theorem v_X3_see {X : zX} (K : z_Ok X cX3_see none RX3 "see") (hX : z_Xo X rm_X3_see 3) {x0 : Option Nat} {x1 : Int32} {x2 : Int32} {h : zH} {nx : Nat} {x : (zH)} (hf : f_X3_see x0 x1 x2 h = some x) (hp : z_P0V X nx x) : zV X 0 [(0, tA x0), (1, tI x1), (2, tI x2)] [] h nx 0 0 := by
  unfold f_X3_see at hf
  refine zv_aload_n K 0 eX3_see_0 rfl ?_
  refine zv_gA K eX3_see_1 fl_X3_9 hf (fun v1 hf => ?_)
  refine zv_iload_n K 1 eX3_see_4 rfl ?_
  refine zv_aI K eX3_see_5 hf (fun v2 hf => ?_)
  refine zv_iconst K (-1 : Int32) eX3_see_6 (by decide) ?_
  refine zv_icmp_ne K 37 eX3_see_7 (by decide) hf (fun _ hf => ?_) (fun _ hf => ?_)
  · have e9 := Option.some.inj hf; subst e9
    exact zv_vret K eX3_see_37 hp
  · refine zv_aload_n K 0 eX3_see_10 rfl ?_
    refine zv_gA K eX3_see_11 fl_X3_9 hf (fun v3 hf => ?_)
    refine zv_iload_n K 1 eX3_see_14 rfl ?_
    refine zv_iload_n K 2 eX3_see_15 rfl ?_
    refine zv_sI K eX3_see_16 hf (fun h4 hf => ?_)
    refine zv_aload_n K 0 eX3_see_17 rfl ?_
    refine zv_gA K eX3_see_18 fl_X3_15 hf (fun v5 hf => ?_)
    refine zv_aload_n K 0 eX3_see_21 rfl ?_
    refine zv_gI K eX3_see_22 fl_X3_81 hf (fun v6 hf => ?_)
    refine zv_iload_n K 1 eX3_see_25 rfl ?_
    refine zv_sI K eX3_see_26 hf (fun h7 hf => ?_)
    refine zv_aload_n K 0 eX3_see_27 rfl ?_
    refine zv_dup K eX3_see_28 rfl ?_
    refine zv_gI K eX3_see_29 fl_X3_81 hf (fun v8 hf => ?_)
    refine zv_iconst K (1 : Int32) eX3_see_32 (by decide) ?_
    refine zv_iadd K eX3_see_33 ?_
    refine zv_pI K eX3_see_34 fl_X3_81 ff_3_4 rfl hf (fun h9 hf => ?_)
    have e9 := Option.some.inj hf; subst e9
    exact zv_vret K eX3_see_37 hp
theorem c_X3_see (l : Launch) (G : zG) {x0 : Option Nat} {x1 : Int32} {x2 : Int32} {h : zH} {nx : Nat} {x : zH} (hf : f_X3_see x0 x1 x2 h = some x) : z_Ct l G yX3_see cX3_see 3 none rm_X3_see [tA x0, tI x1, tI x2] h nx none x nx 0 0 :=
  z_enter [(0, tA x0), (1, tI x1), (2, tI x2)] (by decide +kernel) (Nat.le_of_ble_eq_true rfl) rfl (fun X hl hR hG hL K hq => by
    subst hl; subst hG
    exact v_X3_see K ⟨hR, hL⟩ hf hq)
set_option maxHeartbeats 4000000 in
set_option maxRecDepth 100000 in
theorem v_X3_seeFlip {X : zX} (K : z_Ok X cX3_seeFlip none RX3 "seeFlip") (hX : z_Xo X rm_X3_seeFlip 11) {x0 : Option Nat} {x1 : Int32} {x2 : Int32} {x3 : Int64} {x5 : Int32} {h : zH} {nx : Nat} {x : (zH)} (hf : f_X3_seeFlip X.2.2.1.2.2.1 x0 x1 x2 x3 x5 h = some x) (hp : z_P0V X nx x) : zV X 0 [(0, tA x0), (1, tI x1), (2, tI x2), (3, tJ x3), (5, tI x5)] [] h nx 0 0 := by
  unfold f_X3_seeFlip at hf
  refine zv_iconst K (2 : Int32) eX3_seeFlip_0 (by decide) ?_
  refine zv_iload_n K 2 eX3_seeFlip_1 rfl ?_
  refine zv_iconst K (1 : Int32) eX3_seeFlip_2 (by decide) ?_
  refine zv_isub K eX3_seeFlip_3 ?_
  refine zv_imul K eX3_seeFlip_4 ?_
  refine zv_istore K [(6, tI ((2 : Int32) * (x2 - (1 : Int32)))), (0, tA x0), (1, tI x1), (2, tI x2), (3, tJ x3), (5, tI x5)] eX3_seeFlip_5 (z_lt hX.2 (by decide)) rfl ?_
  refine zv_iload_n K 2 eX3_seeFlip_7 rfl ?_
  refine zv_iload K 0 eX3_seeFlip_8 rfl ?_
  refine zv_ishr K eX3_seeFlip_10 ?_
  refine zv_iconst K (3 : Int32) eX3_seeFlip_11 (by decide) ?_
  refine zv_iand K eX3_seeFlip_12 ?_
  refine zv_istore K [(7, tI ((x1 >>> (((2 : Int32) * (x2 - (1 : Int32))) &&& 31)) &&& (3 : Int32))), (6, tI ((2 : Int32) * (x2 - (1 : Int32)))), (0, tA x0), (1, tI x1), (2, tI x2), (3, tJ x3), (5, tI x5)] eX3_seeFlip_13 (z_lt hX.2 (by decide)) rfl ?_
  refine zv_iload_n K 3 eX3_seeFlip_15 rfl ?_
  refine zv_iload K 1 eX3_seeFlip_16 rfl ?_
  refine zv_iconst K (2 : Int32) eX3_seeFlip_18 (by decide) ?_
  refine zv_iadd K eX3_seeFlip_19 ?_
  refine zv_ishr K eX3_seeFlip_20 ?_
  refine zv_iconst K (3 : Int32) eX3_seeFlip_21 (by decide) ?_
  refine zv_iand K eX3_seeFlip_22 ?_
  refine zv_istore K [(8, tI ((x1 >>> ((((2 : Int32) * (x2 - (1 : Int32))) + (2 : Int32)) &&& 31)) &&& (3 : Int32))), (7, tI ((x1 >>> (((2 : Int32) * (x2 - (1 : Int32))) &&& 31)) &&& (3 : Int32))), (6, tI ((2 : Int32) * (x2 - (1 : Int32)))), (0, tA x0), (1, tI x1), (2, tI x2), (3, tJ x3), (5, tI x5)] eX3_seeFlip_23 (z_lt hX.2 (by decide)) rfl ?_
  refine zv_iload K 1 eX3_seeFlip_25 rfl ?_
  refine zv_iload K 0 eX3_seeFlip_27 rfl ?_
  refine zv_ixor K eX3_seeFlip_29 ?_
  refine zv_istore K [(9, tI (((x1 >>> (((2 : Int32) * (x2 - (1 : Int32))) &&& 31)) &&& (3 : Int32)) ^^^ ((x1 >>> ((((2 : Int32) * (x2 - (1 : Int32))) + (2 : Int32)) &&& 31)) &&& (3 : Int32)))), (8, tI ((x1 >>> ((((2 : Int32) * (x2 - (1 : Int32))) + (2 : Int32)) &&& 31)) &&& (3 : Int32))), (7, tI ((x1 >>> (((2 : Int32) * (x2 - (1 : Int32))) &&& 31)) &&& (3 : Int32))), (6, tI ((2 : Int32) * (x2 - (1 : Int32)))), (0, tA x0), (1, tI x1), (2, tI x2), (3, tJ x3), (5, tI x5)] eX3_seeFlip_30 (z_lt hX.2 (by decide)) rfl ?_
  refine zv_iload K 0 eX3_seeFlip_32 rfl ?_
  refine zv_iconst K (1 : Int32) eX3_seeFlip_34 (by decide) ?_
  refine zv_iand K eX3_seeFlip_35 ?_
  refine zv_if_ne K 40 eX3_seeFlip_36 (by decide) hf (fun _ hf => ?_) (fun _ hf => ?_)
  · refine zv_aload_n K 4 eX3_seeFlip_40 rfl ?_
    refine zv_gA K eX3_seeFlip_41 fl_X3_21 hf (fun v1 hf => ?_)
    refine zv_iload_n K 6 eX3_seeFlip_44 rfl ?_
    refine zv_iconst K (1 : Int32) eX3_seeFlip_45 (by decide) ?_
    refine zv_isub K eX3_seeFlip_46 ?_
    refine zv_aI K eX3_seeFlip_47 hf (fun v2 hf => ?_)
    refine zv_step K eX3_seeFlip_48 sp_X3_94 ?_
    refine zv_iload K 1 eX3_seeFlip_51 rfl ?_
    refine zv_aI K eX3_seeFlip_53 hf (fun v3 hf => ?_)
    refine zv_iadd K eX3_seeFlip_54 ?_
    refine zv_istore K [(10, tI (v2 + v3)), (9, tI (((x1 >>> (((2 : Int32) * (x2 - (1 : Int32))) &&& 31)) &&& (3 : Int32)) ^^^ ((x1 >>> ((((2 : Int32) * (x2 - (1 : Int32))) + (2 : Int32)) &&& 31)) &&& (3 : Int32)))), (8, tI ((x1 >>> ((((2 : Int32) * (x2 - (1 : Int32))) + (2 : Int32)) &&& 31)) &&& (3 : Int32))), (7, tI ((x1 >>> (((2 : Int32) * (x2 - (1 : Int32))) &&& 31)) &&& (3 : Int32))), (6, tI ((2 : Int32) * (x2 - (1 : Int32)))), (0, tA x0), (1, tI x1), (2, tI x2), (3, tJ x3), (5, tI x5)] eX3_seeFlip_55 (z_lt hX.2 (by decide)) rfl ?_
    refine zv_lload_n K 8 eX3_seeFlip_57 rfl ?_
    refine zv_lconst K (1 : Int64) eX3_seeFlip_58 (by decide) ?_
    refine zv_iload K 0 eX3_seeFlip_59 rfl ?_
    refine zv_lshl K eX3_seeFlip_61 ?_
    refine zv_land K eX3_seeFlip_62 ?_
    refine zv_lconst K (0 : Int64) eX3_seeFlip_63 (by decide) ?_
    refine zv_lcmp K eX3_seeFlip_64 ?_
    refine zv_if_ne K 89 eX3_seeFlip_65 (by decide) hf (fun _ hf => ?_) (fun _ hf => ?_)
    · have e9 := Option.some.inj hf; subst e9
      exact zv_vret K eX3_seeFlip_89 hp
    · refine zv_aload_n K 5 eX3_seeFlip_68 rfl ?_
      refine zv_iload_n K 6 eX3_seeFlip_69 rfl ?_
      refine zv_iload K 1 eX3_seeFlip_70 rfl ?_
      refine zv_iload K 4 eX3_seeFlip_72 rfl ?_
      refine zv_ishl K eX3_seeFlip_74 ?_
      refine zv_ixor K eX3_seeFlip_75 ?_
      refine zv_iload K 1 eX3_seeFlip_76 rfl ?_
      refine zv_iload K 4 eX3_seeFlip_78 rfl ?_
      refine zv_iconst K (2 : Int32) eX3_seeFlip_80 (by decide) ?_
      refine zv_iadd K eX3_seeFlip_81 ?_
      refine zv_ishl K eX3_seeFlip_82 ?_
      refine zv_ixor K eX3_seeFlip_83 ?_
      refine zv_iload K 9 eX3_seeFlip_84 rfl ?_
      obtain ⟨q4, hq4, hf⟩ := z_bind_inv hf
      obtain ⟨h5, eh5, hf⟩ := z_bind_inv hf
      refine zv_cV0 K [tI ((x1 ^^^ ((((x1 >>> (((2 : Int32) * (x2 - (1 : Int32))) &&& 31)) &&& (3 : Int32)) ^^^ ((x1 >>> ((((2 : Int32) * (x2 - (1 : Int32))) + (2 : Int32)) &&& 31)) &&& (3 : Int32))) <<< (((2 : Int32) * (x2 - (1 : Int32))) &&& 31))) ^^^ ((((x1 >>> (((2 : Int32) * (x2 - (1 : Int32))) &&& 31)) &&& (3 : Int32)) ^^^ ((x1 >>> ((((2 : Int32) * (x2 - (1 : Int32))) + (2 : Int32)) &&& 31)) &&& (3 : Int32))) <<< ((((2 : Int32) * (x2 - (1 : Int32))) + (2 : Int32)) &&& 31))), tI x5] [] eX3_seeFlip_86 lk_X3_87 md_X3_see im_X3_see sl_X3_see rfl rfl rfl rfl (Nat.le_of_ble_eq_true rfl) hq4 (c_X3_see X.1.2.1 X.2.2.1 eh5) rfl rfl ⟨z_le (z_fr hX) (by decide), z_le (z_lo hX) (by decide)⟩ ⟨Nat.zero_le _, Nat.zero_le _⟩ ?_
      have e9 := Option.some.inj hf; subst e9
      exact zv_vret K eX3_seeFlip_89 hp
  · have e9 := Option.some.inj hf; subst e9
    exact zv_vret K eX3_seeFlip_39 hp
theorem c_X3_seeFlip (l : Launch) (G : zG) {x0 : Option Nat} {x1 : Int32} {x2 : Int32} {x3 : Int64} {x5 : Int32} {h : zH} {nx : Nat} {x : zH} (hf : f_X3_seeFlip G.2.2.1 x0 x1 x2 x3 x5 h = some x) : z_Ct l G yX3_seeFlip cX3_seeFlip 11 none rm_X3_seeFlip [tA x0, tI x1, tI x2, tJ x3, tI x5] h nx none x nx 0 0 :=
  z_enter [(0, tA x0), (1, tI x1), (2, tI x2), (3, tJ x3), (5, tI x5)] (by decide +kernel) (Nat.le_of_ble_eq_true rfl) rfl (fun X hl hR hG hL K hq => by
    subst hl; subst hG
    exact v_X3_seeFlip K ⟨hR, hL⟩ hf hq)
set_option maxHeartbeats 4000000 in
set_option maxRecDepth 100000 in
theorem v_X10_beside_b72 {X : zX} (K : z_Ok X cX10_beside (some .int) RX10 "beside") (hX : z_Xo X rm_X10_beside 5) {x0 : Int32} {x1 : Int32} {s0 : Int32} {h : zH} {nx : Nat} {x : (Int32 × zH)} (hf : f_X10_beside_b72 X.2.2.1.2.2.1 x0 x1 s0 h = some x) (hp : z_P0I X nx x) : zV X 72 [(0, tI x0), (1, tI x1)] [tI s0] h nx 0 0 := by
  unfold f_X10_beside_b72 at hf
  refine zv_istore K [(4, tI s0), (0, tI x0), (1, tI x1)] eX10_beside_72 (z_lt hX.2 (by decide)) rfl ?_
  refine zv_iload K 0 eX10_beside_74 rfl ?_
  refine zv_if_eq K 91 eX10_beside_76 (by decide) hf (fun _ hf => ?_) (fun _ hf => ?_)
  · refine zv_bipush K (-4 : Int32) eX10_beside_91 (by decide) ?_
    have e9 := Option.some.inj hf; subst e9
    exact zv_iret K eX10_beside_93 hp
  · refine zv_iload_n K 1 eX10_beside_79 rfl ?_
    refine zv_step K eX10_beside_80 sp_X10_304 ?_
    refine zv_iload_n K 2 eX10_beside_83 rfl ?_
    refine zv_iconst K (3 : Int32) eX10_beside_84 (by decide) ?_
    refine zv_iand K eX10_beside_85 ?_
    refine zv_aI K eX10_beside_86 hf (fun v1 hf => ?_)
    refine zv_iadd K eX10_beside_87 ?_
    refine zv_goto K 93 eX10_beside_88 (by decide) ?_
    have e9 := Option.some.inj hf; subst e9
    exact zv_iret K eX10_beside_93 hp
set_option maxHeartbeats 4000000 in
set_option maxRecDepth 100000 in
theorem v_X10_beside {X : zX} (K : z_Ok X cX10_beside (some .int) RX10 "beside") (hX : z_Xo X rm_X10_beside 5) {x0 : Int32} {x1 : Int32} {h : zH} {nx : Nat} {x : (Int32 × zH)} (hf : f_X10_beside X.2.2.1.2.2.1 x0 x1 h = some x) (hp : z_P0I X nx x) : zV X 0 [(0, tI x0), (1, tI x1)] [] h nx 0 0 := by
  unfold f_X10_beside at hf
  refine zv_iload_n K 0 eX10_beside_0 rfl ?_
  refine zv_bipush K (7 : Int32) eX10_beside_1 (by decide) ?_
  refine zv_iand K eX10_beside_3 ?_
  refine zv_istore_n K [(2, tI (x0 &&& (7 : Int32))), (0, tI x0), (1, tI x1)] eX10_beside_4 (z_lt hX.2 (by decide)) rfl ?_
  refine zv_iload_n K 1 eX10_beside_5 rfl ?_
  refine zv_iconst K (3 : Int32) eX10_beside_6 (by decide) ?_
  refine zv_ishr K eX10_beside_7 ?_
  refine zv_istore_n K [(3, tI (x0 >>> ((3 : Int32) &&& 31))), (2, tI (x0 &&& (7 : Int32))), (0, tI x0), (1, tI x1)] eX10_beside_8 (z_lt hX.2 (by decide)) rfl ?_
  refine zv_iload_n K 3 eX10_beside_9 rfl ?_
  refine zv_if_ne K 27 eX10_beside_10 (by decide) hf (fun _ hf => ?_) (fun _ hf => ?_)
  · refine zv_iload_n K 3 eX10_beside_27 rfl ?_
    refine zv_iconst K (1 : Int32) eX10_beside_28 (by decide) ?_
    refine zv_icmp_ne K 46 eX10_beside_29 (by decide) hf (fun _ hf => ?_) (fun _ hf => ?_)
    · refine zv_iload_n K 3 eX10_beside_46 rfl ?_
      refine zv_iconst K (2 : Int32) eX10_beside_47 (by decide) ?_
      refine zv_icmp_ne K 63 eX10_beside_48 (by decide) hf (fun _ hf => ?_) (fun _ hf => ?_)
      · refine zv_iload_n K 0 eX10_beside_63 rfl ?_
        refine zv_if_le K 71 eX10_beside_64 (by decide) hf (fun _ hf => ?_) (fun _ hf => ?_)
        · refine zv_iconst K (0 : Int32) eX10_beside_71 (by decide) ?_
          exact zv_sub [2, 3] rfl (v_X10_beside_b72 K hX hf hp)
        · refine zv_iconst K (1 : Int32) eX10_beside_67 (by decide) ?_
          refine zv_goto K 72 eX10_beside_68 (by decide) ?_
          exact zv_sub [2, 3] rfl (v_X10_beside_b72 K hX hf hp)
      · refine zv_iload_n K 1 eX10_beside_51 rfl ?_
        refine zv_if_le K 59 eX10_beside_52 (by decide) hf (fun _ hf => ?_) (fun _ hf => ?_)
        · refine zv_iconst K (0 : Int32) eX10_beside_59 (by decide) ?_
          refine zv_goto K 72 eX10_beside_60 (by decide) ?_
          exact zv_sub [2, 3] rfl (v_X10_beside_b72 K hX hf hp)
        · refine zv_iconst K (1 : Int32) eX10_beside_55 (by decide) ?_
          refine zv_goto K 72 eX10_beside_56 (by decide) ?_
          exact zv_sub [2, 3] rfl (v_X10_beside_b72 K hX hf hp)
    · refine zv_iload_n K 0 eX10_beside_32 rfl ?_
      refine zv_bipush K (7 : Int32) eX10_beside_33 (by decide) ?_
      refine zv_icmp_ge K 42 eX10_beside_35 (by decide) hf (fun _ hf => ?_) (fun _ hf => ?_)
      · refine zv_iconst K (0 : Int32) eX10_beside_42 (by decide) ?_
        refine zv_goto K 72 eX10_beside_43 (by decide) ?_
        exact zv_sub [2, 3] rfl (v_X10_beside_b72 K hX hf hp)
      · refine zv_iconst K (1 : Int32) eX10_beside_38 (by decide) ?_
        refine zv_goto K 72 eX10_beside_39 (by decide) ?_
        exact zv_sub [2, 3] rfl (v_X10_beside_b72 K hX hf hp)
  · refine zv_iload_n K 1 eX10_beside_13 rfl ?_
    refine zv_bipush K (7 : Int32) eX10_beside_14 (by decide) ?_
    refine zv_icmp_ge K 23 eX10_beside_16 (by decide) hf (fun _ hf => ?_) (fun _ hf => ?_)
    · refine zv_iconst K (0 : Int32) eX10_beside_23 (by decide) ?_
      refine zv_goto K 72 eX10_beside_24 (by decide) ?_
      exact zv_sub [2, 3] rfl (v_X10_beside_b72 K hX hf hp)
    · refine zv_iconst K (1 : Int32) eX10_beside_19 (by decide) ?_
      refine zv_goto K 72 eX10_beside_20 (by decide) ?_
      exact zv_sub [2, 3] rfl (v_X10_beside_b72 K hX hf hp)
theorem c_X10_beside (l : Launch) (G : zG) {x0 : Int32} {x1 : Int32} {h : zH} {nx : Nat} {x : Int32 × zH} (hf : f_X10_beside G.2.2.1 x0 x1 h = some x) : z_Ct l G yX10_beside cX10_beside 5 (some .int) rm_X10_beside [tI x0, tI x1] h nx (some (tI x.1)) x.2 nx 0 0 :=
  z_enter [(0, tI x0), (1, tI x1)] (by decide +kernel) (Nat.le_of_ble_eq_true rfl) rfl (fun X hl hR hG hL K hq => by
    subst hl; subst hG
    exact v_X10_beside K ⟨hR, hL⟩ hf hq)
def P_X3_seeTurns_13 (X : zX) (nx : Nat) : ((Option Nat) × Int32 × Int64 × Int32 × Int32 × Int32 × zH) ⊕ (zH) → Prop := z_PL (fun s => zV X 13 [(0, tA s.1), (1, tI s.2.1), (2, tJ s.2.2.1), (4, tI s.2.2.2.1), (5, tI s.2.2.2.2.1), (6, tI s.2.2.2.2.2.1)] [] s.2.2.2.2.2.2 nx 0 0) (z_P0V X nx)
set_option maxHeartbeats 4000000 in
set_option maxRecDepth 100000 in
theorem v_X3_seeTurns_b73 {X : zX} (K : z_Ok X cX3_seeTurns none RX3 "seeTurns") (hX : z_Xo X rm_X3_seeTurns 8) {x0 : Option Nat} {x1 : Int32} {x2 : Int64} {x4 : Int32} {x5 : Int32} {x6 : Int32} {h : zH} {nx : Nat} {x : (((Option Nat) × Int32 × Int64 × Int32 × Int32 × Int32 × zH) ⊕ (zH))} (hf : f_X3_seeTurns_b73 X.2.2.1.2.2.1 x0 x1 x2 x4 x5 x6 h = some x) (hp : P_X3_seeTurns_13 X nx x) : zV X 73 [(0, tA x0), (1, tI x1), (2, tJ x2), (4, tI x4), (5, tI x5), (6, tI x6)] [] h nx 0 0 := by
  unfold f_X3_seeTurns_b73 at hf
  refine zv_iinc K (x6 + (1 : Int32)) 5 [(6, tI (x6 + (1 : Int32))), (0, tA x0), (1, tI x1), (2, tJ x2), (4, tI x4), (5, tI x5)] eX3_seeTurns_73 rfl rfl (z_lt hX.2 (by decide)) rfl ?_
  refine zv_goto K 13 eX3_seeTurns_76 (by decide) ?_
  cases hf
  exact zv_sub [1, 2, 3, 4, 5, 0] rfl (show zV X 13 [(0, tA x0), (1, tI x1), (2, tJ x2), (4, tI x4), (5, tI x5), (6, tI (x6 + (1 : Int32)))] [] h nx 0 0 from hp)
set_option maxHeartbeats 4000000 in
set_option maxRecDepth 100000 in
theorem v_X3_seeTurns_c13 {X : zX} (K : z_Ok X cX3_seeTurns none RX3 "seeTurns") (hX : z_Xo X rm_X3_seeTurns 8) {x0 : Option Nat} {x1 : Int32} {x2 : Int64} {x4 : Int32} {x5 : Int32} {x6 : Int32} {h : zH} {nx : Nat} {x : (((Option Nat) × Int32 × Int64 × Int32 × Int32 × Int32 × zH) ⊕ (zH))} (hf : f_X3_seeTurns_c13 X.2.2.1.2.2.1 x0 x1 x2 x4 x5 x6 h = some x) (hp : P_X3_seeTurns_13 X nx x) : zV X 13 [(0, tA x0), (1, tI x1), (2, tJ x2), (4, tI x4), (5, tI x5), (6, tI x6)] [] h nx 0 0 := by
  unfold f_X3_seeTurns_c13 at hf
  refine zv_iload K 5 eX3_seeTurns_13 rfl ?_
  refine zv_iconst K (4 : Int32) eX3_seeTurns_15 (by decide) ?_
  refine zv_icmp_ge K 79 eX3_seeTurns_16 (by decide) hf (fun _ hf => ?_) (fun _ hf => ?_)
  · obtain ⟨w9, hf9, e9⟩ := z_i1_inv hf; clear hf; subst e9; have hf := hf9; clear hf9
    have e9 := Option.some.inj hf; subst e9
    exact zv_vret K eX3_seeTurns_79 hp
  · refine zv_aload_n K 0 eX3_seeTurns_19 rfl ?_
    refine zv_gA K eX3_seeTurns_20 fl_X3_21 hf (fun v1 hf => ?_)
    refine zv_aload_n K 0 eX3_seeTurns_23 rfl ?_
    refine zv_gI K eX3_seeTurns_24 fl_X3_46 hf (fun v2 hf => ?_)
    refine zv_iconst K (2 : Int32) eX3_seeTurns_27 (by decide) ?_
    refine zv_isub K eX3_seeTurns_28 ?_
    refine zv_aI K eX3_seeTurns_29 hf (fun v3 hf => ?_)
    refine zv_iload K 5 eX3_seeTurns_30 rfl ?_
    obtain ⟨v5, h4, eh4, hf⟩ := z_b2_inv hf
    refine zv_cS0 K [tI v3, tI x6] [] eX3_seeTurns_32 lk_X3_105 md_X10_beside st_X10_beside rfl rfl (Nat.le_of_ble_eq_true rfl) (c_X10_beside X.1.2.1 X.2.2.1 eh4) rfl rfl ⟨z_le (z_fr hX) (by decide), z_le (z_lo hX) (by decide)⟩ ⟨Nat.zero_le _, Nat.zero_le _⟩ ?_
    refine zv_istore K [(7, tI v5), (0, tA x0), (1, tI x1), (2, tJ x2), (4, tI x4), (5, tI x5), (6, tI x6)] eX3_seeTurns_35 (z_lt hX.2 (by decide)) rfl ?_
    refine zv_iload K 0 eX3_seeTurns_37 rfl ?_
    refine zv_if_lt K 73 eX3_seeTurns_39 (by decide) hf (fun _ hf => ?_) (fun _ hf => ?_)
    · exact zv_sub [1, 2, 3, 4, 5, 6] rfl (v_X3_seeTurns_b73 K hX hf hp)
    · refine zv_lload_n K 3 eX3_seeTurns_42 rfl ?_
      refine zv_lconst K (1 : Int64) eX3_seeTurns_43 (by decide) ?_
      refine zv_iload K 0 eX3_seeTurns_44 rfl ?_
      refine zv_lshl K eX3_seeTurns_46 ?_
      refine zv_land K eX3_seeTurns_47 ?_
      refine zv_lconst K (0 : Int64) eX3_seeTurns_48 (by decide) ?_
      refine zv_lcmp K eX3_seeTurns_49 ?_
      refine zv_if_ne K 73 eX3_seeTurns_50 (by decide) hf (fun _ hf => ?_) (fun _ hf => ?_)
      · exact zv_sub [1, 2, 3, 4, 5, 6] rfl (v_X3_seeTurns_b73 K hX hf hp)
      · refine zv_aload_n K 1 eX3_seeTurns_53 rfl ?_
        refine zv_iload_n K 2 eX3_seeTurns_54 rfl ?_
        refine zv_iconst K (3 : Int32) eX3_seeTurns_55 (by decide) ?_
        refine zv_iload K 5 eX3_seeTurns_56 rfl ?_
        refine zv_ishl K eX3_seeTurns_58 ?_
        refine zv_iconst K (-1 : Int32) eX3_seeTurns_59 (by decide) ?_
        refine zv_ixor K eX3_seeTurns_60 ?_
        refine zv_iand K eX3_seeTurns_61 ?_
        refine zv_iload K 6 eX3_seeTurns_62 rfl ?_
        refine zv_iload K 5 eX3_seeTurns_64 rfl ?_
        refine zv_ishl K eX3_seeTurns_66 ?_
        refine zv_ior K eX3_seeTurns_67 ?_
        refine zv_iload K 4 eX3_seeTurns_68 rfl ?_
        obtain ⟨q6, hq6, hf⟩ := z_bind_inv hf
        obtain ⟨h7, eh7, hf⟩ := z_bind_inv hf
        refine zv_cV0 K [tI ((x1 &&& (((3 : Int32) <<< (x5 &&& 31)) ^^^ (-1 : Int32))) ||| (x6 <<< (x5 &&& 31))), tI x4] [] eX3_seeTurns_70 lk_X3_87 md_X3_see im_X3_see sl_X3_see rfl rfl rfl rfl (Nat.le_of_ble_eq_true rfl) hq6 (c_X3_see X.1.2.1 X.2.2.1 eh7) rfl rfl ⟨z_le (z_fr hX) (by decide), z_le (z_lo hX) (by decide)⟩ ⟨Nat.zero_le _, Nat.zero_le _⟩ ?_
        exact zv_sub [1, 2, 3, 4, 5, 6] rfl (v_X3_seeTurns_b73 K hX hf hp)
theorem v_X3_seeTurns_b13 {X : zX} (K : z_Ok X cX3_seeTurns none RX3 "seeTurns") (hX : z_Xo X rm_X3_seeTurns 8) {x0 : Option Nat} {x1 : Int32} {x2 : Int64} {x4 : Int32} {x5 : Int32} {x6 : Int32} {h : zH} {nx : Nat} {x : (zH)} (hf : f_X3_seeTurns_b13 X.2.2.1.2.2.1 x0 x1 x2 x4 x5 x6 h = some x) (hp : z_P0V X nx x) : zV X 13 [(0, tA x0), (1, tI x1), (2, tJ x2), (4, tI x4), (5, tI x5), (6, tI x6)] [] h nx 0 0 :=
  z_it_ind (P := fun s : (Option Nat) × Int32 × Int64 × Int32 × Int32 × Int32 × zH => zV X 13 [(0, tA s.1), (1, tI s.2.1), (2, tJ s.2.2.1), (4, tI s.2.2.2.1), (5, tI s.2.2.2.2.1), (6, tI s.2.2.2.2.2.1)] [] s.2.2.2.2.2.2 nx 0 0) (fun s y hb hy => v_X3_seeTurns_c13 K hX hb (z_PL_of hy hp)) hf
set_option maxHeartbeats 4000000 in
set_option maxRecDepth 100000 in
theorem v_X3_seeTurns {X : zX} (K : z_Ok X cX3_seeTurns none RX3 "seeTurns") (hX : z_Xo X rm_X3_seeTurns 8) {x0 : Option Nat} {x1 : Int32} {x2 : Int64} {x4 : Int32} {h : zH} {nx : Nat} {x : (zH)} (hf : f_X3_seeTurns X.2.2.1.2.2.1 x0 x1 x2 x4 h = some x) (hp : z_P0V X nx x) : zV X 0 [(0, tA x0), (1, tI x1), (2, tJ x2), (4, tI x4)] [] h nx 0 0 := by
  unfold f_X3_seeTurns at hf
  refine zv_iconst K (2 : Int32) eX3_seeTurns_0 (by decide) ?_
  refine zv_aload_n K 0 eX3_seeTurns_1 rfl ?_
  refine zv_gI K eX3_seeTurns_2 fl_X3_46 hf (fun v1 hf => ?_)
  refine zv_iconst K (2 : Int32) eX3_seeTurns_5 (by decide) ?_
  refine zv_isub K eX3_seeTurns_6 ?_
  refine zv_imul K eX3_seeTurns_7 ?_
  refine zv_istore K [(5, tI ((2 : Int32) * (v1 - (2 : Int32)))), (0, tA x0), (1, tI x1), (2, tJ x2), (4, tI x4)] eX3_seeTurns_8 (z_lt hX.2 (by decide)) rfl ?_
  refine zv_iconst K (0 : Int32) eX3_seeTurns_10 (by decide) ?_
  refine zv_istore K [(6, tI (0 : Int32)), (5, tI ((2 : Int32) * (v1 - (2 : Int32)))), (0, tA x0), (1, tI x1), (2, tJ x2), (4, tI x4)] eX3_seeTurns_11 (z_lt hX.2 (by decide)) rfl ?_
  exact zv_sub [2, 3, 4, 5, 1, 0] rfl (v_X3_seeTurns_b13 K hX hf hp)
theorem c_X3_seeTurns (l : Launch) (G : zG) {x0 : Option Nat} {x1 : Int32} {x2 : Int64} {x4 : Int32} {h : zH} {nx : Nat} {x : zH} (hf : f_X3_seeTurns G.2.2.1 x0 x1 x2 x4 h = some x) : z_Ct l G yX3_seeTurns cX3_seeTurns 8 none rm_X3_seeTurns [tA x0, tI x1, tJ x2, tI x4] h nx none x nx 0 0 :=
  z_enter [(0, tA x0), (1, tI x1), (2, tJ x2), (4, tI x4)] (by decide +kernel) (Nat.le_of_ble_eq_true rfl) rfl (fun X hl hR hG hL K hq => by
    subst hl; subst hG
    exact v_X3_seeTurns K ⟨hR, hL⟩ hf hq)
def P_X3_goOnFrom_57 (X : zX) (nx : Nat) : ((Option Nat) × Int32 × Int32 × Int64 × Int32 × zH) ⊕ (zH) → Prop := z_PL (fun s => zV X 57 [(0, tA s.1), (1, tI s.2.1), (2, tI s.2.2.1), (3, tJ s.2.2.2.1), (6, tI s.2.2.2.2.1)] [] s.2.2.2.2.2 nx 0 0) (z_P0V X nx)
set_option maxHeartbeats 4000000 in
set_option maxRecDepth 100000 in
theorem v_X3_goOnFrom_c57 {X : zX} (K : z_Ok X cX3_goOnFrom none RX3 "goOnFrom") (hX : z_Xo X rm_X3_goOnFrom 7) {x0 : Option Nat} {x1 : Int32} {x2 : Int32} {x3 : Int64} {x6 : Int32} {h : zH} {nx : Nat} {x : (((Option Nat) × Int32 × Int32 × Int64 × Int32 × zH) ⊕ (zH))} (hf : f_X3_goOnFrom_c57 X.2.2.1.2.2.1 x0 x1 x2 x3 x6 h = some x) (hp : P_X3_goOnFrom_57 X nx x) : zV X 57 [(0, tA x0), (1, tI x1), (2, tI x2), (3, tJ x3), (6, tI x6)] [] h nx 0 0 := by
  unfold f_X3_goOnFrom_c57 at hf
  refine zv_iload K 4 eX3_goOnFrom_57 rfl ?_
  refine zv_aload_n K 0 eX3_goOnFrom_59 rfl ?_
  refine zv_gI K eX3_goOnFrom_60 fl_X3_46 hf (fun v1 hf => ?_)
  refine zv_iconst K (1 : Int32) eX3_goOnFrom_63 (by decide) ?_
  refine zv_isub K eX3_goOnFrom_64 ?_
  refine zv_icmp_ge K 85 eX3_goOnFrom_65 (by decide) hf (fun _ hf => ?_) (fun _ hf => ?_)
  · obtain ⟨w9, hf9, e9⟩ := z_i1_inv hf; clear hf; subst e9; have hf := hf9; clear hf9
    refine zv_aload_n K 0 eX3_goOnFrom_85 rfl ?_
    refine zv_iload_n K 1 eX3_goOnFrom_86 rfl ?_
    refine zv_lload_n K 3 eX3_goOnFrom_87 rfl ?_
    refine zv_iload_n K 2 eX3_goOnFrom_88 rfl ?_
    refine zv_iconst K (1 : Int32) eX3_goOnFrom_89 (by decide) ?_
    refine zv_iadd K eX3_goOnFrom_90 ?_
    obtain ⟨q2, hq2, hf⟩ := z_bind_inv hf
    obtain ⟨h3, eh3, hf⟩ := z_bind_inv hf
    refine zv_cV0 K [tI x1, tJ x3, tI (x2 + (1 : Int32))] [] eX3_goOnFrom_91 lk_X3_101 md_X3_seeTurns im_X3_seeTurns sl_X3_seeTurns rfl rfl rfl rfl (Nat.le_of_ble_eq_true rfl) hq2 (c_X3_seeTurns X.1.2.1 X.2.2.1 eh3) rfl rfl ⟨z_le (z_fr hX) (by decide), z_le (z_lo hX) (by decide)⟩ ⟨Nat.zero_le _, Nat.zero_le _⟩ ?_
    have e9 := Option.some.inj hf; subst e9
    exact zv_vret K eX3_goOnFrom_94 hp
  · refine zv_aload_n K 0 eX3_goOnFrom_68 rfl ?_
    refine zv_iload_n K 1 eX3_goOnFrom_69 rfl ?_
    refine zv_iload K 4 eX3_goOnFrom_70 rfl ?_
    refine zv_lload_n K 3 eX3_goOnFrom_72 rfl ?_
    refine zv_iload_n K 2 eX3_goOnFrom_73 rfl ?_
    refine zv_iconst K (1 : Int32) eX3_goOnFrom_74 (by decide) ?_
    refine zv_iadd K eX3_goOnFrom_75 ?_
    obtain ⟨q4, hq4, hf⟩ := z_bind_inv hf
    obtain ⟨h5, eh5, hf⟩ := z_bind_inv hf
    refine zv_cV0 K [tI x1, tI x6, tJ x3, tI (x2 + (1 : Int32))] [] eX3_goOnFrom_76 lk_X3_97 md_X3_seeFlip im_X3_seeFlip sl_X3_seeFlip rfl rfl rfl rfl (Nat.le_of_ble_eq_true rfl) hq4 (c_X3_seeFlip X.1.2.1 X.2.2.1 eh5) rfl rfl ⟨z_le (z_fr hX) (by decide), z_le (z_lo hX) (by decide)⟩ ⟨Nat.zero_le _, Nat.zero_le _⟩ ?_
    refine zv_iinc K (x6 + (1 : Int32)) 4 [(6, tI (x6 + (1 : Int32))), (0, tA x0), (1, tI x1), (2, tI x2), (3, tJ x3)] eX3_goOnFrom_79 rfl rfl (z_lt hX.2 (by decide)) rfl ?_
    refine zv_goto K 57 eX3_goOnFrom_82 (by decide) ?_
    cases hf
    exact zv_sub [1, 2, 3, 4, 0] rfl (show zV X 57 [(0, tA x0), (1, tI x1), (2, tI x2), (3, tJ x3), (6, tI (x6 + (1 : Int32)))] [] h5 nx 0 0 from hp)
theorem v_X3_goOnFrom_b57 {X : zX} (K : z_Ok X cX3_goOnFrom none RX3 "goOnFrom") (hX : z_Xo X rm_X3_goOnFrom 7) {x0 : Option Nat} {x1 : Int32} {x2 : Int32} {x3 : Int64} {x6 : Int32} {h : zH} {nx : Nat} {x : (zH)} (hf : f_X3_goOnFrom_b57 X.2.2.1.2.2.1 x0 x1 x2 x3 x6 h = some x) (hp : z_P0V X nx x) : zV X 57 [(0, tA x0), (1, tI x1), (2, tI x2), (3, tJ x3), (6, tI x6)] [] h nx 0 0 :=
  z_it_ind (P := fun s : (Option Nat) × Int32 × Int32 × Int64 × Int32 × zH => zV X 57 [(0, tA s.1), (1, tI s.2.1), (2, tI s.2.2.1), (3, tJ s.2.2.2.1), (6, tI s.2.2.2.2.1)] [] s.2.2.2.2.2 nx 0 0) (fun s y hb hy => v_X3_goOnFrom_c57 K hX hb (z_PL_of hy hp)) hf
set_option maxHeartbeats 4000000 in
set_option maxRecDepth 100000 in
theorem v_X3_goOnFrom_b54 {X : zX} (K : z_Ok X cX3_goOnFrom none RX3 "goOnFrom") (hX : z_Xo X rm_X3_goOnFrom 7) {x0 : Option Nat} {x1 : Int32} {x2 : Int32} {x3 : Int64} {h : zH} {nx : Nat} {x : (zH)} (hf : f_X3_goOnFrom_b54 X.2.2.1.2.2.1 x0 x1 x2 x3 h = some x) (hp : z_P0V X nx x) : zV X 54 [(0, tA x0), (1, tI x1), (2, tI x2), (3, tJ x3)] [] h nx 0 0 := by
  unfold f_X3_goOnFrom_b54 at hf
  refine zv_iconst K (1 : Int32) eX3_goOnFrom_54 (by decide) ?_
  refine zv_istore K [(6, tI (1 : Int32)), (0, tA x0), (1, tI x1), (2, tI x2), (3, tJ x3)] eX3_goOnFrom_55 (z_lt hX.2 (by decide)) rfl ?_
  exact zv_sub [1, 2, 3, 4, 0] rfl (v_X3_goOnFrom_b57 K hX hf hp)
set_option maxHeartbeats 4000000 in
set_option maxRecDepth 100000 in
theorem v_X3_goOnFrom {X : zX} (K : z_Ok X cX3_goOnFrom none RX3 "goOnFrom") (hX : z_Xo X rm_X3_goOnFrom 7) {x0 : Option Nat} {x1 : Int32} {x2 : Int32} {h : zH} {nx : Nat} {x : (zH)} (hf : f_X3_goOnFrom X.2.2.1.2.2.1 x0 x1 x2 h = some x) (hp : z_P0V X nx x) : zV X 0 [(0, tA x0), (1, tI x1), (2, tI x2)] [] h nx 0 0 := by
  unfold f_X3_goOnFrom at hf
  refine zv_aload_n K 0 eX3_goOnFrom_0 rfl ?_
  refine zv_gJ K eX3_goOnFrom_1 fl_X3_62 hf (fun v1 hf => ?_)
  refine zv_aload_n K 0 eX3_goOnFrom_4 rfl ?_
  refine zv_iload_n K 1 eX3_goOnFrom_5 rfl ?_
  obtain ⟨q2, hq2, hf⟩ := z_bind_inv hf
  obtain ⟨v4, h3, eh3, hf⟩ := z_b2_inv hf
  refine zv_cV0 K [tI x1] [tJ v1] eX3_goOnFrom_6 lk_X3_56 md_X3_layOut im_X3_layOut sl_X3_layOut rfl rfl rfl rfl (Nat.le_of_ble_eq_true rfl) hq2 (c_X3_layOut X.1.2.1 X.2.2.1 eh3) rfl rfl ⟨z_le (z_fr hX) (by decide), z_le (z_lo hX) (by decide)⟩ ⟨Nat.zero_le _, Nat.zero_le _⟩ ?_
  refine zv_lor K eX3_goOnFrom_9 ?_
  refine zv_lstore_n K [(3, tJ (v1 ||| v4)), (0, tA x0), (1, tI x1), (2, tI x2)] eX3_goOnFrom_10 (z_lt hX.2 (by decide)) rfl ?_
  refine zv_aload_n K 1 eX3_goOnFrom_11 rfl ?_
  refine zv_gA K eX3_goOnFrom_12 fl_X3_21 hf (fun v5 hf => ?_)
  refine zv_aload_n K 1 eX3_goOnFrom_15 rfl ?_
  refine zv_gI K eX3_goOnFrom_16 fl_X3_46 hf (fun v6 hf => ?_)
  refine zv_iconst K (1 : Int32) eX3_goOnFrom_19 (by decide) ?_
  refine zv_isub K eX3_goOnFrom_20 ?_
  refine zv_aI K eX3_goOnFrom_21 hf (fun v7 hf => ?_)
  refine zv_istore K [(5, tI v7), (3, tJ (v1 ||| v4)), (0, tA x0), (1, tI x1), (2, tI x2)] eX3_goOnFrom_22 (z_lt hX.2 (by decide)) rfl ?_
  refine zv_aload_n K 2 eX3_goOnFrom_24 rfl ?_
  refine zv_gA K eX3_goOnFrom_25 fl_X3_18 hf (fun v8 hf => ?_)
  refine zv_iload K 0 eX3_goOnFrom_28 rfl ?_
  refine zv_aI K eX3_goOnFrom_30 hf (fun v9 hf => ?_)
  refine zv_bipush K (-4 : Int32) eX3_goOnFrom_31 (by decide) ?_
  refine zv_icmp_ne K 54 eX3_goOnFrom_33 (by decide) hf (fun _ hf => ?_) (fun _ hf => ?_)
  · exact zv_sub [2, 3, 4, 1] rfl (v_X3_goOnFrom_b54 K hX hf hp)
  · refine zv_aload_n K 2 eX3_goOnFrom_36 rfl ?_
    refine zv_gA K eX3_goOnFrom_37 fl_X3_18 hf (fun v10 hf => ?_)
    refine zv_iload K 0 eX3_goOnFrom_40 rfl ?_
    refine zv_iload_n K 4 eX3_goOnFrom_42 rfl ?_
    refine zv_sI K eX3_goOnFrom_43 hf (fun h11 hf => ?_)
    refine zv_aload_n K 2 eX3_goOnFrom_44 rfl ?_
    refine zv_dup K eX3_goOnFrom_45 rfl ?_
    refine zv_gI K eX3_goOnFrom_46 fl_X3_84 hf (fun v12 hf => ?_)
    refine zv_iconst K (1 : Int32) eX3_goOnFrom_49 (by decide) ?_
    refine zv_iadd K eX3_goOnFrom_50 ?_
    refine zv_pI K eX3_goOnFrom_51 fl_X3_84 ff_3_5 rfl hf (fun h13 hf => ?_)
    exact zv_sub [2, 3, 4, 1] rfl (v_X3_goOnFrom_b54 K hX hf hp)
theorem c_X3_goOnFrom (l : Launch) (G : zG) {x0 : Option Nat} {x1 : Int32} {x2 : Int32} {h : zH} {nx : Nat} {x : zH} (hf : f_X3_goOnFrom G.2.2.1 x0 x1 x2 h = some x) : z_Ct l G yX3_goOnFrom cX3_goOnFrom 7 none rm_X3_goOnFrom [tA x0, tI x1, tI x2] h nx none x nx 0 0 :=
  z_enter [(0, tA x0), (1, tI x1), (2, tI x2)] (by decide +kernel) (Nat.le_of_ble_eq_true rfl) rfl (fun X hl hR hG hL K hq => by
    subst hl; subst hG
    exact v_X3_goOnFrom K ⟨hR, hL⟩ hf hq)
def P_X3_searchAnew_46 (X : zX) (nx : Nat) : ((Option Nat) × Int32 × zH) ⊕ (zH) → Prop := z_PL (fun s => zV X 46 [(0, tA s.1), (1, tI s.2.1)] [] s.2.2 nx 0 0) (z_P0V X nx)
set_option maxHeartbeats 4000000 in
set_option maxRecDepth 100000 in
theorem v_X3_searchAnew_c46 {X : zX} (K : z_Ok X cX3_searchAnew none RX3 "searchAnew") (hX : z_Xo X rm_X3_searchAnew 2) {x0 : Option Nat} {x1 : Int32} {h : zH} {nx : Nat} {x : (((Option Nat) × Int32 × zH) ⊕ (zH))} (hf : f_X3_searchAnew_c46 X.2.2.1.2.2.1 x0 x1 h = some x) (hp : P_X3_searchAnew_46 X nx x) : zV X 46 [(0, tA x0), (1, tI x1)] [] h nx 0 0 := by
  unfold f_X3_searchAnew_c46 at hf
  refine zv_iload_n K 1 eX3_searchAnew_46 rfl ?_
  refine zv_aload_n K 0 eX3_searchAnew_47 rfl ?_
  refine zv_gI K eX3_searchAnew_48 fl_X3_81 hf (fun v1 hf => ?_)
  refine zv_icmp_ge K 90 eX3_searchAnew_51 (by decide) hf (fun _ hf => ?_) (fun _ hf => ?_)
  · obtain ⟨w9, hf9, e9⟩ := z_i1_inv hf; clear hf; subst e9; have hf := hf9; clear hf9
    have e9 := Option.some.inj hf; subst e9
    exact zv_vret K eX3_searchAnew_90 hp
  · refine zv_iload_n K 1 eX3_searchAnew_54 rfl ?_
    refine zv_aload_n K 0 eX3_searchAnew_55 rfl ?_
    refine zv_gA K eX3_searchAnew_56 fl_X3_15 hf (fun v2 hf => ?_)
    refine zv_len K eX3_searchAnew_59 hf (fun v3 hf => ?_)
    refine zv_icmp_ge K 90 eX3_searchAnew_60 (by decide) hf (fun _ hf => ?_) (fun _ hf => ?_)
    · obtain ⟨w9, hf9, e9⟩ := z_i1_inv hf; clear hf; subst e9; have hf := hf9; clear hf9
      have e9 := Option.some.inj hf; subst e9
      exact zv_vret K eX3_searchAnew_90 hp
    · refine zv_aload_n K 0 eX3_searchAnew_63 rfl ?_
      refine zv_aload_n K 0 eX3_searchAnew_64 rfl ?_
      refine zv_gA K eX3_searchAnew_65 fl_X3_15 hf (fun v4 hf => ?_)
      refine zv_iload_n K 1 eX3_searchAnew_68 rfl ?_
      refine zv_aI K eX3_searchAnew_69 hf (fun v5 hf => ?_)
      refine zv_aload_n K 0 eX3_searchAnew_70 rfl ?_
      refine zv_gA K eX3_searchAnew_71 fl_X3_9 hf (fun v6 hf => ?_)
      refine zv_aload_n K 0 eX3_searchAnew_74 rfl ?_
      refine zv_gA K eX3_searchAnew_75 fl_X3_15 hf (fun v7 hf => ?_)
      refine zv_iload_n K 1 eX3_searchAnew_78 rfl ?_
      refine zv_aI K eX3_searchAnew_79 hf (fun v8 hf => ?_)
      refine zv_aI K eX3_searchAnew_80 hf (fun v9 hf => ?_)
      obtain ⟨q10, hq10, hf⟩ := z_bind_inv hf
      obtain ⟨h11, eh11, hf⟩ := z_bind_inv hf
      refine zv_cV0 K [tI v5, tI v9] [] eX3_searchAnew_81 lk_X3_91 md_X3_goOnFrom im_X3_goOnFrom sl_X3_goOnFrom rfl rfl rfl rfl (Nat.le_of_ble_eq_true rfl) hq10 (c_X3_goOnFrom X.1.2.1 X.2.2.1 eh11) rfl rfl ⟨z_le (z_fr hX) (by decide), z_le (z_lo hX) (by decide)⟩ ⟨Nat.zero_le _, Nat.zero_le _⟩ ?_
      refine zv_iinc K (x1 + (1 : Int32)) 1 [(1, tI (x1 + (1 : Int32))), (0, tA x0)] eX3_searchAnew_84 rfl rfl (z_lt hX.2 (by decide)) rfl ?_
      refine zv_goto K 46 eX3_searchAnew_87 (by decide) ?_
      cases hf
      exact zv_sub [1, 0] rfl (show zV X 46 [(0, tA x0), (1, tI (x1 + (1 : Int32)))] [] h11 nx 0 0 from hp)
theorem v_X3_searchAnew_b46 {X : zX} (K : z_Ok X cX3_searchAnew none RX3 "searchAnew") (hX : z_Xo X rm_X3_searchAnew 2) {x0 : Option Nat} {x1 : Int32} {h : zH} {nx : Nat} {x : (zH)} (hf : f_X3_searchAnew_b46 X.2.2.1.2.2.1 x0 x1 h = some x) (hp : z_P0V X nx x) : zV X 46 [(0, tA x0), (1, tI x1)] [] h nx 0 0 :=
  z_it_ind (P := fun s : (Option Nat) × Int32 × zH => zV X 46 [(0, tA s.1), (1, tI s.2.1)] [] s.2.2 nx 0 0) (fun s y hb hy => v_X3_searchAnew_c46 K hX hb (z_PL_of hy hp)) hf
set_option maxHeartbeats 4000000 in
set_option maxRecDepth 100000 in
theorem v_X3_searchAnew {X : zX} (K : z_Ok X cX3_searchAnew none RX3 "searchAnew") (hX : z_Xo X rm_X3_searchAnew 2) {x0 : Option Nat} {h : zH} {nx : Nat} {x : (zH)} (hf : f_X3_searchAnew X.2.2.1.2.2.1 x0 h = some x) (hp : z_P0V X nx x) : zV X 0 [(0, tA x0)] [] h nx 0 0 := by
  unfold f_X3_searchAnew at hf
  refine zv_aload_n K 0 eX3_searchAnew_0 rfl ?_
  refine zv_gA K eX3_searchAnew_1 fl_X3_9 hf (fun v1 hf => ?_)
  refine zv_iconst K (0 : Int32) eX3_searchAnew_4 (by decide) ?_
  refine zv_aload_n K 0 eX3_searchAnew_5 rfl ?_
  refine zv_gI K eX3_searchAnew_6 fl_X3_46 hf (fun v2 hf => ?_)
  obtain ⟨v4, h3, eh3, hf⟩ := z_b2_inv hf
  refine zv_cS0 K [tI v2] [tI (0 : Int32), tA v1] eX3_searchAnew_9 lk_X3_68 md_X10_formsOf st_X10_formsOf rfl rfl (Nat.le_of_ble_eq_true rfl) (c_X10_formsOf X.1.2.1 X.2.2.1 eh3) rfl rfl ⟨z_le (z_fr hX) (by decide), z_le (z_lo hX) (by decide)⟩ ⟨Nat.zero_le _, Nat.zero_le _⟩ ?_
  refine zv_iconst K (-1 : Int32) eX3_searchAnew_12 (by decide) ?_
  obtain ⟨h5, eh5, hf⟩ := z_bind_inv hf
  refine zv_cS0 K [tA v1, tI (0 : Int32), tI v4, tI (-1 : Int32)] [] eX3_searchAnew_13 lk_X3_72 md_J7_fill_fda19 st_J7_fill_fda19 rfl rfl (Nat.le_of_ble_eq_true rfl) (c_J7_fill_fda19 X.1.2.1 X.2.2.1 eh5) rfl rfl ⟨z_le (z_fr hX) (by decide), z_le (z_lo hX) (by decide)⟩ ⟨Nat.zero_le _, Nat.zero_le _⟩ ?_
  refine zv_aload_n K 0 eX3_searchAnew_16 rfl ?_
  refine zv_gA K eX3_searchAnew_17 fl_X3_18 hf (fun v6 hf => ?_)
  refine zv_bipush K (-4 : Int32) eX3_searchAnew_20 (by decide) ?_
  obtain ⟨h7, eh7, hf⟩ := z_bind_inv hf
  refine zv_cS0 K [tA v6, tI (-4 : Int32)] [] eX3_searchAnew_22 lk_X3_78 md_J7_fill_53178 st_J7_fill_53178 rfl rfl (Nat.le_of_ble_eq_true rfl) (c_J7_fill_53178 X.1.2.1 X.2.2.1 eh7) rfl rfl ⟨z_le (z_fr hX) (by decide), z_le (z_lo hX) (by decide)⟩ ⟨Nat.zero_le _, Nat.zero_le _⟩ ?_
  refine zv_aload_n K 0 eX3_searchAnew_25 rfl ?_
  refine zv_iconst K (0 : Int32) eX3_searchAnew_26 (by decide) ?_
  refine zv_pI K eX3_searchAnew_27 fl_X3_81 ff_3_4 rfl hf (fun h8 hf => ?_)
  refine zv_aload_n K 0 eX3_searchAnew_30 rfl ?_
  refine zv_iconst K (0 : Int32) eX3_searchAnew_31 (by decide) ?_
  refine zv_pI K eX3_searchAnew_32 fl_X3_84 ff_3_5 rfl hf (fun h9 hf => ?_)
  refine zv_aload_n K 0 eX3_searchAnew_35 rfl ?_
  refine zv_aload_n K 0 eX3_searchAnew_36 rfl ?_
  refine zv_gI K eX3_searchAnew_37 fl_X3_50 hf (fun v10 hf => ?_)
  refine zv_iconst K (0 : Int32) eX3_searchAnew_40 (by decide) ?_
  obtain ⟨q11, hq11, hf⟩ := z_bind_inv hf
  obtain ⟨h12, eh12, hf⟩ := z_bind_inv hf
  refine zv_cV0 K [tI v10, tI (0 : Int32)] [] eX3_searchAnew_41 lk_X3_87 md_X3_see im_X3_see sl_X3_see rfl rfl rfl rfl (Nat.le_of_ble_eq_true rfl) hq11 (c_X3_see X.1.2.1 X.2.2.1 eh12) rfl rfl ⟨z_le (z_fr hX) (by decide), z_le (z_lo hX) (by decide)⟩ ⟨Nat.zero_le _, Nat.zero_le _⟩ ?_
  refine zv_iconst K (0 : Int32) eX3_searchAnew_44 (by decide) ?_
  refine zv_istore_n K [(1, tI (0 : Int32)), (0, tA x0)] eX3_searchAnew_45 (z_lt hX.2 (by decide)) rfl ?_
  exact zv_sub [1, 0] rfl (v_X3_searchAnew_b46 K hX hf hp)
theorem c_X3_searchAnew (l : Launch) (G : zG) {x0 : Option Nat} {h : zH} {nx : Nat} {x : zH} (hf : f_X3_searchAnew G.2.2.1 x0 h = some x) : z_Ct l G yX3_searchAnew cX3_searchAnew 2 none rm_X3_searchAnew [tA x0] h nx none x nx 0 0 :=
  z_enter [(0, tA x0)] (by decide +kernel) (Nat.le_of_ble_eq_true rfl) rfl (fun X hl hR hG hL K hq => by
    subst hl; subst hG
    exact v_X3_searchAnew K ⟨hR, hL⟩ hf hq)
set_option maxHeartbeats 4000000 in
set_option maxRecDepth 100000 in
theorem v_X3_search_b59 {X : zX} (K : z_Ok X cX3_search none RX3 "search") (hX : z_Xo X rm_X3_search 6) {x0 : Option Nat} {x2 : Option Nat} {x3 : Int32} {x4 : Int64} {h : zH} {nx : Nat} {x : (zH)} (hf : f_X3_search_b59 X.2.2.1.2.2.1 x0 x2 x3 x4 h = some x) (hp : z_P0V X nx x) : zV X 59 [(0, tA x0), (2, tA x2), (3, tI x3), (4, tJ x4)] [] h nx 0 0 := by
  unfold f_X3_search_b59 at hf
  refine zv_aload_n K 0 eX3_search_59 rfl ?_
  refine zv_aload_n K 1 eX3_search_60 rfl ?_
  refine zv_gA K eX3_search_61 fl_X3_43 hf (fun v1 hf => ?_)
  refine zv_iconst K (0 : Int32) eX3_search_64 (by decide) ?_
  refine zv_aI K eX3_search_65 hf (fun v2 hf => ?_)
  refine zv_pI K eX3_search_66 fl_X3_39 ff_3_6 rfl hf (fun h3 hf => ?_)
  refine zv_aload_n K 0 eX3_search_69 rfl ?_
  refine zv_aload_n K 1 eX3_search_70 rfl ?_
  refine zv_gI K eX3_search_71 fl_X3_49 hf (fun v4 hf => ?_)
  refine zv_pI K eX3_search_74 fl_X3_46 ff_3_7 rfl hf (fun h5 hf => ?_)
  refine zv_aload_n K 0 eX3_search_77 rfl ?_
  refine zv_iload_n K 2 eX3_search_78 rfl ?_
  refine zv_pI K eX3_search_79 fl_X3_50 ff_3_8 rfl hf (fun h6 hf => ?_)
  refine zv_aload_n K 0 eX3_search_82 rfl ?_
  refine zv_lload K 3 eX3_search_83 rfl ?_
  refine zv_pJ K eX3_search_85 fl_X3_53 ff_3_9 rfl hf (fun h7 hf => ?_)
  refine zv_aload_n K 0 eX3_search_88 rfl ?_
  refine zv_aload_n K 0 eX3_search_89 rfl ?_
  refine zv_gJ K eX3_search_90 fl_X3_53 hf (fun v8 hf => ?_)
  refine zv_aload_n K 0 eX3_search_93 rfl ?_
  refine zv_aload_n K 0 eX3_search_94 rfl ?_
  refine zv_gI K eX3_search_95 fl_X3_50 hf (fun v9 hf => ?_)
  obtain ⟨q10, hq10, hf⟩ := z_bind_inv hf
  obtain ⟨v12, h11, eh11, hf⟩ := z_b2_inv hf
  refine zv_cV0 K [tI v9] [tJ v8, tA x0] eX3_search_98 lk_X3_56 md_X3_layOut im_X3_layOut sl_X3_layOut rfl rfl rfl rfl (Nat.le_of_ble_eq_true rfl) hq10 (c_X3_layOut X.1.2.1 X.2.2.1 eh11) rfl rfl ⟨z_le (z_fr hX) (by decide), z_le (z_lo hX) (by decide)⟩ ⟨Nat.zero_le _, Nat.zero_le _⟩ ?_
  refine zv_ldc2 K (-1 : Int64) eX3_search_101 kl_X3_60 ?_
  refine zv_lxor K eX3_search_104 ?_
  refine zv_land K eX3_search_105 ?_
  refine zv_pJ K eX3_search_106 fl_X3_62 ff_3_10 rfl hf (fun h13 hf => ?_)
  refine zv_aload_n K 0 eX3_search_109 rfl ?_
  obtain ⟨q14, hq14, hf⟩ := z_bind_inv hf
  obtain ⟨h15, eh15, hf⟩ := z_bind_inv hf
  refine zv_cV0 K [] [] eX3_search_110 lk_X3_65 md_X3_searchAnew im_X3_searchAnew sl_X3_searchAnew rfl rfl rfl rfl (Nat.le_of_ble_eq_true rfl) hq14 (c_X3_searchAnew X.1.2.1 X.2.2.1 eh15) rfl rfl ⟨z_le (z_fr hX) (by decide), z_le (z_lo hX) (by decide)⟩ ⟨Nat.zero_le _, Nat.zero_le _⟩ ?_
  have e9 := Option.some.inj hf; subst e9
  exact zv_vret K eX3_search_113 hp
set_option maxHeartbeats 4000000 in
set_option maxRecDepth 100000 in
theorem v_X3_search {X : zX} (K : z_Ok X cX3_search none RX3 "search") (hX : z_Xo X rm_X3_search 6) {x0 : Option Nat} {x1 : Option Nat} {x2 : Option Nat} {h : zH} {nx : Nat} {x : (zH)} (hf : f_X3_search X.2.2.1.2.2.1 x0 x1 x2 h = some x) (hp : z_P0V X nx x) : zV X 0 [(0, tA x0), (1, tA x1), (2, tA x2)] [] h nx 0 0 := by
  unfold f_X3_search at hf
  refine zv_aload_n K 2 eX3_search_0 rfl ?_
  obtain ⟨q1, hq1, hf⟩ := z_bind_inv hf
  obtain ⟨v3, h2, eh2, hf⟩ := z_b2_inv hf
  refine zv_cV0 K [] [] eX3_search_1 lk_X3_24 md_X0_formNow im_X0_formNow sl_X0_formNow rfl rfl rfl rfl (Nat.le_of_ble_eq_true rfl) hq1 (c_X0_formNow X.1.2.1 X.2.2.1 eh2) rfl rfl ⟨z_le (z_fr hX) (by decide), z_le (z_lo hX) (by decide)⟩ ⟨Nat.zero_le _, Nat.zero_le _⟩ ?_
  refine zv_istore_n K [(3, tI v3), (0, tA x0), (1, tA x1), (2, tA x2)] eX3_search_4 (z_lt hX.2 (by decide)) rfl ?_
  refine zv_aload_n K 2 eX3_search_5 rfl ?_
  refine zv_gJ K eX3_search_6 fl_X3_30 hf (fun v4 hf => ?_)
  refine zv_aload_n K 2 eX3_search_9 rfl ?_
  refine zv_gJ K eX3_search_10 fl_X3_36 hf (fun v5 hf => ?_)
  refine zv_lor K eX3_search_13 ?_
  refine zv_lstore K [(4, tJ (v4 ||| v5)), (3, tI v3), (0, tA x0), (1, tA x1), (2, tA x2)] eX3_search_14 (z_lt hX.2 (by decide)) rfl ?_
  refine zv_aload_n K 2 eX3_search_16 rfl ?_
  refine zv_gI K eX3_search_17 fl_X3_39 hf (fun v6 hf => ?_)
  refine zv_aload_n K 4 eX3_search_20 rfl ?_
  refine zv_gA K eX3_search_21 fl_X3_43 hf (fun v7 hf => ?_)
  refine zv_iconst K (0 : Int32) eX3_search_24 (by decide) ?_
  refine zv_aI K eX3_search_25 hf (fun v8 hf => ?_)
  refine zv_icmp_ne K 59 eX3_search_26 (by decide) hf (fun _ hf => ?_) (fun _ hf => ?_)
  · exact zv_sub [2, 4, 1, 0] rfl (v_X3_search_b59 K hX hf hp)
  · refine zv_aload_n K 2 eX3_search_29 rfl ?_
    refine zv_gI K eX3_search_30 fl_X3_46 hf (fun v9 hf => ?_)
    refine zv_aload_n K 4 eX3_search_33 rfl ?_
    refine zv_gI K eX3_search_34 fl_X3_49 hf (fun v10 hf => ?_)
    refine zv_icmp_ne K 59 eX3_search_37 (by decide) hf (fun _ hf => ?_) (fun _ hf => ?_)
    · exact zv_sub [2, 4, 1, 0] rfl (v_X3_search_b59 K hX hf hp)
    · refine zv_aload_n K 2 eX3_search_40 rfl ?_
      refine zv_gI K eX3_search_41 fl_X3_50 hf (fun v11 hf => ?_)
      refine zv_iload_n K 1 eX3_search_44 rfl ?_
      refine zv_icmp_ne K 59 eX3_search_45 (by decide) hf (fun _ hf => ?_) (fun _ hf => ?_)
      · exact zv_sub [2, 4, 1, 0] rfl (v_X3_search_b59 K hX hf hp)
      · refine zv_aload_n K 2 eX3_search_48 rfl ?_
        refine zv_gJ K eX3_search_49 fl_X3_53 hf (fun v12 hf => ?_)
        refine zv_lload K 0 eX3_search_52 rfl ?_
        refine zv_lcmp K eX3_search_54 ?_
        refine zv_if_ne K 59 eX3_search_55 (by decide) hf (fun _ hf => ?_) (fun _ hf => ?_)
        · exact zv_sub [2, 4, 1, 0] rfl (v_X3_search_b59 K hX hf hp)
        · have e9 := Option.some.inj hf; subst e9
          exact zv_vret K eX3_search_58 hp
theorem c_X3_search (l : Launch) (G : zG) {x0 : Option Nat} {x1 : Option Nat} {x2 : Option Nat} {h : zH} {nx : Nat} {x : zH} (hf : f_X3_search G.2.2.1 x0 x1 x2 h = some x) : z_Ct l G yX3_search cX3_search 6 none rm_X3_search [tA x0, tA x1, tA x2] h nx none x nx 0 0 :=
  z_enter [(0, tA x0), (1, tA x1), (2, tA x2)] (by decide +kernel) (Nat.le_of_ble_eq_true rfl) rfl (fun X hl hR hG hL K hq => by
    subst hl; subst hG
    exact v_X3_search K ⟨hR, hL⟩ hf hq)
set_option maxHeartbeats 4000000 in
set_option maxRecDepth 100000 in
theorem v_X4_init {X : zX} (K : z_Ok X cX4_init none RX4 "<init>") (hX : z_Xo X rm_X4_init 1) {x0 : Option Nat} {h : zH} {nx : Nat} {x : (zH)} (hf : f_X4_init x0 h = some x) (hp : z_P0V X nx x) : zV X 0 [(0, tA x0)] [] h nx 0 0 := by
  unfold f_X4_init at hf
  refine zv_aload_n K 0 eX4_init_0 rfl ?_
  refine zv_objInit K eX4_init_1 oi_X4_3 oi_im oi_co ⟨z_le (z_fr hX) (by decide), z_le (z_lo hX) (by decide)⟩ (Nat.le_of_ble_eq_true rfl) hf (fun v1 hf => ?_)
  have e9 := Option.some.inj hf; subst e9
  exact zv_vret K eX4_init_4 hp
theorem c_X4_init (l : Launch) (G : zG) {x0 : Option Nat} {h : zH} {nx : Nat} {x : zH} (hf : f_X4_init x0 h = some x) : z_Ct l G yX4_init cX4_init 1 none rm_X4_init [tA x0] h nx none x nx 0 0 :=
  z_enter [(0, tA x0)] (by decide +kernel) (Nat.le_of_ble_eq_true rfl) rfl (fun X hl hR hG hL K hq => by
    subst hl; subst hG
    exact v_X4_init K ⟨hR, hL⟩ hf hq)
def P_X4_goTo_5 (X : zX) (nx : Nat) : ((Option Nat) × zH) ⊕ (zH) → Prop := z_PL (fun s => zV X 5 [(0, tA s.1)] [] s.2 nx 0 0) (z_P0V X nx)
set_option maxHeartbeats 4000000 in
set_option maxRecDepth 100000 in
theorem v_X4_goTo_b43 {X : zX} (K : z_Ok X cX4_goTo none RX4 "goTo") (hX : z_Xo X rm_X4_goTo 2) {x0 : Option Nat} {h : zH} {nx : Nat} {x : (zH)} (hf : f_X4_goTo_b43 x0 h = some x) (hp : z_P0V X nx x) : zV X 43 [(0, tA x0)] [] h nx 0 0 := by
  unfold f_X4_goTo_b43 at hf
  refine zv_aload_n K 0 eX4_goTo_43 rfl ?_
  refine zv_aload_n K 0 eX4_goTo_44 rfl ?_
  refine zv_gI K eX4_goTo_45 fl_X4_71 hf (fun v1 hf => ?_)
  refine zv_aload_n K 0 eX4_goTo_48 rfl ?_
  refine zv_gI K eX4_goTo_49 fl_X4_15 hf (fun v2 hf => ?_)
  refine zv_icmp_ge K 67 eX4_goTo_52 (by decide) hf (fun _ hf => ?_) (fun _ hf => ?_)
  · refine zv_iconst K (-1 : Int32) eX4_goTo_67 (by decide) ?_
    refine zv_pI K eX4_goTo_68 fl_X4_44 ff_4_3 rfl hf (fun h3 hf => ?_)
    have e9 := Option.some.inj hf; subst e9
    exact zv_vret K eX4_goTo_71 hp
  · refine zv_aload_n K 0 eX4_goTo_55 rfl ?_
    refine zv_gA K eX4_goTo_56 fl_X4_9 hf (fun v4 hf => ?_)
    refine zv_aload_n K 0 eX4_goTo_59 rfl ?_
    refine zv_gI K eX4_goTo_60 fl_X4_71 hf (fun v5 hf => ?_)
    refine zv_aB K eX4_goTo_63 hf (fun v6 hf => ?_)
    refine zv_goto K 68 eX4_goTo_64 (by decide) ?_
    refine zv_pI K eX4_goTo_68 fl_X4_44 ff_4_3 rfl hf (fun h7 hf => ?_)
    have e9 := Option.some.inj hf; subst e9
    exact zv_vret K eX4_goTo_71 hp
set_option maxHeartbeats 4000000 in
set_option maxRecDepth 100000 in
theorem v_X4_goTo_c5 {X : zX} (K : z_Ok X cX4_goTo none RX4 "goTo") (hX : z_Xo X rm_X4_goTo 2) {x0 : Option Nat} {h : zH} {nx : Nat} {x : (((Option Nat) × zH) ⊕ (zH))} (hf : f_X4_goTo_c5 x0 h = some x) (hp : P_X4_goTo_5 X nx x) : zV X 5 [(0, tA x0)] [] h nx 0 0 := by
  unfold f_X4_goTo_c5 at hf
  refine zv_aload_n K 0 eX4_goTo_5 rfl ?_
  refine zv_gI K eX4_goTo_6 fl_X4_71 hf (fun v1 hf => ?_)
  refine zv_aload_n K 0 eX4_goTo_9 rfl ?_
  refine zv_gI K eX4_goTo_10 fl_X4_15 hf (fun v2 hf => ?_)
  refine zv_icmp_ge K 43 eX4_goTo_13 (by decide) hf (fun _ hf => ?_) (fun _ hf => ?_)
  · obtain ⟨w9, hf9, e9⟩ := z_i1_inv hf; clear hf; subst e9; have hf := hf9; clear hf9
    exact zv_sub [0] rfl (v_X4_goTo_b43 K hX hf hp)
  · refine zv_aload_n K 0 eX4_goTo_16 rfl ?_
    refine zv_gA K eX4_goTo_17 fl_X4_9 hf (fun v3 hf => ?_)
    refine zv_aload_n K 0 eX4_goTo_20 rfl ?_
    refine zv_gI K eX4_goTo_21 fl_X4_71 hf (fun v4 hf => ?_)
    refine zv_aB K eX4_goTo_24 hf (fun v5 hf => ?_)
    refine zv_bipush K (32 : Int32) eX4_goTo_25 (by decide) ?_
    refine zv_icmp_ne K 43 eX4_goTo_27 (by decide) hf (fun _ hf => ?_) (fun _ hf => ?_)
    · obtain ⟨w9, hf9, e9⟩ := z_i1_inv hf; clear hf; subst e9; have hf := hf9; clear hf9
      exact zv_sub [0] rfl (v_X4_goTo_b43 K hX hf hp)
    · refine zv_aload_n K 0 eX4_goTo_30 rfl ?_
      refine zv_dup K eX4_goTo_31 rfl ?_
      refine zv_gI K eX4_goTo_32 fl_X4_71 hf (fun v6 hf => ?_)
      refine zv_iconst K (1 : Int32) eX4_goTo_35 (by decide) ?_
      refine zv_iadd K eX4_goTo_36 ?_
      refine zv_pI K eX4_goTo_37 fl_X4_71 ff_4_2 rfl hf (fun h7 hf => ?_)
      refine zv_goto K 5 eX4_goTo_40 (by decide) ?_
      cases hf
      exact zv_sub [0] rfl (show zV X 5 [(0, tA x0)] [] h7 nx 0 0 from hp)
theorem v_X4_goTo_b5 {X : zX} (K : z_Ok X cX4_goTo none RX4 "goTo") (hX : z_Xo X rm_X4_goTo 2) {x0 : Option Nat} {h : zH} {nx : Nat} {x : (zH)} (hf : f_X4_goTo_b5 x0 h = some x) (hp : z_P0V X nx x) : zV X 5 [(0, tA x0)] [] h nx 0 0 :=
  z_it_ind (P := fun s : (Option Nat) × zH => zV X 5 [(0, tA s.1)] [] s.2 nx 0 0) (fun s y hb hy => v_X4_goTo_c5 K hX hb (z_PL_of hy hp)) hf
set_option maxHeartbeats 4000000 in
set_option maxRecDepth 100000 in
theorem v_X4_goTo {X : zX} (K : z_Ok X cX4_goTo none RX4 "goTo") (hX : z_Xo X rm_X4_goTo 2) {x0 : Option Nat} {x1 : Int32} {h : zH} {nx : Nat} {x : (zH)} (hf : f_X4_goTo x0 x1 h = some x) (hp : z_P0V X nx x) : zV X 0 [(0, tA x0), (1, tI x1)] [] h nx 0 0 := by
  unfold f_X4_goTo at hf
  refine zv_aload_n K 0 eX4_goTo_0 rfl ?_
  refine zv_iload_n K 1 eX4_goTo_1 rfl ?_
  refine zv_pI K eX4_goTo_2 fl_X4_71 ff_4_2 rfl hf (fun h1 hf => ?_)
  exact zv_sub [0] rfl (v_X4_goTo_b5 K hX hf hp)
theorem c_X4_goTo (l : Launch) (G : zG) {x0 : Option Nat} {x1 : Int32} {h : zH} {nx : Nat} {x : zH} (hf : f_X4_goTo x0 x1 h = some x) : z_Ct l G yX4_goTo cX4_goTo 2 none rm_X4_goTo [tA x0, tI x1] h nx none x nx 0 0 :=
  z_enter [(0, tA x0), (1, tI x1)] (by decide +kernel) (Nat.le_of_ble_eq_true rfl) rfl (fun X hl hR hG hL K hq => by
    subst hl; subst hG
    exact v_X4_goTo K ⟨hR, hL⟩ hf hq)
theorem m_X5_init_b10  {s0 : Option Nat} {s1 : Option Nat} {h : zH} {nx z : Nat} {x : ((Nat × Nat) × (zH))} (hf : f_X5_init_b10 s0 s1 h nx z = some x) : nx ≤ x.1.1 ∧ z ≤ x.1.2 := by
  unfold f_X5_init_b10 at hf
  obtain ⟨_, _, hf⟩ := z_bind_inv hf
  cases hf
  exact ⟨by (try dsimp only at *); omega, by (try dsimp only at *); omega⟩
set_option maxHeartbeats 4000000 in
set_option maxRecDepth 100000 in
theorem v_X5_init_b10 {X : zX} {cc0 ss0 nx0 z0 : Nat} (K : z_Ok X cX5_init none RX5 "<init>") (hX : z_Xo X (rm_X5_init cc0 ss0) 1) {s0 : Option Nat} {s1 : Option Nat} {h : zH} {nx z : Nat} (hm : nx0 ≤ nx ∧ z0 ≤ z) {x : ((Nat × Nat) × (zH))} (hf : f_X5_init_b10 s0 s1 h nx z = some x) (hp : z_Pm X nx0 z0 (z_P0Vm X nx0 z0) x) : zV X 10 [] [tA s1, tA s0] h nx (nx - nx0) (z - z0) := by
  have mB := m_X5_init_b10 hf
  unfold f_X5_init_b10 at hf
  refine zv_pXA K eX5_init_10 fx_X5_11 (Or.inr ⟨_, rfl⟩) hf (fun h1 hf => ?_)
  have e9 := Option.some.inj hf; subst e9
  exact zv_vret K eX5_init_13 hp.2
theorem m_X5_init  {x0 : Option Nat} {h : zH} {nx z : Nat} {x : ((Nat × Nat) × (zH))} (hf : f_X5_init x0 h nx z = some x) : nx ≤ x.1.1 ∧ z ≤ x.1.2 := by
  unfold f_X5_init at hf
  obtain ⟨_, _, hf⟩ := z_bind_inv hf
  have m9 := m_X5_init_b10 hf
  exact ⟨by (try dsimp only at *); omega, by (try dsimp only at *); omega⟩
set_option maxHeartbeats 4000000 in
set_option maxRecDepth 100000 in
theorem v_X5_init {X : zX} {cc0 ss0 nx0 z0 : Nat} (K : z_Ok X cX5_init none RX5 "<init>") (hX : z_Xo X (rm_X5_init cc0 ss0) 1) {x0 : Option Nat} {h : zH} {nx z : Nat} (hm : nx0 ≤ nx ∧ z0 ≤ z) {x : ((Nat × Nat) × (zH))} (hf : f_X5_init x0 h nx z = some x) (hp : z_Pm X nx0 z0 (z_P0Vm X nx0 z0) x) : zV X 0 [(0, tA x0)] [] h nx (nx - nx0) (z - z0) := by
  have mB := m_X5_init hf
  unfold f_X5_init at hf
  refine zv_aload_n K 0 eX5_init_0 rfl ?_
  refine zv_objInit K eX5_init_1 oi_X5_3 oi_im oi_co ⟨z_le (z_fr hX) (by exact Nat.le_of_ble_eq_true rfl), z_le (z_lo hX) (by exact Nat.le_of_ble_eq_true rfl)⟩ (Nat.le_of_ble_eq_true rfl) hf (fun v1 hf => ?_)
  refine zv_aload_n K 0 eX5_init_4 rfl ?_
  refine zv_bipush K (6 : Int32) eX5_init_5 (by decide) ?_
  have m9 := m_X5_init_b10 hf
  refine zv_newA K 8 6 (nx + 1 - nx0) (z + 6 - z0) _ eX5_init_7 (by decide) rfl cl_X5_9 (by decide) (by decide) (by decide) (by omega) (by omega) (z_bd hp m9) ?_
  exact zv_sub [] rfl (v_X5_init_b10 K hX (by omega) hf hp)
theorem c_X5_init (l : Launch) (G : zG) {x0 : Option Nat} {h : zH} {nx z : Nat} {x : (Nat × Nat) × (zH)} (hf : f_X5_init x0 h nx z = some x) : z_Ct l G yX5_init cX5_init 1 none (rm_X5_init (x.1.1 - nx) (x.1.2 - z)) [tA x0] h nx none x.2 x.1.1 (x.1.1 - nx) (x.1.2 - z) :=
  z_enter [(0, tA x0)] (by decide +kernel) (Nat.le_of_ble_eq_true rfl) rfl (fun X hl hR hG hL K hq => by
    subst hl; subst hG
    have mm := m_X5_init hf
    have := v_X5_init K ⟨hR, hL⟩ (nx0 := nx) (z0 := z) ⟨Nat.le_refl _, Nat.le_refl _⟩ hf ⟨by rw [hR]; (try dsimp only [rm_X5_init]); omega, hq⟩
    rw [Nat.sub_self, Nat.sub_self] at this
    exact this)
set_option maxHeartbeats 4000000 in
set_option maxRecDepth 100000 in
theorem v_X4_takes {X : zX} (K : z_Ok X cX4_takes (some .boolean) RX4 "takes") (hX : z_Xo X rm_X4_takes 2) {x0 : Option Nat} {x1 : Int32} {h : zH} {nx : Nat} {x : (Int32 × zH)} (hf : f_X4_takes x0 x1 h = some x) (hp : z_P0I X nx x) : zV X 0 [(0, tA x0), (1, tI x1)] [] h nx 0 0 := by
  unfold f_X4_takes at hf
  refine zv_aload_n K 0 eX4_takes_0 rfl ?_
  refine zv_gI K eX4_takes_1 fl_X4_44 hf (fun v1 hf => ?_)
  refine zv_iload_n K 1 eX4_takes_4 rfl ?_
  refine zv_icmp_eq K 10 eX4_takes_5 (by decide) hf (fun _ hf => ?_) (fun _ hf => ?_)
  · refine zv_aload_n K 0 eX4_takes_10 rfl ?_
    refine zv_aload_n K 0 eX4_takes_11 rfl ?_
    refine zv_gI K eX4_takes_12 fl_X4_71 hf (fun v2 hf => ?_)
    refine zv_iconst K (1 : Int32) eX4_takes_15 (by decide) ?_
    refine zv_iadd K eX4_takes_16 ?_
    obtain ⟨q3, hq3, hf⟩ := z_bind_inv hf
    obtain ⟨h4, eh4, hf⟩ := z_bind_inv hf
    refine zv_cV0 K [tI (v2 + (1 : Int32))] [] eX4_takes_17 lk_X4_22 md_X4_goTo im_X4_goTo sl_X4_goTo rfl rfl rfl rfl (Nat.le_of_ble_eq_true rfl) hq3 (c_X4_goTo X.1.2.1 X.2.2.1 eh4) rfl rfl ⟨z_le (z_fr hX) (by decide), z_le (z_lo hX) (by decide)⟩ ⟨Nat.zero_le _, Nat.zero_le _⟩ ?_
    refine zv_iconst K (1 : Int32) eX4_takes_20 (by decide) ?_
    cases hf
    exact zv_zret K eX4_takes_21 (by decide) hp
  · refine zv_iconst K (0 : Int32) eX4_takes_8 (by decide) ?_
    cases hf
    exact zv_zret K eX4_takes_9 (by decide) hp
theorem c_X4_takes (l : Launch) (G : zG) {x0 : Option Nat} {x1 : Int32} {h : zH} {nx : Nat} {x : Int32 × zH} (hf : f_X4_takes x0 x1 h = some x) : z_Ct l G yX4_takes cX4_takes 2 (some .boolean) rm_X4_takes [tA x0, tI x1] h nx (some (tI x.1)) x.2 nx 0 0 :=
  z_enter [(0, tA x0), (1, tI x1)] (by decide +kernel) (Nat.le_of_ble_eq_true rfl) rfl (fun X hl hR hG hL K hq => by
    subst hl; subst hG
    exact v_X4_takes K ⟨hR, hL⟩ hf hq)
set_option maxHeartbeats 4000000 in
set_option maxRecDepth 100000 in
theorem v_X4_fail {X : zX} (K : z_Ok X cX4_fail none RX4 "fail") (hX : z_Xo X rm_X4_fail 1) {x0 : Option Nat} {h : zH} {nx : Nat} {x : (zH)} (hf : f_X4_fail x0 h = some x) (hp : z_P0V X nx x) : zV X 0 [(0, tA x0)] [] h nx 0 0 := by
  unfold f_X4_fail at hf
  refine zv_aload_n K 0 eX4_fail_0 rfl ?_
  refine zv_gI K eX4_fail_1 fl_X4_19 hf (fun v1 hf => ?_)
  refine zv_iconst K (-1 : Int32) eX4_fail_4 (by decide) ?_
  refine zv_icmp_ne K 16 eX4_fail_5 (by decide) hf (fun _ hf => ?_) (fun _ hf => ?_)
  · refine zv_aload_n K 0 eX4_fail_16 rfl ?_
    refine zv_iconst K (-1 : Int32) eX4_fail_17 (by decide) ?_
    refine zv_pI K eX4_fail_18 fl_X4_44 ff_4_3 rfl hf (fun h2 hf => ?_)
    have e9 := Option.some.inj hf; subst e9
    exact zv_vret K eX4_fail_21 hp
  · refine zv_aload_n K 0 eX4_fail_8 rfl ?_
    refine zv_aload_n K 0 eX4_fail_9 rfl ?_
    refine zv_gI K eX4_fail_10 fl_X4_71 hf (fun v3 hf => ?_)
    refine zv_pI K eX4_fail_13 fl_X4_19 ff_4_4 rfl hf (fun h4 hf => ?_)
    refine zv_aload_n K 0 eX4_fail_16 rfl ?_
    refine zv_iconst K (-1 : Int32) eX4_fail_17 (by decide) ?_
    refine zv_pI K eX4_fail_18 fl_X4_44 ff_4_3 rfl hf (fun h5 hf => ?_)
    have e9 := Option.some.inj hf; subst e9
    exact zv_vret K eX4_fail_21 hp
theorem c_X4_fail (l : Launch) (G : zG) {x0 : Option Nat} {h : zH} {nx : Nat} {x : zH} (hf : f_X4_fail x0 h = some x) : z_Ct l G yX4_fail cX4_fail 1 none rm_X4_fail [tA x0] h nx none x nx 0 0 :=
  z_enter [(0, tA x0)] (by decide +kernel) (Nat.le_of_ble_eq_true rfl) rfl (fun X hl hR hG hL K hq => by
    subst hl; subst hG
    exact v_X4_fail K ⟨hR, hL⟩ hf hq)
set_option maxHeartbeats 4000000 in
set_option maxRecDepth 100000 in
theorem v_X4_need {X : zX} (K : z_Ok X cX4_need none RX4 "need") (hX : z_Xo X rm_X4_need 2) {x0 : Option Nat} {x1 : Int32} {h : zH} {nx : Nat} {x : (zH)} (hf : f_X4_need x0 x1 h = some x) (hp : z_P0V X nx x) : zV X 0 [(0, tA x0), (1, tI x1)] [] h nx 0 0 := by
  unfold f_X4_need at hf
  refine zv_aload_n K 0 eX4_need_0 rfl ?_
  refine zv_gI K eX4_need_1 fl_X4_44 hf (fun v1 hf => ?_)
  refine zv_iload_n K 1 eX4_need_4 rfl ?_
  refine zv_icmp_ne K 21 eX4_need_5 (by decide) hf (fun _ hf => ?_) (fun _ hf => ?_)
  · refine zv_aload_n K 0 eX4_need_21 rfl ?_
    obtain ⟨q2, hq2, hf⟩ := z_bind_inv hf
    obtain ⟨h3, eh3, hf⟩ := z_bind_inv hf
    refine zv_cV0 K [] [] eX4_need_22 lk_X4_47 md_X4_fail im_X4_fail sl_X4_fail rfl rfl rfl rfl (Nat.le_of_ble_eq_true rfl) hq2 (c_X4_fail X.1.2.1 X.2.2.1 eh3) rfl rfl ⟨z_le (z_fr hX) (by decide), z_le (z_lo hX) (by decide)⟩ ⟨Nat.zero_le _, Nat.zero_le _⟩ ?_
    have e9 := Option.some.inj hf; subst e9
    exact zv_vret K eX4_need_25 hp
  · refine zv_aload_n K 0 eX4_need_8 rfl ?_
    refine zv_aload_n K 0 eX4_need_9 rfl ?_
    refine zv_gI K eX4_need_10 fl_X4_71 hf (fun v4 hf => ?_)
    refine zv_iconst K (1 : Int32) eX4_need_13 (by decide) ?_
    refine zv_iadd K eX4_need_14 ?_
    obtain ⟨q5, hq5, hf⟩ := z_bind_inv hf
    obtain ⟨h6, eh6, hf⟩ := z_bind_inv hf
    refine zv_cV0 K [tI (v4 + (1 : Int32))] [] eX4_need_15 lk_X4_22 md_X4_goTo im_X4_goTo sl_X4_goTo rfl rfl rfl rfl (Nat.le_of_ble_eq_true rfl) hq5 (c_X4_goTo X.1.2.1 X.2.2.1 eh6) rfl rfl ⟨z_le (z_fr hX) (by decide), z_le (z_lo hX) (by decide)⟩ ⟨Nat.zero_le _, Nat.zero_le _⟩ ?_
    refine zv_goto K 25 eX4_need_18 (by decide) ?_
    have e9 := Option.some.inj hf; subst e9
    exact zv_vret K eX4_need_25 hp
theorem c_X4_need (l : Launch) (G : zG) {x0 : Option Nat} {x1 : Int32} {h : zH} {nx : Nat} {x : zH} (hf : f_X4_need x0 x1 h = some x) : z_Ct l G yX4_need cX4_need 2 none rm_X4_need [tA x0, tI x1] h nx none x nx 0 0 :=
  z_enter [(0, tA x0), (1, tI x1)] (by decide +kernel) (Nat.le_of_ble_eq_true rfl) rfl (fun X hl hR hG hL K hq => by
    subst hl; subst hG
    exact v_X4_need K ⟨hR, hL⟩ hf hq)
set_option maxHeartbeats 4000000 in
set_option maxRecDepth 100000 in
theorem v_X10_isDigit {X : zX} (K : z_Ok X cX10_isDigit (some .boolean) RX10 "isDigit") (hX : z_Xo X rm_X10_isDigit 1) {x0 : Int32} {h : zH} {nx : Nat} {x : (Int32 × zH)} (hf : f_X10_isDigit x0 h = some x) (hp : z_P0I X nx x) : zV X 0 [(0, tI x0)] [] h nx 0 0 := by
  unfold f_X10_isDigit at hf
  refine zv_iload_n K 0 eX10_isDigit_0 rfl ?_
  refine zv_if_lt K 13 eX10_isDigit_1 (by decide) hf (fun _ hf => ?_) (fun _ hf => ?_)
  · refine zv_iconst K (0 : Int32) eX10_isDigit_13 (by decide) ?_
    cases hf
    exact zv_zret K eX10_isDigit_14 (by decide) hp
  · refine zv_iload_n K 0 eX10_isDigit_4 rfl ?_
    refine zv_iconst K (3 : Int32) eX10_isDigit_5 (by decide) ?_
    refine zv_icmp_gt K 13 eX10_isDigit_6 (by decide) hf (fun _ hf => ?_) (fun _ hf => ?_)
    · refine zv_iconst K (0 : Int32) eX10_isDigit_13 (by decide) ?_
      cases hf
      exact zv_zret K eX10_isDigit_14 (by decide) hp
    · refine zv_iconst K (1 : Int32) eX10_isDigit_9 (by decide) ?_
      refine zv_goto K 14 eX10_isDigit_10 (by decide) ?_
      cases hf
      exact zv_zret K eX10_isDigit_14 (by decide) hp
theorem c_X10_isDigit (l : Launch) (G : zG) {x0 : Int32} {h : zH} {nx : Nat} {x : Int32 × zH} (hf : f_X10_isDigit x0 h = some x) : z_Ct l G yX10_isDigit cX10_isDigit 1 (some .boolean) rm_X10_isDigit [tI x0] h nx (some (tI x.1)) x.2 nx 0 0 :=
  z_enter [(0, tI x0)] (by decide +kernel) (Nat.le_of_ble_eq_true rfl) rfl (fun X hl hR hG hL K hq => by
    subst hl; subst hG
    exact v_X10_isDigit K ⟨hR, hL⟩ hf hq)
set_option maxHeartbeats 4000000 in
set_option maxRecDepth 100000 in
theorem v_X4_readDigit {X : zX} (K : z_Ok X cX4_readDigit (some .int) RX4 "readDigit") (hX : z_Xo X rm_X4_readDigit 2) {x0 : Option Nat} {h : zH} {nx : Nat} {x : (Int32 × zH)} (hf : f_X4_readDigit x0 h = some x) (hp : z_P0I X nx x) : zV X 0 [(0, tA x0)] [] h nx 0 0 := by
  unfold f_X4_readDigit at hf
  refine zv_aload_n K 0 eX4_readDigit_0 rfl ?_
  refine zv_gI K eX4_readDigit_1 fl_X4_44 hf (fun v1 hf => ?_)
  refine zv_bipush K (48 : Int32) eX4_readDigit_4 (by decide) ?_
  refine zv_isub K eX4_readDigit_6 ?_
  refine zv_istore_n K [(1, tI (v1 - (48 : Int32))), (0, tA x0)] eX4_readDigit_7 (z_lt hX.2 (by decide)) rfl ?_
  refine zv_iload_n K 0 eX4_readDigit_8 rfl ?_
  obtain ⟨v3, h2, eh2, hf⟩ := z_b2_inv hf
  refine zv_cS0 K [tI (v1 - (48 : Int32))] [] eX4_readDigit_9 lk_X4_113 md_X10_isDigit st_X10_isDigit rfl rfl (Nat.le_of_ble_eq_true rfl) (c_X10_isDigit X.1.2.1 X.2.2.1 eh2) rfl rfl ⟨z_le (z_fr hX) (by decide), z_le (z_lo hX) (by decide)⟩ ⟨Nat.zero_le _, Nat.zero_le _⟩ ?_
  refine zv_if_ne K 21 eX4_readDigit_12 (by decide) hf (fun _ hf => ?_) (fun _ hf => ?_)
  · refine zv_aload_n K 1 eX4_readDigit_21 rfl ?_
    refine zv_aload_n K 1 eX4_readDigit_22 rfl ?_
    refine zv_gI K eX4_readDigit_23 fl_X4_71 hf (fun v4 hf => ?_)
    refine zv_iconst K (1 : Int32) eX4_readDigit_26 (by decide) ?_
    refine zv_iadd K eX4_readDigit_27 ?_
    obtain ⟨q5, hq5, hf⟩ := z_bind_inv hf
    obtain ⟨h6, eh6, hf⟩ := z_bind_inv hf
    refine zv_cV0 K [tI (v4 + (1 : Int32))] [] eX4_readDigit_28 lk_X4_22 md_X4_goTo im_X4_goTo sl_X4_goTo rfl rfl rfl rfl (Nat.le_of_ble_eq_true rfl) hq5 (c_X4_goTo X.1.2.1 X.2.2.1 eh6) rfl rfl ⟨z_le (z_fr hX) (by decide), z_le (z_lo hX) (by decide)⟩ ⟨Nat.zero_le _, Nat.zero_le _⟩ ?_
    refine zv_iload_n K 0 eX4_readDigit_31 rfl ?_
    have e9 := Option.some.inj hf; subst e9
    exact zv_iret K eX4_readDigit_32 hp
  · refine zv_aload_n K 1 eX4_readDigit_15 rfl ?_
    obtain ⟨q7, hq7, hf⟩ := z_bind_inv hf
    obtain ⟨h8, eh8, hf⟩ := z_bind_inv hf
    refine zv_cV0 K [] [] eX4_readDigit_16 lk_X4_47 md_X4_fail im_X4_fail sl_X4_fail rfl rfl rfl rfl (Nat.le_of_ble_eq_true rfl) hq7 (c_X4_fail X.1.2.1 X.2.2.1 eh8) rfl rfl ⟨z_le (z_fr hX) (by decide), z_le (z_lo hX) (by decide)⟩ ⟨Nat.zero_le _, Nat.zero_le _⟩ ?_
    refine zv_iconst K (0 : Int32) eX4_readDigit_19 (by decide) ?_
    have e9 := Option.some.inj hf; subst e9
    exact zv_iret K eX4_readDigit_20 hp
theorem c_X4_readDigit (l : Launch) (G : zG) {x0 : Option Nat} {h : zH} {nx : Nat} {x : Int32 × zH} (hf : f_X4_readDigit x0 h = some x) : z_Ct l G yX4_readDigit cX4_readDigit 2 (some .int) rm_X4_readDigit [tA x0] h nx (some (tI x.1)) x.2 nx 0 0 :=
  z_enter [(0, tA x0)] (by decide +kernel) (Nat.le_of_ble_eq_true rfl) rfl (fun X hl hR hG hL K hq => by
    subst hl; subst hG
    exact v_X4_readDigit K ⟨hR, hL⟩ hf hq)
set_option maxHeartbeats 4000000 in
set_option maxRecDepth 100000 in
theorem v_X4_readSense {X : zX} (K : z_Ok X cX4_readSense (some .int) RX4 "readSense") (hX : z_Xo X rm_X4_readSense 1) {x0 : Option Nat} {h : zH} {nx : Nat} {x : (Int32 × zH)} (hf : f_X4_readSense x0 h = some x) (hp : z_P0I X nx x) : zV X 0 [(0, tA x0)] [] h nx 0 0 := by
  unfold f_X4_readSense at hf
  refine zv_aload_n K 0 eX4_readSense_0 rfl ?_
  refine zv_bipush K (119 : Int32) eX4_readSense_1 (by decide) ?_
  obtain ⟨q1, hq1, hf⟩ := z_bind_inv hf
  obtain ⟨v3, h2, eh2, hf⟩ := z_b2_inv hf
  refine zv_cV0 K [tI (119 : Int32)] [] eX4_readSense_3 lk_X4_40 md_X4_takes im_X4_takes sl_X4_takes rfl rfl rfl rfl (Nat.le_of_ble_eq_true rfl) hq1 (c_X4_takes X.1.2.1 X.2.2.1 eh2) rfl rfl ⟨z_le (z_fr hX) (by decide), z_le (z_lo hX) (by decide)⟩ ⟨Nat.zero_le _, Nat.zero_le _⟩ ?_
  refine zv_if_eq K 16 eX4_readSense_6 (by decide) hf (fun _ hf => ?_) (fun _ hf => ?_)
  · refine zv_aload_n K 0 eX4_readSense_16 rfl ?_
    refine zv_bipush K (116 : Int32) eX4_readSense_17 (by decide) ?_
    obtain ⟨q4, hq4, hf⟩ := z_bind_inv hf
    obtain ⟨v6, h5, eh5, hf⟩ := z_b2_inv hf
    refine zv_cV0 K [tI (116 : Int32)] [] eX4_readSense_19 lk_X4_40 md_X4_takes im_X4_takes sl_X4_takes rfl rfl rfl rfl (Nat.le_of_ble_eq_true rfl) hq4 (c_X4_takes X.1.2.1 X.2.2.1 eh5) rfl rfl ⟨z_le (z_fr hX) (by decide), z_le (z_lo hX) (by decide)⟩ ⟨Nat.zero_le _, Nat.zero_le _⟩ ?_
    refine zv_if_eq K 33 eX4_readSense_22 (by decide) hf (fun _ hf => ?_) (fun _ hf => ?_)
    · refine zv_aload_n K 0 eX4_readSense_33 rfl ?_
      refine zv_bipush K (109 : Int32) eX4_readSense_34 (by decide) ?_
      obtain ⟨q7, hq7, hf⟩ := z_bind_inv hf
      obtain ⟨v9, h8, eh8, hf⟩ := z_b2_inv hf
      refine zv_cV0 K [tI (109 : Int32)] [] eX4_readSense_36 lk_X4_40 md_X4_takes im_X4_takes sl_X4_takes rfl rfl rfl rfl (Nat.le_of_ble_eq_true rfl) hq7 (c_X4_takes X.1.2.1 X.2.2.1 eh8) rfl rfl ⟨z_le (z_fr hX) (by decide), z_le (z_lo hX) (by decide)⟩ ⟨Nat.zero_le _, Nat.zero_le _⟩ ?_
      refine zv_if_eq K 51 eX4_readSense_39 (by decide) hf (fun _ hf => ?_) (fun _ hf => ?_)
      · refine zv_aload_n K 0 eX4_readSense_51 rfl ?_
        refine zv_bipush K (104 : Int32) eX4_readSense_52 (by decide) ?_
        obtain ⟨q10, hq10, hf⟩ := z_bind_inv hf
        obtain ⟨v12, h11, eh11, hf⟩ := z_b2_inv hf
        refine zv_cV0 K [tI (104 : Int32)] [] eX4_readSense_54 lk_X4_40 md_X4_takes im_X4_takes sl_X4_takes rfl rfl rfl rfl (Nat.le_of_ble_eq_true rfl) hq10 (c_X4_takes X.1.2.1 X.2.2.1 eh11) rfl rfl ⟨z_le (z_fr hX) (by decide), z_le (z_lo hX) (by decide)⟩ ⟨Nat.zero_le _, Nat.zero_le _⟩ ?_
        refine zv_if_eq K 64 eX4_readSense_57 (by decide) hf (fun _ hf => ?_) (fun _ hf => ?_)
        · refine zv_aload_n K 0 eX4_readSense_64 rfl ?_
          refine zv_bipush K (120 : Int32) eX4_readSense_65 (by decide) ?_
          obtain ⟨q13, hq13, hf⟩ := z_bind_inv hf
          obtain ⟨v15, h14, eh14, hf⟩ := z_b2_inv hf
          refine zv_cV0 K [tI (120 : Int32)] [] eX4_readSense_67 lk_X4_40 md_X4_takes im_X4_takes sl_X4_takes rfl rfl rfl rfl (Nat.le_of_ble_eq_true rfl) hq13 (c_X4_takes X.1.2.1 X.2.2.1 eh14) rfl rfl ⟨z_le (z_fr hX) (by decide), z_le (z_lo hX) (by decide)⟩ ⟨Nat.zero_le _, Nat.zero_le _⟩ ?_
          refine zv_if_eq K 77 eX4_readSense_70 (by decide) hf (fun _ hf => ?_) (fun _ hf => ?_)
          · refine zv_aload_n K 0 eX4_readSense_77 rfl ?_
            refine zv_bipush K (42 : Int32) eX4_readSense_78 (by decide) ?_
            obtain ⟨q16, hq16, hf⟩ := z_bind_inv hf
            obtain ⟨h17, eh17, hf⟩ := z_bind_inv hf
            refine zv_cV0 K [tI (42 : Int32)] [] eX4_readSense_80 lk_X4_61 md_X4_need im_X4_need sl_X4_need rfl rfl rfl rfl (Nat.le_of_ble_eq_true rfl) hq16 (c_X4_need X.1.2.1 X.2.2.1 eh17) rfl rfl ⟨z_le (z_fr hX) (by decide), z_le (z_lo hX) (by decide)⟩ ⟨Nat.zero_le _, Nat.zero_le _⟩ ?_
            refine zv_sipush K (16384 : Int32) eX4_readSense_83 (by decide) ?_
            have e9 := Option.some.inj hf; subst e9
            exact zv_iret K eX4_readSense_86 hp
          · refine zv_sipush K (8192 : Int32) eX4_readSense_73 (by decide) ?_
            have e9 := Option.some.inj hf; subst e9
            exact zv_iret K eX4_readSense_76 hp
        · refine zv_sipush K (4096 : Int32) eX4_readSense_60 (by decide) ?_
          have e9 := Option.some.inj hf; subst e9
          exact zv_iret K eX4_readSense_63 hp
      · refine zv_sipush K (256 : Int32) eX4_readSense_42 (by decide) ?_
        refine zv_aload_n K 0 eX4_readSense_45 rfl ?_
        obtain ⟨q18, hq18, hf⟩ := z_bind_inv hf
        obtain ⟨v20, h19, eh19, hf⟩ := z_b2_inv hf
        refine zv_cV0 K [] [tI (256 : Int32)] eX4_readSense_46 lk_X4_84 md_X4_readDigit im_X4_readDigit sl_X4_readDigit rfl rfl rfl rfl (Nat.le_of_ble_eq_true rfl) hq18 (c_X4_readDigit X.1.2.1 X.2.2.1 eh19) rfl rfl ⟨z_le (z_fr hX) (by decide), z_le (z_lo hX) (by decide)⟩ ⟨Nat.zero_le _, Nat.zero_le _⟩ ?_
        refine zv_ishl K eX4_readSense_49 ?_
        have e9 := Option.some.inj hf; subst e9
        exact zv_iret K eX4_readSense_50 hp
    · refine zv_bipush K (16 : Int32) eX4_readSense_25 (by decide) ?_
      refine zv_aload_n K 0 eX4_readSense_27 rfl ?_
      obtain ⟨q21, hq21, hf⟩ := z_bind_inv hf
      obtain ⟨v23, h22, eh22, hf⟩ := z_b2_inv hf
      refine zv_cV0 K [] [tI (16 : Int32)] eX4_readSense_28 lk_X4_84 md_X4_readDigit im_X4_readDigit sl_X4_readDigit rfl rfl rfl rfl (Nat.le_of_ble_eq_true rfl) hq21 (c_X4_readDigit X.1.2.1 X.2.2.1 eh22) rfl rfl ⟨z_le (z_fr hX) (by decide), z_le (z_lo hX) (by decide)⟩ ⟨Nat.zero_le _, Nat.zero_le _⟩ ?_
      refine zv_ishl K eX4_readSense_31 ?_
      have e9 := Option.some.inj hf; subst e9
      exact zv_iret K eX4_readSense_32 hp
  · refine zv_iconst K (1 : Int32) eX4_readSense_9 (by decide) ?_
    refine zv_aload_n K 0 eX4_readSense_10 rfl ?_
    obtain ⟨q24, hq24, hf⟩ := z_bind_inv hf
    obtain ⟨v26, h25, eh25, hf⟩ := z_b2_inv hf
    refine zv_cV0 K [] [tI (1 : Int32)] eX4_readSense_11 lk_X4_84 md_X4_readDigit im_X4_readDigit sl_X4_readDigit rfl rfl rfl rfl (Nat.le_of_ble_eq_true rfl) hq24 (c_X4_readDigit X.1.2.1 X.2.2.1 eh25) rfl rfl ⟨z_le (z_fr hX) (by decide), z_le (z_lo hX) (by decide)⟩ ⟨Nat.zero_le _, Nat.zero_le _⟩ ?_
    refine zv_ishl K eX4_readSense_14 ?_
    have e9 := Option.some.inj hf; subst e9
    exact zv_iret K eX4_readSense_15 hp
theorem c_X4_readSense (l : Launch) (G : zG) {x0 : Option Nat} {h : zH} {nx : Nat} {x : Int32 × zH} (hf : f_X4_readSense x0 h = some x) : z_Ct l G yX4_readSense cX4_readSense 1 (some .int) rm_X4_readSense [tA x0] h nx (some (tI x.1)) x.2 nx 0 0 :=
  z_enter [(0, tA x0)] (by decide +kernel) (Nat.le_of_ble_eq_true rfl) rfl (fun X hl hR hG hL K hq => by
    subst hl; subst hG
    exact v_X4_readSense K ⟨hR, hL⟩ hf hq)
theorem m_X4_readClaim_b52 {rec : Option Nat → Int32 → zH → Nat → Nat → Option ((Nat × Nat) × (Option Nat × zH))} (hmo : ∀ {y0 : Option Nat} {y1 : Int32} {h : zH} {nx z : Nat} {x : (Nat × Nat) × (Option Nat × zH)}, rec y0 y1 h nx z = some x → nx ≤ x.1.1 ∧ z ≤ x.1.2) {x0 : Option Nat} {x2 : Option Nat} {h : zH} {nx z : Nat} {x : ((Nat × Nat) × (Option Nat × zH))} (hf : f_X4_readClaim_b52 rec x0 x2 h nx z = some x) : nx ≤ x.1.1 ∧ z ≤ x.1.2 := by
  unfold f_X4_readClaim_b52 at hf
  obtain ⟨_, _, hf⟩ := z_bind_inv hf
  obtain ⟨_, _, _, hf⟩ := z_b2_inv hf
  obtain ⟨_, _, hf⟩ := z_bind_inv hf
  cases hf
  exact ⟨by (try dsimp only at *); omega, by (try dsimp only at *); omega⟩
set_option maxHeartbeats 4000000 in
set_option maxRecDepth 100000 in
theorem v_X4_readClaim_b52 {X : zX} {rec : Option Nat → Int32 → zH → Nat → Nat → Option ((Nat × Nat) × (Option Nat × zH))} {dd : Nat} {cc0 ss0 nx0 z0 : Nat} (K : z_Ok X cX4_readClaim (some (.object "ThinkingArms$Claim")) RX4 "readClaim") (hX : z_Xo X (rm_X4_readClaim dd cc0 ss0) 3) (hrec : ∀ {y0 : Option Nat} {y1 : Int32} {h : zH} {nx z : Nat} {x : (Nat × Nat) × (Option Nat × zH)}, rec y0 y1 h nx z = some x → z_Ct X.1.2.1 X.2.2.1 yX4_readTest cX4_readTest 6 (some (.object "ThinkingArms$Claim")) (rm_X4_readTest dd (x.1.1 - nx) (x.1.2 - z)) [tA y0, tI y1] h nx (some (tA x.2.1)) x.2.2 x.1.1 (x.1.1 - nx) (x.1.2 - z)) (hmo : ∀ {y0 : Option Nat} {y1 : Int32} {h : zH} {nx z : Nat} {x : (Nat × Nat) × (Option Nat × zH)}, rec y0 y1 h nx z = some x → nx ≤ x.1.1 ∧ z ≤ x.1.2) {x0 : Option Nat} {x2 : Option Nat} {h : zH} {nx z : Nat} (hm : nx0 ≤ nx ∧ z0 ≤ z) {x : ((Nat × Nat) × (Option Nat × zH))} (hf : f_X4_readClaim_b52 rec x0 x2 h nx z = some x) (hp : z_Pm X nx0 z0 (z_P0Am X nx0 z0) x) : zV X 52 [(0, tA x0), (2, tA x2)] [] h nx (nx - nx0) (z - z0) := by
  have mB := m_X4_readClaim_b52 hmo hf
  unfold f_X4_readClaim_b52 at hf
  refine zv_aload_n K 1 eX4_readClaim_52 rfl ?_
  refine zv_aload_n K 0 eX4_readClaim_53 rfl ?_
  obtain ⟨q1, hq1, hf⟩ := z_bind_inv hf
  obtain ⟨v3, h2, eh2, hf⟩ := z_b2_inv hf
  refine zv_cV0 K [] [tA x2] eX4_readClaim_54 lk_X4_107 md_X4_readSense im_X4_readSense sl_X4_readSense rfl rfl rfl rfl (Nat.le_of_ble_eq_true rfl) hq1 (c_X4_readSense X.1.2.1 X.2.2.1 eh2) rfl rfl ⟨z_le (z_fr hX) (by simp only [rm_X4_readClaim, rm_X4_readSense]; omega), z_le (z_lo hX) (by simp only [rm_X4_readClaim, rm_X4_readSense]; omega)⟩ (z_bd hp mB) ?_
  refine zv_pI K eX4_readClaim_57 fl_X4_110 ff_1_2 rfl hf (fun h4 hf => ?_)
  refine zv_aload_n K 1 eX4_readClaim_60 rfl ?_
  have e9 := Option.some.inj hf; subst e9
  exact zv_aret K eX4_readClaim_61 hp.2
theorem m_X4_readClaim_b40 {rec : Option Nat → Int32 → zH → Nat → Nat → Option ((Nat × Nat) × (Option Nat × zH))} (hmo : ∀ {y0 : Option Nat} {y1 : Int32} {h : zH} {nx z : Nat} {x : (Nat × Nat) × (Option Nat × zH)}, rec y0 y1 h nx z = some x → nx ≤ x.1.1 ∧ z ≤ x.1.2) {x0 : Option Nat} {x2 : Option Nat} {s0 : Option Nat} {s1 : Option Nat} {h : zH} {nx z : Nat} {x : ((Nat × Nat) × (Option Nat × zH))} (hf : f_X4_readClaim_b40 rec x0 x2 s0 s1 h nx z = some x) : nx ≤ x.1.1 ∧ z ≤ x.1.2 := by
  unfold f_X4_readClaim_b40 at hf
  obtain ⟨_, _, hf⟩ := z_bind_inv hf
  obtain ⟨_, _, hf⟩ := z_bind_inv hf
  obtain ⟨_, _, hf⟩ := z_bind_inv hf
  cases hf
  exact ⟨by (try dsimp only at *); omega, by (try dsimp only at *); omega⟩
set_option maxHeartbeats 4000000 in
set_option maxRecDepth 100000 in
theorem v_X4_readClaim_b40 {X : zX} {rec : Option Nat → Int32 → zH → Nat → Nat → Option ((Nat × Nat) × (Option Nat × zH))} {dd : Nat} {cc0 ss0 nx0 z0 : Nat} (K : z_Ok X cX4_readClaim (some (.object "ThinkingArms$Claim")) RX4 "readClaim") (hX : z_Xo X (rm_X4_readClaim dd cc0 ss0) 3) (hrec : ∀ {y0 : Option Nat} {y1 : Int32} {h : zH} {nx z : Nat} {x : (Nat × Nat) × (Option Nat × zH)}, rec y0 y1 h nx z = some x → z_Ct X.1.2.1 X.2.2.1 yX4_readTest cX4_readTest 6 (some (.object "ThinkingArms$Claim")) (rm_X4_readTest dd (x.1.1 - nx) (x.1.2 - z)) [tA y0, tI y1] h nx (some (tA x.2.1)) x.2.2 x.1.1 (x.1.1 - nx) (x.1.2 - z)) (hmo : ∀ {y0 : Option Nat} {y1 : Int32} {h : zH} {nx z : Nat} {x : (Nat × Nat) × (Option Nat × zH)}, rec y0 y1 h nx z = some x → nx ≤ x.1.1 ∧ z ≤ x.1.2) {x0 : Option Nat} {x2 : Option Nat} {s0 : Option Nat} {s1 : Option Nat} {h : zH} {nx z : Nat} (hm : nx0 ≤ nx ∧ z0 ≤ z) {x : ((Nat × Nat) × (Option Nat × zH))} (hf : f_X4_readClaim_b40 rec x0 x2 s0 s1 h nx z = some x) (hp : z_Pm X nx0 z0 (z_P0Am X nx0 z0) x) : zV X 40 [(0, tA x0), (2, tA x2)] [tA s1, tA s0] h nx (nx - nx0) (z - z0) := by
  have mB := m_X4_readClaim_b40 hmo hf
  unfold f_X4_readClaim_b40 at hf
  refine zv_pA K eX4_readClaim_40 fl_X4_104 ff_1_3 (Or.inl ⟨_, rfl⟩) hf (fun h1 hf => ?_)
  refine zv_aload_n K 0 eX4_readClaim_43 rfl ?_
  refine zv_bipush K (41 : Int32) eX4_readClaim_44 (by decide) ?_
  obtain ⟨q2, hq2, hf⟩ := z_bind_inv hf
  obtain ⟨h3, eh3, hf⟩ := z_bind_inv hf
  refine zv_cV0 K [tI (41 : Int32)] [] eX4_readClaim_46 lk_X4_61 md_X4_need im_X4_need sl_X4_need rfl rfl rfl rfl (Nat.le_of_ble_eq_true rfl) hq2 (c_X4_need X.1.2.1 X.2.2.1 eh3) rfl rfl ⟨z_le (z_fr hX) (by simp only [rm_X4_readClaim, rm_X4_need]; omega), z_le (z_lo hX) (by simp only [rm_X4_readClaim, rm_X4_need]; omega)⟩ (z_bd hp mB) ?_
  refine zv_goto K 60 eX4_readClaim_49 (by decide) ?_
  refine zv_aload_n K 1 eX4_readClaim_60 rfl ?_
  have e9 := Option.some.inj hf; subst e9
  exact zv_aret K eX4_readClaim_61 hp.2
theorem m_X4_readClaim_b3 {rec : Option Nat → Int32 → zH → Nat → Nat → Option ((Nat × Nat) × (Option Nat × zH))} (hmo : ∀ {y0 : Option Nat} {y1 : Int32} {h : zH} {nx z : Nat} {x : (Nat × Nat) × (Option Nat × zH)}, rec y0 y1 h nx z = some x → nx ≤ x.1.1 ∧ z ≤ x.1.2) {x0 : Option Nat} {x1 : Int32} {s0 : Option Nat} {h : zH} {nx z : Nat} {x : ((Nat × Nat) × (Option Nat × zH))} (hf : f_X4_readClaim_b3 rec x0 x1 s0 h nx z = some x) : nx ≤ x.1.1 ∧ z ≤ x.1.2 := by
  unfold f_X4_readClaim_b3 at hf
  obtain ⟨_, _, hf⟩ := z_bind_inv hf
  obtain ⟨_, _, hf⟩ := z_bind_inv hf
  obtain ⟨_, _, hf⟩ := z_bind_inv hf
  obtain ⟨_, _, _, hf⟩ := z_b2_inv hf
  obtain ⟨_, _, hf⟩ := z_bind_inv hf
  refine z_ite_inv _ hf (fun _ hf => ?_) (fun _ hf => ?_)
  · have m9 := m_X4_readClaim_b52 hmo hf
    exact ⟨by (try dsimp only at *); omega, by (try dsimp only at *); omega⟩
  · obtain ⟨_, _, hf⟩ := z_bind_inv hf
    obtain ⟨_, _, _, hf⟩ := z_b2_inv hf
    refine z_ite_inv _ hf (fun _ hf => ?_) (fun _ hf => ?_)
    · have m9 := m_X4_readClaim_b52 hmo hf
      exact ⟨by (try dsimp only at *); omega, by (try dsimp only at *); omega⟩
    · obtain ⟨_, _, hf⟩ := z_bind_inv hf
      obtain ⟨n13, eh11, hf⟩ := z_bind_inv hf
      have mn13 := hmo eh11
      have m9 := m_X4_readClaim_b40 hmo hf
      exact ⟨by (try dsimp only at *); omega, by (try dsimp only at *); omega⟩
set_option maxHeartbeats 4000000 in
set_option maxRecDepth 100000 in
theorem v_X4_readClaim_b3 {X : zX} {rec : Option Nat → Int32 → zH → Nat → Nat → Option ((Nat × Nat) × (Option Nat × zH))} {dd : Nat} {cc0 ss0 nx0 z0 : Nat} (K : z_Ok X cX4_readClaim (some (.object "ThinkingArms$Claim")) RX4 "readClaim") (hX : z_Xo X (rm_X4_readClaim dd cc0 ss0) 3) (hrec : ∀ {y0 : Option Nat} {y1 : Int32} {h : zH} {nx z : Nat} {x : (Nat × Nat) × (Option Nat × zH)}, rec y0 y1 h nx z = some x → z_Ct X.1.2.1 X.2.2.1 yX4_readTest cX4_readTest 6 (some (.object "ThinkingArms$Claim")) (rm_X4_readTest dd (x.1.1 - nx) (x.1.2 - z)) [tA y0, tI y1] h nx (some (tA x.2.1)) x.2.2 x.1.1 (x.1.1 - nx) (x.1.2 - z)) (hmo : ∀ {y0 : Option Nat} {y1 : Int32} {h : zH} {nx z : Nat} {x : (Nat × Nat) × (Option Nat × zH)}, rec y0 y1 h nx z = some x → nx ≤ x.1.1 ∧ z ≤ x.1.2) {x0 : Option Nat} {x1 : Int32} {s0 : Option Nat} {h : zH} {nx z : Nat} (hm : nx0 ≤ nx ∧ z0 ≤ z) {x : ((Nat × Nat) × (Option Nat × zH))} (hf : f_X4_readClaim_b3 rec x0 x1 s0 h nx z = some x) (hp : z_Pm X nx0 z0 (z_P0Am X nx0 z0) x) : zV X 3 [(0, tA x0), (1, tI x1)] [tA s0] h nx (nx - nx0) (z - z0) := by
  have mB := m_X4_readClaim_b3 hmo hf
  unfold f_X4_readClaim_b3 at hf
  refine zv_dup K eX4_readClaim_3 rfl ?_
  obtain ⟨q1, hq1, hf⟩ := z_bind_inv hf
  obtain ⟨h2, eh2, hf⟩ := z_bind_inv hf
  refine zv_cI0 K [] [tA s0] eX4_readClaim_4 lk_X4_100 md_X1_init im_X1_init rfl rfl rfl (Nat.le_of_ble_eq_true rfl) hq1 (c_X1_init X.1.2.1 X.2.2.1 eh2) rfl rfl ⟨z_le (z_fr hX) (by simp only [rm_X4_readClaim, rm_X1_init]; omega), z_le (z_lo hX) (by simp only [rm_X4_readClaim, rm_X1_init]; omega)⟩ (z_bd hp mB) ?_
  refine zv_astore_n K [(2, tA s0), (0, tA x0), (1, tI x1)] eX4_readClaim_7 (z_lt hX.2 (by decide)) rfl ?_
  refine zv_aload_n K 0 eX4_readClaim_8 rfl ?_
  refine zv_aload_n K 1 eX4_readClaim_9 rfl ?_
  refine zv_bipush K (33 : Int32) eX4_readClaim_10 (by decide) ?_
  obtain ⟨q3, hq3, hf⟩ := z_bind_inv hf
  obtain ⟨v5, h4, eh4, hf⟩ := z_b2_inv hf
  refine zv_cV0 K [tI (33 : Int32)] [tA s0] eX4_readClaim_12 lk_X4_40 md_X4_takes im_X4_takes sl_X4_takes rfl rfl rfl rfl (Nat.le_of_ble_eq_true rfl) hq3 (c_X4_takes X.1.2.1 X.2.2.1 eh4) rfl rfl ⟨z_le (z_fr hX) (by simp only [rm_X4_readClaim, rm_X4_takes]; omega), z_le (z_lo hX) (by simp only [rm_X4_readClaim, rm_X4_takes]; omega)⟩ (z_bd hp mB) ?_
  refine zv_pZ K eX4_readClaim_15 fl_X4_101 ff_1_1 rfl hf (fun h6 hf => ?_)
  refine zv_iload_n K 2 eX4_readClaim_18 rfl ?_
  refine zv_iconst K (4 : Int32) eX4_readClaim_19 (by decide) ?_
  refine zv_icmp_ge K 52 eX4_readClaim_20 (by decide) hf (fun _ hf => ?_) (fun _ hf => ?_)
  · exact zv_sub [1, 0] rfl (v_X4_readClaim_b52 K hX hrec hmo (by omega) hf hp)
  · refine zv_aload_n K 1 eX4_readClaim_23 rfl ?_
    refine zv_bipush K (40 : Int32) eX4_readClaim_24 (by decide) ?_
    obtain ⟨q7, hq7, hf⟩ := z_bind_inv hf
    obtain ⟨v9, h8, eh8, hf⟩ := z_b2_inv hf
    refine zv_cV0 K [tI (40 : Int32)] [] eX4_readClaim_26 lk_X4_40 md_X4_takes im_X4_takes sl_X4_takes rfl rfl rfl rfl (Nat.le_of_ble_eq_true rfl) hq7 (c_X4_takes X.1.2.1 X.2.2.1 eh8) rfl rfl ⟨z_le (z_fr hX) (by simp only [rm_X4_readClaim, rm_X4_takes]; omega), z_le (z_lo hX) (by simp only [rm_X4_readClaim, rm_X4_takes]; omega)⟩ (z_bd hp mB) ?_
    refine zv_if_eq K 52 eX4_readClaim_29 (by decide) hf (fun _ hf => ?_) (fun _ hf => ?_)
    · exact zv_sub [1, 0] rfl (v_X4_readClaim_b52 K hX hrec hmo (by omega) hf hp)
    · refine zv_aload_n K 0 eX4_readClaim_32 rfl ?_
      refine zv_aload_n K 1 eX4_readClaim_33 rfl ?_
      refine zv_iload_n K 2 eX4_readClaim_34 rfl ?_
      refine zv_iconst K (1 : Int32) eX4_readClaim_35 (by decide) ?_
      refine zv_iadd K eX4_readClaim_36 ?_
      obtain ⟨q10, hq10, hf⟩ := z_bind_inv hf
      obtain ⟨n13, eh11, hf⟩ := z_bind_inv hf
      have mn13 := hmo eh11
      have m9 := m_X4_readClaim_b40 hmo hf
      refine zv_cV1 K [tI (x1 + (1 : Int32))] [tA s0] (n13.1.1 - nx0) (n13.1.2 - z0) eX4_readClaim_37 lk_X4_53 md_X4_readTest im_X4_readTest sl_X4_readTest rfl rfl rfl rfl (Nat.le_of_ble_eq_true rfl) hq10 (hrec eh11) rfl rfl ⟨z_le (z_fr hX) (by simp only [rm_X4_readClaim, rm_X4_readTest]; omega), z_le (z_lo hX) (by simp only [rm_X4_readClaim, rm_X4_readTest]; omega)⟩ (by omega) (by omega) (by omega) (z_bd hp m9) ?_
      exact zv_sub [1, 0] rfl (v_X4_readClaim_b40 K hX hrec hmo (by omega) hf hp)
theorem m_X4_readClaim_r {rec : Option Nat → Int32 → zH → Nat → Nat → Option ((Nat × Nat) × (Option Nat × zH))} (hmo : ∀ {y0 : Option Nat} {y1 : Int32} {h : zH} {nx z : Nat} {x : (Nat × Nat) × (Option Nat × zH)}, rec y0 y1 h nx z = some x → nx ≤ x.1.1 ∧ z ≤ x.1.2) {x0 : Option Nat} {x1 : Int32} {h : zH} {nx z : Nat} {x : ((Nat × Nat) × (Option Nat × zH))} (hf : f_X4_readClaim_r rec x0 x1 h nx z = some x) : nx ≤ x.1.1 ∧ z ≤ x.1.2 := by
  unfold f_X4_readClaim_r at hf
  have m9 := m_X4_readClaim_b3 hmo hf
  exact ⟨by (try dsimp only at *); omega, by (try dsimp only at *); omega⟩
set_option maxHeartbeats 4000000 in
set_option maxRecDepth 100000 in
theorem v_X4_readClaim_r {X : zX} {rec : Option Nat → Int32 → zH → Nat → Nat → Option ((Nat × Nat) × (Option Nat × zH))} {dd : Nat} {cc0 ss0 nx0 z0 : Nat} (K : z_Ok X cX4_readClaim (some (.object "ThinkingArms$Claim")) RX4 "readClaim") (hX : z_Xo X (rm_X4_readClaim dd cc0 ss0) 3) (hrec : ∀ {y0 : Option Nat} {y1 : Int32} {h : zH} {nx z : Nat} {x : (Nat × Nat) × (Option Nat × zH)}, rec y0 y1 h nx z = some x → z_Ct X.1.2.1 X.2.2.1 yX4_readTest cX4_readTest 6 (some (.object "ThinkingArms$Claim")) (rm_X4_readTest dd (x.1.1 - nx) (x.1.2 - z)) [tA y0, tI y1] h nx (some (tA x.2.1)) x.2.2 x.1.1 (x.1.1 - nx) (x.1.2 - z)) (hmo : ∀ {y0 : Option Nat} {y1 : Int32} {h : zH} {nx z : Nat} {x : (Nat × Nat) × (Option Nat × zH)}, rec y0 y1 h nx z = some x → nx ≤ x.1.1 ∧ z ≤ x.1.2) {x0 : Option Nat} {x1 : Int32} {h : zH} {nx z : Nat} (hm : nx0 ≤ nx ∧ z0 ≤ z) {x : ((Nat × Nat) × (Option Nat × zH))} (hf : f_X4_readClaim_r rec x0 x1 h nx z = some x) (hp : z_Pm X nx0 z0 (z_P0Am X nx0 z0) x) : zV X 0 [(0, tA x0), (1, tI x1)] [] h nx (nx - nx0) (z - z0) := by
  have mB := m_X4_readClaim_r hmo hf
  unfold f_X4_readClaim_r at hf
  have m9 := m_X4_readClaim_b3 hmo hf
  refine zv_new K 1 _ [tI 0, tI 0, tI 0, tA none, tA none] (nx + 1 - nx0) (z + 5 - z0) eX4_readClaim_0 rfl cl_X4_92 nb_1 nt_1 df_1 (by omega) (by show _ + 5 = _; omega) (z_bd hp m9) ?_
  exact zv_sub [0, 1] rfl (v_X4_readClaim_b3 K hX hrec hmo (by omega) hf hp)
def P_X4_readTest_11 (X : zX) (nx0 z0 : Nat) (nz : Nat × Nat) : ((Option Nat) × Int32 × (Option Nat) × (Option Nat) × Int32 × zH) ⊕ (Option Nat × zH) → Prop := z_PL (fun s => zV X 11 [(0, tA s.1), (1, tI s.2.1), (2, tA s.2.2.1), (3, tA s.2.2.2.1), (4, tI s.2.2.2.2.1)] [] s.2.2.2.2.2 nz.1 (nz.1 - nx0) (nz.2 - z0)) (z_P0Am X nx0 z0 nz)
theorem m_X4_readTest_b48 {rec : Option Nat → Int32 → zH → Nat → Nat → Option ((Nat × Nat) × (Option Nat × zH))} (hmo : ∀ {y0 : Option Nat} {y1 : Int32} {h : zH} {nx z : Nat} {x : (Nat × Nat) × (Option Nat × zH)}, rec y0 y1 h nx z = some x → nx ≤ x.1.1 ∧ z ≤ x.1.2) {x0 : Option Nat} {x1 : Int32} {x2 : Option Nat} {x3 : Option Nat} {x4 : Int32} {x5 : Int32} {s0 : Option Nat} {s1 : Option Nat} {h : zH} {nx z : Nat} {x : ((Nat × Nat) × (((Option Nat) × Int32 × (Option Nat) × (Option Nat) × Int32 × zH) ⊕ (Option Nat × zH)))} (hf : f_X4_readTest_b48 rec x0 x1 x2 x3 x4 x5 s0 s1 h nx z = some x) : nx ≤ x.1.1 ∧ z ≤ x.1.2 := by
  unfold f_X4_readTest_b48 at hf
  obtain ⟨_, _, hf⟩ := z_bind_inv hf
  obtain ⟨_, _, hf⟩ := z_bind_inv hf
  obtain ⟨_, _, hf⟩ := z_bind_inv hf
  cases hf
  exact ⟨by (try dsimp only at *); omega, by (try dsimp only at *); omega⟩
set_option maxHeartbeats 4000000 in
set_option maxRecDepth 100000 in
theorem v_X4_readTest_b48 {X : zX} {rec : Option Nat → Int32 → zH → Nat → Nat → Option ((Nat × Nat) × (Option Nat × zH))} {dd : Nat} {cc0 ss0 nx0 z0 : Nat} (K : z_Ok X cX4_readTest (some (.object "ThinkingArms$Claim")) RX4 "readTest") (hX : z_Xo X (rm_X4_readTest (dd + 1) cc0 ss0) 6) (hrec : ∀ {y0 : Option Nat} {y1 : Int32} {h : zH} {nx z : Nat} {x : (Nat × Nat) × (Option Nat × zH)}, rec y0 y1 h nx z = some x → z_Ct X.1.2.1 X.2.2.1 yX4_readClaim cX4_readClaim 3 (some (.object "ThinkingArms$Claim")) (rm_X4_readClaim dd (x.1.1 - nx) (x.1.2 - z)) [tA y0, tI y1] h nx (some (tA x.2.1)) x.2.2 x.1.1 (x.1.1 - nx) (x.1.2 - z)) (hmo : ∀ {y0 : Option Nat} {y1 : Int32} {h : zH} {nx z : Nat} {x : (Nat × Nat) × (Option Nat × zH)}, rec y0 y1 h nx z = some x → nx ≤ x.1.1 ∧ z ≤ x.1.2) {x0 : Option Nat} {x1 : Int32} {x2 : Option Nat} {x3 : Option Nat} {x4 : Int32} {x5 : Int32} {s0 : Option Nat} {s1 : Option Nat} {h : zH} {nx z : Nat} (hm : nx0 ≤ nx ∧ z0 ≤ z) {x : ((Nat × Nat) × (((Option Nat) × Int32 × (Option Nat) × (Option Nat) × Int32 × zH) ⊕ (Option Nat × zH)))} (hf : f_X4_readTest_b48 rec x0 x1 x2 x3 x4 x5 s0 s1 h nx z = some x) (hp : z_Pm X nx0 z0 (P_X4_readTest_11 X nx0 z0) x) : zV X 48 [(0, tA x0), (1, tI x1), (2, tA x2), (3, tA x3), (4, tI x4), (5, tI x5)] [tA s1, tA s0] h nx (nx - nx0) (z - z0) := by
  have mB := m_X4_readTest_b48 hmo hf
  unfold f_X4_readTest_b48 at hf
  refine zv_pA K eX4_readTest_48 fl_X4_91 ff_1_4 (Or.inl ⟨_, rfl⟩) hf (fun h1 hf => ?_)
  refine zv_aload_n K 3 eX4_readTest_51 rfl ?_
  refine zv_gA K eX4_readTest_52 fl_X4_91 hf (fun v2 hf => ?_)
  refine zv_astore_n K [(3, tA v2), (0, tA x0), (1, tI x1), (2, tA x2), (4, tI x4), (5, tI x5)] eX4_readTest_55 (z_lt hX.2 (by decide)) rfl ?_
  refine zv_aload_n K 0 eX4_readTest_56 rfl ?_
  refine zv_iload K 5 eX4_readTest_57 rfl ?_
  refine zv_pZ K eX4_readTest_59 fl_X4_96 ff_1_0 rfl hf (fun h3 hf => ?_)
  refine zv_iinc K (x4 + (1 : Int32)) 4 [(4, tI (x4 + (1 : Int32))), (3, tA v2), (0, tA x0), (1, tI x1), (2, tA x2), (5, tI x5)] eX4_readTest_62 rfl rfl (z_lt hX.2 (by decide)) rfl ?_
  refine zv_goto K 11 eX4_readTest_65 (by decide) ?_
  cases hf
  exact zv_sub [2, 3, 4, 1, 0] rfl (show zV X 11 [(0, tA x0), (1, tI x1), (2, tA x2), (3, tA v2), (4, tI (x4 + (1 : Int32)))] [] h3 nx (nx - nx0) (z - z0) from hp.2)
theorem m_X4_readTest_b42 {rec : Option Nat → Int32 → zH → Nat → Nat → Option ((Nat × Nat) × (Option Nat × zH))} (hmo : ∀ {y0 : Option Nat} {y1 : Int32} {h : zH} {nx z : Nat} {x : (Nat × Nat) × (Option Nat × zH)}, rec y0 y1 h nx z = some x → nx ≤ x.1.1 ∧ z ≤ x.1.2) {x0 : Option Nat} {x1 : Int32} {x2 : Option Nat} {x3 : Option Nat} {x4 : Int32} {x5 : Int32} {h : zH} {nx z : Nat} {x : ((Nat × Nat) × (((Option Nat) × Int32 × (Option Nat) × (Option Nat) × Int32 × zH) ⊕ (Option Nat × zH)))} (hf : f_X4_readTest_b42 rec x0 x1 x2 x3 x4 x5 h nx z = some x) : nx ≤ x.1.1 ∧ z ≤ x.1.2 := by
  unfold f_X4_readTest_b42 at hf
  obtain ⟨_, _, hf⟩ := z_bind_inv hf
  obtain ⟨n4, eh2, hf⟩ := z_bind_inv hf
  have mn4 := hmo eh2
  have m9 := m_X4_readTest_b48 hmo hf
  exact ⟨by (try dsimp only at *); omega, by (try dsimp only at *); omega⟩
set_option maxHeartbeats 4000000 in
set_option maxRecDepth 100000 in
theorem v_X4_readTest_b42 {X : zX} {rec : Option Nat → Int32 → zH → Nat → Nat → Option ((Nat × Nat) × (Option Nat × zH))} {dd : Nat} {cc0 ss0 nx0 z0 : Nat} (K : z_Ok X cX4_readTest (some (.object "ThinkingArms$Claim")) RX4 "readTest") (hX : z_Xo X (rm_X4_readTest (dd + 1) cc0 ss0) 6) (hrec : ∀ {y0 : Option Nat} {y1 : Int32} {h : zH} {nx z : Nat} {x : (Nat × Nat) × (Option Nat × zH)}, rec y0 y1 h nx z = some x → z_Ct X.1.2.1 X.2.2.1 yX4_readClaim cX4_readClaim 3 (some (.object "ThinkingArms$Claim")) (rm_X4_readClaim dd (x.1.1 - nx) (x.1.2 - z)) [tA y0, tI y1] h nx (some (tA x.2.1)) x.2.2 x.1.1 (x.1.1 - nx) (x.1.2 - z)) (hmo : ∀ {y0 : Option Nat} {y1 : Int32} {h : zH} {nx z : Nat} {x : (Nat × Nat) × (Option Nat × zH)}, rec y0 y1 h nx z = some x → nx ≤ x.1.1 ∧ z ≤ x.1.2) {x0 : Option Nat} {x1 : Int32} {x2 : Option Nat} {x3 : Option Nat} {x4 : Int32} {x5 : Int32} {h : zH} {nx z : Nat} (hm : nx0 ≤ nx ∧ z0 ≤ z) {x : ((Nat × Nat) × (((Option Nat) × Int32 × (Option Nat) × (Option Nat) × Int32 × zH) ⊕ (Option Nat × zH)))} (hf : f_X4_readTest_b42 rec x0 x1 x2 x3 x4 x5 h nx z = some x) (hp : z_Pm X nx0 z0 (P_X4_readTest_11 X nx0 z0) x) : zV X 42 [(0, tA x0), (1, tI x1), (2, tA x2), (3, tA x3), (4, tI x4), (5, tI x5)] [] h nx (nx - nx0) (z - z0) := by
  have mB := m_X4_readTest_b42 hmo hf
  unfold f_X4_readTest_b42 at hf
  refine zv_aload_n K 3 eX4_readTest_42 rfl ?_
  refine zv_aload_n K 0 eX4_readTest_43 rfl ?_
  refine zv_iload_n K 1 eX4_readTest_44 rfl ?_
  obtain ⟨q1, hq1, hf⟩ := z_bind_inv hf
  obtain ⟨n4, eh2, hf⟩ := z_bind_inv hf
  have mn4 := hmo eh2
  have m9 := m_X4_readTest_b48 hmo hf
  refine zv_cV1 K [tI x1] [tA x3] (n4.1.1 - nx0) (n4.1.2 - z0) eX4_readTest_45 lk_X4_88 md_X4_readClaim im_X4_readClaim sl_X4_readClaim rfl rfl rfl rfl (Nat.le_of_ble_eq_true rfl) hq1 (hrec eh2) rfl rfl ⟨z_le (z_fr hX) (by simp only [rm_X4_readTest, rm_X4_readClaim]; omega), z_le (z_lo hX) (by simp only [rm_X4_readTest, rm_X4_readClaim]; omega)⟩ (by omega) (by omega) (by omega) (z_bd hp m9) ?_
  exact zv_sub [0, 1, 2, 3, 4, 5] rfl (v_X4_readTest_b48 K hX hrec hmo (by omega) hf hp)
theorem m_X4_readTest_c11 {rec : Option Nat → Int32 → zH → Nat → Nat → Option ((Nat × Nat) × (Option Nat × zH))} (hmo : ∀ {y0 : Option Nat} {y1 : Int32} {h : zH} {nx z : Nat} {x : (Nat × Nat) × (Option Nat × zH)}, rec y0 y1 h nx z = some x → nx ≤ x.1.1 ∧ z ≤ x.1.2) {x0 : Option Nat} {x1 : Int32} {x2 : Option Nat} {x3 : Option Nat} {x4 : Int32} {h : zH} {nx z : Nat} {x : ((Nat × Nat) × (((Option Nat) × Int32 × (Option Nat) × (Option Nat) × Int32 × zH) ⊕ (Option Nat × zH)))} (hf : f_X4_readTest_c11 rec x0 x1 x2 x3 x4 h nx z = some x) : nx ≤ x.1.1 ∧ z ≤ x.1.2 := by
  unfold f_X4_readTest_c11 at hf
  refine z_ite_inv _ hf (fun _ hf => ?_) (fun _ hf => ?_)
  · obtain ⟨w9, hf9, e9⟩ := z_i1m_inv hf; clear hf; subst e9; have hf := hf9; clear hf9
    cases hf
    exact ⟨by (try dsimp only at *); omega, by (try dsimp only at *); omega⟩
  · obtain ⟨_, _, hf⟩ := z_bind_inv hf
    obtain ⟨_, _, _, hf⟩ := z_b2_inv hf
    refine z_ite_inv _ hf (fun _ hf => ?_) (fun _ hf => ?_)
    · obtain ⟨_, _, hf⟩ := z_bind_inv hf
      obtain ⟨_, _, _, hf⟩ := z_b2_inv hf
      refine z_ite_inv _ hf (fun _ hf => ?_) (fun _ hf => ?_)
      · obtain ⟨w9, hf9, e9⟩ := z_i1m_inv hf; clear hf; subst e9; have hf := hf9; clear hf9
        cases hf
        exact ⟨by (try dsimp only at *); omega, by (try dsimp only at *); omega⟩
      · have m9 := m_X4_readTest_b42 hmo hf
        exact ⟨by (try dsimp only at *); omega, by (try dsimp only at *); omega⟩
    · have m9 := m_X4_readTest_b42 hmo hf
      exact ⟨by (try dsimp only at *); omega, by (try dsimp only at *); omega⟩
set_option maxHeartbeats 4000000 in
set_option maxRecDepth 100000 in
theorem v_X4_readTest_c11 {X : zX} {rec : Option Nat → Int32 → zH → Nat → Nat → Option ((Nat × Nat) × (Option Nat × zH))} {dd : Nat} {cc0 ss0 nx0 z0 : Nat} (K : z_Ok X cX4_readTest (some (.object "ThinkingArms$Claim")) RX4 "readTest") (hX : z_Xo X (rm_X4_readTest (dd + 1) cc0 ss0) 6) (hrec : ∀ {y0 : Option Nat} {y1 : Int32} {h : zH} {nx z : Nat} {x : (Nat × Nat) × (Option Nat × zH)}, rec y0 y1 h nx z = some x → z_Ct X.1.2.1 X.2.2.1 yX4_readClaim cX4_readClaim 3 (some (.object "ThinkingArms$Claim")) (rm_X4_readClaim dd (x.1.1 - nx) (x.1.2 - z)) [tA y0, tI y1] h nx (some (tA x.2.1)) x.2.2 x.1.1 (x.1.1 - nx) (x.1.2 - z)) (hmo : ∀ {y0 : Option Nat} {y1 : Int32} {h : zH} {nx z : Nat} {x : (Nat × Nat) × (Option Nat × zH)}, rec y0 y1 h nx z = some x → nx ≤ x.1.1 ∧ z ≤ x.1.2) {x0 : Option Nat} {x1 : Int32} {x2 : Option Nat} {x3 : Option Nat} {x4 : Int32} {h : zH} {nx z : Nat} (hm : nx0 ≤ nx ∧ z0 ≤ z) {x : ((Nat × Nat) × (((Option Nat) × Int32 × (Option Nat) × (Option Nat) × Int32 × zH) ⊕ (Option Nat × zH)))} (hf : f_X4_readTest_c11 rec x0 x1 x2 x3 x4 h nx z = some x) (hp : z_Pm X nx0 z0 (P_X4_readTest_11 X nx0 z0) x) : zV X 11 [(0, tA x0), (1, tI x1), (2, tA x2), (3, tA x3), (4, tI x4)] [] h nx (nx - nx0) (z - z0) := by
  have mB := m_X4_readTest_c11 hmo hf
  unfold f_X4_readTest_c11 at hf
  refine zv_iload K 4 eX4_readTest_11 rfl ?_
  refine zv_bipush K (100 : Int32) eX4_readTest_13 (by decide) ?_
  refine zv_icmp_ge K 68 eX4_readTest_15 (by decide) hf (fun _ hf => ?_) (fun _ hf => ?_)
  · obtain ⟨w9, hf9, e9⟩ := z_i1m_inv hf; clear hf; subst e9; have hf := hf9; clear hf9
    have hp : z_Pm X nx0 z0 (z_P0Am X nx0 z0) _ := hp
    refine zv_aload_n K 2 eX4_readTest_68 rfl ?_
    have e9 := Option.some.inj hf; subst e9
    exact zv_aret K eX4_readTest_69 hp.2
  · refine zv_aload_n K 0 eX4_readTest_18 rfl ?_
    refine zv_bipush K (124 : Int32) eX4_readTest_19 (by decide) ?_
    obtain ⟨q1, hq1, hf⟩ := z_bind_inv hf
    obtain ⟨v3, h2, eh2, hf⟩ := z_b2_inv hf
    refine zv_cV0 K [tI (124 : Int32)] [] eX4_readTest_21 lk_X4_40 md_X4_takes im_X4_takes sl_X4_takes rfl rfl rfl rfl (Nat.le_of_ble_eq_true rfl) hq1 (c_X4_takes X.1.2.1 X.2.2.1 eh2) rfl rfl ⟨z_le (z_fr hX) (by simp only [rm_X4_readTest, rm_X4_takes]; omega), z_le (z_lo hX) (by simp only [rm_X4_readTest, rm_X4_takes]; omega)⟩ (z_bd hp mB) ?_
    refine zv_istore K [(5, tI v3), (0, tA x0), (1, tI x1), (2, tA x2), (3, tA x3), (4, tI x4)] eX4_readTest_24 (z_lt hX.2 (by decide)) rfl ?_
    refine zv_iload K 0 eX4_readTest_26 rfl ?_
    refine zv_if_ne K 42 eX4_readTest_28 (by decide) hf (fun _ hf => ?_) (fun _ hf => ?_)
    · exact zv_sub [1, 2, 3, 4, 5, 0] rfl (v_X4_readTest_b42 K hX hrec hmo (by omega) hf hp)
    · refine zv_aload_n K 1 eX4_readTest_31 rfl ?_
      refine zv_bipush K (38 : Int32) eX4_readTest_32 (by decide) ?_
      obtain ⟨q4, hq4, hf⟩ := z_bind_inv hf
      obtain ⟨v6, h5, eh5, hf⟩ := z_b2_inv hf
      refine zv_cV0 K [tI (38 : Int32)] [] eX4_readTest_34 lk_X4_40 md_X4_takes im_X4_takes sl_X4_takes rfl rfl rfl rfl (Nat.le_of_ble_eq_true rfl) hq4 (c_X4_takes X.1.2.1 X.2.2.1 eh5) rfl rfl ⟨z_le (z_fr hX) (by simp only [rm_X4_readTest, rm_X4_takes]; omega), z_le (z_lo hX) (by simp only [rm_X4_readTest, rm_X4_takes]; omega)⟩ (z_bd hp mB) ?_
      refine zv_if_ne K 42 eX4_readTest_37 (by decide) hf (fun _ hf => ?_) (fun _ hf => ?_)
      · exact zv_sub [1, 2, 3, 4, 5, 0] rfl (v_X4_readTest_b42 K hX hrec hmo (by omega) hf hp)
      · obtain ⟨w9, hf9, e9⟩ := z_i1m_inv hf; clear hf; subst e9; have hf := hf9; clear hf9
        have hp : z_Pm X nx0 z0 (z_P0Am X nx0 z0) _ := hp
        refine zv_aload_n K 3 eX4_readTest_40 rfl ?_
        have e9 := Option.some.inj hf; subst e9
        exact zv_aret K eX4_readTest_41 hp.2
theorem m_X4_readTest_b11 {rec : Option Nat → Int32 → zH → Nat → Nat → Option ((Nat × Nat) × (Option Nat × zH))} (hmo : ∀ {y0 : Option Nat} {y1 : Int32} {h : zH} {nx z : Nat} {x : (Nat × Nat) × (Option Nat × zH)}, rec y0 y1 h nx z = some x → nx ≤ x.1.1 ∧ z ≤ x.1.2) {x0 : Option Nat} {x1 : Int32} {x2 : Option Nat} {x3 : Option Nat} {x4 : Int32} {h : zH} {nx z : Nat} {x : ((Nat × Nat) × (Option Nat × zH))} (hf : f_X4_readTest_b11 rec x0 x1 x2 x3 x4 h nx z = some x) : nx ≤ x.1.1 ∧ z ≤ x.1.2 :=
  z_itmo (body := fun q : (Nat × Nat) × ((Option Nat) × Int32 × (Option Nat) × (Option Nat) × Int32 × zH) => f_X4_readTest_c11 rec q.2.1 q.2.2.1 q.2.2.2.1 q.2.2.2.2.1 q.2.2.2.2.2.1 q.2.2.2.2.2.2 q.1.1 q.1.2) (nz := (nx, z)) (fun s nz y hb => m_X4_readTest_c11 hmo hb) hf
theorem v_X4_readTest_b11 {X : zX} {rec : Option Nat → Int32 → zH → Nat → Nat → Option ((Nat × Nat) × (Option Nat × zH))} {dd : Nat} {cc0 ss0 nx0 z0 : Nat} (K : z_Ok X cX4_readTest (some (.object "ThinkingArms$Claim")) RX4 "readTest") (hX : z_Xo X (rm_X4_readTest (dd + 1) cc0 ss0) 6) (hrec : ∀ {y0 : Option Nat} {y1 : Int32} {h : zH} {nx z : Nat} {x : (Nat × Nat) × (Option Nat × zH)}, rec y0 y1 h nx z = some x → z_Ct X.1.2.1 X.2.2.1 yX4_readClaim cX4_readClaim 3 (some (.object "ThinkingArms$Claim")) (rm_X4_readClaim dd (x.1.1 - nx) (x.1.2 - z)) [tA y0, tI y1] h nx (some (tA x.2.1)) x.2.2 x.1.1 (x.1.1 - nx) (x.1.2 - z)) (hmo : ∀ {y0 : Option Nat} {y1 : Int32} {h : zH} {nx z : Nat} {x : (Nat × Nat) × (Option Nat × zH)}, rec y0 y1 h nx z = some x → nx ≤ x.1.1 ∧ z ≤ x.1.2) {x0 : Option Nat} {x1 : Int32} {x2 : Option Nat} {x3 : Option Nat} {x4 : Int32} {h : zH} {nx z : Nat} (hm : nx0 ≤ nx ∧ z0 ≤ z) {x : ((Nat × Nat) × (Option Nat × zH))} (hf : f_X4_readTest_b11 rec x0 x1 x2 x3 x4 h nx z = some x) (hp : z_Pm X nx0 z0 (z_P0Am X nx0 z0) x) : zV X 11 [(0, tA x0), (1, tI x1), (2, tA x2), (3, tA x3), (4, tI x4)] [] h nx (nx - nx0) (z - z0) :=
  z_itm (body := fun q : (Nat × Nat) × ((Option Nat) × Int32 × (Option Nat) × (Option Nat) × Int32 × zH) => f_X4_readTest_c11 rec q.2.1 q.2.2.1 q.2.2.2.1 q.2.2.2.2.1 q.2.2.2.2.2.1 q.2.2.2.2.2.2 q.1.1 q.1.2) (nz := (nx, z)) (P := fun s nz => zV X 11 [(0, tA s.1), (1, tI s.2.1), (2, tA s.2.2.1), (3, tA s.2.2.2.1), (4, tI s.2.2.2.2.1)] [] s.2.2.2.2.2 nz.1 (nz.1 - nx0) (nz.2 - z0)) (Q := z_P0Am X nx0 z0) (fun s nz y hm hb hy => v_X4_readTest_c11 K hX hrec hmo hm hb hy) (fun s nz y hb => m_X4_readTest_c11 hmo hb) hm hp hf
theorem m_X4_readTest_b5 {rec : Option Nat → Int32 → zH → Nat → Nat → Option ((Nat × Nat) × (Option Nat × zH))} (hmo : ∀ {y0 : Option Nat} {y1 : Int32} {h : zH} {nx z : Nat} {x : (Nat × Nat) × (Option Nat × zH)}, rec y0 y1 h nx z = some x → nx ≤ x.1.1 ∧ z ≤ x.1.2) {x0 : Option Nat} {x1 : Int32} {s0 : Option Nat} {h : zH} {nx z : Nat} {x : ((Nat × Nat) × (Option Nat × zH))} (hf : f_X4_readTest_b5 rec x0 x1 s0 h nx z = some x) : nx ≤ x.1.1 ∧ z ≤ x.1.2 := by
  unfold f_X4_readTest_b5 at hf
  have m9 := m_X4_readTest_b11 hmo hf
  exact ⟨by (try dsimp only at *); omega, by (try dsimp only at *); omega⟩
set_option maxHeartbeats 4000000 in
set_option maxRecDepth 100000 in
theorem v_X4_readTest_b5 {X : zX} {rec : Option Nat → Int32 → zH → Nat → Nat → Option ((Nat × Nat) × (Option Nat × zH))} {dd : Nat} {cc0 ss0 nx0 z0 : Nat} (K : z_Ok X cX4_readTest (some (.object "ThinkingArms$Claim")) RX4 "readTest") (hX : z_Xo X (rm_X4_readTest (dd + 1) cc0 ss0) 6) (hrec : ∀ {y0 : Option Nat} {y1 : Int32} {h : zH} {nx z : Nat} {x : (Nat × Nat) × (Option Nat × zH)}, rec y0 y1 h nx z = some x → z_Ct X.1.2.1 X.2.2.1 yX4_readClaim cX4_readClaim 3 (some (.object "ThinkingArms$Claim")) (rm_X4_readClaim dd (x.1.1 - nx) (x.1.2 - z)) [tA y0, tI y1] h nx (some (tA x.2.1)) x.2.2 x.1.1 (x.1.1 - nx) (x.1.2 - z)) (hmo : ∀ {y0 : Option Nat} {y1 : Int32} {h : zH} {nx z : Nat} {x : (Nat × Nat) × (Option Nat × zH)}, rec y0 y1 h nx z = some x → nx ≤ x.1.1 ∧ z ≤ x.1.2) {x0 : Option Nat} {x1 : Int32} {s0 : Option Nat} {h : zH} {nx z : Nat} (hm : nx0 ≤ nx ∧ z0 ≤ z) {x : ((Nat × Nat) × (Option Nat × zH))} (hf : f_X4_readTest_b5 rec x0 x1 s0 h nx z = some x) (hp : z_Pm X nx0 z0 (z_P0Am X nx0 z0) x) : zV X 5 [(0, tA x0), (1, tI x1)] [tA s0] h nx (nx - nx0) (z - z0) := by
  have mB := m_X4_readTest_b5 hmo hf
  unfold f_X4_readTest_b5 at hf
  refine zv_astore_n K [(2, tA s0), (0, tA x0), (1, tI x1)] eX4_readTest_5 (z_lt hX.2 (by decide)) rfl ?_
  refine zv_aload_n K 0 eX4_readTest_6 rfl ?_
  refine zv_astore_n K [(3, tA s0), (2, tA s0), (0, tA x0), (1, tI x1)] eX4_readTest_7 (z_lt hX.2 (by decide)) rfl ?_
  refine zv_iconst K (0 : Int32) eX4_readTest_8 (by decide) ?_
  refine zv_istore K [(4, tI (0 : Int32)), (3, tA s0), (2, tA s0), (0, tA x0), (1, tI x1)] eX4_readTest_9 (z_lt hX.2 (by decide)) rfl ?_
  exact zv_sub [3, 4, 2, 1, 0] rfl (v_X4_readTest_b11 K hX hrec hmo (by omega) hf hp)
theorem m_X4_readTest_r {rec : Option Nat → Int32 → zH → Nat → Nat → Option ((Nat × Nat) × (Option Nat × zH))} (hmo : ∀ {y0 : Option Nat} {y1 : Int32} {h : zH} {nx z : Nat} {x : (Nat × Nat) × (Option Nat × zH)}, rec y0 y1 h nx z = some x → nx ≤ x.1.1 ∧ z ≤ x.1.2) {x0 : Option Nat} {x1 : Int32} {h : zH} {nx z : Nat} {x : ((Nat × Nat) × (Option Nat × zH))} (hf : f_X4_readTest_r rec x0 x1 h nx z = some x) : nx ≤ x.1.1 ∧ z ≤ x.1.2 := by
  unfold f_X4_readTest_r at hf
  obtain ⟨_, _, hf⟩ := z_bind_inv hf
  obtain ⟨n4, eh2, hf⟩ := z_bind_inv hf
  have mn4 := hmo eh2
  have m9 := m_X4_readTest_b5 hmo hf
  exact ⟨by (try dsimp only at *); omega, by (try dsimp only at *); omega⟩
set_option maxHeartbeats 4000000 in
set_option maxRecDepth 100000 in
theorem v_X4_readTest_r {X : zX} {rec : Option Nat → Int32 → zH → Nat → Nat → Option ((Nat × Nat) × (Option Nat × zH))} {dd : Nat} {cc0 ss0 nx0 z0 : Nat} (K : z_Ok X cX4_readTest (some (.object "ThinkingArms$Claim")) RX4 "readTest") (hX : z_Xo X (rm_X4_readTest (dd + 1) cc0 ss0) 6) (hrec : ∀ {y0 : Option Nat} {y1 : Int32} {h : zH} {nx z : Nat} {x : (Nat × Nat) × (Option Nat × zH)}, rec y0 y1 h nx z = some x → z_Ct X.1.2.1 X.2.2.1 yX4_readClaim cX4_readClaim 3 (some (.object "ThinkingArms$Claim")) (rm_X4_readClaim dd (x.1.1 - nx) (x.1.2 - z)) [tA y0, tI y1] h nx (some (tA x.2.1)) x.2.2 x.1.1 (x.1.1 - nx) (x.1.2 - z)) (hmo : ∀ {y0 : Option Nat} {y1 : Int32} {h : zH} {nx z : Nat} {x : (Nat × Nat) × (Option Nat × zH)}, rec y0 y1 h nx z = some x → nx ≤ x.1.1 ∧ z ≤ x.1.2) {x0 : Option Nat} {x1 : Int32} {h : zH} {nx z : Nat} (hm : nx0 ≤ nx ∧ z0 ≤ z) {x : ((Nat × Nat) × (Option Nat × zH))} (hf : f_X4_readTest_r rec x0 x1 h nx z = some x) (hp : z_Pm X nx0 z0 (z_P0Am X nx0 z0) x) : zV X 0 [(0, tA x0), (1, tI x1)] [] h nx (nx - nx0) (z - z0) := by
  have mB := m_X4_readTest_r hmo hf
  unfold f_X4_readTest_r at hf
  refine zv_aload_n K 0 eX4_readTest_0 rfl ?_
  refine zv_iload_n K 1 eX4_readTest_1 rfl ?_
  obtain ⟨q1, hq1, hf⟩ := z_bind_inv hf
  obtain ⟨n4, eh2, hf⟩ := z_bind_inv hf
  have mn4 := hmo eh2
  have m9 := m_X4_readTest_b5 hmo hf
  refine zv_cV1 K [tI x1] [] (n4.1.1 - nx0) (n4.1.2 - z0) eX4_readTest_2 lk_X4_88 md_X4_readClaim im_X4_readClaim sl_X4_readClaim rfl rfl rfl rfl (Nat.le_of_ble_eq_true rfl) hq1 (hrec eh2) rfl rfl ⟨z_le (z_fr hX) (by simp only [rm_X4_readTest, rm_X4_readClaim]; omega), z_le (z_lo hX) (by simp only [rm_X4_readTest, rm_X4_readClaim]; omega)⟩ (by omega) (by omega) (by omega) (z_bd hp m9) ?_
  exact zv_sub [0, 1] rfl (v_X4_readTest_b5 K hX hrec hmo (by omega) hf hp)
theorem m_X4_readTest : ∀ {dd : Nat} {x0 : Option Nat} {x1 : Int32} {h : zH} {nx z : Nat} {x : (Nat × Nat) × (Option Nat × zH)}, f_X4_readTest dd x0 x1 h nx z = some x → nx ≤ x.1.1 ∧ z ≤ x.1.2 := by
  intro dd
  induction dd with
  | zero => intros; rename_i hf; cases hf
  | succ dd ih =>
    intro x0 x1 h nx z x hf
    exact m_X4_readTest_r (rec := f_X4_readClaim_r (f_X4_readTest dd)) (fun e => m_X4_readClaim_r (fun e => ih e) e) hf
theorem m_X4_readClaim {dd : Nat} {x0 : Option Nat} {x1 : Int32} {h : zH} {nx z : Nat} {x : (Nat × Nat) × (Option Nat × zH)} (hf : f_X4_readClaim dd x0 x1 h nx z = some x) : nx ≤ x.1.1 ∧ z ≤ x.1.2 := m_X4_readClaim_r (rec := f_X4_readTest dd) (fun e => m_X4_readTest e) hf
theorem cc_X4_readClaim {l : Launch} {G : zG} {dd : Nat} (ih : ∀ {x0 : Option Nat} {x1 : Int32} {h : zH} {nx z : Nat} {x : (Nat × Nat) × (Option Nat × zH)}, f_X4_readTest dd x0 x1 h nx z = some x → z_Ct l G yX4_readTest cX4_readTest 6 (some (.object "ThinkingArms$Claim")) (rm_X4_readTest dd (x.1.1 - nx) (x.1.2 - z)) [tA x0, tI x1] h nx (some (tA x.2.1)) x.2.2 x.1.1 (x.1.1 - nx) (x.1.2 - z)) {x0 : Option Nat} {x1 : Int32} {h : zH} {nx z : Nat} {x : (Nat × Nat) × (Option Nat × zH)} (hf : f_X4_readClaim dd x0 x1 h nx z = some x) : z_Ct l G yX4_readClaim cX4_readClaim 3 (some (.object "ThinkingArms$Claim")) (rm_X4_readClaim dd (x.1.1 - nx) (x.1.2 - z)) [tA x0, tI x1] h nx (some (tA x.2.1)) x.2.2 x.1.1 (x.1.1 - nx) (x.1.2 - z) := by
    refine z_enter [(0, tA x0), (1, tI x1)] (by decide +kernel) (Nat.le_of_ble_eq_true rfl) rfl (fun X hl hR hG hL K hq => ?_)
    subst hl; subst hG
    have mm := m_X4_readClaim hf
    have := v_X4_readClaim_r (rec := f_X4_readTest dd) (dd := dd) K ⟨hR, hL⟩ (fun e => ih e) (fun e => m_X4_readTest e) (nx0 := nx) (z0 := z) ⟨Nat.le_refl _, Nat.le_refl _⟩ hf ⟨by rw [hR]; (try dsimp only [rm_X4_readClaim]); omega, hq⟩
    rw [Nat.sub_self, Nat.sub_self] at this
    exact this
theorem c_X4_readTest (l : Launch) (G : zG) : ∀ {dd : Nat} {x0 : Option Nat} {x1 : Int32} {h : zH} {nx z : Nat} {x : (Nat × Nat) × (Option Nat × zH)}, f_X4_readTest dd x0 x1 h nx z = some x → z_Ct l G yX4_readTest cX4_readTest 6 (some (.object "ThinkingArms$Claim")) (rm_X4_readTest dd (x.1.1 - nx) (x.1.2 - z)) [tA x0, tI x1] h nx (some (tA x.2.1)) x.2.2 x.1.1 (x.1.1 - nx) (x.1.2 - z) := by
  intro dd
  induction dd with
  | zero => intros; rename_i hf; cases hf
  | succ dd ih =>
    intro x0 x1 h nx z x hf
    refine z_enter [(0, tA x0), (1, tI x1)] (by decide +kernel) (Nat.le_of_ble_eq_true rfl) rfl (fun X hl hR hG hL K hq => ?_)
    subst hl; subst hG
    have mm := m_X4_readTest (dd := dd + 1) hf
    have := v_X4_readTest_r (rec := f_X4_readClaim dd) (dd := dd) K ⟨hR, hL⟩ (fun e => cc_X4_readClaim (fun e => ih e) e) (fun e => m_X4_readClaim e) (nx0 := nx) (z0 := z) ⟨Nat.le_refl _, Nat.le_refl _⟩ hf ⟨by rw [hR]; (try dsimp only [rm_X4_readTest]); omega, hq⟩
    rw [Nat.sub_self, Nat.sub_self] at this
    exact this
theorem c_X4_readClaim (l : Launch) (G : zG) {dd : Nat} {x0 : Option Nat} {x1 : Int32} {h : zH} {nx z : Nat} {x : (Nat × Nat) × (Option Nat × zH)} (hf : f_X4_readClaim dd x0 x1 h nx z = some x) : z_Ct l G yX4_readClaim cX4_readClaim 3 (some (.object "ThinkingArms$Claim")) (rm_X4_readClaim dd (x.1.1 - nx) (x.1.2 - z)) [tA x0, tI x1] h nx (some (tA x.2.1)) x.2.2 x.1.1 (x.1.1 - nx) (x.1.2 - z) := cc_X4_readClaim (fun e => c_X4_readTest l G e) hf
set_option maxHeartbeats 4000000 in
set_option maxRecDepth 100000 in
theorem v_X4_isAct {X : zX} (K : z_Ok X cX4_isAct (some .boolean) RX4 "isAct") (hX : z_Xo X rm_X4_isAct 1) {x0 : Int32} {h : zH} {nx : Nat} {x : (Int32 × zH)} (hf : f_X4_isAct x0 h = some x) (hp : z_P0I X nx x) : zV X 0 [(0, tI x0)] [] h nx 0 0 := by
  unfold f_X4_isAct at hf
  refine zv_iload_n K 0 eX4_isAct_0 rfl ?_
  refine zv_bipush K (102 : Int32) eX4_isAct_1 (by decide) ?_
  refine zv_icmp_eq K 36 eX4_isAct_3 (by decide) hf (fun _ hf => ?_) (fun _ hf => ?_)
  · refine zv_iconst K (1 : Int32) eX4_isAct_36 (by decide) ?_
    refine zv_goto K 41 eX4_isAct_37 (by decide) ?_
    cases hf
    exact zv_zret K eX4_isAct_41 (by decide) hp
  · refine zv_iload_n K 0 eX4_isAct_6 rfl ?_
    refine zv_bipush K (103 : Int32) eX4_isAct_7 (by decide) ?_
    refine zv_icmp_eq K 36 eX4_isAct_9 (by decide) hf (fun _ hf => ?_) (fun _ hf => ?_)
    · refine zv_iconst K (1 : Int32) eX4_isAct_36 (by decide) ?_
      refine zv_goto K 41 eX4_isAct_37 (by decide) ?_
      cases hf
      exact zv_zret K eX4_isAct_41 (by decide) hp
    · refine zv_iload_n K 0 eX4_isAct_12 rfl ?_
      refine zv_bipush K (112 : Int32) eX4_isAct_13 (by decide) ?_
      refine zv_icmp_eq K 36 eX4_isAct_15 (by decide) hf (fun _ hf => ?_) (fun _ hf => ?_)
      · refine zv_iconst K (1 : Int32) eX4_isAct_36 (by decide) ?_
        refine zv_goto K 41 eX4_isAct_37 (by decide) ?_
        cases hf
        exact zv_zret K eX4_isAct_41 (by decide) hp
      · refine zv_iload_n K 0 eX4_isAct_18 rfl ?_
        refine zv_bipush K (100 : Int32) eX4_isAct_19 (by decide) ?_
        refine zv_icmp_eq K 36 eX4_isAct_21 (by decide) hf (fun _ hf => ?_) (fun _ hf => ?_)
        · refine zv_iconst K (1 : Int32) eX4_isAct_36 (by decide) ?_
          refine zv_goto K 41 eX4_isAct_37 (by decide) ?_
          cases hf
          exact zv_zret K eX4_isAct_41 (by decide) hp
        · refine zv_iload_n K 0 eX4_isAct_24 rfl ?_
          refine zv_bipush K (115 : Int32) eX4_isAct_25 (by decide) ?_
          refine zv_icmp_eq K 36 eX4_isAct_27 (by decide) hf (fun _ hf => ?_) (fun _ hf => ?_)
          · refine zv_iconst K (1 : Int32) eX4_isAct_36 (by decide) ?_
            refine zv_goto K 41 eX4_isAct_37 (by decide) ?_
            cases hf
            exact zv_zret K eX4_isAct_41 (by decide) hp
          · refine zv_iload_n K 0 eX4_isAct_30 rfl ?_
            refine zv_bipush K (111 : Int32) eX4_isAct_31 (by decide) ?_
            refine zv_icmp_ne K 40 eX4_isAct_33 (by decide) hf (fun _ hf => ?_) (fun _ hf => ?_)
            · refine zv_iconst K (0 : Int32) eX4_isAct_40 (by decide) ?_
              cases hf
              exact zv_zret K eX4_isAct_41 (by decide) hp
            · refine zv_iconst K (1 : Int32) eX4_isAct_36 (by decide) ?_
              refine zv_goto K 41 eX4_isAct_37 (by decide) ?_
              cases hf
              exact zv_zret K eX4_isAct_41 (by decide) hp
theorem c_X4_isAct (l : Launch) (G : zG) {x0 : Int32} {h : zH} {nx : Nat} {x : Int32 × zH} (hf : f_X4_isAct x0 h = some x) : z_Ct l G yX4_isAct cX4_isAct 1 (some .boolean) rm_X4_isAct [tI x0] h nx (some (tI x.1)) x.2 nx 0 0 :=
  z_enter [(0, tI x0)] (by decide +kernel) (Nat.le_of_ble_eq_true rfl) rfl (fun X hl hR hG hL K hq => by
    subst hl; subst hG
    exact v_X4_isAct K ⟨hR, hL⟩ hf hq)
set_option maxHeartbeats 4000000 in
set_option maxRecDepth 100000 in
theorem v_X4_readAct_b62 {X : zX} (K : z_Ok X cX4_readAct none RX4 "readAct") (hX : z_Xo X rm_X4_readAct 3) {x1 : Option Nat} {h : zH} {nx : Nat} {x : (zH)} (hf : f_X4_readAct_b62 x1 h = some x) (hp : z_P0V X nx x) : zV X 62 [(1, tA x1)] [] h nx 0 0 := by
  unfold f_X4_readAct_b62 at hf
  refine zv_aload_n K 0 eX4_readAct_62 rfl ?_
  refine zv_dup K eX4_readAct_63 rfl ?_
  refine zv_gI K eX4_readAct_64 fl_X4_78 hf (fun v1 hf => ?_)
  refine zv_iconst K (1 : Int32) eX4_readAct_67 (by decide) ?_
  refine zv_iadd K eX4_readAct_68 ?_
  refine zv_pI K eX4_readAct_69 fl_X4_78 ff_2_3 rfl hf (fun h2 hf => ?_)
  have e9 := Option.some.inj hf; subst e9
  exact zv_vret K eX4_readAct_72 hp
set_option maxHeartbeats 4000000 in
set_option maxRecDepth 100000 in
theorem v_X4_readAct_b49 {X : zX} (K : z_Ok X cX4_readAct none RX4 "readAct") (hX : z_Xo X rm_X4_readAct 3) {x0 : Option Nat} {x1 : Option Nat} {h : zH} {nx : Nat} {x : (zH)} (hf : f_X4_readAct_b49 x0 x1 h = some x) (hp : z_P0V X nx x) : zV X 49 [(0, tA x0), (1, tA x1)] [] h nx 0 0 := by
  unfold f_X4_readAct_b49 at hf
  refine zv_aload_n K 1 eX4_readAct_49 rfl ?_
  refine zv_gA K eX4_readAct_50 fl_X4_81 hf (fun v1 hf => ?_)
  refine zv_aload_n K 1 eX4_readAct_53 rfl ?_
  refine zv_gI K eX4_readAct_54 fl_X4_78 hf (fun v2 hf => ?_)
  refine zv_aload_n K 0 eX4_readAct_57 rfl ?_
  obtain ⟨q3, hq3, hf⟩ := z_bind_inv hf
  obtain ⟨v5, h4, eh4, hf⟩ := z_b2_inv hf
  refine zv_cV0 K [] [tI v2, tA v1] eX4_readAct_58 lk_X4_84 md_X4_readDigit im_X4_readDigit sl_X4_readDigit rfl rfl rfl rfl (Nat.le_of_ble_eq_true rfl) hq3 (c_X4_readDigit X.1.2.1 X.2.2.1 eh4) rfl rfl ⟨z_le (z_fr hX) (by decide), z_le (z_lo hX) (by decide)⟩ ⟨Nat.zero_le _, Nat.zero_le _⟩ ?_
  refine zv_sI K eX4_readAct_61 hf (fun h6 hf => ?_)
  exact zv_sub [1] rfl (v_X4_readAct_b62 K hX hf hp)
set_option maxHeartbeats 4000000 in
set_option maxRecDepth 100000 in
theorem v_X4_readAct {X : zX} (K : z_Ok X cX4_readAct none RX4 "readAct") (hX : z_Xo X rm_X4_readAct 3) {x0 : Option Nat} {x1 : Option Nat} {h : zH} {nx : Nat} {x : (zH)} (hf : f_X4_readAct x0 x1 h = some x) (hp : z_P0V X nx x) : zV X 0 [(0, tA x0), (1, tA x1)] [] h nx 0 0 := by
  unfold f_X4_readAct at hf
  refine zv_aload_n K 0 eX4_readAct_0 rfl ?_
  refine zv_gI K eX4_readAct_1 fl_X4_44 hf (fun v1 hf => ?_)
  refine zv_istore_n K [(2, tI v1), (0, tA x0), (1, tA x1)] eX4_readAct_4 (z_lt hX.2 (by decide)) rfl ?_
  refine zv_iload_n K 0 eX4_readAct_5 rfl ?_
  obtain ⟨v3, h2, eh2, hf⟩ := z_b2_inv hf
  refine zv_cS0 K [tI v1] [] eX4_readAct_6 lk_X4_68 md_X4_isAct st_X4_isAct rfl rfl (Nat.le_of_ble_eq_true rfl) (c_X4_isAct X.1.2.1 X.2.2.1 eh2) rfl rfl ⟨z_le (z_fr hX) (by decide), z_le (z_lo hX) (by decide)⟩ ⟨Nat.zero_le _, Nat.zero_le _⟩ ?_
  refine zv_if_ne K 17 eX4_readAct_9 (by decide) hf (fun _ hf => ?_) (fun _ hf => ?_)
  · refine zv_aload_n K 1 eX4_readAct_17 rfl ?_
    refine zv_aload_n K 1 eX4_readAct_18 rfl ?_
    refine zv_gI K eX4_readAct_19 fl_X4_71 hf (fun v4 hf => ?_)
    refine zv_iconst K (1 : Int32) eX4_readAct_22 (by decide) ?_
    refine zv_iadd K eX4_readAct_23 ?_
    obtain ⟨q5, hq5, hf⟩ := z_bind_inv hf
    obtain ⟨h6, eh6, hf⟩ := z_bind_inv hf
    refine zv_cV0 K [tI (v4 + (1 : Int32))] [] eX4_readAct_24 lk_X4_22 md_X4_goTo im_X4_goTo sl_X4_goTo rfl rfl rfl rfl (Nat.le_of_ble_eq_true rfl) hq5 (c_X4_goTo X.1.2.1 X.2.2.1 eh6) rfl rfl ⟨z_le (z_fr hX) (by decide), z_le (z_lo hX) (by decide)⟩ ⟨Nat.zero_le _, Nat.zero_le _⟩ ?_
    refine zv_aload_n K 2 eX4_readAct_27 rfl ?_
    refine zv_gA K eX4_readAct_28 fl_X4_74 hf (fun v7 hf => ?_)
    refine zv_aload_n K 2 eX4_readAct_31 rfl ?_
    refine zv_gI K eX4_readAct_32 fl_X4_78 hf (fun v8 hf => ?_)
    refine zv_iload_n K 0 eX4_readAct_35 rfl ?_
    refine zv_sI K eX4_readAct_36 hf (fun h9 hf => ?_)
    refine zv_iload_n K 0 eX4_readAct_37 rfl ?_
    refine zv_bipush K (115 : Int32) eX4_readAct_38 (by decide) ?_
    refine zv_icmp_eq K 49 eX4_readAct_40 (by decide) hf (fun _ hf => ?_) (fun _ hf => ?_)
    · exact zv_sub [1, 2] rfl (v_X4_readAct_b49 K hX hf hp)
    · refine zv_iload_n K 0 eX4_readAct_43 rfl ?_
      refine zv_bipush K (111 : Int32) eX4_readAct_44 (by decide) ?_
      refine zv_icmp_ne K 62 eX4_readAct_46 (by decide) hf (fun _ hf => ?_) (fun _ hf => ?_)
      · exact zv_sub [2] rfl (v_X4_readAct_b62 K hX hf hp)
      · exact zv_sub [1, 2] rfl (v_X4_readAct_b49 K hX hf hp)
  · refine zv_aload_n K 1 eX4_readAct_12 rfl ?_
    obtain ⟨q10, hq10, hf⟩ := z_bind_inv hf
    obtain ⟨h11, eh11, hf⟩ := z_bind_inv hf
    refine zv_cV0 K [] [] eX4_readAct_13 lk_X4_47 md_X4_fail im_X4_fail sl_X4_fail rfl rfl rfl rfl (Nat.le_of_ble_eq_true rfl) hq10 (c_X4_fail X.1.2.1 X.2.2.1 eh11) rfl rfl ⟨z_le (z_fr hX) (by decide), z_le (z_lo hX) (by decide)⟩ ⟨Nat.zero_le _, Nat.zero_le _⟩ ?_
    have e9 := Option.some.inj hf; subst e9
    exact zv_vret K eX4_readAct_16 hp
theorem c_X4_readAct (l : Launch) (G : zG) {x0 : Option Nat} {x1 : Option Nat} {h : zH} {nx : Nat} {x : zH} (hf : f_X4_readAct x0 x1 h = some x) : z_Ct l G yX4_readAct cX4_readAct 3 none rm_X4_readAct [tA x0, tA x1] h nx none x nx 0 0 :=
  z_enter [(0, tA x0), (1, tA x1)] (by decide +kernel) (Nat.le_of_ble_eq_true rfl) rfl (fun X hl hR hG hL K hq => by
    subst hl; subst hG
    exact v_X4_readAct K ⟨hR, hL⟩ hf hq)
def P_X4_readClause_30 (X : zX) (nx0 z0 : Nat) (nz : Nat × Nat) : ((Option Nat) × (Option Nat) × Int32 × zH) ⊕ (Option Nat × zH) → Prop := z_PL (fun s => zV X 30 [(0, tA s.1), (1, tA s.2.1), (2, tI s.2.2.1)] [] s.2.2.2 nz.1 (nz.1 - nx0) (nz.2 - z0)) (z_P0Am X nx0 z0 nz)
theorem m_X4_readClause_c30  {x0 : Option Nat} {x1 : Option Nat} {x2 : Int32} {h : zH} {nx z : Nat} {x : ((Nat × Nat) × (((Option Nat) × (Option Nat) × Int32 × zH) ⊕ (Option Nat × zH)))} (hf : f_X4_readClause_c30 x0 x1 x2 h nx z = some x) : nx ≤ x.1.1 ∧ z ≤ x.1.2 := by
  unfold f_X4_readClause_c30 at hf
  refine z_ite_inv _ hf (fun _ hf => ?_) (fun _ hf => ?_)
  · obtain ⟨w9, hf9, e9⟩ := z_i1m_inv hf; clear hf; subst e9; have hf := hf9; clear hf9
    cases hf
    exact ⟨by (try dsimp only at *); omega, by (try dsimp only at *); omega⟩
  · obtain ⟨_, _, hf⟩ := z_bind_inv hf
    obtain ⟨_, _, _, hf⟩ := z_b2_inv hf
    refine z_ite_inv _ hf (fun _ hf => ?_) (fun _ hf => ?_)
    · obtain ⟨w9, hf9, e9⟩ := z_i1m_inv hf; clear hf; subst e9; have hf := hf9; clear hf9
      cases hf
      exact ⟨by (try dsimp only at *); omega, by (try dsimp only at *); omega⟩
    · obtain ⟨_, _, hf⟩ := z_bind_inv hf
      obtain ⟨_, _, hf⟩ := z_bind_inv hf
      cases hf
      exact ⟨by (try dsimp only at *); omega, by (try dsimp only at *); omega⟩
set_option maxHeartbeats 4000000 in
set_option maxRecDepth 100000 in
theorem v_X4_readClause_c30 {X : zX} {cc0 ss0 nx0 z0 : Nat} (K : z_Ok X cX4_readClause (some (.object "ThinkingArms$Clause")) RX4 "readClause") (hX : z_Xo X (rm_X4_readClause cc0 ss0) 3) {x0 : Option Nat} {x1 : Option Nat} {x2 : Int32} {h : zH} {nx z : Nat} (hm : nx0 ≤ nx ∧ z0 ≤ z) {x : ((Nat × Nat) × (((Option Nat) × (Option Nat) × Int32 × zH) ⊕ (Option Nat × zH)))} (hf : f_X4_readClause_c30 x0 x1 x2 h nx z = some x) (hp : z_Pm X nx0 z0 (P_X4_readClause_30 X nx0 z0) x) : zV X 30 [(0, tA x0), (1, tA x1), (2, tI x2)] [] h nx (nx - nx0) (z - z0) := by
  have mB := m_X4_readClause_c30 hf
  unfold f_X4_readClause_c30 at hf
  refine zv_iload_n K 2 eX4_readClause_30 rfl ?_
  refine zv_iconst K (4 : Int32) eX4_readClause_31 (by decide) ?_
  refine zv_icmp_ge K 56 eX4_readClause_32 (by decide) hf (fun _ hf => ?_) (fun _ hf => ?_)
  · obtain ⟨w9, hf9, e9⟩ := z_i1m_inv hf; clear hf; subst e9; have hf := hf9; clear hf9
    have hp : z_Pm X nx0 z0 (z_P0Am X nx0 z0) _ := hp
    refine zv_aload_n K 1 eX4_readClause_56 rfl ?_
    have e9 := Option.some.inj hf; subst e9
    exact zv_aret K eX4_readClause_57 hp.2
  · refine zv_aload_n K 0 eX4_readClause_35 rfl ?_
    refine zv_gI K eX4_readClause_36 fl_X4_44 hf (fun v1 hf => ?_)
    obtain ⟨v3, h2, eh2, hf⟩ := z_b2_inv hf
    refine zv_cS0 K [tI v1] [] eX4_readClause_39 lk_X4_68 md_X4_isAct st_X4_isAct rfl rfl (Nat.le_of_ble_eq_true rfl) (c_X4_isAct X.1.2.1 X.2.2.1 eh2) rfl rfl ⟨z_le (z_fr hX) (by exact Nat.le_of_ble_eq_true rfl), z_le (z_lo hX) (by exact Nat.le_of_ble_eq_true rfl)⟩ (z_bd hp mB) ?_
    refine zv_if_eq K 56 eX4_readClause_42 (by decide) hf (fun _ hf => ?_) (fun _ hf => ?_)
    · obtain ⟨w9, hf9, e9⟩ := z_i1m_inv hf; clear hf; subst e9; have hf := hf9; clear hf9
      have hp : z_Pm X nx0 z0 (z_P0Am X nx0 z0) _ := hp
      refine zv_aload_n K 1 eX4_readClause_56 rfl ?_
      have e9 := Option.some.inj hf; subst e9
      exact zv_aret K eX4_readClause_57 hp.2
    · refine zv_aload_n K 0 eX4_readClause_45 rfl ?_
      refine zv_aload_n K 1 eX4_readClause_46 rfl ?_
      obtain ⟨q4, hq4, hf⟩ := z_bind_inv hf
      obtain ⟨h5, eh5, hf⟩ := z_bind_inv hf
      refine zv_cV0 K [tA x1] [] eX4_readClause_47 lk_X4_64 md_X4_readAct im_X4_readAct sl_X4_readAct rfl rfl rfl rfl (Nat.le_of_ble_eq_true rfl) hq4 (c_X4_readAct X.1.2.1 X.2.2.1 eh5) rfl rfl ⟨z_le (z_fr hX) (by exact Nat.le_of_ble_eq_true rfl), z_le (z_lo hX) (by exact Nat.le_of_ble_eq_true rfl)⟩ (z_bd hp mB) ?_
      refine zv_iinc K (x2 + (1 : Int32)) 2 [(2, tI (x2 + (1 : Int32))), (0, tA x0), (1, tA x1)] eX4_readClause_50 rfl rfl (z_lt hX.2 (by decide)) rfl ?_
      refine zv_goto K 30 eX4_readClause_53 (by decide) ?_
      cases hf
      exact zv_sub [1, 2, 0] rfl (show zV X 30 [(0, tA x0), (1, tA x1), (2, tI (x2 + (1 : Int32)))] [] h5 nx (nx - nx0) (z - z0) from hp.2)
theorem m_X4_readClause_b30  {x0 : Option Nat} {x1 : Option Nat} {x2 : Int32} {h : zH} {nx z : Nat} {x : ((Nat × Nat) × (Option Nat × zH))} (hf : f_X4_readClause_b30 x0 x1 x2 h nx z = some x) : nx ≤ x.1.1 ∧ z ≤ x.1.2 :=
  z_itmo (body := fun q : (Nat × Nat) × ((Option Nat) × (Option Nat) × Int32 × zH) => f_X4_readClause_c30 q.2.1 q.2.2.1 q.2.2.2.1 q.2.2.2.2 q.1.1 q.1.2) (nz := (nx, z)) (fun s nz y hb => m_X4_readClause_c30 hb) hf
theorem v_X4_readClause_b30 {X : zX} {cc0 ss0 nx0 z0 : Nat} (K : z_Ok X cX4_readClause (some (.object "ThinkingArms$Clause")) RX4 "readClause") (hX : z_Xo X (rm_X4_readClause cc0 ss0) 3) {x0 : Option Nat} {x1 : Option Nat} {x2 : Int32} {h : zH} {nx z : Nat} (hm : nx0 ≤ nx ∧ z0 ≤ z) {x : ((Nat × Nat) × (Option Nat × zH))} (hf : f_X4_readClause_b30 x0 x1 x2 h nx z = some x) (hp : z_Pm X nx0 z0 (z_P0Am X nx0 z0) x) : zV X 30 [(0, tA x0), (1, tA x1), (2, tI x2)] [] h nx (nx - nx0) (z - z0) :=
  z_itm (body := fun q : (Nat × Nat) × ((Option Nat) × (Option Nat) × Int32 × zH) => f_X4_readClause_c30 q.2.1 q.2.2.1 q.2.2.2.1 q.2.2.2.2 q.1.1 q.1.2) (nz := (nx, z)) (P := fun s nz => zV X 30 [(0, tA s.1), (1, tA s.2.1), (2, tI s.2.2.1)] [] s.2.2.2 nz.1 (nz.1 - nx0) (nz.2 - z0)) (Q := z_P0Am X nx0 z0) (fun s nz y hm hb hy => v_X4_readClause_c30 K hX hm hb hy) (fun s nz y hb => m_X4_readClause_c30 hb) hm hp hf
theorem m_X4_readClause_b14  {x0 : Option Nat} {x1 : Option Nat} {s0 : Option Nat} {s1 : Option Nat} {h : zH} {nx z : Nat} {x : ((Nat × Nat) × (Option Nat × zH))} (hf : f_X4_readClause_b14 x0 x1 s0 s1 h nx z = some x) : nx ≤ x.1.1 ∧ z ≤ x.1.2 := by
  unfold f_X4_readClause_b14 at hf
  obtain ⟨_, _, hf⟩ := z_bind_inv hf
  obtain ⟨_, _, hf⟩ := z_bind_inv hf
  obtain ⟨_, _, hf⟩ := z_bind_inv hf
  obtain ⟨_, _, hf⟩ := z_bind_inv hf
  obtain ⟨_, _, hf⟩ := z_bind_inv hf
  have m9 := m_X4_readClause_b30 hf
  exact ⟨by (try dsimp only at *); omega, by (try dsimp only at *); omega⟩
set_option maxHeartbeats 4000000 in
set_option maxRecDepth 100000 in
theorem v_X4_readClause_b14 {X : zX} {cc0 ss0 nx0 z0 : Nat} (K : z_Ok X cX4_readClause (some (.object "ThinkingArms$Clause")) RX4 "readClause") (hX : z_Xo X (rm_X4_readClause cc0 ss0) 3) {x0 : Option Nat} {x1 : Option Nat} {s0 : Option Nat} {s1 : Option Nat} {h : zH} {nx z : Nat} (hm : nx0 ≤ nx ∧ z0 ≤ z) {x : ((Nat × Nat) × (Option Nat × zH))} (hf : f_X4_readClause_b14 x0 x1 s0 s1 h nx z = some x) (hp : z_Pm X nx0 z0 (z_P0Am X nx0 z0) x) : zV X 14 [(0, tA x0), (1, tA x1)] [tA s1, tA s0] h nx (nx - nx0) (z - z0) := by
  have mB := m_X4_readClause_b14 hf
  unfold f_X4_readClause_b14 at hf
  refine zv_pA K eX4_readClause_14 fl_X4_57 ff_2_0 (Or.inl ⟨_, rfl⟩) hf (fun h1 hf => ?_)
  refine zv_aload_n K 0 eX4_readClause_17 rfl ?_
  refine zv_bipush K (58 : Int32) eX4_readClause_18 (by decide) ?_
  obtain ⟨q2, hq2, hf⟩ := z_bind_inv hf
  obtain ⟨h3, eh3, hf⟩ := z_bind_inv hf
  refine zv_cV0 K [tI (58 : Int32)] [] eX4_readClause_20 lk_X4_61 md_X4_need im_X4_need sl_X4_need rfl rfl rfl rfl (Nat.le_of_ble_eq_true rfl) hq2 (c_X4_need X.1.2.1 X.2.2.1 eh3) rfl rfl ⟨z_le (z_fr hX) (by exact Nat.le_of_ble_eq_true rfl), z_le (z_lo hX) (by exact Nat.le_of_ble_eq_true rfl)⟩ (z_bd hp mB) ?_
  refine zv_aload_n K 0 eX4_readClause_23 rfl ?_
  refine zv_aload_n K 1 eX4_readClause_24 rfl ?_
  obtain ⟨q4, hq4, hf⟩ := z_bind_inv hf
  obtain ⟨h5, eh5, hf⟩ := z_bind_inv hf
  refine zv_cV0 K [tA x1] [] eX4_readClause_25 lk_X4_64 md_X4_readAct im_X4_readAct sl_X4_readAct rfl rfl rfl rfl (Nat.le_of_ble_eq_true rfl) hq4 (c_X4_readAct X.1.2.1 X.2.2.1 eh5) rfl rfl ⟨z_le (z_fr hX) (by exact Nat.le_of_ble_eq_true rfl), z_le (z_lo hX) (by exact Nat.le_of_ble_eq_true rfl)⟩ (z_bd hp mB) ?_
  refine zv_iconst K (1 : Int32) eX4_readClause_28 (by decide) ?_
  refine zv_istore_n K [(2, tI (1 : Int32)), (0, tA x0), (1, tA x1)] eX4_readClause_29 (z_lt hX.2 (by decide)) rfl ?_
  exact zv_sub [1, 2, 0] rfl (v_X4_readClause_b30 K hX (by omega) hf hp)
theorem m_X4_readClause_b7  {x0 : Option Nat} {s0 : Option Nat} {h : zH} {nx z : Nat} {x : ((Nat × Nat) × (Option Nat × zH))} (hf : f_X4_readClause_b7 x0 s0 h nx z = some x) : nx ≤ x.1.1 ∧ z ≤ x.1.2 := by
  unfold f_X4_readClause_b7 at hf
  obtain ⟨_, _, hf⟩ := z_bind_inv hf
  obtain ⟨n4, eh2, hf⟩ := z_bind_inv hf
  have mn4 := m_X4_readTest eh2
  have m9 := m_X4_readClause_b14 hf
  exact ⟨by (try dsimp only at *); omega, by (try dsimp only at *); omega⟩
set_option maxHeartbeats 4000000 in
set_option maxRecDepth 100000 in
theorem v_X4_readClause_b7 {X : zX} {cc0 ss0 nx0 z0 : Nat} (K : z_Ok X cX4_readClause (some (.object "ThinkingArms$Clause")) RX4 "readClause") (hX : z_Xo X (rm_X4_readClause cc0 ss0) 3) {x0 : Option Nat} {s0 : Option Nat} {h : zH} {nx z : Nat} (hm : nx0 ≤ nx ∧ z0 ≤ z) {x : ((Nat × Nat) × (Option Nat × zH))} (hf : f_X4_readClause_b7 x0 s0 h nx z = some x) (hp : z_Pm X nx0 z0 (z_P0Am X nx0 z0) x) : zV X 7 [(0, tA x0)] [tA s0] h nx (nx - nx0) (z - z0) := by
  have mB := m_X4_readClause_b7 hf
  unfold f_X4_readClause_b7 at hf
  refine zv_astore_n K [(1, tA s0), (0, tA x0)] eX4_readClause_7 (z_lt hX.2 (by decide)) rfl ?_
  refine zv_aload_n K 0 eX4_readClause_8 rfl ?_
  refine zv_aload_n K 1 eX4_readClause_9 rfl ?_
  refine zv_iconst K (0 : Int32) eX4_readClause_10 (by decide) ?_
  obtain ⟨q1, hq1, hf⟩ := z_bind_inv hf
  obtain ⟨n4, eh2, hf⟩ := z_bind_inv hf
  have mn4 := m_X4_readTest eh2
  have m9 := m_X4_readClause_b14 hf
  refine zv_cV1 K [tI (0 : Int32)] [tA s0] (n4.1.1 - nx0) (n4.1.2 - z0) eX4_readClause_11 lk_X4_53 md_X4_readTest im_X4_readTest sl_X4_readTest rfl rfl rfl rfl (Nat.le_of_ble_eq_true rfl) hq1 (c_X4_readTest X.1.2.1 X.2.2.1 eh2) rfl rfl ⟨z_le (z_fr hX) (by exact Nat.le_of_ble_eq_true rfl), z_le (z_lo hX) (by exact Nat.le_of_ble_eq_true rfl)⟩ (by omega) (by omega) (by omega) (z_bd hp m9) ?_
  exact zv_sub [1, 0] rfl (v_X4_readClause_b14 K hX (by omega) hf hp)
theorem m_X4_readClause_b3  {x0 : Option Nat} {s0 : Option Nat} {h : zH} {nx z : Nat} {x : ((Nat × Nat) × (Option Nat × zH))} (hf : f_X4_readClause_b3 x0 s0 h nx z = some x) : nx ≤ x.1.1 ∧ z ≤ x.1.2 := by
  unfold f_X4_readClause_b3 at hf
  obtain ⟨_, _, hf⟩ := z_bind_inv hf
  obtain ⟨n3, eh2, hf⟩ := z_bind_inv hf
  have mn3 := m_X2_init eh2
  have m9 := m_X4_readClause_b7 hf
  exact ⟨by (try dsimp only at *); omega, by (try dsimp only at *); omega⟩
set_option maxHeartbeats 4000000 in
set_option maxRecDepth 100000 in
theorem v_X4_readClause_b3 {X : zX} {cc0 ss0 nx0 z0 : Nat} (K : z_Ok X cX4_readClause (some (.object "ThinkingArms$Clause")) RX4 "readClause") (hX : z_Xo X (rm_X4_readClause cc0 ss0) 3) {x0 : Option Nat} {s0 : Option Nat} {h : zH} {nx z : Nat} (hm : nx0 ≤ nx ∧ z0 ≤ z) {x : ((Nat × Nat) × (Option Nat × zH))} (hf : f_X4_readClause_b3 x0 s0 h nx z = some x) (hp : z_Pm X nx0 z0 (z_P0Am X nx0 z0) x) : zV X 3 [(0, tA x0)] [tA s0] h nx (nx - nx0) (z - z0) := by
  have mB := m_X4_readClause_b3 hf
  unfold f_X4_readClause_b3 at hf
  refine zv_dup K eX4_readClause_3 rfl ?_
  obtain ⟨q1, hq1, hf⟩ := z_bind_inv hf
  obtain ⟨n3, eh2, hf⟩ := z_bind_inv hf
  have mn3 := m_X2_init eh2
  have m9 := m_X4_readClause_b7 hf
  refine zv_cI1 K [] [tA s0] (n3.1.1 - nx0) (n3.1.2 - z0) eX4_readClause_4 lk_X4_52 md_X2_init im_X2_init rfl rfl rfl (Nat.le_of_ble_eq_true rfl) hq1 (c_X2_init X.1.2.1 X.2.2.1 eh2) rfl rfl ⟨z_le (z_fr hX) (by exact Nat.le_of_ble_eq_true rfl), z_le (z_lo hX) (by exact Nat.le_of_ble_eq_true rfl)⟩ (by omega) (by omega) (by omega) (z_bd hp m9) ?_
  exact zv_sub [0] rfl (v_X4_readClause_b7 K hX (by omega) hf hp)
theorem m_X4_readClause  {x0 : Option Nat} {h : zH} {nx z : Nat} {x : ((Nat × Nat) × (Option Nat × zH))} (hf : f_X4_readClause x0 h nx z = some x) : nx ≤ x.1.1 ∧ z ≤ x.1.2 := by
  unfold f_X4_readClause at hf
  have m9 := m_X4_readClause_b3 hf
  exact ⟨by (try dsimp only at *); omega, by (try dsimp only at *); omega⟩
set_option maxHeartbeats 4000000 in
set_option maxRecDepth 100000 in
theorem v_X4_readClause {X : zX} {cc0 ss0 nx0 z0 : Nat} (K : z_Ok X cX4_readClause (some (.object "ThinkingArms$Clause")) RX4 "readClause") (hX : z_Xo X (rm_X4_readClause cc0 ss0) 3) {x0 : Option Nat} {h : zH} {nx z : Nat} (hm : nx0 ≤ nx ∧ z0 ≤ z) {x : ((Nat × Nat) × (Option Nat × zH))} (hf : f_X4_readClause x0 h nx z = some x) (hp : z_Pm X nx0 z0 (z_P0Am X nx0 z0) x) : zV X 0 [(0, tA x0)] [] h nx (nx - nx0) (z - z0) := by
  have mB := m_X4_readClause hf
  unfold f_X4_readClause at hf
  have m9 := m_X4_readClause_b3 hf
  refine zv_new K 2 _ [tA none, tA none, tA none, tI 0] (nx + 1 - nx0) (z + 4 - z0) eX4_readClause_0 rfl cl_X4_50 nb_2 nt_2 df_2 (by omega) (by show _ + 4 = _; omega) (z_bd hp m9) ?_
  exact zv_sub [0] rfl (v_X4_readClause_b3 K hX (by omega) hf hp)
theorem c_X4_readClause (l : Launch) (G : zG) {x0 : Option Nat} {h : zH} {nx z : Nat} {x : (Nat × Nat) × (Option Nat × zH)} (hf : f_X4_readClause x0 h nx z = some x) : z_Ct l G yX4_readClause cX4_readClause 3 (some (.object "ThinkingArms$Clause")) (rm_X4_readClause (x.1.1 - nx) (x.1.2 - z)) [tA x0] h nx (some (tA x.2.1)) x.2.2 x.1.1 (x.1.1 - nx) (x.1.2 - z) :=
  z_enter [(0, tA x0)] (by decide +kernel) (Nat.le_of_ble_eq_true rfl) rfl (fun X hl hR hG hL K hq => by
    subst hl; subst hG
    have mm := m_X4_readClause hf
    have := v_X4_readClause K ⟨hR, hL⟩ (nx0 := nx) (z0 := z) ⟨Nat.le_refl _, Nat.le_refl _⟩ hf ⟨by rw [hR]; (try dsimp only [rm_X4_readClause]); omega, hq⟩
    rw [Nat.sub_self, Nat.sub_self] at this
    exact this)
def P_X4_read_28 (X : zX) (nx0 z0 : Nat) (nz : Nat × Nat) : ((Option Nat) × (Option Nat) × zH) ⊕ (Option Nat × zH) → Prop := z_PL (fun s => zV X 28 [(0, tA s.1), (3, tA s.2.1)] [] s.2.2 nz.1 (nz.1 - nx0) (nz.2 - z0)) (z_P0Am X nx0 z0 nz)
theorem m_X4_read_b81  {x0 : Option Nat} {x3 : Option Nat} {h : zH} {nx z : Nat} {x : ((Nat × Nat) × (Option Nat × zH))} (hf : f_X4_read_b81 x0 x3 h nx z = some x) : nx ≤ x.1.1 ∧ z ≤ x.1.2 := by
  unfold f_X4_read_b81 at hf
  obtain ⟨_, _, hf⟩ := z_bind_inv hf
  refine z_ite_inv _ hf (fun _ hf => ?_) (fun _ hf => ?_)
  · cases hf
    exact ⟨by (try dsimp only at *); omega, by (try dsimp only at *); omega⟩
  · cases hf
    exact ⟨by (try dsimp only at *); omega, by (try dsimp only at *); omega⟩
set_option maxHeartbeats 4000000 in
set_option maxRecDepth 100000 in
theorem v_X4_read_b81 {X : zX} {cc0 ss0 nx0 z0 : Nat} (K : z_Ok X cX4_read (some (.object "ThinkingArms$Rules")) RX4 "read") (hX : z_Xo X (rm_X4_read cc0 ss0) 4) {x0 : Option Nat} {x3 : Option Nat} {h : zH} {nx z : Nat} (hm : nx0 ≤ nx ∧ z0 ≤ z) {x : ((Nat × Nat) × (Option Nat × zH))} (hf : f_X4_read_b81 x0 x3 h nx z = some x) (hp : z_Pm X nx0 z0 (z_P0Am X nx0 z0) x) : zV X 81 [(0, tA x0), (3, tA x3)] [] h nx (nx - nx0) (z - z0) := by
  have mB := m_X4_read_b81 hf
  unfold f_X4_read_b81 at hf
  refine zv_aload_n K 0 eX4_read_81 rfl ?_
  refine zv_gI K eX4_read_82 fl_X4_19 hf (fun v1 hf => ?_)
  refine zv_iconst K (-1 : Int32) eX4_read_85 (by decide) ?_
  refine zv_icmp_ne K 93 eX4_read_86 (by decide) hf (fun _ hf => ?_) (fun _ hf => ?_)
  · refine zv_anull K eX4_read_93 ?_
    have e9 := Option.some.inj hf; subst e9
    exact zv_aret K eX4_read_94 hp.2
  · refine zv_aload_n K 1 eX4_read_89 rfl ?_
    refine zv_goto K 94 eX4_read_90 (by decide) ?_
    have e9 := Option.some.inj hf; subst e9
    exact zv_aret K eX4_read_94 hp.2
theorem m_X4_read_b69  {x0 : Option Nat} {x3 : Option Nat} {h : zH} {nx z : Nat} {x : ((Nat × Nat) × (Option Nat × zH))} (hf : f_X4_read_b69 x0 x3 h nx z = some x) : nx ≤ x.1.1 ∧ z ≤ x.1.2 := by
  unfold f_X4_read_b69 at hf
  obtain ⟨_, _, hf⟩ := z_bind_inv hf
  refine z_ite_inv _ hf (fun _ hf => ?_) (fun _ hf => ?_)
  · have m9 := m_X4_read_b81 hf
    exact ⟨by (try dsimp only at *); omega, by (try dsimp only at *); omega⟩
  · obtain ⟨_, _, hf⟩ := z_bind_inv hf
    obtain ⟨_, _, hf⟩ := z_bind_inv hf
    have m9 := m_X4_read_b81 hf
    exact ⟨by (try dsimp only at *); omega, by (try dsimp only at *); omega⟩
set_option maxHeartbeats 4000000 in
set_option maxRecDepth 100000 in
theorem v_X4_read_b69 {X : zX} {cc0 ss0 nx0 z0 : Nat} (K : z_Ok X cX4_read (some (.object "ThinkingArms$Rules")) RX4 "read") (hX : z_Xo X (rm_X4_read cc0 ss0) 4) {x0 : Option Nat} {x3 : Option Nat} {h : zH} {nx z : Nat} (hm : nx0 ≤ nx ∧ z0 ≤ z) {x : ((Nat × Nat) × (Option Nat × zH))} (hf : f_X4_read_b69 x0 x3 h nx z = some x) (hp : z_Pm X nx0 z0 (z_P0Am X nx0 z0) x) : zV X 69 [(0, tA x0), (3, tA x3)] [] h nx (nx - nx0) (z - z0) := by
  have mB := m_X4_read_b69 hf
  unfold f_X4_read_b69 at hf
  refine zv_aload_n K 0 eX4_read_69 rfl ?_
  refine zv_gI K eX4_read_70 fl_X4_44 hf (fun v1 hf => ?_)
  refine zv_iconst K (-1 : Int32) eX4_read_73 (by decide) ?_
  refine zv_icmp_eq K 81 eX4_read_74 (by decide) hf (fun _ hf => ?_) (fun _ hf => ?_)
  · exact zv_sub [0, 1] rfl (v_X4_read_b81 K hX (by omega) hf hp)
  · refine zv_aload_n K 0 eX4_read_77 rfl ?_
    obtain ⟨q2, hq2, hf⟩ := z_bind_inv hf
    obtain ⟨h3, eh3, hf⟩ := z_bind_inv hf
    refine zv_cV0 K [] [] eX4_read_78 lk_X4_47 md_X4_fail im_X4_fail sl_X4_fail rfl rfl rfl rfl (Nat.le_of_ble_eq_true rfl) hq2 (c_X4_fail X.1.2.1 X.2.2.1 eh3) rfl rfl ⟨z_le (z_fr hX) (by exact Nat.le_of_ble_eq_true rfl), z_le (z_lo hX) (by exact Nat.le_of_ble_eq_true rfl)⟩ (z_bd hp mB) ?_
    exact zv_sub [0, 1] rfl (v_X4_read_b81 K hX (by omega) hf hp)
theorem m_X4_read_b40  {x0 : Option Nat} {x3 : Option Nat} {s0 : Option Nat} {s1 : Int32} {s2 : Option Nat} {h : zH} {nx z : Nat} {x : ((Nat × Nat) × (((Option Nat) × (Option Nat) × zH) ⊕ (Option Nat × zH)))} (hf : f_X4_read_b40 x0 x3 s0 s1 s2 h nx z = some x) : nx ≤ x.1.1 ∧ z ≤ x.1.2 := by
  unfold f_X4_read_b40 at hf
  obtain ⟨_, _, hf⟩ := z_bind_inv hf
  obtain ⟨_, _, hf⟩ := z_bind_inv hf
  obtain ⟨_, _, hf⟩ := z_bind_inv hf
  obtain ⟨_, _, hf⟩ := z_bind_inv hf
  refine z_ite_inv _ hf (fun _ hf => ?_) (fun _ hf => ?_)
  · obtain ⟨w9, hf9, e9⟩ := z_i1m_inv hf; clear hf; subst e9; have hf := hf9; clear hf9
    have m9 := m_X4_read_b69 hf
    exact ⟨by (try dsimp only at *); omega, by (try dsimp only at *); omega⟩
  · obtain ⟨_, _, hf⟩ := z_bind_inv hf
    obtain ⟨_, _, _, hf⟩ := z_b2_inv hf
    refine z_ite_inv _ hf (fun _ hf => ?_) (fun _ hf => ?_)
    · obtain ⟨w9, hf9, e9⟩ := z_i1m_inv hf; clear hf; subst e9; have hf := hf9; clear hf9
      have m9 := m_X4_read_b69 hf
      exact ⟨by (try dsimp only at *); omega, by (try dsimp only at *); omega⟩
    · cases hf
      exact ⟨by (try dsimp only at *); omega, by (try dsimp only at *); omega⟩
set_option maxHeartbeats 4000000 in
set_option maxRecDepth 100000 in
theorem v_X4_read_b40 {X : zX} {cc0 ss0 nx0 z0 : Nat} (K : z_Ok X cX4_read (some (.object "ThinkingArms$Rules")) RX4 "read") (hX : z_Xo X (rm_X4_read cc0 ss0) 4) {x0 : Option Nat} {x3 : Option Nat} {s0 : Option Nat} {s1 : Int32} {s2 : Option Nat} {h : zH} {nx z : Nat} (hm : nx0 ≤ nx ∧ z0 ≤ z) {x : ((Nat × Nat) × (((Option Nat) × (Option Nat) × zH) ⊕ (Option Nat × zH)))} (hf : f_X4_read_b40 x0 x3 s0 s1 s2 h nx z = some x) (hp : z_Pm X nx0 z0 (P_X4_read_28 X nx0 z0) x) : zV X 40 [(0, tA x0), (3, tA x3)] [tA s2, tI s1, tA s0] h nx (nx - nx0) (z - z0) := by
  have mB := m_X4_read_b40 hf
  unfold f_X4_read_b40 at hf
  refine zv_sA K eX4_read_40 hf (fun h1 hf => ?_)
  refine zv_aload_n K 1 eX4_read_41 rfl ?_
  refine zv_dup K eX4_read_42 rfl ?_
  refine zv_gI K eX4_read_43 fl_X4_33 hf (fun v2 hf => ?_)
  refine zv_iconst K (1 : Int32) eX4_read_46 (by decide) ?_
  refine zv_iadd K eX4_read_47 ?_
  refine zv_pI K eX4_read_48 fl_X4_33 ff_5_1 rfl hf (fun h3 hf => ?_)
  refine zv_aload_n K 1 eX4_read_51 rfl ?_
  refine zv_gI K eX4_read_52 fl_X4_33 hf (fun v4 hf => ?_)
  refine zv_bipush K (6 : Int32) eX4_read_55 (by decide) ?_
  refine zv_icmp_ge K 69 eX4_read_57 (by decide) hf (fun _ hf => ?_) (fun _ hf => ?_)
  · obtain ⟨w9, hf9, e9⟩ := z_i1m_inv hf; clear hf; subst e9; have hf := hf9; clear hf9
    have hp : z_Pm X nx0 z0 (z_P0Am X nx0 z0) _ := hp
    exact zv_sub [0, 1] rfl (v_X4_read_b69 K hX (by omega) hf hp)
  · refine zv_aload_n K 0 eX4_read_60 rfl ?_
    refine zv_bipush K (59 : Int32) eX4_read_61 (by decide) ?_
    obtain ⟨q5, hq5, hf⟩ := z_bind_inv hf
    obtain ⟨v7, h6, eh6, hf⟩ := z_b2_inv hf
    refine zv_cV0 K [tI (59 : Int32)] [] eX4_read_63 lk_X4_40 md_X4_takes im_X4_takes sl_X4_takes rfl rfl rfl rfl (Nat.le_of_ble_eq_true rfl) hq5 (c_X4_takes X.1.2.1 X.2.2.1 eh6) rfl rfl ⟨z_le (z_fr hX) (by exact Nat.le_of_ble_eq_true rfl), z_le (z_lo hX) (by exact Nat.le_of_ble_eq_true rfl)⟩ (z_bd hp mB) ?_
    refine zv_if_ne K 28 eX4_read_66 (by decide) hf (fun _ hf => ?_) (fun _ hf => ?_)
    · cases hf
      exact zv_sub [0, 1] rfl (show zV X 28 [(0, tA x0), (3, tA x3)] [] h6 nx (nx - nx0) (z - z0) from hp.2)
    · obtain ⟨w9, hf9, e9⟩ := z_i1m_inv hf; clear hf; subst e9; have hf := hf9; clear hf9
      have hp : z_Pm X nx0 z0 (z_P0Am X nx0 z0) _ := hp
      exact zv_sub [0, 1] rfl (v_X4_read_b69 K hX (by omega) hf hp)
theorem m_X4_read_c28  {x0 : Option Nat} {x3 : Option Nat} {h : zH} {nx z : Nat} {x : ((Nat × Nat) × (((Option Nat) × (Option Nat) × zH) ⊕ (Option Nat × zH)))} (hf : f_X4_read_c28 x0 x3 h nx z = some x) : nx ≤ x.1.1 ∧ z ≤ x.1.2 := by
  unfold f_X4_read_c28 at hf
  obtain ⟨_, _, hf⟩ := z_bind_inv hf
  obtain ⟨_, _, hf⟩ := z_bind_inv hf
  obtain ⟨_, _, hf⟩ := z_bind_inv hf
  obtain ⟨n6, eh4, hf⟩ := z_bind_inv hf
  have mn6 := m_X4_readClause eh4
  have m9 := m_X4_read_b40 hf
  exact ⟨by (try dsimp only at *); omega, by (try dsimp only at *); omega⟩
set_option maxHeartbeats 4000000 in
set_option maxRecDepth 100000 in
theorem v_X4_read_c28 {X : zX} {cc0 ss0 nx0 z0 : Nat} (K : z_Ok X cX4_read (some (.object "ThinkingArms$Rules")) RX4 "read") (hX : z_Xo X (rm_X4_read cc0 ss0) 4) {x0 : Option Nat} {x3 : Option Nat} {h : zH} {nx z : Nat} (hm : nx0 ≤ nx ∧ z0 ≤ z) {x : ((Nat × Nat) × (((Option Nat) × (Option Nat) × zH) ⊕ (Option Nat × zH)))} (hf : f_X4_read_c28 x0 x3 h nx z = some x) (hp : z_Pm X nx0 z0 (P_X4_read_28 X nx0 z0) x) : zV X 28 [(0, tA x0), (3, tA x3)] [] h nx (nx - nx0) (z - z0) := by
  have mB := m_X4_read_c28 hf
  unfold f_X4_read_c28 at hf
  refine zv_aload_n K 1 eX4_read_28 rfl ?_
  refine zv_gA K eX4_read_29 fl_X4_29 hf (fun v1 hf => ?_)
  refine zv_aload_n K 1 eX4_read_32 rfl ?_
  refine zv_gI K eX4_read_33 fl_X4_33 hf (fun v2 hf => ?_)
  refine zv_aload_n K 0 eX4_read_36 rfl ?_
  obtain ⟨q3, hq3, hf⟩ := z_bind_inv hf
  obtain ⟨n6, eh4, hf⟩ := z_bind_inv hf
  have mn6 := m_X4_readClause eh4
  have m9 := m_X4_read_b40 hf
  refine zv_cV1 K [] [tI v2, tA v1] (n6.1.1 - nx0) (n6.1.2 - z0) eX4_read_37 lk_X4_36 md_X4_readClause im_X4_readClause sl_X4_readClause rfl rfl rfl rfl (Nat.le_of_ble_eq_true rfl) hq3 (c_X4_readClause X.1.2.1 X.2.2.1 eh4) rfl rfl ⟨z_le (z_fr hX) (by exact Nat.le_of_ble_eq_true rfl), z_le (z_lo hX) (by exact Nat.le_of_ble_eq_true rfl)⟩ (by omega) (by omega) (by omega) (z_bd hp m9) ?_
  exact zv_sub [0, 1] rfl (v_X4_read_b40 K hX (by omega) hf hp)
theorem m_X4_read_b28  {x0 : Option Nat} {x3 : Option Nat} {h : zH} {nx z : Nat} {x : ((Nat × Nat) × (Option Nat × zH))} (hf : f_X4_read_b28 x0 x3 h nx z = some x) : nx ≤ x.1.1 ∧ z ≤ x.1.2 :=
  z_itmo (body := fun q : (Nat × Nat) × ((Option Nat) × (Option Nat) × zH) => f_X4_read_c28 q.2.1 q.2.2.1 q.2.2.2 q.1.1 q.1.2) (nz := (nx, z)) (fun s nz y hb => m_X4_read_c28 hb) hf
theorem v_X4_read_b28 {X : zX} {cc0 ss0 nx0 z0 : Nat} (K : z_Ok X cX4_read (some (.object "ThinkingArms$Rules")) RX4 "read") (hX : z_Xo X (rm_X4_read cc0 ss0) 4) {x0 : Option Nat} {x3 : Option Nat} {h : zH} {nx z : Nat} (hm : nx0 ≤ nx ∧ z0 ≤ z) {x : ((Nat × Nat) × (Option Nat × zH))} (hf : f_X4_read_b28 x0 x3 h nx z = some x) (hp : z_Pm X nx0 z0 (z_P0Am X nx0 z0) x) : zV X 28 [(0, tA x0), (3, tA x3)] [] h nx (nx - nx0) (z - z0) :=
  z_itm (body := fun q : (Nat × Nat) × ((Option Nat) × (Option Nat) × zH) => f_X4_read_c28 q.2.1 q.2.2.1 q.2.2.2 q.1.1 q.1.2) (nz := (nx, z)) (P := fun s nz => zV X 28 [(0, tA s.1), (3, tA s.2.1)] [] s.2.2 nz.1 (nz.1 - nx0) (nz.2 - z0)) (Q := z_P0Am X nx0 z0) (fun s nz y hm hb hy => v_X4_read_c28 K hX hm hb hy) (fun s nz y hb => m_X4_read_c28 hb) hm hp hf
theorem m_X4_read_b27  {x0 : Option Nat} {s0 : Option Nat} {h : zH} {nx z : Nat} {x : ((Nat × Nat) × (Option Nat × zH))} (hf : f_X4_read_b27 x0 s0 h nx z = some x) : nx ≤ x.1.1 ∧ z ≤ x.1.2 := by
  unfold f_X4_read_b27 at hf
  have m9 := m_X4_read_b28 hf
  exact ⟨by (try dsimp only at *); omega, by (try dsimp only at *); omega⟩
set_option maxHeartbeats 4000000 in
set_option maxRecDepth 100000 in
theorem v_X4_read_b27 {X : zX} {cc0 ss0 nx0 z0 : Nat} (K : z_Ok X cX4_read (some (.object "ThinkingArms$Rules")) RX4 "read") (hX : z_Xo X (rm_X4_read cc0 ss0) 4) {x0 : Option Nat} {s0 : Option Nat} {h : zH} {nx z : Nat} (hm : nx0 ≤ nx ∧ z0 ≤ z) {x : ((Nat × Nat) × (Option Nat × zH))} (hf : f_X4_read_b27 x0 s0 h nx z = some x) (hp : z_Pm X nx0 z0 (z_P0Am X nx0 z0) x) : zV X 27 [(0, tA x0)] [tA s0] h nx (nx - nx0) (z - z0) := by
  have mB := m_X4_read_b27 hf
  unfold f_X4_read_b27 at hf
  refine zv_astore_n K [(3, tA s0), (0, tA x0)] eX4_read_27 (z_lt hX.2 (by decide)) rfl ?_
  exact zv_sub [1, 0] rfl (v_X4_read_b28 K hX (by omega) hf hp)
theorem m_X4_read_b23  {x0 : Option Nat} {s0 : Option Nat} {h : zH} {nx z : Nat} {x : ((Nat × Nat) × (Option Nat × zH))} (hf : f_X4_read_b23 x0 s0 h nx z = some x) : nx ≤ x.1.1 ∧ z ≤ x.1.2 := by
  unfold f_X4_read_b23 at hf
  obtain ⟨_, _, hf⟩ := z_bind_inv hf
  obtain ⟨n3, eh2, hf⟩ := z_bind_inv hf
  have mn3 := m_X5_init eh2
  have m9 := m_X4_read_b27 hf
  exact ⟨by (try dsimp only at *); omega, by (try dsimp only at *); omega⟩
set_option maxHeartbeats 4000000 in
set_option maxRecDepth 100000 in
theorem v_X4_read_b23 {X : zX} {cc0 ss0 nx0 z0 : Nat} (K : z_Ok X cX4_read (some (.object "ThinkingArms$Rules")) RX4 "read") (hX : z_Xo X (rm_X4_read cc0 ss0) 4) {x0 : Option Nat} {s0 : Option Nat} {h : zH} {nx z : Nat} (hm : nx0 ≤ nx ∧ z0 ≤ z) {x : ((Nat × Nat) × (Option Nat × zH))} (hf : f_X4_read_b23 x0 s0 h nx z = some x) (hp : z_Pm X nx0 z0 (z_P0Am X nx0 z0) x) : zV X 23 [(0, tA x0)] [tA s0] h nx (nx - nx0) (z - z0) := by
  have mB := m_X4_read_b23 hf
  unfold f_X4_read_b23 at hf
  refine zv_dup K eX4_read_23 rfl ?_
  obtain ⟨q1, hq1, hf⟩ := z_bind_inv hf
  obtain ⟨n3, eh2, hf⟩ := z_bind_inv hf
  have mn3 := m_X5_init eh2
  have m9 := m_X4_read_b27 hf
  refine zv_cI1 K [] [tA s0] (n3.1.1 - nx0) (n3.1.2 - z0) eX4_read_24 lk_X4_28 md_X5_init im_X5_init rfl rfl rfl (Nat.le_of_ble_eq_true rfl) hq1 (c_X5_init X.1.2.1 X.2.2.1 eh2) rfl rfl ⟨z_le (z_fr hX) (by exact Nat.le_of_ble_eq_true rfl), z_le (z_lo hX) (by exact Nat.le_of_ble_eq_true rfl)⟩ (by omega) (by omega) (by omega) (z_bd hp m9) ?_
  exact zv_sub [0] rfl (v_X4_read_b27 K hX (by omega) hf hp)
theorem m_X4_read  {x0 : Option Nat} {x1 : Option Nat} {x2 : Int32} {h : zH} {nx z : Nat} {x : ((Nat × Nat) × (Option Nat × zH))} (hf : f_X4_read x0 x1 x2 h nx z = some x) : nx ≤ x.1.1 ∧ z ≤ x.1.2 := by
  unfold f_X4_read at hf
  obtain ⟨_, _, hf⟩ := z_bind_inv hf
  obtain ⟨_, _, hf⟩ := z_bind_inv hf
  obtain ⟨_, _, hf⟩ := z_bind_inv hf
  obtain ⟨_, _, hf⟩ := z_bind_inv hf
  obtain ⟨_, _, hf⟩ := z_bind_inv hf
  have m9 := m_X4_read_b23 hf
  exact ⟨by (try dsimp only at *); omega, by (try dsimp only at *); omega⟩
set_option maxHeartbeats 4000000 in
set_option maxRecDepth 100000 in
theorem v_X4_read {X : zX} {cc0 ss0 nx0 z0 : Nat} (K : z_Ok X cX4_read (some (.object "ThinkingArms$Rules")) RX4 "read") (hX : z_Xo X (rm_X4_read cc0 ss0) 4) {x0 : Option Nat} {x1 : Option Nat} {x2 : Int32} {h : zH} {nx z : Nat} (hm : nx0 ≤ nx ∧ z0 ≤ z) {x : ((Nat × Nat) × (Option Nat × zH))} (hf : f_X4_read x0 x1 x2 h nx z = some x) (hp : z_Pm X nx0 z0 (z_P0Am X nx0 z0) x) : zV X 0 [(0, tA x0), (1, tA x1), (2, tI x2)] [] h nx (nx - nx0) (z - z0) := by
  have mB := m_X4_read hf
  unfold f_X4_read at hf
  refine zv_aload_n K 0 eX4_read_0 rfl ?_
  refine zv_aload_n K 1 eX4_read_1 rfl ?_
  refine zv_pA K eX4_read_2 fl_X4_9 ff_4_0 (Or.inr ⟨_, rfl⟩) hf (fun h1 hf => ?_)
  refine zv_aload_n K 0 eX4_read_5 rfl ?_
  refine zv_iload_n K 2 eX4_read_6 rfl ?_
  refine zv_pI K eX4_read_7 fl_X4_15 ff_4_1 rfl hf (fun h2 hf => ?_)
  refine zv_aload_n K 0 eX4_read_10 rfl ?_
  refine zv_iconst K (-1 : Int32) eX4_read_11 (by decide) ?_
  refine zv_pI K eX4_read_12 fl_X4_19 ff_4_4 rfl hf (fun h3 hf => ?_)
  refine zv_aload_n K 0 eX4_read_15 rfl ?_
  refine zv_iconst K (0 : Int32) eX4_read_16 (by decide) ?_
  obtain ⟨q4, hq4, hf⟩ := z_bind_inv hf
  obtain ⟨h5, eh5, hf⟩ := z_bind_inv hf
  refine zv_cV0 K [tI (0 : Int32)] [] eX4_read_17 lk_X4_22 md_X4_goTo im_X4_goTo sl_X4_goTo rfl rfl rfl rfl (Nat.le_of_ble_eq_true rfl) hq4 (c_X4_goTo X.1.2.1 X.2.2.1 eh5) rfl rfl ⟨z_le (z_fr hX) (by exact Nat.le_of_ble_eq_true rfl), z_le (z_lo hX) (by exact Nat.le_of_ble_eq_true rfl)⟩ (z_bd hp mB) ?_
  have m9 := m_X4_read_b23 hf
  refine zv_new K 5 _ [tA none, tI 0] (nx + 1 - nx0) (z + 2 - z0) eX4_read_20 rfl cl_X4_26 nb_5 nt_5 df_5 (by omega) (by show _ + 2 = _; omega) (z_bd hp m9) ?_
  exact zv_sub [0] rfl (v_X4_read_b23 K hX (by omega) hf hp)
theorem c_X4_read (l : Launch) (G : zG) {x0 : Option Nat} {x1 : Option Nat} {x2 : Int32} {h : zH} {nx z : Nat} {x : (Nat × Nat) × (Option Nat × zH)} (hf : f_X4_read x0 x1 x2 h nx z = some x) : z_Ct l G yX4_read cX4_read 4 (some (.object "ThinkingArms$Rules")) (rm_X4_read (x.1.1 - nx) (x.1.2 - z)) [tA x0, tA x1, tI x2] h nx (some (tA x.2.1)) x.2.2 x.1.1 (x.1.1 - nx) (x.1.2 - z) :=
  z_enter [(0, tA x0), (1, tA x1), (2, tI x2)] (by decide +kernel) (Nat.le_of_ble_eq_true rfl) rfl (fun X hl hR hG hL K hq => by
    subst hl; subst hG
    have mm := m_X4_read hf
    have := v_X4_read K ⟨hR, hL⟩ (nx0 := nx) (z0 := z) ⟨Nat.le_refl _, Nat.le_refl _⟩ hf ⟨by rw [hR]; (try dsimp only [rm_X4_read]); omega, hq⟩
    rw [Nat.sub_self, Nat.sub_self] at this
    exact this)
def P_X5_firstFor_2 (X : zX) (nx : Nat) : ((Option Nat) × Int32 × Int32 × zH) ⊕ (Int32 × zH) → Prop := z_PL (fun s => zV X 2 [(0, tA s.1), (1, tI s.2.1), (2, tI s.2.2.1)] [] s.2.2.2 nx 0 0) (z_P0I X nx)
set_option maxHeartbeats 4000000 in
set_option maxRecDepth 100000 in
theorem v_X5_firstFor_c2 {X : zX} (K : z_Ok X cX5_firstFor (some .int) RX5 "firstFor") (hX : z_Xo X rm_X5_firstFor 3) {x0 : Option Nat} {x1 : Int32} {x2 : Int32} {h : zH} {nx : Nat} {x : (((Option Nat) × Int32 × Int32 × zH) ⊕ (Int32 × zH))} (hf : f_X5_firstFor_c2 x0 x1 x2 h = some x) (hp : P_X5_firstFor_2 X nx x) : zV X 2 [(0, tA x0), (1, tI x1), (2, tI x2)] [] h nx 0 0 := by
  unfold f_X5_firstFor_c2 at hf
  refine zv_iload_n K 2 eX5_firstFor_2 rfl ?_
  refine zv_aload_n K 0 eX5_firstFor_3 rfl ?_
  refine zv_gI K eX5_firstFor_4 fl_X5_17 hf (fun v1 hf => ?_)
  refine zv_icmp_ge K 35 eX5_firstFor_7 (by decide) hf (fun _ hf => ?_) (fun _ hf => ?_)
  · obtain ⟨w9, hf9, e9⟩ := z_i1_inv hf; clear hf; subst e9; have hf := hf9; clear hf9
    refine zv_bipush K (-4 : Int32) eX5_firstFor_35 (by decide) ?_
    have e9 := Option.some.inj hf; subst e9
    exact zv_iret K eX5_firstFor_37 hp
  · refine zv_aload_n K 0 eX5_firstFor_10 rfl ?_
    refine zv_gA K eX5_firstFor_11 fl_X5_11 hf (fun v2 hf => ?_)
    refine zv_iload_n K 2 eX5_firstFor_14 rfl ?_
    refine zv_aA K eX5_firstFor_15 hf (fun v3 hf => ?_)
    refine zv_gA K eX5_firstFor_16 fl_X5_21 hf (fun v4 hf => ?_)
    refine zv_iload_n K 1 eX5_firstFor_19 rfl ?_
    refine zv_iconst K (0 : Int32) eX5_firstFor_20 (by decide) ?_
    obtain ⟨v6, h5, eh5, hf⟩ := z_b2_inv hf
    refine zv_cS0 K [tA v4, tI x1, tI (0 : Int32)] [] eX5_firstFor_21 lk_X5_25 md_X1_holds st_X1_holds rfl rfl (Nat.le_of_ble_eq_true rfl) (c_X1_holds X.1.2.1 X.2.2.1 eh5) rfl rfl ⟨z_le (z_fr hX) (by decide), z_le (z_lo hX) (by decide)⟩ ⟨Nat.zero_le _, Nat.zero_le _⟩ ?_
    refine zv_if_eq K 29 eX5_firstFor_24 (by decide) hf (fun _ hf => ?_) (fun _ hf => ?_)
    · refine zv_iinc K (x2 + (1 : Int32)) 2 [(2, tI (x2 + (1 : Int32))), (0, tA x0), (1, tI x1)] eX5_firstFor_29 rfl rfl (z_lt hX.2 (by decide)) rfl ?_
      refine zv_goto K 2 eX5_firstFor_32 (by decide) ?_
      cases hf
      exact zv_sub [1, 2, 0] rfl (show zV X 2 [(0, tA x0), (1, tI x1), (2, tI (x2 + (1 : Int32)))] [] h5 nx 0 0 from hp)
    · obtain ⟨w9, hf9, e9⟩ := z_i1_inv hf; clear hf; subst e9; have hf := hf9; clear hf9
      refine zv_iload_n K 2 eX5_firstFor_27 rfl ?_
      have e9 := Option.some.inj hf; subst e9
      exact zv_iret K eX5_firstFor_28 hp
theorem v_X5_firstFor_b2 {X : zX} (K : z_Ok X cX5_firstFor (some .int) RX5 "firstFor") (hX : z_Xo X rm_X5_firstFor 3) {x0 : Option Nat} {x1 : Int32} {x2 : Int32} {h : zH} {nx : Nat} {x : (Int32 × zH)} (hf : f_X5_firstFor_b2 x0 x1 x2 h = some x) (hp : z_P0I X nx x) : zV X 2 [(0, tA x0), (1, tI x1), (2, tI x2)] [] h nx 0 0 :=
  z_it_ind (P := fun s : (Option Nat) × Int32 × Int32 × zH => zV X 2 [(0, tA s.1), (1, tI s.2.1), (2, tI s.2.2.1)] [] s.2.2.2 nx 0 0) (fun s y hb hy => v_X5_firstFor_c2 K hX hb (z_PL_of hy hp)) hf
set_option maxHeartbeats 4000000 in
set_option maxRecDepth 100000 in
theorem v_X5_firstFor {X : zX} (K : z_Ok X cX5_firstFor (some .int) RX5 "firstFor") (hX : z_Xo X rm_X5_firstFor 3) {x0 : Option Nat} {x1 : Int32} {h : zH} {nx : Nat} {x : (Int32 × zH)} (hf : f_X5_firstFor x0 x1 h = some x) (hp : z_P0I X nx x) : zV X 0 [(0, tA x0), (1, tI x1)] [] h nx 0 0 := by
  unfold f_X5_firstFor at hf
  refine zv_iconst K (0 : Int32) eX5_firstFor_0 (by decide) ?_
  refine zv_istore_n K [(2, tI (0 : Int32)), (0, tA x0), (1, tI x1)] eX5_firstFor_1 (z_lt hX.2 (by decide)) rfl ?_
  exact zv_sub [1, 2, 0] rfl (v_X5_firstFor_b2 K hX hf hp)
theorem c_X5_firstFor (l : Launch) (G : zG) {x0 : Option Nat} {x1 : Int32} {h : zH} {nx : Nat} {x : Int32 × zH} (hf : f_X5_firstFor x0 x1 h = some x) : z_Ct l G yX5_firstFor cX5_firstFor 3 (some .int) rm_X5_firstFor [tA x0, tI x1] h nx (some (tI x.1)) x.2 nx 0 0 :=
  z_enter [(0, tA x0), (1, tI x1)] (by decide +kernel) (Nat.le_of_ble_eq_true rfl) rfl (fun X hl hR hG hL K hq => by
    subst hl; subst hG
    exact v_X5_firstFor K ⟨hR, hL⟩ hf hq)
set_option maxHeartbeats 4000000 in
set_option maxRecDepth 100000 in
theorem v_X8_init {X : zX} (K : z_Ok X cX8_init none RX8 "<init>") (hX : z_Xo X rm_X8_init 1) {x0 : Option Nat} {h : zH} {nx : Nat} {x : (zH)} (hf : f_X8_init x0 h = some x) (hp : z_P0V X nx x) : zV X 0 [(0, tA x0)] [] h nx 0 0 := by
  unfold f_X8_init at hf
  refine zv_aload_n K 0 eX8_init_0 rfl ?_
  refine zv_objInit K eX8_init_1 oi_X8_1 oi_im oi_co ⟨z_le (z_fr hX) (by decide), z_le (z_lo hX) (by decide)⟩ (Nat.le_of_ble_eq_true rfl) hf (fun v1 hf => ?_)
  have e9 := Option.some.inj hf; subst e9
  exact zv_vret K eX8_init_4 hp
theorem c_X8_init (l : Launch) (G : zG) {x0 : Option Nat} {h : zH} {nx : Nat} {x : zH} (hf : f_X8_init x0 h = some x) : z_Ct l G yX8_init cX8_init 1 none rm_X8_init [tA x0] h nx none x nx 0 0 :=
  z_enter [(0, tA x0)] (by decide +kernel) (Nat.le_of_ble_eq_true rfl) rfl (fun X hl hR hG hL K hq => by
    subst hl; subst hG
    exact v_X8_init K ⟨hR, hL⟩ hf hq)
def P_X6_init_65 (X : zX) (nx0 z0 : Nat) (nz : Nat × Nat) : ((Option Nat) × Int32 × zH) ⊕ (zH) → Prop := z_PL (fun s => zV X 65 [(0, tA s.1), (1, tI s.2.1)] [] s.2.2 nz.1 (nz.1 - nx0) (nz.2 - z0)) (z_P0Vm X nx0 z0 nz)
def P_X6_init_35 (X : zX) (nx0 z0 : Nat) (nz : Nat × Nat) : ((Option Nat) × Int32 × zH) ⊕ (zH) → Prop := z_PL (fun s => zV X 35 [(0, tA s.1), (1, tI s.2.1)] [] s.2.2 nz.1 (nz.1 - nx0) (nz.2 - z0)) (z_P0Vm X nx0 z0 nz)
theorem m_X6_init_b82  {x0 : Option Nat} {x1 : Int32} {s0 : Option Nat} {s1 : Int32} {s2 : Option Nat} {h : zH} {nx z : Nat} {x : ((Nat × Nat) × (((Option Nat) × Int32 × zH) ⊕ (zH)))} (hf : f_X6_init_b82 x0 x1 s0 s1 s2 h nx z = some x) : nx ≤ x.1.1 ∧ z ≤ x.1.2 := by
  unfold f_X6_init_b82 at hf
  obtain ⟨_, _, hf⟩ := z_bind_inv hf
  obtain ⟨_, _, hf⟩ := z_bind_inv hf
  obtain ⟨_, _, hf⟩ := z_bind_inv hf
  cases hf
  exact ⟨by (try dsimp only at *); omega, by (try dsimp only at *); omega⟩
set_option maxHeartbeats 4000000 in
set_option maxRecDepth 100000 in
theorem v_X6_init_b82 {X : zX} {cc0 ss0 nx0 z0 : Nat} (K : z_Ok X cX6_init none RX6 "<init>") (hX : z_Xo X (rm_X6_init cc0 ss0) 2) {x0 : Option Nat} {x1 : Int32} {s0 : Option Nat} {s1 : Int32} {s2 : Option Nat} {h : zH} {nx z : Nat} (hm : nx0 ≤ nx ∧ z0 ≤ z) {x : ((Nat × Nat) × (((Option Nat) × Int32 × zH) ⊕ (zH)))} (hf : f_X6_init_b82 x0 x1 s0 s1 s2 h nx z = some x) (hp : z_Pm X nx0 z0 (P_X6_init_65 X nx0 z0) x) : zV X 82 [(0, tA x0), (1, tI x1)] [tA s2, tI s1, tA s0] h nx (nx - nx0) (z - z0) := by
  have mB := m_X6_init_b82 hf
  unfold f_X6_init_b82 at hf
  refine zv_dup K eX6_init_82 rfl ?_
  obtain ⟨q1, hq1, hf⟩ := z_bind_inv hf
  obtain ⟨h2, eh2, hf⟩ := z_bind_inv hf
  refine zv_cI0 K [] [tA s2, tI s1, tA s0] eX6_init_83 lk_X6_32 md_X8_init im_X8_init rfl rfl rfl (Nat.le_of_ble_eq_true rfl) hq1 (c_X8_init X.1.2.1 X.2.2.1 eh2) rfl rfl ⟨z_le (z_fr hX) (by exact Nat.le_of_ble_eq_true rfl), z_le (z_lo hX) (by exact Nat.le_of_ble_eq_true rfl)⟩ (z_bd hp mB) ?_
  refine zv_sA K eX6_init_86 hf (fun h3 hf => ?_)
  refine zv_iinc K (x1 + (1 : Int32)) 1 [(1, tI (x1 + (1 : Int32))), (0, tA x0)] eX6_init_87 rfl rfl (z_lt hX.2 (by decide)) rfl ?_
  refine zv_goto K 65 eX6_init_90 (by decide) ?_
  cases hf
  exact zv_sub [1, 0] rfl (show zV X 65 [(0, tA x0), (1, tI (x1 + (1 : Int32)))] [] h3 nx (nx - nx0) (z - z0) from hp.2)
theorem m_X6_init_c65  {x0 : Option Nat} {x1 : Int32} {h : zH} {nx z : Nat} {x : ((Nat × Nat) × (((Option Nat) × Int32 × zH) ⊕ (zH)))} (hf : f_X6_init_c65 x0 x1 h nx z = some x) : nx ≤ x.1.1 ∧ z ≤ x.1.2 := by
  unfold f_X6_init_c65 at hf
  obtain ⟨_, _, hf⟩ := z_bind_inv hf
  obtain ⟨_, _, hf⟩ := z_bind_inv hf
  refine z_ite_inv _ hf (fun _ hf => ?_) (fun _ hf => ?_)
  · obtain ⟨w9, hf9, e9⟩ := z_i1m_inv hf; clear hf; subst e9; have hf := hf9; clear hf9
    cases hf
    exact ⟨by (try dsimp only at *); omega, by (try dsimp only at *); omega⟩
  · obtain ⟨_, _, hf⟩ := z_bind_inv hf
    have m9 := m_X6_init_b82 hf
    exact ⟨by (try dsimp only at *); omega, by (try dsimp only at *); omega⟩
set_option maxHeartbeats 4000000 in
set_option maxRecDepth 100000 in
theorem v_X6_init_c65 {X : zX} {cc0 ss0 nx0 z0 : Nat} (K : z_Ok X cX6_init none RX6 "<init>") (hX : z_Xo X (rm_X6_init cc0 ss0) 2) {x0 : Option Nat} {x1 : Int32} {h : zH} {nx z : Nat} (hm : nx0 ≤ nx ∧ z0 ≤ z) {x : ((Nat × Nat) × (((Option Nat) × Int32 × zH) ⊕ (zH)))} (hf : f_X6_init_c65 x0 x1 h nx z = some x) (hp : z_Pm X nx0 z0 (P_X6_init_65 X nx0 z0) x) : zV X 65 [(0, tA x0), (1, tI x1)] [] h nx (nx - nx0) (z - z0) := by
  have mB := m_X6_init_c65 hf
  unfold f_X6_init_c65 at hf
  refine zv_iload_n K 1 eX6_init_65 rfl ?_
  refine zv_aload_n K 0 eX6_init_66 rfl ?_
  refine zv_gA K eX6_init_67 fl_X6_23 hf (fun v1 hf => ?_)
  refine zv_len K eX6_init_70 hf (fun v2 hf => ?_)
  refine zv_icmp_ge K 93 eX6_init_71 (by decide) hf (fun _ hf => ?_) (fun _ hf => ?_)
  · obtain ⟨w9, hf9, e9⟩ := z_i1m_inv hf; clear hf; subst e9; have hf := hf9; clear hf9
    have hp : z_Pm X nx0 z0 (z_P0Vm X nx0 z0) _ := hp
    have e9 := Option.some.inj hf; subst e9
    exact zv_vret K eX6_init_93 hp.2
  · refine zv_aload_n K 0 eX6_init_74 rfl ?_
    refine zv_gA K eX6_init_75 fl_X6_23 hf (fun v3 hf => ?_)
    refine zv_iload_n K 1 eX6_init_78 rfl ?_
    have m9 := m_X6_init_b82 hf
    refine zv_new K 8 _ [tI 0, tI 0, tI 0, tI 0, tI 0] (nx + 1 - nx0) (z + 5 - z0) eX6_init_79 rfl cl_X6_21 nb_8 nt_8 df_8 (by omega) (by show _ + 5 = _; omega) (z_bd hp m9) ?_
    exact zv_sub [0, 1] rfl (v_X6_init_b82 K hX (by omega) hf hp)
theorem m_X6_init_b65  {x0 : Option Nat} {x1 : Int32} {h : zH} {nx z : Nat} {x : ((Nat × Nat) × (zH))} (hf : f_X6_init_b65 x0 x1 h nx z = some x) : nx ≤ x.1.1 ∧ z ≤ x.1.2 :=
  z_itmo (body := fun q : (Nat × Nat) × ((Option Nat) × Int32 × zH) => f_X6_init_c65 q.2.1 q.2.2.1 q.2.2.2 q.1.1 q.1.2) (nz := (nx, z)) (fun s nz y hb => m_X6_init_c65 hb) hf
theorem v_X6_init_b65 {X : zX} {cc0 ss0 nx0 z0 : Nat} (K : z_Ok X cX6_init none RX6 "<init>") (hX : z_Xo X (rm_X6_init cc0 ss0) 2) {x0 : Option Nat} {x1 : Int32} {h : zH} {nx z : Nat} (hm : nx0 ≤ nx ∧ z0 ≤ z) {x : ((Nat × Nat) × (zH))} (hf : f_X6_init_b65 x0 x1 h nx z = some x) (hp : z_Pm X nx0 z0 (z_P0Vm X nx0 z0) x) : zV X 65 [(0, tA x0), (1, tI x1)] [] h nx (nx - nx0) (z - z0) :=
  z_itm (body := fun q : (Nat × Nat) × ((Option Nat) × Int32 × zH) => f_X6_init_c65 q.2.1 q.2.2.1 q.2.2.2 q.1.1 q.1.2) (nz := (nx, z)) (P := fun s nz => zV X 65 [(0, tA s.1), (1, tI s.2.1)] [] s.2.2 nz.1 (nz.1 - nx0) (nz.2 - z0)) (Q := z_P0Vm X nx0 z0) (fun s nz y hm hb hy => v_X6_init_c65 K hX hm hb hy) (fun s nz y hb => m_X6_init_c65 hb) hm hp hf
theorem m_X6_init_b56  {x0 : Option Nat} {x1 : Int32} {s0 : Option Nat} {s1 : Int32} {s2 : Option Nat} {h : zH} {nx z : Nat} {x : ((Nat × Nat) × (((Option Nat) × Int32 × zH) ⊕ (zH)))} (hf : f_X6_init_b56 x0 x1 s0 s1 s2 h nx z = some x) : nx ≤ x.1.1 ∧ z ≤ x.1.2 := by
  unfold f_X6_init_b56 at hf
  obtain ⟨_, _, hf⟩ := z_bind_inv hf
  cases hf
  exact ⟨by (try dsimp only at *); omega, by (try dsimp only at *); omega⟩
set_option maxHeartbeats 4000000 in
set_option maxRecDepth 100000 in
theorem v_X6_init_b56 {X : zX} {cc0 ss0 nx0 z0 : Nat} (K : z_Ok X cX6_init none RX6 "<init>") (hX : z_Xo X (rm_X6_init cc0 ss0) 2) {x0 : Option Nat} {x1 : Int32} {s0 : Option Nat} {s1 : Int32} {s2 : Option Nat} {h : zH} {nx z : Nat} (hm : nx0 ≤ nx ∧ z0 ≤ z) {x : ((Nat × Nat) × (((Option Nat) × Int32 × zH) ⊕ (zH)))} (hf : f_X6_init_b56 x0 x1 s0 s1 s2 h nx z = some x) (hp : z_Pm X nx0 z0 (P_X6_init_35 X nx0 z0) x) : zV X 56 [(0, tA x0), (1, tI x1)] [tA s2, tI s1, tA s0] h nx (nx - nx0) (z - z0) := by
  have mB := m_X6_init_b56 hf
  unfold f_X6_init_b56 at hf
  refine zv_sA K eX6_init_56 hf (fun h1 hf => ?_)
  refine zv_iinc K (x1 + (1 : Int32)) 1 [(1, tI (x1 + (1 : Int32))), (0, tA x0)] eX6_init_57 rfl rfl (z_lt hX.2 (by decide)) rfl ?_
  refine zv_goto K 35 eX6_init_60 (by decide) ?_
  cases hf
  exact zv_sub [1, 0] rfl (show zV X 35 [(0, tA x0), (1, tI (x1 + (1 : Int32)))] [] h1 nx (nx - nx0) (z - z0) from hp.2)
theorem m_X6_init_b52  {x0 : Option Nat} {x1 : Int32} {s0 : Option Nat} {s1 : Int32} {s2 : Option Nat} {h : zH} {nx z : Nat} {x : ((Nat × Nat) × (((Option Nat) × Int32 × zH) ⊕ (zH)))} (hf : f_X6_init_b52 x0 x1 s0 s1 s2 h nx z = some x) : nx ≤ x.1.1 ∧ z ≤ x.1.2 := by
  unfold f_X6_init_b52 at hf
  obtain ⟨_, _, hf⟩ := z_bind_inv hf
  obtain ⟨n3, eh2, hf⟩ := z_bind_inv hf
  have mn3 := m_X0_init eh2
  have m9 := m_X6_init_b56 hf
  exact ⟨by (try dsimp only at *); omega, by (try dsimp only at *); omega⟩
set_option maxHeartbeats 4000000 in
set_option maxRecDepth 100000 in
theorem v_X6_init_b52 {X : zX} {cc0 ss0 nx0 z0 : Nat} (K : z_Ok X cX6_init none RX6 "<init>") (hX : z_Xo X (rm_X6_init cc0 ss0) 2) {x0 : Option Nat} {x1 : Int32} {s0 : Option Nat} {s1 : Int32} {s2 : Option Nat} {h : zH} {nx z : Nat} (hm : nx0 ≤ nx ∧ z0 ≤ z) {x : ((Nat × Nat) × (((Option Nat) × Int32 × zH) ⊕ (zH)))} (hf : f_X6_init_b52 x0 x1 s0 s1 s2 h nx z = some x) (hp : z_Pm X nx0 z0 (P_X6_init_35 X nx0 z0) x) : zV X 52 [(0, tA x0), (1, tI x1)] [tA s2, tI s1, tA s0] h nx (nx - nx0) (z - z0) := by
  have mB := m_X6_init_b52 hf
  unfold f_X6_init_b52 at hf
  refine zv_dup K eX6_init_52 rfl ?_
  obtain ⟨q1, hq1, hf⟩ := z_bind_inv hf
  obtain ⟨n3, eh2, hf⟩ := z_bind_inv hf
  have mn3 := m_X0_init eh2
  have m9 := m_X6_init_b56 hf
  refine zv_cI1 K [] [tA s2, tI s1, tA s0] (n3.1.1 - nx0) (n3.1.2 - z0) eX6_init_53 lk_X6_31 md_X0_init im_X0_init rfl rfl rfl (Nat.le_of_ble_eq_true rfl) hq1 (c_X0_init X.1.2.1 X.2.2.1 eh2) rfl rfl ⟨z_le (z_fr hX) (by exact Nat.le_of_ble_eq_true rfl), z_le (z_lo hX) (by exact Nat.le_of_ble_eq_true rfl)⟩ (by omega) (by omega) (by omega) (z_bd hp m9) ?_
  exact zv_sub [0, 1] rfl (v_X6_init_b56 K hX (by omega) hf hp)
theorem m_X6_init_c35  {x0 : Option Nat} {x1 : Int32} {h : zH} {nx z : Nat} {x : ((Nat × Nat) × (((Option Nat) × Int32 × zH) ⊕ (zH)))} (hf : f_X6_init_c35 x0 x1 h nx z = some x) : nx ≤ x.1.1 ∧ z ≤ x.1.2 := by
  unfold f_X6_init_c35 at hf
  obtain ⟨_, _, hf⟩ := z_bind_inv hf
  obtain ⟨_, _, hf⟩ := z_bind_inv hf
  refine z_ite_inv _ hf (fun _ hf => ?_) (fun _ hf => ?_)
  · obtain ⟨w9, hf9, e9⟩ := z_i1m_inv hf; clear hf; subst e9; have hf := hf9; clear hf9
    have m9 := m_X6_init_b65 hf
    exact ⟨by (try dsimp only at *); omega, by (try dsimp only at *); omega⟩
  · obtain ⟨_, _, hf⟩ := z_bind_inv hf
    have m9 := m_X6_init_b52 hf
    exact ⟨by (try dsimp only at *); omega, by (try dsimp only at *); omega⟩
set_option maxHeartbeats 4000000 in
set_option maxRecDepth 100000 in
theorem v_X6_init_c35 {X : zX} {cc0 ss0 nx0 z0 : Nat} (K : z_Ok X cX6_init none RX6 "<init>") (hX : z_Xo X (rm_X6_init cc0 ss0) 2) {x0 : Option Nat} {x1 : Int32} {h : zH} {nx z : Nat} (hm : nx0 ≤ nx ∧ z0 ≤ z) {x : ((Nat × Nat) × (((Option Nat) × Int32 × zH) ⊕ (zH)))} (hf : f_X6_init_c35 x0 x1 h nx z = some x) (hp : z_Pm X nx0 z0 (P_X6_init_35 X nx0 z0) x) : zV X 35 [(0, tA x0), (1, tI x1)] [] h nx (nx - nx0) (z - z0) := by
  have mB := m_X6_init_c35 hf
  unfold f_X6_init_c35 at hf
  refine zv_iload_n K 1 eX6_init_35 rfl ?_
  refine zv_aload_n K 0 eX6_init_36 rfl ?_
  refine zv_gA K eX6_init_37 fl_X6_17 hf (fun v1 hf => ?_)
  refine zv_len K eX6_init_40 hf (fun v2 hf => ?_)
  refine zv_icmp_ge K 63 eX6_init_41 (by decide) hf (fun _ hf => ?_) (fun _ hf => ?_)
  · obtain ⟨w9, hf9, e9⟩ := z_i1m_inv hf; clear hf; subst e9; have hf := hf9; clear hf9
    have hp : z_Pm X nx0 z0 (z_P0Vm X nx0 z0) _ := hp
    refine zv_iconst K (0 : Int32) eX6_init_63 (by decide) ?_
    refine zv_istore_n K [(1, tI (0 : Int32)), (0, tA x0)] eX6_init_64 (z_lt hX.2 (by decide)) rfl ?_
    exact zv_sub [1, 0] rfl (v_X6_init_b65 K hX (by omega) hf hp)
  · refine zv_aload_n K 0 eX6_init_44 rfl ?_
    refine zv_gA K eX6_init_45 fl_X6_17 hf (fun v3 hf => ?_)
    refine zv_iload_n K 1 eX6_init_48 rfl ?_
    have m9 := m_X6_init_b52 hf
    refine zv_new K 0 _ [tI 0, tI 0, tI 0, tA none, tA none, tA none, tA none, tA none, tA none] (nx + 1 - nx0) (z + 9 - z0) eX6_init_49 rfl cl_X6_15 nb_0 nt_0 df_0 (by omega) (by show _ + 9 = _; omega) (z_bd hp m9) ?_
    exact zv_sub [0, 1] rfl (v_X6_init_b52 K hX (by omega) hf hp)
theorem m_X6_init_b35  {x0 : Option Nat} {x1 : Int32} {h : zH} {nx z : Nat} {x : ((Nat × Nat) × (zH))} (hf : f_X6_init_b35 x0 x1 h nx z = some x) : nx ≤ x.1.1 ∧ z ≤ x.1.2 :=
  z_itmo (body := fun q : (Nat × Nat) × ((Option Nat) × Int32 × zH) => f_X6_init_c35 q.2.1 q.2.2.1 q.2.2.2 q.1.1 q.1.2) (nz := (nx, z)) (fun s nz y hb => m_X6_init_c35 hb) hf
theorem v_X6_init_b35 {X : zX} {cc0 ss0 nx0 z0 : Nat} (K : z_Ok X cX6_init none RX6 "<init>") (hX : z_Xo X (rm_X6_init cc0 ss0) 2) {x0 : Option Nat} {x1 : Int32} {h : zH} {nx z : Nat} (hm : nx0 ≤ nx ∧ z0 ≤ z) {x : ((Nat × Nat) × (zH))} (hf : f_X6_init_b35 x0 x1 h nx z = some x) (hp : z_Pm X nx0 z0 (z_P0Vm X nx0 z0) x) : zV X 35 [(0, tA x0), (1, tI x1)] [] h nx (nx - nx0) (z - z0) :=
  z_itm (body := fun q : (Nat × Nat) × ((Option Nat) × Int32 × zH) => f_X6_init_c35 q.2.1 q.2.2.1 q.2.2.2 q.1.1 q.1.2) (nz := (nx, z)) (P := fun s nz => zV X 35 [(0, tA s.1), (1, tI s.2.1)] [] s.2.2 nz.1 (nz.1 - nx0) (nz.2 - z0)) (Q := z_P0Vm X nx0 z0) (fun s nz y hm hb hy => v_X6_init_c35 K hX hm hb hy) (fun s nz y hb => m_X6_init_c35 hb) hm hp hf
theorem m_X6_init_b25  {x0 : Option Nat} {s0 : Option Nat} {s1 : Option Nat} {h : zH} {nx z : Nat} {x : ((Nat × Nat) × (zH))} (hf : f_X6_init_b25 x0 s0 s1 h nx z = some x) : nx ≤ x.1.1 ∧ z ≤ x.1.2 := by
  unfold f_X6_init_b25 at hf
  obtain ⟨_, _, hf⟩ := z_bind_inv hf
  obtain ⟨_, _, hf⟩ := z_bind_inv hf
  have m9 := m_X6_init_b35 hf
  exact ⟨by (try dsimp only at *); omega, by (try dsimp only at *); omega⟩
set_option maxHeartbeats 4000000 in
set_option maxRecDepth 100000 in
theorem v_X6_init_b25 {X : zX} {cc0 ss0 nx0 z0 : Nat} (K : z_Ok X cX6_init none RX6 "<init>") (hX : z_Xo X (rm_X6_init cc0 ss0) 2) {x0 : Option Nat} {s0 : Option Nat} {s1 : Option Nat} {h : zH} {nx z : Nat} (hm : nx0 ≤ nx ∧ z0 ≤ z) {x : ((Nat × Nat) × (zH))} (hf : f_X6_init_b25 x0 s0 s1 h nx z = some x) (hp : z_Pm X nx0 z0 (z_P0Vm X nx0 z0) x) : zV X 25 [(0, tA x0)] [tA s1, tA s0] h nx (nx - nx0) (z - z0) := by
  have mB := m_X6_init_b25 hf
  unfold f_X6_init_b25 at hf
  refine zv_pXA K eX6_init_25 fx_X6_23 (Or.inr ⟨_, rfl⟩) hf (fun h1 hf => ?_)
  refine zv_aload_n K 0 eX6_init_28 rfl ?_
  refine zv_iconst K (3 : Int32) eX6_init_29 (by decide) ?_
  refine zv_pI K eX6_init_30 fl_X6_27 ff_6_7 rfl hf (fun h2 hf => ?_)
  refine zv_iconst K (0 : Int32) eX6_init_33 (by decide) ?_
  refine zv_istore_n K [(1, tI (0 : Int32)), (0, tA x0)] eX6_init_34 (z_lt hX.2 (by decide)) rfl ?_
  exact zv_sub [1, 0] rfl (v_X6_init_b35 K hX (by omega) hf hp)
theorem m_X6_init_b16  {x0 : Option Nat} {s0 : Option Nat} {s1 : Option Nat} {h : zH} {nx z : Nat} {x : ((Nat × Nat) × (zH))} (hf : f_X6_init_b16 x0 s0 s1 h nx z = some x) : nx ≤ x.1.1 ∧ z ≤ x.1.2 := by
  unfold f_X6_init_b16 at hf
  obtain ⟨_, _, hf⟩ := z_bind_inv hf
  have m9 := m_X6_init_b25 hf
  exact ⟨by (try dsimp only at *); omega, by (try dsimp only at *); omega⟩
set_option maxHeartbeats 4000000 in
set_option maxRecDepth 100000 in
theorem v_X6_init_b16 {X : zX} {cc0 ss0 nx0 z0 : Nat} (K : z_Ok X cX6_init none RX6 "<init>") (hX : z_Xo X (rm_X6_init cc0 ss0) 2) {x0 : Option Nat} {s0 : Option Nat} {s1 : Option Nat} {h : zH} {nx z : Nat} (hm : nx0 ≤ nx ∧ z0 ≤ z) {x : ((Nat × Nat) × (zH))} (hf : f_X6_init_b16 x0 s0 s1 h nx z = some x) (hp : z_Pm X nx0 z0 (z_P0Vm X nx0 z0) x) : zV X 16 [(0, tA x0)] [tA s1, tA s0] h nx (nx - nx0) (z - z0) := by
  have mB := m_X6_init_b16 hf
  unfold f_X6_init_b16 at hf
  refine zv_pXA K eX6_init_16 fx_X6_17 (Or.inr ⟨_, rfl⟩) hf (fun h1 hf => ?_)
  refine zv_aload_n K 0 eX6_init_19 rfl ?_
  refine zv_bipush K (8 : Int32) eX6_init_20 (by decide) ?_
  have m9 := m_X6_init_b25 hf
  refine zv_newA K 5 8 (nx + 1 - nx0) (z + 8 - z0) _ eX6_init_22 (by decide) rfl cl_X6_21 (by decide) (by decide) (by decide) (by omega) (by omega) (z_bd hp m9) ?_
  exact zv_sub [0] rfl (v_X6_init_b25 K hX (by omega) hf hp)
theorem m_X6_init_b8  {x0 : Option Nat} {s0 : Option Nat} {s1 : Option Nat} {h : zH} {nx z : Nat} {x : ((Nat × Nat) × (zH))} (hf : f_X6_init_b8 x0 s0 s1 h nx z = some x) : nx ≤ x.1.1 ∧ z ≤ x.1.2 := by
  unfold f_X6_init_b8 at hf
  obtain ⟨_, _, hf⟩ := z_bind_inv hf
  have m9 := m_X6_init_b16 hf
  exact ⟨by (try dsimp only at *); omega, by (try dsimp only at *); omega⟩
set_option maxHeartbeats 4000000 in
set_option maxRecDepth 100000 in
theorem v_X6_init_b8 {X : zX} {cc0 ss0 nx0 z0 : Nat} (K : z_Ok X cX6_init none RX6 "<init>") (hX : z_Xo X (rm_X6_init cc0 ss0) 2) {x0 : Option Nat} {s0 : Option Nat} {s1 : Option Nat} {h : zH} {nx z : Nat} (hm : nx0 ≤ nx ∧ z0 ≤ z) {x : ((Nat × Nat) × (zH))} (hf : f_X6_init_b8 x0 s0 s1 h nx z = some x) (hp : z_Pm X nx0 z0 (z_P0Vm X nx0 z0) x) : zV X 8 [(0, tA x0)] [tA s1, tA s0] h nx (nx - nx0) (z - z0) := by
  have mB := m_X6_init_b8 hf
  unfold f_X6_init_b8 at hf
  refine zv_pXA K eX6_init_8 fx_X6_9 (Or.inr ⟨_, rfl⟩) hf (fun h1 hf => ?_)
  refine zv_aload_n K 0 eX6_init_11 rfl ?_
  refine zv_iconst K (3 : Int32) eX6_init_12 (by decide) ?_
  have m9 := m_X6_init_b16 hf
  refine zv_newA K 4 3 (nx + 1 - nx0) (z + 3 - z0) _ eX6_init_13 (by decide) rfl cl_X6_15 (by decide) (by decide) (by decide) (by omega) (by omega) (z_bd hp m9) ?_
  exact zv_sub [0] rfl (v_X6_init_b16 K hX (by omega) hf hp)
theorem m_X6_init  {x0 : Option Nat} {h : zH} {nx z : Nat} {x : ((Nat × Nat) × (zH))} (hf : f_X6_init x0 h nx z = some x) : nx ≤ x.1.1 ∧ z ≤ x.1.2 := by
  unfold f_X6_init at hf
  obtain ⟨_, _, hf⟩ := z_bind_inv hf
  have m9 := m_X6_init_b8 hf
  exact ⟨by (try dsimp only at *); omega, by (try dsimp only at *); omega⟩
set_option maxHeartbeats 4000000 in
set_option maxRecDepth 100000 in
theorem v_X6_init {X : zX} {cc0 ss0 nx0 z0 : Nat} (K : z_Ok X cX6_init none RX6 "<init>") (hX : z_Xo X (rm_X6_init cc0 ss0) 2) {x0 : Option Nat} {h : zH} {nx z : Nat} (hm : nx0 ≤ nx ∧ z0 ≤ z) {x : ((Nat × Nat) × (zH))} (hf : f_X6_init x0 h nx z = some x) (hp : z_Pm X nx0 z0 (z_P0Vm X nx0 z0) x) : zV X 0 [(0, tA x0)] [] h nx (nx - nx0) (z - z0) := by
  have mB := m_X6_init hf
  unfold f_X6_init at hf
  refine zv_aload_n K 0 eX6_init_0 rfl ?_
  refine zv_objInit K eX6_init_1 oi_X6_3 oi_im oi_co ⟨z_le (z_fr hX) (by exact Nat.le_of_ble_eq_true rfl), z_le (z_lo hX) (by exact Nat.le_of_ble_eq_true rfl)⟩ (Nat.le_of_ble_eq_true rfl) hf (fun v1 hf => ?_)
  refine zv_aload_n K 0 eX6_init_4 rfl ?_
  refine zv_iconst K (4 : Int32) eX6_init_5 (by decide) ?_
  have m9 := m_X6_init_b8 hf
  refine zv_newJ K 4 (nx + 1 - nx0) (z + 4 - z0) eX6_init_6 ar_long (by decide) (by decide) (by decide) (by omega) (by omega) (z_bd hp m9) ?_
  exact zv_sub [0] rfl (v_X6_init_b8 K hX (by omega) hf hp)
theorem c_X6_init (l : Launch) (G : zG) {x0 : Option Nat} {h : zH} {nx z : Nat} {x : (Nat × Nat) × (zH)} (hf : f_X6_init x0 h nx z = some x) : z_Ct l G yX6_init cX6_init 2 none (rm_X6_init (x.1.1 - nx) (x.1.2 - z)) [tA x0] h nx none x.2 x.1.1 (x.1.1 - nx) (x.1.2 - z) :=
  z_enter [(0, tA x0)] (by decide +kernel) (Nat.le_of_ble_eq_true rfl) rfl (fun X hl hR hG hL K hq => by
    subst hl; subst hG
    have mm := m_X6_init hf
    have := v_X6_init K ⟨hR, hL⟩ (nx0 := nx) (z0 := z) ⟨Nat.le_refl _, Nat.le_refl _⟩ hf ⟨by rw [hR]; (try dsimp only [rm_X6_init]); omega, hq⟩
    rw [Nat.sub_self, Nat.sub_self] at this
    exact this)
set_option maxHeartbeats 4000000 in
set_option maxRecDepth 100000 in
theorem v_X8_become {X : zX} (K : z_Ok X cX8_become none RX8 "become") (hX : z_Xo X rm_X8_become 2) {x0 : Option Nat} {x1 : Option Nat} {h : zH} {nx : Nat} {x : (zH)} (hf : f_X8_become x0 x1 h = some x) (hp : z_P0V X nx x) : zV X 0 [(0, tA x0), (1, tA x1)] [] h nx 0 0 := by
  unfold f_X8_become at hf
  refine zv_aload_n K 0 eX8_become_0 rfl ?_
  refine zv_aload_n K 1 eX8_become_1 rfl ?_
  refine zv_gI K eX8_become_2 fl_X8_7 hf (fun v1 hf => ?_)
  refine zv_pI K eX8_become_5 fl_X8_7 ff_8_0 rfl hf (fun h2 hf => ?_)
  refine zv_aload_n K 0 eX8_become_8 rfl ?_
  refine zv_aload_n K 1 eX8_become_9 rfl ?_
  refine zv_gI K eX8_become_10 fl_X8_13 hf (fun v3 hf => ?_)
  refine zv_pI K eX8_become_13 fl_X8_13 ff_8_1 rfl hf (fun h4 hf => ?_)
  refine zv_aload_n K 0 eX8_become_16 rfl ?_
  refine zv_aload_n K 1 eX8_become_17 rfl ?_
  refine zv_gI K eX8_become_18 fl_X8_16 hf (fun v5 hf => ?_)
  refine zv_pI K eX8_become_21 fl_X8_16 ff_8_2 rfl hf (fun h6 hf => ?_)
  refine zv_aload_n K 0 eX8_become_24 rfl ?_
  refine zv_aload_n K 1 eX8_become_25 rfl ?_
  refine zv_gI K eX8_become_26 fl_X8_19 hf (fun v7 hf => ?_)
  refine zv_pI K eX8_become_29 fl_X8_19 ff_8_3 rfl hf (fun h8 hf => ?_)
  refine zv_aload_n K 0 eX8_become_32 rfl ?_
  refine zv_aload_n K 1 eX8_become_33 rfl ?_
  refine zv_gI K eX8_become_34 fl_X8_22 hf (fun v9 hf => ?_)
  refine zv_pI K eX8_become_37 fl_X8_22 ff_8_4 rfl hf (fun h10 hf => ?_)
  have e9 := Option.some.inj hf; subst e9
  exact zv_vret K eX8_become_40 hp
theorem c_X8_become (l : Launch) (G : zG) {x0 : Option Nat} {x1 : Option Nat} {h : zH} {nx : Nat} {x : zH} (hf : f_X8_become x0 x1 h = some x) : z_Ct l G yX8_become cX8_become 2 none rm_X8_become [tA x0, tA x1] h nx none x nx 0 0 :=
  z_enter [(0, tA x0), (1, tA x1)] (by decide +kernel) (Nat.le_of_ble_eq_true rfl) rfl (fun X hl hR hG hL K hq => by
    subst hl; subst hG
    exact v_X8_become K ⟨hR, hL⟩ hf hq)
def P_X6_become_83 (X : zX) (nx : Nat) : ((Option Nat) × (Option Nat) × Int32 × zH) ⊕ (zH) → Prop := z_PL (fun s => zV X 83 [(0, tA s.1), (1, tA s.2.1), (2, tI s.2.2.1)] [] s.2.2.2 nx 0 0) (z_P0V X nx)
def P_X6_become_44 (X : zX) (nx : Nat) : ((Option Nat) × (Option Nat) × Int32 × zH) ⊕ (zH) → Prop := z_PL (fun s => zV X 44 [(0, tA s.1), (1, tA s.2.1), (2, tI s.2.2.1)] [] s.2.2.2 nx 0 0) (z_P0V X nx)
set_option maxHeartbeats 4000000 in
set_option maxRecDepth 100000 in
theorem v_X6_become_c83 {X : zX} (K : z_Ok X cX6_become none RX6 "become") (hX : z_Xo X rm_X6_become 3) {x0 : Option Nat} {x1 : Option Nat} {x2 : Int32} {h : zH} {nx : Nat} {x : (((Option Nat) × (Option Nat) × Int32 × zH) ⊕ (zH))} (hf : f_X6_become_c83 x0 x1 x2 h = some x) (hp : P_X6_become_83 X nx x) : zV X 83 [(0, tA x0), (1, tA x1), (2, tI x2)] [] h nx 0 0 := by
  unfold f_X6_become_c83 at hf
  refine zv_iload_n K 2 eX6_become_83 rfl ?_
  refine zv_aload_n K 0 eX6_become_84 rfl ?_
  refine zv_gI K eX6_become_85 fl_X6_53 hf (fun v1 hf => ?_)
  refine zv_icmp_ge K 112 eX6_become_88 (by decide) hf (fun _ hf => ?_) (fun _ hf => ?_)
  · obtain ⟨w9, hf9, e9⟩ := z_i1_inv hf; clear hf; subst e9; have hf := hf9; clear hf9
    refine zv_aload_n K 0 eX6_become_112 rfl ?_
    refine zv_aload_n K 1 eX6_become_113 rfl ?_
    refine zv_gI K eX6_become_114 fl_X6_27 hf (fun v2 hf => ?_)
    refine zv_pI K eX6_become_117 fl_X6_27 ff_6_7 rfl hf (fun h3 hf => ?_)
    refine zv_aload_n K 0 eX6_become_120 rfl ?_
    refine zv_aload_n K 1 eX6_become_121 rfl ?_
    refine zv_gI K eX6_become_122 fl_X6_59 hf (fun v4 hf => ?_)
    refine zv_pI K eX6_become_125 fl_X6_59 ff_6_8 rfl hf (fun h5 hf => ?_)
    have e9 := Option.some.inj hf; subst e9
    exact zv_vret K eX6_become_128 hp
  · refine zv_aload_n K 0 eX6_become_91 rfl ?_
    refine zv_gA K eX6_become_92 fl_X6_23 hf (fun v6 hf => ?_)
    refine zv_iload_n K 2 eX6_become_95 rfl ?_
    refine zv_aA K eX6_become_96 hf (fun v7 hf => ?_)
    refine zv_aload_n K 1 eX6_become_97 rfl ?_
    refine zv_gA K eX6_become_98 fl_X6_23 hf (fun v8 hf => ?_)
    refine zv_iload_n K 2 eX6_become_101 rfl ?_
    refine zv_aA K eX6_become_102 hf (fun v9 hf => ?_)
    obtain ⟨q10, hq10, hf⟩ := z_bind_inv hf
    obtain ⟨h11, eh11, hf⟩ := z_bind_inv hf
    refine zv_cV0 K [tA v9] [] eX6_become_103 lk_X6_56 md_X8_become im_X8_become sl_X8_become rfl rfl rfl rfl (Nat.le_of_ble_eq_true rfl) hq10 (c_X8_become X.1.2.1 X.2.2.1 eh11) rfl rfl ⟨z_le (z_fr hX) (by decide), z_le (z_lo hX) (by decide)⟩ ⟨Nat.zero_le _, Nat.zero_le _⟩ ?_
    refine zv_iinc K (x2 + (1 : Int32)) 2 [(2, tI (x2 + (1 : Int32))), (0, tA x0), (1, tA x1)] eX6_become_106 rfl rfl (z_lt hX.2 (by decide)) rfl ?_
    refine zv_goto K 83 eX6_become_109 (by decide) ?_
    cases hf
    exact zv_sub [1, 2, 0] rfl (show zV X 83 [(0, tA x0), (1, tA x1), (2, tI (x2 + (1 : Int32)))] [] h11 nx 0 0 from hp)
theorem v_X6_become_b83 {X : zX} (K : z_Ok X cX6_become none RX6 "become") (hX : z_Xo X rm_X6_become 3) {x0 : Option Nat} {x1 : Option Nat} {x2 : Int32} {h : zH} {nx : Nat} {x : (zH)} (hf : f_X6_become_b83 x0 x1 x2 h = some x) (hp : z_P0V X nx x) : zV X 83 [(0, tA x0), (1, tA x1), (2, tI x2)] [] h nx 0 0 :=
  z_it_ind (P := fun s : (Option Nat) × (Option Nat) × Int32 × zH => zV X 83 [(0, tA s.1), (1, tA s.2.1), (2, tI s.2.2.1)] [] s.2.2.2 nx 0 0) (fun s y hb hy => v_X6_become_c83 K hX hb (z_PL_of hy hp)) hf
set_option maxHeartbeats 4000000 in
set_option maxRecDepth 100000 in
theorem v_X6_become_c44 {X : zX} (K : z_Ok X cX6_become none RX6 "become") (hX : z_Xo X rm_X6_become 3) {x0 : Option Nat} {x1 : Option Nat} {x2 : Int32} {h : zH} {nx : Nat} {x : (((Option Nat) × (Option Nat) × Int32 × zH) ⊕ (zH))} (hf : f_X6_become_c44 x0 x1 x2 h = some x) (hp : P_X6_become_44 X nx x) : zV X 44 [(0, tA x0), (1, tA x1), (2, tI x2)] [] h nx 0 0 := by
  unfold f_X6_become_c44 at hf
  refine zv_iload_n K 2 eX6_become_44 rfl ?_
  refine zv_aload_n K 0 eX6_become_45 rfl ?_
  refine zv_gI K eX6_become_46 fl_X6_46 hf (fun v1 hf => ?_)
  refine zv_icmp_ge K 73 eX6_become_49 (by decide) hf (fun _ hf => ?_) (fun _ hf => ?_)
  · obtain ⟨w9, hf9, e9⟩ := z_i1_inv hf; clear hf; subst e9; have hf := hf9; clear hf9
    refine zv_aload_n K 0 eX6_become_73 rfl ?_
    refine zv_aload_n K 1 eX6_become_74 rfl ?_
    refine zv_gI K eX6_become_75 fl_X6_53 hf (fun v2 hf => ?_)
    refine zv_pI K eX6_become_78 fl_X6_53 ff_6_6 rfl hf (fun h3 hf => ?_)
    refine zv_iconst K (0 : Int32) eX6_become_81 (by decide) ?_
    refine zv_istore_n K [(2, tI (0 : Int32)), (0, tA x0), (1, tA x1)] eX6_become_82 (z_lt hX.2 (by decide)) rfl ?_
    exact zv_sub [1, 2, 0] rfl (v_X6_become_b83 K hX hf hp)
  · refine zv_aload_n K 0 eX6_become_52 rfl ?_
    refine zv_gA K eX6_become_53 fl_X6_17 hf (fun v4 hf => ?_)
    refine zv_iload_n K 2 eX6_become_56 rfl ?_
    refine zv_aA K eX6_become_57 hf (fun v5 hf => ?_)
    refine zv_aload_n K 1 eX6_become_58 rfl ?_
    refine zv_gA K eX6_become_59 fl_X6_17 hf (fun v6 hf => ?_)
    refine zv_iload_n K 2 eX6_become_62 rfl ?_
    refine zv_aA K eX6_become_63 hf (fun v7 hf => ?_)
    obtain ⟨q8, hq8, hf⟩ := z_bind_inv hf
    obtain ⟨h9, eh9, hf⟩ := z_bind_inv hf
    refine zv_cV0 K [tA v7] [] eX6_become_64 lk_X6_49 md_X0_become im_X0_become sl_X0_become rfl rfl rfl rfl (Nat.le_of_ble_eq_true rfl) hq8 (c_X0_become X.1.2.1 X.2.2.1 eh9) rfl rfl ⟨z_le (z_fr hX) (by decide), z_le (z_lo hX) (by decide)⟩ ⟨Nat.zero_le _, Nat.zero_le _⟩ ?_
    refine zv_iinc K (x2 + (1 : Int32)) 2 [(2, tI (x2 + (1 : Int32))), (0, tA x0), (1, tA x1)] eX6_become_67 rfl rfl (z_lt hX.2 (by decide)) rfl ?_
    refine zv_goto K 44 eX6_become_70 (by decide) ?_
    cases hf
    exact zv_sub [1, 2, 0] rfl (show zV X 44 [(0, tA x0), (1, tA x1), (2, tI (x2 + (1 : Int32)))] [] h9 nx 0 0 from hp)
theorem v_X6_become_b44 {X : zX} (K : z_Ok X cX6_become none RX6 "become") (hX : z_Xo X rm_X6_become 3) {x0 : Option Nat} {x1 : Option Nat} {x2 : Int32} {h : zH} {nx : Nat} {x : (zH)} (hf : f_X6_become_b44 x0 x1 x2 h = some x) (hp : z_P0V X nx x) : zV X 44 [(0, tA x0), (1, tA x1), (2, tI x2)] [] h nx 0 0 :=
  z_it_ind (P := fun s : (Option Nat) × (Option Nat) × Int32 × zH => zV X 44 [(0, tA s.1), (1, tA s.2.1), (2, tI s.2.2.1)] [] s.2.2.2 nx 0 0) (fun s y hb hy => v_X6_become_c44 K hX hb (z_PL_of hy hp)) hf
set_option maxHeartbeats 4000000 in
set_option maxRecDepth 100000 in
theorem v_X6_become {X : zX} (K : z_Ok X cX6_become none RX6 "become") (hX : z_Xo X rm_X6_become 3) {x0 : Option Nat} {x1 : Option Nat} {h : zH} {nx : Nat} {x : (zH)} (hf : f_X6_become x0 x1 h = some x) (hp : z_P0V X nx x) : zV X 0 [(0, tA x0), (1, tA x1)] [] h nx 0 0 := by
  unfold f_X6_become at hf
  refine zv_aload_n K 0 eX6_become_0 rfl ?_
  refine zv_aload_n K 1 eX6_become_1 rfl ?_
  refine zv_gJ K eX6_become_2 fl_X6_33 hf (fun v1 hf => ?_)
  refine zv_pJ K eX6_become_5 fl_X6_33 ff_6_0 rfl hf (fun h2 hf => ?_)
  refine zv_aload_n K 0 eX6_become_8 rfl ?_
  refine zv_aload_n K 1 eX6_become_9 rfl ?_
  refine zv_gJ K eX6_become_10 fl_X6_37 hf (fun v3 hf => ?_)
  refine zv_pJ K eX6_become_13 fl_X6_37 ff_6_1 rfl hf (fun h4 hf => ?_)
  refine zv_aload_n K 1 eX6_become_16 rfl ?_
  refine zv_gA K eX6_become_17 fl_X6_9 hf (fun v5 hf => ?_)
  refine zv_iconst K (0 : Int32) eX6_become_20 (by decide) ?_
  refine zv_aload_n K 0 eX6_become_21 rfl ?_
  refine zv_gA K eX6_become_22 fl_X6_9 hf (fun v6 hf => ?_)
  refine zv_iconst K (0 : Int32) eX6_become_25 (by decide) ?_
  refine zv_aload_n K 0 eX6_become_26 rfl ?_
  refine zv_gA K eX6_become_27 fl_X6_9 hf (fun v7 hf => ?_)
  refine zv_len K eX6_become_30 hf (fun v8 hf => ?_)
  refine zv_cp K eX6_become_31 ac_X6_40 ⟨z_le (z_fr hX) (by decide), z_le (z_lo hX) (by decide)⟩ (Nat.le_of_ble_eq_true rfl) hf (fun h9 hf => ?_)
  refine zv_aload_n K 0 eX6_become_34 rfl ?_
  refine zv_aload_n K 1 eX6_become_35 rfl ?_
  refine zv_gI K eX6_become_36 fl_X6_46 hf (fun v10 hf => ?_)
  refine zv_pI K eX6_become_39 fl_X6_46 ff_6_4 rfl hf (fun h11 hf => ?_)
  refine zv_iconst K (0 : Int32) eX6_become_42 (by decide) ?_
  refine zv_istore_n K [(2, tI (0 : Int32)), (0, tA x0), (1, tA x1)] eX6_become_43 (z_lt hX.2 (by decide)) rfl ?_
  exact zv_sub [1, 2, 0] rfl (v_X6_become_b44 K hX hf hp)
theorem c_X6_become (l : Launch) (G : zG) {x0 : Option Nat} {x1 : Option Nat} {h : zH} {nx : Nat} {x : zH} (hf : f_X6_become x0 x1 h = some x) : z_Ct l G yX6_become cX6_become 3 none rm_X6_become [tA x0, tA x1] h nx none x nx 0 0 :=
  z_enter [(0, tA x0), (1, tA x1)] (by decide +kernel) (Nat.le_of_ble_eq_true rfl) rfl (fun X hl hR hG hL K hq => by
    subst hl; subst hG
    exact v_X6_become K ⟨hR, hL⟩ hf hq)
set_option maxHeartbeats 4000000 in
set_option maxRecDepth 100000 in
theorem v_X6_lyingCells {X : zX} (K : z_Ok X cX6_lyingCells (some .long) RX6 "lyingCells") (hX : z_Xo X rm_X6_lyingCells 1) {x0 : Option Nat} {h : zH} {nx : Nat} {x : (Int64 × zH)} (hf : f_X6_lyingCells x0 h = some x) (hp : z_P0J X nx x) : zV X 0 [(0, tA x0)] [] h nx 0 0 := by
  unfold f_X6_lyingCells at hf
  refine zv_aload_n K 0 eX6_lyingCells_0 rfl ?_
  refine zv_gA K eX6_lyingCells_1 fl_X6_9 hf (fun v1 hf => ?_)
  refine zv_iconst K (0 : Int32) eX6_lyingCells_4 (by decide) ?_
  refine zv_aJ K eX6_lyingCells_5 hf (fun v2 hf => ?_)
  refine zv_aload_n K 0 eX6_lyingCells_6 rfl ?_
  refine zv_gA K eX6_lyingCells_7 fl_X6_9 hf (fun v3 hf => ?_)
  refine zv_iconst K (1 : Int32) eX6_lyingCells_10 (by decide) ?_
  refine zv_aJ K eX6_lyingCells_11 hf (fun v4 hf => ?_)
  refine zv_lor K eX6_lyingCells_12 ?_
  refine zv_aload_n K 0 eX6_lyingCells_13 rfl ?_
  refine zv_gA K eX6_lyingCells_14 fl_X6_9 hf (fun v5 hf => ?_)
  refine zv_iconst K (2 : Int32) eX6_lyingCells_17 (by decide) ?_
  refine zv_aJ K eX6_lyingCells_18 hf (fun v6 hf => ?_)
  refine zv_lor K eX6_lyingCells_19 ?_
  refine zv_aload_n K 0 eX6_lyingCells_20 rfl ?_
  refine zv_gA K eX6_lyingCells_21 fl_X6_9 hf (fun v7 hf => ?_)
  refine zv_iconst K (3 : Int32) eX6_lyingCells_24 (by decide) ?_
  refine zv_aJ K eX6_lyingCells_25 hf (fun v8 hf => ?_)
  refine zv_lor K eX6_lyingCells_26 ?_
  have e9 := Option.some.inj hf; subst e9
  exact zv_lret K eX6_lyingCells_27 hp
theorem c_X6_lyingCells (l : Launch) (G : zG) {x0 : Option Nat} {h : zH} {nx : Nat} {x : Int64 × zH} (hf : f_X6_lyingCells x0 h = some x) : z_Ct l G yX6_lyingCells cX6_lyingCells 1 (some .long) rm_X6_lyingCells [tA x0] h nx (some (tJ x.1)) x.2 nx 0 0 :=
  z_enter [(0, tA x0)] (by decide +kernel) (Nat.le_of_ble_eq_true rfl) rfl (fun X hl hR hG hL K hq => by
    subst hl; subst hG
    exact v_X6_lyingCells K ⟨hR, hL⟩ hf hq)
set_option maxHeartbeats 4000000 in
set_option maxRecDepth 100000 in
theorem v_X6_inUse {X : zX} (K : z_Ok X cX6_inUse (some .long) RX6 "inUse") (hX : z_Xo X rm_X6_inUse 1) {x0 : Option Nat} {h : zH} {nx : Nat} {x : (Int64 × zH)} (hf : f_X6_inUse x0 h = some x) (hp : z_P0J X nx x) : zV X 0 [(0, tA x0)] [] h nx 0 0 := by
  unfold f_X6_inUse at hf
  refine zv_aload_n K 0 eX6_inUse_0 rfl ?_
  refine zv_gJ K eX6_inUse_1 fl_X6_37 hf (fun v1 hf => ?_)
  refine zv_aload_n K 0 eX6_inUse_4 rfl ?_
  obtain ⟨q2, hq2, hf⟩ := z_bind_inv hf
  obtain ⟨v4, h3, eh3, hf⟩ := z_b2_inv hf
  refine zv_cV0 K [] [tJ v1] eX6_inUse_5 lk_X6_62 md_X6_lyingCells im_X6_lyingCells sl_X6_lyingCells rfl rfl rfl rfl (Nat.le_of_ble_eq_true rfl) hq2 (c_X6_lyingCells X.1.2.1 X.2.2.1 eh3) rfl rfl ⟨z_le (z_fr hX) (by decide), z_le (z_lo hX) (by decide)⟩ ⟨Nat.zero_le _, Nat.zero_le _⟩ ?_
  refine zv_lor K eX6_inUse_8 ?_
  have e9 := Option.some.inj hf; subst e9
  exact zv_lret K eX6_inUse_9 hp
theorem c_X6_inUse (l : Launch) (G : zG) {x0 : Option Nat} {h : zH} {nx : Nat} {x : Int64 × zH} (hf : f_X6_inUse x0 h = some x) : z_Ct l G yX6_inUse cX6_inUse 1 (some .long) rm_X6_inUse [tA x0] h nx (some (tJ x.1)) x.2 nx 0 0 :=
  z_enter [(0, tA x0)] (by decide +kernel) (Nat.le_of_ble_eq_true rfl) rfl (fun X hl hR hG hL K hq => by
    subst hl; subst hG
    exact v_X6_inUse K ⟨hR, hL⟩ hf hq)
set_option maxHeartbeats 4000000 in
set_option maxRecDepth 100000 in
theorem v_X6_isFree {X : zX} (K : z_Ok X cX6_isFree (some .boolean) RX6 "isFree") (hX : z_Xo X rm_X6_isFree 2) {x0 : Option Nat} {x1 : Int32} {h : zH} {nx : Nat} {x : (Int32 × zH)} (hf : f_X6_isFree x0 x1 h = some x) (hp : z_P0I X nx x) : zV X 0 [(0, tA x0), (1, tI x1)] [] h nx 0 0 := by
  unfold f_X6_isFree at hf
  refine zv_iload_n K 1 eX6_isFree_0 rfl ?_
  refine zv_if_lt K 26 eX6_isFree_1 (by decide) hf (fun _ hf => ?_) (fun _ hf => ?_)
  · refine zv_iconst K (0 : Int32) eX6_isFree_26 (by decide) ?_
    cases hf
    exact zv_zret K eX6_isFree_27 (by decide) hp
  · refine zv_aload_n K 0 eX6_isFree_4 rfl ?_
    refine zv_gJ K eX6_isFree_5 fl_X6_33 hf (fun v1 hf => ?_)
    refine zv_aload_n K 0 eX6_isFree_8 rfl ?_
    refine zv_gJ K eX6_isFree_9 fl_X6_37 hf (fun v2 hf => ?_)
    refine zv_lor K eX6_isFree_12 ?_
    refine zv_lconst K (1 : Int64) eX6_isFree_13 (by decide) ?_
    refine zv_iload_n K 1 eX6_isFree_14 rfl ?_
    refine zv_lshl K eX6_isFree_15 ?_
    refine zv_land K eX6_isFree_16 ?_
    refine zv_lconst K (0 : Int64) eX6_isFree_17 (by decide) ?_
    refine zv_lcmp K eX6_isFree_18 ?_
    refine zv_if_ne K 26 eX6_isFree_19 (by decide) hf (fun _ hf => ?_) (fun _ hf => ?_)
    · refine zv_iconst K (0 : Int32) eX6_isFree_26 (by decide) ?_
      cases hf
      exact zv_zret K eX6_isFree_27 (by decide) hp
    · refine zv_iconst K (1 : Int32) eX6_isFree_22 (by decide) ?_
      refine zv_goto K 27 eX6_isFree_23 (by decide) ?_
      cases hf
      exact zv_zret K eX6_isFree_27 (by decide) hp
theorem c_X6_isFree (l : Launch) (G : zG) {x0 : Option Nat} {x1 : Int32} {h : zH} {nx : Nat} {x : Int32 × zH} (hf : f_X6_isFree x0 x1 h = some x) : z_Ct l G yX6_isFree cX6_isFree 2 (some .boolean) rm_X6_isFree [tA x0, tI x1] h nx (some (tI x.1)) x.2 nx 0 0 :=
  z_enter [(0, tA x0), (1, tI x1)] (by decide +kernel) (Nat.le_of_ble_eq_true rfl) rfl (fun X hl hR hG hL K hq => by
    subst hl; subst hG
    exact v_X6_isFree K ⟨hR, hL⟩ hf hq)
def P_X6_canLie_9 (X : zX) (nx : Nat) : ((Option Nat) × Int32 × Int32 × (Option Nat) × Int64 × Int32 × Int32 × zH) ⊕ (Int32 × zH) → Prop := z_PL (fun s => zV X 9 [(0, tA s.1), (2, tI s.2.1), (3, tI s.2.2.1), (4, tA s.2.2.2.1), (5, tJ s.2.2.2.2.1), (7, tI s.2.2.2.2.2.1), (8, tI s.2.2.2.2.2.2.1)] [] s.2.2.2.2.2.2.2 nx 0 0) (z_P0I X nx)
set_option maxHeartbeats 4000000 in
set_option maxRecDepth 100000 in
theorem v_X6_canLie_b37 {X : zX} (K : z_Ok X cX6_canLie (some .boolean) RX6 "canLie") (hX : z_Xo X rm_X6_canLie 9) {x0 : Option Nat} {x2 : Int32} {x3 : Int32} {x4 : Option Nat} {x5 : Int64} {x7 : Int32} {x8 : Int32} {h : zH} {nx : Nat} {x : (((Option Nat) × Int32 × Int32 × (Option Nat) × Int64 × Int32 × Int32 × zH) ⊕ (Int32 × zH))} (hf : f_X6_canLie_b37 X.2.2.1.2.2.1 x0 x2 x3 x4 x5 x7 x8 h = some x) (hp : P_X6_canLie_9 X nx x) : zV X 37 [(0, tA x0), (2, tI x2), (3, tI x3), (4, tA x4), (5, tJ x5), (7, tI x7), (8, tI x8)] [] h nx 0 0 := by
  unfold f_X6_canLie_b37 at hf
  refine zv_aload_n K 0 eX6_canLie_37 rfl ?_
  refine zv_iload K 5 eX6_canLie_38 rfl ?_
  obtain ⟨q1, hq1, hf⟩ := z_bind_inv hf
  obtain ⟨v3, h2, eh2, hf⟩ := z_b2_inv hf
  refine zv_cV0 K [tI x7] [] eX6_canLie_40 lk_X6_70 md_X6_isFree im_X6_isFree sl_X6_isFree rfl rfl rfl rfl (Nat.le_of_ble_eq_true rfl) hq1 (c_X6_isFree X.1.2.1 X.2.2.1 eh2) rfl rfl ⟨z_le (z_fr hX) (by decide), z_le (z_lo hX) (by decide)⟩ ⟨Nat.zero_le _, Nat.zero_le _⟩ ?_
  refine zv_if_eq K 58 eX6_canLie_43 (by decide) hf (fun _ hf => ?_) (fun _ hf => ?_)
  · obtain ⟨w9, hf9, e9⟩ := z_i1_inv hf; clear hf; subst e9; have hf := hf9; clear hf9
    refine zv_iconst K (0 : Int32) eX6_canLie_58 (by decide) ?_
    cases hf
    exact zv_zret K eX6_canLie_59 (by decide) hp
  · refine zv_lload K 4 eX6_canLie_46 rfl ?_
    refine zv_lconst K (1 : Int64) eX6_canLie_48 (by decide) ?_
    refine zv_iload K 5 eX6_canLie_49 rfl ?_
    refine zv_lshl K eX6_canLie_51 ?_
    refine zv_land K eX6_canLie_52 ?_
    refine zv_lconst K (0 : Int64) eX6_canLie_53 (by decide) ?_
    refine zv_lcmp K eX6_canLie_54 ?_
    refine zv_if_eq K 60 eX6_canLie_55 (by decide) hf (fun _ hf => ?_) (fun _ hf => ?_)
    · refine zv_lload K 4 eX6_canLie_60 rfl ?_
      refine zv_lconst K (1 : Int64) eX6_canLie_62 (by decide) ?_
      refine zv_iload K 5 eX6_canLie_63 rfl ?_
      refine zv_lshl K eX6_canLie_65 ?_
      refine zv_lor K eX6_canLie_66 ?_
      refine zv_lstore K [(5, tJ (x5 ||| ((1 : Int64) <<< (Int32.toInt64 x7 &&& 63)))), (0, tA x0), (2, tI x2), (3, tI x3), (4, tA x4), (7, tI x7), (8, tI x8)] eX6_canLie_67 (z_lt hX.2 (by decide)) rfl ?_
      refine zv_aload K 4 eX6_canLie_69 rfl ?_
      refine zv_iload K 6 eX6_canLie_71 rfl ?_
      refine zv_iload K 5 eX6_canLie_73 rfl ?_
      refine zv_sI K eX6_canLie_75 hf (fun h4 hf => ?_)
      refine zv_iinc K (x8 + (1 : Int32)) 6 [(8, tI (x8 + (1 : Int32))), (5, tJ (x5 ||| ((1 : Int64) <<< (Int32.toInt64 x7 &&& 63)))), (0, tA x0), (2, tI x2), (3, tI x3), (4, tA x4), (7, tI x7)] eX6_canLie_76 rfl rfl (z_lt hX.2 (by decide)) rfl ?_
      refine zv_goto K 9 eX6_canLie_79 (by decide) ?_
      cases hf
      exact zv_sub [2, 3, 4, 5, 1, 6, 0] rfl (show zV X 9 [(0, tA x0), (2, tI x2), (3, tI x3), (4, tA x4), (5, tJ (x5 ||| ((1 : Int64) <<< (Int32.toInt64 x7 &&& 63)))), (7, tI x7), (8, tI (x8 + (1 : Int32)))] [] h4 nx 0 0 from hp)
    · obtain ⟨w9, hf9, e9⟩ := z_i1_inv hf; clear hf; subst e9; have hf := hf9; clear hf9
      refine zv_iconst K (0 : Int32) eX6_canLie_58 (by decide) ?_
      cases hf
      exact zv_zret K eX6_canLie_59 (by decide) hp
set_option maxHeartbeats 4000000 in
set_option maxRecDepth 100000 in
theorem v_X6_canLie_c9 {X : zX} (K : z_Ok X cX6_canLie (some .boolean) RX6 "canLie") (hX : z_Xo X rm_X6_canLie 9) {x0 : Option Nat} {x2 : Int32} {x3 : Int32} {x4 : Option Nat} {x5 : Int64} {x7 : Int32} {x8 : Int32} {h : zH} {nx : Nat} {x : (((Option Nat) × Int32 × Int32 × (Option Nat) × Int64 × Int32 × Int32 × zH) ⊕ (Int32 × zH))} (hf : f_X6_canLie_c9 X.2.2.1.2.2.1 x0 x2 x3 x4 x5 x7 x8 h = some x) (hp : P_X6_canLie_9 X nx x) : zV X 9 [(0, tA x0), (2, tI x2), (3, tI x3), (4, tA x4), (5, tJ x5), (7, tI x7), (8, tI x8)] [] h nx 0 0 := by
  unfold f_X6_canLie_c9 at hf
  refine zv_iload K 6 eX6_canLie_9 rfl ?_
  refine zv_iload_n K 1 eX6_canLie_11 rfl ?_
  refine zv_icmp_ge K 82 eX6_canLie_12 (by decide) hf (fun _ hf => ?_) (fun _ hf => ?_)
  · obtain ⟨w9, hf9, e9⟩ := z_i1_inv hf; clear hf; subst e9; have hf := hf9; clear hf9
    refine zv_iconst K (1 : Int32) eX6_canLie_82 (by decide) ?_
    cases hf
    exact zv_zret K eX6_canLie_83 (by decide) hp
  · refine zv_iload K 6 eX6_canLie_15 rfl ?_
    refine zv_if_le K 37 eX6_canLie_17 (by decide) hf (fun _ hf => ?_) (fun _ hf => ?_)
    · exact zv_sub [0, 1, 2, 3, 4, 5, 6] rfl (v_X6_canLie_b37 K hX hf hp)
    · refine zv_iload K 5 eX6_canLie_20 rfl ?_
      refine zv_iload_n K 2 eX6_canLie_22 rfl ?_
      refine zv_iconst K (2 : Int32) eX6_canLie_23 (by decide) ?_
      refine zv_iload K 6 eX6_canLie_24 rfl ?_
      refine zv_iconst K (1 : Int32) eX6_canLie_26 (by decide) ?_
      refine zv_isub K eX6_canLie_27 ?_
      refine zv_imul K eX6_canLie_28 ?_
      refine zv_ishr K eX6_canLie_29 ?_
      refine zv_iconst K (3 : Int32) eX6_canLie_30 (by decide) ?_
      refine zv_iand K eX6_canLie_31 ?_
      obtain ⟨v2, h1, eh1, hf⟩ := z_b2_inv hf
      refine zv_cS0 K [tI x7, tI ((x3 >>> (((2 : Int32) * (x8 - (1 : Int32))) &&& 31)) &&& (3 : Int32))] [] eX6_canLie_32 lk_X6_66 md_X10_beside st_X10_beside rfl rfl (Nat.le_of_ble_eq_true rfl) (c_X10_beside X.1.2.1 X.2.2.1 eh1) rfl rfl ⟨z_le (z_fr hX) (by decide), z_le (z_lo hX) (by decide)⟩ ⟨Nat.zero_le _, Nat.zero_le _⟩ ?_
      refine zv_istore K [(7, tI v2), (0, tA x0), (2, tI x2), (3, tI x3), (4, tA x4), (5, tJ x5), (8, tI x8)] eX6_canLie_35 (z_lt hX.2 (by decide)) rfl ?_
      exact zv_sub [1, 2, 3, 4, 5, 0, 6] rfl (v_X6_canLie_b37 K hX hf hp)
theorem v_X6_canLie_b9 {X : zX} (K : z_Ok X cX6_canLie (some .boolean) RX6 "canLie") (hX : z_Xo X rm_X6_canLie 9) {x0 : Option Nat} {x2 : Int32} {x3 : Int32} {x4 : Option Nat} {x5 : Int64} {x7 : Int32} {x8 : Int32} {h : zH} {nx : Nat} {x : (Int32 × zH)} (hf : f_X6_canLie_b9 X.2.2.1.2.2.1 x0 x2 x3 x4 x5 x7 x8 h = some x) (hp : z_P0I X nx x) : zV X 9 [(0, tA x0), (2, tI x2), (3, tI x3), (4, tA x4), (5, tJ x5), (7, tI x7), (8, tI x8)] [] h nx 0 0 :=
  z_it_ind (P := fun s : (Option Nat) × Int32 × Int32 × (Option Nat) × Int64 × Int32 × Int32 × zH => zV X 9 [(0, tA s.1), (2, tI s.2.1), (3, tI s.2.2.1), (4, tA s.2.2.2.1), (5, tJ s.2.2.2.2.1), (7, tI s.2.2.2.2.2.1), (8, tI s.2.2.2.2.2.2.1)] [] s.2.2.2.2.2.2.2 nx 0 0) (fun s y hb hy => v_X6_canLie_c9 K hX hb (z_PL_of hy hp)) hf
set_option maxHeartbeats 4000000 in
set_option maxRecDepth 100000 in
theorem v_X6_canLie {X : zX} (K : z_Ok X cX6_canLie (some .boolean) RX6 "canLie") (hX : z_Xo X rm_X6_canLie 9) {x0 : Option Nat} {x1 : Int32} {x2 : Int32} {x3 : Int32} {x4 : Option Nat} {h : zH} {nx : Nat} {x : (Int32 × zH)} (hf : f_X6_canLie X.2.2.1.2.2.1 x0 x1 x2 x3 x4 h = some x) (hp : z_P0I X nx x) : zV X 0 [(0, tA x0), (1, tI x1), (2, tI x2), (3, tI x3), (4, tA x4)] [] h nx 0 0 := by
  unfold f_X6_canLie at hf
  refine zv_lconst K (0 : Int64) eX6_canLie_0 (by decide) ?_
  refine zv_lstore K [(5, tJ (0 : Int64)), (0, tA x0), (1, tI x1), (2, tI x2), (3, tI x3), (4, tA x4)] eX6_canLie_1 (z_lt hX.2 (by decide)) rfl ?_
  refine zv_iload_n K 2 eX6_canLie_3 rfl ?_
  refine zv_istore K [(7, tI x1), (5, tJ (0 : Int64)), (0, tA x0), (1, tI x1), (2, tI x2), (3, tI x3), (4, tA x4)] eX6_canLie_4 (z_lt hX.2 (by decide)) rfl ?_
  refine zv_iconst K (0 : Int32) eX6_canLie_6 (by decide) ?_
  refine zv_istore K [(8, tI (0 : Int32)), (7, tI x1), (5, tJ (0 : Int64)), (0, tA x0), (1, tI x1), (2, tI x2), (3, tI x3), (4, tA x4)] eX6_canLie_7 (z_lt hX.2 (by decide)) rfl ?_
  exact zv_sub [3, 5, 6, 7, 2, 1, 0] rfl (v_X6_canLie_b9 K hX hf hp)
theorem c_X6_canLie (l : Launch) (G : zG) {x0 : Option Nat} {x1 : Int32} {x2 : Int32} {x3 : Int32} {x4 : Option Nat} {h : zH} {nx : Nat} {x : Int32 × zH} (hf : f_X6_canLie G.2.2.1 x0 x1 x2 x3 x4 h = some x) : z_Ct l G yX6_canLie cX6_canLie 9 (some .boolean) rm_X6_canLie [tA x0, tI x1, tI x2, tI x3, tA x4] h nx (some (tI x.1)) x.2 nx 0 0 :=
  z_enter [(0, tA x0), (1, tI x1), (2, tI x2), (3, tI x3), (4, tA x4)] (by decide +kernel) (Nat.le_of_ble_eq_true rfl) rfl (fun X hl hR hG hL K hq => by
    subst hl; subst hG
    exact v_X6_canLie K ⟨hR, hL⟩ hf hq)
def P_X6_addArm_26 (X : zX) (nx : Nat) : ((Option Nat) × (Option Nat) × Int32 × Int32 × zH) ⊕ (zH) → Prop := z_PL (fun s => zV X 26 [(0, tA s.1), (1, tA s.2.1), (2, tI s.2.2.1), (3, tI s.2.2.2.1)] [] s.2.2.2.2 nx 0 0) (z_P0V X nx)
set_option maxHeartbeats 4000000 in
set_option maxRecDepth 100000 in
theorem v_X6_addArm_c26 {X : zX} (K : z_Ok X cX6_addArm none RX6 "addArm") (hX : z_Xo X rm_X6_addArm 4) {x0 : Option Nat} {x1 : Option Nat} {x2 : Int32} {x3 : Int32} {h : zH} {nx : Nat} {x : (((Option Nat) × (Option Nat) × Int32 × Int32 × zH) ⊕ (zH))} (hf : f_X6_addArm_c26 x0 x1 x2 x3 h = some x) (hp : P_X6_addArm_26 X nx x) : zV X 26 [(0, tA x0), (1, tA x1), (2, tI x2), (3, tI x3)] [] h nx 0 0 := by
  unfold f_X6_addArm_c26 at hf
  refine zv_iload_n K 3 eX6_addArm_26 rfl ?_
  refine zv_iload_n K 2 eX6_addArm_27 rfl ?_
  refine zv_icmp_ge K 51 eX6_addArm_28 (by decide) hf (fun _ hf => ?_) (fun _ hf => ?_)
  · obtain ⟨w9, hf9, e9⟩ := z_i1_inv hf; clear hf; subst e9; have hf := hf9; clear hf9
    have e9 := Option.some.inj hf; subst e9
    exact zv_vret K eX6_addArm_51 hp
  · refine zv_aload_n K 0 eX6_addArm_31 rfl ?_
    refine zv_dup K eX6_addArm_32 rfl ?_
    refine zv_gJ K eX6_addArm_33 fl_X6_37 hf (fun v1 hf => ?_)
    refine zv_lconst K (1 : Int64) eX6_addArm_36 (by decide) ?_
    refine zv_aload_n K 1 eX6_addArm_37 rfl ?_
    refine zv_iload_n K 3 eX6_addArm_38 rfl ?_
    refine zv_aI K eX6_addArm_39 hf (fun v2 hf => ?_)
    refine zv_lshl K eX6_addArm_40 ?_
    refine zv_lor K eX6_addArm_41 ?_
    refine zv_pJ K eX6_addArm_42 fl_X6_37 ff_6_1 rfl hf (fun h3 hf => ?_)
    refine zv_iinc K (x3 + (1 : Int32)) 3 [(3, tI (x3 + (1 : Int32))), (0, tA x0), (1, tA x1), (2, tI x2)] eX6_addArm_45 rfl rfl (z_lt hX.2 (by decide)) rfl ?_
    refine zv_goto K 26 eX6_addArm_48 (by decide) ?_
    cases hf
    exact zv_sub [1, 2, 3, 0] rfl (show zV X 26 [(0, tA x0), (1, tA x1), (2, tI x2), (3, tI (x3 + (1 : Int32)))] [] h3 nx 0 0 from hp)
theorem v_X6_addArm_b26 {X : zX} (K : z_Ok X cX6_addArm none RX6 "addArm") (hX : z_Xo X rm_X6_addArm 4) {x0 : Option Nat} {x1 : Option Nat} {x2 : Int32} {x3 : Int32} {h : zH} {nx : Nat} {x : (zH)} (hf : f_X6_addArm_b26 x0 x1 x2 x3 h = some x) (hp : z_P0V X nx x) : zV X 26 [(0, tA x0), (1, tA x1), (2, tI x2), (3, tI x3)] [] h nx 0 0 :=
  z_it_ind (P := fun s : (Option Nat) × (Option Nat) × Int32 × Int32 × zH => zV X 26 [(0, tA s.1), (1, tA s.2.1), (2, tI s.2.2.1), (3, tI s.2.2.2.1)] [] s.2.2.2.2 nx 0 0) (fun s y hb hy => v_X6_addArm_c26 K hX hb (z_PL_of hy hp)) hf
set_option maxHeartbeats 4000000 in
set_option maxRecDepth 100000 in
theorem v_X6_addArm {X : zX} (K : z_Ok X cX6_addArm none RX6 "addArm") (hX : z_Xo X rm_X6_addArm 4) {x0 : Option Nat} {x1 : Option Nat} {x2 : Int32} {h : zH} {nx : Nat} {x : (zH)} (hf : f_X6_addArm x0 x1 x2 h = some x) (hp : z_P0V X nx x) : zV X 0 [(0, tA x0), (1, tA x1), (2, tI x2)] [] h nx 0 0 := by
  unfold f_X6_addArm at hf
  refine zv_aload_n K 0 eX6_addArm_0 rfl ?_
  refine zv_gA K eX6_addArm_1 fl_X6_17 hf (fun v1 hf => ?_)
  refine zv_aload_n K 0 eX6_addArm_4 rfl ?_
  refine zv_gI K eX6_addArm_5 fl_X6_46 hf (fun v2 hf => ?_)
  refine zv_aA K eX6_addArm_8 hf (fun v3 hf => ?_)
  refine zv_aload_n K 1 eX6_addArm_9 rfl ?_
  refine zv_iload_n K 2 eX6_addArm_10 rfl ?_
  obtain ⟨q4, hq4, hf⟩ := z_bind_inv hf
  obtain ⟨h5, eh5, hf⟩ := z_bind_inv hf
  refine zv_cV0 K [tA x1, tI x2] [] eX6_addArm_11 lk_X6_74 md_X0_begin im_X0_begin sl_X0_begin rfl rfl rfl rfl (Nat.le_of_ble_eq_true rfl) hq4 (c_X0_begin X.1.2.1 X.2.2.1 eh5) rfl rfl ⟨z_le (z_fr hX) (by decide), z_le (z_lo hX) (by decide)⟩ ⟨Nat.zero_le _, Nat.zero_le _⟩ ?_
  refine zv_aload_n K 0 eX6_addArm_14 rfl ?_
  refine zv_dup K eX6_addArm_15 rfl ?_
  refine zv_gI K eX6_addArm_16 fl_X6_46 hf (fun v6 hf => ?_)
  refine zv_iconst K (1 : Int32) eX6_addArm_19 (by decide) ?_
  refine zv_iadd K eX6_addArm_20 ?_
  refine zv_pI K eX6_addArm_21 fl_X6_46 ff_6_4 rfl hf (fun h7 hf => ?_)
  refine zv_iconst K (0 : Int32) eX6_addArm_24 (by decide) ?_
  refine zv_istore_n K [(3, tI (0 : Int32)), (0, tA x0), (1, tA x1), (2, tI x2)] eX6_addArm_25 (z_lt hX.2 (by decide)) rfl ?_
  exact zv_sub [1, 2, 3, 0] rfl (v_X6_addArm_b26 K hX hf hp)
theorem c_X6_addArm (l : Launch) (G : zG) {x0 : Option Nat} {x1 : Option Nat} {x2 : Int32} {h : zH} {nx : Nat} {x : zH} (hf : f_X6_addArm x0 x1 x2 h = some x) : z_Ct l G yX6_addArm cX6_addArm 4 none rm_X6_addArm [tA x0, tA x1, tI x2] h nx none x nx 0 0 :=
  z_enter [(0, tA x0), (1, tA x1), (2, tI x2)] (by decide +kernel) (Nat.le_of_ble_eq_true rfl) rfl (fun X hl hR hG hL K hq => by
    subst hl; subst hG
    exact v_X6_addArm K ⟨hR, hL⟩ hf hq)
set_option maxHeartbeats 4000000 in
set_option maxRecDepth 100000 in
theorem v_X6_lay {X : zX} (K : z_Ok X cX6_lay none RX6 "lay") (hX : z_Xo X rm_X6_lay 3) {x0 : Option Nat} {x1 : Int32} {x2 : Int32} {h : zH} {nx : Nat} {x : (zH)} (hf : f_X6_lay x0 x1 x2 h = some x) (hp : z_P0V X nx x) : zV X 0 [(0, tA x0), (1, tI x1), (2, tI x2)] [] h nx 0 0 := by
  unfold f_X6_lay at hf
  refine zv_aload_n K 0 eX6_lay_0 rfl ?_
  refine zv_gA K eX6_lay_1 fl_X6_23 hf (fun v1 hf => ?_)
  refine zv_iload_n K 1 eX6_lay_4 rfl ?_
  refine zv_aA K eX6_lay_5 hf (fun v2 hf => ?_)
  refine zv_iconst K (0 : Int32) eX6_lay_6 (by decide) ?_
  refine zv_pI K eX6_lay_7 fl_X6_85 ff_8_1 rfl hf (fun h3 hf => ?_)
  refine zv_aload_n K 0 eX6_lay_10 rfl ?_
  refine zv_gA K eX6_lay_11 fl_X6_23 hf (fun v4 hf => ?_)
  refine zv_iload_n K 1 eX6_lay_14 rfl ?_
  refine zv_aA K eX6_lay_15 hf (fun v5 hf => ?_)
  refine zv_iload_n K 2 eX6_lay_16 rfl ?_
  refine zv_pI K eX6_lay_17 fl_X6_88 ff_8_2 rfl hf (fun h6 hf => ?_)
  refine zv_aload_n K 0 eX6_lay_20 rfl ?_
  refine zv_gA K eX6_lay_21 fl_X6_9 hf (fun v7 hf => ?_)
  refine zv_aload_n K 0 eX6_lay_24 rfl ?_
  refine zv_gA K eX6_lay_25 fl_X6_23 hf (fun v8 hf => ?_)
  refine zv_iload_n K 1 eX6_lay_28 rfl ?_
  refine zv_aA K eX6_lay_29 hf (fun v9 hf => ?_)
  refine zv_gI K eX6_lay_30 fl_X6_78 hf (fun v10 hf => ?_)
  refine zv_dup2 K eX6_lay_33 rfl rfl ?_
  refine zv_aJ K eX6_lay_34 hf (fun v11 hf => ?_)
  refine zv_lconst K (1 : Int64) eX6_lay_35 (by decide) ?_
  refine zv_iload_n K 2 eX6_lay_36 rfl ?_
  refine zv_lshl K eX6_lay_37 ?_
  refine zv_lor K eX6_lay_38 ?_
  refine zv_sJ K eX6_lay_39 hf (fun h12 hf => ?_)
  have e9 := Option.some.inj hf; subst e9
  exact zv_vret K eX6_lay_40 hp
theorem c_X6_lay (l : Launch) (G : zG) {x0 : Option Nat} {x1 : Int32} {x2 : Int32} {h : zH} {nx : Nat} {x : zH} (hf : f_X6_lay x0 x1 x2 h = some x) : z_Ct l G yX6_lay cX6_lay 3 none rm_X6_lay [tA x0, tI x1, tI x2] h nx none x nx 0 0 :=
  z_enter [(0, tA x0), (1, tI x1), (2, tI x2)] (by decide +kernel) (Nat.le_of_ble_eq_true rfl) rfl (fun X hl hR hG hL K hq => by
    subst hl; subst hG
    exact v_X6_lay K ⟨hR, hL⟩ hf hq)
set_option maxHeartbeats 4000000 in
set_option maxRecDepth 100000 in
theorem v_X6_addThing {X : zX} (K : z_Ok X cX6_addThing none RX6 "addThing") (hX : z_Xo X rm_X6_addThing 3) {x0 : Option Nat} {x1 : Int32} {x2 : Int32} {h : zH} {nx : Nat} {x : (zH)} (hf : f_X6_addThing x0 x1 x2 h = some x) (hp : z_P0V X nx x) : zV X 0 [(0, tA x0), (1, tI x1), (2, tI x2)] [] h nx 0 0 := by
  unfold f_X6_addThing at hf
  refine zv_aload_n K 0 eX6_addThing_0 rfl ?_
  refine zv_gA K eX6_addThing_1 fl_X6_23 hf (fun v1 hf => ?_)
  refine zv_aload_n K 0 eX6_addThing_4 rfl ?_
  refine zv_gI K eX6_addThing_5 fl_X6_53 hf (fun v2 hf => ?_)
  refine zv_aA K eX6_addThing_8 hf (fun v3 hf => ?_)
  refine zv_iload_n K 2 eX6_addThing_9 rfl ?_
  refine zv_pI K eX6_addThing_10 fl_X6_78 ff_8_0 rfl hf (fun h4 hf => ?_)
  refine zv_aload_n K 0 eX6_addThing_13 rfl ?_
  refine zv_aload_n K 0 eX6_addThing_14 rfl ?_
  refine zv_gI K eX6_addThing_15 fl_X6_53 hf (fun v5 hf => ?_)
  refine zv_iload_n K 1 eX6_addThing_18 rfl ?_
  obtain ⟨q6, hq6, hf⟩ := z_bind_inv hf
  obtain ⟨h7, eh7, hf⟩ := z_bind_inv hf
  refine zv_cV0 K [tI v5, tI x1] [] eX6_addThing_19 lk_X6_81 md_X6_lay im_X6_lay sl_X6_lay rfl rfl rfl rfl (Nat.le_of_ble_eq_true rfl) hq6 (c_X6_lay X.1.2.1 X.2.2.1 eh7) rfl rfl ⟨z_le (z_fr hX) (by decide), z_le (z_lo hX) (by decide)⟩ ⟨Nat.zero_le _, Nat.zero_le _⟩ ?_
  refine zv_aload_n K 0 eX6_addThing_22 rfl ?_
  refine zv_dup K eX6_addThing_23 rfl ?_
  refine zv_gI K eX6_addThing_24 fl_X6_53 hf (fun v8 hf => ?_)
  refine zv_iconst K (1 : Int32) eX6_addThing_27 (by decide) ?_
  refine zv_iadd K eX6_addThing_28 ?_
  refine zv_pI K eX6_addThing_29 fl_X6_53 ff_6_6 rfl hf (fun h9 hf => ?_)
  have e9 := Option.some.inj hf; subst e9
  exact zv_vret K eX6_addThing_32 hp
theorem c_X6_addThing (l : Launch) (G : zG) {x0 : Option Nat} {x1 : Int32} {x2 : Int32} {h : zH} {nx : Nat} {x : zH} (hf : f_X6_addThing x0 x1 x2 h = some x) : z_Ct l G yX6_addThing cX6_addThing 3 none rm_X6_addThing [tA x0, tI x1, tI x2] h nx none x nx 0 0 :=
  z_enter [(0, tA x0), (1, tI x1), (2, tI x2)] (by decide +kernel) (Nat.le_of_ble_eq_true rfl) rfl (fun X hl hR hG hL K hq => by
    subst hl; subst hG
    exact v_X6_addThing K ⟨hR, hL⟩ hf hq)
def P_X6_countThings_4 (X : zX) (nx : Nat) : ((Option Nat) × Int32 × Int32 × Int32 × zH) ⊕ (Int32 × zH) → Prop := z_PL (fun s => zV X 4 [(0, tA s.1), (1, tI s.2.1), (2, tI s.2.2.1), (3, tI s.2.2.2.1)] [] s.2.2.2.2 nx 0 0) (z_P0I X nx)
set_option maxHeartbeats 4000000 in
set_option maxRecDepth 100000 in
theorem v_X6_countThings_b28 {X : zX} (K : z_Ok X cX6_countThings (some .int) RX6 "countThings") (hX : z_Xo X rm_X6_countThings 4) {x0 : Option Nat} {x1 : Int32} {x2 : Int32} {x3 : Int32} {h : zH} {nx : Nat} {x : (((Option Nat) × Int32 × Int32 × Int32 × zH) ⊕ (Int32 × zH))} (hf : f_X6_countThings_b28 x0 x1 x2 x3 h = some x) (hp : P_X6_countThings_4 X nx x) : zV X 28 [(0, tA x0), (1, tI x1), (2, tI x2), (3, tI x3)] [] h nx 0 0 := by
  unfold f_X6_countThings_b28 at hf
  refine zv_iinc K (x3 + (1 : Int32)) 3 [(3, tI (x3 + (1 : Int32))), (0, tA x0), (1, tI x1), (2, tI x2)] eX6_countThings_28 rfl rfl (z_lt hX.2 (by decide)) rfl ?_
  refine zv_goto K 4 eX6_countThings_31 (by decide) ?_
  cases hf
  exact zv_sub [1, 2, 3, 0] rfl (show zV X 4 [(0, tA x0), (1, tI x1), (2, tI x2), (3, tI (x3 + (1 : Int32)))] [] h nx 0 0 from hp)
set_option maxHeartbeats 4000000 in
set_option maxRecDepth 100000 in
theorem v_X6_countThings_c4 {X : zX} (K : z_Ok X cX6_countThings (some .int) RX6 "countThings") (hX : z_Xo X rm_X6_countThings 4) {x0 : Option Nat} {x1 : Int32} {x2 : Int32} {x3 : Int32} {h : zH} {nx : Nat} {x : (((Option Nat) × Int32 × Int32 × Int32 × zH) ⊕ (Int32 × zH))} (hf : f_X6_countThings_c4 x0 x1 x2 x3 h = some x) (hp : P_X6_countThings_4 X nx x) : zV X 4 [(0, tA x0), (1, tI x1), (2, tI x2), (3, tI x3)] [] h nx 0 0 := by
  unfold f_X6_countThings_c4 at hf
  refine zv_iload_n K 3 eX6_countThings_4 rfl ?_
  refine zv_aload_n K 0 eX6_countThings_5 rfl ?_
  refine zv_gI K eX6_countThings_6 fl_X6_53 hf (fun v1 hf => ?_)
  refine zv_icmp_ge K 34 eX6_countThings_9 (by decide) hf (fun _ hf => ?_) (fun _ hf => ?_)
  · obtain ⟨w9, hf9, e9⟩ := z_i1_inv hf; clear hf; subst e9; have hf := hf9; clear hf9
    refine zv_iload_n K 2 eX6_countThings_34 rfl ?_
    have e9 := Option.some.inj hf; subst e9
    exact zv_iret K eX6_countThings_35 hp
  · refine zv_aload_n K 0 eX6_countThings_12 rfl ?_
    refine zv_gA K eX6_countThings_13 fl_X6_23 hf (fun v2 hf => ?_)
    refine zv_iload_n K 3 eX6_countThings_16 rfl ?_
    refine zv_aA K eX6_countThings_17 hf (fun v3 hf => ?_)
    refine zv_gI K eX6_countThings_18 fl_X6_85 hf (fun v4 hf => ?_)
    refine zv_iload_n K 1 eX6_countThings_21 rfl ?_
    refine zv_icmp_ne K 28 eX6_countThings_22 (by decide) hf (fun _ hf => ?_) (fun _ hf => ?_)
    · exact zv_sub [0, 1, 2, 3] rfl (v_X6_countThings_b28 K hX hf hp)
    · refine zv_iinc K (x2 + (1 : Int32)) 2 [(2, tI (x2 + (1 : Int32))), (0, tA x0), (1, tI x1), (3, tI x3)] eX6_countThings_25 rfl rfl (z_lt hX.2 (by decide)) rfl ?_
      exact zv_sub [1, 2, 0, 3] rfl (v_X6_countThings_b28 K hX hf hp)
theorem v_X6_countThings_b4 {X : zX} (K : z_Ok X cX6_countThings (some .int) RX6 "countThings") (hX : z_Xo X rm_X6_countThings 4) {x0 : Option Nat} {x1 : Int32} {x2 : Int32} {x3 : Int32} {h : zH} {nx : Nat} {x : (Int32 × zH)} (hf : f_X6_countThings_b4 x0 x1 x2 x3 h = some x) (hp : z_P0I X nx x) : zV X 4 [(0, tA x0), (1, tI x1), (2, tI x2), (3, tI x3)] [] h nx 0 0 :=
  z_it_ind (P := fun s : (Option Nat) × Int32 × Int32 × Int32 × zH => zV X 4 [(0, tA s.1), (1, tI s.2.1), (2, tI s.2.2.1), (3, tI s.2.2.2.1)] [] s.2.2.2.2 nx 0 0) (fun s y hb hy => v_X6_countThings_c4 K hX hb (z_PL_of hy hp)) hf
set_option maxHeartbeats 4000000 in
set_option maxRecDepth 100000 in
theorem v_X6_countThings {X : zX} (K : z_Ok X cX6_countThings (some .int) RX6 "countThings") (hX : z_Xo X rm_X6_countThings 4) {x0 : Option Nat} {x1 : Int32} {h : zH} {nx : Nat} {x : (Int32 × zH)} (hf : f_X6_countThings x0 x1 h = some x) (hp : z_P0I X nx x) : zV X 0 [(0, tA x0), (1, tI x1)] [] h nx 0 0 := by
  unfold f_X6_countThings at hf
  refine zv_iconst K (0 : Int32) eX6_countThings_0 (by decide) ?_
  refine zv_istore_n K [(2, tI (0 : Int32)), (0, tA x0), (1, tI x1)] eX6_countThings_1 (z_lt hX.2 (by decide)) rfl ?_
  refine zv_iconst K (0 : Int32) eX6_countThings_2 (by decide) ?_
  refine zv_istore_n K [(3, tI (0 : Int32)), (2, tI (0 : Int32)), (0, tA x0), (1, tI x1)] eX6_countThings_3 (z_lt hX.2 (by decide)) rfl ?_
  exact zv_sub [2, 3, 1, 0] rfl (v_X6_countThings_b4 K hX hf hp)
theorem c_X6_countThings (l : Launch) (G : zG) {x0 : Option Nat} {x1 : Int32} {h : zH} {nx : Nat} {x : Int32 × zH} (hf : f_X6_countThings x0 x1 h = some x) : z_Ct l G yX6_countThings cX6_countThings 4 (some .int) rm_X6_countThings [tA x0, tI x1] h nx (some (tI x.1)) x.2 nx 0 0 :=
  z_enter [(0, tA x0), (1, tI x1)] (by decide +kernel) (Nat.le_of_ble_eq_true rfl) rfl (fun X hl hR hG hL K hq => by
    subst hl; subst hG
    exact v_X6_countThings K ⟨hR, hL⟩ hf hq)
set_option maxHeartbeats 4000000 in
set_option maxRecDepth 100000 in
theorem v_X6_cellOfThing {X : zX} (K : z_Ok X cX6_cellOfThing (some .int) RX6 "cellOfThing") (hX : z_Xo X rm_X6_cellOfThing 2) {x0 : Option Nat} {x1 : Option Nat} {h : zH} {nx : Nat} {x : (Int32 × zH)} (hf : f_X6_cellOfThing x0 x1 h = some x) (hp : z_P0I X nx x) : zV X 0 [(0, tA x0), (1, tA x1)] [] h nx 0 0 := by
  unfold f_X6_cellOfThing at hf
  refine zv_aload_n K 1 eX6_cellOfThing_0 rfl ?_
  refine zv_gI K eX6_cellOfThing_1 fl_X6_85 hf (fun v1 hf => ?_)
  refine zv_iconst K (2 : Int32) eX6_cellOfThing_4 (by decide) ?_
  refine zv_icmp_ne K 11 eX6_cellOfThing_5 (by decide) hf (fun _ hf => ?_) (fun _ hf => ?_)
  · refine zv_aload_n K 1 eX6_cellOfThing_11 rfl ?_
    refine zv_gI K eX6_cellOfThing_12 fl_X6_85 hf (fun v2 hf => ?_)
    refine zv_if_ne K 25 eX6_cellOfThing_15 (by decide) hf (fun _ hf => ?_) (fun _ hf => ?_)
    · refine zv_aload_n K 0 eX6_cellOfThing_25 rfl ?_
      refine zv_gA K eX6_cellOfThing_26 fl_X6_17 hf (fun v3 hf => ?_)
      refine zv_aload_n K 1 eX6_cellOfThing_29 rfl ?_
      refine zv_gI K eX6_cellOfThing_30 fl_X6_91 hf (fun v4 hf => ?_)
      refine zv_aA K eX6_cellOfThing_33 hf (fun v5 hf => ?_)
      refine zv_gA K eX6_cellOfThing_34 fl_X6_94 hf (fun v6 hf => ?_)
      refine zv_aload_n K 1 eX6_cellOfThing_37 rfl ?_
      refine zv_gI K eX6_cellOfThing_38 fl_X6_97 hf (fun v7 hf => ?_)
      refine zv_aI K eX6_cellOfThing_41 hf (fun v8 hf => ?_)
      have e9 := Option.some.inj hf; subst e9
      exact zv_iret K eX6_cellOfThing_42 hp
    · refine zv_aload_n K 1 eX6_cellOfThing_18 rfl ?_
      refine zv_gI K eX6_cellOfThing_19 fl_X6_88 hf (fun v9 hf => ?_)
      refine zv_goto K 42 eX6_cellOfThing_22 (by decide) ?_
      have e9 := Option.some.inj hf; subst e9
      exact zv_iret K eX6_cellOfThing_42 hp
  · refine zv_bipush K (-4 : Int32) eX6_cellOfThing_8 (by decide) ?_
    have e9 := Option.some.inj hf; subst e9
    exact zv_iret K eX6_cellOfThing_10 hp
theorem c_X6_cellOfThing (l : Launch) (G : zG) {x0 : Option Nat} {x1 : Option Nat} {h : zH} {nx : Nat} {x : Int32 × zH} (hf : f_X6_cellOfThing x0 x1 h = some x) : z_Ct l G yX6_cellOfThing cX6_cellOfThing 2 (some .int) rm_X6_cellOfThing [tA x0, tA x1] h nx (some (tI x.1)) x.2 nx 0 0 :=
  z_enter [(0, tA x0), (1, tA x1)] (by decide +kernel) (Nat.le_of_ble_eq_true rfl) rfl (fun X hl hR hG hL K hq => by
    subst hl; subst hG
    exact v_X6_cellOfThing K ⟨hR, hL⟩ hf hq)
set_option maxHeartbeats 4000000 in
set_option maxRecDepth 100000 in
theorem v_X6_lift {X : zX} (K : z_Ok X cX6_lift none RX6 "lift") (hX : z_Xo X rm_X6_lift 2) {x0 : Option Nat} {x1 : Int32} {h : zH} {nx : Nat} {x : (zH)} (hf : f_X6_lift x0 x1 h = some x) (hp : z_P0V X nx x) : zV X 0 [(0, tA x0), (1, tI x1)] [] h nx 0 0 := by
  unfold f_X6_lift at hf
  refine zv_aload_n K 0 eX6_lift_0 rfl ?_
  refine zv_gA K eX6_lift_1 fl_X6_9 hf (fun v1 hf => ?_)
  refine zv_aload_n K 0 eX6_lift_4 rfl ?_
  refine zv_gA K eX6_lift_5 fl_X6_23 hf (fun v2 hf => ?_)
  refine zv_iload_n K 1 eX6_lift_8 rfl ?_
  refine zv_aA K eX6_lift_9 hf (fun v3 hf => ?_)
  refine zv_gI K eX6_lift_10 fl_X6_78 hf (fun v4 hf => ?_)
  refine zv_dup2 K eX6_lift_13 rfl rfl ?_
  refine zv_aJ K eX6_lift_14 hf (fun v5 hf => ?_)
  refine zv_lconst K (1 : Int64) eX6_lift_15 (by decide) ?_
  refine zv_aload_n K 0 eX6_lift_16 rfl ?_
  refine zv_gA K eX6_lift_17 fl_X6_23 hf (fun v6 hf => ?_)
  refine zv_iload_n K 1 eX6_lift_20 rfl ?_
  refine zv_aA K eX6_lift_21 hf (fun v7 hf => ?_)
  refine zv_gI K eX6_lift_22 fl_X6_88 hf (fun v8 hf => ?_)
  refine zv_lshl K eX6_lift_25 ?_
  refine zv_ldc2 K (-1 : Int64) eX6_lift_26 kl_X6_100 ?_
  refine zv_lxor K eX6_lift_29 ?_
  refine zv_land K eX6_lift_30 ?_
  refine zv_sJ K eX6_lift_31 hf (fun h9 hf => ?_)
  have e9 := Option.some.inj hf; subst e9
  exact zv_vret K eX6_lift_32 hp
theorem c_X6_lift (l : Launch) (G : zG) {x0 : Option Nat} {x1 : Int32} {h : zH} {nx : Nat} {x : zH} (hf : f_X6_lift x0 x1 h = some x) : z_Ct l G yX6_lift cX6_lift 2 none rm_X6_lift [tA x0, tI x1] h nx none x nx 0 0 :=
  z_enter [(0, tA x0), (1, tI x1)] (by decide +kernel) (Nat.le_of_ble_eq_true rfl) rfl (fun X hl hR hG hL K hq => by
    subst hl; subst hG
    exact v_X6_lift K ⟨hR, hL⟩ hf hq)
def P_X6_lyingAt_2 (X : zX) (nx : Nat) : ((Option Nat) × Int32 × Int32 × zH) ⊕ (Int32 × zH) → Prop := z_PL (fun s => zV X 2 [(0, tA s.1), (1, tI s.2.1), (2, tI s.2.2.1)] [] s.2.2.2 nx 0 0) (z_P0I X nx)
set_option maxHeartbeats 4000000 in
set_option maxRecDepth 100000 in
theorem v_X6_lyingAt_b37 {X : zX} (K : z_Ok X cX6_lyingAt (some .int) RX6 "lyingAt") (hX : z_Xo X rm_X6_lyingAt 3) {x0 : Option Nat} {x1 : Int32} {x2 : Int32} {h : zH} {nx : Nat} {x : (((Option Nat) × Int32 × Int32 × zH) ⊕ (Int32 × zH))} (hf : f_X6_lyingAt_b37 x0 x1 x2 h = some x) (hp : P_X6_lyingAt_2 X nx x) : zV X 37 [(0, tA x0), (1, tI x1), (2, tI x2)] [] h nx 0 0 := by
  unfold f_X6_lyingAt_b37 at hf
  refine zv_iinc K (x2 + (1 : Int32)) 2 [(2, tI (x2 + (1 : Int32))), (0, tA x0), (1, tI x1)] eX6_lyingAt_37 rfl rfl (z_lt hX.2 (by decide)) rfl ?_
  refine zv_goto K 2 eX6_lyingAt_40 (by decide) ?_
  cases hf
  exact zv_sub [1, 2, 0] rfl (show zV X 2 [(0, tA x0), (1, tI x1), (2, tI (x2 + (1 : Int32)))] [] h nx 0 0 from hp)
set_option maxHeartbeats 4000000 in
set_option maxRecDepth 100000 in
theorem v_X6_lyingAt_c2 {X : zX} (K : z_Ok X cX6_lyingAt (some .int) RX6 "lyingAt") (hX : z_Xo X rm_X6_lyingAt 3) {x0 : Option Nat} {x1 : Int32} {x2 : Int32} {h : zH} {nx : Nat} {x : (((Option Nat) × Int32 × Int32 × zH) ⊕ (Int32 × zH))} (hf : f_X6_lyingAt_c2 x0 x1 x2 h = some x) (hp : P_X6_lyingAt_2 X nx x) : zV X 2 [(0, tA x0), (1, tI x1), (2, tI x2)] [] h nx 0 0 := by
  unfold f_X6_lyingAt_c2 at hf
  refine zv_iload_n K 2 eX6_lyingAt_2 rfl ?_
  refine zv_aload_n K 0 eX6_lyingAt_3 rfl ?_
  refine zv_gI K eX6_lyingAt_4 fl_X6_53 hf (fun v1 hf => ?_)
  refine zv_icmp_ge K 43 eX6_lyingAt_7 (by decide) hf (fun _ hf => ?_) (fun _ hf => ?_)
  · obtain ⟨w9, hf9, e9⟩ := z_i1_inv hf; clear hf; subst e9; have hf := hf9; clear hf9
    refine zv_bipush K (-4 : Int32) eX6_lyingAt_43 (by decide) ?_
    have e9 := Option.some.inj hf; subst e9
    exact zv_iret K eX6_lyingAt_45 hp
  · refine zv_aload_n K 0 eX6_lyingAt_10 rfl ?_
    refine zv_gA K eX6_lyingAt_11 fl_X6_23 hf (fun v2 hf => ?_)
    refine zv_iload_n K 2 eX6_lyingAt_14 rfl ?_
    refine zv_aA K eX6_lyingAt_15 hf (fun v3 hf => ?_)
    refine zv_gI K eX6_lyingAt_16 fl_X6_85 hf (fun v4 hf => ?_)
    refine zv_if_ne K 37 eX6_lyingAt_19 (by decide) hf (fun _ hf => ?_) (fun _ hf => ?_)
    · exact zv_sub [0, 1, 2] rfl (v_X6_lyingAt_b37 K hX hf hp)
    · refine zv_aload_n K 0 eX6_lyingAt_22 rfl ?_
      refine zv_gA K eX6_lyingAt_23 fl_X6_23 hf (fun v5 hf => ?_)
      refine zv_iload_n K 2 eX6_lyingAt_26 rfl ?_
      refine zv_aA K eX6_lyingAt_27 hf (fun v6 hf => ?_)
      refine zv_gI K eX6_lyingAt_28 fl_X6_88 hf (fun v7 hf => ?_)
      refine zv_iload_n K 1 eX6_lyingAt_31 rfl ?_
      refine zv_icmp_ne K 37 eX6_lyingAt_32 (by decide) hf (fun _ hf => ?_) (fun _ hf => ?_)
      · exact zv_sub [0, 1, 2] rfl (v_X6_lyingAt_b37 K hX hf hp)
      · obtain ⟨w9, hf9, e9⟩ := z_i1_inv hf; clear hf; subst e9; have hf := hf9; clear hf9
        refine zv_iload_n K 2 eX6_lyingAt_35 rfl ?_
        have e9 := Option.some.inj hf; subst e9
        exact zv_iret K eX6_lyingAt_36 hp
theorem v_X6_lyingAt_b2 {X : zX} (K : z_Ok X cX6_lyingAt (some .int) RX6 "lyingAt") (hX : z_Xo X rm_X6_lyingAt 3) {x0 : Option Nat} {x1 : Int32} {x2 : Int32} {h : zH} {nx : Nat} {x : (Int32 × zH)} (hf : f_X6_lyingAt_b2 x0 x1 x2 h = some x) (hp : z_P0I X nx x) : zV X 2 [(0, tA x0), (1, tI x1), (2, tI x2)] [] h nx 0 0 :=
  z_it_ind (P := fun s : (Option Nat) × Int32 × Int32 × zH => zV X 2 [(0, tA s.1), (1, tI s.2.1), (2, tI s.2.2.1)] [] s.2.2.2 nx 0 0) (fun s y hb hy => v_X6_lyingAt_c2 K hX hb (z_PL_of hy hp)) hf
set_option maxHeartbeats 4000000 in
set_option maxRecDepth 100000 in
theorem v_X6_lyingAt {X : zX} (K : z_Ok X cX6_lyingAt (some .int) RX6 "lyingAt") (hX : z_Xo X rm_X6_lyingAt 3) {x0 : Option Nat} {x1 : Int32} {h : zH} {nx : Nat} {x : (Int32 × zH)} (hf : f_X6_lyingAt x0 x1 h = some x) (hp : z_P0I X nx x) : zV X 0 [(0, tA x0), (1, tI x1)] [] h nx 0 0 := by
  unfold f_X6_lyingAt at hf
  refine zv_iconst K (0 : Int32) eX6_lyingAt_0 (by decide) ?_
  refine zv_istore_n K [(2, tI (0 : Int32)), (0, tA x0), (1, tI x1)] eX6_lyingAt_1 (z_lt hX.2 (by decide)) rfl ?_
  exact zv_sub [1, 2, 0] rfl (v_X6_lyingAt_b2 K hX hf hp)
theorem c_X6_lyingAt (l : Launch) (G : zG) {x0 : Option Nat} {x1 : Int32} {h : zH} {nx : Nat} {x : Int32 × zH} (hf : f_X6_lyingAt x0 x1 h = some x) : z_Ct l G yX6_lyingAt cX6_lyingAt 3 (some .int) rm_X6_lyingAt [tA x0, tI x1] h nx (some (tI x.1)) x.2 nx 0 0 :=
  z_enter [(0, tA x0), (1, tI x1)] (by decide +kernel) (Nat.le_of_ble_eq_true rfl) rfl (fun X hl hR hG hL K hq => by
    subst hl; subst hG
    exact v_X6_lyingAt K ⟨hR, hL⟩ hf hq)
def P_X6_turned_9 (X : zX) (nx : Nat) : ((Option Nat) × Int32 × Int32 × Int32 × zH) ⊕ (Int32 × zH) → Prop := z_PL (fun s => zV X 9 [(0, tA s.1), (1, tI s.2.1), (3, tI s.2.2.1), (4, tI s.2.2.2.1)] [] s.2.2.2.2 nx 0 0) (z_P0I X nx)
set_option maxHeartbeats 4000000 in
set_option maxRecDepth 100000 in
theorem v_X6_turned_c9 {X : zX} (K : z_Ok X cX6_turned (some .int) RX6 "turned") (hX : z_Xo X rm_X6_turned 6) {x0 : Option Nat} {x1 : Int32} {x3 : Int32} {x4 : Int32} {h : zH} {nx : Nat} {x : (((Option Nat) × Int32 × Int32 × Int32 × zH) ⊕ (Int32 × zH))} (hf : f_X6_turned_c9 X.2.2.1.2.2.1 x0 x1 x3 x4 h = some x) (hp : P_X6_turned_9 X nx x) : zV X 9 [(0, tA x0), (1, tI x1), (3, tI x3), (4, tI x4)] [] h nx 0 0 := by
  unfold f_X6_turned_c9 at hf
  refine zv_iload K 3 eX6_turned_9 rfl ?_
  refine zv_iconst K (3 : Int32) eX6_turned_11 (by decide) ?_
  refine zv_icmp_gt K 45 eX6_turned_12 (by decide) hf (fun _ hf => ?_) (fun _ hf => ?_)
  · obtain ⟨w9, hf9, e9⟩ := z_i1_inv hf; clear hf; subst e9; have hf := hf9; clear hf9
    refine zv_bipush K (-4 : Int32) eX6_turned_45 (by decide) ?_
    have e9 := Option.some.inj hf; subst e9
    exact zv_iret K eX6_turned_47 hp
  · refine zv_iload_n K 1 eX6_turned_15 rfl ?_
    refine zv_iload_n K 2 eX6_turned_16 rfl ?_
    refine zv_iload K 3 eX6_turned_17 rfl ?_
    refine zv_iadd K eX6_turned_19 ?_
    refine zv_iconst K (3 : Int32) eX6_turned_20 (by decide) ?_
    refine zv_iand K eX6_turned_21 ?_
    obtain ⟨v2, h1, eh1, hf⟩ := z_b2_inv hf
    refine zv_cS0 K [tI x1, tI ((x3 + x4) &&& (3 : Int32))] [] eX6_turned_22 lk_X6_66 md_X10_beside st_X10_beside rfl rfl (Nat.le_of_ble_eq_true rfl) (c_X10_beside X.1.2.1 X.2.2.1 eh1) rfl rfl ⟨z_le (z_fr hX) (by decide), z_le (z_lo hX) (by decide)⟩ ⟨Nat.zero_le _, Nat.zero_le _⟩ ?_
    refine zv_istore K [(5, tI v2), (0, tA x0), (1, tI x1), (3, tI x3), (4, tI x4)] eX6_turned_25 (z_lt hX.2 (by decide)) rfl ?_
    refine zv_aload_n K 1 eX6_turned_27 rfl ?_
    refine zv_iload K 0 eX6_turned_28 rfl ?_
    obtain ⟨q3, hq3, hf⟩ := z_bind_inv hf
    obtain ⟨v5, h4, eh4, hf⟩ := z_b2_inv hf
    refine zv_cV0 K [tI v2] [] eX6_turned_30 lk_X6_70 md_X6_isFree im_X6_isFree sl_X6_isFree rfl rfl rfl rfl (Nat.le_of_ble_eq_true rfl) hq3 (c_X6_isFree X.1.2.1 X.2.2.1 eh4) rfl rfl ⟨z_le (z_fr hX) (by decide), z_le (z_lo hX) (by decide)⟩ ⟨Nat.zero_le _, Nat.zero_le _⟩ ?_
    refine zv_if_eq K 39 eX6_turned_33 (by decide) hf (fun _ hf => ?_) (fun _ hf => ?_)
    · refine zv_iinc K (x4 + (1 : Int32)) 4 [(4, tI (x4 + (1 : Int32))), (5, tI v2), (0, tA x0), (1, tI x1), (3, tI x3)] eX6_turned_39 rfl rfl (z_lt hX.2 (by decide)) rfl ?_
      refine zv_goto K 9 eX6_turned_42 (by decide) ?_
      cases hf
      exact zv_sub [2, 3, 4, 0] rfl (show zV X 9 [(0, tA x0), (1, tI x1), (3, tI x3), (4, tI (x4 + (1 : Int32)))] [] h4 nx 0 0 from hp)
    · obtain ⟨w9, hf9, e9⟩ := z_i1_inv hf; clear hf; subst e9; have hf := hf9; clear hf9
      refine zv_iload K 0 eX6_turned_36 rfl ?_
      have e9 := Option.some.inj hf; subst e9
      exact zv_iret K eX6_turned_38 hp
theorem v_X6_turned_b9 {X : zX} (K : z_Ok X cX6_turned (some .int) RX6 "turned") (hX : z_Xo X rm_X6_turned 6) {x0 : Option Nat} {x1 : Int32} {x3 : Int32} {x4 : Int32} {h : zH} {nx : Nat} {x : (Int32 × zH)} (hf : f_X6_turned_b9 X.2.2.1.2.2.1 x0 x1 x3 x4 h = some x) (hp : z_P0I X nx x) : zV X 9 [(0, tA x0), (1, tI x1), (3, tI x3), (4, tI x4)] [] h nx 0 0 :=
  z_it_ind (P := fun s : (Option Nat) × Int32 × Int32 × Int32 × zH => zV X 9 [(0, tA s.1), (1, tI s.2.1), (3, tI s.2.2.1), (4, tI s.2.2.2.1)] [] s.2.2.2.2 nx 0 0) (fun s y hb hy => v_X6_turned_c9 K hX hb (z_PL_of hy hp)) hf
set_option maxHeartbeats 4000000 in
set_option maxRecDepth 100000 in
theorem v_X6_turned {X : zX} (K : z_Ok X cX6_turned (some .int) RX6 "turned") (hX : z_Xo X rm_X6_turned 6) {x0 : Option Nat} {x1 : Int32} {x2 : Int32} {h : zH} {nx : Nat} {x : (Int32 × zH)} (hf : f_X6_turned X.2.2.1.2.2.1 x0 x1 x2 h = some x) (hp : z_P0I X nx x) : zV X 0 [(0, tA x0), (1, tI x1), (2, tI x2)] [] h nx 0 0 := by
  unfold f_X6_turned at hf
  refine zv_iload_n K 1 eX6_turned_0 rfl ?_
  refine zv_iload_n K 2 eX6_turned_1 rfl ?_
  obtain ⟨v2, h1, eh1, hf⟩ := z_b2_inv hf
  refine zv_cS0 K [tI x1, tI x2] [] eX6_turned_2 lk_X6_112 md_X10_sideOf st_X10_sideOf rfl rfl (Nat.le_of_ble_eq_true rfl) (c_X10_sideOf X.1.2.1 X.2.2.1 eh1) rfl rfl ⟨z_le (z_fr hX) (by decide), z_le (z_lo hX) (by decide)⟩ ⟨Nat.zero_le _, Nat.zero_le _⟩ ?_
  refine zv_istore_n K [(3, tI v2), (0, tA x0), (1, tI x1), (2, tI x2)] eX6_turned_5 (z_lt hX.2 (by decide)) rfl ?_
  refine zv_iconst K (1 : Int32) eX6_turned_6 (by decide) ?_
  refine zv_istore K [(4, tI (1 : Int32)), (3, tI v2), (0, tA x0), (1, tI x1), (2, tI x2)] eX6_turned_7 (z_lt hX.2 (by decide)) rfl ?_
  exact zv_sub [2, 3, 1, 0] rfl (v_X6_turned_b9 K hX hf hp)
theorem c_X6_turned (l : Launch) (G : zG) {x0 : Option Nat} {x1 : Int32} {x2 : Int32} {h : zH} {nx : Nat} {x : Int32 × zH} (hf : f_X6_turned G.2.2.1 x0 x1 x2 h = some x) : z_Ct l G yX6_turned cX6_turned 6 (some .int) rm_X6_turned [tA x0, tI x1, tI x2] h nx (some (tI x.1)) x.2 nx 0 0 :=
  z_enter [(0, tA x0), (1, tI x1), (2, tI x2)] (by decide +kernel) (Nat.le_of_ble_eq_true rfl) rfl (fun X hl hR hG hL K hq => by
    subst hl; subst hG
    exact v_X6_turned K ⟨hR, hL⟩ hf hq)
set_option maxHeartbeats 4000000 in
set_option maxRecDepth 100000 in
theorem v_X10_touchByCorner {X : zX} (K : z_Ok X cX10_touchByCorner (some .boolean) RX10 "touchByCorner") (hX : z_Xo X rm_X10_touchByCorner 4) {x0 : Int32} {x1 : Int32} {h : zH} {nx : Nat} {x : (Int32 × zH)} (hf : f_X10_touchByCorner x0 x1 h = some x) (hp : z_P0I X nx x) : zV X 0 [(0, tI x0), (1, tI x1)] [] h nx 0 0 := by
  unfold f_X10_touchByCorner at hf
  refine zv_iload_n K 0 eX10_touchByCorner_0 rfl ?_
  refine zv_bipush K (7 : Int32) eX10_touchByCorner_1 (by decide) ?_
  refine zv_iand K eX10_touchByCorner_3 ?_
  refine zv_iload_n K 1 eX10_touchByCorner_4 rfl ?_
  refine zv_bipush K (7 : Int32) eX10_touchByCorner_5 (by decide) ?_
  refine zv_iand K eX10_touchByCorner_7 ?_
  refine zv_isub K eX10_touchByCorner_8 ?_
  refine zv_istore_n K [(2, tI ((x0 &&& (7 : Int32)) - (x1 &&& (7 : Int32)))), (0, tI x0), (1, tI x1)] eX10_touchByCorner_9 (z_lt hX.2 (by decide)) rfl ?_
  refine zv_iload_n K 1 eX10_touchByCorner_10 rfl ?_
  refine zv_iconst K (3 : Int32) eX10_touchByCorner_11 (by decide) ?_
  refine zv_ishr K eX10_touchByCorner_12 ?_
  refine zv_iload_n K 2 eX10_touchByCorner_13 rfl ?_
  refine zv_iconst K (3 : Int32) eX10_touchByCorner_14 (by decide) ?_
  refine zv_ishr K eX10_touchByCorner_15 ?_
  refine zv_isub K eX10_touchByCorner_16 ?_
  refine zv_istore_n K [(3, tI ((x0 >>> ((3 : Int32) &&& 31)) - (x1 >>> ((3 : Int32) &&& 31)))), (2, tI ((x0 &&& (7 : Int32)) - (x1 &&& (7 : Int32)))), (0, tI x0), (1, tI x1)] eX10_touchByCorner_17 (z_lt hX.2 (by decide)) rfl ?_
  refine zv_iload_n K 1 eX10_touchByCorner_18 rfl ?_
  refine zv_iload_n K 1 eX10_touchByCorner_19 rfl ?_
  refine zv_imul K eX10_touchByCorner_20 ?_
  refine zv_iconst K (1 : Int32) eX10_touchByCorner_21 (by decide) ?_
  refine zv_icmp_ne K 36 eX10_touchByCorner_22 (by decide) hf (fun _ hf => ?_) (fun _ hf => ?_)
  · refine zv_iconst K (0 : Int32) eX10_touchByCorner_36 (by decide) ?_
    cases hf
    exact zv_zret K eX10_touchByCorner_37 (by decide) hp
  · refine zv_iload_n K 0 eX10_touchByCorner_25 rfl ?_
    refine zv_iload_n K 0 eX10_touchByCorner_26 rfl ?_
    refine zv_imul K eX10_touchByCorner_27 ?_
    refine zv_iconst K (1 : Int32) eX10_touchByCorner_28 (by decide) ?_
    refine zv_icmp_ne K 36 eX10_touchByCorner_29 (by decide) hf (fun _ hf => ?_) (fun _ hf => ?_)
    · refine zv_iconst K (0 : Int32) eX10_touchByCorner_36 (by decide) ?_
      cases hf
      exact zv_zret K eX10_touchByCorner_37 (by decide) hp
    · refine zv_iconst K (1 : Int32) eX10_touchByCorner_32 (by decide) ?_
      refine zv_goto K 37 eX10_touchByCorner_33 (by decide) ?_
      cases hf
      exact zv_zret K eX10_touchByCorner_37 (by decide) hp
theorem c_X10_touchByCorner (l : Launch) (G : zG) {x0 : Int32} {x1 : Int32} {h : zH} {nx : Nat} {x : Int32 × zH} (hf : f_X10_touchByCorner x0 x1 h = some x) : z_Ct l G yX10_touchByCorner cX10_touchByCorner 4 (some .boolean) rm_X10_touchByCorner [tI x0, tI x1] h nx (some (tI x.1)) x.2 nx 0 0 :=
  z_enter [(0, tI x0), (1, tI x1)] (by decide +kernel) (Nat.le_of_ble_eq_true rfl) rfl (fun X hl hR hG hL K hq => by
    subst hl; subst hG
    exact v_X10_touchByCorner K ⟨hR, hL⟩ hf hq)
set_option maxHeartbeats 4000000 in
set_option maxRecDepth 100000 in
theorem v_X6_flipped {X : zX} (K : z_Ok X cX6_flipped (some .int) RX6 "flipped") (hX : z_Xo X rm_X6_flipped 5) {x0 : Option Nat} {x1 : Int32} {x2 : Int32} {x3 : Int32} {h : zH} {nx : Nat} {x : (Int32 × zH)} (hf : f_X6_flipped x0 x1 x2 x3 h = some x) (hp : z_P0I X nx x) : zV X 0 [(0, tA x0), (1, tI x1), (2, tI x2), (3, tI x3)] [] h nx 0 0 := by
  unfold f_X6_flipped at hf
  refine zv_iload_n K 1 eX6_flipped_0 rfl ?_
  refine zv_iload_n K 3 eX6_flipped_1 rfl ?_
  obtain ⟨v2, h1, eh1, hf⟩ := z_b2_inv hf
  refine zv_cS0 K [tI x1, tI x3] [] eX6_flipped_2 lk_X6_115 md_X10_touchByCorner st_X10_touchByCorner rfl rfl (Nat.le_of_ble_eq_true rfl) (c_X10_touchByCorner X.1.2.1 X.2.2.1 eh1) rfl rfl ⟨z_le (z_fr hX) (by decide), z_le (z_lo hX) (by decide)⟩ ⟨Nat.zero_le _, Nat.zero_le _⟩ ?_
  refine zv_if_ne K 11 eX6_flipped_5 (by decide) hf (fun _ hf => ?_) (fun _ hf => ?_)
  · refine zv_iload_n K 1 eX6_flipped_11 rfl ?_
    refine zv_iload_n K 3 eX6_flipped_12 rfl ?_
    refine zv_iadd K eX6_flipped_13 ?_
    refine zv_iload_n K 2 eX6_flipped_14 rfl ?_
    refine zv_isub K eX6_flipped_15 ?_
    refine zv_istore K [(4, tI ((x1 + x3) - x2)), (0, tA x0), (1, tI x1), (2, tI x2), (3, tI x3)] eX6_flipped_16 (z_lt hX.2 (by decide)) rfl ?_
    refine zv_aload_n K 1 eX6_flipped_18 rfl ?_
    refine zv_iload K 0 eX6_flipped_19 rfl ?_
    obtain ⟨q3, hq3, hf⟩ := z_bind_inv hf
    obtain ⟨v5, h4, eh4, hf⟩ := z_b2_inv hf
    refine zv_cV0 K [tI ((x1 + x3) - x2)] [] eX6_flipped_21 lk_X6_70 md_X6_isFree im_X6_isFree sl_X6_isFree rfl rfl rfl rfl (Nat.le_of_ble_eq_true rfl) hq3 (c_X6_isFree X.1.2.1 X.2.2.1 eh4) rfl rfl ⟨z_le (z_fr hX) (by decide), z_le (z_lo hX) (by decide)⟩ ⟨Nat.zero_le _, Nat.zero_le _⟩ ?_
    refine zv_if_eq K 32 eX6_flipped_24 (by decide) hf (fun _ hf => ?_) (fun _ hf => ?_)
    · refine zv_bipush K (-4 : Int32) eX6_flipped_32 (by decide) ?_
      have e9 := Option.some.inj hf; subst e9
      exact zv_iret K eX6_flipped_34 hp
    · refine zv_iload K 0 eX6_flipped_27 rfl ?_
      refine zv_goto K 34 eX6_flipped_29 (by decide) ?_
      have e9 := Option.some.inj hf; subst e9
      exact zv_iret K eX6_flipped_34 hp
  · refine zv_bipush K (-4 : Int32) eX6_flipped_8 (by decide) ?_
    have e9 := Option.some.inj hf; subst e9
    exact zv_iret K eX6_flipped_10 hp
theorem c_X6_flipped (l : Launch) (G : zG) {x0 : Option Nat} {x1 : Int32} {x2 : Int32} {x3 : Int32} {h : zH} {nx : Nat} {x : Int32 × zH} (hf : f_X6_flipped x0 x1 x2 x3 h = some x) : z_Ct l G yX6_flipped cX6_flipped 5 (some .int) rm_X6_flipped [tA x0, tI x1, tI x2, tI x3] h nx (some (tI x.1)) x.2 nx 0 0 :=
  z_enter [(0, tA x0), (1, tI x1), (2, tI x2), (3, tI x3)] (by decide +kernel) (Nat.le_of_ble_eq_true rfl) rfl (fun X hl hR hG hL K hq => by
    subst hl; subst hG
    exact v_X6_flipped K ⟨hR, hL⟩ hf hq)
set_option maxHeartbeats 4000000 in
set_option maxRecDepth 100000 in
theorem v_X6_move_b55 {X : zX} (K : z_Ok X cX6_move (some .boolean) RX6 "move") (hX : z_Xo X rm_X6_move 4) {x0 : Option Nat} {x1 : Option Nat} {x2 : Int32} {s0 : Int32} {h : zH} {nx : Nat} {x : (Int32 × zH)} (hf : f_X6_move_b55 X.2.2.1.2.2.1 x0 x1 x2 s0 h = some x) (hp : z_P0I X nx x) : zV X 55 [(0, tA x0), (1, tA x1), (2, tI x2)] [tI s0] h nx 0 0 := by
  unfold f_X6_move_b55 at hf
  refine zv_istore_n K [(3, tI s0), (0, tA x0), (1, tA x1), (2, tI x2)] eX6_move_55 (z_lt hX.2 (by decide)) rfl ?_
  refine zv_iload_n K 0 eX6_move_56 rfl ?_
  refine zv_if_ge K 62 eX6_move_57 (by decide) hf (fun _ hf => ?_) (fun _ hf => ?_)
  · refine zv_aload_n K 1 eX6_move_62 rfl ?_
    refine zv_aload_n K 1 eX6_move_63 rfl ?_
    refine zv_gJ K eX6_move_64 fl_X6_37 hf (fun v1 hf => ?_)
    refine zv_lconst K (1 : Int64) eX6_move_67 (by decide) ?_
    refine zv_aload_n K 2 eX6_move_68 rfl ?_
    refine zv_gA K eX6_move_69 fl_X6_94 hf (fun v2 hf => ?_)
    refine zv_iload_n K 3 eX6_move_72 rfl ?_
    refine zv_aI K eX6_move_73 hf (fun v3 hf => ?_)
    refine zv_lshl K eX6_move_74 ?_
    refine zv_ldc2 K (-1 : Int64) eX6_move_75 kl_X6_100 ?_
    refine zv_lxor K eX6_move_78 ?_
    refine zv_land K eX6_move_79 ?_
    refine zv_lconst K (1 : Int64) eX6_move_80 (by decide) ?_
    refine zv_iload_n K 0 eX6_move_81 rfl ?_
    refine zv_lshl K eX6_move_82 ?_
    refine zv_lor K eX6_move_83 ?_
    refine zv_pJ K eX6_move_84 fl_X6_37 ff_6_1 rfl hf (fun h4 hf => ?_)
    refine zv_aload_n K 2 eX6_move_87 rfl ?_
    refine zv_gA K eX6_move_88 fl_X6_94 hf (fun v5 hf => ?_)
    refine zv_iload_n K 3 eX6_move_91 rfl ?_
    refine zv_iload_n K 0 eX6_move_92 rfl ?_
    refine zv_sI K eX6_move_93 hf (fun h6 hf => ?_)
    refine zv_iconst K (1 : Int32) eX6_move_94 (by decide) ?_
    cases hf
    exact zv_zret K eX6_move_95 (by decide) hp
  · refine zv_iconst K (0 : Int32) eX6_move_60 (by decide) ?_
    cases hf
    exact zv_zret K eX6_move_61 (by decide) hp
set_option maxHeartbeats 4000000 in
set_option maxRecDepth 100000 in
theorem v_X6_move {X : zX} (K : z_Ok X cX6_move (some .boolean) RX6 "move") (hX : z_Xo X rm_X6_move 4) {x0 : Option Nat} {x1 : Option Nat} {x2 : Int32} {h : zH} {nx : Nat} {x : (Int32 × zH)} (hf : f_X6_move X.2.2.1.2.2.1 x0 x1 x2 h = some x) (hp : z_P0I X nx x) : zV X 0 [(0, tA x0), (1, tA x1), (2, tI x2)] [] h nx 0 0 := by
  unfold f_X6_move at hf
  refine zv_aload_n K 1 eX6_move_0 rfl ?_
  refine zv_iload_n K 2 eX6_move_1 rfl ?_
  obtain ⟨q1, hq1, hf⟩ := z_bind_inv hf
  obtain ⟨v3, h2, eh2, hf⟩ := z_b2_inv hf
  refine zv_cV0 K [tI x2] [] eX6_move_2 lk_X6_102 md_X0_isTip im_X0_isTip sl_X0_isTip rfl rfl rfl rfl (Nat.le_of_ble_eq_true rfl) hq1 (c_X0_isTip X.1.2.1 X.2.2.1 eh2) rfl rfl ⟨z_le (z_fr hX) (by decide), z_le (z_lo hX) (by decide)⟩ ⟨Nat.zero_le _, Nat.zero_le _⟩ ?_
  refine zv_if_eq K 29 eX6_move_5 (by decide) hf (fun _ hf => ?_) (fun _ hf => ?_)
  · refine zv_aload_n K 0 eX6_move_29 rfl ?_
    refine zv_aload_n K 1 eX6_move_30 rfl ?_
    refine zv_gA K eX6_move_31 fl_X6_94 hf (fun v4 hf => ?_)
    refine zv_iload_n K 2 eX6_move_34 rfl ?_
    refine zv_iconst K (1 : Int32) eX6_move_35 (by decide) ?_
    refine zv_isub K eX6_move_36 ?_
    refine zv_aI K eX6_move_37 hf (fun v5 hf => ?_)
    refine zv_aload_n K 1 eX6_move_38 rfl ?_
    refine zv_gA K eX6_move_39 fl_X6_94 hf (fun v6 hf => ?_)
    refine zv_iload_n K 2 eX6_move_42 rfl ?_
    refine zv_aI K eX6_move_43 hf (fun v7 hf => ?_)
    refine zv_aload_n K 1 eX6_move_44 rfl ?_
    refine zv_gA K eX6_move_45 fl_X6_94 hf (fun v8 hf => ?_)
    refine zv_iload_n K 2 eX6_move_48 rfl ?_
    refine zv_iconst K (1 : Int32) eX6_move_49 (by decide) ?_
    refine zv_iadd K eX6_move_50 ?_
    refine zv_aI K eX6_move_51 hf (fun v9 hf => ?_)
    obtain ⟨q10, hq10, hf⟩ := z_bind_inv hf
    obtain ⟨v12, h11, eh11, hf⟩ := z_b2_inv hf
    refine zv_cV0 K [tI v5, tI v7, tI v9] [] eX6_move_52 lk_X6_108 md_X6_flipped im_X6_flipped sl_X6_flipped rfl rfl rfl rfl (Nat.le_of_ble_eq_true rfl) hq10 (c_X6_flipped X.1.2.1 X.2.2.1 eh11) rfl rfl ⟨z_le (z_fr hX) (by decide), z_le (z_lo hX) (by decide)⟩ ⟨Nat.zero_le _, Nat.zero_le _⟩ ?_
    exact zv_sub [0, 1, 2] rfl (v_X6_move_b55 K hX hf hp)
  · refine zv_aload_n K 0 eX6_move_8 rfl ?_
    refine zv_aload_n K 1 eX6_move_9 rfl ?_
    refine zv_gA K eX6_move_10 fl_X6_94 hf (fun v13 hf => ?_)
    refine zv_iload_n K 2 eX6_move_13 rfl ?_
    refine zv_iconst K (1 : Int32) eX6_move_14 (by decide) ?_
    refine zv_isub K eX6_move_15 ?_
    refine zv_aI K eX6_move_16 hf (fun v14 hf => ?_)
    refine zv_aload_n K 1 eX6_move_17 rfl ?_
    refine zv_gA K eX6_move_18 fl_X6_94 hf (fun v15 hf => ?_)
    refine zv_iload_n K 2 eX6_move_21 rfl ?_
    refine zv_aI K eX6_move_22 hf (fun v16 hf => ?_)
    obtain ⟨q17, hq17, hf⟩ := z_bind_inv hf
    obtain ⟨v19, h18, eh18, hf⟩ := z_b2_inv hf
    refine zv_cV0 K [tI v14, tI v16] [] eX6_move_23 lk_X6_105 md_X6_turned im_X6_turned sl_X6_turned rfl rfl rfl rfl (Nat.le_of_ble_eq_true rfl) hq17 (c_X6_turned X.1.2.1 X.2.2.1 eh18) rfl rfl ⟨z_le (z_fr hX) (by decide), z_le (z_lo hX) (by decide)⟩ ⟨Nat.zero_le _, Nat.zero_le _⟩ ?_
    refine zv_goto K 55 eX6_move_26 (by decide) ?_
    exact zv_sub [0, 1, 2] rfl (v_X6_move_b55 K hX hf hp)
theorem c_X6_move (l : Launch) (G : zG) {x0 : Option Nat} {x1 : Option Nat} {x2 : Int32} {h : zH} {nx : Nat} {x : Int32 × zH} (hf : f_X6_move G.2.2.1 x0 x1 x2 h = some x) : z_Ct l G yX6_move cX6_move 4 (some .boolean) rm_X6_move [tA x0, tA x1, tI x2] h nx (some (tI x.1)) x.2 nx 0 0 :=
  z_enter [(0, tA x0), (1, tA x1), (2, tI x2)] (by decide +kernel) (Nat.le_of_ble_eq_true rfl) rfl (fun X hl hR hG hL K hq => by
    subst hl; subst hG
    exact v_X6_move K ⟨hR, hL⟩ hf hq)
set_option maxHeartbeats 4000000 in
set_option maxRecDepth 100000 in
theorem v_X10_near {X : zX} (K : z_Ok X cX10_near (some .long) RX10 "near") (hX : z_Xo X rm_X10_near 5) {x0 : Int32} {h : zH} {nx : Nat} {x : (Int64 × zH)} (hf : f_X10_near x0 h = some x) (hp : z_P0J X nx x) : zV X 0 [(0, tI x0)] [] h nx 0 0 := by
  unfold f_X10_near at hf
  refine zv_lconst K (1 : Int64) eX10_near_0 (by decide) ?_
  refine zv_iload_n K 0 eX10_near_1 rfl ?_
  refine zv_lshl K eX10_near_2 ?_
  refine zv_lstore_n K [(1, tJ ((1 : Int64) <<< (Int32.toInt64 x0 &&& 63))), (0, tI x0)] eX10_near_3 (z_lt hX.2 (by decide)) rfl ?_
  refine zv_lload_n K 0 eX10_near_4 rfl ?_
  refine zv_ldc2 K (9187201950435737471 : Int64) eX10_near_5 kl_X10_307 ?_
  refine zv_land K eX10_near_8 ?_
  refine zv_iconst K (1 : Int32) eX10_near_9 (by decide) ?_
  refine zv_lshl K eX10_near_10 ?_
  refine zv_lload_n K 0 eX10_near_11 rfl ?_
  refine zv_ldc2 K (-72340172838076674 : Int64) eX10_near_12 kl_X10_309 ?_
  refine zv_land K eX10_near_15 ?_
  refine zv_iconst K (1 : Int32) eX10_near_16 (by decide) ?_
  refine zv_lushr K eX10_near_17 ?_
  refine zv_lor K eX10_near_18 ?_
  refine zv_lstore_n K [(3, tJ (((((1 : Int64) <<< (Int32.toInt64 x0 &&& 63)) &&& (9187201950435737471 : Int64)) <<< (Int32.toInt64 (1 : Int32) &&& 63)) ||| (((Int64.toUInt64 (((1 : Int64) <<< (Int32.toInt64 x0 &&& 63)) &&& (-72340172838076674 : Int64))) >>> ((Int32.toInt64 (1 : Int32)).toUInt64 &&& Int64.toUInt64 63)).toInt64))), (1, tJ ((1 : Int64) <<< (Int32.toInt64 x0 &&& 63))), (0, tI x0)] eX10_near_19 (z_lt hX.2 (by decide)) rfl ?_
  refine zv_lload_n K 1 eX10_near_20 rfl ?_
  refine zv_lload_n K 1 eX10_near_21 rfl ?_
  refine zv_bipush K (8 : Int32) eX10_near_22 (by decide) ?_
  refine zv_lshl K eX10_near_24 ?_
  refine zv_lor K eX10_near_25 ?_
  refine zv_lload_n K 1 eX10_near_26 rfl ?_
  refine zv_bipush K (8 : Int32) eX10_near_27 (by decide) ?_
  refine zv_lushr K eX10_near_29 ?_
  refine zv_lor K eX10_near_30 ?_
  refine zv_lload_n K 0 eX10_near_31 rfl ?_
  refine zv_lor K eX10_near_32 ?_
  have e9 := Option.some.inj hf; subst e9
  exact zv_lret K eX10_near_33 hp
theorem c_X10_near (l : Launch) (G : zG) {x0 : Int32} {h : zH} {nx : Nat} {x : Int64 × zH} (hf : f_X10_near x0 h = some x) : z_Ct l G yX10_near cX10_near 5 (some .long) rm_X10_near [tI x0] h nx (some (tJ x.1)) x.2 nx 0 0 :=
  z_enter [(0, tI x0)] (by decide +kernel) (Nat.le_of_ble_eq_true rfl) rfl (fun X hl hR hG hL K hq => by
    subst hl; subst hG
    exact v_X10_near K ⟨hR, hL⟩ hf hq)
def P_X6_senses_69 (X : zX) (nx : Nat) : ((Option Nat) × Int32 × Int64 × Int32 × zH) ⊕ (Int32 × zH) → Prop := z_PL (fun s => zV X 69 [(0, tA s.1), (3, tI s.2.1), (4, tJ s.2.2.1), (6, tI s.2.2.2.1)] [] s.2.2.2.2 nx 0 0) (z_P0I X nx)
set_option maxHeartbeats 4000000 in
set_option maxRecDepth 100000 in
theorem v_X6_senses_b102 {X : zX} (K : z_Ok X cX6_senses (some .int) RX6 "senses") (hX : z_Xo X rm_X6_senses 7) {x0 : Option Nat} {x3 : Int32} {x4 : Int64} {x6 : Int32} {h : zH} {nx : Nat} {x : (((Option Nat) × Int32 × Int64 × Int32 × zH) ⊕ (Int32 × zH))} (hf : f_X6_senses_b102 x0 x3 x4 x6 h = some x) (hp : P_X6_senses_69 X nx x) : zV X 102 [(0, tA x0), (3, tI x3), (4, tJ x4), (6, tI x6)] [] h nx 0 0 := by
  unfold f_X6_senses_b102 at hf
  refine zv_iinc K (x6 + (1 : Int32)) 3 [(6, tI (x6 + (1 : Int32))), (0, tA x0), (3, tI x3), (4, tJ x4)] eX6_senses_102 rfl rfl (z_lt hX.2 (by decide)) rfl ?_
  refine zv_goto K 69 eX6_senses_105 (by decide) ?_
  cases hf
  exact zv_sub [1, 2, 3, 0] rfl (show zV X 69 [(0, tA x0), (3, tI x3), (4, tJ x4), (6, tI (x6 + (1 : Int32)))] [] h nx 0 0 from hp)
set_option maxHeartbeats 4000000 in
set_option maxRecDepth 100000 in
theorem v_X6_senses_c69 {X : zX} (K : z_Ok X cX6_senses (some .int) RX6 "senses") (hX : z_Xo X rm_X6_senses 7) {x0 : Option Nat} {x3 : Int32} {x4 : Int64} {x6 : Int32} {h : zH} {nx : Nat} {x : (((Option Nat) × Int32 × Int64 × Int32 × zH) ⊕ (Int32 × zH))} (hf : f_X6_senses_c69 x0 x3 x4 x6 h = some x) (hp : P_X6_senses_69 X nx x) : zV X 69 [(0, tA x0), (3, tI x3), (4, tJ x4), (6, tI x6)] [] h nx 0 0 := by
  unfold f_X6_senses_c69 at hf
  refine zv_iload K 3 eX6_senses_69 rfl ?_
  refine zv_aload_n K 0 eX6_senses_71 rfl ?_
  refine zv_gA K eX6_senses_72 fl_X6_9 hf (fun v1 hf => ?_)
  refine zv_len K eX6_senses_75 hf (fun v2 hf => ?_)
  refine zv_icmp_ge K 108 eX6_senses_76 (by decide) hf (fun _ hf => ?_) (fun _ hf => ?_)
  · obtain ⟨w9, hf9, e9⟩ := z_i1_inv hf; clear hf; subst e9; have hf := hf9; clear hf9
    refine zv_iload_n K 1 eX6_senses_108 rfl ?_
    have e9 := Option.some.inj hf; subst e9
    exact zv_iret K eX6_senses_109 hp
  · refine zv_aload_n K 0 eX6_senses_79 rfl ?_
    refine zv_gA K eX6_senses_80 fl_X6_9 hf (fun v3 hf => ?_)
    refine zv_iload K 3 eX6_senses_83 rfl ?_
    refine zv_aJ K eX6_senses_85 hf (fun v4 hf => ?_)
    refine zv_lload K 2 eX6_senses_86 rfl ?_
    refine zv_land K eX6_senses_88 ?_
    refine zv_lconst K (0 : Int64) eX6_senses_89 (by decide) ?_
    refine zv_lcmp K eX6_senses_90 ?_
    refine zv_if_eq K 102 eX6_senses_91 (by decide) hf (fun _ hf => ?_) (fun _ hf => ?_)
    · exact zv_sub [0, 1, 2, 3] rfl (v_X6_senses_b102 K hX hf hp)
    · refine zv_iload_n K 1 eX6_senses_94 rfl ?_
      refine zv_bipush K (16 : Int32) eX6_senses_95 (by decide) ?_
      refine zv_iload K 3 eX6_senses_97 rfl ?_
      refine zv_ishl K eX6_senses_99 ?_
      refine zv_ior K eX6_senses_100 ?_
      refine zv_istore_n K [(3, tI (x3 ||| ((16 : Int32) <<< (x6 &&& 31)))), (0, tA x0), (4, tJ x4), (6, tI x6)] eX6_senses_101 (z_lt hX.2 (by decide)) rfl ?_
      exact zv_sub [1, 0, 2, 3] rfl (v_X6_senses_b102 K hX hf hp)
theorem v_X6_senses_b69 {X : zX} (K : z_Ok X cX6_senses (some .int) RX6 "senses") (hX : z_Xo X rm_X6_senses 7) {x0 : Option Nat} {x3 : Int32} {x4 : Int64} {x6 : Int32} {h : zH} {nx : Nat} {x : (Int32 × zH)} (hf : f_X6_senses_b69 x0 x3 x4 x6 h = some x) (hp : z_P0I X nx x) : zV X 69 [(0, tA x0), (3, tI x3), (4, tJ x4), (6, tI x6)] [] h nx 0 0 :=
  z_it_ind (P := fun s : (Option Nat) × Int32 × Int64 × Int32 × zH => zV X 69 [(0, tA s.1), (3, tI s.2.1), (4, tJ s.2.2.1), (6, tI s.2.2.2.1)] [] s.2.2.2.2 nx 0 0) (fun s y hb hy => v_X6_senses_c69 K hX hb (z_PL_of hy hp)) hf
set_option maxHeartbeats 4000000 in
set_option maxRecDepth 100000 in
theorem v_X6_senses_b55 {X : zX} (K : z_Ok X cX6_senses (some .int) RX6 "senses") (hX : z_Xo X rm_X6_senses 7) {x0 : Option Nat} {x1 : Option Nat} {x2 : Int32} {x3 : Int32} {h : zH} {nx : Nat} {x : (Int32 × zH)} (hf : f_X6_senses_b55 x0 x1 x2 x3 h = some x) (hp : z_P0I X nx x) : zV X 55 [(0, tA x0), (1, tA x1), (2, tI x2), (3, tI x3)] [] h nx 0 0 := by
  unfold f_X6_senses_b55 at hf
  refine zv_aload_n K 1 eX6_senses_55 rfl ?_
  refine zv_gA K eX6_senses_56 fl_X6_94 hf (fun v1 hf => ?_)
  refine zv_iload_n K 2 eX6_senses_59 rfl ?_
  refine zv_aI K eX6_senses_60 hf (fun v2 hf => ?_)
  obtain ⟨v4, h3, eh3, hf⟩ := z_b2_inv hf
  refine zv_cS0 K [tI v2] [] eX6_senses_61 lk_X6_157 md_X10_near st_X10_near rfl rfl (Nat.le_of_ble_eq_true rfl) (c_X10_near X.1.2.1 X.2.2.1 eh3) rfl rfl ⟨z_le (z_fr hX) (by decide), z_le (z_lo hX) (by decide)⟩ ⟨Nat.zero_le _, Nat.zero_le _⟩ ?_
  refine zv_lstore K [(4, tJ v4), (0, tA x0), (1, tA x1), (2, tI x2), (3, tI x3)] eX6_senses_64 (z_lt hX.2 (by decide)) rfl ?_
  refine zv_iconst K (0 : Int32) eX6_senses_66 (by decide) ?_
  refine zv_istore K [(6, tI (0 : Int32)), (4, tJ v4), (0, tA x0), (1, tA x1), (2, tI x2), (3, tI x3)] eX6_senses_67 (z_lt hX.2 (by decide)) rfl ?_
  exact zv_sub [2, 5, 1, 0] rfl (v_X6_senses_b69 K hX hf hp)
set_option maxHeartbeats 4000000 in
set_option maxRecDepth 100000 in
theorem v_X6_senses_b41 {X : zX} (K : z_Ok X cX6_senses (some .int) RX6 "senses") (hX : z_Xo X rm_X6_senses 7) {x0 : Option Nat} {x1 : Option Nat} {x2 : Int32} {x3 : Int32} {h : zH} {nx : Nat} {x : (Int32 × zH)} (hf : f_X6_senses_b41 x0 x1 x2 x3 h = some x) (hp : z_P0I X nx x) : zV X 41 [(0, tA x0), (1, tA x1), (2, tI x2), (3, tI x3)] [] h nx 0 0 := by
  unfold f_X6_senses_b41 at hf
  refine zv_aload_n K 1 eX6_senses_41 rfl ?_
  refine zv_iload_n K 2 eX6_senses_42 rfl ?_
  obtain ⟨q1, hq1, hf⟩ := z_bind_inv hf
  obtain ⟨v3, h2, eh2, hf⟩ := z_b2_inv hf
  refine zv_cV0 K [tI x2] [] eX6_senses_43 lk_X6_102 md_X0_isTip im_X0_isTip sl_X0_isTip rfl rfl rfl rfl (Nat.le_of_ble_eq_true rfl) hq1 (c_X0_isTip X.1.2.1 X.2.2.1 eh2) rfl rfl ⟨z_le (z_fr hX) (by decide), z_le (z_lo hX) (by decide)⟩ ⟨Nat.zero_le _, Nat.zero_le _⟩ ?_
  refine zv_if_eq K 55 eX6_senses_46 (by decide) hf (fun _ hf => ?_) (fun _ hf => ?_)
  · exact zv_sub [0, 1, 2, 3] rfl (v_X6_senses_b55 K hX hf hp)
  · refine zv_iload_n K 3 eX6_senses_49 rfl ?_
    refine zv_sipush K (8192 : Int32) eX6_senses_50 (by decide) ?_
    refine zv_ior K eX6_senses_53 ?_
    refine zv_istore_n K [(3, tI (x3 ||| (8192 : Int32))), (0, tA x0), (1, tA x1), (2, tI x2)] eX6_senses_54 (z_lt hX.2 (by decide)) rfl ?_
    exact zv_sub [1, 2, 3, 0] rfl (v_X6_senses_b55 K hX hf hp)
set_option maxHeartbeats 4000000 in
set_option maxRecDepth 100000 in
theorem v_X6_senses {X : zX} (K : z_Ok X cX6_senses (some .int) RX6 "senses") (hX : z_Xo X rm_X6_senses 7) {x0 : Option Nat} {x1 : Option Nat} {x2 : Int32} {h : zH} {nx : Nat} {x : (Int32 × zH)} (hf : f_X6_senses x0 x1 x2 h = some x) (hp : z_P0I X nx x) : zV X 0 [(0, tA x0), (1, tA x1), (2, tI x2)] [] h nx 0 0 := by
  unfold f_X6_senses at hf
  refine zv_sipush K (16384 : Int32) eX6_senses_0 (by decide) ?_
  refine zv_iconst K (1 : Int32) eX6_senses_3 (by decide) ?_
  refine zv_aload_n K 1 eX6_senses_4 rfl ?_
  refine zv_gA K eX6_senses_5 fl_X6_129 hf (fun v1 hf => ?_)
  refine zv_iload_n K 2 eX6_senses_8 rfl ?_
  refine zv_iconst K (1 : Int32) eX6_senses_9 (by decide) ?_
  refine zv_isub K eX6_senses_10 ?_
  refine zv_aI K eX6_senses_11 hf (fun v2 hf => ?_)
  refine zv_ishl K eX6_senses_12 ?_
  refine zv_ior K eX6_senses_13 ?_
  refine zv_sipush K (256 : Int32) eX6_senses_14 (by decide) ?_
  refine zv_aload_n K 1 eX6_senses_17 rfl ?_
  refine zv_gA K eX6_senses_18 fl_X6_151 hf (fun v3 hf => ?_)
  refine zv_iload_n K 2 eX6_senses_21 rfl ?_
  refine zv_aI K eX6_senses_22 hf (fun v4 hf => ?_)
  refine zv_ishl K eX6_senses_23 ?_
  refine zv_ior K eX6_senses_24 ?_
  refine zv_istore_n K [(3, tI (((16384 : Int32) ||| ((1 : Int32) <<< (v2 &&& 31))) ||| ((256 : Int32) <<< (v4 &&& 31)))), (0, tA x0), (1, tA x1), (2, tI x2)] eX6_senses_25 (z_lt hX.2 (by decide)) rfl ?_
  refine zv_aload_n K 2 eX6_senses_26 rfl ?_
  refine zv_gA K eX6_senses_27 fl_X6_154 hf (fun v5 hf => ?_)
  refine zv_iload_n K 3 eX6_senses_30 rfl ?_
  refine zv_aI K eX6_senses_31 hf (fun v6 hf => ?_)
  refine zv_if_lt K 41 eX6_senses_32 (by decide) hf (fun _ hf => ?_) (fun _ hf => ?_)
  · exact zv_sub [1, 2, 3, 0] rfl (v_X6_senses_b41 K hX hf hp)
  · refine zv_iload_n K 0 eX6_senses_35 rfl ?_
    refine zv_sipush K (4096 : Int32) eX6_senses_36 (by decide) ?_
    refine zv_ior K eX6_senses_39 ?_
    refine zv_istore_n K [(3, tI ((((16384 : Int32) ||| ((1 : Int32) <<< (v2 &&& 31))) ||| ((256 : Int32) <<< (v4 &&& 31))) ||| (4096 : Int32))), (0, tA x0), (1, tA x1), (2, tI x2)] eX6_senses_40 (z_lt hX.2 (by decide)) rfl ?_
    exact zv_sub [1, 2, 3, 0] rfl (v_X6_senses_b41 K hX hf hp)
theorem c_X6_senses (l : Launch) (G : zG) {x0 : Option Nat} {x1 : Option Nat} {x2 : Int32} {h : zH} {nx : Nat} {x : Int32 × zH} (hf : f_X6_senses x0 x1 x2 h = some x) : z_Ct l G yX6_senses cX6_senses 7 (some .int) rm_X6_senses [tA x0, tA x1, tI x2] h nx (some (tI x.1)) x.2 nx 0 0 :=
  z_enter [(0, tA x0), (1, tA x1), (2, tI x2)] (by decide +kernel) (Nat.le_of_ble_eq_true rfl) rfl (fun X hl hR hG hL K hq => by
    subst hl; subst hG
    exact v_X6_senses K ⟨hR, hL⟩ hf hq)
set_option maxHeartbeats 4000000 in
set_option maxRecDepth 100000 in
theorem v_X6_clauseFor {X : zX} (K : z_Ok X cX6_clauseFor (some .int) RX6 "clauseFor") (hX : z_Xo X rm_X6_clauseFor 3) {x0 : Option Nat} {x1 : Option Nat} {x2 : Int32} {h : zH} {nx : Nat} {x : (Int32 × zH)} (hf : f_X6_clauseFor x0 x1 x2 h = some x) (hp : z_P0I X nx x) : zV X 0 [(0, tA x0), (1, tA x1), (2, tI x2)] [] h nx 0 0 := by
  unfold f_X6_clauseFor at hf
  refine zv_aload_n K 1 eX6_clauseFor_0 rfl ?_
  refine zv_gA K eX6_clauseFor_1 fl_X6_138 hf (fun v1 hf => ?_)
  refine zv_ifnonnull K 12 eX6_clauseFor_4 (by decide) hf (fun _ hf => ?_) (fun _ hf => ?_)
  · refine zv_aload_n K 1 eX6_clauseFor_12 rfl ?_
    refine zv_gA K eX6_clauseFor_13 fl_X6_138 hf (fun v2 hf => ?_)
    refine zv_aload_n K 0 eX6_clauseFor_16 rfl ?_
    refine zv_aload_n K 1 eX6_clauseFor_17 rfl ?_
    refine zv_iload_n K 2 eX6_clauseFor_18 rfl ?_
    obtain ⟨q3, hq3, hf⟩ := z_bind_inv hf
    obtain ⟨v5, h4, eh4, hf⟩ := z_b2_inv hf
    refine zv_cV0 K [tA x1, tI x2] [tA v2] eX6_clauseFor_19 lk_X6_142 md_X6_senses im_X6_senses sl_X6_senses rfl rfl rfl rfl (Nat.le_of_ble_eq_true rfl) hq3 (c_X6_senses X.1.2.1 X.2.2.1 eh4) rfl rfl ⟨z_le (z_fr hX) (by decide), z_le (z_lo hX) (by decide)⟩ ⟨Nat.zero_le _, Nat.zero_le _⟩ ?_
    obtain ⟨q6, hq6, hf⟩ := z_bind_inv hf
    obtain ⟨v8, h7, eh7, hf⟩ := z_b2_inv hf
    refine zv_cV0 K [tI v5] [] eX6_clauseFor_22 lk_X6_145 md_X5_firstFor im_X5_firstFor sl_X5_firstFor rfl rfl rfl rfl (Nat.le_of_ble_eq_true rfl) hq6 (c_X5_firstFor X.1.2.1 X.2.2.1 eh7) rfl rfl ⟨z_le (z_fr hX) (by decide), z_le (z_lo hX) (by decide)⟩ ⟨Nat.zero_le _, Nat.zero_le _⟩ ?_
    have e9 := Option.some.inj hf; subst e9
    exact zv_iret K eX6_clauseFor_25 hp
  · refine zv_bipush K (-4 : Int32) eX6_clauseFor_7 (by decide) ?_
    refine zv_goto K 25 eX6_clauseFor_9 (by decide) ?_
    have e9 := Option.some.inj hf; subst e9
    exact zv_iret K eX6_clauseFor_25 hp
theorem c_X6_clauseFor (l : Launch) (G : zG) {x0 : Option Nat} {x1 : Option Nat} {x2 : Int32} {h : zH} {nx : Nat} {x : Int32 × zH} (hf : f_X6_clauseFor x0 x1 x2 h = some x) : z_Ct l G yX6_clauseFor cX6_clauseFor 3 (some .int) rm_X6_clauseFor [tA x0, tA x1, tI x2] h nx (some (tI x.1)) x.2 nx 0 0 :=
  z_enter [(0, tA x0), (1, tA x1), (2, tI x2)] (by decide +kernel) (Nat.le_of_ble_eq_true rfl) rfl (fun X hl hR hG hL K hq => by
    subst hl; subst hG
    exact v_X6_clauseFor K ⟨hR, hL⟩ hf hq)
set_option maxHeartbeats 4000000 in
set_option maxRecDepth 100000 in
theorem v_X6_give {X : zX} (K : z_Ok X cX6_give none RX6 "give") (hX : z_Xo X rm_X6_give 4) {x0 : Option Nat} {x1 : Int32} {x2 : Int32} {x3 : Int32} {h : zH} {nx : Nat} {x : (zH)} (hf : f_X6_give x0 x1 x2 x3 h = some x) (hp : z_P0V X nx x) : zV X 0 [(0, tA x0), (1, tI x1), (2, tI x2), (3, tI x3)] [] h nx 0 0 := by
  unfold f_X6_give at hf
  refine zv_aload_n K 0 eX6_give_0 rfl ?_
  refine zv_gA K eX6_give_1 fl_X6_17 hf (fun v1 hf => ?_)
  refine zv_iload_n K 2 eX6_give_4 rfl ?_
  refine zv_aA K eX6_give_5 hf (fun v2 hf => ?_)
  refine zv_gA K eX6_give_6 fl_X6_154 hf (fun v3 hf => ?_)
  refine zv_iload_n K 3 eX6_give_9 rfl ?_
  refine zv_iload_n K 1 eX6_give_10 rfl ?_
  refine zv_sI K eX6_give_11 hf (fun h4 hf => ?_)
  refine zv_aload_n K 0 eX6_give_12 rfl ?_
  refine zv_gA K eX6_give_13 fl_X6_23 hf (fun v5 hf => ?_)
  refine zv_iload_n K 1 eX6_give_16 rfl ?_
  refine zv_aA K eX6_give_17 hf (fun v6 hf => ?_)
  refine zv_iconst K (1 : Int32) eX6_give_18 (by decide) ?_
  refine zv_pI K eX6_give_19 fl_X6_85 ff_8_1 rfl hf (fun h7 hf => ?_)
  refine zv_aload_n K 0 eX6_give_22 rfl ?_
  refine zv_gA K eX6_give_23 fl_X6_23 hf (fun v8 hf => ?_)
  refine zv_iload_n K 1 eX6_give_26 rfl ?_
  refine zv_aA K eX6_give_27 hf (fun v9 hf => ?_)
  refine zv_iload_n K 2 eX6_give_28 rfl ?_
  refine zv_pI K eX6_give_29 fl_X6_91 ff_8_3 rfl hf (fun h10 hf => ?_)
  refine zv_aload_n K 0 eX6_give_32 rfl ?_
  refine zv_gA K eX6_give_33 fl_X6_23 hf (fun v11 hf => ?_)
  refine zv_iload_n K 1 eX6_give_36 rfl ?_
  refine zv_aA K eX6_give_37 hf (fun v12 hf => ?_)
  refine zv_iload_n K 3 eX6_give_38 rfl ?_
  refine zv_pI K eX6_give_39 fl_X6_97 ff_8_4 rfl hf (fun h13 hf => ?_)
  have e9 := Option.some.inj hf; subst e9
  exact zv_vret K eX6_give_42 hp
theorem c_X6_give (l : Launch) (G : zG) {x0 : Option Nat} {x1 : Int32} {x2 : Int32} {x3 : Int32} {h : zH} {nx : Nat} {x : zH} (hf : f_X6_give x0 x1 x2 x3 h = some x) : z_Ct l G yX6_give cX6_give 4 none rm_X6_give [tA x0, tI x1, tI x2, tI x3] h nx none x nx 0 0 :=
  z_enter [(0, tA x0), (1, tI x1), (2, tI x2), (3, tI x3)] (by decide +kernel) (Nat.le_of_ble_eq_true rfl) rfl (fun X hl hR hG hL K hq => by
    subst hl; subst hG
    exact v_X6_give K ⟨hR, hL⟩ hf hq)
def P_X6_grab_15 (X : zX) (nx : Nat) : ((Option Nat) × Int32 × Int32 × Int32 × Int32 × zH) ⊕ (zH) → Prop := z_PL (fun s => zV X 15 [(0, tA s.1), (1, tI s.2.1), (2, tI s.2.2.1), (3, tI s.2.2.2.1), (4, tI s.2.2.2.2.1)] [] s.2.2.2.2.2 nx 0 0) (z_P0V X nx)
set_option maxHeartbeats 4000000 in
set_option maxRecDepth 100000 in
theorem v_X6_grab_b92 {X : zX} (K : z_Ok X cX6_grab none RX6 "grab") (hX : z_Xo X rm_X6_grab 6) {x0 : Option Nat} {x1 : Int32} {x2 : Int32} {x3 : Int32} {x4 : Int32} {h : zH} {nx : Nat} {x : (((Option Nat) × Int32 × Int32 × Int32 × Int32 × zH) ⊕ (zH))} (hf : f_X6_grab_b92 X.2.2.1.2.2.1 x0 x1 x2 x3 x4 h = some x) (hp : P_X6_grab_15 X nx x) : zV X 92 [(0, tA x0), (1, tI x1), (2, tI x2), (3, tI x3), (4, tI x4)] [] h nx 0 0 := by
  unfold f_X6_grab_b92 at hf
  refine zv_iinc K (x4 + (1 : Int32)) 4 [(4, tI (x4 + (1 : Int32))), (0, tA x0), (1, tI x1), (2, tI x2), (3, tI x3)] eX6_grab_92 rfl rfl (z_lt hX.2 (by decide)) rfl ?_
  refine zv_goto K 15 eX6_grab_95 (by decide) ?_
  cases hf
  exact zv_sub [1, 2, 3, 4, 0] rfl (show zV X 15 [(0, tA x0), (1, tI x1), (2, tI x2), (3, tI x3), (4, tI (x4 + (1 : Int32)))] [] h nx 0 0 from hp)
set_option maxHeartbeats 4000000 in
set_option maxRecDepth 100000 in
theorem v_X6_grab_b51 {X : zX} (K : z_Ok X cX6_grab none RX6 "grab") (hX : z_Xo X rm_X6_grab 6) {x0 : Option Nat} {x1 : Int32} {x2 : Int32} {x3 : Int32} {x4 : Int32} {s0 : Option Nat} {s1 : Int32} {h : zH} {nx : Nat} {x : (((Option Nat) × Int32 × Int32 × Int32 × Int32 × zH) ⊕ (zH))} (hf : f_X6_grab_b51 X.2.2.1.2.2.1 x0 x1 x2 x3 x4 s0 s1 h = some x) (hp : P_X6_grab_15 X nx x) : zV X 51 [(0, tA x0), (1, tI x1), (2, tI x2), (3, tI x3), (4, tI x4)] [tI s1, tA s0] h nx 0 0 := by
  unfold f_X6_grab_b51 at hf
  obtain ⟨q1, hq1, hf⟩ := z_bind_inv hf
  obtain ⟨v3, h2, eh2, hf⟩ := z_b2_inv hf
  refine zv_cV0 K [tI s1] [] eX6_grab_51 lk_X6_193 md_X6_lyingAt im_X6_lyingAt sl_X6_lyingAt rfl rfl rfl rfl (Nat.le_of_ble_eq_true rfl) hq1 (c_X6_lyingAt X.1.2.1 X.2.2.1 eh2) rfl rfl ⟨z_le (z_fr hX) (by decide), z_le (z_lo hX) (by decide)⟩ ⟨Nat.zero_le _, Nat.zero_le _⟩ ?_
  refine zv_istore K [(5, tI v3), (0, tA x0), (1, tI x1), (2, tI x2), (3, tI x3), (4, tI x4)] eX6_grab_54 (z_lt hX.2 (by decide)) rfl ?_
  refine zv_iload K 0 eX6_grab_56 rfl ?_
  refine zv_if_lt K 92 eX6_grab_58 (by decide) hf (fun _ hf => ?_) (fun _ hf => ?_)
  · exact zv_sub [1, 2, 3, 4, 5] rfl (v_X6_grab_b92 K hX hf hp)
  · refine zv_aload_n K 1 eX6_grab_61 rfl ?_
    refine zv_gA K eX6_grab_62 fl_X6_23 hf (fun v4 hf => ?_)
    refine zv_iload K 0 eX6_grab_65 rfl ?_
    refine zv_aA K eX6_grab_67 hf (fun v5 hf => ?_)
    refine zv_gI K eX6_grab_68 fl_X6_78 hf (fun v6 hf => ?_)
    refine zv_aload_n K 1 eX6_grab_71 rfl ?_
    refine zv_gI K eX6_grab_72 fl_X6_27 hf (fun v7 hf => ?_)
    refine zv_icmp_eq K 92 eX6_grab_75 (by decide) hf (fun _ hf => ?_) (fun _ hf => ?_)
    · exact zv_sub [1, 2, 3, 4, 5] rfl (v_X6_grab_b92 K hX hf hp)
    · refine zv_aload_n K 1 eX6_grab_78 rfl ?_
      refine zv_iload K 0 eX6_grab_79 rfl ?_
      obtain ⟨q8, hq8, hf⟩ := z_bind_inv hf
      obtain ⟨h9, eh9, hf⟩ := z_bind_inv hf
      refine zv_cV0 K [tI v3] [] eX6_grab_81 lk_X6_196 md_X6_lift im_X6_lift sl_X6_lift rfl rfl rfl rfl (Nat.le_of_ble_eq_true rfl) hq8 (c_X6_lift X.1.2.1 X.2.2.1 eh9) rfl rfl ⟨z_le (z_fr hX) (by decide), z_le (z_lo hX) (by decide)⟩ ⟨Nat.zero_le _, Nat.zero_le _⟩ ?_
      refine zv_aload_n K 1 eX6_grab_84 rfl ?_
      refine zv_iload K 0 eX6_grab_85 rfl ?_
      refine zv_iload_n K 2 eX6_grab_87 rfl ?_
      refine zv_iload_n K 3 eX6_grab_88 rfl ?_
      obtain ⟨q10, hq10, hf⟩ := z_bind_inv hf
      obtain ⟨h11, eh11, hf⟩ := z_bind_inv hf
      refine zv_cV0 K [tI v3, tI x1, tI x2] [] eX6_grab_89 lk_X6_200 md_X6_give im_X6_give sl_X6_give rfl rfl rfl rfl (Nat.le_of_ble_eq_true rfl) hq10 (c_X6_give X.1.2.1 X.2.2.1 eh11) rfl rfl ⟨z_le (z_fr hX) (by decide), z_le (z_lo hX) (by decide)⟩ ⟨Nat.zero_le _, Nat.zero_le _⟩ ?_
      exact zv_sub [1, 2, 3, 4, 5] rfl (v_X6_grab_b92 K hX hf hp)
set_option maxHeartbeats 4000000 in
set_option maxRecDepth 100000 in
theorem v_X6_grab_c15 {X : zX} (K : z_Ok X cX6_grab none RX6 "grab") (hX : z_Xo X rm_X6_grab 6) {x0 : Option Nat} {x1 : Int32} {x2 : Int32} {x3 : Int32} {x4 : Int32} {h : zH} {nx : Nat} {x : (((Option Nat) × Int32 × Int32 × Int32 × Int32 × zH) ⊕ (zH))} (hf : f_X6_grab_c15 X.2.2.1.2.2.1 x0 x1 x2 x3 x4 h = some x) (hp : P_X6_grab_15 X nx x) : zV X 15 [(0, tA x0), (1, tI x1), (2, tI x2), (3, tI x3), (4, tI x4)] [] h nx 0 0 := by
  unfold f_X6_grab_c15 at hf
  refine zv_iload K 4 eX6_grab_15 rfl ?_
  refine zv_iconst K (4 : Int32) eX6_grab_17 (by decide) ?_
  refine zv_icmp_ge K 98 eX6_grab_18 (by decide) hf (fun _ hf => ?_) (fun _ hf => ?_)
  · obtain ⟨w9, hf9, e9⟩ := z_i1_inv hf; clear hf; subst e9; have hf := hf9; clear hf9
    have e9 := Option.some.inj hf; subst e9
    exact zv_vret K eX6_grab_98 hp
  · refine zv_aload_n K 0 eX6_grab_21 rfl ?_
    refine zv_gA K eX6_grab_22 fl_X6_17 hf (fun v1 hf => ?_)
    refine zv_iload_n K 1 eX6_grab_25 rfl ?_
    refine zv_aA K eX6_grab_26 hf (fun v2 hf => ?_)
    refine zv_gA K eX6_grab_27 fl_X6_154 hf (fun v3 hf => ?_)
    refine zv_iload_n K 2 eX6_grab_30 rfl ?_
    refine zv_aI K eX6_grab_31 hf (fun v4 hf => ?_)
    refine zv_if_ge K 98 eX6_grab_32 (by decide) hf (fun _ hf => ?_) (fun _ hf => ?_)
    · obtain ⟨w9, hf9, e9⟩ := z_i1_inv hf; clear hf; subst e9; have hf := hf9; clear hf9
      have e9 := Option.some.inj hf; subst e9
      exact zv_vret K eX6_grab_98 hp
    · refine zv_aload_n K 0 eX6_grab_35 rfl ?_
      refine zv_iload K 4 eX6_grab_36 rfl ?_
      refine zv_if_ge K 45 eX6_grab_38 (by decide) hf (fun _ hf => ?_) (fun _ hf => ?_)
      · refine zv_iload_n K 3 eX6_grab_45 rfl ?_
        refine zv_iload K 4 eX6_grab_46 rfl ?_
        obtain ⟨v6, h5, eh5, hf⟩ := z_b2_inv hf
        refine zv_cS0 K [tI x3, tI x4] [tA x0] eX6_grab_48 lk_X6_66 md_X10_beside st_X10_beside rfl rfl (Nat.le_of_ble_eq_true rfl) (c_X10_beside X.1.2.1 X.2.2.1 eh5) rfl rfl ⟨z_le (z_fr hX) (by decide), z_le (z_lo hX) (by decide)⟩ ⟨Nat.zero_le _, Nat.zero_le _⟩ ?_
        exact zv_sub [0, 1, 2, 3, 4] rfl (v_X6_grab_b51 K hX hf hp)
      · refine zv_iload_n K 3 eX6_grab_41 rfl ?_
        refine zv_goto K 51 eX6_grab_42 (by decide) ?_
        exact zv_sub [0, 1, 2, 3, 4] rfl (v_X6_grab_b51 K hX hf hp)
theorem v_X6_grab_b15 {X : zX} (K : z_Ok X cX6_grab none RX6 "grab") (hX : z_Xo X rm_X6_grab 6) {x0 : Option Nat} {x1 : Int32} {x2 : Int32} {x3 : Int32} {x4 : Int32} {h : zH} {nx : Nat} {x : (zH)} (hf : f_X6_grab_b15 X.2.2.1.2.2.1 x0 x1 x2 x3 x4 h = some x) (hp : z_P0V X nx x) : zV X 15 [(0, tA x0), (1, tI x1), (2, tI x2), (3, tI x3), (4, tI x4)] [] h nx 0 0 :=
  z_it_ind (P := fun s : (Option Nat) × Int32 × Int32 × Int32 × Int32 × zH => zV X 15 [(0, tA s.1), (1, tI s.2.1), (2, tI s.2.2.1), (3, tI s.2.2.2.1), (4, tI s.2.2.2.2.1)] [] s.2.2.2.2.2 nx 0 0) (fun s y hb hy => v_X6_grab_c15 K hX hb (z_PL_of hy hp)) hf
set_option maxHeartbeats 4000000 in
set_option maxRecDepth 100000 in
theorem v_X6_grab {X : zX} (K : z_Ok X cX6_grab none RX6 "grab") (hX : z_Xo X rm_X6_grab 6) {x0 : Option Nat} {x1 : Int32} {x2 : Int32} {h : zH} {nx : Nat} {x : (zH)} (hf : f_X6_grab X.2.2.1.2.2.1 x0 x1 x2 h = some x) (hp : z_P0V X nx x) : zV X 0 [(0, tA x0), (1, tI x1), (2, tI x2)] [] h nx 0 0 := by
  unfold f_X6_grab at hf
  refine zv_aload_n K 0 eX6_grab_0 rfl ?_
  refine zv_gA K eX6_grab_1 fl_X6_17 hf (fun v1 hf => ?_)
  refine zv_iload_n K 1 eX6_grab_4 rfl ?_
  refine zv_aA K eX6_grab_5 hf (fun v2 hf => ?_)
  refine zv_gA K eX6_grab_6 fl_X6_94 hf (fun v3 hf => ?_)
  refine zv_iload_n K 2 eX6_grab_9 rfl ?_
  refine zv_aI K eX6_grab_10 hf (fun v4 hf => ?_)
  refine zv_istore_n K [(3, tI v4), (0, tA x0), (1, tI x1), (2, tI x2)] eX6_grab_11 (z_lt hX.2 (by decide)) rfl ?_
  refine zv_iconst K (-1 : Int32) eX6_grab_12 (by decide) ?_
  refine zv_istore K [(4, tI (-1 : Int32)), (3, tI v4), (0, tA x0), (1, tI x1), (2, tI x2)] eX6_grab_13 (z_lt hX.2 (by decide)) rfl ?_
  exact zv_sub [2, 3, 4, 1, 0] rfl (v_X6_grab_b15 K hX hf hp)
theorem c_X6_grab (l : Launch) (G : zG) {x0 : Option Nat} {x1 : Int32} {x2 : Int32} {h : zH} {nx : Nat} {x : zH} (hf : f_X6_grab G.2.2.1 x0 x1 x2 h = some x) : z_Ct l G yX6_grab cX6_grab 6 none rm_X6_grab [tA x0, tI x1, tI x2] h nx none x nx 0 0 :=
  z_enter [(0, tA x0), (1, tI x1), (2, tI x2)] (by decide +kernel) (Nat.le_of_ble_eq_true rfl) rfl (fun X hl hR hG hL K hq => by
    subst hl; subst hG
    exact v_X6_grab K ⟨hR, hL⟩ hf hq)
set_option maxHeartbeats 4000000 in
set_option maxRecDepth 100000 in
theorem v_X6_passOn_b50 {X : zX} (K : z_Ok X cX6_passOn none RX6 "passOn") (hX : z_Xo X rm_X6_passOn 6) {x0 : Option Nat} {x1 : Int32} {x2 : Int32} {x3 : Option Nat} {x4 : Int32} {x5 : Int32} {h : zH} {nx : Nat} {x : (zH)} (hf : f_X6_passOn_b50 x0 x1 x2 x3 x4 x5 h = some x) (hp : z_P0V X nx x) : zV X 50 [(0, tA x0), (1, tI x1), (2, tI x2), (3, tA x3), (4, tI x4), (5, tI x5)] [] h nx 0 0 := by
  unfold f_X6_passOn_b50 at hf
  refine zv_aload_n K 3 eX6_passOn_50 rfl ?_
  refine zv_gA K eX6_passOn_51 fl_X6_154 hf (fun v1 hf => ?_)
  refine zv_iload_n K 2 eX6_passOn_54 rfl ?_
  refine zv_bipush K (-4 : Int32) eX6_passOn_55 (by decide) ?_
  refine zv_sI K eX6_passOn_57 hf (fun h2 hf => ?_)
  refine zv_iload K 5 eX6_passOn_58 rfl ?_
  refine zv_if_le K 75 eX6_passOn_60 (by decide) hf (fun _ hf => ?_) (fun _ hf => ?_)
  · refine zv_aload_n K 0 eX6_passOn_75 rfl ?_
    refine zv_gA K eX6_passOn_76 fl_X6_23 hf (fun v3 hf => ?_)
    refine zv_iload K 4 eX6_passOn_79 rfl ?_
    refine zv_aA K eX6_passOn_81 hf (fun v4 hf => ?_)
    refine zv_iconst K (2 : Int32) eX6_passOn_82 (by decide) ?_
    refine zv_pI K eX6_passOn_83 fl_X6_85 ff_8_1 rfl hf (fun h5 hf => ?_)
    refine zv_aload_n K 0 eX6_passOn_86 rfl ?_
    refine zv_gA K eX6_passOn_87 fl_X6_23 hf (fun v6 hf => ?_)
    refine zv_iload K 4 eX6_passOn_90 rfl ?_
    refine zv_aA K eX6_passOn_92 hf (fun v7 hf => ?_)
    refine zv_iconst K (0 : Int32) eX6_passOn_93 (by decide) ?_
    refine zv_pI K eX6_passOn_94 fl_X6_97 ff_8_4 rfl hf (fun h8 hf => ?_)
    have e9 := Option.some.inj hf; subst e9
    exact zv_vret K eX6_passOn_97 hp
  · refine zv_aload_n K 0 eX6_passOn_63 rfl ?_
    refine zv_iload K 4 eX6_passOn_64 rfl ?_
    refine zv_iload_n K 1 eX6_passOn_66 rfl ?_
    refine zv_iload K 5 eX6_passOn_67 rfl ?_
    obtain ⟨q9, hq9, hf⟩ := z_bind_inv hf
    obtain ⟨h10, eh10, hf⟩ := z_bind_inv hf
    refine zv_cV0 K [tI x4, tI x1, tI x5] [] eX6_passOn_69 lk_X6_200 md_X6_give im_X6_give sl_X6_give rfl rfl rfl rfl (Nat.le_of_ble_eq_true rfl) hq9 (c_X6_give X.1.2.1 X.2.2.1 eh10) rfl rfl ⟨z_le (z_fr hX) (by decide), z_le (z_lo hX) (by decide)⟩ ⟨Nat.zero_le _, Nat.zero_le _⟩ ?_
    refine zv_goto K 97 eX6_passOn_72 (by decide) ?_
    have e9 := Option.some.inj hf; subst e9
    exact zv_vret K eX6_passOn_97 hp
set_option maxHeartbeats 4000000 in
set_option maxRecDepth 100000 in
theorem v_X6_passOn {X : zX} (K : z_Ok X cX6_passOn none RX6 "passOn") (hX : z_Xo X rm_X6_passOn 6) {x0 : Option Nat} {x1 : Int32} {x2 : Int32} {h : zH} {nx : Nat} {x : (zH)} (hf : f_X6_passOn x0 x1 x2 h = some x) (hp : z_P0V X nx x) : zV X 0 [(0, tA x0), (1, tI x1), (2, tI x2)] [] h nx 0 0 := by
  unfold f_X6_passOn at hf
  refine zv_aload_n K 0 eX6_passOn_0 rfl ?_
  refine zv_gA K eX6_passOn_1 fl_X6_17 hf (fun v1 hf => ?_)
  refine zv_iload_n K 1 eX6_passOn_4 rfl ?_
  refine zv_aA K eX6_passOn_5 hf (fun v2 hf => ?_)
  refine zv_astore_n K [(3, tA v2), (0, tA x0), (1, tI x1), (2, tI x2)] eX6_passOn_6 (z_lt hX.2 (by decide)) rfl ?_
  refine zv_aload_n K 0 eX6_passOn_7 rfl ?_
  refine zv_gA K eX6_passOn_8 fl_X6_154 hf (fun v3 hf => ?_)
  refine zv_iload_n K 3 eX6_passOn_11 rfl ?_
  refine zv_aI K eX6_passOn_12 hf (fun v4 hf => ?_)
  refine zv_istore K [(4, tI v4), (3, tA v2), (0, tA x0), (1, tI x1), (2, tI x2)] eX6_passOn_13 (z_lt hX.2 (by decide)) rfl ?_
  refine zv_iload_n K 4 eX6_passOn_15 rfl ?_
  refine zv_iconst K (1 : Int32) eX6_passOn_16 (by decide) ?_
  refine zv_isub K eX6_passOn_17 ?_
  refine zv_istore K [(5, tI (x2 - (1 : Int32))), (4, tI v4), (3, tA v2), (0, tA x0), (1, tI x1), (2, tI x2)] eX6_passOn_18 (z_lt hX.2 (by decide)) rfl ?_
  refine zv_iload K 1 eX6_passOn_20 rfl ?_
  refine zv_if_lt K 49 eX6_passOn_22 (by decide) hf (fun _ hf => ?_) (fun _ hf => ?_)
  · have e9 := Option.some.inj hf; subst e9
    exact zv_vret K eX6_passOn_49 hp
  · refine zv_iload K 0 eX6_passOn_25 rfl ?_
    refine zv_if_le K 50 eX6_passOn_27 (by decide) hf (fun _ hf => ?_) (fun _ hf => ?_)
    · exact zv_sub [3, 4, 5, 2, 1, 0] rfl (v_X6_passOn_b50 K hX hf hp)
    · refine zv_iload K 0 eX6_passOn_30 rfl ?_
      refine zv_aload_n K 2 eX6_passOn_32 rfl ?_
      refine zv_gI K eX6_passOn_33 fl_X6_161 hf (fun v5 hf => ?_)
      refine zv_icmp_eq K 49 eX6_passOn_36 (by decide) hf (fun _ hf => ?_) (fun _ hf => ?_)
      · have e9 := Option.some.inj hf; subst e9
        exact zv_vret K eX6_passOn_49 hp
      · refine zv_aload_n K 2 eX6_passOn_39 rfl ?_
        refine zv_gA K eX6_passOn_40 fl_X6_154 hf (fun v6 hf => ?_)
        refine zv_iload K 0 eX6_passOn_43 rfl ?_
        refine zv_aI K eX6_passOn_45 hf (fun v7 hf => ?_)
        refine zv_if_lt K 50 eX6_passOn_46 (by decide) hf (fun _ hf => ?_) (fun _ hf => ?_)
        · exact zv_sub [3, 4, 5, 2, 1, 0] rfl (v_X6_passOn_b50 K hX hf hp)
        · have e9 := Option.some.inj hf; subst e9
          exact zv_vret K eX6_passOn_49 hp
theorem c_X6_passOn (l : Launch) (G : zG) {x0 : Option Nat} {x1 : Int32} {x2 : Int32} {h : zH} {nx : Nat} {x : zH} (hf : f_X6_passOn x0 x1 x2 h = some x) : z_Ct l G yX6_passOn cX6_passOn 6 none rm_X6_passOn [tA x0, tI x1, tI x2] h nx none x nx 0 0 :=
  z_enter [(0, tA x0), (1, tI x1), (2, tI x2)] (by decide +kernel) (Nat.le_of_ble_eq_true rfl) rfl (fun X hl hR hG hL K hq => by
    subst hl; subst hG
    exact v_X6_passOn K ⟨hR, hL⟩ hf hq)
