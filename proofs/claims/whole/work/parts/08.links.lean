theorem fl_X0_15 : z_FL RX0 15 0 5 := ⟨_, rfl, by decide, Or.inl (List.mem_of_getElem? (i := 121) (by decide +kernel))⟩
theorem fl_X0_18 : z_FL RX0 18 0 6 := ⟨_, rfl, by decide, Or.inl (List.mem_of_getElem? (i := 124) (by decide +kernel))⟩
theorem fl_X0_21 : z_FL RX0 21 0 7 := ⟨_, rfl, by decide, Or.inl (List.mem_of_getElem? (i := 127) (by decide +kernel))⟩
theorem fl_X0_27 : z_FL RX0 27 0 0 := ⟨_, rfl, by decide, Or.inl (List.mem_of_getElem? (i := 103) (by decide +kernel))⟩
theorem fl_X0_31 : z_FL RX0 31 0 1 := ⟨_, rfl, by decide, Or.inl (List.mem_of_getElem? (i := 107) (by decide +kernel))⟩
theorem fl_X0_34 : z_FL RX0 34 0 2 := ⟨_, rfl, by decide, Or.inl (List.mem_of_getElem? (i := 110) (by decide +kernel))⟩
theorem fl_X0_37 : z_FL RX0 37 0 3 := ⟨_, rfl, by decide, Or.inl (List.mem_of_getElem? (i := 114) (by decide +kernel))⟩
theorem fl_X0_9 : z_FL RX0 9 0 4 := ⟨_, rfl, by decide, Or.inl (List.mem_of_getElem? (i := 117) (by decide +kernel))⟩
theorem fl_X10_10 : z_FL RX10 10 10 0 := ⟨_, rfl, by decide, Or.inl (List.mem_of_getElem? (i := 336) (by decide +kernel))⟩
theorem fl_X10_113 : z_FL RX10 113 6 6 := ⟨_, rfl, by decide, Or.inr ⟨"ThinkingArms", List.mem_of_getElem? (i := 199) (by decide +kernel)⟩⟩
theorem fl_X10_123 : z_FL RX10 123 6 3 := ⟨_, rfl, by decide, Or.inr ⟨"ThinkingArms", List.mem_of_getElem? (i := 192) (by decide +kernel)⟩⟩
theorem fl_X10_127 : z_FL RX10 127 0 4 := ⟨_, rfl, by decide, Or.inr ⟨"ThinkingArms", List.mem_of_getElem? (i := 119) (by decide +kernel)⟩⟩
theorem fl_X10_132 : z_FL RX10 132 0 5 := ⟨_, rfl, by decide, Or.inr ⟨"ThinkingArms", List.mem_of_getElem? (i := 122) (by decide +kernel)⟩⟩
theorem fl_X10_135 : z_FL RX10 135 0 6 := ⟨_, rfl, by decide, Or.inr ⟨"ThinkingArms", List.mem_of_getElem? (i := 125) (by decide +kernel)⟩⟩
theorem fl_X10_138 : z_FL RX10 138 0 7 := ⟨_, rfl, by decide, Or.inr ⟨"ThinkingArms", List.mem_of_getElem? (i := 128) (by decide +kernel)⟩⟩
theorem fl_X10_150 : z_FL RX10 150 6 5 := ⟨_, rfl, by decide, Or.inr ⟨"ThinkingArms", List.mem_of_getElem? (i := 197) (by decide +kernel)⟩⟩
theorem fl_X10_154 : z_FL RX10 154 8 1 := ⟨_, rfl, by decide, Or.inr ⟨"ThinkingArms", List.mem_of_getElem? (i := 163) (by decide +kernel)⟩⟩
theorem fl_X10_16 : z_FL RX10 16 10 1 := ⟨_, rfl, by decide, Or.inl (List.mem_of_getElem? (i := 337) (by decide +kernel))⟩
theorem fl_X10_163 : z_FL RX10 163 8 0 := ⟨_, rfl, by decide, Or.inr ⟨"ThinkingArms", List.mem_of_getElem? (i := 159) (by decide +kernel)⟩⟩
theorem fl_X10_166 : z_FL RX10 166 8 3 := ⟨_, rfl, by decide, Or.inr ⟨"ThinkingArms", List.mem_of_getElem? (i := 168) (by decide +kernel)⟩⟩
theorem fl_X10_169 : z_FL RX10 169 8 4 := ⟨_, rfl, by decide, Or.inr ⟨"ThinkingArms", List.mem_of_getElem? (i := 171) (by decide +kernel)⟩⟩
theorem fl_X10_194 : z_FL RX10 194 10 4 := ⟨_, rfl, by decide, Or.inl (List.mem_of_getElem? (i := 340) (by decide +kernel))⟩
theorem fl_X10_201 : z_FL RX10 201 4 4 := ⟨_, rfl, by decide, Or.inr ⟨"ThinkingArms", List.mem_of_getElem? (i := 237) (by decide +kernel)⟩⟩
theorem fl_X10_204 : z_FL RX10 204 0 3 := ⟨_, rfl, by decide, Or.inr ⟨"ThinkingArms", List.mem_of_getElem? (i := 115) (by decide +kernel)⟩⟩
theorem fl_X10_208 : z_FL RX10 208 5 1 := ⟨_, rfl, by decide, Or.inr ⟨"ThinkingArms", List.mem_of_getElem? (i := 569) (by decide +kernel)⟩⟩
theorem fl_X10_213 : z_FL RX10 213 0 2 := ⟨_, rfl, by decide, Or.inr ⟨"ThinkingArms", List.mem_of_getElem? (i := 112) (by decide +kernel)⟩⟩
theorem fl_X10_216 : z_FL RX10 216 6 7 := ⟨_, rfl, by decide, Or.inr ⟨"ThinkingArms", List.mem_of_getElem? (i := 201) (by decide +kernel)⟩⟩
theorem fl_X10_22 : z_FL RX10 22 10 2 := ⟨_, rfl, by decide, Or.inl (List.mem_of_getElem? (i := 338) (by decide +kernel))⟩
theorem fl_X10_229 : z_FL RX10 229 0 1 := ⟨_, rfl, by decide, Or.inr ⟨"ThinkingArms", List.mem_of_getElem? (i := 108) (by decide +kernel)⟩⟩
theorem fl_X10_232 : z_FL RX10 232 0 0 := ⟨_, rfl, by decide, Or.inr ⟨"ThinkingArms", List.mem_of_getElem? (i := 105) (by decide +kernel)⟩⟩
theorem fl_X10_235 : z_FL RX10 235 6 8 := ⟨_, rfl, by decide, Or.inr ⟨"ThinkingArms", List.mem_of_getElem? (i := 203) (by decide +kernel)⟩⟩
theorem fl_X10_241 : z_FL RX10 241 3 4 := ⟨_, rfl, by decide, Or.inr ⟨"ThinkingArms", List.mem_of_getElem? (i := 262) (by decide +kernel)⟩⟩
theorem fl_X10_244 : z_FL RX10 244 3 5 := ⟨_, rfl, by decide, Or.inr ⟨"ThinkingArms", List.mem_of_getElem? (i := 264) (by decide +kernel)⟩⟩
theorem fl_X10_247 : z_FL RX10 247 3 2 := ⟨_, rfl, by decide, Or.inr ⟨"ThinkingArms", List.mem_of_getElem? (i := 259) (by decide +kernel)⟩⟩
theorem fl_X10_254 : z_FL RX10 254 9 0 := ⟨_, rfl, by decide, Or.inr ⟨"ThinkingArms", List.mem_of_getElem? (i := 302) (by decide +kernel)⟩⟩
theorem fl_X10_26 : z_FL RX10 26 10 3 := ⟨_, rfl, by decide, Or.inl (List.mem_of_getElem? (i := 339) (by decide +kernel))⟩
theorem fl_X10_268 : z_FL RX10 268 7 2 := ⟨_, rfl, by decide, Or.inr ⟨"ThinkingArms", List.mem_of_getElem? (i := 328) (by decide +kernel)⟩⟩
theorem fl_X10_280 : z_FL RX10 280 7 1 := ⟨_, rfl, by decide, Or.inr ⟨"ThinkingArms", List.mem_of_getElem? (i := 326) (by decide +kernel)⟩⟩
theorem fl_X10_289 : z_FL RX10 289 7 0 := ⟨_, rfl, by decide, Or.inr ⟨"ThinkingArms", List.mem_of_getElem? (i := 324) (by decide +kernel)⟩⟩
theorem fl_X10_33 : z_FL RX10 33 10 5 := ⟨_, rfl, by decide, Or.inl (List.mem_of_getElem? (i := 341) (by decide +kernel))⟩
theorem fl_X10_40 : z_FL RX10 40 10 6 := ⟨_, rfl, by decide, Or.inl (List.mem_of_getElem? (i := 342) (by decide +kernel))⟩
theorem fl_X10_47 : z_FL RX10 47 10 7 := ⟨_, rfl, by decide, Or.inl (List.mem_of_getElem? (i := 343) (by decide +kernel))⟩
theorem fl_X10_51 : z_FL RX10 51 10 8 := ⟨_, rfl, by decide, Or.inl (List.mem_of_getElem? (i := 344) (by decide +kernel))⟩
theorem fl_X10_68 : z_FL RX10 68 6 0 := ⟨_, rfl, by decide, Or.inr ⟨"ThinkingArms", List.mem_of_getElem? (i := 186) (by decide +kernel)⟩⟩
theorem fl_X10_99 : z_FL RX10 99 6 4 := ⟨_, rfl, by decide, Or.inr ⟨"ThinkingArms", List.mem_of_getElem? (i := 194) (by decide +kernel)⟩⟩
theorem fl_X11_13 : z_FL RX11 13 11 1 := ⟨_, rfl, by decide, Or.inl (List.mem_of_getElem? (i := 898) (by decide +kernel))⟩
theorem fl_X11_135 : z_FL RX11 135 11 4 := ⟨_, rfl, by decide, Or.inl (List.mem_of_getElem? (i := 901) (by decide +kernel))⟩
theorem fl_X11_139 : z_FL RX11 139 11 10 := ⟨_, rfl, by decide, Or.inl (List.mem_of_getElem? (i := 907) (by decide +kernel))⟩
theorem fl_X11_149 : z_FL RX11 149 11 14 := ⟨_, rfl, by decide, Or.inl (List.mem_of_getElem? (i := 911) (by decide +kernel))⟩
theorem fl_X11_16 : z_FL RX11 16 11 2 := ⟨_, rfl, by decide, Or.inl (List.mem_of_getElem? (i := 899) (by decide +kernel))⟩
theorem fl_X11_182 : z_FL RX11 182 11 19 := ⟨_, rfl, by decide, Or.inl (List.mem_of_getElem? (i := 916) (by decide +kernel))⟩
theorem fl_X11_20 : z_FL RX11 20 11 3 := ⟨_, rfl, by decide, Or.inl (List.mem_of_getElem? (i := 900) (by decide +kernel))⟩
theorem fl_X11_23 : z_FL RX11 23 11 5 := ⟨_, rfl, by decide, Or.inl (List.mem_of_getElem? (i := 902) (by decide +kernel))⟩
theorem fl_X11_26 : z_FL RX11 26 11 6 := ⟨_, rfl, by decide, Or.inl (List.mem_of_getElem? (i := 903) (by decide +kernel))⟩
theorem fl_X11_29 : z_FL RX11 29 11 7 := ⟨_, rfl, by decide, Or.inl (List.mem_of_getElem? (i := 904) (by decide +kernel))⟩
theorem fl_X11_32 : z_FL RX11 32 11 8 := ⟨_, rfl, by decide, Or.inl (List.mem_of_getElem? (i := 905) (by decide +kernel))⟩
theorem fl_X11_35 : z_FL RX11 35 11 9 := ⟨_, rfl, by decide, Or.inl (List.mem_of_getElem? (i := 906) (by decide +kernel))⟩
theorem fl_X11_38 : z_FL RX11 38 11 11 := ⟨_, rfl, by decide, Or.inl (List.mem_of_getElem? (i := 908) (by decide +kernel))⟩
theorem fl_X11_41 : z_FL RX11 41 11 12 := ⟨_, rfl, by decide, Or.inl (List.mem_of_getElem? (i := 909) (by decide +kernel))⟩
theorem fl_X11_44 : z_FL RX11 44 11 13 := ⟨_, rfl, by decide, Or.inl (List.mem_of_getElem? (i := 910) (by decide +kernel))⟩
theorem fl_X11_47 : z_FL RX11 47 11 15 := ⟨_, rfl, by decide, Or.inl (List.mem_of_getElem? (i := 912) (by decide +kernel))⟩
theorem fl_X11_50 : z_FL RX11 50 11 16 := ⟨_, rfl, by decide, Or.inl (List.mem_of_getElem? (i := 913) (by decide +kernel))⟩
theorem fl_X11_53 : z_FL RX11 53 11 17 := ⟨_, rfl, by decide, Or.inl (List.mem_of_getElem? (i := 914) (by decide +kernel))⟩
theorem fl_X11_56 : z_FL RX11 56 11 18 := ⟨_, rfl, by decide, Or.inl (List.mem_of_getElem? (i := 915) (by decide +kernel))⟩
theorem fl_X11_59 : z_FL RX11 59 11 20 := ⟨_, rfl, by decide, Or.inl (List.mem_of_getElem? (i := 917) (by decide +kernel))⟩
theorem fl_X11_62 : z_FL RX11 62 11 21 := ⟨_, rfl, by decide, Or.inl (List.mem_of_getElem? (i := 918) (by decide +kernel))⟩
theorem fl_X11_7 : z_FL RX11 7 11 0 := ⟨_, rfl, by decide, Or.inl (List.mem_of_getElem? (i := 897) (by decide +kernel))⟩
theorem fl_X1_15 : z_FL RX1 15 1 3 := ⟨_, rfl, by decide, Or.inl (List.mem_of_getElem? (i := 624) (by decide +kernel))⟩
theorem fl_X1_19 : z_FL RX1 19 1 2 := ⟨_, rfl, by decide, Or.inl (List.mem_of_getElem? (i := 622) (by decide +kernel))⟩
theorem fl_X1_27 : z_FL RX1 27 1 1 := ⟨_, rfl, by decide, Or.inl (List.mem_of_getElem? (i := 620) (by decide +kernel))⟩
theorem fl_X1_30 : z_FL RX1 30 1 4 := ⟨_, rfl, by decide, Or.inl (List.mem_of_getElem? (i := 626) (by decide +kernel))⟩
theorem fl_X1_9 : z_FL RX1 9 1 0 := ⟨_, rfl, by decide, Or.inl (List.mem_of_getElem? (i := 618) (by decide +kernel))⟩
theorem fl_X3_15 : z_FL RX3 15 3 1 := ⟨_, rfl, by decide, Or.inl (List.mem_of_getElem? (i := 257) (by decide +kernel))⟩
theorem fl_X3_18 : z_FL RX3 18 3 2 := ⟨_, rfl, by decide, Or.inl (List.mem_of_getElem? (i := 258) (by decide +kernel))⟩
theorem fl_X3_21 : z_FL RX3 21 3 3 := ⟨_, rfl, by decide, Or.inl (List.mem_of_getElem? (i := 260) (by decide +kernel))⟩
theorem fl_X3_30 : z_FL RX3 30 6 0 := ⟨_, rfl, by decide, Or.inr ⟨"ThinkingArms", List.mem_of_getElem? (i := 185) (by decide +kernel)⟩⟩
theorem fl_X3_36 : z_FL RX3 36 6 1 := ⟨_, rfl, by decide, Or.inr ⟨"ThinkingArms", List.mem_of_getElem? (i := 187) (by decide +kernel)⟩⟩
theorem fl_X3_39 : z_FL RX3 39 3 6 := ⟨_, rfl, by decide, Or.inl (List.mem_of_getElem? (i := 265) (by decide +kernel))⟩
theorem fl_X3_43 : z_FL RX3 43 0 4 := ⟨_, rfl, by decide, Or.inr ⟨"ThinkingArms", List.mem_of_getElem? (i := 118) (by decide +kernel)⟩⟩
theorem fl_X3_46 : z_FL RX3 46 3 7 := ⟨_, rfl, by decide, Or.inl (List.mem_of_getElem? (i := 266) (by decide +kernel))⟩
theorem fl_X3_49 : z_FL RX3 49 0 0 := ⟨_, rfl, by decide, Or.inr ⟨"ThinkingArms", List.mem_of_getElem? (i := 104) (by decide +kernel)⟩⟩
theorem fl_X3_50 : z_FL RX3 50 3 8 := ⟨_, rfl, by decide, Or.inl (List.mem_of_getElem? (i := 267) (by decide +kernel))⟩
theorem fl_X3_53 : z_FL RX3 53 3 9 := ⟨_, rfl, by decide, Or.inl (List.mem_of_getElem? (i := 268) (by decide +kernel))⟩
theorem fl_X3_62 : z_FL RX3 62 3 10 := ⟨_, rfl, by decide, Or.inl (List.mem_of_getElem? (i := 269) (by decide +kernel))⟩
theorem fl_X3_81 : z_FL RX3 81 3 4 := ⟨_, rfl, by decide, Or.inl (List.mem_of_getElem? (i := 261) (by decide +kernel))⟩
theorem fl_X3_84 : z_FL RX3 84 3 5 := ⟨_, rfl, by decide, Or.inl (List.mem_of_getElem? (i := 263) (by decide +kernel))⟩
theorem fl_X3_9 : z_FL RX3 9 3 0 := ⟨_, rfl, by decide, Or.inl (List.mem_of_getElem? (i := 256) (by decide +kernel))⟩
theorem fl_X4_101 : z_FL RX4 101 1 1 := ⟨_, rfl, by decide, Or.inr ⟨"ThinkingArms", List.mem_of_getElem? (i := 621) (by decide +kernel)⟩⟩
theorem fl_X4_104 : z_FL RX4 104 1 3 := ⟨_, rfl, by decide, Or.inr ⟨"ThinkingArms", List.mem_of_getElem? (i := 625) (by decide +kernel)⟩⟩
theorem fl_X4_110 : z_FL RX4 110 1 2 := ⟨_, rfl, by decide, Or.inr ⟨"ThinkingArms", List.mem_of_getElem? (i := 623) (by decide +kernel)⟩⟩
theorem fl_X4_15 : z_FL RX4 15 4 1 := ⟨_, rfl, by decide, Or.inl (List.mem_of_getElem? (i := 233) (by decide +kernel))⟩
theorem fl_X4_19 : z_FL RX4 19 4 4 := ⟨_, rfl, by decide, Or.inl (List.mem_of_getElem? (i := 236) (by decide +kernel))⟩
theorem fl_X4_29 : z_FL RX4 29 5 0 := ⟨_, rfl, by decide, Or.inr ⟨"ThinkingArms", List.mem_of_getElem? (i := 565) (by decide +kernel)⟩⟩
theorem fl_X4_33 : z_FL RX4 33 5 1 := ⟨_, rfl, by decide, Or.inr ⟨"ThinkingArms", List.mem_of_getElem? (i := 568) (by decide +kernel)⟩⟩
theorem fl_X4_44 : z_FL RX4 44 4 3 := ⟨_, rfl, by decide, Or.inl (List.mem_of_getElem? (i := 235) (by decide +kernel))⟩
theorem fl_X4_57 : z_FL RX4 57 2 0 := ⟨_, rfl, by decide, Or.inr ⟨"ThinkingArms", List.mem_of_getElem? (i := 586) (by decide +kernel)⟩⟩
theorem fl_X4_71 : z_FL RX4 71 4 2 := ⟨_, rfl, by decide, Or.inl (List.mem_of_getElem? (i := 234) (by decide +kernel))⟩
theorem fl_X4_74 : z_FL RX4 74 2 1 := ⟨_, rfl, by decide, Or.inr ⟨"ThinkingArms", List.mem_of_getElem? (i := 588) (by decide +kernel)⟩⟩
theorem fl_X4_78 : z_FL RX4 78 2 3 := ⟨_, rfl, by decide, Or.inr ⟨"ThinkingArms", List.mem_of_getElem? (i := 593) (by decide +kernel)⟩⟩
theorem fl_X4_81 : z_FL RX4 81 2 2 := ⟨_, rfl, by decide, Or.inr ⟨"ThinkingArms", List.mem_of_getElem? (i := 591) (by decide +kernel)⟩⟩
theorem fl_X4_9 : z_FL RX4 9 4 0 := ⟨_, rfl, by decide, Or.inl (List.mem_of_getElem? (i := 232) (by decide +kernel))⟩
theorem fl_X4_91 : z_FL RX4 91 1 4 := ⟨_, rfl, by decide, Or.inr ⟨"ThinkingArms", List.mem_of_getElem? (i := 627) (by decide +kernel)⟩⟩
theorem fl_X4_96 : z_FL RX4 96 1 0 := ⟨_, rfl, by decide, Or.inr ⟨"ThinkingArms", List.mem_of_getElem? (i := 619) (by decide +kernel)⟩⟩
theorem fl_X5_11 : z_FL RX5 11 5 0 := ⟨_, rfl, by decide, Or.inl (List.mem_of_getElem? (i := 564) (by decide +kernel))⟩
theorem fl_X5_17 : z_FL RX5 17 5 1 := ⟨_, rfl, by decide, Or.inl (List.mem_of_getElem? (i := 567) (by decide +kernel))⟩
theorem fl_X5_21 : z_FL RX5 21 2 0 := ⟨_, rfl, by decide, Or.inr ⟨"ThinkingArms", List.mem_of_getElem? (i := 585) (by decide +kernel)⟩⟩
theorem fl_X6_119 : z_FL RX6 119 0 0 := ⟨_, rfl, by decide, Or.inr ⟨"ThinkingArms", List.mem_of_getElem? (i := 106) (by decide +kernel)⟩⟩
theorem fl_X6_122 : z_FL RX6 122 0 8 := ⟨_, rfl, by decide, Or.inr ⟨"ThinkingArms", List.mem_of_getElem? (i := 131) (by decide +kernel)⟩⟩
theorem fl_X6_129 : z_FL RX6 129 0 7 := ⟨_, rfl, by decide, Or.inr ⟨"ThinkingArms", List.mem_of_getElem? (i := 129) (by decide +kernel)⟩⟩
theorem fl_X6_132 : z_FL RX6 132 0 2 := ⟨_, rfl, by decide, Or.inr ⟨"ThinkingArms", List.mem_of_getElem? (i := 113) (by decide +kernel)⟩⟩
theorem fl_X6_138 : z_FL RX6 138 0 3 := ⟨_, rfl, by decide, Or.inr ⟨"ThinkingArms", List.mem_of_getElem? (i := 116) (by decide +kernel)⟩⟩
theorem fl_X6_151 : z_FL RX6 151 0 5 := ⟨_, rfl, by decide, Or.inr ⟨"ThinkingArms", List.mem_of_getElem? (i := 123) (by decide +kernel)⟩⟩
theorem fl_X6_154 : z_FL RX6 154 0 6 := ⟨_, rfl, by decide, Or.inr ⟨"ThinkingArms", List.mem_of_getElem? (i := 126) (by decide +kernel)⟩⟩
theorem fl_X6_161 : z_FL RX6 161 0 1 := ⟨_, rfl, by decide, Or.inr ⟨"ThinkingArms", List.mem_of_getElem? (i := 109) (by decide +kernel)⟩⟩
theorem fl_X6_164 : z_FL RX6 164 5 0 := ⟨_, rfl, by decide, Or.inr ⟨"ThinkingArms", List.mem_of_getElem? (i := 566) (by decide +kernel)⟩⟩
theorem fl_X6_168 : z_FL RX6 168 2 3 := ⟨_, rfl, by decide, Or.inr ⟨"ThinkingArms", List.mem_of_getElem? (i := 594) (by decide +kernel)⟩⟩
theorem fl_X6_17 : z_FL RX6 17 6 3 := ⟨_, rfl, by decide, Or.inl (List.mem_of_getElem? (i := 190) (by decide +kernel))⟩
theorem fl_X6_173 : z_FL RX6 173 2 2 := ⟨_, rfl, by decide, Or.inr ⟨"ThinkingArms", List.mem_of_getElem? (i := 592) (by decide +kernel)⟩⟩
theorem fl_X6_176 : z_FL RX6 176 2 1 := ⟨_, rfl, by decide, Or.inr ⟨"ThinkingArms", List.mem_of_getElem? (i := 589) (by decide +kernel)⟩⟩
theorem fl_X6_23 : z_FL RX6 23 6 5 := ⟨_, rfl, by decide, Or.inl (List.mem_of_getElem? (i := 195) (by decide +kernel))⟩
theorem fl_X6_27 : z_FL RX6 27 6 7 := ⟨_, rfl, by decide, Or.inl (List.mem_of_getElem? (i := 200) (by decide +kernel))⟩
theorem fl_X6_33 : z_FL RX6 33 6 0 := ⟨_, rfl, by decide, Or.inl (List.mem_of_getElem? (i := 184) (by decide +kernel))⟩
theorem fl_X6_37 : z_FL RX6 37 6 1 := ⟨_, rfl, by decide, Or.inl (List.mem_of_getElem? (i := 188) (by decide +kernel))⟩
theorem fl_X6_46 : z_FL RX6 46 6 4 := ⟨_, rfl, by decide, Or.inl (List.mem_of_getElem? (i := 193) (by decide +kernel))⟩
theorem fl_X6_53 : z_FL RX6 53 6 6 := ⟨_, rfl, by decide, Or.inl (List.mem_of_getElem? (i := 198) (by decide +kernel))⟩
theorem fl_X6_59 : z_FL RX6 59 6 8 := ⟨_, rfl, by decide, Or.inl (List.mem_of_getElem? (i := 202) (by decide +kernel))⟩
theorem fl_X6_78 : z_FL RX6 78 8 0 := ⟨_, rfl, by decide, Or.inr ⟨"ThinkingArms", List.mem_of_getElem? (i := 160) (by decide +kernel)⟩⟩
theorem fl_X6_85 : z_FL RX6 85 8 1 := ⟨_, rfl, by decide, Or.inr ⟨"ThinkingArms", List.mem_of_getElem? (i := 164) (by decide +kernel)⟩⟩
theorem fl_X6_88 : z_FL RX6 88 8 2 := ⟨_, rfl, by decide, Or.inr ⟨"ThinkingArms", List.mem_of_getElem? (i := 166) (by decide +kernel)⟩⟩
theorem fl_X6_9 : z_FL RX6 9 6 2 := ⟨_, rfl, by decide, Or.inl (List.mem_of_getElem? (i := 189) (by decide +kernel))⟩
theorem fl_X6_91 : z_FL RX6 91 8 3 := ⟨_, rfl, by decide, Or.inr ⟨"ThinkingArms", List.mem_of_getElem? (i := 169) (by decide +kernel)⟩⟩
theorem fl_X6_94 : z_FL RX6 94 0 4 := ⟨_, rfl, by decide, Or.inr ⟨"ThinkingArms", List.mem_of_getElem? (i := 120) (by decide +kernel)⟩⟩
theorem fl_X6_97 : z_FL RX6 97 8 4 := ⟨_, rfl, by decide, Or.inr ⟨"ThinkingArms", List.mem_of_getElem? (i := 172) (by decide +kernel)⟩⟩
theorem fl_X7_11 : z_FL RX7 11 7 0 := ⟨_, rfl, by decide, Or.inl (List.mem_of_getElem? (i := 323) (by decide +kernel))⟩
theorem fl_X7_15 : z_FL RX7 15 7 2 := ⟨_, rfl, by decide, Or.inl (List.mem_of_getElem? (i := 327) (by decide +kernel))⟩
theorem fl_X7_19 : z_FL RX7 19 7 1 := ⟨_, rfl, by decide, Or.inl (List.mem_of_getElem? (i := 325) (by decide +kernel))⟩
theorem fl_X8_13 : z_FL RX8 13 8 1 := ⟨_, rfl, by decide, Or.inl (List.mem_of_getElem? (i := 161) (by decide +kernel))⟩
theorem fl_X8_16 : z_FL RX8 16 8 2 := ⟨_, rfl, by decide, Or.inl (List.mem_of_getElem? (i := 165) (by decide +kernel))⟩
theorem fl_X8_19 : z_FL RX8 19 8 3 := ⟨_, rfl, by decide, Or.inl (List.mem_of_getElem? (i := 167) (by decide +kernel))⟩
theorem fl_X8_22 : z_FL RX8 22 8 4 := ⟨_, rfl, by decide, Or.inl (List.mem_of_getElem? (i := 170) (by decide +kernel))⟩
theorem fl_X8_7 : z_FL RX8 7 8 0 := ⟨_, rfl, by decide, Or.inl (List.mem_of_getElem? (i := 158) (by decide +kernel))⟩
theorem fl_X9_17 : z_FL RX9 17 9 1 := ⟨_, rfl, by decide, Or.inl (List.mem_of_getElem? (i := 303) (by decide +kernel))⟩
theorem fl_X9_22 : z_FL RX9 22 9 2 := ⟨_, rfl, by decide, Or.inl (List.mem_of_getElem? (i := 304) (by decide +kernel))⟩
theorem fl_X9_26 : z_FL RX9 26 9 3 := ⟨_, rfl, by decide, Or.inl (List.mem_of_getElem? (i := 305) (by decide +kernel))⟩
theorem fl_X9_29 : z_FL RX9 29 9 4 := ⟨_, rfl, by decide, Or.inl (List.mem_of_getElem? (i := 306) (by decide +kernel))⟩
theorem fl_X9_40 : z_FL RX9 40 6 3 := ⟨_, rfl, by decide, Or.inr ⟨"ThinkingArms", List.mem_of_getElem? (i := 191) (by decide +kernel)⟩⟩
theorem fl_X9_44 : z_FL RX9 44 0 2 := ⟨_, rfl, by decide, Or.inr ⟨"ThinkingArms", List.mem_of_getElem? (i := 111) (by decide +kernel)⟩⟩
theorem fl_X9_49 : z_FL RX9 49 6 5 := ⟨_, rfl, by decide, Or.inr ⟨"ThinkingArms", List.mem_of_getElem? (i := 196) (by decide +kernel)⟩⟩
theorem fl_X9_53 : z_FL RX9 53 8 1 := ⟨_, rfl, by decide, Or.inr ⟨"ThinkingArms", List.mem_of_getElem? (i := 162) (by decide +kernel)⟩⟩
theorem fl_X9_9 : z_FL RX9 9 9 0 := ⟨_, rfl, by decide, Or.inl (List.mem_of_getElem? (i := 301) (by decide +kernel))⟩
theorem fx_X0_15 : ∃ q : vw_C, vwCl[0]? = some q ∧ 5 < q.2.2 ∧ (q.2.1 5).2.2.2 = true ∧ (q.2.1 5).1 = RX0 ∧ Cond.fieldLink RX0 15 (q.2.1 5).1 (q.2.1 5).2.1 (q.2.1 5).2.2.1 ∈ lw_tbl := ⟨_, rfl, by decide, rfl, rfl, List.mem_of_getElem? (i := 121) (by decide +kernel)⟩
theorem fx_X0_18 : ∃ q : vw_C, vwCl[0]? = some q ∧ 6 < q.2.2 ∧ (q.2.1 6).2.2.2 = true ∧ (q.2.1 6).1 = RX0 ∧ Cond.fieldLink RX0 18 (q.2.1 6).1 (q.2.1 6).2.1 (q.2.1 6).2.2.1 ∈ lw_tbl := ⟨_, rfl, by decide, rfl, rfl, List.mem_of_getElem? (i := 124) (by decide +kernel)⟩
theorem fx_X0_21 : ∃ q : vw_C, vwCl[0]? = some q ∧ 7 < q.2.2 ∧ (q.2.1 7).2.2.2 = true ∧ (q.2.1 7).1 = RX0 ∧ Cond.fieldLink RX0 21 (q.2.1 7).1 (q.2.1 7).2.1 (q.2.1 7).2.2.1 ∈ lw_tbl := ⟨_, rfl, by decide, rfl, rfl, List.mem_of_getElem? (i := 127) (by decide +kernel)⟩
theorem fx_X0_24 : ∃ q : vw_C, vwCl[0]? = some q ∧ 8 < q.2.2 ∧ (q.2.1 8).2.2.2 = true ∧ (q.2.1 8).1 = RX0 ∧ Cond.fieldLink RX0 24 (q.2.1 8).1 (q.2.1 8).2.1 (q.2.1 8).2.2.1 ∈ lw_tbl := ⟨_, rfl, by decide, rfl, rfl, List.mem_of_getElem? (i := 130) (by decide +kernel)⟩
theorem fx_X0_9 : ∃ q : vw_C, vwCl[0]? = some q ∧ 4 < q.2.2 ∧ (q.2.1 4).2.2.2 = true ∧ (q.2.1 4).1 = RX0 ∧ Cond.fieldLink RX0 9 (q.2.1 4).1 (q.2.1 4).2.1 (q.2.1 4).2.2.1 ∈ lw_tbl := ⟨_, rfl, by decide, rfl, rfl, List.mem_of_getElem? (i := 117) (by decide +kernel)⟩
theorem fx_X10_10 : ∃ q : vw_C, vwCl[10]? = some q ∧ 0 < q.2.2 ∧ (q.2.1 0).2.2.2 = true ∧ (q.2.1 0).1 = RX10 ∧ Cond.fieldLink RX10 10 (q.2.1 0).1 (q.2.1 0).2.1 (q.2.1 0).2.2.1 ∈ lw_tbl := ⟨_, rfl, by decide, rfl, rfl, List.mem_of_getElem? (i := 336) (by decide +kernel)⟩
theorem fx_X10_16 : ∃ q : vw_C, vwCl[10]? = some q ∧ 1 < q.2.2 ∧ (q.2.1 1).2.2.2 = true ∧ (q.2.1 1).1 = RX10 ∧ Cond.fieldLink RX10 16 (q.2.1 1).1 (q.2.1 1).2.1 (q.2.1 1).2.2.1 ∈ lw_tbl := ⟨_, rfl, by decide, rfl, rfl, List.mem_of_getElem? (i := 337) (by decide +kernel)⟩
theorem fx_X10_22 : ∃ q : vw_C, vwCl[10]? = some q ∧ 2 < q.2.2 ∧ (q.2.1 2).2.2.2 = true ∧ (q.2.1 2).1 = RX10 ∧ Cond.fieldLink RX10 22 (q.2.1 2).1 (q.2.1 2).2.1 (q.2.1 2).2.2.1 ∈ lw_tbl := ⟨_, rfl, by decide, rfl, rfl, List.mem_of_getElem? (i := 338) (by decide +kernel)⟩
theorem fx_X10_26 : ∃ q : vw_C, vwCl[10]? = some q ∧ 3 < q.2.2 ∧ (q.2.1 3).2.2.2 = true ∧ (q.2.1 3).1 = RX10 ∧ Cond.fieldLink RX10 26 (q.2.1 3).1 (q.2.1 3).2.1 (q.2.1 3).2.2.1 ∈ lw_tbl := ⟨_, rfl, by decide, rfl, rfl, List.mem_of_getElem? (i := 339) (by decide +kernel)⟩
theorem fx_X10_33 : ∃ q : vw_C, vwCl[10]? = some q ∧ 5 < q.2.2 ∧ (q.2.1 5).2.2.2 = true ∧ (q.2.1 5).1 = RX10 ∧ Cond.fieldLink RX10 33 (q.2.1 5).1 (q.2.1 5).2.1 (q.2.1 5).2.2.1 ∈ lw_tbl := ⟨_, rfl, by decide, rfl, rfl, List.mem_of_getElem? (i := 341) (by decide +kernel)⟩
theorem fx_X10_40 : ∃ q : vw_C, vwCl[10]? = some q ∧ 6 < q.2.2 ∧ (q.2.1 6).2.2.2 = true ∧ (q.2.1 6).1 = RX10 ∧ Cond.fieldLink RX10 40 (q.2.1 6).1 (q.2.1 6).2.1 (q.2.1 6).2.2.1 ∈ lw_tbl := ⟨_, rfl, by decide, rfl, rfl, List.mem_of_getElem? (i := 342) (by decide +kernel)⟩
theorem fx_X10_47 : ∃ q : vw_C, vwCl[10]? = some q ∧ 7 < q.2.2 ∧ (q.2.1 7).2.2.2 = true ∧ (q.2.1 7).1 = RX10 ∧ Cond.fieldLink RX10 47 (q.2.1 7).1 (q.2.1 7).2.1 (q.2.1 7).2.2.1 ∈ lw_tbl := ⟨_, rfl, by decide, rfl, rfl, List.mem_of_getElem? (i := 343) (by decide +kernel)⟩
theorem fx_X10_51 : ∃ q : vw_C, vwCl[10]? = some q ∧ 8 < q.2.2 ∧ (q.2.1 8).2.2.2 = true ∧ (q.2.1 8).1 = RX10 ∧ Cond.fieldLink RX10 51 (q.2.1 8).1 (q.2.1 8).2.1 (q.2.1 8).2.2.1 ∈ lw_tbl := ⟨_, rfl, by decide, rfl, rfl, List.mem_of_getElem? (i := 344) (by decide +kernel)⟩
theorem fx_X11_13 : ∃ q : vw_C, vwCl[11]? = some q ∧ 1 < q.2.2 ∧ (q.2.1 1).2.2.2 = true ∧ (q.2.1 1).1 = RX11 ∧ Cond.fieldLink RX11 13 (q.2.1 1).1 (q.2.1 1).2.1 (q.2.1 1).2.2.1 ∈ lw_tbl := ⟨_, rfl, by decide, rfl, rfl, List.mem_of_getElem? (i := 898) (by decide +kernel)⟩
theorem fx_X11_16 : ∃ q : vw_C, vwCl[11]? = some q ∧ 2 < q.2.2 ∧ (q.2.1 2).2.2.2 = true ∧ (q.2.1 2).1 = RX11 ∧ Cond.fieldLink RX11 16 (q.2.1 2).1 (q.2.1 2).2.1 (q.2.1 2).2.2.1 ∈ lw_tbl := ⟨_, rfl, by decide, rfl, rfl, List.mem_of_getElem? (i := 899) (by decide +kernel)⟩
theorem fx_X11_20 : ∃ q : vw_C, vwCl[11]? = some q ∧ 3 < q.2.2 ∧ (q.2.1 3).2.2.2 = true ∧ (q.2.1 3).1 = RX11 ∧ Cond.fieldLink RX11 20 (q.2.1 3).1 (q.2.1 3).2.1 (q.2.1 3).2.2.1 ∈ lw_tbl := ⟨_, rfl, by decide, rfl, rfl, List.mem_of_getElem? (i := 900) (by decide +kernel)⟩
theorem fx_X11_23 : ∃ q : vw_C, vwCl[11]? = some q ∧ 5 < q.2.2 ∧ (q.2.1 5).2.2.2 = true ∧ (q.2.1 5).1 = RX11 ∧ Cond.fieldLink RX11 23 (q.2.1 5).1 (q.2.1 5).2.1 (q.2.1 5).2.2.1 ∈ lw_tbl := ⟨_, rfl, by decide, rfl, rfl, List.mem_of_getElem? (i := 902) (by decide +kernel)⟩
theorem fx_X11_26 : ∃ q : vw_C, vwCl[11]? = some q ∧ 6 < q.2.2 ∧ (q.2.1 6).2.2.2 = true ∧ (q.2.1 6).1 = RX11 ∧ Cond.fieldLink RX11 26 (q.2.1 6).1 (q.2.1 6).2.1 (q.2.1 6).2.2.1 ∈ lw_tbl := ⟨_, rfl, by decide, rfl, rfl, List.mem_of_getElem? (i := 903) (by decide +kernel)⟩
theorem fx_X11_29 : ∃ q : vw_C, vwCl[11]? = some q ∧ 7 < q.2.2 ∧ (q.2.1 7).2.2.2 = true ∧ (q.2.1 7).1 = RX11 ∧ Cond.fieldLink RX11 29 (q.2.1 7).1 (q.2.1 7).2.1 (q.2.1 7).2.2.1 ∈ lw_tbl := ⟨_, rfl, by decide, rfl, rfl, List.mem_of_getElem? (i := 904) (by decide +kernel)⟩
theorem fx_X11_32 : ∃ q : vw_C, vwCl[11]? = some q ∧ 8 < q.2.2 ∧ (q.2.1 8).2.2.2 = true ∧ (q.2.1 8).1 = RX11 ∧ Cond.fieldLink RX11 32 (q.2.1 8).1 (q.2.1 8).2.1 (q.2.1 8).2.2.1 ∈ lw_tbl := ⟨_, rfl, by decide, rfl, rfl, List.mem_of_getElem? (i := 905) (by decide +kernel)⟩
theorem fx_X11_35 : ∃ q : vw_C, vwCl[11]? = some q ∧ 9 < q.2.2 ∧ (q.2.1 9).2.2.2 = true ∧ (q.2.1 9).1 = RX11 ∧ Cond.fieldLink RX11 35 (q.2.1 9).1 (q.2.1 9).2.1 (q.2.1 9).2.2.1 ∈ lw_tbl := ⟨_, rfl, by decide, rfl, rfl, List.mem_of_getElem? (i := 906) (by decide +kernel)⟩
theorem fx_X11_38 : ∃ q : vw_C, vwCl[11]? = some q ∧ 11 < q.2.2 ∧ (q.2.1 11).2.2.2 = true ∧ (q.2.1 11).1 = RX11 ∧ Cond.fieldLink RX11 38 (q.2.1 11).1 (q.2.1 11).2.1 (q.2.1 11).2.2.1 ∈ lw_tbl := ⟨_, rfl, by decide, rfl, rfl, List.mem_of_getElem? (i := 908) (by decide +kernel)⟩
theorem fx_X11_41 : ∃ q : vw_C, vwCl[11]? = some q ∧ 12 < q.2.2 ∧ (q.2.1 12).2.2.2 = true ∧ (q.2.1 12).1 = RX11 ∧ Cond.fieldLink RX11 41 (q.2.1 12).1 (q.2.1 12).2.1 (q.2.1 12).2.2.1 ∈ lw_tbl := ⟨_, rfl, by decide, rfl, rfl, List.mem_of_getElem? (i := 909) (by decide +kernel)⟩
theorem fx_X11_44 : ∃ q : vw_C, vwCl[11]? = some q ∧ 13 < q.2.2 ∧ (q.2.1 13).2.2.2 = true ∧ (q.2.1 13).1 = RX11 ∧ Cond.fieldLink RX11 44 (q.2.1 13).1 (q.2.1 13).2.1 (q.2.1 13).2.2.1 ∈ lw_tbl := ⟨_, rfl, by decide, rfl, rfl, List.mem_of_getElem? (i := 910) (by decide +kernel)⟩
theorem fx_X11_47 : ∃ q : vw_C, vwCl[11]? = some q ∧ 15 < q.2.2 ∧ (q.2.1 15).2.2.2 = true ∧ (q.2.1 15).1 = RX11 ∧ Cond.fieldLink RX11 47 (q.2.1 15).1 (q.2.1 15).2.1 (q.2.1 15).2.2.1 ∈ lw_tbl := ⟨_, rfl, by decide, rfl, rfl, List.mem_of_getElem? (i := 912) (by decide +kernel)⟩
theorem fx_X11_50 : ∃ q : vw_C, vwCl[11]? = some q ∧ 16 < q.2.2 ∧ (q.2.1 16).2.2.2 = true ∧ (q.2.1 16).1 = RX11 ∧ Cond.fieldLink RX11 50 (q.2.1 16).1 (q.2.1 16).2.1 (q.2.1 16).2.2.1 ∈ lw_tbl := ⟨_, rfl, by decide, rfl, rfl, List.mem_of_getElem? (i := 913) (by decide +kernel)⟩
theorem fx_X11_53 : ∃ q : vw_C, vwCl[11]? = some q ∧ 17 < q.2.2 ∧ (q.2.1 17).2.2.2 = true ∧ (q.2.1 17).1 = RX11 ∧ Cond.fieldLink RX11 53 (q.2.1 17).1 (q.2.1 17).2.1 (q.2.1 17).2.2.1 ∈ lw_tbl := ⟨_, rfl, by decide, rfl, rfl, List.mem_of_getElem? (i := 914) (by decide +kernel)⟩
theorem fx_X11_56 : ∃ q : vw_C, vwCl[11]? = some q ∧ 18 < q.2.2 ∧ (q.2.1 18).2.2.2 = true ∧ (q.2.1 18).1 = RX11 ∧ Cond.fieldLink RX11 56 (q.2.1 18).1 (q.2.1 18).2.1 (q.2.1 18).2.2.1 ∈ lw_tbl := ⟨_, rfl, by decide, rfl, rfl, List.mem_of_getElem? (i := 915) (by decide +kernel)⟩
theorem fx_X11_59 : ∃ q : vw_C, vwCl[11]? = some q ∧ 20 < q.2.2 ∧ (q.2.1 20).2.2.2 = true ∧ (q.2.1 20).1 = RX11 ∧ Cond.fieldLink RX11 59 (q.2.1 20).1 (q.2.1 20).2.1 (q.2.1 20).2.2.1 ∈ lw_tbl := ⟨_, rfl, by decide, rfl, rfl, List.mem_of_getElem? (i := 917) (by decide +kernel)⟩
theorem fx_X11_62 : ∃ q : vw_C, vwCl[11]? = some q ∧ 21 < q.2.2 ∧ (q.2.1 21).2.2.2 = true ∧ (q.2.1 21).1 = RX11 ∧ Cond.fieldLink RX11 62 (q.2.1 21).1 (q.2.1 21).2.1 (q.2.1 21).2.2.1 ∈ lw_tbl := ⟨_, rfl, by decide, rfl, rfl, List.mem_of_getElem? (i := 918) (by decide +kernel)⟩
theorem fx_X11_7 : ∃ q : vw_C, vwCl[11]? = some q ∧ 0 < q.2.2 ∧ (q.2.1 0).2.2.2 = true ∧ (q.2.1 0).1 = RX11 ∧ Cond.fieldLink RX11 7 (q.2.1 0).1 (q.2.1 0).2.1 (q.2.1 0).2.2.1 ∈ lw_tbl := ⟨_, rfl, by decide, rfl, rfl, List.mem_of_getElem? (i := 897) (by decide +kernel)⟩
theorem fx_X2_15 : ∃ q : vw_C, vwCl[2]? = some q ∧ 2 < q.2.2 ∧ (q.2.1 2).2.2.2 = true ∧ (q.2.1 2).1 = RX2 ∧ Cond.fieldLink RX2 15 (q.2.1 2).1 (q.2.1 2).2.1 (q.2.1 2).2.2.1 ∈ lw_tbl := ⟨_, rfl, by decide, rfl, rfl, List.mem_of_getElem? (i := 590) (by decide +kernel)⟩
theorem fx_X2_9 : ∃ q : vw_C, vwCl[2]? = some q ∧ 1 < q.2.2 ∧ (q.2.1 1).2.2.2 = true ∧ (q.2.1 1).1 = RX2 ∧ Cond.fieldLink RX2 9 (q.2.1 1).1 (q.2.1 1).2.1 (q.2.1 1).2.2.1 ∈ lw_tbl := ⟨_, rfl, by decide, rfl, rfl, List.mem_of_getElem? (i := 587) (by decide +kernel)⟩
theorem fx_X3_15 : ∃ q : vw_C, vwCl[3]? = some q ∧ 1 < q.2.2 ∧ (q.2.1 1).2.2.2 = true ∧ (q.2.1 1).1 = RX3 ∧ Cond.fieldLink RX3 15 (q.2.1 1).1 (q.2.1 1).2.1 (q.2.1 1).2.2.1 ∈ lw_tbl := ⟨_, rfl, by decide, rfl, rfl, List.mem_of_getElem? (i := 257) (by decide +kernel)⟩
theorem fx_X3_18 : ∃ q : vw_C, vwCl[3]? = some q ∧ 2 < q.2.2 ∧ (q.2.1 2).2.2.2 = true ∧ (q.2.1 2).1 = RX3 ∧ Cond.fieldLink RX3 18 (q.2.1 2).1 (q.2.1 2).2.1 (q.2.1 2).2.2.1 ∈ lw_tbl := ⟨_, rfl, by decide, rfl, rfl, List.mem_of_getElem? (i := 258) (by decide +kernel)⟩
theorem fx_X3_21 : ∃ q : vw_C, vwCl[3]? = some q ∧ 3 < q.2.2 ∧ (q.2.1 3).2.2.2 = true ∧ (q.2.1 3).1 = RX3 ∧ Cond.fieldLink RX3 21 (q.2.1 3).1 (q.2.1 3).2.1 (q.2.1 3).2.2.1 ∈ lw_tbl := ⟨_, rfl, by decide, rfl, rfl, List.mem_of_getElem? (i := 260) (by decide +kernel)⟩
theorem fx_X3_9 : ∃ q : vw_C, vwCl[3]? = some q ∧ 0 < q.2.2 ∧ (q.2.1 0).2.2.2 = true ∧ (q.2.1 0).1 = RX3 ∧ Cond.fieldLink RX3 9 (q.2.1 0).1 (q.2.1 0).2.1 (q.2.1 0).2.2.1 ∈ lw_tbl := ⟨_, rfl, by decide, rfl, rfl, List.mem_of_getElem? (i := 256) (by decide +kernel)⟩
theorem fx_X5_11 : ∃ q : vw_C, vwCl[5]? = some q ∧ 0 < q.2.2 ∧ (q.2.1 0).2.2.2 = true ∧ (q.2.1 0).1 = RX5 ∧ Cond.fieldLink RX5 11 (q.2.1 0).1 (q.2.1 0).2.1 (q.2.1 0).2.2.1 ∈ lw_tbl := ⟨_, rfl, by decide, rfl, rfl, List.mem_of_getElem? (i := 564) (by decide +kernel)⟩
theorem fx_X6_17 : ∃ q : vw_C, vwCl[6]? = some q ∧ 3 < q.2.2 ∧ (q.2.1 3).2.2.2 = true ∧ (q.2.1 3).1 = RX6 ∧ Cond.fieldLink RX6 17 (q.2.1 3).1 (q.2.1 3).2.1 (q.2.1 3).2.2.1 ∈ lw_tbl := ⟨_, rfl, by decide, rfl, rfl, List.mem_of_getElem? (i := 190) (by decide +kernel)⟩
theorem fx_X6_23 : ∃ q : vw_C, vwCl[6]? = some q ∧ 5 < q.2.2 ∧ (q.2.1 5).2.2.2 = true ∧ (q.2.1 5).1 = RX6 ∧ Cond.fieldLink RX6 23 (q.2.1 5).1 (q.2.1 5).2.1 (q.2.1 5).2.2.1 ∈ lw_tbl := ⟨_, rfl, by decide, rfl, rfl, List.mem_of_getElem? (i := 195) (by decide +kernel)⟩
theorem fx_X6_9 : ∃ q : vw_C, vwCl[6]? = some q ∧ 2 < q.2.2 ∧ (q.2.1 2).2.2.2 = true ∧ (q.2.1 2).1 = RX6 ∧ Cond.fieldLink RX6 9 (q.2.1 2).1 (q.2.1 2).2.1 (q.2.1 2).2.2.1 ∈ lw_tbl := ⟨_, rfl, by decide, rfl, rfl, List.mem_of_getElem? (i := 189) (by decide +kernel)⟩
theorem fx_X7_15 : ∃ q : vw_C, vwCl[7]? = some q ∧ 2 < q.2.2 ∧ (q.2.1 2).2.2.2 = true ∧ (q.2.1 2).1 = RX7 ∧ Cond.fieldLink RX7 15 (q.2.1 2).1 (q.2.1 2).2.1 (q.2.1 2).2.2.1 ∈ lw_tbl := ⟨_, rfl, by decide, rfl, rfl, List.mem_of_getElem? (i := 327) (by decide +kernel)⟩
theorem fx_X9_17 : ∃ q : vw_C, vwCl[9]? = some q ∧ 1 < q.2.2 ∧ (q.2.1 1).2.2.2 = true ∧ (q.2.1 1).1 = RX9 ∧ Cond.fieldLink RX9 17 (q.2.1 1).1 (q.2.1 1).2.1 (q.2.1 1).2.2.1 ∈ lw_tbl := ⟨_, rfl, by decide, rfl, rfl, List.mem_of_getElem? (i := 303) (by decide +kernel)⟩
theorem fx_X9_9 : ∃ q : vw_C, vwCl[9]? = some q ∧ 0 < q.2.2 ∧ (q.2.1 0).2.2.2 = true ∧ (q.2.1 0).1 = RX9 ∧ Cond.fieldLink RX9 9 (q.2.1 0).1 (q.2.1 0).2.1 (q.2.1 0).2.2.1 ∈ lw_tbl := ⟨_, rfl, by decide, rfl, rfl, List.mem_of_getElem? (i := 301) (by decide +kernel)⟩
theorem ff_0_0 : ∀ q : vw_C, vwCl[0]? = some q → (q.2.1 0).2.2.2 = false := fun q e => by cases e; rfl
theorem ff_0_1 : ∀ q : vw_C, vwCl[0]? = some q → (q.2.1 1).2.2.2 = false := fun q e => by cases e; rfl
theorem ff_0_2 : ∀ q : vw_C, vwCl[0]? = some q → (q.2.1 2).2.2.2 = false := fun q e => by cases e; rfl
theorem ff_0_3 : ∀ q : vw_C, vwCl[0]? = some q → (q.2.1 3).2.2.2 = false := fun q e => by cases e; rfl
theorem ff_1_0 : ∀ q : vw_C, vwCl[1]? = some q → (q.2.1 0).2.2.2 = false := fun q e => by cases e; rfl
theorem ff_1_1 : ∀ q : vw_C, vwCl[1]? = some q → (q.2.1 1).2.2.2 = false := fun q e => by cases e; rfl
theorem ff_1_2 : ∀ q : vw_C, vwCl[1]? = some q → (q.2.1 2).2.2.2 = false := fun q e => by cases e; rfl
theorem ff_1_3 : ∀ q : vw_C, vwCl[1]? = some q → (q.2.1 3).2.2.2 = false := fun q e => by cases e; rfl
theorem ff_1_4 : ∀ q : vw_C, vwCl[1]? = some q → (q.2.1 4).2.2.2 = false := fun q e => by cases e; rfl
theorem ff_2_0 : ∀ q : vw_C, vwCl[2]? = some q → (q.2.1 0).2.2.2 = false := fun q e => by cases e; rfl
theorem ff_2_3 : ∀ q : vw_C, vwCl[2]? = some q → (q.2.1 3).2.2.2 = false := fun q e => by cases e; rfl
theorem ff_3_4 : ∀ q : vw_C, vwCl[3]? = some q → (q.2.1 4).2.2.2 = false := fun q e => by cases e; rfl
theorem ff_3_5 : ∀ q : vw_C, vwCl[3]? = some q → (q.2.1 5).2.2.2 = false := fun q e => by cases e; rfl
theorem ff_3_6 : ∀ q : vw_C, vwCl[3]? = some q → (q.2.1 6).2.2.2 = false := fun q e => by cases e; rfl
theorem ff_3_7 : ∀ q : vw_C, vwCl[3]? = some q → (q.2.1 7).2.2.2 = false := fun q e => by cases e; rfl
theorem ff_3_8 : ∀ q : vw_C, vwCl[3]? = some q → (q.2.1 8).2.2.2 = false := fun q e => by cases e; rfl
theorem ff_3_9 : ∀ q : vw_C, vwCl[3]? = some q → (q.2.1 9).2.2.2 = false := fun q e => by cases e; rfl
theorem ff_3_10 : ∀ q : vw_C, vwCl[3]? = some q → (q.2.1 10).2.2.2 = false := fun q e => by cases e; rfl
theorem ff_4_0 : ∀ q : vw_C, vwCl[4]? = some q → (q.2.1 0).2.2.2 = false := fun q e => by cases e; rfl
theorem ff_4_1 : ∀ q : vw_C, vwCl[4]? = some q → (q.2.1 1).2.2.2 = false := fun q e => by cases e; rfl
theorem ff_4_2 : ∀ q : vw_C, vwCl[4]? = some q → (q.2.1 2).2.2.2 = false := fun q e => by cases e; rfl
theorem ff_4_3 : ∀ q : vw_C, vwCl[4]? = some q → (q.2.1 3).2.2.2 = false := fun q e => by cases e; rfl
theorem ff_4_4 : ∀ q : vw_C, vwCl[4]? = some q → (q.2.1 4).2.2.2 = false := fun q e => by cases e; rfl
theorem ff_5_1 : ∀ q : vw_C, vwCl[5]? = some q → (q.2.1 1).2.2.2 = false := fun q e => by cases e; rfl
theorem ff_6_0 : ∀ q : vw_C, vwCl[6]? = some q → (q.2.1 0).2.2.2 = false := fun q e => by cases e; rfl
theorem ff_6_1 : ∀ q : vw_C, vwCl[6]? = some q → (q.2.1 1).2.2.2 = false := fun q e => by cases e; rfl
theorem ff_6_4 : ∀ q : vw_C, vwCl[6]? = some q → (q.2.1 4).2.2.2 = false := fun q e => by cases e; rfl
theorem ff_6_6 : ∀ q : vw_C, vwCl[6]? = some q → (q.2.1 6).2.2.2 = false := fun q e => by cases e; rfl
theorem ff_6_7 : ∀ q : vw_C, vwCl[6]? = some q → (q.2.1 7).2.2.2 = false := fun q e => by cases e; rfl
theorem ff_6_8 : ∀ q : vw_C, vwCl[6]? = some q → (q.2.1 8).2.2.2 = false := fun q e => by cases e; rfl
theorem ff_7_0 : ∀ q : vw_C, vwCl[7]? = some q → (q.2.1 0).2.2.2 = false := fun q e => by cases e; rfl
theorem ff_7_1 : ∀ q : vw_C, vwCl[7]? = some q → (q.2.1 1).2.2.2 = false := fun q e => by cases e; rfl
theorem ff_8_0 : ∀ q : vw_C, vwCl[8]? = some q → (q.2.1 0).2.2.2 = false := fun q e => by cases e; rfl
theorem ff_8_1 : ∀ q : vw_C, vwCl[8]? = some q → (q.2.1 1).2.2.2 = false := fun q e => by cases e; rfl
theorem ff_8_2 : ∀ q : vw_C, vwCl[8]? = some q → (q.2.1 2).2.2.2 = false := fun q e => by cases e; rfl
theorem ff_8_3 : ∀ q : vw_C, vwCl[8]? = some q → (q.2.1 3).2.2.2 = false := fun q e => by cases e; rfl
theorem ff_8_4 : ∀ q : vw_C, vwCl[8]? = some q → (q.2.1 4).2.2.2 = false := fun q e => by cases e; rfl
theorem ff_9_2 : ∀ q : vw_C, vwCl[9]? = some q → (q.2.1 2).2.2.2 = false := fun q e => by cases e; rfl
theorem ff_9_3 : ∀ q : vw_C, vwCl[9]? = some q → (q.2.1 3).2.2.2 = false := fun q e => by cases e; rfl
theorem ff_9_4 : ∀ q : vw_C, vwCl[9]? = some q → (q.2.1 4).2.2.2 = false := fun q e => by cases e; rfl
theorem ff_10_4 : ∀ q : vw_C, vwCl[10]? = some q → (q.2.1 4).2.2.2 = false := fun q e => by cases e; rfl
theorem ff_11_4 : ∀ q : vw_C, vwCl[11]? = some q → (q.2.1 4).2.2.2 = false := fun q e => by cases e; rfl
theorem ff_11_10 : ∀ q : vw_C, vwCl[11]? = some q → (q.2.1 10).2.2.2 = false := fun q e => by cases e; rfl
theorem ff_11_14 : ∀ q : vw_C, vwCl[11]? = some q → (q.2.1 14).2.2.2 = false := fun q e => by cases e; rfl
theorem ff_11_19 : ∀ q : vw_C, vwCl[11]? = some q → (q.2.1 19).2.2.2 = false := fun q e => by cases e; rfl
theorem lk_J7_13 : z_Lk RJ7 13 yJ7_rangeCheck_23922 := Or.inl (List.mem_of_getElem? (i := 777) (by decide +kernel))
theorem lk_L_100 : z_Lk RL 100 yX11_fewest := Or.inl (List.mem_of_getElem? (i := 1174) (by decide +kernel))
theorem lk_L_101 : z_Lk RL 101 yX10_image := Or.inl (List.mem_of_getElem? (i := 832) (by decide +kernel))
theorem lk_L_104 : z_Lk RL 104 yX11_image := Or.inl (List.mem_of_getElem? (i := 1182) (by decide +kernel))
theorem lk_L_105 : z_Lk RL 105 yX10_restore := Or.inl (List.mem_of_getElem? (i := 841) (by decide +kernel))
theorem lk_L_108 : z_Lk RL 108 yX11_restore := Or.inl (List.mem_of_getElem? (i := 1186) (by decide +kernel))
theorem lk_L_109 : z_Lk RL 109 yX10_film := Or.inl (List.mem_of_getElem? (i := 845) (by decide +kernel))
theorem lk_L_112 : z_Lk RL 112 yX11_film := Or.inl (List.mem_of_getElem? (i := 1190) (by decide +kernel))
theorem lk_L_113 : z_Lk RL 113 yX10_differs := Or.inl (List.mem_of_getElem? (i := 853) (by decide +kernel))
theorem lk_L_116 : z_Lk RL 116 yX11_differs := Or.inl (List.mem_of_getElem? (i := 1198) (by decide +kernel))
theorem lk_L_117 : z_Lk RL 117 yX10_sheet := Or.inl (List.mem_of_getElem? (i := 857) (by decide +kernel))
theorem lk_L_12 : z_Lk RL 12 yX11_init := Or.inl (List.mem_of_getElem? (i := 893) (by decide +kernel))
theorem lk_L_120 : z_Lk RL 120 yX11_sheet := Or.inl (List.mem_of_getElem? (i := 1202) (by decide +kernel))
theorem lk_L_121 : z_Lk RL 121 yX10_drop := Or.inl (List.mem_of_getElem? (i := 869) (by decide +kernel))
theorem lk_L_124 : z_Lk RL 124 yX11_drop := Or.inl (List.mem_of_getElem? (i := 1206) (by decide +kernel))
theorem lk_L_125 : z_Lk RL 125 yX10_item := Or.inl (List.mem_of_getElem? (i := 878) (by decide +kernel))
theorem lk_L_128 : z_Lk RL 128 yX11_item := Or.inl (List.mem_of_getElem? (i := 1210) (by decide +kernel))
theorem lk_L_129 : z_Lk RL 129 yX10_copy := Or.inl (List.mem_of_getElem? (i := 885) (by decide +kernel))
theorem lk_L_13 : z_Lk RL 13 yX10_wall := Or.inl (List.mem_of_getElem? (i := 364) (by decide +kernel))
theorem lk_L_133 : z_Lk RL 133 yX11_copy := Or.inl (List.mem_of_getElem? (i := 1214) (by decide +kernel))
theorem lk_L_17 : z_Lk RL 17 yX11_wall := Or.inl (List.mem_of_getElem? (i := 965) (by decide +kernel))
theorem lk_L_18 : z_Lk RL 18 yX10_walls := Or.inl (List.mem_of_getElem? (i := 383) (by decide +kernel))
theorem lk_L_22 : z_Lk RL 22 yX11_walls := Or.inl (List.mem_of_getElem? (i := 997) (by decide +kernel))
theorem lk_L_23 : z_Lk RL 23 yX10_arm := Or.inl (List.mem_of_getElem? (i := 413) (by decide +kernel))
theorem lk_L_27 : z_Lk RL 27 yX11_arm := Or.inl (List.mem_of_getElem? (i := 1004) (by decide +kernel))
theorem lk_L_28 : z_Lk RL 28 yX10_thing := Or.inl (List.mem_of_getElem? (i := 447) (by decide +kernel))
theorem lk_L_32 : z_Lk RL 32 yX11_thing := Or.inl (List.mem_of_getElem? (i := 1018) (by decide +kernel))
theorem lk_L_33 : z_Lk RL 33 yX10_piece := Or.inl (List.mem_of_getElem? (i := 463) (by decide +kernel))
theorem lk_L_36 : z_Lk RL 36 yX11_piece := Or.inl (List.mem_of_getElem? (i := 1022) (by decide +kernel))
theorem lk_L_37 : z_Lk RL 37 yX10_told := Or.inl (List.mem_of_getElem? (i := 487) (by decide +kernel))
theorem lk_L_41 : z_Lk RL 41 yX11_told := Or.inl (List.mem_of_getElem? (i := 1042) (by decide +kernel))
theorem lk_L_42 : z_Lk RL 42 yX10_form := Or.inl (List.mem_of_getElem? (i := 499) (by decide +kernel))
theorem lk_L_45 : z_Lk RL 45 yX11_form := Or.inl (List.mem_of_getElem? (i := 1050) (by decide +kernel))
theorem lk_L_46 : z_Lk RL 46 yX10_flip := Or.inl (List.mem_of_getElem? (i := 511) (by decide +kernel))
theorem lk_L_49 : z_Lk RL 49 yX11_flip := Or.inl (List.mem_of_getElem? (i := 1061) (by decide +kernel))
theorem lk_L_52 : z_Lk RL 52 yX10_type := Or.inl (List.mem_of_getElem? (i := 537) (by decide +kernel))
theorem lk_L_56 : z_Lk RL 56 yX11_type := Or.inl (List.mem_of_getElem? (i := 1073) (by decide +kernel))
theorem lk_L_57 : z_Lk RL 57 yX10_rules := Or.inl (List.mem_of_getElem? (i := 544) (by decide +kernel))
theorem lk_L_60 : z_Lk RL 60 yX11_rules := Or.inl (List.mem_of_getElem? (i := 1078) (by decide +kernel))
theorem lk_L_61 : z_Lk RL 61 yX10_head := Or.inl (List.mem_of_getElem? (i := 667) (by decide +kernel))
theorem lk_L_64 : z_Lk RL 64 yX11_head := Or.inl (List.mem_of_getElem? (i := 1086) (by decide +kernel))
theorem lk_L_65 : z_Lk RL 65 yX10_skin := Or.inl (List.mem_of_getElem? (i := 671) (by decide +kernel))
theorem lk_L_68 : z_Lk RL 68 yX11_skin := Or.inl (List.mem_of_getElem? (i := 1090) (by decide +kernel))
theorem lk_L_69 : z_Lk RL 69 yX10_ticks := Or.inl (List.mem_of_getElem? (i := 675) (by decide +kernel))
theorem lk_L_72 : z_Lk RL 72 yX11_ticks := Or.inl (List.mem_of_getElem? (i := 1094) (by decide +kernel))
theorem lk_L_73 : z_Lk RL 73 yX10_finds := Or.inl (List.mem_of_getElem? (i := 737) (by decide +kernel))
theorem lk_L_76 : z_Lk RL 76 yX11_finds := Or.inl (List.mem_of_getElem? (i := 1138) (by decide +kernel))
theorem lk_L_77 : z_Lk RL 77 yX10_cut := Or.inl (List.mem_of_getElem? (i := 742) (by decide +kernel))
theorem lk_L_80 : z_Lk RL 80 yX11_cut := Or.inl (List.mem_of_getElem? (i := 1142) (by decide +kernel))
theorem lk_L_81 : z_Lk RL 81 yX10_count := Or.inl (List.mem_of_getElem? (i := 746) (by decide +kernel))
theorem lk_L_84 : z_Lk RL 84 yX11_count := Or.inl (List.mem_of_getElem? (i := 1146) (by decide +kernel))
theorem lk_L_85 : z_Lk RL 85 yX10_forms := Or.inl (List.mem_of_getElem? (i := 750) (by decide +kernel))
theorem lk_L_88 : z_Lk RL 88 yX11_forms := Or.inl (List.mem_of_getElem? (i := 1150) (by decide +kernel))
theorem lk_L_89 : z_Lk RL 89 yX10_reach := Or.inl (List.mem_of_getElem? (i := 798) (by decide +kernel))
theorem lk_L_9 : z_Lk RL 9 yX10_init := Or.inl (List.mem_of_getElem? (i := 82) (by decide +kernel))
theorem lk_L_92 : z_Lk RL 92 yX11_reach := Or.inl (List.mem_of_getElem? (i := 1166) (by decide +kernel))
theorem lk_L_93 : z_Lk RL 93 yX10_far := Or.inl (List.mem_of_getElem? (i := 802) (by decide +kernel))
theorem lk_L_96 : z_Lk RL 96 yX11_far := Or.inl (List.mem_of_getElem? (i := 1170) (by decide +kernel))
theorem lk_L_97 : z_Lk RL 97 yX10_fewest := Or.inl (List.mem_of_getElem? (i := 806) (by decide +kernel))
theorem lk_X0_47 : z_Lk RX0 47 yJ7_fill_53178 := Or.inl (List.mem_of_getElem? (i := 444) (by decide +kernel))
theorem lk_X0_53 : z_Lk RX0 53 yX0_isCut := Or.inl (List.mem_of_getElem? (i := 479) (by decide +kernel))
theorem lk_X0_57 : z_Lk RX0 57 yX10_sideOf := Or.inr ⟨"ThinkingArms", List.mem_of_getElem? (i := 508) (by decide +kernel)⟩
theorem lk_X10_103 : z_Lk RX10 103 yX6_addArm := Or.inl (List.mem_of_getElem? (i := 433) (by decide +kernel))
theorem lk_X10_107 : z_Lk RX10 107 yX10_isDigit := Or.inl (List.mem_of_getElem? (i := 451) (by decide +kernel))
theorem lk_X10_110 : z_Lk RX10 110 yX6_lyingCells := Or.inl (List.mem_of_getElem? (i := 454) (by decide +kernel))
theorem lk_X10_116 : z_Lk RX10 116 yX6_addThing := Or.inl (List.mem_of_getElem? (i := 455) (by decide +kernel))
theorem lk_X10_120 : z_Lk RX10 120 yX10_isPiece := Or.inl (List.mem_of_getElem? (i := 467) (by decide +kernel))
theorem lk_X10_141 : z_Lk RX10 141 yX0_isCutOff := Or.inl (List.mem_of_getElem? (i := 475) (by decide +kernel))
theorem lk_X10_144 : z_Lk RX10 144 yX0_isTip := Or.inl (List.mem_of_getElem? (i := 483) (by decide +kernel))
theorem lk_X10_147 : z_Lk RX10 147 yX10_isThing := Or.inl (List.mem_of_getElem? (i := 491) (by decide +kernel))
theorem lk_X10_159 : z_Lk RX10 159 yX6_cellOfThing := Or.inl (List.mem_of_getElem? (i := 495) (by decide +kernel))
theorem lk_X10_172 : z_Lk RX10 172 yX10_isArm := Or.inl (List.mem_of_getElem? (i := 471) (by decide +kernel))
theorem lk_X10_175 : z_Lk RX10 175 yX0_isCut := Or.inl (List.mem_of_getElem? (i := 503) (by decide +kernel))
theorem lk_X10_179 : z_Lk RX10 179 yX0_formNow := Or.inl (List.mem_of_getElem? (i := 504) (by decide +kernel))
theorem lk_X10_183 : z_Lk RX10 183 yX0_canEverMove := Or.inl (List.mem_of_getElem? (i := 515) (by decide +kernel))
theorem lk_X10_186 : z_Lk RX10 186 yX6_move := Or.inl (List.mem_of_getElem? (i := 519) (by decide +kernel))
theorem lk_X10_190 : z_Lk RX10 190 yX10_byteOf := Or.inl (List.mem_of_getElem? (i := 541) (by decide +kernel))
theorem lk_X10_197 : z_Lk RX10 197 yX4_read := Or.inl (List.mem_of_getElem? (i := 548) (by decide +kernel))
theorem lk_X10_219 : z_Lk RX10 219 yX6_tick := Or.inl (List.mem_of_getElem? (i := 679) (by decide +kernel))
theorem lk_X10_222 : z_Lk RX10 222 yX6_countThings := Or.inl (List.mem_of_getElem? (i := 733) (by decide +kernel))
theorem lk_X10_225 : z_Lk RX10 225 yX6_clauseFor := Or.inl (List.mem_of_getElem? (i := 741) (by decide +kernel))
theorem lk_X10_238 : z_Lk RX10 238 yX10_refusesReach := Or.inl (List.mem_of_getElem? (i := 754) (by decide +kernel))
theorem lk_X10_250 : z_Lk RX10 250 yX9_search := Or.inl (List.mem_of_getElem? (i := 810) (by decide +kernel))
theorem lk_X10_257 : z_Lk RX10 257 yX10_isImage := Or.inl (List.mem_of_getElem? (i := 836) (by decide +kernel))
theorem lk_X10_260 : z_Lk RX10 260 yX6_become := Or.inl (List.mem_of_getElem? (i := 840) (by decide +kernel))
theorem lk_X10_264 : z_Lk RX10 264 yX10_refusesFilm := Or.inl (List.mem_of_getElem? (i := 849) (by decide +kernel))
theorem lk_X10_271 : z_Lk RX10 271 yX10_isLane := Or.inl (List.mem_of_getElem? (i := 861) (by decide +kernel))
theorem lk_X10_274 : z_Lk RX10 274 yX7_begin := Or.inl (List.mem_of_getElem? (i := 864) (by decide +kernel))
theorem lk_X10_277 : z_Lk RX10 277 yX7_holdsNothing := Or.inl (List.mem_of_getElem? (i := 873) (by decide +kernel))
theorem lk_X10_283 : z_Lk RX10 283 yX7_forget := Or.inl (List.mem_of_getElem? (i := 874) (by decide +kernel))
theorem lk_X10_286 : z_Lk RX10 286 yX10_narrowed := Or.inl (List.mem_of_getElem? (i := 882) (by decide +kernel))
theorem lk_X10_292 : z_Lk RX10 292 yX7_spans := Or.inl (List.mem_of_getElem? (i := 889) (by decide +kernel))
theorem lk_X10_301 : z_Lk RX10 301 yX3_search := Or.inl (List.mem_of_getElem? (i := 758) (by decide +kernel))
theorem lk_X10_32 : z_Lk RX10 32 yX4_init := Or.inr ⟨"ThinkingArms", List.mem_of_getElem? (i := 228) (by decide +kernel)⟩
theorem lk_X10_39 : z_Lk RX10 39 yX3_init := Or.inr ⟨"ThinkingArms", List.mem_of_getElem? (i := 252) (by decide +kernel)⟩
theorem lk_X10_46 : z_Lk RX10 46 yX9_init := Or.inl (List.mem_of_getElem? (i := 295) (by decide +kernel))
theorem lk_X10_55 : z_Lk RX10 55 yX7_init := Or.inr ⟨"ThinkingArms", List.mem_of_getElem? (i := 319) (by decide +kernel)⟩
theorem lk_X10_56 : z_Lk RX10 56 yX10_isCell := Or.inl (List.mem_of_getElem? (i := 368) (by decide +kernel))
theorem lk_X10_60 : z_Lk RX10 60 yX10_cellOf := Or.inl (List.mem_of_getElem? (i := 371) (by decide +kernel))
theorem lk_X10_64 : z_Lk RX10 64 yX6_inUse := Or.inl (List.mem_of_getElem? (i := 374) (by decide +kernel))
theorem lk_X10_74 : z_Lk RX10 74 yX10_isSheet := Or.inl (List.mem_of_getElem? (i := 387) (by decide +kernel))
theorem lk_X10_78 : z_Lk RX10 78 yX7_refuses := Or.inl (List.mem_of_getElem? (i := 391) (by decide +kernel))
theorem lk_X10_82 : z_Lk RX10 82 yX7_asCells := Or.inl (List.mem_of_getElem? (i := 403) (by decide +kernel))
theorem lk_X10_85 : z_Lk RX10 85 yJ13_bitCount_95d88 := Or.inl (List.mem_of_getElem? (i := 407) (by decide +kernel))
theorem lk_X10_9 : z_Lk RX10 9 yX6_init := Or.inl (List.mem_of_getElem? (i := 90) (by decide +kernel))
theorem lk_X10_91 : z_Lk RX10 91 yX10_formsOf := Or.inl (List.mem_of_getElem? (i := 417) (by decide +kernel))
theorem lk_X10_95 : z_Lk RX10 95 yX6_canLie := Or.inl (List.mem_of_getElem? (i := 420) (by decide +kernel))
theorem lk_X11_100 : z_Lk RX11 100 yX11_isSheet := Or.inl (List.mem_of_getElem? (i := 1001) (by decide +kernel))
theorem lk_X11_103 : z_Lk RX11 103 yX11_power := Or.inl (List.mem_of_getElem? (i := 1008) (by decide +kernel))
theorem lk_X11_106 : z_Lk RX11 106 yX11_isFree := Or.inl (List.mem_of_getElem? (i := 1014) (by decide +kernel))
theorem lk_X11_109 : z_Lk RX11 109 yX11_cutOf := Or.inl (List.mem_of_getElem? (i := 1034) (by decide +kernel))
theorem lk_X11_112 : z_Lk RX11 112 yX11_isPiece := Or.inl (List.mem_of_getElem? (i := 1026) (by decide +kernel))
theorem lk_X11_115 : z_Lk RX11 115 yX11_isTip := Or.inl (List.mem_of_getElem? (i := 1038) (by decide +kernel))
theorem lk_X11_118 : z_Lk RX11 118 yX11_isThing := Or.inl (List.mem_of_getElem? (i := 1046) (by decide +kernel))
theorem lk_X11_121 : z_Lk RX11 121 yX11_formOf := Or.inl (List.mem_of_getElem? (i := 1054) (by decide +kernel))
theorem lk_X11_124 : z_Lk RX11 124 yX11_sideTo := Or.inl (List.mem_of_getElem? (i := 1058) (by decide +kernel))
theorem lk_X11_127 : z_Lk RX11 127 yX11_flipped := Or.inl (List.mem_of_getElem? (i := 1069) (by decide +kernel))
theorem lk_X11_130 : z_Lk RX11 130 yX11_goesTo := Or.inl (List.mem_of_getElem? (i := 1065) (by decide +kernel))
theorem lk_X11_142 : z_Lk RX11 142 yX11_faultOf := Or.inl (List.mem_of_getElem? (i := 1082) (by decide +kernel))
theorem lk_X11_146 : z_Lk RX11 146 yX11_isNear := Or.inl (List.mem_of_getElem? (i := 1114) (by decide +kernel))
theorem lk_X11_152 : z_Lk RX11 152 yX11_claims := Or.inl (List.mem_of_getElem? (i := 1110) (by decide +kernel))
theorem lk_X11_156 : z_Lk RX11 156 yX11_holdsTest := Or.inl (List.mem_of_getElem? (i := 1106) (by decide +kernel))
theorem lk_X11_159 : z_Lk RX11 159 yX11_grab := Or.inl (List.mem_of_getElem? (i := 1122) (by decide +kernel))
theorem lk_X11_163 : z_Lk RX11 163 yX11_pass := Or.inl (List.mem_of_getElem? (i := 1126) (by decide +kernel))
theorem lk_X11_166 : z_Lk RX11 166 yX11_letGo := Or.inl (List.mem_of_getElem? (i := 1130) (by decide +kernel))
theorem lk_X11_169 : z_Lk RX11 169 yX11_findsOf := Or.inl (List.mem_of_getElem? (i := 1102) (by decide +kernel))
theorem lk_X11_172 : z_Lk RX11 172 yX11_act := Or.inl (List.mem_of_getElem? (i := 1118) (by decide +kernel))
theorem lk_X11_176 : z_Lk RX11 176 yX11_tick := Or.inl (List.mem_of_getElem? (i := 1098) (by decide +kernel))
theorem lk_X11_179 : z_Lk RX11 179 yX11_things := Or.inl (List.mem_of_getElem? (i := 1134) (by decide +kernel))
theorem lk_X11_185 : z_Lk RX11 185 yX11_come := Or.inl (List.mem_of_getElem? (i := 1158) (by decide +kernel))
theorem lk_X11_188 : z_Lk RX11 188 yX11_lay := Or.inl (List.mem_of_getElem? (i := 1162) (by decide +kernel))
theorem lk_X11_191 : z_Lk RX11 191 yX11_layReach := Or.inl (List.mem_of_getElem? (i := 1154) (by decide +kernel))
theorem lk_X11_195 : z_Lk RX11 195 yX11_eats := Or.inl (List.mem_of_getElem? (i := 1178) (by decide +kernel))
theorem lk_X11_199 : z_Lk RX11 199 yX11_bars := Or.inl (List.mem_of_getElem? (i := 1194) (by decide +kernel))
theorem lk_X11_65 : z_Lk RX11 65 yX11_in := Or.inl (List.mem_of_getElem? (i := 972) (by decide +kernel))
theorem lk_X11_69 : z_Lk RX11 69 yX11_of := Or.inl (List.mem_of_getElem? (i := 983) (by decide +kernel))
theorem lk_X11_73 : z_Lk RX11 73 yX11_isArm := Or.inl (List.mem_of_getElem? (i := 1030) (by decide +kernel))
theorem lk_X11_77 : z_Lk RX11 77 yX11_pieces := Or.inl (List.mem_of_getElem? (i := 979) (by decide +kernel))
theorem lk_X11_81 : z_Lk RX11 81 yX11_cell := Or.inl (List.mem_of_getElem? (i := 986) (by decide +kernel))
theorem lk_X11_84 : z_Lk RX11 84 yX11_thingAt := Or.inl (List.mem_of_getElem? (i := 994) (by decide +kernel))
theorem lk_X11_87 : z_Lk RX11 87 yX11_isCell := Or.inl (List.mem_of_getElem? (i := 969) (by decide +kernel))
theorem lk_X11_91 : z_Lk RX11 91 yX11_beside := Or.inl (List.mem_of_getElem? (i := 1011) (by decide +kernel))
theorem lk_X11_94 : z_Lk RX11 94 yX11_hasPiece := Or.inl (List.mem_of_getElem? (i := 975) (by decide +kernel))
theorem lk_X11_97 : z_Lk RX11 97 yX11_lyingAt := Or.inl (List.mem_of_getElem? (i := 990) (by decide +kernel))
theorem lk_X1_23 : z_Lk RX1 23 yX1_holds := Or.inl (List.mem_of_getElem? (i := 703) (by decide +kernel))
theorem lk_X3_101 : z_Lk RX3 101 yX3_seeTurns := Or.inl (List.mem_of_getElem? (i := 793) (by decide +kernel))
theorem lk_X3_105 : z_Lk RX3 105 yX10_beside := Or.inr ⟨"ThinkingArms", List.mem_of_getElem? (i := 797) (by decide +kernel)⟩
theorem lk_X3_24 : z_Lk RX3 24 yX0_formNow := Or.inl (List.mem_of_getElem? (i := 762) (by decide +kernel))
theorem lk_X3_56 : z_Lk RX3 56 yX3_layOut := Or.inl (List.mem_of_getElem? (i := 763) (by decide +kernel))
theorem lk_X3_65 : z_Lk RX3 65 yX3_searchAnew := Or.inl (List.mem_of_getElem? (i := 769) (by decide +kernel))
theorem lk_X3_68 : z_Lk RX3 68 yX10_formsOf := Or.inr ⟨"ThinkingArms", List.mem_of_getElem? (i := 773) (by decide +kernel)⟩
theorem lk_X3_72 : z_Lk RX3 72 yJ7_fill_fda19 := Or.inl (List.mem_of_getElem? (i := 774) (by decide +kernel))
theorem lk_X3_78 : z_Lk RX3 78 yJ7_fill_53178 := Or.inl (List.mem_of_getElem? (i := 780) (by decide +kernel))
theorem lk_X3_87 : z_Lk RX3 87 yX3_see := Or.inl (List.mem_of_getElem? (i := 781) (by decide +kernel))
theorem lk_X3_91 : z_Lk RX3 91 yX3_goOnFrom := Or.inl (List.mem_of_getElem? (i := 785) (by decide +kernel))
theorem lk_X3_97 : z_Lk RX3 97 yX3_seeFlip := Or.inl (List.mem_of_getElem? (i := 789) (by decide +kernel))
theorem lk_X4_100 : z_Lk RX4 100 yX1_init := Or.inr ⟨"ThinkingArms", List.mem_of_getElem? (i := 614) (by decide +kernel)⟩
theorem lk_X4_107 : z_Lk RX4 107 yX4_readSense := Or.inl (List.mem_of_getElem? (i := 651) (by decide +kernel))
theorem lk_X4_113 : z_Lk RX4 113 yX10_isDigit := Or.inr ⟨"ThinkingArms", List.mem_of_getElem? (i := 659) (by decide +kernel)⟩
theorem lk_X4_22 : z_Lk RX4 22 yX4_goTo := Or.inl (List.mem_of_getElem? (i := 552) (by decide +kernel))
theorem lk_X4_28 : z_Lk RX4 28 yX5_init := Or.inr ⟨"ThinkingArms", List.mem_of_getElem? (i := 558) (by decide +kernel)⟩
theorem lk_X4_36 : z_Lk RX4 36 yX4_readClause := Or.inl (List.mem_of_getElem? (i := 575) (by decide +kernel))
theorem lk_X4_40 : z_Lk RX4 40 yX4_takes := Or.inl (List.mem_of_getElem? (i := 639) (by decide +kernel))
theorem lk_X4_47 : z_Lk RX4 47 yX4_fail := Or.inl (List.mem_of_getElem? (i := 647) (by decide +kernel))
theorem lk_X4_52 : z_Lk RX4 52 yX2_init := Or.inr ⟨"ThinkingArms", List.mem_of_getElem? (i := 581) (by decide +kernel)⟩
theorem lk_X4_53 : z_Lk RX4 53 yX4_readTest := Or.inl (List.mem_of_getElem? (i := 604) (by decide +kernel))
theorem lk_X4_61 : z_Lk RX4 61 yX4_need := Or.inl (List.mem_of_getElem? (i := 643) (by decide +kernel))
theorem lk_X4_64 : z_Lk RX4 64 yX4_readAct := Or.inl (List.mem_of_getElem? (i := 660) (by decide +kernel))
theorem lk_X4_68 : z_Lk RX4 68 yX4_isAct := Or.inl (List.mem_of_getElem? (i := 664) (by decide +kernel))
theorem lk_X4_84 : z_Lk RX4 84 yX4_readDigit := Or.inl (List.mem_of_getElem? (i := 655) (by decide +kernel))
theorem lk_X4_88 : z_Lk RX4 88 yX4_readClaim := Or.inl (List.mem_of_getElem? (i := 608) (by decide +kernel))
theorem lk_X5_25 : z_Lk RX5 25 yX1_holds := Or.inr ⟨"ThinkingArms", List.mem_of_getElem? (i := 700) (by decide +kernel)⟩
theorem lk_X6_102 : z_Lk RX6 102 yX0_isTip := Or.inl (List.mem_of_getElem? (i := 523) (by decide +kernel))
theorem lk_X6_105 : z_Lk RX6 105 yX6_turned := Or.inl (List.mem_of_getElem? (i := 524) (by decide +kernel))
theorem lk_X6_108 : z_Lk RX6 108 yX6_flipped := Or.inl (List.mem_of_getElem? (i := 529) (by decide +kernel))
theorem lk_X6_112 : z_Lk RX6 112 yX10_sideOf := Or.inr ⟨"ThinkingArms", List.mem_of_getElem? (i := 528) (by decide +kernel)⟩
theorem lk_X6_115 : z_Lk RX6 115 yX10_touchByCorner := Or.inr ⟨"ThinkingArms", List.mem_of_getElem? (i := 533) (by decide +kernel)⟩
theorem lk_X6_125 : z_Lk RX6 125 yX6_clauseFor := Or.inl (List.mem_of_getElem? (i := 683) (by decide +kernel))
theorem lk_X6_135 : z_Lk RX6 135 yX6_doActs := Or.inl (List.mem_of_getElem? (i := 704) (by decide +kernel))
theorem lk_X6_142 : z_Lk RX6 142 yX6_senses := Or.inl (List.mem_of_getElem? (i := 687) (by decide +kernel))
theorem lk_X6_145 : z_Lk RX6 145 yX5_firstFor := Or.inl (List.mem_of_getElem? (i := 696) (by decide +kernel))
theorem lk_X6_157 : z_Lk RX6 157 yX10_near := Or.inr ⟨"ThinkingArms", List.mem_of_getElem? (i := 691) (by decide +kernel)⟩
theorem lk_X6_179 : z_Lk RX6 179 yX6_move := Or.inl (List.mem_of_getElem? (i := 708) (by decide +kernel))
theorem lk_X6_183 : z_Lk RX6 183 yX6_grab := Or.inl (List.mem_of_getElem? (i := 709) (by decide +kernel))
theorem lk_X6_186 : z_Lk RX6 186 yX6_passOn := Or.inl (List.mem_of_getElem? (i := 725) (by decide +kernel))
theorem lk_X6_189 : z_Lk RX6 189 yX6_letGo := Or.inl (List.mem_of_getElem? (i := 729) (by decide +kernel))
theorem lk_X6_193 : z_Lk RX6 193 yX6_lyingAt := Or.inl (List.mem_of_getElem? (i := 713) (by decide +kernel))
theorem lk_X6_196 : z_Lk RX6 196 yX6_lift := Or.inl (List.mem_of_getElem? (i := 717) (by decide +kernel))
theorem lk_X6_200 : z_Lk RX6 200 yX6_give := Or.inl (List.mem_of_getElem? (i := 721) (by decide +kernel))
theorem lk_X6_31 : z_Lk RX6 31 yX0_init := Or.inr ⟨"ThinkingArms", List.mem_of_getElem? (i := 99) (by decide +kernel)⟩
theorem lk_X6_32 : z_Lk RX6 32 yX8_init := Or.inr ⟨"ThinkingArms", List.mem_of_getElem? (i := 154) (by decide +kernel)⟩
theorem lk_X6_49 : z_Lk RX6 49 yX0_become := Or.inl (List.mem_of_getElem? (i := 819) (by decide +kernel))
theorem lk_X6_56 : z_Lk RX6 56 yX8_become := Or.inl (List.mem_of_getElem? (i := 823) (by decide +kernel))
theorem lk_X6_62 : z_Lk RX6 62 yX6_lyingCells := Or.inl (List.mem_of_getElem? (i := 378) (by decide +kernel))
theorem lk_X6_66 : z_Lk RX6 66 yX10_beside := Or.inr ⟨"ThinkingArms", List.mem_of_getElem? (i := 424) (by decide +kernel)⟩
theorem lk_X6_70 : z_Lk RX6 70 yX6_isFree := Or.inl (List.mem_of_getElem? (i := 429) (by decide +kernel))
theorem lk_X6_74 : z_Lk RX6 74 yX0_begin := Or.inl (List.mem_of_getElem? (i := 437) (by decide +kernel))
theorem lk_X6_81 : z_Lk RX6 81 yX6_lay := Or.inl (List.mem_of_getElem? (i := 459) (by decide +kernel))
theorem lk_X7_22 : z_Lk RX7 22 yJ7_fill_53178 := Or.inl (List.mem_of_getElem? (i := 868) (by decide +kernel))
theorem lk_X7_28 : z_Lk RX7 28 yX7_holdsNothing := Or.inl (List.mem_of_getElem? (i := 395) (by decide +kernel))
theorem lk_X7_32 : z_Lk RX7 32 yX7_spans := Or.inl (List.mem_of_getElem? (i := 399) (by decide +kernel))
theorem lk_X9_21 : z_Lk RX9 21 yX6_init := Or.inl (List.mem_of_getElem? (i := 300) (by decide +kernel))
theorem lk_X9_32 : z_Lk RX9 32 yX6_become := Or.inl (List.mem_of_getElem? (i := 814) (by decide +kernel))
theorem lk_X9_36 : z_Lk RX9 36 yX9_isEatenBy := Or.inl (List.mem_of_getElem? (i := 827) (by decide +kernel))
theorem lk_X9_58 : z_Lk RX9 58 yX6_tick := Or.inl (List.mem_of_getElem? (i := 831) (by decide +kernel))
theorem md_J13_bitCount_95d88 : z_Md yJ13_bitCount_95d88 cJ13_bitCount_95d88 2 (some .int) 1 := ⟨List.mem_of_getElem? (i := 74) (by decide +kernel), List.mem_of_getElem? (i := 409) (by decide +kernel), by decide +kernel⟩
theorem md_J7_fill_53178 : z_Md yJ7_fill_53178 cJ7_fill_53178 4 none 2 := ⟨List.mem_of_getElem? (i := 76) (by decide +kernel), List.mem_of_getElem? (i := 446) (by decide +kernel), by decide +kernel⟩
theorem md_J7_fill_fda19 : z_Md yJ7_fill_fda19 cJ7_fill_fda19 5 none 4 := ⟨List.mem_of_getElem? (i := 76) (by decide +kernel), List.mem_of_getElem? (i := 776) (by decide +kernel), by decide +kernel⟩
theorem md_J7_rangeCheck_23922 : z_Md yJ7_rangeCheck_23922 cJ7_rangeCheck_23922 3 none 3 := ⟨List.mem_of_getElem? (i := 76) (by decide +kernel), List.mem_of_getElem? (i := 779) (by decide +kernel), by decide +kernel⟩
theorem md_X0_become : z_Md yX0_become cX0_become 2 none 1 := ⟨List.mem_of_getElem? (i := 67) (by decide +kernel), List.mem_of_getElem? (i := 822) (by decide +kernel), by decide +kernel⟩
theorem md_X0_begin : z_Md yX0_begin cX0_begin 3 none 2 := ⟨List.mem_of_getElem? (i := 67) (by decide +kernel), List.mem_of_getElem? (i := 440) (by decide +kernel), by decide +kernel⟩
theorem md_X0_canEverMove : z_Md yX0_canEverMove cX0_canEverMove 2 (some .boolean) 1 := ⟨List.mem_of_getElem? (i := 67) (by decide +kernel), List.mem_of_getElem? (i := 518) (by decide +kernel), by decide +kernel⟩
theorem md_X0_formNow : z_Md yX0_formNow cX0_formNow 3 (some .int) 0 := ⟨List.mem_of_getElem? (i := 67) (by decide +kernel), List.mem_of_getElem? (i := 507) (by decide +kernel), by decide +kernel⟩
theorem md_X0_init : z_Md yX0_init cX0_init 1 none 0 := ⟨List.mem_of_getElem? (i := 67) (by decide +kernel), List.mem_of_getElem? (i := 101) (by decide +kernel), by decide +kernel⟩
theorem md_X0_isCut : z_Md yX0_isCut cX0_isCut 1 (some .boolean) 0 := ⟨List.mem_of_getElem? (i := 67) (by decide +kernel), List.mem_of_getElem? (i := 482) (by decide +kernel), by decide +kernel⟩
theorem md_X0_isCutOff : z_Md yX0_isCutOff cX0_isCutOff 2 (some .boolean) 1 := ⟨List.mem_of_getElem? (i := 67) (by decide +kernel), List.mem_of_getElem? (i := 478) (by decide +kernel), by decide +kernel⟩
theorem md_X0_isTip : z_Md yX0_isTip cX0_isTip 2 (some .boolean) 1 := ⟨List.mem_of_getElem? (i := 67) (by decide +kernel), List.mem_of_getElem? (i := 486) (by decide +kernel), by decide +kernel⟩
theorem md_X10_arm : z_Md yX10_arm cX10_arm 5 (some .int) 4 := ⟨List.mem_of_getElem? (i := 65) (by decide +kernel), List.mem_of_getElem? (i := 416) (by decide +kernel), by decide +kernel⟩
theorem md_X10_beside : z_Md yX10_beside cX10_beside 5 (some .int) 2 := ⟨List.mem_of_getElem? (i := 65) (by decide +kernel), List.mem_of_getElem? (i := 426) (by decide +kernel), by decide +kernel⟩
theorem md_X10_byteOf : z_Md yX10_byteOf cX10_byteOf 3 (some .int) 2 := ⟨List.mem_of_getElem? (i := 65) (by decide +kernel), List.mem_of_getElem? (i := 543) (by decide +kernel), by decide +kernel⟩
theorem md_X10_cellOf : z_Md yX10_cellOf cX10_cellOf 2 (some .int) 2 := ⟨List.mem_of_getElem? (i := 65) (by decide +kernel), List.mem_of_getElem? (i := 373) (by decide +kernel), by decide +kernel⟩
theorem md_X10_copy : z_Md yX10_copy cX10_copy 8 (some .int) 5 := ⟨List.mem_of_getElem? (i := 65) (by decide +kernel), List.mem_of_getElem? (i := 888) (by decide +kernel), by decide +kernel⟩
theorem md_X10_count : z_Md yX10_count cX10_count 2 (some .int) 1 := ⟨List.mem_of_getElem? (i := 65) (by decide +kernel), List.mem_of_getElem? (i := 749) (by decide +kernel), by decide +kernel⟩
theorem md_X10_cut : z_Md yX10_cut cX10_cut 4 (some .int) 2 := ⟨List.mem_of_getElem? (i := 65) (by decide +kernel), List.mem_of_getElem? (i := 745) (by decide +kernel), by decide +kernel⟩
theorem md_X10_differs : z_Md yX10_differs cX10_differs 8 (some .int) 4 := ⟨List.mem_of_getElem? (i := 65) (by decide +kernel), List.mem_of_getElem? (i := 856) (by decide +kernel), by decide +kernel⟩
theorem md_X10_drop : z_Md yX10_drop cX10_drop 3 (some .int) 1 := ⟨List.mem_of_getElem? (i := 65) (by decide +kernel), List.mem_of_getElem? (i := 872) (by decide +kernel), by decide +kernel⟩
theorem md_X10_far : z_Md yX10_far cX10_far 5 (some .int) 3 := ⟨List.mem_of_getElem? (i := 65) (by decide +kernel), List.mem_of_getElem? (i := 805) (by decide +kernel), by decide +kernel⟩
theorem md_X10_fewest : z_Md yX10_fewest cX10_fewest 6 (some .int) 4 := ⟨List.mem_of_getElem? (i := 65) (by decide +kernel), List.mem_of_getElem? (i := 809) (by decide +kernel), by decide +kernel⟩
theorem md_X10_film : z_Md yX10_film cX10_film 8 (some .int) 4 := ⟨List.mem_of_getElem? (i := 65) (by decide +kernel), List.mem_of_getElem? (i := 848) (by decide +kernel), by decide +kernel⟩
theorem md_X10_finds : z_Md yX10_finds cX10_finds 3 (some .int) 2 := ⟨List.mem_of_getElem? (i := 65) (by decide +kernel), List.mem_of_getElem? (i := 740) (by decide +kernel), by decide +kernel⟩
theorem md_X10_flip : z_Md yX10_flip cX10_flip 3 (some .int) 2 := ⟨List.mem_of_getElem? (i := 65) (by decide +kernel), List.mem_of_getElem? (i := 514) (by decide +kernel), by decide +kernel⟩
theorem md_X10_form : z_Md yX10_form cX10_form 2 (some .int) 1 := ⟨List.mem_of_getElem? (i := 65) (by decide +kernel), List.mem_of_getElem? (i := 502) (by decide +kernel), by decide +kernel⟩
theorem md_X10_forms : z_Md yX10_forms cX10_forms 3 (some .int) 1 := ⟨List.mem_of_getElem? (i := 65) (by decide +kernel), List.mem_of_getElem? (i := 753) (by decide +kernel), by decide +kernel⟩
theorem md_X10_formsOf : z_Md yX10_formsOf cX10_formsOf 1 (some .int) 1 := ⟨List.mem_of_getElem? (i := 65) (by decide +kernel), List.mem_of_getElem? (i := 419) (by decide +kernel), by decide +kernel⟩
theorem md_X10_head : z_Md yX10_head cX10_head 4 (some .int) 2 := ⟨List.mem_of_getElem? (i := 65) (by decide +kernel), List.mem_of_getElem? (i := 670) (by decide +kernel), by decide +kernel⟩
theorem md_X10_image : z_Md yX10_image cX10_image 2 (some .int) 1 := ⟨List.mem_of_getElem? (i := 65) (by decide +kernel), List.mem_of_getElem? (i := 835) (by decide +kernel), by decide +kernel⟩
theorem md_X10_init : z_Md yX10_init cX10_init 2 none 0 := ⟨List.mem_of_getElem? (i := 65) (by decide +kernel), List.mem_of_getElem? (i := 84) (by decide +kernel), by decide +kernel⟩
theorem md_X10_isArm : z_Md yX10_isArm cX10_isArm 2 (some .boolean) 1 := ⟨List.mem_of_getElem? (i := 65) (by decide +kernel), List.mem_of_getElem? (i := 474) (by decide +kernel), by decide +kernel⟩
theorem md_X10_isCell : z_Md yX10_isCell cX10_isCell 2 (some .boolean) 2 := ⟨List.mem_of_getElem? (i := 65) (by decide +kernel), List.mem_of_getElem? (i := 370) (by decide +kernel), by decide +kernel⟩
theorem md_X10_isDigit : z_Md yX10_isDigit cX10_isDigit 1 (some .boolean) 1 := ⟨List.mem_of_getElem? (i := 65) (by decide +kernel), List.mem_of_getElem? (i := 453) (by decide +kernel), by decide +kernel⟩
theorem md_X10_isImage : z_Md yX10_isImage cX10_isImage 2 (some .boolean) 1 := ⟨List.mem_of_getElem? (i := 65) (by decide +kernel), List.mem_of_getElem? (i := 839) (by decide +kernel), by decide +kernel⟩
theorem md_X10_isLane : z_Md yX10_isLane cX10_isLane 1 (some .boolean) 1 := ⟨List.mem_of_getElem? (i := 65) (by decide +kernel), List.mem_of_getElem? (i := 863) (by decide +kernel), by decide +kernel⟩
theorem md_X10_isPiece : z_Md yX10_isPiece cX10_isPiece 3 (some .boolean) 2 := ⟨List.mem_of_getElem? (i := 65) (by decide +kernel), List.mem_of_getElem? (i := 470) (by decide +kernel), by decide +kernel⟩
theorem md_X10_isSheet : z_Md yX10_isSheet cX10_isSheet 2 (some .boolean) 1 := ⟨List.mem_of_getElem? (i := 65) (by decide +kernel), List.mem_of_getElem? (i := 390) (by decide +kernel), by decide +kernel⟩
theorem md_X10_isThing : z_Md yX10_isThing cX10_isThing 2 (some .boolean) 1 := ⟨List.mem_of_getElem? (i := 65) (by decide +kernel), List.mem_of_getElem? (i := 494) (by decide +kernel), by decide +kernel⟩
theorem md_X10_item : z_Md yX10_item cX10_item 6 (some .int) 4 := ⟨List.mem_of_getElem? (i := 65) (by decide +kernel), List.mem_of_getElem? (i := 881) (by decide +kernel), by decide +kernel⟩
theorem md_X10_narrowed : z_Md yX10_narrowed cX10_narrowed 2 (some .int) 2 := ⟨List.mem_of_getElem? (i := 65) (by decide +kernel), List.mem_of_getElem? (i := 884) (by decide +kernel), by decide +kernel⟩
theorem md_X10_near : z_Md yX10_near cX10_near 5 (some .long) 1 := ⟨List.mem_of_getElem? (i := 65) (by decide +kernel), List.mem_of_getElem? (i := 693) (by decide +kernel), by decide +kernel⟩
theorem md_X10_piece : z_Md yX10_piece cX10_piece 5 (some .int) 3 := ⟨List.mem_of_getElem? (i := 65) (by decide +kernel), List.mem_of_getElem? (i := 466) (by decide +kernel), by decide +kernel⟩
theorem md_X10_reach : z_Md yX10_reach cX10_reach 3 (some .int) 1 := ⟨List.mem_of_getElem? (i := 65) (by decide +kernel), List.mem_of_getElem? (i := 801) (by decide +kernel), by decide +kernel⟩
theorem md_X10_refusesFilm : z_Md yX10_refusesFilm cX10_refusesFilm 5 (some .int) 4 := ⟨List.mem_of_getElem? (i := 65) (by decide +kernel), List.mem_of_getElem? (i := 852) (by decide +kernel), by decide +kernel⟩
theorem md_X10_refusesReach : z_Md yX10_refusesReach cX10_refusesReach 2 (some .int) 1 := ⟨List.mem_of_getElem? (i := 65) (by decide +kernel), List.mem_of_getElem? (i := 757) (by decide +kernel), by decide +kernel⟩
theorem md_X10_restore : z_Md yX10_restore cX10_restore 2 (some .int) 1 := ⟨List.mem_of_getElem? (i := 65) (by decide +kernel), List.mem_of_getElem? (i := 844) (by decide +kernel), by decide +kernel⟩
theorem md_X10_rules : z_Md yX10_rules cX10_rules 3 (some .int) 1 := ⟨List.mem_of_getElem? (i := 65) (by decide +kernel), List.mem_of_getElem? (i := 547) (by decide +kernel), by decide +kernel⟩
theorem md_X10_sheet : z_Md yX10_sheet cX10_sheet 4 (some .int) 3 := ⟨List.mem_of_getElem? (i := 65) (by decide +kernel), List.mem_of_getElem? (i := 860) (by decide +kernel), by decide +kernel⟩
theorem md_X10_sideOf : z_Md yX10_sideOf cX10_sideOf 2 (some .int) 2 := ⟨List.mem_of_getElem? (i := 65) (by decide +kernel), List.mem_of_getElem? (i := 510) (by decide +kernel), by decide +kernel⟩
theorem md_X10_skin : z_Md yX10_skin cX10_skin 3 (some .int) 1 := ⟨List.mem_of_getElem? (i := 65) (by decide +kernel), List.mem_of_getElem? (i := 674) (by decide +kernel), by decide +kernel⟩
theorem md_X10_thing : z_Md yX10_thing cX10_thing 5 (some .int) 3 := ⟨List.mem_of_getElem? (i := 65) (by decide +kernel), List.mem_of_getElem? (i := 450) (by decide +kernel), by decide +kernel⟩
theorem md_X10_ticks : z_Md yX10_ticks cX10_ticks 3 (some .int) 1 := ⟨List.mem_of_getElem? (i := 65) (by decide +kernel), List.mem_of_getElem? (i := 678) (by decide +kernel), by decide +kernel⟩
theorem md_X10_told : z_Md yX10_told cX10_told 4 (some .int) 2 := ⟨List.mem_of_getElem? (i := 65) (by decide +kernel), List.mem_of_getElem? (i := 490) (by decide +kernel), by decide +kernel⟩
theorem md_X10_touchByCorner : z_Md yX10_touchByCorner cX10_touchByCorner 4 (some .boolean) 2 := ⟨List.mem_of_getElem? (i := 65) (by decide +kernel), List.mem_of_getElem? (i := 535) (by decide +kernel), by decide +kernel⟩
theorem md_X10_type : z_Md yX10_type cX10_type 6 (some .int) 2 := ⟨List.mem_of_getElem? (i := 65) (by decide +kernel), List.mem_of_getElem? (i := 540) (by decide +kernel), by decide +kernel⟩
theorem md_X10_wall : z_Md yX10_wall cX10_wall 7 (some .int) 3 := ⟨List.mem_of_getElem? (i := 65) (by decide +kernel), List.mem_of_getElem? (i := 367) (by decide +kernel), by decide +kernel⟩
theorem md_X10_walls : z_Md yX10_walls cX10_walls 5 (some .int) 1 := ⟨List.mem_of_getElem? (i := 65) (by decide +kernel), List.mem_of_getElem? (i := 386) (by decide +kernel), by decide +kernel⟩
theorem md_X11_act : z_Md yX11_act cX11_act 9 (some .int) 3 := ⟨List.mem_of_getElem? (i := 73) (by decide +kernel), List.mem_of_getElem? (i := 1121) (by decide +kernel), by decide +kernel⟩
theorem md_X11_arm : z_Md yX11_arm cX11_arm 9 (some .int) 4 := ⟨List.mem_of_getElem? (i := 73) (by decide +kernel), List.mem_of_getElem? (i := 1007) (by decide +kernel), by decide +kernel⟩
theorem md_X11_bars : z_Md yX11_bars cX11_bars 5 (some .int) 4 := ⟨List.mem_of_getElem? (i := 73) (by decide +kernel), List.mem_of_getElem? (i := 1197) (by decide +kernel), by decide +kernel⟩
theorem md_X11_beside : z_Md yX11_beside cX11_beside 4 (some .int) 2 := ⟨List.mem_of_getElem? (i := 73) (by decide +kernel), List.mem_of_getElem? (i := 1013) (by decide +kernel), by decide +kernel⟩
theorem md_X11_cell : z_Md yX11_cell cX11_cell 3 (some .int) 2 := ⟨List.mem_of_getElem? (i := 73) (by decide +kernel), List.mem_of_getElem? (i := 989) (by decide +kernel), by decide +kernel⟩
theorem md_X11_claims : z_Md yX11_claims cX11_claims 5 (some .boolean) 4 := ⟨List.mem_of_getElem? (i := 73) (by decide +kernel), List.mem_of_getElem? (i := 1113) (by decide +kernel), by decide +kernel⟩
theorem md_X11_come : z_Md yX11_come cX11_come 4 none 2 := ⟨List.mem_of_getElem? (i := 73) (by decide +kernel), List.mem_of_getElem? (i := 1161) (by decide +kernel), by decide +kernel⟩
theorem md_X11_copy : z_Md yX11_copy cX11_copy 7 (some .int) 5 := ⟨List.mem_of_getElem? (i := 73) (by decide +kernel), List.mem_of_getElem? (i := 1217) (by decide +kernel), by decide +kernel⟩
theorem md_X11_count : z_Md yX11_count cX11_count 4 (some .int) 1 := ⟨List.mem_of_getElem? (i := 73) (by decide +kernel), List.mem_of_getElem? (i := 1149) (by decide +kernel), by decide +kernel⟩
theorem md_X11_cut : z_Md yX11_cut cX11_cut 3 (some .int) 2 := ⟨List.mem_of_getElem? (i := 73) (by decide +kernel), List.mem_of_getElem? (i := 1145) (by decide +kernel), by decide +kernel⟩
theorem md_X11_cutOf : z_Md yX11_cutOf cX11_cutOf 2 (some .int) 1 := ⟨List.mem_of_getElem? (i := 73) (by decide +kernel), List.mem_of_getElem? (i := 1037) (by decide +kernel), by decide +kernel⟩
theorem md_X11_differs : z_Md yX11_differs cX11_differs 7 (some .int) 4 := ⟨List.mem_of_getElem? (i := 73) (by decide +kernel), List.mem_of_getElem? (i := 1201) (by decide +kernel), by decide +kernel⟩
theorem md_X11_drop : z_Md yX11_drop cX11_drop 2 (some .int) 1 := ⟨List.mem_of_getElem? (i := 73) (by decide +kernel), List.mem_of_getElem? (i := 1209) (by decide +kernel), by decide +kernel⟩
theorem md_X11_eats : z_Md yX11_eats cX11_eats 9 (some .boolean) 5 := ⟨List.mem_of_getElem? (i := 73) (by decide +kernel), List.mem_of_getElem? (i := 1181) (by decide +kernel), by decide +kernel⟩
theorem md_X11_far : z_Md yX11_far cX11_far 4 (some .int) 3 := ⟨List.mem_of_getElem? (i := 73) (by decide +kernel), List.mem_of_getElem? (i := 1173) (by decide +kernel), by decide +kernel⟩
theorem md_X11_faultOf : z_Md yX11_faultOf cX11_faultOf 8 (some .int) 0 := ⟨List.mem_of_getElem? (i := 73) (by decide +kernel), List.mem_of_getElem? (i := 1085) (by decide +kernel), by decide +kernel⟩
theorem md_X11_fewest : z_Md yX11_fewest cX11_fewest 7 (some .int) 4 := ⟨List.mem_of_getElem? (i := 73) (by decide +kernel), List.mem_of_getElem? (i := 1177) (by decide +kernel), by decide +kernel⟩
theorem md_X11_film : z_Md yX11_film cX11_film 7 (some .int) 4 := ⟨List.mem_of_getElem? (i := 73) (by decide +kernel), List.mem_of_getElem? (i := 1193) (by decide +kernel), by decide +kernel⟩
theorem md_X11_finds : z_Md yX11_finds cX11_finds 3 (some .int) 2 := ⟨List.mem_of_getElem? (i := 73) (by decide +kernel), List.mem_of_getElem? (i := 1141) (by decide +kernel), by decide +kernel⟩
theorem md_X11_findsOf : z_Md yX11_findsOf cX11_findsOf 5 (some .int) 2 := ⟨List.mem_of_getElem? (i := 73) (by decide +kernel), List.mem_of_getElem? (i := 1105) (by decide +kernel), by decide +kernel⟩
theorem md_X11_flip : z_Md yX11_flip cX11_flip 4 (some .int) 2 := ⟨List.mem_of_getElem? (i := 73) (by decide +kernel), List.mem_of_getElem? (i := 1064) (by decide +kernel), by decide +kernel⟩
theorem md_X11_flipped : z_Md yX11_flipped cX11_flipped 8 (some .int) 2 := ⟨List.mem_of_getElem? (i := 73) (by decide +kernel), List.mem_of_getElem? (i := 1072) (by decide +kernel), by decide +kernel⟩
theorem md_X11_form : z_Md yX11_form cX11_form 2 (some .int) 1 := ⟨List.mem_of_getElem? (i := 73) (by decide +kernel), List.mem_of_getElem? (i := 1053) (by decide +kernel), by decide +kernel⟩
theorem md_X11_formOf : z_Md yX11_formOf cX11_formOf 4 (some .int) 1 := ⟨List.mem_of_getElem? (i := 73) (by decide +kernel), List.mem_of_getElem? (i := 1057) (by decide +kernel), by decide +kernel⟩
theorem md_X11_forms : z_Md yX11_forms cX11_forms 2 (some .int) 1 := ⟨List.mem_of_getElem? (i := 73) (by decide +kernel), List.mem_of_getElem? (i := 1153) (by decide +kernel), by decide +kernel⟩
theorem md_X11_goesTo : z_Md yX11_goesTo cX11_goesTo 7 (some .int) 2 := ⟨List.mem_of_getElem? (i := 73) (by decide +kernel), List.mem_of_getElem? (i := 1068) (by decide +kernel), by decide +kernel⟩
theorem md_X11_grab : z_Md yX11_grab cX11_grab 6 none 2 := ⟨List.mem_of_getElem? (i := 73) (by decide +kernel), List.mem_of_getElem? (i := 1125) (by decide +kernel), by decide +kernel⟩
theorem md_X11_hasPiece : z_Md yX11_hasPiece cX11_hasPiece 4 (some .boolean) 1 := ⟨List.mem_of_getElem? (i := 73) (by decide +kernel), List.mem_of_getElem? (i := 978) (by decide +kernel), by decide +kernel⟩
theorem md_X11_head : z_Md yX11_head cX11_head 4 (some .int) 2 := ⟨List.mem_of_getElem? (i := 73) (by decide +kernel), List.mem_of_getElem? (i := 1089) (by decide +kernel), by decide +kernel⟩
theorem md_X11_holdsTest : z_Md yX11_holdsTest cX11_holdsTest 9 (some .boolean) 2 := ⟨List.mem_of_getElem? (i := 73) (by decide +kernel), List.mem_of_getElem? (i := 1109) (by decide +kernel), by decide +kernel⟩
theorem md_X11_image : z_Md yX11_image cX11_image 3 (some .int) 1 := ⟨List.mem_of_getElem? (i := 73) (by decide +kernel), List.mem_of_getElem? (i := 1185) (by decide +kernel), by decide +kernel⟩
theorem md_X11_in : z_Md yX11_in cX11_in 3 (some .boolean) 3 := ⟨List.mem_of_getElem? (i := 73) (by decide +kernel), List.mem_of_getElem? (i := 974) (by decide +kernel), by decide +kernel⟩
theorem md_X11_init : z_Md yX11_init cX11_init 2 none 0 := ⟨List.mem_of_getElem? (i := 73) (by decide +kernel), List.mem_of_getElem? (i := 895) (by decide +kernel), by decide +kernel⟩
theorem md_X11_isArm : z_Md yX11_isArm cX11_isArm 2 (some .boolean) 1 := ⟨List.mem_of_getElem? (i := 73) (by decide +kernel), List.mem_of_getElem? (i := 1033) (by decide +kernel), by decide +kernel⟩
theorem md_X11_isCell : z_Md yX11_isCell cX11_isCell 2 (some .boolean) 2 := ⟨List.mem_of_getElem? (i := 73) (by decide +kernel), List.mem_of_getElem? (i := 971) (by decide +kernel), by decide +kernel⟩
theorem md_X11_isFree : z_Md yX11_isFree cX11_isFree 2 (some .boolean) 1 := ⟨List.mem_of_getElem? (i := 73) (by decide +kernel), List.mem_of_getElem? (i := 1017) (by decide +kernel), by decide +kernel⟩
theorem md_X11_isNear : z_Md yX11_isNear cX11_isNear 7 (some .boolean) 2 := ⟨List.mem_of_getElem? (i := 73) (by decide +kernel), List.mem_of_getElem? (i := 1117) (by decide +kernel), by decide +kernel⟩
theorem md_X11_isPiece : z_Md yX11_isPiece cX11_isPiece 3 (some .boolean) 2 := ⟨List.mem_of_getElem? (i := 73) (by decide +kernel), List.mem_of_getElem? (i := 1029) (by decide +kernel), by decide +kernel⟩
theorem md_X11_isSheet : z_Md yX11_isSheet cX11_isSheet 1 (some .boolean) 1 := ⟨List.mem_of_getElem? (i := 73) (by decide +kernel), List.mem_of_getElem? (i := 1003) (by decide +kernel), by decide +kernel⟩
theorem md_X11_isThing : z_Md yX11_isThing cX11_isThing 2 (some .boolean) 1 := ⟨List.mem_of_getElem? (i := 73) (by decide +kernel), List.mem_of_getElem? (i := 1049) (by decide +kernel), by decide +kernel⟩
theorem md_X11_isTip : z_Md yX11_isTip cX11_isTip 3 (some .boolean) 2 := ⟨List.mem_of_getElem? (i := 73) (by decide +kernel), List.mem_of_getElem? (i := 1041) (by decide +kernel), by decide +kernel⟩
theorem md_X11_item : z_Md yX11_item cX11_item 5 (some .int) 4 := ⟨List.mem_of_getElem? (i := 73) (by decide +kernel), List.mem_of_getElem? (i := 1213) (by decide +kernel), by decide +kernel⟩
theorem md_X11_lay : z_Md yX11_lay cX11_lay 4 none 2 := ⟨List.mem_of_getElem? (i := 73) (by decide +kernel), List.mem_of_getElem? (i := 1165) (by decide +kernel), by decide +kernel⟩
theorem md_X11_layReach : z_Md yX11_layReach cX11_layReach 10 none 1 := ⟨List.mem_of_getElem? (i := 73) (by decide +kernel), List.mem_of_getElem? (i := 1157) (by decide +kernel), by decide +kernel⟩
theorem md_X11_letGo : z_Md yX11_letGo cX11_letGo 4 none 2 := ⟨List.mem_of_getElem? (i := 73) (by decide +kernel), List.mem_of_getElem? (i := 1133) (by decide +kernel), by decide +kernel⟩
theorem md_X11_lyingAt : z_Md yX11_lyingAt cX11_lyingAt 3 (some .int) 1 := ⟨List.mem_of_getElem? (i := 73) (by decide +kernel), List.mem_of_getElem? (i := 993) (by decide +kernel), by decide +kernel⟩
theorem md_X11_of : z_Md yX11_of cX11_of 2 (some .int) 2 := ⟨List.mem_of_getElem? (i := 73) (by decide +kernel), List.mem_of_getElem? (i := 985) (by decide +kernel), by decide +kernel⟩
theorem md_X11_pass : z_Md yX11_pass cX11_pass 4 none 2 := ⟨List.mem_of_getElem? (i := 73) (by decide +kernel), List.mem_of_getElem? (i := 1129) (by decide +kernel), by decide +kernel⟩
theorem md_X11_piece : z_Md yX11_piece cX11_piece 4 (some .int) 3 := ⟨List.mem_of_getElem? (i := 73) (by decide +kernel), List.mem_of_getElem? (i := 1025) (by decide +kernel), by decide +kernel⟩
theorem md_X11_pieces : z_Md yX11_pieces cX11_pieces 2 (some .int) 1 := ⟨List.mem_of_getElem? (i := 73) (by decide +kernel), List.mem_of_getElem? (i := 982) (by decide +kernel), by decide +kernel⟩
theorem md_X11_power : z_Md yX11_power cX11_power 1 (some .int) 1 := ⟨List.mem_of_getElem? (i := 73) (by decide +kernel), List.mem_of_getElem? (i := 1010) (by decide +kernel), by decide +kernel⟩
theorem md_X11_reach : z_Md yX11_reach cX11_reach 4 (some .int) 1 := ⟨List.mem_of_getElem? (i := 73) (by decide +kernel), List.mem_of_getElem? (i := 1169) (by decide +kernel), by decide +kernel⟩
theorem md_X11_restore : z_Md yX11_restore cX11_restore 3 (some .int) 1 := ⟨List.mem_of_getElem? (i := 73) (by decide +kernel), List.mem_of_getElem? (i := 1189) (by decide +kernel), by decide +kernel⟩
theorem md_X11_rules : z_Md yX11_rules cX11_rules 6 (some .int) 1 := ⟨List.mem_of_getElem? (i := 73) (by decide +kernel), List.mem_of_getElem? (i := 1081) (by decide +kernel), by decide +kernel⟩
theorem md_X11_sheet : z_Md yX11_sheet cX11_sheet 5 (some .int) 3 := ⟨List.mem_of_getElem? (i := 73) (by decide +kernel), List.mem_of_getElem? (i := 1205) (by decide +kernel), by decide +kernel⟩
theorem md_X11_sideTo : z_Md yX11_sideTo cX11_sideTo 3 (some .int) 2 := ⟨List.mem_of_getElem? (i := 73) (by decide +kernel), List.mem_of_getElem? (i := 1060) (by decide +kernel), by decide +kernel⟩
theorem md_X11_skin : z_Md yX11_skin cX11_skin 3 (some .int) 1 := ⟨List.mem_of_getElem? (i := 73) (by decide +kernel), List.mem_of_getElem? (i := 1093) (by decide +kernel), by decide +kernel⟩
theorem md_X11_thing : z_Md yX11_thing cX11_thing 6 (some .int) 3 := ⟨List.mem_of_getElem? (i := 73) (by decide +kernel), List.mem_of_getElem? (i := 1021) (by decide +kernel), by decide +kernel⟩
theorem md_X11_thingAt : z_Md yX11_thingAt cX11_thingAt 1 (some .int) 1 := ⟨List.mem_of_getElem? (i := 73) (by decide +kernel), List.mem_of_getElem? (i := 996) (by decide +kernel), by decide +kernel⟩
theorem md_X11_things : z_Md yX11_things cX11_things 4 (some .int) 1 := ⟨List.mem_of_getElem? (i := 73) (by decide +kernel), List.mem_of_getElem? (i := 1137) (by decide +kernel), by decide +kernel⟩
theorem md_X11_tick : z_Md yX11_tick cX11_tick 3 none 0 := ⟨List.mem_of_getElem? (i := 73) (by decide +kernel), List.mem_of_getElem? (i := 1101) (by decide +kernel), by decide +kernel⟩
theorem md_X11_ticks : z_Md yX11_ticks cX11_ticks 3 (some .int) 1 := ⟨List.mem_of_getElem? (i := 73) (by decide +kernel), List.mem_of_getElem? (i := 1097) (by decide +kernel), by decide +kernel⟩
theorem md_X11_told : z_Md yX11_told cX11_told 5 (some .int) 2 := ⟨List.mem_of_getElem? (i := 73) (by decide +kernel), List.mem_of_getElem? (i := 1045) (by decide +kernel), by decide +kernel⟩
theorem md_X11_type : z_Md yX11_type cX11_type 5 (some .int) 2 := ⟨List.mem_of_getElem? (i := 73) (by decide +kernel), List.mem_of_getElem? (i := 1076) (by decide +kernel), by decide +kernel⟩
theorem md_X11_wall : z_Md yX11_wall cX11_wall 6 (some .int) 3 := ⟨List.mem_of_getElem? (i := 73) (by decide +kernel), List.mem_of_getElem? (i := 968) (by decide +kernel), by decide +kernel⟩
theorem md_X11_walls : z_Md yX11_walls cX11_walls 4 (some .int) 1 := ⟨List.mem_of_getElem? (i := 73) (by decide +kernel), List.mem_of_getElem? (i := 1000) (by decide +kernel), by decide +kernel⟩
theorem md_X1_holds : z_Md yX1_holds cX1_holds 6 (some .boolean) 3 := ⟨List.mem_of_getElem? (i := 79) (by decide +kernel), List.mem_of_getElem? (i := 702) (by decide +kernel), by decide +kernel⟩
theorem md_X1_init : z_Md yX1_init cX1_init 1 none 0 := ⟨List.mem_of_getElem? (i := 79) (by decide +kernel), List.mem_of_getElem? (i := 616) (by decide +kernel), by decide +kernel⟩
theorem md_X2_init : z_Md yX2_init cX2_init 1 none 0 := ⟨List.mem_of_getElem? (i := 78) (by decide +kernel), List.mem_of_getElem? (i := 583) (by decide +kernel), by decide +kernel⟩
theorem md_X3_goOnFrom : z_Md yX3_goOnFrom cX3_goOnFrom 7 none 2 := ⟨List.mem_of_getElem? (i := 70) (by decide +kernel), List.mem_of_getElem? (i := 788) (by decide +kernel), by decide +kernel⟩
theorem md_X3_init : z_Md yX3_init cX3_init 1 none 0 := ⟨List.mem_of_getElem? (i := 70) (by decide +kernel), List.mem_of_getElem? (i := 254) (by decide +kernel), by decide +kernel⟩
theorem md_X3_layOut : z_Md yX3_layOut cX3_layOut 5 (some .long) 1 := ⟨List.mem_of_getElem? (i := 70) (by decide +kernel), List.mem_of_getElem? (i := 766) (by decide +kernel), by decide +kernel⟩
theorem md_X3_search : z_Md yX3_search cX3_search 6 none 2 := ⟨List.mem_of_getElem? (i := 70) (by decide +kernel), List.mem_of_getElem? (i := 761) (by decide +kernel), by decide +kernel⟩
theorem md_X3_searchAnew : z_Md yX3_searchAnew cX3_searchAnew 2 none 0 := ⟨List.mem_of_getElem? (i := 70) (by decide +kernel), List.mem_of_getElem? (i := 772) (by decide +kernel), by decide +kernel⟩
theorem md_X3_see : z_Md yX3_see cX3_see 3 none 2 := ⟨List.mem_of_getElem? (i := 70) (by decide +kernel), List.mem_of_getElem? (i := 784) (by decide +kernel), by decide +kernel⟩
theorem md_X3_seeFlip : z_Md yX3_seeFlip cX3_seeFlip 11 none 4 := ⟨List.mem_of_getElem? (i := 70) (by decide +kernel), List.mem_of_getElem? (i := 792) (by decide +kernel), by decide +kernel⟩
theorem md_X3_seeTurns : z_Md yX3_seeTurns cX3_seeTurns 8 none 3 := ⟨List.mem_of_getElem? (i := 70) (by decide +kernel), List.mem_of_getElem? (i := 796) (by decide +kernel), by decide +kernel⟩
theorem md_X4_fail : z_Md yX4_fail cX4_fail 1 none 0 := ⟨List.mem_of_getElem? (i := 69) (by decide +kernel), List.mem_of_getElem? (i := 650) (by decide +kernel), by decide +kernel⟩
theorem md_X4_goTo : z_Md yX4_goTo cX4_goTo 2 none 1 := ⟨List.mem_of_getElem? (i := 69) (by decide +kernel), List.mem_of_getElem? (i := 555) (by decide +kernel), by decide +kernel⟩
theorem md_X4_init : z_Md yX4_init cX4_init 1 none 0 := ⟨List.mem_of_getElem? (i := 69) (by decide +kernel), List.mem_of_getElem? (i := 230) (by decide +kernel), by decide +kernel⟩
theorem md_X4_isAct : z_Md yX4_isAct cX4_isAct 1 (some .boolean) 1 := ⟨List.mem_of_getElem? (i := 69) (by decide +kernel), List.mem_of_getElem? (i := 666) (by decide +kernel), by decide +kernel⟩
theorem md_X4_need : z_Md yX4_need cX4_need 2 none 1 := ⟨List.mem_of_getElem? (i := 69) (by decide +kernel), List.mem_of_getElem? (i := 646) (by decide +kernel), by decide +kernel⟩
theorem md_X4_read : z_Md yX4_read cX4_read 4 (some (.object "ThinkingArms$Rules")) 2 := ⟨List.mem_of_getElem? (i := 69) (by decide +kernel), List.mem_of_getElem? (i := 551) (by decide +kernel), by decide +kernel⟩
theorem md_X4_readAct : z_Md yX4_readAct cX4_readAct 3 none 1 := ⟨List.mem_of_getElem? (i := 69) (by decide +kernel), List.mem_of_getElem? (i := 663) (by decide +kernel), by decide +kernel⟩
theorem md_X4_readClaim : z_Md yX4_readClaim cX4_readClaim 3 (some (.object "ThinkingArms$Claim")) 1 := ⟨List.mem_of_getElem? (i := 69) (by decide +kernel), List.mem_of_getElem? (i := 611) (by decide +kernel), by decide +kernel⟩
theorem md_X4_readClause : z_Md yX4_readClause cX4_readClause 3 (some (.object "ThinkingArms$Clause")) 0 := ⟨List.mem_of_getElem? (i := 69) (by decide +kernel), List.mem_of_getElem? (i := 578) (by decide +kernel), by decide +kernel⟩
theorem md_X4_readDigit : z_Md yX4_readDigit cX4_readDigit 2 (some .int) 0 := ⟨List.mem_of_getElem? (i := 69) (by decide +kernel), List.mem_of_getElem? (i := 658) (by decide +kernel), by decide +kernel⟩
theorem md_X4_readSense : z_Md yX4_readSense cX4_readSense 1 (some .int) 0 := ⟨List.mem_of_getElem? (i := 69) (by decide +kernel), List.mem_of_getElem? (i := 654) (by decide +kernel), by decide +kernel⟩
theorem md_X4_readTest : z_Md yX4_readTest cX4_readTest 6 (some (.object "ThinkingArms$Claim")) 1 := ⟨List.mem_of_getElem? (i := 69) (by decide +kernel), List.mem_of_getElem? (i := 607) (by decide +kernel), by decide +kernel⟩
theorem md_X4_takes : z_Md yX4_takes cX4_takes 2 (some .boolean) 1 := ⟨List.mem_of_getElem? (i := 69) (by decide +kernel), List.mem_of_getElem? (i := 642) (by decide +kernel), by decide +kernel⟩
theorem md_X5_firstFor : z_Md yX5_firstFor cX5_firstFor 3 (some .int) 1 := ⟨List.mem_of_getElem? (i := 77) (by decide +kernel), List.mem_of_getElem? (i := 699) (by decide +kernel), by decide +kernel⟩
theorem md_X5_init : z_Md yX5_init cX5_init 1 none 0 := ⟨List.mem_of_getElem? (i := 77) (by decide +kernel), List.mem_of_getElem? (i := 560) (by decide +kernel), by decide +kernel⟩
theorem md_X6_addArm : z_Md yX6_addArm cX6_addArm 4 none 2 := ⟨List.mem_of_getElem? (i := 66) (by decide +kernel), List.mem_of_getElem? (i := 436) (by decide +kernel), by decide +kernel⟩
theorem md_X6_addThing : z_Md yX6_addThing cX6_addThing 3 none 2 := ⟨List.mem_of_getElem? (i := 66) (by decide +kernel), List.mem_of_getElem? (i := 458) (by decide +kernel), by decide +kernel⟩
theorem md_X6_become : z_Md yX6_become cX6_become 3 none 1 := ⟨List.mem_of_getElem? (i := 66) (by decide +kernel), List.mem_of_getElem? (i := 817) (by decide +kernel), by decide +kernel⟩
theorem md_X6_canLie : z_Md yX6_canLie cX6_canLie 9 (some .boolean) 4 := ⟨List.mem_of_getElem? (i := 66) (by decide +kernel), List.mem_of_getElem? (i := 423) (by decide +kernel), by decide +kernel⟩
theorem md_X6_cellOfThing : z_Md yX6_cellOfThing cX6_cellOfThing 2 (some .int) 1 := ⟨List.mem_of_getElem? (i := 66) (by decide +kernel), List.mem_of_getElem? (i := 498) (by decide +kernel), by decide +kernel⟩
theorem md_X6_clauseFor : z_Md yX6_clauseFor cX6_clauseFor 3 (some .int) 2 := ⟨List.mem_of_getElem? (i := 66) (by decide +kernel), List.mem_of_getElem? (i := 686) (by decide +kernel), by decide +kernel⟩
theorem md_X6_countThings : z_Md yX6_countThings cX6_countThings 4 (some .int) 1 := ⟨List.mem_of_getElem? (i := 66) (by decide +kernel), List.mem_of_getElem? (i := 736) (by decide +kernel), by decide +kernel⟩
theorem md_X6_doActs : z_Md yX6_doActs cX6_doActs 9 (some .int) 2 := ⟨List.mem_of_getElem? (i := 66) (by decide +kernel), List.mem_of_getElem? (i := 707) (by decide +kernel), by decide +kernel⟩
theorem md_X6_flipped : z_Md yX6_flipped cX6_flipped 5 (some .int) 3 := ⟨List.mem_of_getElem? (i := 66) (by decide +kernel), List.mem_of_getElem? (i := 532) (by decide +kernel), by decide +kernel⟩
theorem md_X6_give : z_Md yX6_give cX6_give 4 none 3 := ⟨List.mem_of_getElem? (i := 66) (by decide +kernel), List.mem_of_getElem? (i := 724) (by decide +kernel), by decide +kernel⟩
theorem md_X6_grab : z_Md yX6_grab cX6_grab 6 none 2 := ⟨List.mem_of_getElem? (i := 66) (by decide +kernel), List.mem_of_getElem? (i := 712) (by decide +kernel), by decide +kernel⟩
theorem md_X6_inUse : z_Md yX6_inUse cX6_inUse 1 (some .long) 0 := ⟨List.mem_of_getElem? (i := 66) (by decide +kernel), List.mem_of_getElem? (i := 377) (by decide +kernel), by decide +kernel⟩
theorem md_X6_init : z_Md yX6_init cX6_init 2 none 0 := ⟨List.mem_of_getElem? (i := 66) (by decide +kernel), List.mem_of_getElem? (i := 92) (by decide +kernel), by decide +kernel⟩
theorem md_X6_isFree : z_Md yX6_isFree cX6_isFree 2 (some .boolean) 1 := ⟨List.mem_of_getElem? (i := 66) (by decide +kernel), List.mem_of_getElem? (i := 432) (by decide +kernel), by decide +kernel⟩
theorem md_X6_lay : z_Md yX6_lay cX6_lay 3 none 2 := ⟨List.mem_of_getElem? (i := 66) (by decide +kernel), List.mem_of_getElem? (i := 462) (by decide +kernel), by decide +kernel⟩
theorem md_X6_letGo : z_Md yX6_letGo cX6_letGo 4 none 2 := ⟨List.mem_of_getElem? (i := 66) (by decide +kernel), List.mem_of_getElem? (i := 732) (by decide +kernel), by decide +kernel⟩
theorem md_X6_lift : z_Md yX6_lift cX6_lift 2 none 1 := ⟨List.mem_of_getElem? (i := 66) (by decide +kernel), List.mem_of_getElem? (i := 720) (by decide +kernel), by decide +kernel⟩
theorem md_X6_lyingAt : z_Md yX6_lyingAt cX6_lyingAt 3 (some .int) 1 := ⟨List.mem_of_getElem? (i := 66) (by decide +kernel), List.mem_of_getElem? (i := 716) (by decide +kernel), by decide +kernel⟩
theorem md_X6_lyingCells : z_Md yX6_lyingCells cX6_lyingCells 1 (some .long) 0 := ⟨List.mem_of_getElem? (i := 66) (by decide +kernel), List.mem_of_getElem? (i := 381) (by decide +kernel), by decide +kernel⟩
theorem md_X6_move : z_Md yX6_move cX6_move 4 (some .boolean) 2 := ⟨List.mem_of_getElem? (i := 66) (by decide +kernel), List.mem_of_getElem? (i := 522) (by decide +kernel), by decide +kernel⟩
theorem md_X6_passOn : z_Md yX6_passOn cX6_passOn 6 none 2 := ⟨List.mem_of_getElem? (i := 66) (by decide +kernel), List.mem_of_getElem? (i := 728) (by decide +kernel), by decide +kernel⟩
theorem md_X6_senses : z_Md yX6_senses cX6_senses 7 (some .int) 2 := ⟨List.mem_of_getElem? (i := 66) (by decide +kernel), List.mem_of_getElem? (i := 690) (by decide +kernel), by decide +kernel⟩
theorem md_X6_tick : z_Md yX6_tick cX6_tick 3 none 0 := ⟨List.mem_of_getElem? (i := 66) (by decide +kernel), List.mem_of_getElem? (i := 682) (by decide +kernel), by decide +kernel⟩
theorem md_X6_turned : z_Md yX6_turned cX6_turned 6 (some .int) 2 := ⟨List.mem_of_getElem? (i := 66) (by decide +kernel), List.mem_of_getElem? (i := 527) (by decide +kernel), by decide +kernel⟩
theorem md_X7_asCells : z_Md yX7_asCells cX7_asCells 4 (some .long) 0 := ⟨List.mem_of_getElem? (i := 72) (by decide +kernel), List.mem_of_getElem? (i := 406) (by decide +kernel), by decide +kernel⟩
theorem md_X7_begin : z_Md yX7_begin cX7_begin 3 none 2 := ⟨List.mem_of_getElem? (i := 72) (by decide +kernel), List.mem_of_getElem? (i := 867) (by decide +kernel), by decide +kernel⟩
theorem md_X7_forget : z_Md yX7_forget cX7_forget 1 none 0 := ⟨List.mem_of_getElem? (i := 72) (by decide +kernel), List.mem_of_getElem? (i := 877) (by decide +kernel), by decide +kernel⟩
theorem md_X7_holdsNothing : z_Md yX7_holdsNothing cX7_holdsNothing 1 (some .boolean) 0 := ⟨List.mem_of_getElem? (i := 72) (by decide +kernel), List.mem_of_getElem? (i := 398) (by decide +kernel), by decide +kernel⟩
theorem md_X7_init : z_Md yX7_init cX7_init 1 none 0 := ⟨List.mem_of_getElem? (i := 72) (by decide +kernel), List.mem_of_getElem? (i := 321) (by decide +kernel), by decide +kernel⟩
theorem md_X7_refuses : z_Md yX7_refuses cX7_refuses 4 (some .int) 3 := ⟨List.mem_of_getElem? (i := 72) (by decide +kernel), List.mem_of_getElem? (i := 394) (by decide +kernel), by decide +kernel⟩
theorem md_X7_spans : z_Md yX7_spans cX7_spans 3 (some .boolean) 2 := ⟨List.mem_of_getElem? (i := 72) (by decide +kernel), List.mem_of_getElem? (i := 402) (by decide +kernel), by decide +kernel⟩
theorem md_X8_become : z_Md yX8_become cX8_become 2 none 1 := ⟨List.mem_of_getElem? (i := 68) (by decide +kernel), List.mem_of_getElem? (i := 826) (by decide +kernel), by decide +kernel⟩
theorem md_X8_init : z_Md yX8_init cX8_init 1 none 0 := ⟨List.mem_of_getElem? (i := 68) (by decide +kernel), List.mem_of_getElem? (i := 156) (by decide +kernel), by decide +kernel⟩
theorem md_X9_init : z_Md yX9_init cX9_init 2 none 0 := ⟨List.mem_of_getElem? (i := 71) (by decide +kernel), List.mem_of_getElem? (i := 297) (by decide +kernel), by decide +kernel⟩
theorem md_X9_isEatenBy : z_Md yX9_isEatenBy cX9_isEatenBy 9 (some .boolean) 2 := ⟨List.mem_of_getElem? (i := 71) (by decide +kernel), List.mem_of_getElem? (i := 830) (by decide +kernel), by decide +kernel⟩
theorem md_X9_search : z_Md yX9_search cX9_search 6 (some .int) 4 := ⟨List.mem_of_getElem? (i := 71) (by decide +kernel), List.mem_of_getElem? (i := 813) (by decide +kernel), by decide +kernel⟩
theorem st_J13_bitCount_95d88 : Cond.static yJ13_bitCount_95d88 ∈ lw_tbl := List.mem_of_getElem? (i := 408) (by decide +kernel)
theorem st_J7_fill_53178 : Cond.static yJ7_fill_53178 ∈ lw_tbl := List.mem_of_getElem? (i := 445) (by decide +kernel)
theorem st_J7_fill_fda19 : Cond.static yJ7_fill_fda19 ∈ lw_tbl := List.mem_of_getElem? (i := 775) (by decide +kernel)
theorem st_J7_rangeCheck_23922 : Cond.static yJ7_rangeCheck_23922 ∈ lw_tbl := List.mem_of_getElem? (i := 778) (by decide +kernel)
theorem st_X10_beside : Cond.static yX10_beside ∈ lw_tbl := List.mem_of_getElem? (i := 425) (by decide +kernel)
theorem st_X10_byteOf : Cond.static yX10_byteOf ∈ lw_tbl := List.mem_of_getElem? (i := 542) (by decide +kernel)
theorem st_X10_cellOf : Cond.static yX10_cellOf ∈ lw_tbl := List.mem_of_getElem? (i := 372) (by decide +kernel)
theorem st_X10_formsOf : Cond.static yX10_formsOf ∈ lw_tbl := List.mem_of_getElem? (i := 418) (by decide +kernel)
theorem st_X10_isCell : Cond.static yX10_isCell ∈ lw_tbl := List.mem_of_getElem? (i := 369) (by decide +kernel)
theorem st_X10_isDigit : Cond.static yX10_isDigit ∈ lw_tbl := List.mem_of_getElem? (i := 452) (by decide +kernel)
theorem st_X10_isLane : Cond.static yX10_isLane ∈ lw_tbl := List.mem_of_getElem? (i := 862) (by decide +kernel)
theorem st_X10_narrowed : Cond.static yX10_narrowed ∈ lw_tbl := List.mem_of_getElem? (i := 883) (by decide +kernel)
theorem st_X10_near : Cond.static yX10_near ∈ lw_tbl := List.mem_of_getElem? (i := 692) (by decide +kernel)
theorem st_X10_sideOf : Cond.static yX10_sideOf ∈ lw_tbl := List.mem_of_getElem? (i := 509) (by decide +kernel)
theorem st_X10_touchByCorner : Cond.static yX10_touchByCorner ∈ lw_tbl := List.mem_of_getElem? (i := 534) (by decide +kernel)
theorem st_X11_beside : Cond.static yX11_beside ∈ lw_tbl := List.mem_of_getElem? (i := 1012) (by decide +kernel)
theorem st_X11_in : Cond.static yX11_in ∈ lw_tbl := List.mem_of_getElem? (i := 973) (by decide +kernel)
theorem st_X11_isCell : Cond.static yX11_isCell ∈ lw_tbl := List.mem_of_getElem? (i := 970) (by decide +kernel)
theorem st_X11_isSheet : Cond.static yX11_isSheet ∈ lw_tbl := List.mem_of_getElem? (i := 1002) (by decide +kernel)
theorem st_X11_of : Cond.static yX11_of ∈ lw_tbl := List.mem_of_getElem? (i := 984) (by decide +kernel)
theorem st_X11_power : Cond.static yX11_power ∈ lw_tbl := List.mem_of_getElem? (i := 1009) (by decide +kernel)
theorem st_X11_sideTo : Cond.static yX11_sideTo ∈ lw_tbl := List.mem_of_getElem? (i := 1059) (by decide +kernel)
theorem st_X11_thingAt : Cond.static yX11_thingAt ∈ lw_tbl := List.mem_of_getElem? (i := 995) (by decide +kernel)
theorem st_X1_holds : Cond.static yX1_holds ∈ lw_tbl := List.mem_of_getElem? (i := 701) (by decide +kernel)
theorem st_X4_isAct : Cond.static yX4_isAct ∈ lw_tbl := List.mem_of_getElem? (i := 665) (by decide +kernel)
theorem im_X0_become : Cond.instanceMethod yX0_become ∈ lw_tbl := List.mem_of_getElem? (i := 820) (by decide +kernel)
theorem im_X0_begin : Cond.instanceMethod yX0_begin ∈ lw_tbl := List.mem_of_getElem? (i := 438) (by decide +kernel)
theorem im_X0_canEverMove : Cond.instanceMethod yX0_canEverMove ∈ lw_tbl := List.mem_of_getElem? (i := 516) (by decide +kernel)
theorem im_X0_formNow : Cond.instanceMethod yX0_formNow ∈ lw_tbl := List.mem_of_getElem? (i := 505) (by decide +kernel)
theorem im_X0_init : Cond.instanceMethod yX0_init ∈ lw_tbl := List.mem_of_getElem? (i := 100) (by decide +kernel)
theorem im_X0_isCut : Cond.instanceMethod yX0_isCut ∈ lw_tbl := List.mem_of_getElem? (i := 480) (by decide +kernel)
theorem im_X0_isCutOff : Cond.instanceMethod yX0_isCutOff ∈ lw_tbl := List.mem_of_getElem? (i := 476) (by decide +kernel)
theorem im_X0_isTip : Cond.instanceMethod yX0_isTip ∈ lw_tbl := List.mem_of_getElem? (i := 484) (by decide +kernel)
theorem im_X10_arm : Cond.instanceMethod yX10_arm ∈ lw_tbl := List.mem_of_getElem? (i := 414) (by decide +kernel)
theorem im_X10_copy : Cond.instanceMethod yX10_copy ∈ lw_tbl := List.mem_of_getElem? (i := 886) (by decide +kernel)
theorem im_X10_count : Cond.instanceMethod yX10_count ∈ lw_tbl := List.mem_of_getElem? (i := 747) (by decide +kernel)
theorem im_X10_cut : Cond.instanceMethod yX10_cut ∈ lw_tbl := List.mem_of_getElem? (i := 743) (by decide +kernel)
theorem im_X10_differs : Cond.instanceMethod yX10_differs ∈ lw_tbl := List.mem_of_getElem? (i := 854) (by decide +kernel)
theorem im_X10_drop : Cond.instanceMethod yX10_drop ∈ lw_tbl := List.mem_of_getElem? (i := 870) (by decide +kernel)
theorem im_X10_far : Cond.instanceMethod yX10_far ∈ lw_tbl := List.mem_of_getElem? (i := 803) (by decide +kernel)
theorem im_X10_fewest : Cond.instanceMethod yX10_fewest ∈ lw_tbl := List.mem_of_getElem? (i := 807) (by decide +kernel)
theorem im_X10_film : Cond.instanceMethod yX10_film ∈ lw_tbl := List.mem_of_getElem? (i := 846) (by decide +kernel)
theorem im_X10_finds : Cond.instanceMethod yX10_finds ∈ lw_tbl := List.mem_of_getElem? (i := 738) (by decide +kernel)
theorem im_X10_flip : Cond.instanceMethod yX10_flip ∈ lw_tbl := List.mem_of_getElem? (i := 512) (by decide +kernel)
theorem im_X10_form : Cond.instanceMethod yX10_form ∈ lw_tbl := List.mem_of_getElem? (i := 500) (by decide +kernel)
theorem im_X10_forms : Cond.instanceMethod yX10_forms ∈ lw_tbl := List.mem_of_getElem? (i := 751) (by decide +kernel)
theorem im_X10_head : Cond.instanceMethod yX10_head ∈ lw_tbl := List.mem_of_getElem? (i := 668) (by decide +kernel)
theorem im_X10_image : Cond.instanceMethod yX10_image ∈ lw_tbl := List.mem_of_getElem? (i := 833) (by decide +kernel)
theorem im_X10_init : Cond.instanceMethod yX10_init ∈ lw_tbl := List.mem_of_getElem? (i := 83) (by decide +kernel)
theorem im_X10_isArm : Cond.instanceMethod yX10_isArm ∈ lw_tbl := List.mem_of_getElem? (i := 473) (by decide +kernel)
theorem im_X10_isImage : Cond.instanceMethod yX10_isImage ∈ lw_tbl := List.mem_of_getElem? (i := 838) (by decide +kernel)
theorem im_X10_isPiece : Cond.instanceMethod yX10_isPiece ∈ lw_tbl := List.mem_of_getElem? (i := 469) (by decide +kernel)
theorem im_X10_isSheet : Cond.instanceMethod yX10_isSheet ∈ lw_tbl := List.mem_of_getElem? (i := 389) (by decide +kernel)
theorem im_X10_isThing : Cond.instanceMethod yX10_isThing ∈ lw_tbl := List.mem_of_getElem? (i := 493) (by decide +kernel)
theorem im_X10_item : Cond.instanceMethod yX10_item ∈ lw_tbl := List.mem_of_getElem? (i := 879) (by decide +kernel)
theorem im_X10_piece : Cond.instanceMethod yX10_piece ∈ lw_tbl := List.mem_of_getElem? (i := 464) (by decide +kernel)
theorem im_X10_reach : Cond.instanceMethod yX10_reach ∈ lw_tbl := List.mem_of_getElem? (i := 799) (by decide +kernel)
theorem im_X10_refusesFilm : Cond.instanceMethod yX10_refusesFilm ∈ lw_tbl := List.mem_of_getElem? (i := 851) (by decide +kernel)
theorem im_X10_refusesReach : Cond.instanceMethod yX10_refusesReach ∈ lw_tbl := List.mem_of_getElem? (i := 756) (by decide +kernel)
theorem im_X10_restore : Cond.instanceMethod yX10_restore ∈ lw_tbl := List.mem_of_getElem? (i := 842) (by decide +kernel)
theorem im_X10_rules : Cond.instanceMethod yX10_rules ∈ lw_tbl := List.mem_of_getElem? (i := 545) (by decide +kernel)
theorem im_X10_sheet : Cond.instanceMethod yX10_sheet ∈ lw_tbl := List.mem_of_getElem? (i := 858) (by decide +kernel)
theorem im_X10_skin : Cond.instanceMethod yX10_skin ∈ lw_tbl := List.mem_of_getElem? (i := 672) (by decide +kernel)
theorem im_X10_thing : Cond.instanceMethod yX10_thing ∈ lw_tbl := List.mem_of_getElem? (i := 448) (by decide +kernel)
theorem im_X10_ticks : Cond.instanceMethod yX10_ticks ∈ lw_tbl := List.mem_of_getElem? (i := 676) (by decide +kernel)
theorem im_X10_told : Cond.instanceMethod yX10_told ∈ lw_tbl := List.mem_of_getElem? (i := 488) (by decide +kernel)
theorem im_X10_type : Cond.instanceMethod yX10_type ∈ lw_tbl := List.mem_of_getElem? (i := 538) (by decide +kernel)
theorem im_X10_wall : Cond.instanceMethod yX10_wall ∈ lw_tbl := List.mem_of_getElem? (i := 365) (by decide +kernel)
theorem im_X10_walls : Cond.instanceMethod yX10_walls ∈ lw_tbl := List.mem_of_getElem? (i := 384) (by decide +kernel)
theorem im_X11_act : Cond.instanceMethod yX11_act ∈ lw_tbl := List.mem_of_getElem? (i := 1120) (by decide +kernel)
theorem im_X11_arm : Cond.instanceMethod yX11_arm ∈ lw_tbl := List.mem_of_getElem? (i := 1005) (by decide +kernel)
theorem im_X11_bars : Cond.instanceMethod yX11_bars ∈ lw_tbl := List.mem_of_getElem? (i := 1196) (by decide +kernel)
theorem im_X11_cell : Cond.instanceMethod yX11_cell ∈ lw_tbl := List.mem_of_getElem? (i := 988) (by decide +kernel)
theorem im_X11_claims : Cond.instanceMethod yX11_claims ∈ lw_tbl := List.mem_of_getElem? (i := 1112) (by decide +kernel)
theorem im_X11_come : Cond.instanceMethod yX11_come ∈ lw_tbl := List.mem_of_getElem? (i := 1160) (by decide +kernel)
theorem im_X11_copy : Cond.instanceMethod yX11_copy ∈ lw_tbl := List.mem_of_getElem? (i := 1215) (by decide +kernel)
theorem im_X11_count : Cond.instanceMethod yX11_count ∈ lw_tbl := List.mem_of_getElem? (i := 1147) (by decide +kernel)
theorem im_X11_cut : Cond.instanceMethod yX11_cut ∈ lw_tbl := List.mem_of_getElem? (i := 1143) (by decide +kernel)
theorem im_X11_cutOf : Cond.instanceMethod yX11_cutOf ∈ lw_tbl := List.mem_of_getElem? (i := 1036) (by decide +kernel)
theorem im_X11_differs : Cond.instanceMethod yX11_differs ∈ lw_tbl := List.mem_of_getElem? (i := 1199) (by decide +kernel)
theorem im_X11_drop : Cond.instanceMethod yX11_drop ∈ lw_tbl := List.mem_of_getElem? (i := 1207) (by decide +kernel)
theorem im_X11_eats : Cond.instanceMethod yX11_eats ∈ lw_tbl := List.mem_of_getElem? (i := 1180) (by decide +kernel)
theorem im_X11_far : Cond.instanceMethod yX11_far ∈ lw_tbl := List.mem_of_getElem? (i := 1171) (by decide +kernel)
theorem im_X11_faultOf : Cond.instanceMethod yX11_faultOf ∈ lw_tbl := List.mem_of_getElem? (i := 1084) (by decide +kernel)
theorem im_X11_fewest : Cond.instanceMethod yX11_fewest ∈ lw_tbl := List.mem_of_getElem? (i := 1175) (by decide +kernel)
theorem im_X11_film : Cond.instanceMethod yX11_film ∈ lw_tbl := List.mem_of_getElem? (i := 1191) (by decide +kernel)
theorem im_X11_finds : Cond.instanceMethod yX11_finds ∈ lw_tbl := List.mem_of_getElem? (i := 1139) (by decide +kernel)
theorem im_X11_findsOf : Cond.instanceMethod yX11_findsOf ∈ lw_tbl := List.mem_of_getElem? (i := 1104) (by decide +kernel)
theorem im_X11_flip : Cond.instanceMethod yX11_flip ∈ lw_tbl := List.mem_of_getElem? (i := 1062) (by decide +kernel)
theorem im_X11_flipped : Cond.instanceMethod yX11_flipped ∈ lw_tbl := List.mem_of_getElem? (i := 1071) (by decide +kernel)
theorem im_X11_form : Cond.instanceMethod yX11_form ∈ lw_tbl := List.mem_of_getElem? (i := 1051) (by decide +kernel)
theorem im_X11_formOf : Cond.instanceMethod yX11_formOf ∈ lw_tbl := List.mem_of_getElem? (i := 1056) (by decide +kernel)
theorem im_X11_forms : Cond.instanceMethod yX11_forms ∈ lw_tbl := List.mem_of_getElem? (i := 1151) (by decide +kernel)
theorem im_X11_goesTo : Cond.instanceMethod yX11_goesTo ∈ lw_tbl := List.mem_of_getElem? (i := 1067) (by decide +kernel)
theorem im_X11_grab : Cond.instanceMethod yX11_grab ∈ lw_tbl := List.mem_of_getElem? (i := 1124) (by decide +kernel)
theorem im_X11_hasPiece : Cond.instanceMethod yX11_hasPiece ∈ lw_tbl := List.mem_of_getElem? (i := 977) (by decide +kernel)
theorem im_X11_head : Cond.instanceMethod yX11_head ∈ lw_tbl := List.mem_of_getElem? (i := 1087) (by decide +kernel)
theorem im_X11_holdsTest : Cond.instanceMethod yX11_holdsTest ∈ lw_tbl := List.mem_of_getElem? (i := 1108) (by decide +kernel)
theorem im_X11_image : Cond.instanceMethod yX11_image ∈ lw_tbl := List.mem_of_getElem? (i := 1183) (by decide +kernel)
theorem im_X11_init : Cond.instanceMethod yX11_init ∈ lw_tbl := List.mem_of_getElem? (i := 894) (by decide +kernel)
theorem im_X11_isArm : Cond.instanceMethod yX11_isArm ∈ lw_tbl := List.mem_of_getElem? (i := 1032) (by decide +kernel)
theorem im_X11_isFree : Cond.instanceMethod yX11_isFree ∈ lw_tbl := List.mem_of_getElem? (i := 1016) (by decide +kernel)
theorem im_X11_isNear : Cond.instanceMethod yX11_isNear ∈ lw_tbl := List.mem_of_getElem? (i := 1116) (by decide +kernel)
theorem im_X11_isPiece : Cond.instanceMethod yX11_isPiece ∈ lw_tbl := List.mem_of_getElem? (i := 1028) (by decide +kernel)
theorem im_X11_isThing : Cond.instanceMethod yX11_isThing ∈ lw_tbl := List.mem_of_getElem? (i := 1048) (by decide +kernel)
theorem im_X11_isTip : Cond.instanceMethod yX11_isTip ∈ lw_tbl := List.mem_of_getElem? (i := 1040) (by decide +kernel)
theorem im_X11_item : Cond.instanceMethod yX11_item ∈ lw_tbl := List.mem_of_getElem? (i := 1211) (by decide +kernel)
theorem im_X11_lay : Cond.instanceMethod yX11_lay ∈ lw_tbl := List.mem_of_getElem? (i := 1164) (by decide +kernel)
theorem im_X11_layReach : Cond.instanceMethod yX11_layReach ∈ lw_tbl := List.mem_of_getElem? (i := 1156) (by decide +kernel)
theorem im_X11_letGo : Cond.instanceMethod yX11_letGo ∈ lw_tbl := List.mem_of_getElem? (i := 1132) (by decide +kernel)
theorem im_X11_lyingAt : Cond.instanceMethod yX11_lyingAt ∈ lw_tbl := List.mem_of_getElem? (i := 992) (by decide +kernel)
theorem im_X11_pass : Cond.instanceMethod yX11_pass ∈ lw_tbl := List.mem_of_getElem? (i := 1128) (by decide +kernel)
theorem im_X11_piece : Cond.instanceMethod yX11_piece ∈ lw_tbl := List.mem_of_getElem? (i := 1023) (by decide +kernel)
theorem im_X11_pieces : Cond.instanceMethod yX11_pieces ∈ lw_tbl := List.mem_of_getElem? (i := 981) (by decide +kernel)
theorem im_X11_reach : Cond.instanceMethod yX11_reach ∈ lw_tbl := List.mem_of_getElem? (i := 1167) (by decide +kernel)
theorem im_X11_restore : Cond.instanceMethod yX11_restore ∈ lw_tbl := List.mem_of_getElem? (i := 1187) (by decide +kernel)
theorem im_X11_rules : Cond.instanceMethod yX11_rules ∈ lw_tbl := List.mem_of_getElem? (i := 1079) (by decide +kernel)
theorem im_X11_sheet : Cond.instanceMethod yX11_sheet ∈ lw_tbl := List.mem_of_getElem? (i := 1203) (by decide +kernel)
theorem im_X11_skin : Cond.instanceMethod yX11_skin ∈ lw_tbl := List.mem_of_getElem? (i := 1091) (by decide +kernel)
theorem im_X11_thing : Cond.instanceMethod yX11_thing ∈ lw_tbl := List.mem_of_getElem? (i := 1019) (by decide +kernel)
theorem im_X11_things : Cond.instanceMethod yX11_things ∈ lw_tbl := List.mem_of_getElem? (i := 1136) (by decide +kernel)
theorem im_X11_tick : Cond.instanceMethod yX11_tick ∈ lw_tbl := List.mem_of_getElem? (i := 1100) (by decide +kernel)
theorem im_X11_ticks : Cond.instanceMethod yX11_ticks ∈ lw_tbl := List.mem_of_getElem? (i := 1095) (by decide +kernel)
theorem im_X11_told : Cond.instanceMethod yX11_told ∈ lw_tbl := List.mem_of_getElem? (i := 1043) (by decide +kernel)
theorem im_X11_type : Cond.instanceMethod yX11_type ∈ lw_tbl := List.mem_of_getElem? (i := 1074) (by decide +kernel)
theorem im_X11_wall : Cond.instanceMethod yX11_wall ∈ lw_tbl := List.mem_of_getElem? (i := 966) (by decide +kernel)
theorem im_X11_walls : Cond.instanceMethod yX11_walls ∈ lw_tbl := List.mem_of_getElem? (i := 998) (by decide +kernel)
theorem im_X1_init : Cond.instanceMethod yX1_init ∈ lw_tbl := List.mem_of_getElem? (i := 615) (by decide +kernel)
theorem im_X2_init : Cond.instanceMethod yX2_init ∈ lw_tbl := List.mem_of_getElem? (i := 582) (by decide +kernel)
theorem im_X3_goOnFrom : Cond.instanceMethod yX3_goOnFrom ∈ lw_tbl := List.mem_of_getElem? (i := 787) (by decide +kernel)
theorem im_X3_init : Cond.instanceMethod yX3_init ∈ lw_tbl := List.mem_of_getElem? (i := 253) (by decide +kernel)
theorem im_X3_layOut : Cond.instanceMethod yX3_layOut ∈ lw_tbl := List.mem_of_getElem? (i := 765) (by decide +kernel)
theorem im_X3_search : Cond.instanceMethod yX3_search ∈ lw_tbl := List.mem_of_getElem? (i := 759) (by decide +kernel)
theorem im_X3_searchAnew : Cond.instanceMethod yX3_searchAnew ∈ lw_tbl := List.mem_of_getElem? (i := 771) (by decide +kernel)
theorem im_X3_see : Cond.instanceMethod yX3_see ∈ lw_tbl := List.mem_of_getElem? (i := 783) (by decide +kernel)
theorem im_X3_seeFlip : Cond.instanceMethod yX3_seeFlip ∈ lw_tbl := List.mem_of_getElem? (i := 791) (by decide +kernel)
theorem im_X3_seeTurns : Cond.instanceMethod yX3_seeTurns ∈ lw_tbl := List.mem_of_getElem? (i := 795) (by decide +kernel)
theorem im_X4_fail : Cond.instanceMethod yX4_fail ∈ lw_tbl := List.mem_of_getElem? (i := 649) (by decide +kernel)
theorem im_X4_goTo : Cond.instanceMethod yX4_goTo ∈ lw_tbl := List.mem_of_getElem? (i := 554) (by decide +kernel)
theorem im_X4_init : Cond.instanceMethod yX4_init ∈ lw_tbl := List.mem_of_getElem? (i := 229) (by decide +kernel)
theorem im_X4_need : Cond.instanceMethod yX4_need ∈ lw_tbl := List.mem_of_getElem? (i := 645) (by decide +kernel)
theorem im_X4_read : Cond.instanceMethod yX4_read ∈ lw_tbl := List.mem_of_getElem? (i := 549) (by decide +kernel)
theorem im_X4_readAct : Cond.instanceMethod yX4_readAct ∈ lw_tbl := List.mem_of_getElem? (i := 662) (by decide +kernel)
theorem im_X4_readClaim : Cond.instanceMethod yX4_readClaim ∈ lw_tbl := List.mem_of_getElem? (i := 610) (by decide +kernel)
theorem im_X4_readClause : Cond.instanceMethod yX4_readClause ∈ lw_tbl := List.mem_of_getElem? (i := 577) (by decide +kernel)
theorem im_X4_readDigit : Cond.instanceMethod yX4_readDigit ∈ lw_tbl := List.mem_of_getElem? (i := 657) (by decide +kernel)
theorem im_X4_readSense : Cond.instanceMethod yX4_readSense ∈ lw_tbl := List.mem_of_getElem? (i := 653) (by decide +kernel)
theorem im_X4_readTest : Cond.instanceMethod yX4_readTest ∈ lw_tbl := List.mem_of_getElem? (i := 606) (by decide +kernel)
theorem im_X4_takes : Cond.instanceMethod yX4_takes ∈ lw_tbl := List.mem_of_getElem? (i := 641) (by decide +kernel)
theorem im_X5_firstFor : Cond.instanceMethod yX5_firstFor ∈ lw_tbl := List.mem_of_getElem? (i := 697) (by decide +kernel)
theorem im_X5_init : Cond.instanceMethod yX5_init ∈ lw_tbl := List.mem_of_getElem? (i := 559) (by decide +kernel)
theorem im_X6_addArm : Cond.instanceMethod yX6_addArm ∈ lw_tbl := List.mem_of_getElem? (i := 434) (by decide +kernel)
theorem im_X6_addThing : Cond.instanceMethod yX6_addThing ∈ lw_tbl := List.mem_of_getElem? (i := 456) (by decide +kernel)
theorem im_X6_become : Cond.instanceMethod yX6_become ∈ lw_tbl := List.mem_of_getElem? (i := 815) (by decide +kernel)
theorem im_X6_canLie : Cond.instanceMethod yX6_canLie ∈ lw_tbl := List.mem_of_getElem? (i := 421) (by decide +kernel)
theorem im_X6_cellOfThing : Cond.instanceMethod yX6_cellOfThing ∈ lw_tbl := List.mem_of_getElem? (i := 496) (by decide +kernel)
theorem im_X6_clauseFor : Cond.instanceMethod yX6_clauseFor ∈ lw_tbl := List.mem_of_getElem? (i := 684) (by decide +kernel)
theorem im_X6_countThings : Cond.instanceMethod yX6_countThings ∈ lw_tbl := List.mem_of_getElem? (i := 734) (by decide +kernel)
theorem im_X6_doActs : Cond.instanceMethod yX6_doActs ∈ lw_tbl := List.mem_of_getElem? (i := 706) (by decide +kernel)
theorem im_X6_flipped : Cond.instanceMethod yX6_flipped ∈ lw_tbl := List.mem_of_getElem? (i := 531) (by decide +kernel)
theorem im_X6_give : Cond.instanceMethod yX6_give ∈ lw_tbl := List.mem_of_getElem? (i := 723) (by decide +kernel)
theorem im_X6_grab : Cond.instanceMethod yX6_grab ∈ lw_tbl := List.mem_of_getElem? (i := 711) (by decide +kernel)
theorem im_X6_inUse : Cond.instanceMethod yX6_inUse ∈ lw_tbl := List.mem_of_getElem? (i := 375) (by decide +kernel)
theorem im_X6_init : Cond.instanceMethod yX6_init ∈ lw_tbl := List.mem_of_getElem? (i := 91) (by decide +kernel)
theorem im_X6_isFree : Cond.instanceMethod yX6_isFree ∈ lw_tbl := List.mem_of_getElem? (i := 430) (by decide +kernel)
theorem im_X6_lay : Cond.instanceMethod yX6_lay ∈ lw_tbl := List.mem_of_getElem? (i := 461) (by decide +kernel)
theorem im_X6_letGo : Cond.instanceMethod yX6_letGo ∈ lw_tbl := List.mem_of_getElem? (i := 731) (by decide +kernel)
theorem im_X6_lift : Cond.instanceMethod yX6_lift ∈ lw_tbl := List.mem_of_getElem? (i := 719) (by decide +kernel)
theorem im_X6_lyingAt : Cond.instanceMethod yX6_lyingAt ∈ lw_tbl := List.mem_of_getElem? (i := 715) (by decide +kernel)
theorem im_X6_lyingCells : Cond.instanceMethod yX6_lyingCells ∈ lw_tbl := List.mem_of_getElem? (i := 379) (by decide +kernel)
theorem im_X6_move : Cond.instanceMethod yX6_move ∈ lw_tbl := List.mem_of_getElem? (i := 520) (by decide +kernel)
theorem im_X6_passOn : Cond.instanceMethod yX6_passOn ∈ lw_tbl := List.mem_of_getElem? (i := 727) (by decide +kernel)
theorem im_X6_senses : Cond.instanceMethod yX6_senses ∈ lw_tbl := List.mem_of_getElem? (i := 689) (by decide +kernel)
theorem im_X6_tick : Cond.instanceMethod yX6_tick ∈ lw_tbl := List.mem_of_getElem? (i := 680) (by decide +kernel)
theorem im_X6_turned : Cond.instanceMethod yX6_turned ∈ lw_tbl := List.mem_of_getElem? (i := 526) (by decide +kernel)
theorem im_X7_asCells : Cond.instanceMethod yX7_asCells ∈ lw_tbl := List.mem_of_getElem? (i := 404) (by decide +kernel)
theorem im_X7_begin : Cond.instanceMethod yX7_begin ∈ lw_tbl := List.mem_of_getElem? (i := 865) (by decide +kernel)
theorem im_X7_forget : Cond.instanceMethod yX7_forget ∈ lw_tbl := List.mem_of_getElem? (i := 875) (by decide +kernel)
theorem im_X7_holdsNothing : Cond.instanceMethod yX7_holdsNothing ∈ lw_tbl := List.mem_of_getElem? (i := 396) (by decide +kernel)
theorem im_X7_init : Cond.instanceMethod yX7_init ∈ lw_tbl := List.mem_of_getElem? (i := 320) (by decide +kernel)
theorem im_X7_refuses : Cond.instanceMethod yX7_refuses ∈ lw_tbl := List.mem_of_getElem? (i := 392) (by decide +kernel)
theorem im_X7_spans : Cond.instanceMethod yX7_spans ∈ lw_tbl := List.mem_of_getElem? (i := 400) (by decide +kernel)
theorem im_X8_become : Cond.instanceMethod yX8_become ∈ lw_tbl := List.mem_of_getElem? (i := 824) (by decide +kernel)
theorem im_X8_init : Cond.instanceMethod yX8_init ∈ lw_tbl := List.mem_of_getElem? (i := 155) (by decide +kernel)
theorem im_X9_init : Cond.instanceMethod yX9_init ∈ lw_tbl := List.mem_of_getElem? (i := 296) (by decide +kernel)
theorem im_X9_isEatenBy : Cond.instanceMethod yX9_isEatenBy ∈ lw_tbl := List.mem_of_getElem? (i := 829) (by decide +kernel)
theorem im_X9_search : Cond.instanceMethod yX9_search ∈ lw_tbl := List.mem_of_getElem? (i := 811) (by decide +kernel)
theorem sl_X0_become : Cond.selects yX0_become.cls yX0_become yX0_become ∈ lw_tbl := List.mem_of_getElem? (i := 821) (by decide +kernel)
theorem sl_X0_begin : Cond.selects yX0_begin.cls yX0_begin yX0_begin ∈ lw_tbl := List.mem_of_getElem? (i := 439) (by decide +kernel)
theorem sl_X0_canEverMove : Cond.selects yX0_canEverMove.cls yX0_canEverMove yX0_canEverMove ∈ lw_tbl := List.mem_of_getElem? (i := 517) (by decide +kernel)
theorem sl_X0_formNow : Cond.selects yX0_formNow.cls yX0_formNow yX0_formNow ∈ lw_tbl := List.mem_of_getElem? (i := 506) (by decide +kernel)
theorem sl_X0_isCut : Cond.selects yX0_isCut.cls yX0_isCut yX0_isCut ∈ lw_tbl := List.mem_of_getElem? (i := 481) (by decide +kernel)
theorem sl_X0_isCutOff : Cond.selects yX0_isCutOff.cls yX0_isCutOff yX0_isCutOff ∈ lw_tbl := List.mem_of_getElem? (i := 477) (by decide +kernel)
theorem sl_X0_isTip : Cond.selects yX0_isTip.cls yX0_isTip yX0_isTip ∈ lw_tbl := List.mem_of_getElem? (i := 485) (by decide +kernel)
theorem sl_X10_arm : Cond.selects yX10_arm.cls yX10_arm yX10_arm ∈ lw_tbl := List.mem_of_getElem? (i := 415) (by decide +kernel)
theorem sl_X10_copy : Cond.selects yX10_copy.cls yX10_copy yX10_copy ∈ lw_tbl := List.mem_of_getElem? (i := 887) (by decide +kernel)
theorem sl_X10_count : Cond.selects yX10_count.cls yX10_count yX10_count ∈ lw_tbl := List.mem_of_getElem? (i := 748) (by decide +kernel)
theorem sl_X10_cut : Cond.selects yX10_cut.cls yX10_cut yX10_cut ∈ lw_tbl := List.mem_of_getElem? (i := 744) (by decide +kernel)
theorem sl_X10_differs : Cond.selects yX10_differs.cls yX10_differs yX10_differs ∈ lw_tbl := List.mem_of_getElem? (i := 855) (by decide +kernel)
theorem sl_X10_drop : Cond.selects yX10_drop.cls yX10_drop yX10_drop ∈ lw_tbl := List.mem_of_getElem? (i := 871) (by decide +kernel)
theorem sl_X10_far : Cond.selects yX10_far.cls yX10_far yX10_far ∈ lw_tbl := List.mem_of_getElem? (i := 804) (by decide +kernel)
theorem sl_X10_fewest : Cond.selects yX10_fewest.cls yX10_fewest yX10_fewest ∈ lw_tbl := List.mem_of_getElem? (i := 808) (by decide +kernel)
theorem sl_X10_film : Cond.selects yX10_film.cls yX10_film yX10_film ∈ lw_tbl := List.mem_of_getElem? (i := 847) (by decide +kernel)
theorem sl_X10_finds : Cond.selects yX10_finds.cls yX10_finds yX10_finds ∈ lw_tbl := List.mem_of_getElem? (i := 739) (by decide +kernel)
theorem sl_X10_flip : Cond.selects yX10_flip.cls yX10_flip yX10_flip ∈ lw_tbl := List.mem_of_getElem? (i := 513) (by decide +kernel)
theorem sl_X10_form : Cond.selects yX10_form.cls yX10_form yX10_form ∈ lw_tbl := List.mem_of_getElem? (i := 501) (by decide +kernel)
theorem sl_X10_forms : Cond.selects yX10_forms.cls yX10_forms yX10_forms ∈ lw_tbl := List.mem_of_getElem? (i := 752) (by decide +kernel)
theorem sl_X10_head : Cond.selects yX10_head.cls yX10_head yX10_head ∈ lw_tbl := List.mem_of_getElem? (i := 669) (by decide +kernel)
theorem sl_X10_image : Cond.selects yX10_image.cls yX10_image yX10_image ∈ lw_tbl := List.mem_of_getElem? (i := 834) (by decide +kernel)
theorem sl_X10_isArm : Cond.selects yX10_isArm.cls yX10_isArm yX10_isArm ∈ lw_tbl := List.mem_of_getElem? (i := 3) (by decide +kernel)
theorem sl_X10_isImage : Cond.selects yX10_isImage.cls yX10_isImage yX10_isImage ∈ lw_tbl := List.mem_of_getElem? (i := 33) (by decide +kernel)
theorem sl_X10_isPiece : Cond.selects yX10_isPiece.cls yX10_isPiece yX10_isPiece ∈ lw_tbl := List.mem_of_getElem? (i := 2) (by decide +kernel)
theorem sl_X10_isSheet : Cond.selects yX10_isSheet.cls yX10_isSheet yX10_isSheet ∈ lw_tbl := List.mem_of_getElem? (i := 0) (by decide +kernel)
theorem sl_X10_isThing : Cond.selects yX10_isThing.cls yX10_isThing yX10_isThing ∈ lw_tbl := List.mem_of_getElem? (i := 4) (by decide +kernel)
theorem sl_X10_item : Cond.selects yX10_item.cls yX10_item yX10_item ∈ lw_tbl := List.mem_of_getElem? (i := 880) (by decide +kernel)
theorem sl_X10_piece : Cond.selects yX10_piece.cls yX10_piece yX10_piece ∈ lw_tbl := List.mem_of_getElem? (i := 465) (by decide +kernel)
theorem sl_X10_reach : Cond.selects yX10_reach.cls yX10_reach yX10_reach ∈ lw_tbl := List.mem_of_getElem? (i := 800) (by decide +kernel)
theorem sl_X10_refusesFilm : Cond.selects yX10_refusesFilm.cls yX10_refusesFilm yX10_refusesFilm ∈ lw_tbl := List.mem_of_getElem? (i := 34) (by decide +kernel)
theorem sl_X10_refusesReach : Cond.selects yX10_refusesReach.cls yX10_refusesReach yX10_refusesReach ∈ lw_tbl := List.mem_of_getElem? (i := 25) (by decide +kernel)
theorem sl_X10_restore : Cond.selects yX10_restore.cls yX10_restore yX10_restore ∈ lw_tbl := List.mem_of_getElem? (i := 843) (by decide +kernel)
theorem sl_X10_rules : Cond.selects yX10_rules.cls yX10_rules yX10_rules ∈ lw_tbl := List.mem_of_getElem? (i := 546) (by decide +kernel)
theorem sl_X10_sheet : Cond.selects yX10_sheet.cls yX10_sheet yX10_sheet ∈ lw_tbl := List.mem_of_getElem? (i := 859) (by decide +kernel)
theorem sl_X10_skin : Cond.selects yX10_skin.cls yX10_skin yX10_skin ∈ lw_tbl := List.mem_of_getElem? (i := 673) (by decide +kernel)
theorem sl_X10_thing : Cond.selects yX10_thing.cls yX10_thing yX10_thing ∈ lw_tbl := List.mem_of_getElem? (i := 449) (by decide +kernel)
theorem sl_X10_ticks : Cond.selects yX10_ticks.cls yX10_ticks yX10_ticks ∈ lw_tbl := List.mem_of_getElem? (i := 677) (by decide +kernel)
theorem sl_X10_told : Cond.selects yX10_told.cls yX10_told yX10_told ∈ lw_tbl := List.mem_of_getElem? (i := 489) (by decide +kernel)
theorem sl_X10_type : Cond.selects yX10_type.cls yX10_type yX10_type ∈ lw_tbl := List.mem_of_getElem? (i := 539) (by decide +kernel)
theorem sl_X10_wall : Cond.selects yX10_wall.cls yX10_wall yX10_wall ∈ lw_tbl := List.mem_of_getElem? (i := 366) (by decide +kernel)
theorem sl_X10_walls : Cond.selects yX10_walls.cls yX10_walls yX10_walls ∈ lw_tbl := List.mem_of_getElem? (i := 385) (by decide +kernel)
theorem sl_X11_act : Cond.selects yX11_act.cls yX11_act yX11_act ∈ lw_tbl := List.mem_of_getElem? (i := 54) (by decide +kernel)
theorem sl_X11_arm : Cond.selects yX11_arm.cls yX11_arm yX11_arm ∈ lw_tbl := List.mem_of_getElem? (i := 1006) (by decide +kernel)
theorem sl_X11_bars : Cond.selects yX11_bars.cls yX11_bars yX11_bars ∈ lw_tbl := List.mem_of_getElem? (i := 63) (by decide +kernel)
theorem sl_X11_cell : Cond.selects yX11_cell.cls yX11_cell yX11_cell ∈ lw_tbl := List.mem_of_getElem? (i := 37) (by decide +kernel)
theorem sl_X11_claims : Cond.selects yX11_claims.cls yX11_claims yX11_claims ∈ lw_tbl := List.mem_of_getElem? (i := 52) (by decide +kernel)
theorem sl_X11_come : Cond.selects yX11_come.cls yX11_come yX11_come ∈ lw_tbl := List.mem_of_getElem? (i := 60) (by decide +kernel)
theorem sl_X11_copy : Cond.selects yX11_copy.cls yX11_copy yX11_copy ∈ lw_tbl := List.mem_of_getElem? (i := 1216) (by decide +kernel)
theorem sl_X11_count : Cond.selects yX11_count.cls yX11_count yX11_count ∈ lw_tbl := List.mem_of_getElem? (i := 1148) (by decide +kernel)
theorem sl_X11_cut : Cond.selects yX11_cut.cls yX11_cut yX11_cut ∈ lw_tbl := List.mem_of_getElem? (i := 1144) (by decide +kernel)
theorem sl_X11_cutOf : Cond.selects yX11_cutOf.cls yX11_cutOf yX11_cutOf ∈ lw_tbl := List.mem_of_getElem? (i := 42) (by decide +kernel)
theorem sl_X11_differs : Cond.selects yX11_differs.cls yX11_differs yX11_differs ∈ lw_tbl := List.mem_of_getElem? (i := 1200) (by decide +kernel)
theorem sl_X11_drop : Cond.selects yX11_drop.cls yX11_drop yX11_drop ∈ lw_tbl := List.mem_of_getElem? (i := 1208) (by decide +kernel)
theorem sl_X11_eats : Cond.selects yX11_eats.cls yX11_eats yX11_eats ∈ lw_tbl := List.mem_of_getElem? (i := 62) (by decide +kernel)
theorem sl_X11_far : Cond.selects yX11_far.cls yX11_far yX11_far ∈ lw_tbl := List.mem_of_getElem? (i := 1172) (by decide +kernel)
theorem sl_X11_faultOf : Cond.selects yX11_faultOf.cls yX11_faultOf yX11_faultOf ∈ lw_tbl := List.mem_of_getElem? (i := 48) (by decide +kernel)
theorem sl_X11_fewest : Cond.selects yX11_fewest.cls yX11_fewest yX11_fewest ∈ lw_tbl := List.mem_of_getElem? (i := 1176) (by decide +kernel)
theorem sl_X11_film : Cond.selects yX11_film.cls yX11_film yX11_film ∈ lw_tbl := List.mem_of_getElem? (i := 1192) (by decide +kernel)
theorem sl_X11_finds : Cond.selects yX11_finds.cls yX11_finds yX11_finds ∈ lw_tbl := List.mem_of_getElem? (i := 1140) (by decide +kernel)
theorem sl_X11_findsOf : Cond.selects yX11_findsOf.cls yX11_findsOf yX11_findsOf ∈ lw_tbl := List.mem_of_getElem? (i := 50) (by decide +kernel)
theorem sl_X11_flip : Cond.selects yX11_flip.cls yX11_flip yX11_flip ∈ lw_tbl := List.mem_of_getElem? (i := 1063) (by decide +kernel)
theorem sl_X11_flipped : Cond.selects yX11_flipped.cls yX11_flipped yX11_flipped ∈ lw_tbl := List.mem_of_getElem? (i := 47) (by decide +kernel)
theorem sl_X11_form : Cond.selects yX11_form.cls yX11_form yX11_form ∈ lw_tbl := List.mem_of_getElem? (i := 1052) (by decide +kernel)
theorem sl_X11_formOf : Cond.selects yX11_formOf.cls yX11_formOf yX11_formOf ∈ lw_tbl := List.mem_of_getElem? (i := 45) (by decide +kernel)
theorem sl_X11_forms : Cond.selects yX11_forms.cls yX11_forms yX11_forms ∈ lw_tbl := List.mem_of_getElem? (i := 1152) (by decide +kernel)
theorem sl_X11_goesTo : Cond.selects yX11_goesTo.cls yX11_goesTo yX11_goesTo ∈ lw_tbl := List.mem_of_getElem? (i := 46) (by decide +kernel)
theorem sl_X11_grab : Cond.selects yX11_grab.cls yX11_grab yX11_grab ∈ lw_tbl := List.mem_of_getElem? (i := 55) (by decide +kernel)
theorem sl_X11_hasPiece : Cond.selects yX11_hasPiece.cls yX11_hasPiece yX11_hasPiece ∈ lw_tbl := List.mem_of_getElem? (i := 35) (by decide +kernel)
theorem sl_X11_head : Cond.selects yX11_head.cls yX11_head yX11_head ∈ lw_tbl := List.mem_of_getElem? (i := 1088) (by decide +kernel)
theorem sl_X11_holdsTest : Cond.selects yX11_holdsTest.cls yX11_holdsTest yX11_holdsTest ∈ lw_tbl := List.mem_of_getElem? (i := 51) (by decide +kernel)
theorem sl_X11_image : Cond.selects yX11_image.cls yX11_image yX11_image ∈ lw_tbl := List.mem_of_getElem? (i := 1184) (by decide +kernel)
theorem sl_X11_isArm : Cond.selects yX11_isArm.cls yX11_isArm yX11_isArm ∈ lw_tbl := List.mem_of_getElem? (i := 41) (by decide +kernel)
theorem sl_X11_isFree : Cond.selects yX11_isFree.cls yX11_isFree yX11_isFree ∈ lw_tbl := List.mem_of_getElem? (i := 39) (by decide +kernel)
theorem sl_X11_isNear : Cond.selects yX11_isNear.cls yX11_isNear yX11_isNear ∈ lw_tbl := List.mem_of_getElem? (i := 53) (by decide +kernel)
theorem sl_X11_isPiece : Cond.selects yX11_isPiece.cls yX11_isPiece yX11_isPiece ∈ lw_tbl := List.mem_of_getElem? (i := 40) (by decide +kernel)
theorem sl_X11_isThing : Cond.selects yX11_isThing.cls yX11_isThing yX11_isThing ∈ lw_tbl := List.mem_of_getElem? (i := 44) (by decide +kernel)
theorem sl_X11_isTip : Cond.selects yX11_isTip.cls yX11_isTip yX11_isTip ∈ lw_tbl := List.mem_of_getElem? (i := 43) (by decide +kernel)
theorem sl_X11_item : Cond.selects yX11_item.cls yX11_item yX11_item ∈ lw_tbl := List.mem_of_getElem? (i := 1212) (by decide +kernel)
theorem sl_X11_lay : Cond.selects yX11_lay.cls yX11_lay yX11_lay ∈ lw_tbl := List.mem_of_getElem? (i := 61) (by decide +kernel)
theorem sl_X11_layReach : Cond.selects yX11_layReach.cls yX11_layReach yX11_layReach ∈ lw_tbl := List.mem_of_getElem? (i := 59) (by decide +kernel)
theorem sl_X11_letGo : Cond.selects yX11_letGo.cls yX11_letGo yX11_letGo ∈ lw_tbl := List.mem_of_getElem? (i := 57) (by decide +kernel)
theorem sl_X11_lyingAt : Cond.selects yX11_lyingAt.cls yX11_lyingAt yX11_lyingAt ∈ lw_tbl := List.mem_of_getElem? (i := 38) (by decide +kernel)
theorem sl_X11_pass : Cond.selects yX11_pass.cls yX11_pass yX11_pass ∈ lw_tbl := List.mem_of_getElem? (i := 56) (by decide +kernel)
theorem sl_X11_piece : Cond.selects yX11_piece.cls yX11_piece yX11_piece ∈ lw_tbl := List.mem_of_getElem? (i := 1024) (by decide +kernel)
theorem sl_X11_pieces : Cond.selects yX11_pieces.cls yX11_pieces yX11_pieces ∈ lw_tbl := List.mem_of_getElem? (i := 36) (by decide +kernel)
theorem sl_X11_reach : Cond.selects yX11_reach.cls yX11_reach yX11_reach ∈ lw_tbl := List.mem_of_getElem? (i := 1168) (by decide +kernel)
theorem sl_X11_restore : Cond.selects yX11_restore.cls yX11_restore yX11_restore ∈ lw_tbl := List.mem_of_getElem? (i := 1188) (by decide +kernel)
theorem sl_X11_rules : Cond.selects yX11_rules.cls yX11_rules yX11_rules ∈ lw_tbl := List.mem_of_getElem? (i := 1080) (by decide +kernel)
theorem sl_X11_sheet : Cond.selects yX11_sheet.cls yX11_sheet yX11_sheet ∈ lw_tbl := List.mem_of_getElem? (i := 1204) (by decide +kernel)
theorem sl_X11_skin : Cond.selects yX11_skin.cls yX11_skin yX11_skin ∈ lw_tbl := List.mem_of_getElem? (i := 1092) (by decide +kernel)
theorem sl_X11_thing : Cond.selects yX11_thing.cls yX11_thing yX11_thing ∈ lw_tbl := List.mem_of_getElem? (i := 1020) (by decide +kernel)
theorem sl_X11_things : Cond.selects yX11_things.cls yX11_things yX11_things ∈ lw_tbl := List.mem_of_getElem? (i := 58) (by decide +kernel)
theorem sl_X11_tick : Cond.selects yX11_tick.cls yX11_tick yX11_tick ∈ lw_tbl := List.mem_of_getElem? (i := 49) (by decide +kernel)
theorem sl_X11_ticks : Cond.selects yX11_ticks.cls yX11_ticks yX11_ticks ∈ lw_tbl := List.mem_of_getElem? (i := 1096) (by decide +kernel)
theorem sl_X11_told : Cond.selects yX11_told.cls yX11_told yX11_told ∈ lw_tbl := List.mem_of_getElem? (i := 1044) (by decide +kernel)
theorem sl_X11_type : Cond.selects yX11_type.cls yX11_type yX11_type ∈ lw_tbl := List.mem_of_getElem? (i := 1075) (by decide +kernel)
theorem sl_X11_wall : Cond.selects yX11_wall.cls yX11_wall yX11_wall ∈ lw_tbl := List.mem_of_getElem? (i := 967) (by decide +kernel)
theorem sl_X11_walls : Cond.selects yX11_walls.cls yX11_walls yX11_walls ∈ lw_tbl := List.mem_of_getElem? (i := 999) (by decide +kernel)
theorem sl_X3_goOnFrom : Cond.selects yX3_goOnFrom.cls yX3_goOnFrom yX3_goOnFrom ∈ lw_tbl := List.mem_of_getElem? (i := 29) (by decide +kernel)
theorem sl_X3_layOut : Cond.selects yX3_layOut.cls yX3_layOut yX3_layOut ∈ lw_tbl := List.mem_of_getElem? (i := 26) (by decide +kernel)
theorem sl_X3_search : Cond.selects yX3_search.cls yX3_search yX3_search ∈ lw_tbl := List.mem_of_getElem? (i := 760) (by decide +kernel)
theorem sl_X3_searchAnew : Cond.selects yX3_searchAnew.cls yX3_searchAnew yX3_searchAnew ∈ lw_tbl := List.mem_of_getElem? (i := 27) (by decide +kernel)
theorem sl_X3_see : Cond.selects yX3_see.cls yX3_see yX3_see ∈ lw_tbl := List.mem_of_getElem? (i := 28) (by decide +kernel)
theorem sl_X3_seeFlip : Cond.selects yX3_seeFlip.cls yX3_seeFlip yX3_seeFlip ∈ lw_tbl := List.mem_of_getElem? (i := 30) (by decide +kernel)
theorem sl_X3_seeTurns : Cond.selects yX3_seeTurns.cls yX3_seeTurns yX3_seeTurns ∈ lw_tbl := List.mem_of_getElem? (i := 31) (by decide +kernel)
theorem sl_X4_fail : Cond.selects yX4_fail.cls yX4_fail yX4_fail ∈ lw_tbl := List.mem_of_getElem? (i := 13) (by decide +kernel)
theorem sl_X4_goTo : Cond.selects yX4_goTo.cls yX4_goTo yX4_goTo ∈ lw_tbl := List.mem_of_getElem? (i := 7) (by decide +kernel)
theorem sl_X4_need : Cond.selects yX4_need.cls yX4_need yX4_need ∈ lw_tbl := List.mem_of_getElem? (i := 12) (by decide +kernel)
theorem sl_X4_read : Cond.selects yX4_read.cls yX4_read yX4_read ∈ lw_tbl := List.mem_of_getElem? (i := 550) (by decide +kernel)
theorem sl_X4_readAct : Cond.selects yX4_readAct.cls yX4_readAct yX4_readAct ∈ lw_tbl := List.mem_of_getElem? (i := 16) (by decide +kernel)
theorem sl_X4_readClaim : Cond.selects yX4_readClaim.cls yX4_readClaim yX4_readClaim ∈ lw_tbl := List.mem_of_getElem? (i := 10) (by decide +kernel)
theorem sl_X4_readClause : Cond.selects yX4_readClause.cls yX4_readClause yX4_readClause ∈ lw_tbl := List.mem_of_getElem? (i := 8) (by decide +kernel)
theorem sl_X4_readDigit : Cond.selects yX4_readDigit.cls yX4_readDigit yX4_readDigit ∈ lw_tbl := List.mem_of_getElem? (i := 15) (by decide +kernel)
theorem sl_X4_readSense : Cond.selects yX4_readSense.cls yX4_readSense yX4_readSense ∈ lw_tbl := List.mem_of_getElem? (i := 14) (by decide +kernel)
theorem sl_X4_readTest : Cond.selects yX4_readTest.cls yX4_readTest yX4_readTest ∈ lw_tbl := List.mem_of_getElem? (i := 9) (by decide +kernel)
theorem sl_X4_takes : Cond.selects yX4_takes.cls yX4_takes yX4_takes ∈ lw_tbl := List.mem_of_getElem? (i := 11) (by decide +kernel)
theorem sl_X5_firstFor : Cond.selects yX5_firstFor.cls yX5_firstFor yX5_firstFor ∈ lw_tbl := List.mem_of_getElem? (i := 698) (by decide +kernel)
theorem sl_X6_addArm : Cond.selects yX6_addArm.cls yX6_addArm yX6_addArm ∈ lw_tbl := List.mem_of_getElem? (i := 435) (by decide +kernel)
theorem sl_X6_addThing : Cond.selects yX6_addThing.cls yX6_addThing yX6_addThing ∈ lw_tbl := List.mem_of_getElem? (i := 457) (by decide +kernel)
theorem sl_X6_become : Cond.selects yX6_become.cls yX6_become yX6_become ∈ lw_tbl := List.mem_of_getElem? (i := 816) (by decide +kernel)
theorem sl_X6_canLie : Cond.selects yX6_canLie.cls yX6_canLie yX6_canLie ∈ lw_tbl := List.mem_of_getElem? (i := 422) (by decide +kernel)
theorem sl_X6_cellOfThing : Cond.selects yX6_cellOfThing.cls yX6_cellOfThing yX6_cellOfThing ∈ lw_tbl := List.mem_of_getElem? (i := 497) (by decide +kernel)
theorem sl_X6_clauseFor : Cond.selects yX6_clauseFor.cls yX6_clauseFor yX6_clauseFor ∈ lw_tbl := List.mem_of_getElem? (i := 685) (by decide +kernel)
theorem sl_X6_countThings : Cond.selects yX6_countThings.cls yX6_countThings yX6_countThings ∈ lw_tbl := List.mem_of_getElem? (i := 735) (by decide +kernel)
theorem sl_X6_doActs : Cond.selects yX6_doActs.cls yX6_doActs yX6_doActs ∈ lw_tbl := List.mem_of_getElem? (i := 18) (by decide +kernel)
theorem sl_X6_flipped : Cond.selects yX6_flipped.cls yX6_flipped yX6_flipped ∈ lw_tbl := List.mem_of_getElem? (i := 6) (by decide +kernel)
theorem sl_X6_give : Cond.selects yX6_give.cls yX6_give yX6_give ∈ lw_tbl := List.mem_of_getElem? (i := 22) (by decide +kernel)
theorem sl_X6_grab : Cond.selects yX6_grab.cls yX6_grab yX6_grab ∈ lw_tbl := List.mem_of_getElem? (i := 19) (by decide +kernel)
theorem sl_X6_inUse : Cond.selects yX6_inUse.cls yX6_inUse yX6_inUse ∈ lw_tbl := List.mem_of_getElem? (i := 376) (by decide +kernel)
theorem sl_X6_isFree : Cond.selects yX6_isFree.cls yX6_isFree yX6_isFree ∈ lw_tbl := List.mem_of_getElem? (i := 431) (by decide +kernel)
theorem sl_X6_lay : Cond.selects yX6_lay.cls yX6_lay yX6_lay ∈ lw_tbl := List.mem_of_getElem? (i := 1) (by decide +kernel)
theorem sl_X6_letGo : Cond.selects yX6_letGo.cls yX6_letGo yX6_letGo ∈ lw_tbl := List.mem_of_getElem? (i := 24) (by decide +kernel)
theorem sl_X6_lift : Cond.selects yX6_lift.cls yX6_lift yX6_lift ∈ lw_tbl := List.mem_of_getElem? (i := 21) (by decide +kernel)
theorem sl_X6_lyingAt : Cond.selects yX6_lyingAt.cls yX6_lyingAt yX6_lyingAt ∈ lw_tbl := List.mem_of_getElem? (i := 20) (by decide +kernel)
theorem sl_X6_lyingCells : Cond.selects yX6_lyingCells.cls yX6_lyingCells yX6_lyingCells ∈ lw_tbl := List.mem_of_getElem? (i := 380) (by decide +kernel)
theorem sl_X6_move : Cond.selects yX6_move.cls yX6_move yX6_move ∈ lw_tbl := List.mem_of_getElem? (i := 521) (by decide +kernel)
theorem sl_X6_passOn : Cond.selects yX6_passOn.cls yX6_passOn yX6_passOn ∈ lw_tbl := List.mem_of_getElem? (i := 23) (by decide +kernel)
theorem sl_X6_senses : Cond.selects yX6_senses.cls yX6_senses yX6_senses ∈ lw_tbl := List.mem_of_getElem? (i := 17) (by decide +kernel)
theorem sl_X6_tick : Cond.selects yX6_tick.cls yX6_tick yX6_tick ∈ lw_tbl := List.mem_of_getElem? (i := 681) (by decide +kernel)
theorem sl_X6_turned : Cond.selects yX6_turned.cls yX6_turned yX6_turned ∈ lw_tbl := List.mem_of_getElem? (i := 5) (by decide +kernel)
theorem sl_X7_asCells : Cond.selects yX7_asCells.cls yX7_asCells yX7_asCells ∈ lw_tbl := List.mem_of_getElem? (i := 405) (by decide +kernel)
theorem sl_X7_begin : Cond.selects yX7_begin.cls yX7_begin yX7_begin ∈ lw_tbl := List.mem_of_getElem? (i := 866) (by decide +kernel)
theorem sl_X7_forget : Cond.selects yX7_forget.cls yX7_forget yX7_forget ∈ lw_tbl := List.mem_of_getElem? (i := 876) (by decide +kernel)
theorem sl_X7_holdsNothing : Cond.selects yX7_holdsNothing.cls yX7_holdsNothing yX7_holdsNothing ∈ lw_tbl := List.mem_of_getElem? (i := 397) (by decide +kernel)
theorem sl_X7_refuses : Cond.selects yX7_refuses.cls yX7_refuses yX7_refuses ∈ lw_tbl := List.mem_of_getElem? (i := 393) (by decide +kernel)
theorem sl_X7_spans : Cond.selects yX7_spans.cls yX7_spans yX7_spans ∈ lw_tbl := List.mem_of_getElem? (i := 401) (by decide +kernel)
theorem sl_X8_become : Cond.selects yX8_become.cls yX8_become yX8_become ∈ lw_tbl := List.mem_of_getElem? (i := 825) (by decide +kernel)
theorem sl_X9_isEatenBy : Cond.selects yX9_isEatenBy.cls yX9_isEatenBy yX9_isEatenBy ∈ lw_tbl := List.mem_of_getElem? (i := 32) (by decide +kernel)
theorem sl_X9_search : Cond.selects yX9_search.cls yX9_search yX9_search ∈ lw_tbl := List.mem_of_getElem? (i := 812) (by decide +kernel)
theorem kl_J13_314 : Cond.constantLong RJ13 314 (6148914691236517205 : Int64) ∈ lw_tbl := List.mem_of_getElem? (i := 410) (by decide +kernel)
theorem kl_J13_316 : Cond.constantLong RJ13 316 (3689348814741910323 : Int64) ∈ lw_tbl := List.mem_of_getElem? (i := 411) (by decide +kernel)
theorem kl_J13_318 : Cond.constantLong RJ13 318 (1085102592571150095 : Int64) ∈ lw_tbl := List.mem_of_getElem? (i := 412) (by decide +kernel)
theorem kl_L_50 : Cond.constantLong RL 50 (4294967295 : Int64) ∈ lw_tbl := List.mem_of_getElem? (i := 1218) (by decide +kernel)
theorem kl_X10_307 : Cond.constantLong RX10 307 (9187201950435737471 : Int64) ∈ lw_tbl := List.mem_of_getElem? (i := 694) (by decide +kernel)
theorem kl_X10_309 : Cond.constantLong RX10 309 (-72340172838076674 : Int64) ∈ lw_tbl := List.mem_of_getElem? (i := 695) (by decide +kernel)
theorem kl_X10_72 : Cond.constantLong RX10 72 (-1 : Int64) ∈ lw_tbl := List.mem_of_getElem? (i := 382) (by decide +kernel)
theorem kl_X11_133 : Cond.constantLong RX11 133 (255 : Int64) ∈ lw_tbl := List.mem_of_getElem? (i := 1077) (by decide +kernel)
theorem kl_X3_60 : Cond.constantLong RX3 60 (-1 : Int64) ∈ lw_tbl := List.mem_of_getElem? (i := 768) (by decide +kernel)
theorem kl_X6_100 : Cond.constantLong RX6 100 (-1 : Int64) ∈ lw_tbl := List.mem_of_getElem? (i := 536) (by decide +kernel)
theorem cl_L_10 : Cond.classLink RL 10 RX11 ∈ lw_tbl := List.mem_of_getElem? (i := 891) (by decide +kernel)
theorem cl_L_7 : Cond.classLink RL 7 RX10 ∈ lw_tbl := List.mem_of_getElem? (i := 80) (by decide +kernel)
theorem cl_X10_20 : Cond.classLink RX10 20 RX7 ∈ lw_tbl := List.mem_of_getElem? (i := 224) (by decide +kernel)
theorem cl_X10_30 : Cond.classLink RX10 30 RX4 ∈ lw_tbl := List.mem_of_getElem? (i := 226) (by decide +kernel)
theorem cl_X10_37 : Cond.classLink RX10 37 RX3 ∈ lw_tbl := List.mem_of_getElem? (i := 250) (by decide +kernel)
theorem cl_X10_44 : Cond.classLink RX10 44 RX9 ∈ lw_tbl := List.mem_of_getElem? (i := 293) (by decide +kernel)
theorem cl_X10_7 : Cond.classLink RX10 7 RX6 ∈ lw_tbl := List.mem_of_getElem? (i := 88) (by decide +kernel)
theorem cl_X4_26 : Cond.classLink RX4 26 RX5 ∈ lw_tbl := List.mem_of_getElem? (i := 556) (by decide +kernel)
theorem cl_X4_50 : Cond.classLink RX4 50 RX2 ∈ lw_tbl := List.mem_of_getElem? (i := 579) (by decide +kernel)
theorem cl_X4_92 : Cond.classLink RX4 92 RX1 ∈ lw_tbl := List.mem_of_getElem? (i := 612) (by decide +kernel)
theorem cl_X5_9 : Cond.classLink RX5 9 RX2 ∈ lw_tbl := List.mem_of_getElem? (i := 562) (by decide +kernel)
theorem cl_X6_15 : Cond.classLink RX6 15 RX0 ∈ lw_tbl := List.mem_of_getElem? (i := 94) (by decide +kernel)
theorem cl_X6_21 : Cond.classLink RX6 21 RX8 ∈ lw_tbl := List.mem_of_getElem? (i := 96) (by decide +kernel)
theorem cl_X9_15 : Cond.classLink RX9 15 RX6 ∈ lw_tbl := List.mem_of_getElem? (i := 299) (by decide +kernel)
theorem ac_X0_41 : z_AC RX0 41 := ⟨List.mem_of_getElem? (i := 441) (by decide +kernel), List.mem_of_getElem? (i := 443) (by decide +kernel), List.mem_of_getElem? (i := 442) (by decide +kernel), List.mem_of_getElem? (i := 75) (by decide +kernel)⟩
theorem ac_X10_295 : z_AC RX10 295 := ⟨List.mem_of_getElem? (i := 890) (by decide +kernel), List.mem_of_getElem? (i := 443) (by decide +kernel), List.mem_of_getElem? (i := 442) (by decide +kernel), List.mem_of_getElem? (i := 75) (by decide +kernel)⟩
theorem ac_X6_40 : z_AC RX6 40 := ⟨List.mem_of_getElem? (i := 818) (by decide +kernel), List.mem_of_getElem? (i := 443) (by decide +kernel), List.mem_of_getElem? (i := 442) (by decide +kernel), List.mem_of_getElem? (i := 75) (by decide +kernel)⟩
theorem oi_X0_3 : Cond.methodLink RX0 3 objectInit ∈ lw_tbl := List.mem_of_getElem? (i := 102) (by decide +kernel)
theorem oi_X10_1 : Cond.methodLink RX10 1 objectInit ∈ lw_tbl := List.mem_of_getElem? (i := 85) (by decide +kernel)
theorem oi_X11_1 : Cond.methodLink RX11 1 objectInit ∈ lw_tbl := List.mem_of_getElem? (i := 896) (by decide +kernel)
theorem oi_X1_3 : Cond.methodLink RX1 3 objectInit ∈ lw_tbl := List.mem_of_getElem? (i := 617) (by decide +kernel)
theorem oi_X2_3 : Cond.methodLink RX2 3 objectInit ∈ lw_tbl := List.mem_of_getElem? (i := 584) (by decide +kernel)
theorem oi_X3_3 : Cond.methodLink RX3 3 objectInit ∈ lw_tbl := List.mem_of_getElem? (i := 255) (by decide +kernel)
theorem oi_X4_3 : Cond.methodLink RX4 3 objectInit ∈ lw_tbl := List.mem_of_getElem? (i := 231) (by decide +kernel)
theorem oi_X5_3 : Cond.methodLink RX5 3 objectInit ∈ lw_tbl := List.mem_of_getElem? (i := 561) (by decide +kernel)
theorem oi_X6_3 : Cond.methodLink RX6 3 objectInit ∈ lw_tbl := List.mem_of_getElem? (i := 93) (by decide +kernel)
theorem oi_X7_3 : Cond.methodLink RX7 3 objectInit ∈ lw_tbl := List.mem_of_getElem? (i := 322) (by decide +kernel)
theorem oi_X8_1 : Cond.methodLink RX8 1 objectInit ∈ lw_tbl := List.mem_of_getElem? (i := 157) (by decide +kernel)
theorem oi_X9_3 : Cond.methodLink RX9 3 objectInit ∈ lw_tbl := List.mem_of_getElem? (i := 298) (by decide +kernel)
theorem oi_im : Cond.instanceMethod objectInit ∈ lw_tbl := List.mem_of_getElem? (i := 86) (by decide +kernel)
theorem oi_co : Cond.code objectInit ⟨#[0xb1]⟩ 1 none ∈ lw_tbl := List.mem_of_getElem? (i := 87) (by decide +kernel)
theorem sp_X10_304 : Cond.fieldLink RX10 304 "ThinkingArms" "STEP" "[I" ∈ lw_tbl ∨ ∃ host, Cond.fieldLinkNest RX10 304 "ThinkingArms" "STEP" "[I" host ∈ lw_tbl := Or.inl (List.mem_of_getElem? (i := 427) (by decide +kernel))
theorem sp_X3_94 : Cond.fieldLink RX3 94 "ThinkingArms" "STEP" "[I" ∈ lw_tbl ∨ ∃ host, Cond.fieldLinkNest RX3 94 "ThinkingArms" "STEP" "[I" host ∈ lw_tbl := Or.inr ⟨"ThinkingArms", List.mem_of_getElem? (i := 767) (by decide +kernel)⟩
theorem nb_0 : Cond.instantiable RX0 9 ∈ lw_tbl := List.mem_of_getElem? (i := 98) (by decide +kernel)
theorem nt_0 : Cond.initialized RX0 ∈ lw_tbl := List.mem_of_getElem? (i := 67) (by decide +kernel)
theorem df_0 : ∀ j, j < 9 → defaultValue (z_ft 0 j) = vp_V (([tI 0, tI 0, tI 0, tA none, tA none, tA none, tA none, tA none, tA none] : List zTV).map z_tv) j := fun j hj => match j, hj with
  | 0, _ => rfl
  | 1, _ => rfl
  | 2, _ => rfl
  | 3, _ => rfl
  | 4, _ => rfl
  | 5, _ => rfl
  | 6, _ => rfl
  | 7, _ => rfl
  | 8, _ => rfl
  | n + 9, hj => absurd hj (by omega)
theorem nb_1 : Cond.instantiable RX1 5 ∈ lw_tbl := List.mem_of_getElem? (i := 613) (by decide +kernel)
theorem nt_1 : Cond.initialized RX1 ∈ lw_tbl := List.mem_of_getElem? (i := 79) (by decide +kernel)
theorem df_1 : ∀ j, j < 5 → defaultValue (z_ft 1 j) = vp_V (([tI 0, tI 0, tI 0, tA none, tA none] : List zTV).map z_tv) j := fun j hj => match j, hj with
  | 0, _ => rfl
  | 1, _ => rfl
  | 2, _ => rfl
  | 3, _ => rfl
  | 4, _ => rfl
  | n + 5, hj => absurd hj (by omega)
theorem nb_2 : Cond.instantiable RX2 4 ∈ lw_tbl := List.mem_of_getElem? (i := 580) (by decide +kernel)
theorem nt_2 : Cond.initialized RX2 ∈ lw_tbl := List.mem_of_getElem? (i := 78) (by decide +kernel)
theorem df_2 : ∀ j, j < 4 → defaultValue (z_ft 2 j) = vp_V (([tA none, tA none, tA none, tI 0] : List zTV).map z_tv) j := fun j hj => match j, hj with
  | 0, _ => rfl
  | 1, _ => rfl
  | 2, _ => rfl
  | 3, _ => rfl
  | n + 4, hj => absurd hj (by omega)
theorem nb_3 : Cond.instantiable RX3 11 ∈ lw_tbl := List.mem_of_getElem? (i := 251) (by decide +kernel)
theorem nt_3 : Cond.initialized RX3 ∈ lw_tbl := List.mem_of_getElem? (i := 70) (by decide +kernel)
theorem df_3 : ∀ j, j < 11 → defaultValue (z_ft 3 j) = vp_V (([tA none, tA none, tA none, tA none, tI 0, tI 0, tI 0, tI 0, tI 0, tJ 0, tJ 0] : List zTV).map z_tv) j := fun j hj => match j, hj with
  | 0, _ => rfl
  | 1, _ => rfl
  | 2, _ => rfl
  | 3, _ => rfl
  | 4, _ => rfl
  | 5, _ => rfl
  | 6, _ => rfl
  | 7, _ => rfl
  | 8, _ => rfl
  | 9, _ => rfl
  | 10, _ => rfl
  | n + 11, hj => absurd hj (by omega)
theorem nb_4 : Cond.instantiable RX4 5 ∈ lw_tbl := List.mem_of_getElem? (i := 227) (by decide +kernel)
theorem nt_4 : Cond.initialized RX4 ∈ lw_tbl := List.mem_of_getElem? (i := 69) (by decide +kernel)
theorem df_4 : ∀ j, j < 5 → defaultValue (z_ft 4 j) = vp_V (([tA none, tI 0, tI 0, tI 0, tI 0] : List zTV).map z_tv) j := fun j hj => match j, hj with
  | 0, _ => rfl
  | 1, _ => rfl
  | 2, _ => rfl
  | 3, _ => rfl
  | 4, _ => rfl
  | n + 5, hj => absurd hj (by omega)
theorem nb_5 : Cond.instantiable RX5 2 ∈ lw_tbl := List.mem_of_getElem? (i := 557) (by decide +kernel)
theorem nt_5 : Cond.initialized RX5 ∈ lw_tbl := List.mem_of_getElem? (i := 77) (by decide +kernel)
theorem df_5 : ∀ j, j < 2 → defaultValue (z_ft 5 j) = vp_V (([tA none, tI 0] : List zTV).map z_tv) j := fun j hj => match j, hj with
  | 0, _ => rfl
  | 1, _ => rfl
  | n + 2, hj => absurd hj (by omega)
theorem nb_6 : Cond.instantiable RX6 9 ∈ lw_tbl := List.mem_of_getElem? (i := 89) (by decide +kernel)
theorem nt_6 : Cond.initialized RX6 ∈ lw_tbl := List.mem_of_getElem? (i := 66) (by decide +kernel)
theorem df_6 : ∀ j, j < 9 → defaultValue (z_ft 6 j) = vp_V (([tJ 0, tJ 0, tA none, tA none, tI 0, tA none, tI 0, tI 0, tI 0] : List zTV).map z_tv) j := fun j hj => match j, hj with
  | 0, _ => rfl
  | 1, _ => rfl
  | 2, _ => rfl
  | 3, _ => rfl
  | 4, _ => rfl
  | 5, _ => rfl
  | 6, _ => rfl
  | 7, _ => rfl
  | 8, _ => rfl
  | n + 9, hj => absurd hj (by omega)
theorem nb_7 : Cond.instantiable RX7 3 ∈ lw_tbl := List.mem_of_getElem? (i := 318) (by decide +kernel)
theorem nt_7 : Cond.initialized RX7 ∈ lw_tbl := List.mem_of_getElem? (i := 72) (by decide +kernel)
theorem df_7 : ∀ j, j < 3 → defaultValue (z_ft 7 j) = vp_V (([tI 0, tI 0, tA none] : List zTV).map z_tv) j := fun j hj => match j, hj with
  | 0, _ => rfl
  | 1, _ => rfl
  | 2, _ => rfl
  | n + 3, hj => absurd hj (by omega)
theorem nb_8 : Cond.instantiable RX8 5 ∈ lw_tbl := List.mem_of_getElem? (i := 153) (by decide +kernel)
theorem nt_8 : Cond.initialized RX8 ∈ lw_tbl := List.mem_of_getElem? (i := 68) (by decide +kernel)
theorem df_8 : ∀ j, j < 5 → defaultValue (z_ft 8 j) = vp_V (([tI 0, tI 0, tI 0, tI 0, tI 0] : List zTV).map z_tv) j := fun j hj => match j, hj with
  | 0, _ => rfl
  | 1, _ => rfl
  | 2, _ => rfl
  | 3, _ => rfl
  | 4, _ => rfl
  | n + 5, hj => absurd hj (by omega)
theorem nb_9 : Cond.instantiable RX9 5 ∈ lw_tbl := List.mem_of_getElem? (i := 294) (by decide +kernel)
theorem nt_9 : Cond.initialized RX9 ∈ lw_tbl := List.mem_of_getElem? (i := 71) (by decide +kernel)
theorem df_9 : ∀ j, j < 5 → defaultValue (z_ft 9 j) = vp_V (([tA none, tA none, tI 0, tI 0, tI 0] : List zTV).map z_tv) j := fun j hj => match j, hj with
  | 0, _ => rfl
  | 1, _ => rfl
  | 2, _ => rfl
  | 3, _ => rfl
  | 4, _ => rfl
  | n + 5, hj => absurd hj (by omega)
theorem nb_10 : Cond.instantiable RX10 9 ∈ lw_tbl := List.mem_of_getElem? (i := 81) (by decide +kernel)
theorem nt_10 : Cond.initialized RX10 ∈ lw_tbl := List.mem_of_getElem? (i := 65) (by decide +kernel)
theorem df_10 : ∀ j, j < 9 → defaultValue (z_ft 10 j) = vp_V (([tA none, tA none, tA none, tA none, tI 0, tA none, tA none, tA none, tA none] : List zTV).map z_tv) j := fun j hj => match j, hj with
  | 0, _ => rfl
  | 1, _ => rfl
  | 2, _ => rfl
  | 3, _ => rfl
  | 4, _ => rfl
  | 5, _ => rfl
  | 6, _ => rfl
  | 7, _ => rfl
  | 8, _ => rfl
  | n + 9, hj => absurd hj (by omega)
theorem nb_11 : Cond.instantiable RX11 22 ∈ lw_tbl := List.mem_of_getElem? (i := 892) (by decide +kernel)
theorem nt_11 : Cond.initialized RX11 ∈ lw_tbl := List.mem_of_getElem? (i := 73) (by decide +kernel)
theorem df_11 : ∀ j, j < 22 → defaultValue (z_ft 11 j) = vp_V (([tA none, tA none, tA none, tA none, tI 0, tA none, tA none, tA none, tA none, tA none, tI 0, tA none, tA none, tA none, tI 0, tA none, tA none, tA none, tA none, tI 0, tA none, tA none] : List zTV).map z_tv) j := fun j hj => match j, hj with
  | 0, _ => rfl
  | 1, _ => rfl
  | 2, _ => rfl
  | 3, _ => rfl
  | 4, _ => rfl
  | 5, _ => rfl
  | 6, _ => rfl
  | 7, _ => rfl
  | 8, _ => rfl
  | 9, _ => rfl
  | 10, _ => rfl
  | 11, _ => rfl
  | 12, _ => rfl
  | 13, _ => rfl
  | 14, _ => rfl
  | 15, _ => rfl
  | 16, _ => rfl
  | 17, _ => rfl
  | 18, _ => rfl
  | 19, _ => rfl
  | 20, _ => rfl
  | 21, _ => rfl
  | n + 22, hj => absurd hj (by omega)
theorem ar_int : Cond.arrayClass .int ∈ lw_tbl := List.mem_of_getElem? (i := 152) (by decide +kernel)
theorem ar_byte : Cond.arrayClass .byte ∈ lw_tbl := List.mem_of_getElem? (i := 249) (by decide +kernel)
theorem ar_boolean : Cond.arrayClass .boolean ∈ lw_tbl := List.mem_of_getElem? (i := 964) (by decide +kernel)
theorem ar_long : Cond.arrayClass .long ∈ lw_tbl := List.mem_of_getElem? (i := 151) (by decide +kernel)
