/-! 07: words, tables -/
theorem ki_0 : Int32.ofInt (0) = (0 : Int32) := by decide +kernel
theorem kb_8 : (Int8.ofInt (8)).toInt32 = (8 : Int32) := by decide +kernel
theorem ki_1 : Int32.ofInt (1) = (1 : Int32) := by decide +kernel
theorem kb_m6 : (Int8.ofInt (-6)).toInt32 = (-6 : Int32) := by decide +kernel
theorem kb_m12 : (Int8.ofInt (-12)).toInt32 = (-12 : Int32) := by decide +kernel
theorem kb_m11 : (Int8.ofInt (-11)).toInt32 = (-11 : Int32) := by decide +kernel
theorem ki_2 : Int32.ofInt (2) = (2 : Int32) := by decide +kernel
theorem ki_m1 : Int32.ofInt (-1) = (-1 : Int32) := by decide +kernel
theorem ki_3 : Int32.ofInt (3) = (3 : Int32) := by decide +kernel
theorem ki_4 : Int32.ofInt (4) = (4 : Int32) := by decide +kernel
theorem ki_5 : Int32.ofInt (5) = (5 : Int32) := by decide +kernel
theorem kb_99 : (Int8.ofInt (99)).toInt32 = (99 : Int32) := by decide +kernel
theorem kb_9 : (Int8.ofInt (9)).toInt32 = (9 : Int32) := by decide +kernel
theorem kb_6 : (Int8.ofInt (6)).toInt32 = (6 : Int32) := by decide +kernel
theorem kb_64 : (Int8.ofInt (64)).toInt32 = (64 : Int32) := by decide +kernel
theorem kb_m2 : (Int8.ofInt (-2)).toInt32 = (-2 : Int32) := by decide +kernel
theorem ks_12345 : (Int16.ofInt (12345)).toInt32 = (12345 : Int32) := by decide +kernel
theorem kb_50 : (Int8.ofInt (50)).toInt32 = (50 : Int32) := by decide +kernel
theorem ks_160 : (Int16.ofInt (160)).toInt32 = (160 : Int32) := by decide +kernel
theorem kb_48 : (Int8.ofInt (48)).toInt32 = (48 : Int32) := by decide +kernel
theorem kb_57 : (Int8.ofInt (57)).toInt32 = (57 : Int32) := by decide +kernel
theorem kb_97 : (Int8.ofInt (97)).toInt32 = (97 : Int32) := by decide +kernel
theorem kb_122 : (Int8.ofInt (122)).toInt32 = (122 : Int32) := by decide +kernel
theorem kb_40 : (Int8.ofInt (40)).toInt32 = (40 : Int32) := by decide +kernel
theorem kb_41 : (Int8.ofInt (41)).toInt32 = (41 : Int32) := by decide +kernel
theorem kb_59 : (Int8.ofInt (59)).toInt32 = (59 : Int32) := by decide +kernel
theorem kb_43 : (Int8.ofInt (43)).toInt32 = (43 : Int32) := by decide +kernel
theorem kb_45 : (Int8.ofInt (45)).toInt32 = (45 : Int32) := by decide +kernel
theorem kb_42 : (Int8.ofInt (42)).toInt32 = (42 : Int32) := by decide +kernel
theorem kb_60 : (Int8.ofInt (60)).toInt32 = (60 : Int32) := by decide +kernel
theorem kb_61 : (Int8.ofInt (61)).toInt32 = (61 : Int32) := by decide +kernel
theorem kb_14 : (Int8.ofInt (14)).toInt32 = (14 : Int32) := by decide +kernel
theorem kb_12 : (Int8.ofInt (12)).toInt32 = (12 : Int32) := by decide +kernel
theorem kb_10 : (Int8.ofInt (10)).toInt32 = (10 : Int32) := by decide +kernel
theorem kb_32 : (Int8.ofInt (32)).toInt32 = (32 : Int32) := by decide +kernel
theorem kb_13 : (Int8.ofInt (13)).toInt32 = (13 : Int32) := by decide +kernel
theorem kb_m42 : (Int8.ofInt (-42)).toInt32 = (-42 : Int32) := by decide +kernel
theorem kb_11 : (Int8.ofInt (11)).toInt32 = (11 : Int32) := by decide +kernel
theorem kb_m10 : (Int8.ofInt (-10)).toInt32 = (-10 : Int32) := by decide +kernel
theorem kb_m9 : (Int8.ofInt (-9)).toInt32 = (-9 : Int32) := by decide +kernel
theorem kb_m4 : (Int8.ofInt (-4)).toInt32 = (-4 : Int32) := by decide +kernel
theorem ks_256 : (Int16.ofInt (256)).toInt32 = (256 : Int32) := by decide +kernel
theorem kb_m100 : (Int8.ofInt (-100)).toInt32 = (-100 : Int32) := by decide +kernel
theorem kb_100 : (Int8.ofInt (100)).toInt32 = (100 : Int32) := by decide +kernel
theorem kb_20 : (Int8.ofInt (20)).toInt32 = (20 : Int32) := by decide +kernel
theorem kb_m3 : (Int8.ofInt (-3)).toInt32 = (-3 : Int32) := by decide +kernel
theorem kb_m14 : (Int8.ofInt (-14)).toInt32 = (-14 : Int32) := by decide +kernel
theorem kb_m13 : (Int8.ofInt (-13)).toInt32 = (-13 : Int32) := by decide +kernel
theorem kb_7 : (Int8.ofInt (7)).toInt32 = (7 : Int32) := by decide +kernel
theorem kl_0 : Int64.ofNat 0 = (0 : Int64) := by decide +kernel
theorem kl_1 : Int64.ofNat 1 = (1 : Int64) := by decide +kernel
theorem kb_109 : (Int8.ofInt (109)).toInt32 = (109 : Int32) := by decide +kernel
theorem kb_105 : (Int8.ofInt (105)).toInt32 = (105 : Int32) := by decide +kernel
theorem kb_110 : (Int8.ofInt (110)).toInt32 = (110 : Int32) := by decide +kernel
theorem kb_117 : (Int8.ofInt (117)).toInt32 = (117 : Int32) := by decide +kernel
theorem kb_116 : (Int8.ofInt (116)).toInt32 = (116 : Int32) := by decide +kernel
theorem kb_101 : (Int8.ofInt (101)).toInt32 = (101 : Int32) := by decide +kernel
theorem kb_114 : (Int8.ofInt (114)).toInt32 = (114 : Int32) := by decide +kernel
theorem kb_111 : (Int8.ofInt (111)).toInt32 = (111 : Int32) := by decide +kernel
theorem kb_108 : (Int8.ofInt (108)).toInt32 = (108 : Int32) := by decide +kernel
theorem kb_102 : (Int8.ofInt (102)).toInt32 = (102 : Int32) := by decide +kernel
theorem kb_98 : (Int8.ofInt (98)).toInt32 = (98 : Int32) := by decide +kernel
theorem kb_115 : (Int8.ofInt (115)).toInt32 = (115 : Int32) := by decide +kernel
theorem kb_112 : (Int8.ofInt (112)).toInt32 = (112 : Int32) := by decide +kernel
theorem kb_49 : (Int8.ofInt (49)).toInt32 = (49 : Int32) := by decide +kernel
theorem kb_30 : (Int8.ofInt (30)).toInt32 = (30 : Int32) := by decide +kernel
theorem kb_16 : (Int8.ofInt (16)).toInt32 = (16 : Int32) := by decide +kernel
theorem fl_RX0_46 : Cond.fieldLink RX0 46 (TX0 12).1 (TX0 12).2.1 (TX0 12).2.2.1 ∈ lw_gd := gd_at 243 (by decide +kernel) rfl
theorem fl_RX0_43 : Cond.fieldLink RX0 43 (TX0 11).1 (TX0 11).2.1 (TX0 11).2.2.1 ∈ lw_gd := gd_at 241 (by decide +kernel) rfl
theorem fl_RX0_56 : Cond.fieldLink RX0 56 (TX0 0).1 (TX0 0).2.1 (TX0 0).2.2.1 ∈ lw_gd := gd_at 229 (by decide +kernel) rfl
theorem fl_RX0_87 : Cond.fieldLink RX0 87 (TX1 2).1 (TX1 2).2.1 (TX1 2).2.2.1 ∈ lw_gd := gd_at 138 (by decide +kernel) rfl
theorem fl_RX0_31 : Cond.fieldLink RX0 31 (TX0 7).1 (TX0 7).2.1 (TX0 7).2.2.1 ∈ lw_gd := gd_at 237 (by decide +kernel) rfl
theorem fl_RX0_25 : Cond.fieldLink RX0 25 (TX0 5).1 (TX0 5).2.1 (TX0 5).2.2.1 ∈ lw_gd := gd_at 234 (by decide +kernel) rfl
theorem fl_RX6_15 : Cond.fieldLink RX6 15 (TX6 1).1 (TX6 1).2.1 (TX6 1).2.2.1 ∈ lw_gd := gd_at 287 (by decide +kernel) rfl
theorem fl_RX6_9 : Cond.fieldLink RX6 9 (TX6 0).1 (TX6 0).2.1 (TX6 0).2.2.1 ∈ lw_gd := gd_at 286 (by decide +kernel) rfl
theorem fl_RX0_18 : Cond.fieldLink RX0 18 (TX0 3).1 (TX0 3).2.1 (TX0 3).2.2.1 ∈ lw_gd := gd_at 232 (by decide +kernel) rfl
theorem fl_RX0_90 : Cond.fieldLink RX0 90 (TX1 7).1 (TX1 7).2.1 (TX1 7).2.2.1 ∈ lw_gd := gd_at 151 (by decide +kernel) rfl
theorem fl_RX0_143 : Cond.fieldLink RX0 143 (TX2 1).1 (TX2 1).2.1 (TX2 1).2.2.1 ∈ lw_gd := gd_at 108 (by decide +kernel) rfl
theorem fl_RX0_60 : Cond.fieldLink RX0 60 (TX0 1).1 (TX0 1).2.1 (TX0 1).2.2.1 ∈ lw_gd := gd_at 230 (by decide +kernel) rfl
theorem fl_RX0_149 : Cond.fieldLink RX0 149 (TX1 3).1 (TX1 3).2.1 (TX1 3).2.2.1 ∈ lw_gd := gd_at 141 (by decide +kernel) rfl
theorem fl_RX0_22 : Cond.fieldLink RX0 22 (TX0 4).1 (TX0 4).2.1 (TX0 4).2.2.1 ∈ lw_gd := gd_at 233 (by decide +kernel) rfl
theorem fl_RX2_9 : Cond.fieldLink RX2 9 (TX2 0).1 (TX2 0).2.1 (TX2 0).2.2.1 ∈ lw_gd := gd_at 104 (by decide +kernel) rfl
theorem fl_RX2_15 : Cond.fieldLink RX2 15 (TX2 1).1 (TX2 1).2.1 (TX2 1).2.2.1 ∈ lw_gd := gd_at 106 (by decide +kernel) rfl
theorem fl_RX2_21 : Cond.fieldLink RX2 21 (TX2 3).1 (TX2 3).2.1 (TX2 3).2.2.1 ∈ lw_gd := gd_at 114 (by decide +kernel) rfl
theorem fl_RX2_24 : Cond.fieldLink RX2 24 (TX2 4).1 (TX2 4).2.1 (TX2 4).2.2.1 ∈ lw_gd := gd_at 117 (by decide +kernel) rfl
theorem fl_RX5_9 : Cond.fieldLink RX5 9 (TX5 0).1 (TX5 0).2.1 (TX5 0).2.2.1 ∈ lw_gd := gd_at 222 (by decide +kernel) rfl
theorem fl_RX0_34 : Cond.fieldLink RX0 34 (TX0 8).1 (TX0 8).2.1 (TX0 8).2.2.1 ∈ lw_gd := gd_at 238 (by decide +kernel) rfl
theorem fl_RX0_37 : Cond.fieldLink RX0 37 (TX0 9).1 (TX0 9).2.1 (TX0 9).2.2.1 ∈ lw_gd := gd_at 239 (by decide +kernel) rfl
theorem fl_RX0_50 : Cond.fieldLink RX0 50 (TX0 13).1 (TX0 13).2.1 (TX0 13).2.2.1 ∈ lw_gd := gd_at 244 (by decide +kernel) rfl
theorem fl_RX0_12 : Cond.fieldLink RX0 12 (TX0 2).1 (TX0 2).2.1 (TX0 2).2.2.1 ∈ lw_gd := gd_at 231 (by decide +kernel) rfl
theorem fl_RX0_40 : Cond.fieldLink RX0 40 (TX0 10).1 (TX0 10).2.1 (TX0 10).2.2.1 ∈ lw_gd := gd_at 240 (by decide +kernel) rfl
theorem fl_RX0_28 : Cond.fieldLink RX0 28 (TX0 6).1 (TX0 6).2.1 (TX0 6).2.2.1 ∈ lw_gd := gd_at 236 (by decide +kernel) rfl
theorem fl_RX1_15 : Cond.fieldLink RX1 15 (TX1 1).1 (TX1 1).2.1 (TX1 1).2.2.1 ∈ lw_gd := gd_at 135 (by decide +kernel) rfl
theorem fl_RX1_28 : Cond.fieldLink RX1 28 (TX1 5).1 (TX1 5).2.1 (TX1 5).2.2.1 ∈ lw_gd := gd_at 145 (by decide +kernel) rfl
theorem fl_RX1_24 : Cond.fieldLink RX1 24 (TX1 4).1 (TX1 4).2.1 (TX1 4).2.2.1 ∈ lw_gd := gd_at 143 (by decide +kernel) rfl
theorem fl_RX0_53 : Cond.fieldLink RX0 53 (TX0 14).1 (TX0 14).2.1 (TX0 14).2.2.1 ∈ lw_gd := gd_at 246 (by decide +kernel) rfl
theorem fl_RX5_15 : Cond.fieldLink RX5 15 (TX5 1).1 (TX5 1).2.1 (TX5 1).2.2.1 ∈ lw_gd := gd_at 223 (by decide +kernel) rfl
theorem fl_RX0_72 : Cond.fieldLink RX0 72 (TX1 0).1 (TX1 0).2.1 (TX1 0).2.2.1 ∈ lw_gd := gd_at 133 (by decide +kernel) rfl
theorem fl_RX0_80 : Cond.fieldLink RX0 80 (TX1 6).1 (TX1 6).2.1 (TX1 6).2.2.1 ∈ lw_gd := gd_at 148 (by decide +kernel) rfl
theorem fl_RX0_94 : Cond.fieldLink RX0 94 (TX2 2).1 (TX2 2).2.1 (TX2 2).2.2.1 ∈ lw_gd := gd_at 111 (by decide +kernel) rfl
theorem fl_RX0_99 : Cond.fieldLink RX0 99 (TX2 3).1 (TX2 3).2.1 (TX2 3).2.2.1 ∈ lw_gd := gd_at 115 (by decide +kernel) rfl
theorem fl_RX0_102 : Cond.fieldLink RX0 102 (TX2 4).1 (TX2 4).2.1 (TX2 4).2.2.1 ∈ lw_gd := gd_at 118 (by decide +kernel) rfl
theorem fl_RX2_18 : Cond.fieldLink RX2 18 (TX2 2).1 (TX2 2).2.1 (TX2 2).2.2.1 ∈ lw_gd := gd_at 110 (by decide +kernel) rfl
theorem fl_RX1_9 : Cond.fieldLink RX1 9 (TX1 0).1 (TX1 0).2.1 (TX1 0).2.2.1 ∈ lw_gd := gd_at 132 (by decide +kernel) rfl
theorem fl_RX1_18 : Cond.fieldLink RX1 18 (TX1 2).1 (TX1 2).2.1 (TX1 2).2.2.1 ∈ lw_gd := gd_at 137 (by decide +kernel) rfl
theorem fl_RX1_21 : Cond.fieldLink RX1 21 (TX1 3).1 (TX1 3).2.1 (TX1 3).2.2.1 ∈ lw_gd := gd_at 140 (by decide +kernel) rfl
theorem fl_RX1_31 : Cond.fieldLink RX1 31 (TX1 6).1 (TX1 6).2.1 (TX1 6).2.2.1 ∈ lw_gd := gd_at 147 (by decide +kernel) rfl
theorem fl_RX1_36 : Cond.fieldLink RX1 36 (TX1 7).1 (TX1 7).2.1 (TX1 7).2.2.1 ∈ lw_gd := gd_at 150 (by decide +kernel) rfl
theorem fl_RX1_58 : Cond.fieldLink RX1 58 (TX2 2).1 (TX2 2).2.1 (TX2 2).2.2.1 ∈ lw_gd := gd_at 112 (by decide +kernel) rfl
theorem fl_RX1_55 : Cond.fieldLink RX1 55 (TX2 1).1 (TX2 1).2.1 (TX2 1).2.2.1 ∈ lw_gd := gd_at 107 (by decide +kernel) rfl
theorem fl_RX3_15 : Cond.fieldLink RX3 15 (TX3 1).1 (TX3 1).2.1 (TX3 1).2.2.1 ∈ lw_gd := gd_at 177 (by decide +kernel) rfl
theorem fl_RX3_9 : Cond.fieldLink RX3 9 (TX3 0).1 (TX3 0).2.1 (TX3 0).2.2.1 ∈ lw_gd := gd_at 176 (by decide +kernel) rfl
theorem fl_RX3_31 : Cond.fieldLink RX3 31 (TX3 6).1 (TX3 6).2.1 (TX3 6).2.2.1 ∈ lw_gd := gd_at 183 (by decide +kernel) rfl
theorem fl_RX3_19 : Cond.fieldLink RX3 19 (TX3 2).1 (TX3 2).2.1 (TX3 2).2.2.1 ∈ lw_gd := gd_at 179 (by decide +kernel) rfl
theorem fl_RX3_25 : Cond.fieldLink RX3 25 (TX3 4).1 (TX3 4).2.1 (TX3 4).2.2.1 ∈ lw_gd := gd_at 181 (by decide +kernel) rfl
theorem fl_RX3_28 : Cond.fieldLink RX3 28 (TX3 5).1 (TX3 5).2.1 (TX3 5).2.2.1 ∈ lw_gd := gd_at 182 (by decide +kernel) rfl
theorem fl_RX3_22 : Cond.fieldLink RX3 22 (TX3 3).1 (TX3 3).2.1 (TX3 3).2.2.1 ∈ lw_gd := gd_at 180 (by decide +kernel) rfl
theorem fl_RX3_40 : Cond.fieldLink RX3 40 (TX3 9).1 (TX3 9).2.1 (TX3 9).2.2.1 ∈ lw_gd := gd_at 186 (by decide +kernel) rfl
theorem fl_RX3_34 : Cond.fieldLink RX3 34 (TX3 7).1 (TX3 7).2.1 (TX3 7).2.2.1 ∈ lw_gd := gd_at 184 (by decide +kernel) rfl
theorem fl_RX3_37 : Cond.fieldLink RX3 37 (TX3 8).1 (TX3 8).2.1 (TX3 8).2.2.1 ∈ lw_gd := gd_at 185 (by decide +kernel) rfl
theorem fl_RX4_9 : Cond.fieldLink RX4 9 (TX4 0).1 (TX4 0).2.1 (TX4 0).2.2.1 ∈ lw_gd := gd_at 298 (by decide +kernel) rfl
theorem fl_RX4_15 : Cond.fieldLink RX4 15 (TX4 1).1 (TX4 1).2.1 (TX4 1).2.2.1 ∈ lw_gd := gd_at 300 (by decide +kernel) rfl
theorem fl_RX4_18 : Cond.fieldLink RX4 18 (TX4 2).1 (TX4 2).2.1 (TX4 2).2.2.1 ∈ lw_gd := gd_at 302 (by decide +kernel) rfl
theorem fl_RX7_139 : Cond.fieldLink RX7 139 (TX2 1).1 (TX2 1).2.1 (TX2 1).2.2.1 ∈ lw_gd := gd_at 109 (by decide +kernel) rfl
theorem fl_RX7_142 : Cond.fieldLink RX7 142 (TX2 2).1 (TX2 2).2.1 (TX2 2).2.2.1 ∈ lw_gd := gd_at 113 (by decide +kernel) rfl
theorem fl_RX7_145 : Cond.fieldLink RX7 145 (TX2 0).1 (TX2 0).2.1 (TX2 0).2.2.1 ∈ lw_gd := gd_at 105 (by decide +kernel) rfl
theorem fl_RX7_123 : Cond.fieldLink RX7 123 (TX2 3).1 (TX2 3).2.1 (TX2 3).2.2.1 ∈ lw_gd := gd_at 116 (by decide +kernel) rfl
theorem fl_RX7_10 : Cond.fieldLink RX7 10 (TX7 0).1 (TX7 0).2.1 (TX7 0).2.2.1 ∈ lw_gd := gd_at 446 (by decide +kernel) rfl
theorem fl_RX7_129 : Cond.fieldLink RX7 129 (TX1 0).1 (TX1 0).2.1 (TX1 0).2.2.1 ∈ lw_gd := gd_at 134 (by decide +kernel) rfl
theorem fl_RX7_132 : Cond.fieldLink RX7 132 (TX1 6).1 (TX1 6).2.1 (TX1 6).2.2.1 ∈ lw_gd := gd_at 149 (by decide +kernel) rfl
theorem fl_RX7_102 : Cond.fieldLink RX7 102 (TX1 1).1 (TX1 1).2.1 (TX1 1).2.2.1 ∈ lw_gd := gd_at 136 (by decide +kernel) rfl
theorem fl_RX7_105 : Cond.fieldLink RX7 105 (TX1 4).1 (TX1 4).2.1 (TX1 4).2.2.1 ∈ lw_gd := gd_at 144 (by decide +kernel) rfl
theorem fl_RX7_108 : Cond.fieldLink RX7 108 (TX1 5).1 (TX1 5).2.1 (TX1 5).2.2.1 ∈ lw_gd := gd_at 146 (by decide +kernel) rfl
theorem fl_RX7_111 : Cond.fieldLink RX7 111 (TX1 2).1 (TX1 2).2.1 (TX1 2).2.2.1 ∈ lw_gd := gd_at 139 (by decide +kernel) rfl
theorem fl_RX7_114 : Cond.fieldLink RX7 114 (TX1 7).1 (TX1 7).2.1 (TX1 7).2.2.1 ∈ lw_gd := gd_at 152 (by decide +kernel) rfl
theorem fl_RX7_84 : Cond.fieldLink RX7 84 RX7 "LEAST" "[I" ∈ lw_gd := gd_at 482 (by decide +kernel) rfl
theorem fl_RX7_91 : Cond.fieldLink RX7 91 RX7 "MOST" "[I" ∈ lw_gd := gd_at 485 (by decide +kernel) rfl
theorem fl_RX7_126 : Cond.fieldLink RX7 126 (TX2 4).1 (TX2 4).2.1 (TX2 4).2.2.1 ∈ lw_gd := gd_at 119 (by decide +kernel) rfl
theorem fl_RX7_29 : Cond.fieldLink RX7 29 (TX7 4).1 (TX7 4).2.1 (TX7 4).2.2.1 ∈ lw_gd := gd_at 450 (by decide +kernel) rfl
theorem fl_RX7_161 : Cond.fieldLink RX7 161 (TX3 1).1 (TX3 1).2.1 (TX3 1).2.2.1 ∈ lw_gd := gd_at 178 (by decide +kernel) rfl
theorem fl_RX7_39 : Cond.fieldLink RX7 39 (TX7 6).1 (TX7 6).2.1 (TX7 6).2.2.1 ∈ lw_gd := gd_at 452 (by decide +kernel) rfl
theorem fl_RX7_35 : Cond.fieldLink RX7 35 (TX7 5).1 (TX7 5).2.1 (TX7 5).2.2.1 ∈ lw_gd := gd_at 451 (by decide +kernel) rfl
theorem fl_RX7_164 : Cond.fieldLink RX7 164 (TX1 3).1 (TX1 3).2.1 (TX1 3).2.2.1 ∈ lw_gd := gd_at 142 (by decide +kernel) rfl
theorem fl_RX7_48 : Cond.fieldLink RX7 48 (TX7 7).1 (TX7 7).2.1 (TX7 7).2.2.1 ∈ lw_gd := gd_at 453 (by decide +kernel) rfl
theorem fl_RX7_187 : Cond.fieldLink RX7 187 (TX0 13).1 (TX0 13).2.1 (TX0 13).2.2.1 ∈ lw_gd := gd_at 245 (by decide +kernel) rfl
theorem fl_RX7_190 : Cond.fieldLink RX7 190 (TX0 14).1 (TX0 14).2.1 (TX0 14).2.2.1 ∈ lw_gd := gd_at 247 (by decide +kernel) rfl
theorem fl_RX7_180 : Cond.fieldLink RX7 180 (TX0 11).1 (TX0 11).2.1 (TX0 11).2.2.1 ∈ lw_gd := gd_at 242 (by decide +kernel) rfl
theorem fl_RX7_58 : Cond.fieldLink RX7 58 (TX7 9).1 (TX7 9).2.1 (TX7 9).2.2.1 ∈ lw_gd := gd_at 455 (by decide +kernel) rfl
theorem fl_RX7_19 : Cond.fieldLink RX7 19 (TX7 2).1 (TX7 2).2.1 (TX7 2).2.2.1 ∈ lw_gd := gd_at 448 (by decide +kernel) rfl
theorem fl_RX7_222 : Cond.fieldLink RX7 222 (TX4 1).1 (TX4 1).2.1 (TX4 1).2.2.1 ∈ lw_gd := gd_at 301 (by decide +kernel) rfl
theorem fl_RX7_223 : Cond.fieldLink RX7 223 (TX4 2).1 (TX4 2).2.1 (TX4 2).2.2.1 ∈ lw_gd := gd_at 303 (by decide +kernel) rfl
theorem fl_RX7_54 : Cond.fieldLink RX7 54 (TX7 8).1 (TX7 8).2.1 (TX7 8).2.2.1 ∈ lw_gd := gd_at 454 (by decide +kernel) rfl
theorem fl_RX7_238 : Cond.fieldLink RX7 238 (TX0 5).1 (TX0 5).2.1 (TX0 5).2.2.1 ∈ lw_gd := gd_at 235 (by decide +kernel) rfl
theorem fl_RX7_16 : Cond.fieldLink RX7 16 (TX7 1).1 (TX7 1).2.1 (TX7 1).2.2.1 ∈ lw_gd := gd_at 447 (by decide +kernel) rfl
theorem fl_RX7_22 : Cond.fieldLink RX7 22 (TX7 3).1 (TX7 3).2.1 (TX7 3).2.2.1 ∈ lw_gd := gd_at 449 (by decide +kernel) rfl
theorem fl_RX7_260 : Cond.fieldLink RX7 260 (TX4 0).1 (TX4 0).2.1 (TX4 0).2.2.1 ∈ lw_gd := gd_at 299 (by decide +kernel) rfl
theorem fl_RX8_13 : Cond.fieldLink RX8 13 (TX8 1).1 (TX8 1).2.1 (TX8 1).2.2.1 ∈ lw_gd := gd_at 824 (by decide +kernel) rfl
theorem fl_RX8_118 : Cond.fieldLink RX8 118 (TX8 17).1 (TX8 17).2.1 (TX8 17).2.2.1 ∈ lw_gd := gd_at 840 (by decide +kernel) rfl
theorem fl_RX8_121 : Cond.fieldLink RX8 121 (TX8 11).1 (TX8 11).2.1 (TX8 11).2.2.1 ∈ lw_gd := gd_at 834 (by decide +kernel) rfl
theorem fl_RX8_23 : Cond.fieldLink RX8 23 (TX8 7).1 (TX8 7).2.1 (TX8 7).2.2.1 ∈ lw_gd := gd_at 830 (by decide +kernel) rfl
theorem fl_RX8_26 : Cond.fieldLink RX8 26 (TX8 8).1 (TX8 8).2.1 (TX8 8).2.2.1 ∈ lw_gd := gd_at 831 (by decide +kernel) rfl
theorem fl_RX8_29 : Cond.fieldLink RX8 29 (TX8 9).1 (TX8 9).2.1 (TX8 9).2.2.1 ∈ lw_gd := gd_at 832 (by decide +kernel) rfl
theorem fl_RX8_32 : Cond.fieldLink RX8 32 (TX8 10).1 (TX8 10).2.1 (TX8 10).2.2.1 ∈ lw_gd := gd_at 833 (by decide +kernel) rfl
theorem fl_RX8_38 : Cond.fieldLink RX8 38 (TX8 13).1 (TX8 13).2.1 (TX8 13).2.2.1 ∈ lw_gd := gd_at 836 (by decide +kernel) rfl
theorem fl_RX8_41 : Cond.fieldLink RX8 41 (TX8 14).1 (TX8 14).2.1 (TX8 14).2.2.1 ∈ lw_gd := gd_at 837 (by decide +kernel) rfl
theorem fl_RX8_47 : Cond.fieldLink RX8 47 (TX8 16).1 (TX8 16).2.1 (TX8 16).2.2.1 ∈ lw_gd := gd_at 839 (by decide +kernel) rfl
theorem fl_RX8_44 : Cond.fieldLink RX8 44 (TX8 15).1 (TX8 15).2.1 (TX8 15).2.2.1 ∈ lw_gd := gd_at 838 (by decide +kernel) rfl
theorem fl_RX8_35 : Cond.fieldLink RX8 35 (TX8 12).1 (TX8 12).2.1 (TX8 12).2.2.1 ∈ lw_gd := gd_at 835 (by decide +kernel) rfl
theorem fl_RX8_53 : Cond.fieldLink RX8 53 (TX8 19).1 (TX8 19).2.1 (TX8 19).2.2.1 ∈ lw_gd := gd_at 842 (by decide +kernel) rfl
theorem fl_RX8_173 : Cond.fieldLink RX8 173 (TX8 20).1 (TX8 20).2.1 (TX8 20).2.2.1 ∈ lw_gd := gd_at 843 (by decide +kernel) rfl
theorem fl_RX8_183 : Cond.fieldLink RX8 183 (TX8 6).1 (TX8 6).2.1 (TX8 6).2.2.1 ∈ lw_gd := gd_at 829 (by decide +kernel) rfl
theorem fl_RX8_20 : Cond.fieldLink RX8 20 (TX8 5).1 (TX8 5).2.1 (TX8 5).2.2.1 ∈ lw_gd := gd_at 828 (by decide +kernel) rfl
theorem fl_RX8_186 : Cond.fieldLink RX8 186 (TX8 28).1 (TX8 28).2.1 (TX8 28).2.2.1 ∈ lw_gd := gd_at 851 (by decide +kernel) rfl
theorem fl_RX8_189 : Cond.fieldLink RX8 189 (TX8 27).1 (TX8 27).2.1 (TX8 27).2.2.1 ∈ lw_gd := gd_at 850 (by decide +kernel) rfl
theorem fl_RX8_192 : Cond.fieldLink RX8 192 (TX8 29).1 (TX8 29).2.1 (TX8 29).2.2.1 ∈ lw_gd := gd_at 852 (by decide +kernel) rfl
theorem fl_RX8_198 : Cond.fieldLink RX8 198 (TX8 31).1 (TX8 31).2.1 (TX8 31).2.2.1 ∈ lw_gd := gd_at 854 (by decide +kernel) rfl
theorem fl_RX8_201 : Cond.fieldLink RX8 201 (TX8 30).1 (TX8 30).2.1 (TX8 30).2.2.1 ∈ lw_gd := gd_at 853 (by decide +kernel) rfl
theorem fl_RX8_212 : Cond.fieldLink RX8 212 (TX8 32).1 (TX8 32).2.1 (TX8 32).2.2.1 ∈ lw_gd := gd_at 855 (by decide +kernel) rfl
theorem fl_RX8_216 : Cond.fieldLink RX8 216 (TX8 34).1 (TX8 34).2.1 (TX8 34).2.2.1 ∈ lw_gd := gd_at 857 (by decide +kernel) rfl
theorem fl_RX8_220 : Cond.fieldLink RX8 220 (TX8 35).1 (TX8 35).2.1 (TX8 35).2.2.1 ∈ lw_gd := gd_at 858 (by decide +kernel) rfl
theorem fl_RX8_226 : Cond.fieldLink RX8 226 (TX8 33).1 (TX8 33).2.1 (TX8 33).2.2.1 ∈ lw_gd := gd_at 856 (by decide +kernel) rfl
theorem fl_RX8_254 : Cond.fieldLink RX8 254 (TX8 26).1 (TX8 26).2.1 (TX8 26).2.2.1 ∈ lw_gd := gd_at 849 (by decide +kernel) rfl
theorem fl_RX8_251 : Cond.fieldLink RX8 251 (TX8 25).1 (TX8 25).2.1 (TX8 25).2.2.1 ∈ lw_gd := gd_at 848 (by decide +kernel) rfl
theorem fl_RX8_248 : Cond.fieldLink RX8 248 (TX8 24).1 (TX8 24).2.1 (TX8 24).2.2.1 ∈ lw_gd := gd_at 847 (by decide +kernel) rfl
theorem fl_RX8_245 : Cond.fieldLink RX8 245 (TX8 23).1 (TX8 23).2.1 (TX8 23).2.2.1 ∈ lw_gd := gd_at 846 (by decide +kernel) rfl
theorem fl_RX8_242 : Cond.fieldLink RX8 242 (TX8 22).1 (TX8 22).2.1 (TX8 22).2.2.1 ∈ lw_gd := gd_at 845 (by decide +kernel) rfl
theorem fl_RX8_239 : Cond.fieldLink RX8 239 (TX8 21).1 (TX8 21).2.1 (TX8 21).2.2.1 ∈ lw_gd := gd_at 844 (by decide +kernel) rfl
theorem fl_RX8_17 : Cond.fieldLink RX8 17 (TX8 2).1 (TX8 2).2.1 (TX8 2).2.2.1 ∈ lw_gd := gd_at 825 (by decide +kernel) rfl
theorem fl_RX8_109 : Cond.fieldLink RX8 109 (TX8 3).1 (TX8 3).2.1 (TX8 3).2.2.1 ∈ lw_gd := gd_at 826 (by decide +kernel) rfl
theorem fl_RX8_297 : Cond.fieldLink RX8 297 (TX8 4).1 (TX8 4).2.1 (TX8 4).2.2.1 ∈ lw_gd := gd_at 827 (by decide +kernel) rfl
theorem fl_RX8_56 : Cond.fieldLink RX8 56 (TX8 36).1 (TX8 36).2.1 (TX8 36).2.2.1 ∈ lw_gd := gd_at 859 (by decide +kernel) rfl
theorem fl_RX8_74 : Cond.fieldLink RX8 74 (TX8 42).1 (TX8 42).2.1 (TX8 42).2.2.1 ∈ lw_gd := gd_at 865 (by decide +kernel) rfl
theorem fl_RX8_50 : Cond.fieldLink RX8 50 (TX8 18).1 (TX8 18).2.1 (TX8 18).2.2.1 ∈ lw_gd := gd_at 841 (by decide +kernel) rfl
theorem fl_RX8_59 : Cond.fieldLink RX8 59 (TX8 37).1 (TX8 37).2.1 (TX8 37).2.2.1 ∈ lw_gd := gd_at 860 (by decide +kernel) rfl
theorem fl_RX8_65 : Cond.fieldLink RX8 65 (TX8 39).1 (TX8 39).2.1 (TX8 39).2.2.1 ∈ lw_gd := gd_at 862 (by decide +kernel) rfl
theorem fl_RX8_304 : Cond.fieldLink RX8 304 (TX8 43).1 (TX8 43).2.1 (TX8 43).2.2.1 ∈ lw_gd := gd_at 866 (by decide +kernel) rfl
theorem fl_RX8_307 : Cond.fieldLink RX8 307 (TX8 44).1 (TX8 44).2.1 (TX8 44).2.2.1 ∈ lw_gd := gd_at 867 (by decide +kernel) rfl
theorem fl_RX8_68 : Cond.fieldLink RX8 68 (TX8 40).1 (TX8 40).2.1 (TX8 40).2.2.1 ∈ lw_gd := gd_at 863 (by decide +kernel) rfl
theorem fl_RX8_71 : Cond.fieldLink RX8 71 (TX8 41).1 (TX8 41).2.1 (TX8 41).2.2.1 ∈ lw_gd := gd_at 864 (by decide +kernel) rfl
theorem fl_RX8_62 : Cond.fieldLink RX8 62 (TX8 38).1 (TX8 38).2.1 (TX8 38).2.2.1 ∈ lw_gd := gd_at 861 (by decide +kernel) rfl
theorem fl_RX8_348 : Cond.fieldLink RX8 348 (TX8 47).1 (TX8 47).2.1 (TX8 47).2.2.1 ∈ lw_gd := gd_at 870 (by decide +kernel) rfl
theorem fl_RX8_351 : Cond.fieldLink RX8 351 (TX8 46).1 (TX8 46).2.1 (TX8 46).2.2.1 ∈ lw_gd := gd_at 869 (by decide +kernel) rfl
theorem fl_RX8_77 : Cond.fieldLink RX8 77 (TX8 45).1 (TX8 45).2.1 (TX8 45).2.2.1 ∈ lw_gd := gd_at 868 (by decide +kernel) rfl
theorem fl_RX8_92 : Cond.fieldLink RX8 92 (TX8 55).1 (TX8 55).2.1 (TX8 55).2.2.1 ∈ lw_gd := gd_at 878 (by decide +kernel) rfl
theorem fl_RX8_99 : Cond.fieldLink RX8 99 (TX8 57).1 (TX8 57).2.1 (TX8 57).2.2.1 ∈ lw_gd := gd_at 880 (by decide +kernel) rfl
theorem fl_RX8_102 : Cond.fieldLink RX8 102 (TX8 58).1 (TX8 58).2.1 (TX8 58).2.2.1 ∈ lw_gd := gd_at 881 (by decide +kernel) rfl
theorem fl_RX8_96 : Cond.fieldLink RX8 96 (TX8 56).1 (TX8 56).2.1 (TX8 56).2.2.1 ∈ lw_gd := gd_at 879 (by decide +kernel) rfl
theorem fl_RX8_80 : Cond.fieldLink RX8 80 (TX8 48).1 (TX8 48).2.1 (TX8 48).2.2.1 ∈ lw_gd := gd_at 871 (by decide +kernel) rfl
theorem fl_RX8_89 : Cond.fieldLink RX8 89 (TX8 51).1 (TX8 51).2.1 (TX8 51).2.2.1 ∈ lw_gd := gd_at 874 (by decide +kernel) rfl
theorem fl_RX8_381 : Cond.fieldLink RX8 381 (TX8 52).1 (TX8 52).2.1 (TX8 52).2.2.1 ∈ lw_gd := gd_at 875 (by decide +kernel) rfl
theorem fl_RX8_384 : Cond.fieldLink RX8 384 (TX8 53).1 (TX8 53).2.1 (TX8 53).2.2.1 ∈ lw_gd := gd_at 876 (by decide +kernel) rfl
theorem fl_RX8_387 : Cond.fieldLink RX8 387 (TX8 54).1 (TX8 54).2.1 (TX8 54).2.2.1 ∈ lw_gd := gd_at 877 (by decide +kernel) rfl
theorem fl_RX8_86 : Cond.fieldLink RX8 86 (TX8 50).1 (TX8 50).2.1 (TX8 50).2.2.1 ∈ lw_gd := gd_at 873 (by decide +kernel) rfl
theorem fl_RX8_83 : Cond.fieldLink RX8 83 (TX8 49).1 (TX8 49).2.1 (TX8 49).2.2.1 ∈ lw_gd := gd_at 872 (by decide +kernel) rfl
theorem cw_RX6_24 : Cond.methodLink RX6 24 yX6_joined ∈ lw_gd ∧ Cond.static yX6_joined ∈ lw_gd := ⟨gd_at 622 (by decide +kernel) rfl, gd_at 623 (by decide +kernel) rfl⟩
theorem cw_RX0_146 : Cond.methodLink RX0 146 yX0_othersWith ∈ lw_gd ∧ Cond.instanceMethod yX0_othersWith ∈ lw_gd ∧ Cond.selects yX0_othersWith.cls yX0_othersWith yX0_othersWith ∈ lw_gd := ⟨gd_at 614 (by decide +kernel) rfl, gd_at 616 (by decide +kernel) rfl, gd_at 18 (by decide +kernel) rfl⟩
theorem cw_RX0_152 : Cond.methodLink RX0 152 yX6_value ∈ lw_gd ∧ Cond.instanceMethod yX6_value ∈ lw_gd ∧ Cond.selects yX6_value.cls yX6_value yX6_value ∈ lw_gd := ⟨gd_at 618 (by decide +kernel) rfl, gd_at 619 (by decide +kernel) rfl, gd_at 620 (by decide +kernel) rfl⟩
theorem cw_RX2_34 : (RX2, 34, yX7_within, "NeverSeen") ∈ nstM ∧ Cond.static yX7_within ∈ lw_gd := ⟨(by decide +kernel), gd_at 437 (by decide +kernel) rfl⟩
theorem cw_RX5_36 : (RX5, 36, yX7_within, "NeverSeen") ∈ nstM ∧ Cond.static yX7_within ∈ lw_gd := ⟨(by decide +kernel), gd_at 437 (by decide +kernel) rfl⟩
theorem cw_RX0_117 : Cond.methodLink RX0 117 yX2_roomListed ∈ lw_gd ∧ Cond.instanceMethod yX2_roomListed ∈ lw_gd ∧ Cond.selects yX2_roomListed.cls yX2_roomListed yX2_roomListed ∈ lw_gd := ⟨gd_at 609 (by decide +kernel) rfl, gd_at 495 (by decide +kernel) rfl, gd_at 496 (by decide +kernel) rfl⟩
theorem cw_RX0_120 : Cond.methodLink RX0 120 yX0_tells ∈ lw_gd ∧ Cond.instanceMethod yX0_tells ∈ lw_gd ∧ Cond.selects yX0_tells.cls yX0_tells yX0_tells ∈ lw_gd := ⟨gd_at 610 (by decide +kernel) rfl, gd_at 612 (by decide +kernel) rfl, gd_at 17 (by decide +kernel) rfl⟩
theorem cw_RX0_124 : Cond.methodLink RX0 124 yX2_works ∈ lw_gd ∧ Cond.instanceMethod yX2_works ∈ lw_gd ∧ Cond.selects yX2_works.cls yX2_works yX2_works ∈ lw_gd := ⟨gd_at 629 (by decide +kernel) rfl, gd_at 630 (by decide +kernel) rfl, gd_at 631 (by decide +kernel) rfl⟩
theorem cw_RX0_133 : Cond.methodLink RX0 133 yX5_nextLaid ∈ lw_gd ∧ Cond.instanceMethod yX5_nextLaid ∈ lw_gd ∧ Cond.selects yX5_nextLaid.cls yX5_nextLaid yX5_nextLaid ∈ lw_gd := ⟨gd_at 634 (by decide +kernel) rfl, gd_at 635 (by decide +kernel) rfl, gd_at 636 (by decide +kernel) rfl⟩
theorem cw_RX0_136 : Cond.methodLink RX0 136 yX2_dares ∈ lw_gd ∧ Cond.instanceMethod yX2_dares ∈ lw_gd ∧ Cond.selects yX2_dares.cls yX2_dares yX2_dares ∈ lw_gd := ⟨gd_at 639 (by decide +kernel) rfl, gd_at 640 (by decide +kernel) rfl, gd_at 641 (by decide +kernel) rfl⟩
theorem cw_RX0_140 : Cond.methodLink RX0 140 yX2_takes ∈ lw_gd ∧ Cond.instanceMethod yX2_takes ∈ lw_gd ∧ Cond.selects yX2_takes.cls yX2_takes yX2_takes ∈ lw_gd := ⟨gd_at 643 (by decide +kernel) rfl, gd_at 644 (by decide +kernel) rfl, gd_at 645 (by decide +kernel) rfl⟩
theorem cw_RX0_105 : Cond.methodLink RX0 105 yX1_masterIn ∈ lw_gd ∧ Cond.instanceMethod yX1_masterIn ∈ lw_gd ∧ Cond.selects yX1_masterIn.cls yX1_masterIn yX1_masterIn ∈ lw_gd := ⟨gd_at 604 (by decide +kernel) rfl, gd_at 559 (by decide +kernel) rfl, gd_at 560 (by decide +kernel) rfl⟩
theorem cw_RX0_113 : Cond.methodLink RX0 113 yX0_isAllDone ∈ lw_gd ∧ Cond.instanceMethod yX0_isAllDone ∈ lw_gd ∧ Cond.selects yX0_isAllDone.cls yX0_isAllDone yX0_isAllDone ∈ lw_gd := ⟨gd_at 647 (by decide +kernel) rfl, gd_at 649 (by decide +kernel) rfl, gd_at 19 (by decide +kernel) rfl⟩
theorem cw_RX0_109 : Cond.methodLink RX0 109 yX0_turn ∈ lw_gd ∧ Cond.instanceMethod yX0_turn ∈ lw_gd ∧ Cond.selects yX0_turn.cls yX0_turn yX0_turn ∈ lw_gd := ⟨gd_at 605 (by decide +kernel) rfl, gd_at 607 (by decide +kernel) rfl, gd_at 16 (by decide +kernel) rfl⟩
theorem cw_RX5_29 : Cond.methodLink RX5 29 yX5_far ∈ lw_gd ∧ Cond.static yX5_far ∈ lw_gd := ⟨gd_at 541 (by decide +kernel) rfl, gd_at 530 (by decide +kernel) rfl⟩
theorem cw_RX5_33 : Cond.methodLink RX5 33 yX5_nextRoom ∈ lw_gd ∧ Cond.static yX5_nextRoom ∈ lw_gd := ⟨gd_at 598 (by decide +kernel) rfl, gd_at 539 (by decide +kernel) rfl⟩
theorem cw_RX0_77 : Cond.methodLink RX0 77 yX5_lay ∈ lw_gd ∧ Cond.instanceMethod yX5_lay ∈ lw_gd ∧ Cond.selects yX5_lay.cls yX5_lay yX5_lay ∈ lw_gd := ⟨gd_at 594 (by decide +kernel) rfl, gd_at 595 (by decide +kernel) rfl, gd_at 596 (by decide +kernel) rfl⟩
theorem cw_RX0_64 : Cond.methodLink RX0 64 yX0_start ∈ lw_gd ∧ Cond.instanceMethod yX0_start ∈ lw_gd ∧ Cond.selects yX0_start.cls yX0_start yX0_start ∈ lw_gd := ⟨gd_at 590 (by decide +kernel) rfl, gd_at 591 (by decide +kernel) rfl, gd_at 592 (by decide +kernel) rfl⟩
theorem cw_RX0_68 : Cond.methodLink RX0 68 yX0_pass ∈ lw_gd ∧ Cond.instanceMethod yX0_pass ∈ lw_gd ∧ Cond.selects yX0_pass.cls yX0_pass yX0_pass ∈ lw_gd := ⟨gd_at 600 (by decide +kernel) rfl, gd_at 601 (by decide +kernel) rfl, gd_at 602 (by decide +kernel) rfl⟩
theorem cw_RX0_161 : (RX0, 161, yX7_sum, "NeverSeen") ∈ nstM ∧ Cond.static yX7_sum ∈ lw_gd := ⟨(by decide +kernel), gd_at 661 (by decide +kernel) rfl⟩
theorem cw_RX0_165 : (RX0, 165, yX7_within, "NeverSeen") ∈ nstM ∧ Cond.static yX7_within ∈ lw_gd := ⟨(by decide +kernel), gd_at 437 (by decide +kernel) rfl⟩
theorem cw_RX1_47 : Cond.methodLink RX1 47 yX2_become ∈ lw_gd ∧ Cond.instanceMethod yX2_become ∈ lw_gd ∧ Cond.selects yX2_become.cls yX2_become yX2_become ∈ lw_gd := ⟨gd_at 680 (by decide +kernel) rfl, gd_at 681 (by decide +kernel) rfl, gd_at 682 (by decide +kernel) rfl⟩
theorem cw_RX1_51 : (RX1, 51, yX7_within, "NeverSeen") ∈ nstM ∧ Cond.static yX7_within ∈ lw_gd := ⟨(by decide +kernel), gd_at 437 (by decide +kernel) rfl⟩
theorem cw_RX3_81 : Cond.methodLink RX3 81 yX3_refuse ∈ lw_gd ∧ Cond.instanceMethod yX3_refuse ∈ lw_gd ∧ Cond.selects yX3_refuse.cls yX3_refuse yX3_refuse ∈ lw_gd := ⟨gd_at 390 (by decide +kernel) rfl, gd_at 392 (by decide +kernel) rfl, gd_at 4 (by decide +kernel) rfl⟩
theorem cw_RX3_91 : Cond.methodLink RX3 91 yX3_isDigit ∈ lw_gd ∧ Cond.static yX3_isDigit ∈ lw_gd := ⟨gd_at 394 (by decide +kernel) rfl, gd_at 395 (by decide +kernel) rfl⟩
theorem cw_RX3_115 : Cond.methodLink RX3 115 yX3_isOnTape ∈ lw_gd ∧ Cond.instanceMethod yX3_isOnTape ∈ lw_gd ∧ Cond.selects yX3_isOnTape.cls yX3_isOnTape yX3_isOnTape ∈ lw_gd := ⟨gd_at 386 (by decide +kernel) rfl, gd_at 388 (by decide +kernel) rfl, gd_at 3 (by decide +kernel) rfl⟩
theorem cw_RX3_100 : Cond.methodLink RX3 100 yX3_wordOnTape ∈ lw_gd ∧ Cond.instanceMethod yX3_wordOnTape ∈ lw_gd ∧ Cond.selects yX3_wordOnTape.cls yX3_wordOnTape yX3_wordOnTape ∈ lw_gd := ⟨gd_at 379 (by decide +kernel) rfl, gd_at 381 (by decide +kernel) rfl, gd_at 2 (by decide +kernel) rfl⟩
theorem cw_RX3_84 : Cond.methodLink RX3 84 yX3_isLetter ∈ lw_gd ∧ Cond.static yX3_isLetter ∈ lw_gd := ⟨gd_at 372 (by decide +kernel) rfl, gd_at 373 (by decide +kernel) rfl⟩
theorem cw_RX3_97 : Cond.methodLink RX3 97 yX3_isSign ∈ lw_gd ∧ Cond.static yX3_isSign ∈ lw_gd := ⟨gd_at 401 (by decide +kernel) rfl, gd_at 402 (by decide +kernel) rfl⟩
theorem cw_RX3_94 : Cond.methodLink RX3 94 yX3_takeNumber ∈ lw_gd ∧ Cond.instanceMethod yX3_takeNumber ∈ lw_gd ∧ Cond.selects yX3_takeNumber.cls yX3_takeNumber yX3_takeNumber ∈ lw_gd := ⟨gd_at 397 (by decide +kernel) rfl, gd_at 399 (by decide +kernel) rfl, gd_at 5 (by decide +kernel) rfl⟩
theorem cw_RX3_88 : Cond.methodLink RX3 88 yX3_takeWord ∈ lw_gd ∧ Cond.instanceMethod yX3_takeWord ∈ lw_gd ∧ Cond.selects yX3_takeWord.cls yX3_takeWord yX3_takeWord ∈ lw_gd := ⟨gd_at 375 (by decide +kernel) rfl, gd_at 377 (by decide +kernel) rfl, gd_at 1 (by decide +kernel) rfl⟩
theorem cw_RX3_43 : Cond.methodLink RX3 43 yX3_advance ∈ lw_gd ∧ Cond.instanceMethod yX3_advance ∈ lw_gd ∧ Cond.selects yX3_advance.cls yX3_advance yX3_advance ∈ lw_gd := ⟨gd_at 368 (by decide +kernel) rfl, gd_at 370 (by decide +kernel) rfl, gd_at 0 (by decide +kernel) rfl⟩
theorem cw_RX3_62 : Cond.methodLink RX3 62 yX3_write ∈ lw_gd ∧ Cond.instanceMethod yX3_write ∈ lw_gd ∧ Cond.selects yX3_write.cls yX3_write yX3_write ∈ lw_gd := ⟨gd_at 420 (by decide +kernel) rfl, gd_at 422 (by decide +kernel) rfl, gd_at 10 (by decide +kernel) rfl⟩
theorem cw_RX3_77 : (RX3, 77, yX7_within, "NeverSeen") ∈ nstM ∧ Cond.static yX7_within ∈ lw_gd := ⟨(by decide +kernel), gd_at 437 (by decide +kernel) rfl⟩
theorem cw_RX3_50 : Cond.methodLink RX3 50 yX3_readEither ∈ lw_gd ∧ Cond.instanceMethod yX3_readEither ∈ lw_gd ∧ Cond.selects yX3_readEither.cls yX3_readEither yX3_readEither ∈ lw_gd := ⟨gd_at 408 (by decide +kernel) rfl, gd_at 410 (by decide +kernel) rfl, gd_at 7 (by decide +kernel) rfl⟩
theorem cw_RX3_46 : Cond.methodLink RX3 46 yX3_expect ∈ lw_gd ∧ Cond.instanceMethod yX3_expect ∈ lw_gd ∧ Cond.selects yX3_expect.cls yX3_expect yX3_expect ∈ lw_gd := ⟨gd_at 404 (by decide +kernel) rfl, gd_at 406 (by decide +kernel) rfl, gd_at 6 (by decide +kernel) rfl⟩
theorem cw_RX3_74 : Cond.methodLink RX3 74 yX3_readOne ∈ lw_gd ∧ Cond.instanceMethod yX3_readOne ∈ lw_gd ∧ Cond.selects yX3_readOne.cls yX3_readOne yX3_readOne ∈ lw_gd := ⟨gd_at 432 (by decide +kernel) rfl, gd_at 434 (by decide +kernel) rfl, gd_at 13 (by decide +kernel) rfl⟩
theorem cw_RX3_71 : Cond.methodLink RX3 71 yX3_readTerm ∈ lw_gd ∧ Cond.instanceMethod yX3_readTerm ∈ lw_gd ∧ Cond.selects yX3_readTerm.cls yX3_readTerm yX3_readTerm ∈ lw_gd := ⟨gd_at 428 (by decide +kernel) rfl, gd_at 430 (by decide +kernel) rfl, gd_at 12 (by decide +kernel) rfl⟩
theorem cw_RX3_68 : Cond.methodLink RX3 68 yX3_readSum ∈ lw_gd ∧ Cond.instanceMethod yX3_readSum ∈ lw_gd ∧ Cond.selects yX3_readSum.cls yX3_readSum yX3_readSum ∈ lw_gd := ⟨gd_at 424 (by decide +kernel) rfl, gd_at 426 (by decide +kernel) rfl, gd_at 11 (by decide +kernel) rfl⟩
theorem cw_RX3_65 : Cond.methodLink RX3 65 yX3_readNot ∈ lw_gd ∧ Cond.instanceMethod yX3_readNot ∈ lw_gd ∧ Cond.selects yX3_readNot.cls yX3_readNot yX3_readNot ∈ lw_gd := ⟨gd_at 416 (by decide +kernel) rfl, gd_at 418 (by decide +kernel) rfl, gd_at 9 (by decide +kernel) rfl⟩
theorem cw_RX3_59 : Cond.methodLink RX3 59 yX3_readBoth ∈ lw_gd ∧ Cond.instanceMethod yX3_readBoth ∈ lw_gd ∧ Cond.selects yX3_readBoth.cls yX3_readBoth yX3_readBoth ∈ lw_gd := ⟨gd_at 412 (by decide +kernel) rfl, gd_at 414 (by decide +kernel) rfl, gd_at 8 (by decide +kernel) rfl⟩
theorem cw_RX3_53 : Cond.methodLink RX3 53 yX6_become ∈ lw_gd ∧ Cond.instanceMethod yX6_become ∈ lw_gd ∧ Cond.selects yX6_become.cls yX6_become yX6_become ∈ lw_gd := ⟨gd_at 439 (by decide +kernel) rfl, gd_at 440 (by decide +kernel) rfl, gd_at 441 (by decide +kernel) rfl⟩
theorem cw_RX4_22 : (RX4, 22, yX7_within, "NeverSeen") ∈ nstM ∧ Cond.static yX7_within ∈ lw_gd := ⟨(by decide +kernel), gd_at 437 (by decide +kernel) rfl⟩
theorem cw_RX7_87 : Cond.methodLink RX7 87 yX7_within ∈ lw_gd ∧ Cond.static yX7_within ∈ lw_gd := ⟨gd_at 484 (by decide +kernel) rfl, gd_at 437 (by decide +kernel) rfl⟩
theorem cw_RX7_148 : Cond.methodLink RX7 148 yX2_roomListed ∈ lw_gd ∧ Cond.instanceMethod yX2_roomListed ∈ lw_gd ∧ Cond.selects yX2_roomListed.cls yX2_roomListed yX2_roomListed ∈ lw_gd := ⟨gd_at 494 (by decide +kernel) rfl, gd_at 495 (by decide +kernel) rfl, gd_at 496 (by decide +kernel) rfl⟩
theorem cw_RX7_135 : Cond.methodLink RX7 135 yX7_toldOfMaid ∈ lw_gd ∧ Cond.static yX7_toldOfMaid ∈ lw_gd := ⟨gd_at 491 (by decide +kernel) rfl, gd_at 492 (by decide +kernel) rfl⟩
theorem cw_RX7_94 : Cond.methodLink RX7 94 yX7_told ∈ lw_gd ∧ Cond.instanceMethod yX7_told ∈ lw_gd ∧ Cond.selects yX7_told.cls yX7_told yX7_told ∈ lw_gd := ⟨gd_at 487 (by decide +kernel) rfl, gd_at 488 (by decide +kernel) rfl, gd_at 489 (by decide +kernel) rfl⟩
theorem cw_RX7_98 : Cond.methodLink RX7 98 yX1_put ∈ lw_gd ∧ Cond.instanceMethod yX1_put ∈ lw_gd ∧ Cond.selects yX1_put.cls yX1_put yX1_put ∈ lw_gd := ⟨gd_at 499 (by decide +kernel) rfl, gd_at 500 (by decide +kernel) rfl, gd_at 501 (by decide +kernel) rfl⟩
theorem cw_RX7_118 : Cond.methodLink RX7 118 yX2_arrive ∈ lw_gd ∧ Cond.instanceMethod yX2_arrive ∈ lw_gd ∧ Cond.selects yX2_arrive.cls yX2_arrive yX2_arrive ∈ lw_gd := ⟨gd_at 512 (by decide +kernel) rfl, gd_at 513 (by decide +kernel) rfl, gd_at 514 (by decide +kernel) rfl⟩
theorem cw_RX7_152 : Cond.methodLink RX7 152 yX5_far ∈ lw_gd ∧ Cond.static yX5_far ∈ lw_gd := ⟨gd_at 529 (by decide +kernel) rfl, gd_at 530 (by decide +kernel) rfl⟩
theorem cw_RX7_158 : Cond.methodLink RX7 158 yX5_nextRoom ∈ lw_gd ∧ Cond.static yX5_nextRoom ∈ lw_gd := ⟨gd_at 538 (by decide +kernel) rfl, gd_at 539 (by decide +kernel) rfl⟩
theorem cw_RX7_76 : Cond.methodLink RX7 76 yX3_add ∈ lw_gd ∧ Cond.instanceMethod yX3_add ∈ lw_gd ∧ Cond.selects yX3_add.cls yX3_add yX3_add ∈ lw_gd := ⟨gd_at 360 (by decide +kernel) rfl, gd_at 361 (by decide +kernel) rfl, gd_at 362 (by decide +kernel) rfl⟩
theorem cw_RX7_80 : Cond.methodLink RX7 80 yX3_read ∈ lw_gd ∧ Cond.instanceMethod yX3_read ∈ lw_gd ∧ Cond.selects yX3_read.cls yX3_read yX3_read ∈ lw_gd := ⟨gd_at 364 (by decide +kernel) rfl, gd_at 365 (by decide +kernel) rfl, gd_at 366 (by decide +kernel) rfl⟩
theorem cw_RX7_167 : Cond.methodLink RX7 167 yX1_masterIn ∈ lw_gd ∧ Cond.instanceMethod yX1_masterIn ∈ lw_gd ∧ Cond.selects yX1_masterIn.cls yX1_masterIn yX1_masterIn ∈ lw_gd := ⟨gd_at 558 (by decide +kernel) rfl, gd_at 559 (by decide +kernel) rfl, gd_at 560 (by decide +kernel) rfl⟩
theorem cw_RX7_170 : Cond.methodLink RX7 170 yX7_longestFree ∈ lw_gd ∧ Cond.instanceMethod yX7_longestFree ∈ lw_gd ∧ Cond.selects yX7_longestFree.cls yX7_longestFree yX7_longestFree ∈ lw_gd := ⟨gd_at 570 (by decide +kernel) rfl, gd_at 572 (by decide +kernel) rfl, gd_at 14 (by decide +kernel) rfl⟩
theorem cw_RX7_173 : Cond.methodLink RX7 173 yX7_isAskedOfMorning ∈ lw_gd ∧ Cond.instanceMethod yX7_isAskedOfMorning ∈ lw_gd ∧ Cond.selects yX7_isAskedOfMorning.cls yX7_isAskedOfMorning yX7_isAskedOfMorning ∈ lw_gd := ⟨gd_at 582 (by decide +kernel) rfl, gd_at 584 (by decide +kernel) rfl, gd_at 15 (by decide +kernel) rfl⟩
theorem cw_RX7_176 : Cond.methodLink RX7 176 yX0_run ∈ lw_gd ∧ Cond.instanceMethod yX0_run ∈ lw_gd ∧ Cond.selects yX0_run.cls yX0_run yX0_run ∈ lw_gd := ⟨gd_at 586 (by decide +kernel) rfl, gd_at 587 (by decide +kernel) rfl, gd_at 588 (by decide +kernel) rfl⟩
theorem cw_RX7_184 : Cond.methodLink RX7 184 yX0_workLeft ∈ lw_gd ∧ Cond.instanceMethod yX0_workLeft ∈ lw_gd ∧ Cond.selects yX0_workLeft.cls yX0_workLeft yX0_workLeft ∈ lw_gd := ⟨gd_at 656 (by decide +kernel) rfl, gd_at 657 (by decide +kernel) rfl, gd_at 658 (by decide +kernel) rfl⟩
theorem cw_RX7_193 : Cond.methodLink RX7 193 yX0_dear ∈ lw_gd ∧ Cond.instanceMethod yX0_dear ∈ lw_gd ∧ Cond.selects yX0_dear.cls yX0_dear yX0_dear ∈ lw_gd := ⟨gd_at 663 (by decide +kernel) rfl, gd_at 664 (by decide +kernel) rfl, gd_at 665 (by decide +kernel) rfl⟩
theorem cw_RX7_181 : Cond.methodLink RX7 181 yX0_ofMaid ∈ lw_gd ∧ Cond.instanceMethod yX0_ofMaid ∈ lw_gd ∧ Cond.selects yX0_ofMaid.cls yX0_ofMaid yX0_ofMaid ∈ lw_gd := ⟨gd_at 651 (by decide +kernel) rfl, gd_at 652 (by decide +kernel) rfl, gd_at 653 (by decide +kernel) rfl⟩
theorem cw_RX7_207 : Cond.methodLink RX7 207 yX7_swapPlaces ∈ lw_gd ∧ Cond.instanceMethod yX7_swapPlaces ∈ lw_gd ∧ Cond.selects yX7_swapPlaces.cls yX7_swapPlaces yX7_swapPlaces ∈ lw_gd := ⟨gd_at 689 (by decide +kernel) rfl, gd_at 691 (by decide +kernel) rfl, gd_at 22 (by decide +kernel) rfl⟩
theorem cw_RX7_196 : Cond.methodLink RX7 196 yX7_firstOrder ∈ lw_gd ∧ Cond.instanceMethod yX7_firstOrder ∈ lw_gd ∧ Cond.selects yX7_firstOrder.cls yX7_firstOrder yX7_firstOrder ∈ lw_gd := ⟨gd_at 671 (by decide +kernel) rfl, gd_at 673 (by decide +kernel) rfl, gd_at 20 (by decide +kernel) rfl⟩
theorem cw_RX7_199 : Cond.methodLink RX7 199 yX1_become ∈ lw_gd ∧ Cond.instanceMethod yX1_become ∈ lw_gd ∧ Cond.selects yX1_become.cls yX1_become yX1_become ∈ lw_gd := ⟨gd_at 675 (by decide +kernel) rfl, gd_at 676 (by decide +kernel) rfl, gd_at 677 (by decide +kernel) rfl⟩
theorem cw_RX7_203 : Cond.methodLink RX7 203 yX7_nextOrder ∈ lw_gd ∧ Cond.instanceMethod yX7_nextOrder ∈ lw_gd ∧ Cond.selects yX7_nextOrder.cls yX7_nextOrder yX7_nextOrder ∈ lw_gd := ⟨gd_at 685 (by decide +kernel) rfl, gd_at 687 (by decide +kernel) rfl, gd_at 21 (by decide +kernel) rfl⟩
theorem cw_RX7_211 : Cond.methodLink RX7 211 yX1_leaveOut ∈ lw_gd ∧ Cond.instanceMethod yX1_leaveOut ∈ lw_gd ∧ Cond.selects yX1_leaveOut.cls yX1_leaveOut yX1_leaveOut ∈ lw_gd := ⟨gd_at 701 (by decide +kernel) rfl, gd_at 702 (by decide +kernel) rfl, gd_at 703 (by decide +kernel) rfl⟩
theorem cw_RX7_214 : Cond.methodLink RX7 214 yX4_isMissing ∈ lw_gd ∧ Cond.instanceMethod yX4_isMissing ∈ lw_gd ∧ Cond.selects yX4_isMissing.cls yX4_isMissing yX4_isMissing ∈ lw_gd := ⟨gd_at 713 (by decide +kernel) rfl, gd_at 714 (by decide +kernel) rfl, gd_at 715 (by decide +kernel) rfl⟩
theorem cw_RX7_218 : Cond.methodLink RX7 218 yX7_isTold ∈ lw_gd ∧ Cond.instanceMethod yX7_isTold ∈ lw_gd ∧ Cond.selects yX7_isTold.cls yX7_isTold yX7_isTold ∈ lw_gd := ⟨gd_at 717 (by decide +kernel) rfl, gd_at 719 (by decide +kernel) rfl, gd_at 23 (by decide +kernel) rfl⟩
theorem cw_RX7_232 : Cond.methodLink RX7 232 yX0_start ∈ lw_gd ∧ Cond.instanceMethod yX0_start ∈ lw_gd ∧ Cond.selects yX0_start.cls yX0_start yX0_start ∈ lw_gd := ⟨gd_at 733 (by decide +kernel) rfl, gd_at 591 (by decide +kernel) rfl, gd_at 592 (by decide +kernel) rfl⟩
theorem cw_RX7_235 : Cond.methodLink RX7 235 yX0_pass ∈ lw_gd ∧ Cond.instanceMethod yX0_pass ∈ lw_gd ∧ Cond.selects yX0_pass.cls yX0_pass yX0_pass ∈ lw_gd := ⟨gd_at 734 (by decide +kernel) rfl, gd_at 601 (by decide +kernel) rfl, gd_at 602 (by decide +kernel) rfl⟩
theorem cw_RX7_226 : Cond.methodLink RX7 226 yX7_doorChoices ∈ lw_gd ∧ Cond.instanceMethod yX7_doorChoices ∈ lw_gd ∧ Cond.selects yX7_doorChoices.cls yX7_doorChoices yX7_doorChoices ∈ lw_gd := ⟨gd_at 725 (by decide +kernel) rfl, gd_at 727 (by decide +kernel) rfl, gd_at 24 (by decide +kernel) rfl⟩
theorem cw_RX7_229 : Cond.methodLink RX7 229 yX7_isSeenFromDoor ∈ lw_gd ∧ Cond.instanceMethod yX7_isSeenFromDoor ∈ lw_gd ∧ Cond.selects yX7_isSeenFromDoor.cls yX7_isSeenFromDoor yX7_isSeenFromDoor ∈ lw_gd := ⟨gd_at 729 (by decide +kernel) rfl, gd_at 731 (by decide +kernel) rfl, gd_at 25 (by decide +kernel) rfl⟩
theorem cw_RX7_241 : Cond.methodLink RX7 241 yX4_become ∈ lw_gd ∧ Cond.instanceMethod yX4_become ∈ lw_gd ∧ Cond.selects yX4_become.cls yX4_become yX4_become ∈ lw_gd := ⟨gd_at 739 (by decide +kernel) rfl, gd_at 740 (by decide +kernel) rfl, gd_at 741 (by decide +kernel) rfl⟩
theorem cw_RX7_243 : Cond.methodLink RX7 243 yX4_put ∈ lw_gd ∧ Cond.instanceMethod yX4_put ∈ lw_gd ∧ Cond.selects yX4_put.cls yX4_put yX4_put ∈ lw_gd := ⟨gd_at 743 (by decide +kernel) rfl, gd_at 744 (by decide +kernel) rfl, gd_at 745 (by decide +kernel) rfl⟩
theorem cw_RX7_245 : Cond.methodLink RX7 245 yX1_draw ∈ lw_gd ∧ Cond.instanceMethod yX1_draw ∈ lw_gd ∧ Cond.selects yX1_draw.cls yX1_draw yX1_draw ∈ lw_gd := ⟨gd_at 752 (by decide +kernel) rfl, gd_at 753 (by decide +kernel) rfl, gd_at 754 (by decide +kernel) rfl⟩
theorem cw_RX7_253 : Cond.methodLink RX7 253 yX7_inLowestTerms ∈ lw_gd ∧ Cond.static yX7_inLowestTerms ∈ lw_gd := ⟨gd_at 766 (by decide +kernel) rfl, gd_at 767 (by decide +kernel) rfl⟩
theorem cw_RX7_250 : Cond.methodLink RX7 250 yX0_isAnySeen ∈ lw_gd ∧ Cond.instanceMethod yX0_isAnySeen ∈ lw_gd ∧ Cond.selects yX0_isAnySeen.cls yX0_isAnySeen yX0_isAnySeen ∈ lw_gd := ⟨gd_at 762 (by decide +kernel) rfl, gd_at 763 (by decide +kernel) rfl, gd_at 764 (by decide +kernel) rfl⟩
theorem cw_RX7_256 : Cond.methodLink RX7 256 yX7_sum ∈ lw_gd ∧ Cond.static yX7_sum ∈ lw_gd := ⟨gd_at 781 (by decide +kernel) rfl, gd_at 661 (by decide +kernel) rfl⟩
theorem cw_RX7_263 : Cond.methodLink RX7 263 yX4_has ∈ lw_gd ∧ Cond.instanceMethod yX4_has ∈ lw_gd ∧ Cond.selects yX4_has.cls yX4_has yX4_has ∈ lw_gd := ⟨gd_at 794 (by decide +kernel) rfl, gd_at 795 (by decide +kernel) rfl, gd_at 796 (by decide +kernel) rfl⟩
theorem cw_RX7_272 : Cond.methodLink RX7 272 yX7_maid ∈ lw_gd ∧ Cond.instanceMethod yX7_maid ∈ lw_gd ∧ Cond.selects yX7_maid.cls yX7_maid yX7_maid ∈ lw_gd := ⟨gd_at 803 (by decide +kernel) rfl, gd_at 509 (by decide +kernel) rfl, gd_at 510 (by decide +kernel) rfl⟩
theorem cw_RX7_274 : Cond.methodLink RX7 274 yX2_isOfKind ∈ lw_gd ∧ Cond.instanceMethod yX2_isOfKind ∈ lw_gd ∧ Cond.selects yX2_isOfKind.cls yX2_isOfKind yX2_isOfKind ∈ lw_gd := ⟨gd_at 808 (by decide +kernel) rfl, gd_at 809 (by decide +kernel) rfl, gd_at 810 (by decide +kernel) rfl⟩
theorem cw_RX8_114 : Cond.methodLink RX8 114 yX8_in ∈ lw_gd ∧ Cond.static yX8_in ∈ lw_gd := ⟨gd_at 1007 (by decide +kernel) rfl, gd_at 1008 (by decide +kernel) rfl⟩
theorem cw_RX8_124 : Cond.methodLink RX8 124 yX8_isRoom ∈ lw_gd ∧ Cond.static yX8_isRoom ∈ lw_gd := ⟨gd_at 1014 (by decide +kernel) rfl, gd_at 1015 (by decide +kernel) rfl⟩
theorem cw_RX8_131 : Cond.methodLink RX8 131 yX8_isMaid ∈ lw_gd ∧ Cond.instanceMethod yX8_isMaid ∈ lw_gd ∧ Cond.selects yX8_isMaid.cls yX8_isMaid yX8_isMaid ∈ lw_gd := ⟨gd_at 1022 (by decide +kernel) rfl, gd_at 1024 (by decide +kernel) rfl, gd_at 29 (by decide +kernel) rfl⟩
theorem cw_RX8_128 : Cond.methodLink RX8 128 yX8_isStay ∈ lw_gd ∧ Cond.instanceMethod yX8_isStay ∈ lw_gd ∧ Cond.selects yX8_isStay.cls yX8_isStay yX8_isStay ∈ lw_gd := ⟨gd_at 1018 (by decide +kernel) rfl, gd_at 1020 (by decide +kernel) rfl, gd_at 28 (by decide +kernel) rfl⟩
theorem cw_RX8_136 : Cond.methodLink RX8 136 yX8_isOf ∈ lw_gd ∧ Cond.instanceMethod yX8_isOf ∈ lw_gd ∧ Cond.selects yX8_isOf.cls yX8_isOf yX8_isOf ∈ lw_gd := ⟨gd_at 1010 (by decide +kernel) rfl, gd_at 1012 (by decide +kernel) rfl, gd_at 27 (by decide +kernel) rfl⟩
theorem cw_RX8_148 : Cond.methodLink RX8 148 yX8_told ∈ lw_gd ∧ Cond.instanceMethod yX8_told ∈ lw_gd ∧ Cond.selects yX8_told.cls yX8_told yX8_told ∈ lw_gd := ⟨gd_at 1030 (by decide +kernel) rfl, gd_at 1031 (by decide +kernel) rfl, gd_at 1032 (by decide +kernel) rfl⟩
theorem cw_RX8_152 : Cond.methodLink RX8 152 yX8_lays ∈ lw_gd ∧ Cond.instanceMethod yX8_lays ∈ lw_gd ∧ Cond.selects yX8_lays.cls yX8_lays yX8_lays ∈ lw_gd := ⟨gd_at 1036 (by decide +kernel) rfl, gd_at 1038 (by decide +kernel) rfl, gd_at 30 (by decide +kernel) rfl⟩
theorem cw_RX8_160 : Cond.methodLink RX8 160 yX8_isBeside ∈ lw_gd ∧ Cond.instanceMethod yX8_isBeside ∈ lw_gd ∧ Cond.selects yX8_isBeside.cls yX8_isBeside yX8_isBeside ∈ lw_gd := ⟨gd_at 1065 (by decide +kernel) rfl, gd_at 1067 (by decide +kernel) rfl, gd_at 32 (by decide +kernel) rfl⟩
theorem cw_RX8_163 : Cond.methodLink RX8 163 yX8_gathers ∈ lw_gd ∧ Cond.instanceMethod yX8_gathers ∈ lw_gd ∧ Cond.selects yX8_gathers.cls yX8_gathers yX8_gathers ∈ lw_gd := ⟨gd_at 1061 (by decide +kernel) rfl, gd_at 1063 (by decide +kernel) rfl, gd_at 31 (by decide +kernel) rfl⟩
theorem cw_RX8_166 : Cond.methodLink RX8 166 yX8_nextTo ∈ lw_gd ∧ Cond.instanceMethod yX8_nextTo ∈ lw_gd ∧ Cond.selects yX8_nextTo.cls yX8_nextTo yX8_nextTo ∈ lw_gd := ⟨gd_at 1069 (by decide +kernel) rfl, gd_at 1071 (by decide +kernel) rfl, gd_at 33 (by decide +kernel) rfl⟩
theorem cw_RX8_169 : Cond.methodLink RX8 169 yX8_masterIn ∈ lw_gd ∧ Cond.instanceMethod yX8_masterIn ∈ lw_gd ∧ Cond.selects yX8_masterIn.cls yX8_masterIn yX8_masterIn ∈ lw_gd := ⟨gd_at 1077 (by decide +kernel) rfl, gd_at 1079 (by decide +kernel) rfl, gd_at 34 (by decide +kernel) rfl⟩
theorem cw_RX8_176 : Cond.methodLink RX8 176 yX8_longestOf ∈ lw_gd ∧ Cond.instanceMethod yX8_longestOf ∈ lw_gd ∧ Cond.selects yX8_longestOf.cls yX8_longestOf yX8_longestOf ∈ lw_gd := ⟨gd_at 1089 (by decide +kernel) rfl, gd_at 1091 (by decide +kernel) rfl, gd_at 35 (by decide +kernel) rfl⟩
theorem cw_RX8_195 : Cond.methodLink RX8 195 yX8_byteAt ∈ lw_gd ∧ Cond.instanceMethod yX8_byteAt ∈ lw_gd ∧ Cond.selects yX8_byteAt.cls yX8_byteAt yX8_byteAt ∈ lw_gd := ⟨gd_at 1115 (by decide +kernel) rfl, gd_at 1117 (by decide +kernel) rfl, gd_at 38 (by decide +kernel) rfl⟩
theorem cw_RX8_223 : Cond.methodLink RX8 223 yX8_isLetter ∈ lw_gd ∧ Cond.instanceMethod yX8_isLetter ∈ lw_gd ∧ Cond.selects yX8_isLetter.cls yX8_isLetter yX8_isLetter ∈ lw_gd := ⟨gd_at 1127 (by decide +kernel) rfl, gd_at 1129 (by decide +kernel) rfl, gd_at 40 (by decide +kernel) rfl⟩
theorem cw_RX8_229 : Cond.methodLink RX8 229 yX8_fail ∈ lw_gd ∧ Cond.instanceMethod yX8_fail ∈ lw_gd ∧ Cond.selects yX8_fail.cls yX8_fail yX8_fail ∈ lw_gd := ⟨gd_at 1135 (by decide +kernel) rfl, gd_at 1137 (by decide +kernel) rfl, gd_at 42 (by decide +kernel) rfl⟩
theorem cw_RX8_232 : Cond.methodLink RX8 232 yX8_next ∈ lw_gd ∧ Cond.instanceMethod yX8_next ∈ lw_gd ∧ Cond.selects yX8_next.cls yX8_next yX8_next ∈ lw_gd := ⟨gd_at 1111 (by decide +kernel) rfl, gd_at 1113 (by decide +kernel) rfl, gd_at 37 (by decide +kernel) rfl⟩
theorem cw_RX8_235 : Cond.methodLink RX8 235 yX8_isWord ∈ lw_gd ∧ Cond.instanceMethod yX8_isWord ∈ lw_gd ∧ Cond.selects yX8_isWord.cls yX8_isWord yX8_isWord ∈ lw_gd := ⟨gd_at 1123 (by decide +kernel) rfl, gd_at 1125 (by decide +kernel) rfl, gd_at 39 (by decide +kernel) rfl⟩
theorem cw_RX8_264 : Cond.methodLink RX8 264 yX8_atom ∈ lw_gd ∧ Cond.instanceMethod yX8_atom ∈ lw_gd ∧ Cond.selects yX8_atom.cls yX8_atom yX8_atom ∈ lw_gd := ⟨gd_at 1163 (by decide +kernel) rfl, gd_at 1165 (by decide +kernel) rfl, gd_at 49 (by decide +kernel) rfl⟩
theorem cw_RX8_257 : Cond.methodLink RX8 257 yX8_isSign ∈ lw_gd ∧ Cond.instanceMethod yX8_isSign ∈ lw_gd ∧ Cond.selects yX8_isSign.cls yX8_isSign yX8_isSign ∈ lw_gd := ⟨gd_at 1167 (by decide +kernel) rfl, gd_at 1169 (by decide +kernel) rfl, gd_at 50 (by decide +kernel) rfl⟩
theorem cw_RX8_274 : Cond.methodLink RX8 274 yX8_term ∈ lw_gd ∧ Cond.instanceMethod yX8_term ∈ lw_gd ∧ Cond.selects yX8_term.cls yX8_term yX8_term ∈ lw_gd := ⟨gd_at 1159 (by decide +kernel) rfl, gd_at 1161 (by decide +kernel) rfl, gd_at 48 (by decide +kernel) rfl⟩
theorem cw_RX8_282 : Cond.methodLink RX8 282 yX8_added ∈ lw_gd ∧ Cond.instanceMethod yX8_added ∈ lw_gd ∧ Cond.selects yX8_added.cls yX8_added yX8_added ∈ lw_gd := ⟨gd_at 1155 (by decide +kernel) rfl, gd_at 1157 (by decide +kernel) rfl, gd_at 47 (by decide +kernel) rfl⟩
theorem cw_RX8_260 : Cond.methodLink RX8 260 yX8_opens ∈ lw_gd ∧ Cond.instanceMethod yX8_opens ∈ lw_gd ∧ Cond.selects yX8_opens.cls yX8_opens yX8_opens ∈ lw_gd := ⟨gd_at 1151 (by decide +kernel) rfl, gd_at 1153 (by decide +kernel) rfl, gd_at 46 (by decide +kernel) rfl⟩
theorem cw_RX8_279 : Cond.methodLink RX8 279 yX8_not ∈ lw_gd ∧ Cond.instanceMethod yX8_not ∈ lw_gd ∧ Cond.selects yX8_not.cls yX8_not yX8_not ∈ lw_gd := ⟨gd_at 1147 (by decide +kernel) rfl, gd_at 1149 (by decide +kernel) rfl, gd_at 45 (by decide +kernel) rfl⟩
theorem cw_RX8_287 : Cond.methodLink RX8 287 yX8_both ∈ lw_gd ∧ Cond.instanceMethod yX8_both ∈ lw_gd ∧ Cond.selects yX8_both.cls yX8_both yX8_both ∈ lw_gd := ⟨gd_at 1143 (by decide +kernel) rfl, gd_at 1145 (by decide +kernel) rfl, gd_at 44 (by decide +kernel) rfl⟩
theorem cw_RX8_271 : Cond.methodLink RX8 271 yX8_name ∈ lw_gd ∧ Cond.instanceMethod yX8_name ∈ lw_gd ∧ Cond.selects yX8_name.cls yX8_name yX8_name ∈ lw_gd := ⟨gd_at 1171 (by decide +kernel) rfl, gd_at 1173 (by decide +kernel) rfl, gd_at 51 (by decide +kernel) rfl⟩
theorem cw_RX8_268 : Cond.methodLink RX8 268 yX8_either ∈ lw_gd ∧ Cond.instanceMethod yX8_either ∈ lw_gd ∧ Cond.selects yX8_either.cls yX8_either yX8_either ∈ lw_gd := ⟨gd_at 1139 (by decide +kernel) rfl, gd_at 1141 (by decide +kernel) rfl, gd_at 43 (by decide +kernel) rfl⟩
theorem cw_RX8_290 : Cond.methodLink RX8 290 yX8_part ∈ lw_gd ∧ Cond.instanceMethod yX8_part ∈ lw_gd ∧ Cond.selects yX8_part.cls yX8_part yX8_part ∈ lw_gd := ⟨gd_at 1131 (by decide +kernel) rfl, gd_at 1133 (by decide +kernel) rfl, gd_at 41 (by decide +kernel) rfl⟩
theorem cw_RX8_294 : Cond.methodLink RX8 294 yX8_read ∈ lw_gd ∧ Cond.instanceMethod yX8_read ∈ lw_gd ∧ Cond.selects yX8_read.cls yX8_read yX8_read ∈ lw_gd := ⟨gd_at 1107 (by decide +kernel) rfl, gd_at 1109 (by decide +kernel) rfl, gd_at 36 (by decide +kernel) rfl⟩
theorem cw_RX8_300 : Cond.methodLink RX8 300 yX8_within ∈ lw_gd ∧ Cond.static yX8_within ∈ lw_gd := ⟨gd_at 1210 (by decide +kernel) rfl, gd_at 1211 (by decide +kernel) rfl⟩
theorem cw_RX8_310 : Cond.methodLink RX8 310 yX8_aimOf ∈ lw_gd ∧ Cond.instanceMethod yX8_aimOf ∈ lw_gd ∧ Cond.selects yX8_aimOf.cls yX8_aimOf yX8_aimOf ∈ lw_gd := ⟨gd_at 1202 (by decide +kernel) rfl, gd_at 1204 (by decide +kernel) rfl, gd_at 56 (by decide +kernel) rfl⟩
theorem cw_RX8_313 : Cond.methodLink RX8 313 yX8_says ∈ lw_gd ∧ Cond.instanceMethod yX8_says ∈ lw_gd ∧ Cond.selects yX8_says.cls yX8_says yX8_says ∈ lw_gd := ⟨gd_at 1206 (by decide +kernel) rfl, gd_at 1208 (by decide +kernel) rfl, gd_at 57 (by decide +kernel) rfl⟩
theorem cw_RX8_317 : Cond.methodLink RX8 317 yX8_worksOf ∈ lw_gd ∧ Cond.instanceMethod yX8_worksOf ∈ lw_gd ∧ Cond.selects yX8_worksOf.cls yX8_worksOf yX8_worksOf ∈ lw_gd := ⟨gd_at 1213 (by decide +kernel) rfl, gd_at 1215 (by decide +kernel) rfl, gd_at 58 (by decide +kernel) rfl⟩
theorem cw_RX8_320 : Cond.methodLink RX8 320 yX8_takesOf ∈ lw_gd ∧ Cond.instanceMethod yX8_takesOf ∈ lw_gd ∧ Cond.selects yX8_takesOf.cls yX8_takesOf yX8_takesOf ∈ lw_gd := ⟨gd_at 1217 (by decide +kernel) rfl, gd_at 1219 (by decide +kernel) rfl, gd_at 59 (by decide +kernel) rfl⟩
theorem cw_RX8_327 : Cond.methodLink RX8 327 yX8_isReady ∈ lw_gd ∧ Cond.instanceMethod yX8_isReady ∈ lw_gd ∧ Cond.selects yX8_isReady.cls yX8_isReady yX8_isReady ∈ lw_gd := ⟨gd_at 1221 (by decide +kernel) rfl, gd_at 1223 (by decide +kernel) rfl, gd_at 60 (by decide +kernel) rfl⟩
theorem cw_RX8_323 : Cond.methodLink RX8 323 yX8_acts ∈ lw_gd ∧ Cond.instanceMethod yX8_acts ∈ lw_gd ∧ Cond.selects yX8_acts.cls yX8_acts yX8_acts ∈ lw_gd := ⟨gd_at 1198 (by decide +kernel) rfl, gd_at 1200 (by decide +kernel) rfl, gd_at 55 (by decide +kernel) rfl⟩
theorem cw_RX8_330 : Cond.methodLink RX8 330 yX8_startsOff ∈ lw_gd ∧ Cond.instanceMethod yX8_startsOff ∈ lw_gd ∧ Cond.selects yX8_startsOff.cls yX8_startsOff yX8_startsOff ∈ lw_gd := ⟨gd_at 1190 (by decide +kernel) rfl, gd_at 1192 (by decide +kernel) rfl, gd_at 53 (by decide +kernel) rfl⟩
theorem cw_RX8_333 : Cond.methodLink RX8 333 yX8_lives ∈ lw_gd ∧ Cond.instanceMethod yX8_lives ∈ lw_gd ∧ Cond.selects yX8_lives.cls yX8_lives yX8_lives ∈ lw_gd := ⟨gd_at 1194 (by decide +kernel) rfl, gd_at 1196 (by decide +kernel) rfl, gd_at 54 (by decide +kernel) rfl⟩
theorem cw_RX8_337 : Cond.methodLink RX8 337 yX8_livesAll ∈ lw_gd ∧ Cond.instanceMethod yX8_livesAll ∈ lw_gd ∧ Cond.selects yX8_livesAll.cls yX8_livesAll yX8_livesAll ∈ lw_gd := ⟨gd_at 1186 (by decide +kernel) rfl, gd_at 1188 (by decide +kernel) rfl, gd_at 52 (by decide +kernel) rfl⟩
theorem cw_RX8_340 : Cond.methodLink RX8 340 yX8_leftAll ∈ lw_gd ∧ Cond.instanceMethod yX8_leftAll ∈ lw_gd ∧ Cond.selects yX8_leftAll.cls yX8_leftAll yX8_leftAll ∈ lw_gd := ⟨gd_at 1225 (by decide +kernel) rfl, gd_at 1227 (by decide +kernel) rfl, gd_at 61 (by decide +kernel) rfl⟩
theorem cw_RX8_345 : Cond.methodLink RX8 345 yX8_dear ∈ lw_gd ∧ Cond.instanceMethod yX8_dear ∈ lw_gd ∧ Cond.selects yX8_dear.cls yX8_dear yX8_dear ∈ lw_gd := ⟨gd_at 1237 (by decide +kernel) rfl, gd_at 1239 (by decide +kernel) rfl, gd_at 63 (by decide +kernel) rfl⟩
theorem cw_RX8_354 : Cond.methodLink RX8 354 yX8_orders ∈ lw_gd ∧ Cond.instanceMethod yX8_orders ∈ lw_gd ∧ Cond.selects yX8_orders.cls yX8_orders yX8_orders ∈ lw_gd := ⟨gd_at 1233 (by decide +kernel) rfl, gd_at 1235 (by decide +kernel) rfl, gd_at 62 (by decide +kernel) rfl⟩
theorem cw_RX8_357 : Cond.methodLink RX8 357 yX8_isSheet ∈ lw_gd ∧ Cond.static yX8_isSheet ∈ lw_gd := ⟨gd_at 1257 (by decide +kernel) rfl, gd_at 1258 (by decide +kernel) rfl⟩
theorem cw_RX8_362 : Cond.methodLink RX8 362 yX8_isSo ∈ lw_gd ∧ Cond.instanceMethod yX8_isSo ∈ lw_gd ∧ Cond.selects yX8_isSo.cls yX8_isSo yX8_isSo ∈ lw_gd := ⟨gd_at 1265 (by decide +kernel) rfl, gd_at 1267 (by decide +kernel) rfl, gd_at 64 (by decide +kernel) rfl⟩
theorem cw_RX8_365 : Cond.methodLink RX8 365 yX8_tries ∈ lw_gd ∧ Cond.instanceMethod yX8_tries ∈ lw_gd ∧ Cond.selects yX8_tries.cls yX8_tries yX8_tries ∈ lw_gd := ⟨gd_at 1269 (by decide +kernel) rfl, gd_at 1271 (by decide +kernel) rfl, gd_at 65 (by decide +kernel) rfl⟩
theorem cw_RX8_370 : Cond.methodLink RX8 370 yX8_sheet ∈ lw_gd ∧ Cond.instanceMethod yX8_sheet ∈ lw_gd ∧ Cond.selects yX8_sheet.cls yX8_sheet yX8_sheet ∈ lw_gd := ⟨gd_at 1278 (by decide +kernel) rfl, gd_at 1279 (by decide +kernel) rfl, gd_at 1280 (by decide +kernel) rfl⟩
theorem cw_RX8_374 : Cond.methodLink RX8 374 yX8_draws ∈ lw_gd ∧ Cond.instanceMethod yX8_draws ∈ lw_gd ∧ Cond.selects yX8_draws.cls yX8_draws yX8_draws ∈ lw_gd := ⟨gd_at 1288 (by decide +kernel) rfl, gd_at 1290 (by decide +kernel) rfl, gd_at 66 (by decide +kernel) rfl⟩
theorem cw_RX8_396 : Cond.methodLink RX8 396 yX8_maid ∈ lw_gd ∧ Cond.instanceMethod yX8_maid ∈ lw_gd ∧ Cond.selects yX8_maid.cls yX8_maid yX8_maid ∈ lw_gd := ⟨gd_at 1325 (by decide +kernel) rfl, gd_at 1045 (by decide +kernel) rfl, gd_at 1046 (by decide +kernel) rfl⟩
theorem cw_RX8_399 : Cond.methodLink RX8 399 yX8_over ∈ lw_gd ∧ Cond.static yX8_over ∈ lw_gd := ⟨gd_at 1330 (by decide +kernel) rfl, gd_at 1331 (by decide +kernel) rfl⟩
theorem mf_X0_isAllDone : MF yX0_isAllDone cX0_isAllDone 2 (some .boolean) 0 := ⟨gd_at 650 (by decide +kernel) rfl, gd_at 72 (by decide +kernel) rfl, by decide +kernel, rfl, by decide⟩
theorem mf_X0_othersWith : MF yX0_othersWith cX0_othersWith 4 (some .int) 1 := ⟨gd_at 617 (by decide +kernel) rfl, gd_at 72 (by decide +kernel) rfl, by decide +kernel, rfl, by decide⟩
theorem mf_X6_joined : MF yX6_joined cX6_joined 3 (some .int) 3 := ⟨gd_at 624 (by decide +kernel) rfl, gd_at 74 (by decide +kernel) rfl, by decide +kernel, rfl, by decide⟩
theorem mf_X6_value : MF yX6_value cX6_value 7 (some .int) 3 := ⟨gd_at 621 (by decide +kernel) rfl, gd_at 74 (by decide +kernel) rfl, by decide +kernel, rfl, by decide⟩
theorem mf_X0_tells : MF yX0_tells cX0_tells 6 (some .int) 4 := ⟨gd_at 613 (by decide +kernel) rfl, gd_at 72 (by decide +kernel) rfl, by decide +kernel, rfl, by decide⟩
theorem mf_X2_dares : MF yX2_dares cX2_dares 2 (some .boolean) 1 := ⟨gd_at 642 (by decide +kernel) rfl, gd_at 70 (by decide +kernel) rfl, by decide +kernel, rfl, by decide⟩
theorem mf_X7_within : MF yX7_within cX7_within 2 (some .boolean) 2 := ⟨gd_at 438 (by decide +kernel) rfl, gd_at 68 (by decide +kernel) rfl, by decide +kernel, rfl, by decide⟩
theorem mf_X2_roomListed : MF yX2_roomListed cX2_roomListed 2 (some .int) 1 := ⟨gd_at 497 (by decide +kernel) rfl, gd_at 70 (by decide +kernel) rfl, by decide +kernel, rfl, by decide⟩
theorem mf_X2_takes : MF yX2_takes cX2_takes 2 (some .int) 1 := ⟨gd_at 646 (by decide +kernel) rfl, gd_at 70 (by decide +kernel) rfl, by decide +kernel, rfl, by decide⟩
theorem mf_X2_works : MF yX2_works cX2_works 2 (some .int) 1 := ⟨gd_at 632 (by decide +kernel) rfl, gd_at 70 (by decide +kernel) rfl, by decide +kernel, rfl, by decide⟩
theorem mf_X5_nextLaid : MF yX5_nextLaid cX5_nextLaid 3 (some .int) 2 := ⟨gd_at 637 (by decide +kernel) rfl, gd_at 73 (by decide +kernel) rfl, by decide +kernel, rfl, by decide⟩
theorem mf_X0_turn : MF yX0_turn cX0_turn 8 none 3 := ⟨gd_at 608 (by decide +kernel) rfl, gd_at 72 (by decide +kernel) rfl, by decide +kernel, rfl, by decide⟩
theorem mf_X1_masterIn : MF yX1_masterIn cX1_masterIn 5 (some .int) 1 := ⟨gd_at 561 (by decide +kernel) rfl, gd_at 69 (by decide +kernel) rfl, by decide +kernel, rfl, by decide⟩
theorem mf_X0_pass : MF yX0_pass cX0_pass 4 none 1 := ⟨gd_at 603 (by decide +kernel) rfl, gd_at 72 (by decide +kernel) rfl, by decide +kernel, rfl, by decide⟩
theorem mf_X5_far : MF yX5_far cX5_far 5 (some .int) 3 := ⟨gd_at 531 (by decide +kernel) rfl, gd_at 73 (by decide +kernel) rfl, by decide +kernel, rfl, by decide⟩
theorem mf_X5_nextRoom : MF yX5_nextRoom cX5_nextRoom 6 (some .int) 3 := ⟨gd_at 540 (by decide +kernel) rfl, gd_at 73 (by decide +kernel) rfl, by decide +kernel, rfl, by decide⟩
theorem mf_X5_lay : MF yX5_lay cX5_lay 3 none 1 := ⟨gd_at 597 (by decide +kernel) rfl, gd_at 73 (by decide +kernel) rfl, by decide +kernel, rfl, by decide⟩
theorem mf_X0_start : MF yX0_start cX0_start 5 none 1 := ⟨gd_at 593 (by decide +kernel) rfl, gd_at 72 (by decide +kernel) rfl, by decide +kernel, rfl, by decide⟩
theorem mf_X0_run : MF yX0_run cX0_run 4 none 2 := ⟨gd_at 589 (by decide +kernel) rfl, gd_at 72 (by decide +kernel) rfl, by decide +kernel, rfl, by decide⟩
theorem mf_X7_sum : MF yX7_sum cX7_sum 3 (some .int) 1 := ⟨gd_at 662 (by decide +kernel) rfl, gd_at 68 (by decide +kernel) rfl, by decide +kernel, rfl, by decide⟩
theorem mf_X0_workLeft : MF yX0_workLeft cX0_workLeft 1 (some .int) 0 := ⟨gd_at 659 (by decide +kernel) rfl, gd_at 72 (by decide +kernel) rfl, by decide +kernel, rfl, by decide⟩
theorem mf_X0_dear : MF yX0_dear cX0_dear 1 (some .int) 0 := ⟨gd_at 666 (by decide +kernel) rfl, gd_at 72 (by decide +kernel) rfl, by decide +kernel, rfl, by decide⟩
theorem mf_X0_isAnySeen : MF yX0_isAnySeen cX0_isAnySeen 2 (some .boolean) 0 := ⟨gd_at 765 (by decide +kernel) rfl, gd_at 72 (by decide +kernel) rfl, by decide +kernel, rfl, by decide⟩
theorem mf_X0_ofMaid : MF yX0_ofMaid cX0_ofMaid 3 (some .int) 2 := ⟨gd_at 654 (by decide +kernel) rfl, gd_at 72 (by decide +kernel) rfl, by decide +kernel, rfl, by decide⟩
theorem mf_X2_become : MF yX2_become cX2_become 2 none 1 := ⟨gd_at 683 (by decide +kernel) rfl, gd_at 70 (by decide +kernel) rfl, by decide +kernel, rfl, by decide⟩
theorem mf_X1_become : MF yX1_become cX1_become 3 none 1 := ⟨gd_at 678 (by decide +kernel) rfl, gd_at 69 (by decide +kernel) rfl, by decide +kernel, rfl, by decide⟩
theorem mf_X1_put : MF yX1_put cX1_put 4 none 3 := ⟨gd_at 502 (by decide +kernel) rfl, gd_at 69 (by decide +kernel) rfl, by decide +kernel, rfl, by decide⟩
theorem mf_X1_leaveOut : MF yX1_leaveOut cX1_leaveOut 3 none 1 := ⟨gd_at 704 (by decide +kernel) rfl, gd_at 69 (by decide +kernel) rfl, by decide +kernel, rfl, by decide⟩
theorem mf_X1_draw : MF yX1_draw cX1_draw 4 none 1 := ⟨gd_at 755 (by decide +kernel) rfl, gd_at 69 (by decide +kernel) rfl, by decide +kernel, rfl, by decide⟩
theorem mf_X2_arrive : MF yX2_arrive cX2_arrive 4 none 3 := ⟨gd_at 515 (by decide +kernel) rfl, gd_at 70 (by decide +kernel) rfl, by decide +kernel, rfl, by decide⟩
theorem mf_X2_isOfKind : MF yX2_isOfKind cX2_isOfKind 4 (some .boolean) 1 := ⟨gd_at 811 (by decide +kernel) rfl, gd_at 70 (by decide +kernel) rfl, by decide +kernel, rfl, by decide⟩
theorem mf_X3_add : MF yX3_add cX3_add 2 (some .boolean) 1 := ⟨gd_at 363 (by decide +kernel) rfl, gd_at 71 (by decide +kernel) rfl, by decide +kernel, rfl, by decide⟩
theorem mf_X3_isDigit : MF yX3_isDigit cX3_isDigit 1 (some .boolean) 1 := ⟨gd_at 396 (by decide +kernel) rfl, gd_at 71 (by decide +kernel) rfl, by decide +kernel, rfl, by decide⟩
theorem mf_X3_isLetter : MF yX3_isLetter cX3_isLetter 1 (some .boolean) 1 := ⟨gd_at 374 (by decide +kernel) rfl, gd_at 71 (by decide +kernel) rfl, by decide +kernel, rfl, by decide⟩
theorem mf_X3_isSign : MF yX3_isSign cX3_isSign 1 (some .boolean) 1 := ⟨gd_at 403 (by decide +kernel) rfl, gd_at 71 (by decide +kernel) rfl, by decide +kernel, rfl, by decide⟩
theorem mf_X3_refuse : MF yX3_refuse cX3_refuse 1 none 0 := ⟨gd_at 393 (by decide +kernel) rfl, gd_at 71 (by decide +kernel) rfl, by decide +kernel, rfl, by decide⟩
theorem mf_X3_takeNumber : MF yX3_takeNumber cX3_takeNumber 1 none 0 := ⟨gd_at 400 (by decide +kernel) rfl, gd_at 71 (by decide +kernel) rfl, by decide +kernel, rfl, by decide⟩
theorem mf_X3_isOnTape : MF yX3_isOnTape cX3_isOnTape 4 (some .boolean) 2 := ⟨gd_at 389 (by decide +kernel) rfl, gd_at 71 (by decide +kernel) rfl, by decide +kernel, rfl, by decide⟩
theorem mf_X3_wordOnTape : MF yX3_wordOnTape cX3_wordOnTape 4 (some .int) 0 := ⟨gd_at 382 (by decide +kernel) rfl, gd_at 71 (by decide +kernel) rfl, by decide +kernel, rfl, by decide⟩
theorem mf_X3_takeWord : MF yX3_takeWord cX3_takeWord 1 none 0 := ⟨gd_at 378 (by decide +kernel) rfl, gd_at 71 (by decide +kernel) rfl, by decide +kernel, rfl, by decide⟩
theorem mf_X3_advance : MF yX3_advance cX3_advance 1 none 0 := ⟨gd_at 371 (by decide +kernel) rfl, gd_at 71 (by decide +kernel) rfl, by decide +kernel, rfl, by decide⟩
theorem mf_X3_expect : MF yX3_expect cX3_expect 2 none 1 := ⟨gd_at 407 (by decide +kernel) rfl, gd_at 71 (by decide +kernel) rfl, by decide +kernel, rfl, by decide⟩
theorem mf_X3_write : MF yX3_write cX3_write 2 none 1 := ⟨gd_at 423 (by decide +kernel) rfl, gd_at 71 (by decide +kernel) rfl, by decide +kernel, rfl, by decide⟩
theorem mf_X3_readEither : MF yX3_readEither cX3_readEither 3 none 1 := ⟨gd_at 411 (by decide +kernel) rfl, gd_at 71 (by decide +kernel) rfl, by decide +kernel, rfl, by decide⟩
theorem mf_X3_readOne : MF yX3_readOne cX3_readOne 2 none 1 := ⟨gd_at 435 (by decide +kernel) rfl, gd_at 71 (by decide +kernel) rfl, by decide +kernel, rfl, by decide⟩
theorem mf_X3_readTerm : MF yX3_readTerm cX3_readTerm 3 none 1 := ⟨gd_at 431 (by decide +kernel) rfl, gd_at 71 (by decide +kernel) rfl, by decide +kernel, rfl, by decide⟩
theorem mf_X3_readSum : MF yX3_readSum cX3_readSum 4 none 1 := ⟨gd_at 427 (by decide +kernel) rfl, gd_at 71 (by decide +kernel) rfl, by decide +kernel, rfl, by decide⟩
theorem mf_X3_readNot : MF yX3_readNot cX3_readNot 3 none 1 := ⟨gd_at 419 (by decide +kernel) rfl, gd_at 71 (by decide +kernel) rfl, by decide +kernel, rfl, by decide⟩
theorem mf_X3_readBoth : MF yX3_readBoth cX3_readBoth 3 none 1 := ⟨gd_at 415 (by decide +kernel) rfl, gd_at 71 (by decide +kernel) rfl, by decide +kernel, rfl, by decide⟩
theorem mf_X6_become : MF yX6_become cX6_become 3 none 2 := ⟨gd_at 442 (by decide +kernel) rfl, gd_at 74 (by decide +kernel) rfl, by decide +kernel, rfl, by decide⟩
theorem mf_X3_read : MF yX3_read cX3_read 3 (some .int) 1 := ⟨gd_at 367 (by decide +kernel) rfl, gd_at 71 (by decide +kernel) rfl, by decide +kernel, rfl, by decide⟩
theorem mf_X4_isMissing : MF yX4_isMissing cX4_isMissing 1 (some .boolean) 0 := ⟨gd_at 716 (by decide +kernel) rfl, gd_at 75 (by decide +kernel) rfl, by decide +kernel, rfl, by decide⟩
theorem mf_X4_become : MF yX4_become cX4_become 4 none 2 := ⟨gd_at 742 (by decide +kernel) rfl, gd_at 75 (by decide +kernel) rfl, by decide +kernel, rfl, by decide⟩
theorem mf_X4_put : MF yX4_put cX4_put 3 none 2 := ⟨gd_at 746 (by decide +kernel) rfl, gd_at 75 (by decide +kernel) rfl, by decide +kernel, rfl, by decide⟩
theorem mf_X4_has : MF yX4_has cX4_has 3 (some .boolean) 2 := ⟨gd_at 797 (by decide +kernel) rfl, gd_at 75 (by decide +kernel) rfl, by decide +kernel, rfl, by decide⟩
theorem mf_X7_toldOfMaid : MF yX7_toldOfMaid cX7_toldOfMaid 2 (some .int) 2 := ⟨gd_at 493 (by decide +kernel) rfl, gd_at 68 (by decide +kernel) rfl, by decide +kernel, rfl, by decide⟩
theorem mf_X7_told : MF yX7_told cX7_told 3 (some .int) 2 := ⟨gd_at 490 (by decide +kernel) rfl, gd_at 68 (by decide +kernel) rfl, by decide +kernel, rfl, by decide⟩
theorem mf_X7_set : MF yX7_set cX7_set 5 (some .int) 3 := ⟨gd_at 481 (by decide +kernel) rfl, gd_at 68 (by decide +kernel) rfl, by decide +kernel, rfl, by decide⟩
theorem mf_X7_stay : MF yX7_stay cX7_stay 3 (some .int) 2 := ⟨gd_at 507 (by decide +kernel) rfl, gd_at 68 (by decide +kernel) rfl, by decide +kernel, rfl, by decide⟩
theorem mf_X7_maid : MF yX7_maid cX7_maid 4 (some .int) 3 := ⟨gd_at 511 (by decide +kernel) rfl, gd_at 68 (by decide +kernel) rfl, by decide +kernel, rfl, by decide⟩
theorem mf_X7_list : MF yX7_list cX7_list 4 (some .int) 2 := ⟨gd_at 519 (by decide +kernel) rfl, gd_at 68 (by decide +kernel) rfl, by decide +kernel, rfl, by decide⟩
theorem mf_X7_clear : MF yX7_clear cX7_clear 3 (some .int) 1 := ⟨gd_at 523 (by decide +kernel) rfl, gd_at 68 (by decide +kernel) rfl, by decide +kernel, rfl, by decide⟩
theorem mf_X7_way : MF yX7_way cX7_way 4 (some .int) 3 := ⟨gd_at 528 (by decide +kernel) rfl, gd_at 68 (by decide +kernel) rfl, by decide +kernel, rfl, by decide⟩
theorem mf_X7_feed : MF yX7_feed cX7_feed 2 (some .int) 1 := ⟨gd_at 545 (by decide +kernel) rfl, gd_at 68 (by decide +kernel) rfl, by decide +kernel, rfl, by decide⟩
theorem mf_X7_text : MF yX7_text cX7_text 2 (some .int) 0 := ⟨gd_at 549 (by decide +kernel) rfl, gd_at 68 (by decide +kernel) rfl, by decide +kernel, rfl, by decide⟩
theorem mf_X7_force : MF yX7_force cX7_force 3 (some .int) 1 := ⟨gd_at 553 (by decide +kernel) rfl, gd_at 68 (by decide +kernel) rfl, by decide +kernel, rfl, by decide⟩
theorem mf_X7_master : MF yX7_master cX7_master 2 (some .int) 1 := ⟨gd_at 557 (by decide +kernel) rfl, gd_at 68 (by decide +kernel) rfl, by decide +kernel, rfl, by decide⟩
theorem mf_X7_free : MF yX7_free cX7_free 4 (some .int) 2 := ⟨gd_at 565 (by decide +kernel) rfl, gd_at 68 (by decide +kernel) rfl, by decide +kernel, rfl, by decide⟩
theorem mf_X7_longestFree : MF yX7_longestFree cX7_longestFree 7 (some .int) 2 := ⟨gd_at 573 (by decide +kernel) rfl, gd_at 68 (by decide +kernel) rfl, by decide +kernel, rfl, by decide⟩
theorem mf_X7_longest : MF yX7_longest cX7_longest 3 (some .int) 2 := ⟨gd_at 569 (by decide +kernel) rfl, gd_at 68 (by decide +kernel) rfl, by decide +kernel, rfl, by decide⟩
theorem mf_X7_never : MF yX7_never cX7_never 4 (some .int) 1 := ⟨gd_at 577 (by decide +kernel) rfl, gd_at 68 (by decide +kernel) rfl, by decide +kernel, rfl, by decide⟩
theorem mf_X7_isAskedOfMorning : MF yX7_isAskedOfMorning cX7_isAskedOfMorning 2 (some .boolean) 1 := ⟨gd_at 585 (by decide +kernel) rfl, gd_at 68 (by decide +kernel) rfl, by decide +kernel, rfl, by decide⟩
theorem mf_X7_morning : MF yX7_morning cX7_morning 3 (some .int) 2 := ⟨gd_at 581 (by decide +kernel) rfl, gd_at 68 (by decide +kernel) rfl, by decide +kernel, rfl, by decide⟩
theorem mf_X7_firstOrder : MF yX7_firstOrder cX7_firstOrder 4 (some .int) 1 := ⟨gd_at 674 (by decide +kernel) rfl, gd_at 68 (by decide +kernel) rfl, by decide +kernel, rfl, by decide⟩
theorem mf_X7_swapPlaces : MF yX7_swapPlaces cX7_swapPlaces 4 none 2 := ⟨gd_at 692 (by decide +kernel) rfl, gd_at 68 (by decide +kernel) rfl, by decide +kernel, rfl, by decide⟩
theorem mf_X7_nextOrder : MF yX7_nextOrder cX7_nextOrder 6 none 1 := ⟨gd_at 688 (by decide +kernel) rfl, gd_at 68 (by decide +kernel) rfl, by decide +kernel, rfl, by decide⟩
theorem mf_X7_best : MF yX7_best cX7_best 11 (some .int) 2 := ⟨gd_at 670 (by decide +kernel) rfl, gd_at 68 (by decide +kernel) rfl, by decide +kernel, rfl, by decide⟩
theorem mf_X7_begin : MF yX7_begin cX7_begin 7 (some .int) 2 := ⟨gd_at 696 (by decide +kernel) rfl, gd_at 68 (by decide +kernel) rfl, by decide +kernel, rfl, by decide⟩
theorem mf_X7_home : MF yX7_home cX7_home 6 (some .int) 1 := ⟨gd_at 700 (by decide +kernel) rfl, gd_at 68 (by decide +kernel) rfl, by decide +kernel, rfl, by decide⟩
theorem mf_X7_stairs : MF yX7_stairs cX7_stairs 2 (some .int) 0 := ⟨gd_at 708 (by decide +kernel) rfl, gd_at 68 (by decide +kernel) rfl, by decide +kernel, rfl, by decide⟩
theorem mf_X7_isTold : MF yX7_isTold cX7_isTold 4 (some .boolean) 2 := ⟨gd_at 720 (by decide +kernel) rfl, gd_at 68 (by decide +kernel) rfl, by decide +kernel, rfl, by decide⟩
theorem mf_X7_from : MF yX7_from cX7_from 7 (some .int) 2 := ⟨gd_at 712 (by decide +kernel) rfl, gd_at 68 (by decide +kernel) rfl, by decide +kernel, rfl, by decide⟩
theorem mf_X7_doorChoices : MF yX7_doorChoices cX7_doorChoices 2 (some .int) 1 := ⟨gd_at 728 (by decide +kernel) rfl, gd_at 68 (by decide +kernel) rfl, by decide +kernel, rfl, by decide⟩
theorem mf_X7_isSeenFromDoor : MF yX7_isSeenFromDoor cX7_isSeenFromDoor 4 (some .boolean) 2 := ⟨gd_at 732 (by decide +kernel) rfl, gd_at 68 (by decide +kernel) rfl, by decide +kernel, rfl, by decide⟩
theorem mf_X7_door : MF yX7_door cX7_door 9 (some .int) 3 := ⟨gd_at 724 (by decide +kernel) rfl, gd_at 68 (by decide +kernel) rfl, by decide +kernel, rfl, by decide⟩
theorem mf_X7_film : MF yX7_film cX7_film 6 (some .int) 3 := ⟨gd_at 738 (by decide +kernel) rfl, gd_at 68 (by decide +kernel) rfl, by decide +kernel, rfl, by decide⟩
theorem mf_X7_drawn : MF yX7_drawn cX7_drawn 2 (some .int) 1 := ⟨gd_at 751 (by decide +kernel) rfl, gd_at 68 (by decide +kernel) rfl, by decide +kernel, rfl, by decide⟩
theorem mf_X7_inLowestTerms : MF yX7_inLowestTerms cX7_inLowestTerms 4 (some .int) 3 := ⟨gd_at 768 (by decide +kernel) rfl, gd_at 68 (by decide +kernel) rfl, by decide +kernel, rfl, by decide⟩
theorem mf_X7_chance : MF yX7_chance cX7_chance 6 (some .long) 3 := ⟨gd_at 760 (by decide +kernel) rfl, gd_at 68 (by decide +kernel) rfl, by decide +kernel, rfl, by decide⟩
theorem mf_X7_image : MF yX7_image cX7_image 1 (some .int) 0 := ⟨gd_at 772 (by decide +kernel) rfl, gd_at 68 (by decide +kernel) rfl, by decide +kernel, rfl, by decide⟩
theorem mf_X7_back : MF yX7_back cX7_back 1 (some .int) 0 := ⟨gd_at 776 (by decide +kernel) rfl, gd_at 68 (by decide +kernel) rfl, by decide +kernel, rfl, by decide⟩
theorem mf_X7_count : MF yX7_count cX7_count 2 (some .int) 1 := ⟨gd_at 780 (by decide +kernel) rfl, gd_at 68 (by decide +kernel) rfl, by decide +kernel, rfl, by decide⟩
theorem mf_X7_sheet : MF yX7_sheet cX7_sheet 4 (some .int) 3 := ⟨gd_at 785 (by decide +kernel) rfl, gd_at 68 (by decide +kernel) rfl, by decide +kernel, rfl, by decide⟩
theorem mf_X7_cell : MF yX7_cell cX7_cell 5 (some .int) 3 := ⟨gd_at 789 (by decide +kernel) rfl, gd_at 68 (by decide +kernel) rfl, by decide +kernel, rfl, by decide⟩
theorem mf_X7_copy : MF yX7_copy cX7_copy 8 (some .int) 5 := ⟨gd_at 793 (by decide +kernel) rfl, gd_at 68 (by decide +kernel) rfl, by decide +kernel, rfl, by decide⟩
theorem mf_X7_maids : MF yX7_maids cX7_maids 9 (some .int) 4 := ⟨gd_at 802 (by decide +kernel) rfl, gd_at 68 (by decide +kernel) rfl, by decide +kernel, rfl, by decide⟩
theorem mf_X7_taken : MF yX7_taken cX7_taken 3 (some .int) 2 := ⟨gd_at 807 (by decide +kernel) rfl, gd_at 68 (by decide +kernel) rfl, by decide +kernel, rfl, by decide⟩
theorem mf_X8_in : MF yX8_in cX8_in 6 (some .boolean) 3 := ⟨gd_at 1009 (by decide +kernel) rfl, gd_at 81 (by decide +kernel) rfl, by decide +kernel, rfl, by decide⟩
theorem mf_X8_within : MF yX8_within cX8_within 3 (some .int) 3 := ⟨gd_at 1212 (by decide +kernel) rfl, gd_at 81 (by decide +kernel) rfl, by decide +kernel, rfl, by decide⟩
theorem mf_X8_spell : MF yX8_spell cX8_spell 10 none 9 := ⟨gd_at 823 (by decide +kernel) rfl, gd_at 81 (by decide +kernel) rfl, by decide +kernel, rfl, by decide⟩
theorem mf_X8_isRoom : MF yX8_isRoom cX8_isRoom 1 (some .boolean) 1 := ⟨gd_at 1016 (by decide +kernel) rfl, gd_at 81 (by decide +kernel) rfl, by decide +kernel, rfl, by decide⟩
theorem mf_X8_isMaid : MF yX8_isMaid cX8_isMaid 2 (some .boolean) 1 := ⟨gd_at 1025 (by decide +kernel) rfl, gd_at 81 (by decide +kernel) rfl, by decide +kernel, rfl, by decide⟩
theorem mf_X8_isStay : MF yX8_isStay cX8_isStay 2 (some .boolean) 1 := ⟨gd_at 1021 (by decide +kernel) rfl, gd_at 81 (by decide +kernel) rfl, by decide +kernel, rfl, by decide⟩
theorem mf_X8_isOf : MF yX8_isOf cX8_isOf 3 (some .boolean) 2 := ⟨gd_at 1013 (by decide +kernel) rfl, gd_at 81 (by decide +kernel) rfl, by decide +kernel, rfl, by decide⟩
theorem mf_X8_lays : MF yX8_lays cX8_lays 4 none 3 := ⟨gd_at 1039 (by decide +kernel) rfl, gd_at 81 (by decide +kernel) rfl, by decide +kernel, rfl, by decide⟩
theorem mf_X8_told : MF yX8_told cX8_told 3 (some .int) 2 := ⟨gd_at 1033 (by decide +kernel) rfl, gd_at 81 (by decide +kernel) rfl, by decide +kernel, rfl, by decide⟩
theorem mf_X8_set : MF yX8_set cX8_set 5 (some .int) 3 := ⟨gd_at 1005 (by decide +kernel) rfl, gd_at 81 (by decide +kernel) rfl, by decide +kernel, rfl, by decide⟩
theorem mf_X8_stay : MF yX8_stay cX8_stay 3 (some .int) 2 := ⟨gd_at 1043 (by decide +kernel) rfl, gd_at 81 (by decide +kernel) rfl, by decide +kernel, rfl, by decide⟩
theorem mf_X8_maid : MF yX8_maid cX8_maid 4 (some .int) 3 := ⟨gd_at 1047 (by decide +kernel) rfl, gd_at 81 (by decide +kernel) rfl, by decide +kernel, rfl, by decide⟩
theorem mf_X8_list : MF yX8_list cX8_list 3 (some .int) 2 := ⟨gd_at 1051 (by decide +kernel) rfl, gd_at 81 (by decide +kernel) rfl, by decide +kernel, rfl, by decide⟩
theorem mf_X8_clear : MF yX8_clear cX8_clear 3 (some .int) 1 := ⟨gd_at 1055 (by decide +kernel) rfl, gd_at 81 (by decide +kernel) rfl, by decide +kernel, rfl, by decide⟩
theorem mf_X8_isBeside : MF yX8_isBeside cX8_isBeside 5 (some .boolean) 2 := ⟨gd_at 1068 (by decide +kernel) rfl, gd_at 81 (by decide +kernel) rfl, by decide +kernel, rfl, by decide⟩
theorem mf_X8_gathers : MF yX8_gathers cX8_gathers 5 none 0 := ⟨gd_at 1064 (by decide +kernel) rfl, gd_at 81 (by decide +kernel) rfl, by decide +kernel, rfl, by decide⟩
theorem mf_X8_nextTo : MF yX8_nextTo cX8_nextTo 5 (some .int) 2 := ⟨gd_at 1072 (by decide +kernel) rfl, gd_at 81 (by decide +kernel) rfl, by decide +kernel, rfl, by decide⟩
theorem mf_X8_way : MF yX8_way cX8_way 4 (some .int) 3 := ⟨gd_at 1060 (by decide +kernel) rfl, gd_at 81 (by decide +kernel) rfl, by decide +kernel, rfl, by decide⟩
theorem mf_X8_masterIn : MF yX8_masterIn cX8_masterIn 5 (some .int) 1 := ⟨gd_at 1080 (by decide +kernel) rfl, gd_at 81 (by decide +kernel) rfl, by decide +kernel, rfl, by decide⟩
theorem mf_X8_master : MF yX8_master cX8_master 2 (some .int) 1 := ⟨gd_at 1076 (by decide +kernel) rfl, gd_at 81 (by decide +kernel) rfl, by decide +kernel, rfl, by decide⟩
theorem mf_X8_free : MF yX8_free cX8_free 4 (some .int) 2 := ⟨gd_at 1084 (by decide +kernel) rfl, gd_at 81 (by decide +kernel) rfl, by decide +kernel, rfl, by decide⟩
theorem mf_X8_longestOf : MF yX8_longestOf cX8_longestOf 5 (some .int) 1 := ⟨gd_at 1092 (by decide +kernel) rfl, gd_at 81 (by decide +kernel) rfl, by decide +kernel, rfl, by decide⟩
theorem mf_X8_longest : MF yX8_longest cX8_longest 4 (some .int) 2 := ⟨gd_at 1088 (by decide +kernel) rfl, gd_at 81 (by decide +kernel) rfl, by decide +kernel, rfl, by decide⟩
theorem mf_X8_never : MF yX8_never cX8_never 4 (some .int) 1 := ⟨gd_at 1096 (by decide +kernel) rfl, gd_at 81 (by decide +kernel) rfl, by decide +kernel, rfl, by decide⟩
theorem mf_X8_feed : MF yX8_feed cX8_feed 2 (some .int) 1 := ⟨gd_at 1101 (by decide +kernel) rfl, gd_at 81 (by decide +kernel) rfl, by decide +kernel, rfl, by decide⟩
theorem mf_X8_byteAt : MF yX8_byteAt cX8_byteAt 2 (some .int) 1 := ⟨gd_at 1118 (by decide +kernel) rfl, gd_at 81 (by decide +kernel) rfl, by decide +kernel, rfl, by decide⟩
theorem mf_X8_next : MF yX8_next cX8_next 3 none 0 := ⟨gd_at 1114 (by decide +kernel) rfl, gd_at 81 (by decide +kernel) rfl, by decide +kernel, rfl, by decide⟩
theorem mf_X8_fail : MF yX8_fail cX8_fail 1 none 0 := ⟨gd_at 1138 (by decide +kernel) rfl, gd_at 81 (by decide +kernel) rfl, by decide +kernel, rfl, by decide⟩
theorem mf_X8_isLetter : MF yX8_isLetter cX8_isLetter 3 (some .boolean) 2 := ⟨gd_at 1130 (by decide +kernel) rfl, gd_at 81 (by decide +kernel) rfl, by decide +kernel, rfl, by decide⟩
theorem mf_X8_isWord : MF yX8_isWord cX8_isWord 9 (some .boolean) 8 := ⟨gd_at 1126 (by decide +kernel) rfl, gd_at 81 (by decide +kernel) rfl, by decide +kernel, rfl, by decide⟩
theorem mf_X8_isSign : MF yX8_isSign cX8_isSign 2 (some .boolean) 1 := ⟨gd_at 1170 (by decide +kernel) rfl, gd_at 81 (by decide +kernel) rfl, by decide +kernel, rfl, by decide⟩
theorem mf_X8_opens : MF yX8_opens cX8_opens 1 (some .boolean) 0 := ⟨gd_at 1154 (by decide +kernel) rfl, gd_at 81 (by decide +kernel) rfl, by decide +kernel, rfl, by decide⟩
theorem mf_X8_name : MF yX8_name cX8_name 1 (some .int) 0 := ⟨gd_at 1174 (by decide +kernel) rfl, gd_at 81 (by decide +kernel) rfl, by decide +kernel, rfl, by decide⟩
theorem mf_X8_atom : MF yX8_atom cX8_atom 2 (some .int) 0 := ⟨gd_at 1166 (by decide +kernel) rfl, gd_at 81 (by decide +kernel) rfl, by decide +kernel, rfl, by decide⟩
theorem mf_X8_term : MF yX8_term cX8_term 2 (some .int) 0 := ⟨gd_at 1162 (by decide +kernel) rfl, gd_at 81 (by decide +kernel) rfl, by decide +kernel, rfl, by decide⟩
theorem mf_X8_added : MF yX8_added cX8_added 4 (some .int) 0 := ⟨gd_at 1158 (by decide +kernel) rfl, gd_at 81 (by decide +kernel) rfl, by decide +kernel, rfl, by decide⟩
theorem mf_X8_not : MF yX8_not cX8_not 4 (some .int) 0 := ⟨gd_at 1150 (by decide +kernel) rfl, gd_at 81 (by decide +kernel) rfl, by decide +kernel, rfl, by decide⟩
theorem mf_X8_both : MF yX8_both cX8_both 3 (some .int) 0 := ⟨gd_at 1146 (by decide +kernel) rfl, gd_at 81 (by decide +kernel) rfl, by decide +kernel, rfl, by decide⟩
theorem mf_X8_either : MF yX8_either cX8_either 3 (some .int) 0 := ⟨gd_at 1142 (by decide +kernel) rfl, gd_at 81 (by decide +kernel) rfl, by decide +kernel, rfl, by decide⟩
theorem mf_X8_part : MF yX8_part cX8_part 3 (some .int) 1 := ⟨gd_at 1134 (by decide +kernel) rfl, gd_at 81 (by decide +kernel) rfl, by decide +kernel, rfl, by decide⟩
theorem mf_X8_read : MF yX8_read cX8_read 6 (some .int) 2 := ⟨gd_at 1110 (by decide +kernel) rfl, gd_at 81 (by decide +kernel) rfl, by decide +kernel, rfl, by decide⟩
theorem mf_X8_text : MF yX8_text cX8_text 2 (some .int) 0 := ⟨gd_at 1106 (by decide +kernel) rfl, gd_at 81 (by decide +kernel) rfl, by decide +kernel, rfl, by decide⟩
theorem mf_X8_force : MF yX8_force cX8_force 3 (some .int) 1 := ⟨gd_at 1180 (by decide +kernel) rfl, gd_at 81 (by decide +kernel) rfl, by decide +kernel, rfl, by decide⟩
theorem mf_X8_says : MF yX8_says cX8_says 7 (some .int) 4 := ⟨gd_at 1209 (by decide +kernel) rfl, gd_at 81 (by decide +kernel) rfl, by decide +kernel, rfl, by decide⟩
theorem mf_X8_takesOf : MF yX8_takesOf cX8_takesOf 5 (some .int) 2 := ⟨gd_at 1220 (by decide +kernel) rfl, gd_at 81 (by decide +kernel) rfl, by decide +kernel, rfl, by decide⟩
theorem mf_X8_worksOf : MF yX8_worksOf cX8_worksOf 5 (some .int) 2 := ⟨gd_at 1216 (by decide +kernel) rfl, gd_at 81 (by decide +kernel) rfl, by decide +kernel, rfl, by decide⟩
theorem mf_X8_aimOf : MF yX8_aimOf cX8_aimOf 2 (some .int) 1 := ⟨gd_at 1205 (by decide +kernel) rfl, gd_at 81 (by decide +kernel) rfl, by decide +kernel, rfl, by decide⟩
theorem mf_X8_startsOff : MF yX8_startsOff cX8_startsOff 2 none 0 := ⟨gd_at 1193 (by decide +kernel) rfl, gd_at 81 (by decide +kernel) rfl, by decide +kernel, rfl, by decide⟩
theorem mf_X8_acts : MF yX8_acts cX8_acts 7 none 2 := ⟨gd_at 1201 (by decide +kernel) rfl, gd_at 81 (by decide +kernel) rfl, by decide +kernel, rfl, by decide⟩
theorem mf_X8_isReady : MF yX8_isReady cX8_isReady 3 (some .boolean) 0 := ⟨gd_at 1224 (by decide +kernel) rfl, gd_at 81 (by decide +kernel) rfl, by decide +kernel, rfl, by decide⟩
theorem mf_X8_lives : MF yX8_lives cX8_lives 3 none 1 := ⟨gd_at 1197 (by decide +kernel) rfl, gd_at 81 (by decide +kernel) rfl, by decide +kernel, rfl, by decide⟩
theorem mf_X8_livesAll : MF yX8_livesAll cX8_livesAll 3 none 1 := ⟨gd_at 1189 (by decide +kernel) rfl, gd_at 81 (by decide +kernel) rfl, by decide +kernel, rfl, by decide⟩
theorem mf_X8_leftAll : MF yX8_leftAll cX8_leftAll 3 (some .int) 0 := ⟨gd_at 1228 (by decide +kernel) rfl, gd_at 81 (by decide +kernel) rfl, by decide +kernel, rfl, by decide⟩
theorem mf_X8_dear : MF yX8_dear cX8_dear 1 (some .int) 0 := ⟨gd_at 1240 (by decide +kernel) rfl, gd_at 81 (by decide +kernel) rfl, by decide +kernel, rfl, by decide⟩
theorem mf_X8_morning : MF yX8_morning cX8_morning 4 (some .int) 2 := ⟨gd_at 1184 (by decide +kernel) rfl, gd_at 81 (by decide +kernel) rfl, by decide +kernel, rfl, by decide⟩
theorem mf_X8_orders : MF yX8_orders cX8_orders 7 none 3 := ⟨gd_at 1236 (by decide +kernel) rfl, gd_at 81 (by decide +kernel) rfl, by decide +kernel, rfl, by decide⟩
theorem mf_X8_best : MF yX8_best cX8_best 4 (some .int) 2 := ⟨gd_at 1232 (by decide +kernel) rfl, gd_at 81 (by decide +kernel) rfl, by decide +kernel, rfl, by decide⟩
theorem mf_X8_begin : MF yX8_begin cX8_begin 8 (some .int) 2 := ⟨gd_at 1244 (by decide +kernel) rfl, gd_at 81 (by decide +kernel) rfl, by decide +kernel, rfl, by decide⟩
theorem mf_X8_home : MF yX8_home cX8_home 6 (some .int) 1 := ⟨gd_at 1248 (by decide +kernel) rfl, gd_at 81 (by decide +kernel) rfl, by decide +kernel, rfl, by decide⟩
theorem mf_X8_stairs : MF yX8_stairs cX8_stairs 4 (some .int) 0 := ⟨gd_at 1252 (by decide +kernel) rfl, gd_at 81 (by decide +kernel) rfl, by decide +kernel, rfl, by decide⟩
theorem mf_X8_isSheet : MF yX8_isSheet cX8_isSheet 1 (some .boolean) 1 := ⟨gd_at 1259 (by decide +kernel) rfl, gd_at 81 (by decide +kernel) rfl, by decide +kernel, rfl, by decide⟩
theorem mf_X8_from : MF yX8_from cX8_from 8 (some .int) 2 := ⟨gd_at 1256 (by decide +kernel) rfl, gd_at 81 (by decide +kernel) rfl, by decide +kernel, rfl, by decide⟩
theorem mf_X8_isSo : MF yX8_isSo cX8_isSo 4 (some .boolean) 2 := ⟨gd_at 1268 (by decide +kernel) rfl, gd_at 81 (by decide +kernel) rfl, by decide +kernel, rfl, by decide⟩
theorem mf_X8_tries : MF yX8_tries cX8_tries 4 none 3 := ⟨gd_at 1272 (by decide +kernel) rfl, gd_at 81 (by decide +kernel) rfl, by decide +kernel, rfl, by decide⟩
theorem mf_X8_door : MF yX8_door cX8_door 8 (some .int) 3 := ⟨gd_at 1263 (by decide +kernel) rfl, gd_at 81 (by decide +kernel) rfl, by decide +kernel, rfl, by decide⟩
theorem mf_X8_sheet : MF yX8_sheet cX8_sheet 5 (some .int) 3 := ⟨gd_at 1281 (by decide +kernel) rfl, gd_at 81 (by decide +kernel) rfl, by decide +kernel, rfl, by decide⟩
theorem mf_X8_film : MF yX8_film cX8_film 5 (some .int) 3 := ⟨gd_at 1276 (by decide +kernel) rfl, gd_at 81 (by decide +kernel) rfl, by decide +kernel, rfl, by decide⟩
theorem mf_X8_draws : MF yX8_draws cX8_draws 5 (some .int) 1 := ⟨gd_at 1291 (by decide +kernel) rfl, gd_at 81 (by decide +kernel) rfl, by decide +kernel, rfl, by decide⟩
theorem mf_X8_drawn : MF yX8_drawn cX8_drawn 2 (some .int) 1 := ⟨gd_at 1287 (by decide +kernel) rfl, gd_at 81 (by decide +kernel) rfl, by decide +kernel, rfl, by decide⟩
theorem mf_X8_chance : MF yX8_chance cX8_chance 12 (some .long) 3 := ⟨gd_at 1296 (by decide +kernel) rfl, gd_at 81 (by decide +kernel) rfl, by decide +kernel, rfl, by decide⟩
theorem mf_X8_image : MF yX8_image cX8_image 2 (some .int) 0 := ⟨gd_at 1302 (by decide +kernel) rfl, gd_at 81 (by decide +kernel) rfl, by decide +kernel, rfl, by decide⟩
theorem mf_X8_back : MF yX8_back cX8_back 2 (some .int) 0 := ⟨gd_at 1306 (by decide +kernel) rfl, gd_at 81 (by decide +kernel) rfl, by decide +kernel, rfl, by decide⟩
theorem mf_X8_count : MF yX8_count cX8_count 4 (some .int) 1 := ⟨gd_at 1310 (by decide +kernel) rfl, gd_at 81 (by decide +kernel) rfl, by decide +kernel, rfl, by decide⟩
theorem mf_X8_cell : MF yX8_cell cX8_cell 4 (some .int) 3 := ⟨gd_at 1316 (by decide +kernel) rfl, gd_at 81 (by decide +kernel) rfl, by decide +kernel, rfl, by decide⟩
theorem mf_X8_copy : MF yX8_copy cX8_copy 9 (some .int) 5 := ⟨gd_at 1320 (by decide +kernel) rfl, gd_at 81 (by decide +kernel) rfl, by decide +kernel, rfl, by decide⟩
theorem mf_X8_maids : MF yX8_maids cX8_maids 8 (some .int) 4 := ⟨gd_at 1324 (by decide +kernel) rfl, gd_at 81 (by decide +kernel) rfl, by decide +kernel, rfl, by decide⟩
theorem mf_X8_over : MF yX8_over cX8_over 1 (some .int) 1 := ⟨gd_at 1332 (by decide +kernel) rfl, gd_at 81 (by decide +kernel) rfl, by decide +kernel, rfl, by decide⟩
theorem mf_X8_taken : MF yX8_taken cX8_taken 4 (some .int) 2 := ⟨gd_at 1329 (by decide +kernel) rfl, gd_at 81 (by decide +kernel) rfl, by decide +kernel, rfl, by decide⟩
theorem ml_RX0_158 : Cond.methodLink RX0 158 Lib.Math.min.name ∈ lw_gd := gd_at 625 (by decide +kernel) rfl
theorem ml_RX0_127 : Cond.methodLink RX0 127 Lib.Math.max.name ∈ lw_gd := gd_at 626 (by decide +kernel) rfl
theorem ml_RX2_41 : Cond.methodLink RX2 41 Lib.Math.max.name ∈ lw_gd := gd_at 633 (by decide +kernel) rfl
theorem ml_RX5_19 : Cond.methodLink RX5 19 Lib.Math.abs.name ∈ lw_gd := gd_at 532 (by decide +kernel) rfl
theorem ml_RX5_25 : Cond.methodLink RX5 25 Lib.Math.min.name ∈ lw_gd := gd_at 535 (by decide +kernel) rfl
theorem ml_RX0_81 : Cond.methodLink RX0 81 arraycopyName ∈ lw_gd := gd_at 599 (by decide +kernel) rfl
theorem ml_RX2_28 : Cond.methodLink RX2 28 arraycopyName ∈ lw_gd := gd_at 684 (by decide +kernel) rfl
theorem ml_RX1_41 : Cond.methodLink RX1 41 arraycopyName ∈ lw_gd := gd_at 679 (by decide +kernel) rfl
theorem kc_RX1_61 : Cond.constant RX1 61 (1103515245) ∈ lw_gd := gd_at 756 (by decide +kernel) rfl
theorem ml_RX3_111 : Cond.methodLink RX3 111 yJ0_charAt_5068e ∈ lw_gd := gd_at 385 (by decide +kernel) rfl
theorem ml_RX3_106 : Cond.methodLink RX3 106 yJ0_length_8abf5 ∈ lw_gd := gd_at 384 (by decide +kernel) rfl
theorem ml_RX6_18 : Cond.methodLink RX6 18 arraycopyName ∈ lw_gd := gd_at 443 (by decide +kernel) rfl
theorem kc_RX7_248 : Cond.constantLong RX7 248 (-4611686018427387904) ∈ lw_gd := gd_at 761 (by decide +kernel) rfl
theorem ml_RX7_266 : Cond.methodLink RX7 266 arraycopyName ∈ lw_gd := gd_at 798 (by decide +kernel) rfl
theorem kc_RX8_112 : Cond.constantLong RX8 112 (7) ∈ lw_gd := gd_at 1017 (by decide +kernel) rfl
theorem kc_RX8_156 : Cond.constantLong RX8 156 (10) ∈ lw_gd := gd_at 1034 (by decide +kernel) rfl
theorem kc_RX8_158 : Cond.constantLong RX8 158 (14) ∈ lw_gd := gd_at 1035 (by decide +kernel) rfl
theorem kc_RX8_134 : Cond.constantLong RX8 134 (5) ∈ lw_gd := gd_at 1006 (by decide +kernel) rfl
theorem kc_RX8_140 : Cond.constantLong RX8 140 (3) ∈ lw_gd := gd_at 1026 (by decide +kernel) rfl
theorem kc_RX8_142 : Cond.constantLong RX8 142 (99) ∈ lw_gd := gd_at 1027 (by decide +kernel) rfl
theorem kc_RX8_144 : Cond.constantLong RX8 144 (50) ∈ lw_gd := gd_at 1028 (by decide +kernel) rfl
theorem kc_RX8_146 : Cond.constantLong RX8 146 (9) ∈ lw_gd := gd_at 1029 (by decide +kernel) rfl
theorem kc_RX8_179 : Cond.constantLong RX8 179 (100) ∈ lw_gd := gd_at 1097 (by decide +kernel) rfl
theorem kc_RX8_181 : Cond.constantLong RX8 181 (255) ∈ lw_gd := gd_at 1102 (by decide +kernel) rfl
theorem kc_RX8_204 : Cond.constantLong RX8 204 (97) ∈ lw_gd := gd_at 1119 (by decide +kernel) rfl
theorem kc_RX8_206 : Cond.constantLong RX8 206 (122) ∈ lw_gd := gd_at 1120 (by decide +kernel) rfl
theorem kc_RX8_208 : Cond.constantLong RX8 208 (48) ∈ lw_gd := gd_at 1121 (by decide +kernel) rfl
theorem kc_RX8_210 : Cond.constantLong RX8 210 (57) ∈ lw_gd := gd_at 1122 (by decide +kernel) rfl
theorem kc_RX8_277 : Cond.constantLong RX8 277 (43) ∈ lw_gd := gd_at 1175 (by decide +kernel) rfl
theorem kc_RX8_285 : Cond.constantLong RX8 285 (60) ∈ lw_gd := gd_at 1176 (by decide +kernel) rfl
theorem kc_RX8_343 : Cond.constantLong RX8 343 (49) ∈ lw_gd := gd_at 1185 (by decide +kernel) rfl
theorem kc_RX8_360 : Cond.constantLong RX8 360 (4) ∈ lw_gd := gd_at 1264 (by decide +kernel) rfl
theorem kc_RX8_392 : Cond.constantLong RX8 392 (-1) ∈ lw_gd := gd_at 1282 (by decide +kernel) rfl
theorem kc_RX8_394 : Cond.constantLong RX8 394 (2) ∈ lw_gd := gd_at 1283 (by decide +kernel) rfl
theorem kc_RX8_368 : Cond.constantLong RX8 368 (40) ∈ lw_gd := gd_at 1277 (by decide +kernel) rfl
theorem kc_RX8_373 : Cond.constant RX8 373 (1103515245) ∈ lw_gd := gd_at 1292 (by decide +kernel) rfl
theorem kc_RX8_377 : Cond.constantLong RX8 377 (20) ∈ lw_gd := gd_at 1297 (by decide +kernel) rfl
theorem kc_RX8_379 : Cond.constantLong RX8 379 (-4611686018427387904) ∈ lw_gd := gd_at 1298 (by decide +kernel) rfl
theorem kc_RX8_390 : Cond.constantLong RX8 390 (6) ∈ lw_gd := gd_at 1311 (by decide +kernel) rfl
