/-! LINKS: classes, fields, methods, constants by their places in the tables (written by links.py). -/
theorem kC0 : q_Cl 0 RX0 TX0 3 tyX0 := ⟨rfl, q_words _ [198, 200, 202] (by decide +kernel) (by decide +kernel), tyX0_ok, nmX0, by decide +kernel⟩
theorem kC1 : q_Cl 1 RX1 TX1 4 tyX1 := ⟨rfl, q_words _ [97, 99, 101, 103] (by decide +kernel) (by decide +kernel), tyX1_ok, nmX1, by decide +kernel⟩
theorem kC2 : q_Cl 2 RX2 TX2 3 tyX2 := ⟨rfl, q_words _ [218, 220, 222] (by decide +kernel) (by decide +kernel), tyX2_ok, nmX2, by decide +kernel⟩
theorem kC3 : q_Cl 3 RX3 TX3 4 tyX3 := ⟨rfl, q_words _ [270, 272, 274, 276] (by decide +kernel) (by decide +kernel), tyX3_ok, nmX3, by decide +kernel⟩
theorem kC4 : q_Cl 4 RX4 TX4 1 tyX4 := ⟨rfl, q_words _ [78] (by decide +kernel) (by decide +kernel), tyX4_ok, nmX4, by decide +kernel⟩
theorem kC5 : q_Cl 5 RX5 TX5 11 tyX5 := ⟨rfl, q_words _ [139, 141, 143, 145, 147, 149, 151, 153, 155, 157, 159] (by decide +kernel) (by decide +kernel), tyX5_ok, nmX5, by decide +kernel⟩
theorem kC6 : q_Cl 6 RX6 TX6 9 tyX6 := ⟨rfl, q_words _ [51, 53, 55, 57, 59, 61, 63, 65, 67] (by decide +kernel) (by decide +kernel), tyX6_ok, nmX6, by decide +kernel⟩
theorem kC7 : q_Cl 7 RX7 TX7 4 tyX7 := ⟨rfl, q_words _ [239, 241, 243, 245] (by decide +kernel) (by decide +kernel), tyX7_ok, nmX7, by decide +kernel⟩
theorem kC8 : q_Cl 8 RX8 TX8 4 tyX8 := ⟨rfl, q_words _ [176, 178, 180, 182] (by decide +kernel) (by decide +kernel), tyX8_ok, nmX8, by decide +kernel⟩
theorem kC9 : q_Cl 9 RX9 TX9 13 tyX9 := ⟨rfl, q_words _ [308, 310, 312, 314, 316, 318, 320, 322, 324, 326, 328, 330, 332] (by decide +kernel) (by decide +kernel), tyX9_ok, nmX9, by decide +kernel⟩
theorem kC10 : q_Cl 10 RX10 TX10 53 tyX10 := ⟨rfl, q_words _ [1085, 1087, 1089, 1091, 1093, 1095, 1097, 1099, 1101, 1103, 1105, 1107, 1109, 1111, 1113, 1115, 1117, 1119, 1121, 1123, 1125, 1127, 1129, 1131, 1133, 1135, 1137, 1139, 1141, 1143, 1145, 1147, 1149, 1151, 1153, 1155, 1157, 1159, 1161, 1163, 1165, 1167, 1169, 1171, 1173, 1175, 1177, 1179, 1181, 1183, 1185, 1187, 1189] (by decide +kernel) (by decide +kernel), tyX10_ok, nmX10, by decide +kernel⟩
set_option maxRecDepth 20000 in
theorem kF_X9_10 : q_F RX9 10 9 0 (.object "MustardPast$Reader") true := ⟨_, _, _, _, kC9, by decide, q_p2 55 rfl rfl, rfl, rfl⟩
set_option maxRecDepth 20000 in
theorem kF_X9_21 : q_F RX9 21 9 1 (.object "MustardPast$Parser") true := ⟨_, _, _, _, kC9, by decide, q_p2 56 rfl rfl, rfl, rfl⟩
set_option maxRecDepth 20000 in
theorem kF_X9_28 : q_F RX9 28 9 2 (.object "MustardPast$Past") false := ⟨_, _, _, _, kC9, by decide, q_p2 57 rfl rfl, rfl, rfl⟩
set_option maxRecDepth 20000 in
theorem kF_X9_32 : q_F RX9 32 9 3 (.object "MustardPast$Past") false := ⟨_, _, _, _, kC9, by decide, q_p2 58 rfl rfl, rfl, rfl⟩
set_option maxRecDepth 20000 in
theorem kF_X9_38 : q_F RX9 38 9 4 (.object "MustardPast$State") true := ⟨_, _, _, _, kC9, by decide, q_p2 59 rfl rfl, rfl, rfl⟩
set_option maxRecDepth 20000 in
theorem kF_X9_42 : q_F RX9 42 9 5 (.object "MustardPast$State") true := ⟨_, _, _, _, kC9, by decide, q_p2 60 rfl rfl, rfl, rfl⟩
set_option maxRecDepth 20000 in
theorem kF_X9_48 : q_F RX9 48 9 6 (.object "MustardPast$History") true := ⟨_, _, _, _, kC9, by decide, q_p2 61 rfl rfl, rfl, rfl⟩
set_option maxRecDepth 20000 in
theorem kF_X9_55 : q_F RX9 55 9 7 (.object "MustardPast$Lines") true := ⟨_, _, _, _, kC9, by decide, q_p2 62 rfl rfl, rfl, rfl⟩
set_option maxRecDepth 20000 in
theorem kF_X9_59 : q_F RX9 59 9 8 (.object "MustardPast$Lines") true := ⟨_, _, _, _, kC9, by decide, q_p2 63 rfl rfl, rfl, rfl⟩
set_option maxRecDepth 20000 in
theorem kF_X9_65 : q_F RX9 65 9 9 (.object "MustardPast$Seen") true := ⟨_, _, _, _, kC9, by decide, q_p2 64 rfl rfl, rfl, rfl⟩
set_option maxRecDepth 20000 in
theorem kF_X9_71 : q_F RX9 71 9 10 (.array (.object "MustardPast$Mark")) true := ⟨_, _, _, _, kC9, by decide, q_p2 65 rfl rfl, rfl, rfl⟩
set_option maxRecDepth 20000 in
theorem kF_X9_75 : q_F RX9 75 9 11 (.array .int) true := ⟨_, _, _, _, kC9, by decide, q_p2 66 rfl rfl, rfl, rfl⟩
set_option maxRecDepth 20000 in
theorem kF_X9_79 : q_F RX9 79 9 12 (.array .int) true := ⟨_, _, _, _, kC9, by decide, q_p2 67 rfl rfl, rfl, rfl⟩
set_option maxRecDepth 20000 in
theorem kF_X9_94 : q_F RX9 94 6 1 (.int) false := ⟨_, _, _, _, kC6, by decide, q_p1 37 rfl rfl, rfl, rfl⟩
set_option maxRecDepth 20000 in
theorem kF_X9_106 : q_F RX9 106 7 3 (.int) false := ⟨_, _, _, _, kC7, by decide, q_p1 238 rfl rfl, rfl, rfl⟩
set_option maxRecDepth 20000 in
theorem kF_X9_110 : q_F RX9 110 3 3 (.boolean) false := ⟨_, _, _, _, kC3, by decide, q_p2 29 rfl rfl, rfl, rfl⟩
set_option maxRecDepth 20000 in
theorem kF_X9_126 : q_F RX9 126 5 1 (.array .int) true := ⟨_, _, _, _, kC5, by decide, q_p1 112 rfl rfl, rfl, rfl⟩
set_option maxRecDepth 20000 in
theorem kF_X9_129 : q_F RX9 129 5 2 (.array .int) true := ⟨_, _, _, _, kC5, by decide, q_p1 115 rfl rfl, rfl, rfl⟩
set_option maxRecDepth 20000 in
theorem kF_X9_132 : q_F RX9 132 8 0 (.array .int) true := ⟨_, _, _, _, kC8, by decide, q_p1 169 rfl rfl, rfl, rfl⟩
set_option maxRecDepth 20000 in
theorem kF_X9_135 : q_F RX9 135 8 1 (.array .int) true := ⟨_, _, _, _, kC8, by decide, q_p1 171 rfl rfl, rfl, rfl⟩
set_option maxRecDepth 20000 in
theorem kF_X9_149 : q_F RX9 149 5 4 (.array .int) true := ⟨_, _, _, _, kC5, by decide, q_p1 121 rfl rfl, rfl, rfl⟩
set_option maxRecDepth 20000 in
theorem kF_X9_184 : q_F RX9 184 2 2 (.int) false := ⟨_, _, _, _, kC2, by decide, q_p1 217 rfl rfl, rfl, rfl⟩
set_option maxRecDepth 20000 in
theorem kF_X9_185 : q_F RX9 185 2 0 (.array .int) true := ⟨_, _, _, _, kC2, by decide, q_p1 212 rfl rfl, rfl, rfl⟩
set_option maxRecDepth 20000 in
theorem kF_X9_188 : q_F RX9 188 2 1 (.array .int) true := ⟨_, _, _, _, kC2, by decide, q_p1 214 rfl rfl, rfl, rfl⟩
set_option maxRecDepth 20000 in
theorem kF_X9_207 : q_F RX9 207 8 3 (.int) false := ⟨_, _, _, _, kC8, by decide, q_p1 175 rfl rfl, rfl, rfl⟩
set_option maxRecDepth 20000 in
theorem kF_X9_220 : q_F RX9 220 5 6 (.int) false := ⟨_, _, _, _, kC5, by decide, q_p1 127 rfl rfl, rfl, rfl⟩
set_option maxRecDepth 20000 in
theorem kF_X9_241 : q_F RX9 241 8 2 (.int) false := ⟨_, _, _, _, kC8, by decide, q_p1 173 rfl rfl, rfl, rfl⟩
set_option maxRecDepth 20000 in
theorem kF_X9_286 : q_F RX9 286 7 0 (.array .int) true := ⟨_, _, _, _, kC7, by decide, q_p1 232 rfl rfl, rfl, rfl⟩
set_option maxRecDepth 20000 in
theorem kF_X9_287 : q_F RX9 287 7 1 (.array .int) true := ⟨_, _, _, _, kC7, by decide, q_p1 234 rfl rfl, rfl, rfl⟩
set_option maxRecDepth 20000 in
theorem kF_X9_291 : q_F RX9 291 7 2 (.array .boolean) true := ⟨_, _, _, _, kC7, by decide, q_p1 236 rfl rfl, rfl, rfl⟩
set_option maxRecDepth 20000 in
theorem kF_X9_336 : q_F RX9 336 3 0 (.object "MustardPast$State") true := ⟨_, _, _, _, kC3, by decide, q_p2 23 rfl rfl, rfl, rfl⟩
set_option maxRecDepth 20000 in
theorem kF_X9_339 : q_F RX9 339 3 1 (.object "MustardPast$Lines") true := ⟨_, _, _, _, kC3, by decide, q_p2 25 rfl rfl, rfl, rfl⟩
set_option maxRecDepth 20000 in
theorem kF_X9_340 : q_F RX9 340 3 2 (.object "MustardPast$Seen") true := ⟨_, _, _, _, kC3, by decide, q_p2 27 rfl rfl, rfl, rfl⟩
set_option maxRecDepth 20000 in
theorem kF_X9_344 : q_F RX9 344 5 7 (.int) false := ⟨_, _, _, _, kC5, by decide, q_p1 130 rfl rfl, rfl, rfl⟩
set_option maxRecDepth 20000 in
theorem kF_X9_347 : q_F RX9 347 5 9 (.int) false := ⟨_, _, _, _, kC5, by decide, q_p1 136 rfl rfl, rfl, rfl⟩
set_option maxRecDepth 20000 in
theorem kF_X9_354 : q_F RX9 354 0 1 (.int) false := ⟨_, _, _, _, kC0, by decide, q_p1 196 rfl rfl, rfl, rfl⟩
set_option maxRecDepth 20000 in
theorem kF_X0_11 : q_F RX0 11 0 0 (.array (.object "MustardPast$State")) true := ⟨_, _, _, _, kC0, by decide, q_p1 194 rfl rfl, rfl, rfl⟩
set_option maxRecDepth 20000 in
theorem kF_X0_18 : q_F RX0 18 0 1 (.int) false := ⟨_, _, _, _, kC0, by decide, q_p1 195 rfl rfl, rfl, rfl⟩
set_option maxRecDepth 20000 in
theorem kF_X0_22 : q_F RX0 22 0 2 (.int) false := ⟨_, _, _, _, kC0, by decide, q_p1 197 rfl rfl, rfl, rfl⟩
set_option maxRecDepth 20000 in
theorem kF_X1_9 : q_F RX1 9 1 0 (.array .int) true := ⟨_, _, _, _, kC1, by decide, q_p1 93 rfl rfl, rfl, rfl⟩
set_option maxRecDepth 20000 in
theorem kF_X1_15 : q_F RX1 15 1 1 (.array .int) true := ⟨_, _, _, _, kC1, by decide, q_p1 94 rfl rfl, rfl, rfl⟩
set_option maxRecDepth 20000 in
theorem kF_X1_18 : q_F RX1 18 1 2 (.int) false := ⟨_, _, _, _, kC1, by decide, q_p1 95 rfl rfl, rfl, rfl⟩
set_option maxRecDepth 20000 in
theorem kF_X1_22 : q_F RX1 22 1 3 (.int) false := ⟨_, _, _, _, kC1, by decide, q_p1 96 rfl rfl, rfl, rfl⟩
set_option maxRecDepth 20000 in
theorem kF_X2_9 : q_F RX2 9 2 0 (.array .int) true := ⟨_, _, _, _, kC2, by decide, q_p1 211 rfl rfl, rfl, rfl⟩
set_option maxRecDepth 20000 in
theorem kF_X2_15 : q_F RX2 15 2 1 (.array .int) true := ⟨_, _, _, _, kC2, by decide, q_p1 213 rfl rfl, rfl, rfl⟩
set_option maxRecDepth 20000 in
theorem kF_X2_18 : q_F RX2 18 2 2 (.int) false := ⟨_, _, _, _, kC2, by decide, q_p1 215 rfl rfl, rfl, rfl⟩
set_option maxRecDepth 20000 in
theorem kF_X3_10 : q_F RX3 10 3 0 (.object "MustardPast$State") true := ⟨_, _, _, _, kC3, by decide, q_p2 22 rfl rfl, rfl, rfl⟩
set_option maxRecDepth 20000 in
theorem kF_X3_19 : q_F RX3 19 3 1 (.object "MustardPast$Lines") true := ⟨_, _, _, _, kC3, by decide, q_p2 24 rfl rfl, rfl, rfl⟩
set_option maxRecDepth 20000 in
theorem kF_X3_26 : q_F RX3 26 3 2 (.object "MustardPast$Seen") true := ⟨_, _, _, _, kC3, by decide, q_p2 26 rfl rfl, rfl, rfl⟩
set_option maxRecDepth 20000 in
theorem kF_X3_40 : q_F RX3 40 3 3 (.boolean) false := ⟨_, _, _, _, kC3, by decide, q_p2 28 rfl rfl, rfl, rfl⟩
set_option maxRecDepth 20000 in
theorem kF_X4_9 : q_F RX4 9 4 0 (.object "MustardPast$Reader") true := ⟨_, _, _, _, kC4, by decide, q_p1 77 rfl rfl, rfl, rfl⟩
set_option maxRecDepth 20000 in
theorem kF_X4_25 : q_F RX4 25 6 8 (.int) false := ⟨_, _, _, _, kC6, by decide, q_p1 49 rfl rfl, rfl, rfl⟩
set_option maxRecDepth 20000 in
theorem kF_X4_29 : q_F RX4 29 6 4 (.int) false := ⟨_, _, _, _, kC6, by decide, q_p1 41 rfl rfl, rfl, rfl⟩
set_option maxRecDepth 20000 in
theorem kF_X4_57 : q_F RX4 57 5 6 (.int) false := ⟨_, _, _, _, kC5, by decide, q_p1 125 rfl rfl, rfl, rfl⟩
set_option maxRecDepth 20000 in
theorem kF_X4_63 : q_F RX4 63 5 0 (.array .long) true := ⟨_, _, _, _, kC5, by decide, q_p1 109 rfl rfl, rfl, rfl⟩
set_option maxRecDepth 20000 in
theorem kF_X4_71 : q_F RX4 71 5 1 (.array .int) true := ⟨_, _, _, _, kC5, by decide, q_p1 111 rfl rfl, rfl, rfl⟩
set_option maxRecDepth 20000 in
theorem kF_X4_81 : q_F RX4 81 5 2 (.array .int) true := ⟨_, _, _, _, kC5, by decide, q_p1 114 rfl rfl, rfl, rfl⟩
set_option maxRecDepth 20000 in
theorem kF_X4_88 : q_F RX4 88 5 3 (.array .int) true := ⟨_, _, _, _, kC5, by decide, q_p1 118 rfl rfl, rfl, rfl⟩
set_option maxRecDepth 20000 in
theorem kF_X4_91 : q_F RX4 91 5 4 (.array .int) true := ⟨_, _, _, _, kC5, by decide, q_p1 120 rfl rfl, rfl, rfl⟩
set_option maxRecDepth 20000 in
theorem kF_X4_98 : q_F RX4 98 6 6 (.long) false := ⟨_, _, _, _, kC6, by decide, q_p1 45 rfl rfl, rfl, rfl⟩
set_option maxRecDepth 20000 in
theorem kF_X4_117 : q_F RX4 117 5 10 (.int) false := ⟨_, _, _, _, kC5, by decide, q_p1 138 rfl rfl, rfl, rfl⟩
set_option maxRecDepth 20000 in
theorem kF_X4_120 : q_F RX4 120 5 7 (.int) false := ⟨_, _, _, _, kC5, by decide, q_p1 129 rfl rfl, rfl, rfl⟩
set_option maxRecDepth 20000 in
theorem kF_X4_123 : q_F RX4 123 5 8 (.int) false := ⟨_, _, _, _, kC5, by decide, q_p1 133 rfl rfl, rfl, rfl⟩
set_option maxRecDepth 20000 in
theorem kF_X4_126 : q_F RX4 126 5 9 (.int) false := ⟨_, _, _, _, kC5, by decide, q_p1 135 rfl rfl, rfl, rfl⟩
set_option maxRecDepth 20000 in
theorem kF_X4_129 : q_F RX4 129 5 5 (.object "MustardPast$Law") true := ⟨_, _, _, _, kC5, by decide, q_p1 123 rfl rfl, rfl, rfl⟩
set_option maxRecDepth 20000 in
theorem kF_X4_147 : q_F RX4 147 2 2 (.int) false := ⟨_, _, _, _, kC2, by decide, q_p1 216 rfl rfl, rfl, rfl⟩
set_option maxRecDepth 20000 in
theorem kF_X4_161 : q_F RX4 161 6 7 (.int) false := ⟨_, _, _, _, kC6, by decide, q_p1 48 rfl rfl, rfl, rfl⟩
set_option maxRecDepth 20000 in
theorem kF_X4_178 : q_F RX4 178 6 5 (.int) false := ⟨_, _, _, _, kC6, by decide, q_p1 44 rfl rfl, rfl, rfl⟩
set_option maxRecDepth 20000 in
theorem kF_X5_9 : q_F RX5 9 5 0 (.array .long) true := ⟨_, _, _, _, kC5, by decide, q_p1 108 rfl rfl, rfl, rfl⟩
set_option maxRecDepth 20000 in
theorem kF_X5_15 : q_F RX5 15 5 1 (.array .int) true := ⟨_, _, _, _, kC5, by decide, q_p1 110 rfl rfl, rfl, rfl⟩
set_option maxRecDepth 20000 in
theorem kF_X5_19 : q_F RX5 19 5 2 (.array .int) true := ⟨_, _, _, _, kC5, by decide, q_p1 113 rfl rfl, rfl, rfl⟩
set_option maxRecDepth 20000 in
theorem kF_X5_22 : q_F RX5 22 5 3 (.array .int) true := ⟨_, _, _, _, kC5, by decide, q_p1 116 rfl rfl, rfl, rfl⟩
set_option maxRecDepth 20000 in
theorem kF_X5_25 : q_F RX5 25 5 4 (.array .int) true := ⟨_, _, _, _, kC5, by decide, q_p1 119 rfl rfl, rfl, rfl⟩
set_option maxRecDepth 20000 in
theorem kF_X5_31 : q_F RX5 31 5 5 (.object "MustardPast$Law") true := ⟨_, _, _, _, kC5, by decide, q_p1 122 rfl rfl, rfl, rfl⟩
set_option maxRecDepth 20000 in
theorem kF_X5_35 : q_F RX5 35 5 6 (.int) false := ⟨_, _, _, _, kC5, by decide, q_p1 124 rfl rfl, rfl, rfl⟩
set_option maxRecDepth 20000 in
theorem kF_X5_39 : q_F RX5 39 5 7 (.int) false := ⟨_, _, _, _, kC5, by decide, q_p1 128 rfl rfl, rfl, rfl⟩
set_option maxRecDepth 20000 in
theorem kF_X5_42 : q_F RX5 42 5 8 (.int) false := ⟨_, _, _, _, kC5, by decide, q_p1 131 rfl rfl, rfl, rfl⟩
set_option maxRecDepth 20000 in
theorem kF_X5_45 : q_F RX5 45 5 9 (.int) false := ⟨_, _, _, _, kC5, by decide, q_p1 134 rfl rfl, rfl, rfl⟩
set_option maxRecDepth 20000 in
theorem kF_X5_48 : q_F RX5 48 5 10 (.int) false := ⟨_, _, _, _, kC5, by decide, q_p1 137 rfl rfl, rfl, rfl⟩
set_option maxRecDepth 20000 in
theorem kF_X6_9 : q_F RX6 9 6 0 (.array .char) true := ⟨_, _, _, _, kC6, by decide, q_p1 36 rfl rfl, rfl, rfl⟩
set_option maxRecDepth 20000 in
theorem kF_X6_19 : q_F RX6 19 6 1 (.int) false := ⟨_, _, _, _, kC6, by decide, q_p1 38 rfl rfl, rfl, rfl⟩
set_option maxRecDepth 20000 in
theorem kF_X6_23 : q_F RX6 23 6 2 (.int) false := ⟨_, _, _, _, kC6, by decide, q_p1 39 rfl rfl, rfl, rfl⟩
set_option maxRecDepth 20000 in
theorem kF_X6_26 : q_F RX6 26 6 8 (.int) false := ⟨_, _, _, _, kC6, by decide, q_p1 50 rfl rfl, rfl, rfl⟩
set_option maxRecDepth 20000 in
theorem kF_X6_32 : q_F RX6 32 6 3 (.int) false := ⟨_, _, _, _, kC6, by decide, q_p1 40 rfl rfl, rfl, rfl⟩
set_option maxRecDepth 20000 in
theorem kF_X6_35 : q_F RX6 35 6 4 (.int) false := ⟨_, _, _, _, kC6, by decide, q_p1 42 rfl rfl, rfl, rfl⟩
set_option maxRecDepth 20000 in
theorem kF_X6_42 : q_F RX6 42 6 7 (.int) false := ⟨_, _, _, _, kC6, by decide, q_p1 47 rfl rfl, rfl, rfl⟩
set_option maxRecDepth 20000 in
theorem kF_X6_51 : q_F RX6 51 6 5 (.int) false := ⟨_, _, _, _, kC6, by decide, q_p1 43 rfl rfl, rfl, rfl⟩
set_option maxRecDepth 20000 in
theorem kF_X6_77 : q_F RX6 77 6 6 (.long) false := ⟨_, _, _, _, kC6, by decide, q_p1 46 rfl rfl, rfl, rfl⟩
set_option maxRecDepth 20000 in
theorem kF_X7_9 : q_F RX7 9 7 0 (.array .int) true := ⟨_, _, _, _, kC7, by decide, q_p1 231 rfl rfl, rfl, rfl⟩
set_option maxRecDepth 20000 in
theorem kF_X7_15 : q_F RX7 15 7 1 (.array .int) true := ⟨_, _, _, _, kC7, by decide, q_p1 233 rfl rfl, rfl, rfl⟩
set_option maxRecDepth 20000 in
theorem kF_X7_18 : q_F RX7 18 7 2 (.array .boolean) true := ⟨_, _, _, _, kC7, by decide, q_p1 235 rfl rfl, rfl, rfl⟩
set_option maxRecDepth 20000 in
theorem kF_X7_22 : q_F RX7 22 7 3 (.int) false := ⟨_, _, _, _, kC7, by decide, q_p1 237 rfl rfl, rfl, rfl⟩
set_option maxRecDepth 20000 in
theorem kF_X8_9 : q_F RX8 9 8 0 (.array .int) true := ⟨_, _, _, _, kC8, by decide, q_p1 168 rfl rfl, rfl, rfl⟩
set_option maxRecDepth 20000 in
theorem kF_X8_15 : q_F RX8 15 8 1 (.array .int) true := ⟨_, _, _, _, kC8, by decide, q_p1 170 rfl rfl, rfl, rfl⟩
set_option maxRecDepth 20000 in
theorem kF_X8_18 : q_F RX8 18 5 3 (.array .int) true := ⟨_, _, _, _, kC5, by decide, q_p1 117 rfl rfl, rfl, rfl⟩
set_option maxRecDepth 20000 in
theorem kF_X8_21 : q_F RX8 21 5 8 (.int) false := ⟨_, _, _, _, kC5, by decide, q_p1 132 rfl rfl, rfl, rfl⟩
set_option maxRecDepth 20000 in
theorem kF_X8_25 : q_F RX8 25 8 2 (.int) false := ⟨_, _, _, _, kC8, by decide, q_p1 172 rfl rfl, rfl, rfl⟩
set_option maxRecDepth 20000 in
theorem kF_X8_26 : q_F RX8 26 8 3 (.int) false := ⟨_, _, _, _, kC8, by decide, q_p1 174 rfl rfl, rfl, rfl⟩
set_option maxRecDepth 20000 in
theorem kF_X8_41 : q_F RX8 41 5 6 (.int) false := ⟨_, _, _, _, kC5, by decide, q_p1 126 rfl rfl, rfl, rfl⟩
set_option maxRecDepth 20000 in
theorem kF_X10_7 : q_F RX10 7 10 2 (.array .int) true := ⟨_, _, _, _, kC10, by decide, q_p5 74 rfl rfl, rfl, rfl⟩
set_option maxRecDepth 20000 in
theorem kF_X10_13 : q_F RX10 13 10 10 (.array .int) true := ⟨_, _, _, _, kC10, by decide, q_p5 82 rfl rfl, rfl, rfl⟩
set_option maxRecDepth 20000 in
theorem kF_X10_16 : q_F RX10 16 10 11 (.array .long) true := ⟨_, _, _, _, kC10, by decide, q_p5 83 rfl rfl, rfl, rfl⟩
set_option maxRecDepth 20000 in
theorem kF_X10_20 : q_F RX10 20 10 12 (.array .int) true := ⟨_, _, _, _, kC10, by decide, q_p5 84 rfl rfl, rfl, rfl⟩
set_option maxRecDepth 20000 in
theorem kF_X10_23 : q_F RX10 23 10 13 (.array .int) true := ⟨_, _, _, _, kC10, by decide, q_p5 85 rfl rfl, rfl, rfl⟩
set_option maxRecDepth 20000 in
theorem kF_X10_26 : q_F RX10 26 10 14 (.array .int) true := ⟨_, _, _, _, kC10, by decide, q_p5 86 rfl rfl, rfl, rfl⟩
set_option maxRecDepth 20000 in
theorem kF_X10_29 : q_F RX10 29 10 15 (.array .int) true := ⟨_, _, _, _, kC10, by decide, q_p5 87 rfl rfl, rfl, rfl⟩
set_option maxRecDepth 20000 in
theorem kF_X10_32 : q_F RX10 32 10 16 (.array .int) true := ⟨_, _, _, _, kC10, by decide, q_p5 88 rfl rfl, rfl, rfl⟩
set_option maxRecDepth 20000 in
theorem kF_X10_35 : q_F RX10 35 10 17 (.array .int) true := ⟨_, _, _, _, kC10, by decide, q_p5 89 rfl rfl, rfl, rfl⟩
set_option maxRecDepth 20000 in
theorem kF_X10_38 : q_F RX10 38 10 18 (.array .int) true := ⟨_, _, _, _, kC10, by decide, q_p5 90 rfl rfl, rfl, rfl⟩
set_option maxRecDepth 20000 in
theorem kF_X10_41 : q_F RX10 41 10 21 (.array .int) true := ⟨_, _, _, _, kC10, by decide, q_p5 93 rfl rfl, rfl, rfl⟩
set_option maxRecDepth 20000 in
theorem kF_X10_44 : q_F RX10 44 10 22 (.array .boolean) true := ⟨_, _, _, _, kC10, by decide, q_p5 94 rfl rfl, rfl, rfl⟩
set_option maxRecDepth 20000 in
theorem kF_X10_48 : q_F RX10 48 10 23 (.array .int) true := ⟨_, _, _, _, kC10, by decide, q_p5 95 rfl rfl, rfl, rfl⟩
set_option maxRecDepth 20000 in
theorem kF_X10_51 : q_F RX10 51 10 24 (.array .int) true := ⟨_, _, _, _, kC10, by decide, q_p5 96 rfl rfl, rfl, rfl⟩
set_option maxRecDepth 20000 in
theorem kF_X10_54 : q_F RX10 54 10 25 (.array .int) true := ⟨_, _, _, _, kC10, by decide, q_p5 97 rfl rfl, rfl, rfl⟩
set_option maxRecDepth 20000 in
theorem kF_X10_57 : q_F RX10 57 10 26 (.array .int) true := ⟨_, _, _, _, kC10, by decide, q_p5 98 rfl rfl, rfl, rfl⟩
set_option maxRecDepth 20000 in
theorem kF_X10_60 : q_F RX10 60 10 27 (.array .int) true := ⟨_, _, _, _, kC10, by decide, q_p5 99 rfl rfl, rfl, rfl⟩
set_option maxRecDepth 20000 in
theorem kF_X10_63 : q_F RX10 63 10 28 (.array .int) true := ⟨_, _, _, _, kC10, by decide, q_p5 100 rfl rfl, rfl, rfl⟩
set_option maxRecDepth 20000 in
theorem kF_X10_66 : q_F RX10 66 10 29 (.array .int) true := ⟨_, _, _, _, kC10, by decide, q_p5 101 rfl rfl, rfl, rfl⟩
set_option maxRecDepth 20000 in
theorem kF_X10_69 : q_F RX10 69 10 30 (.array .int) true := ⟨_, _, _, _, kC10, by decide, q_p5 102 rfl rfl, rfl, rfl⟩
set_option maxRecDepth 20000 in
theorem kF_X10_72 : q_F RX10 72 10 31 (.array .int) true := ⟨_, _, _, _, kC10, by decide, q_p5 103 rfl rfl, rfl, rfl⟩
set_option maxRecDepth 20000 in
theorem kF_X10_75 : q_F RX10 75 10 32 (.array .int) true := ⟨_, _, _, _, kC10, by decide, q_p5 104 rfl rfl, rfl, rfl⟩
set_option maxRecDepth 20000 in
theorem kF_X10_78 : q_F RX10 78 10 34 (.array .int) true := ⟨_, _, _, _, kC10, by decide, q_p5 106 rfl rfl, rfl, rfl⟩
set_option maxRecDepth 20000 in
theorem kF_X10_81 : q_F RX10 81 10 35 (.array .int) true := ⟨_, _, _, _, kC10, by decide, q_p5 107 rfl rfl, rfl, rfl⟩
set_option maxRecDepth 20000 in
theorem kF_X10_84 : q_F RX10 84 10 36 (.array .int) true := ⟨_, _, _, _, kC10, by decide, q_p5 108 rfl rfl, rfl, rfl⟩
set_option maxRecDepth 20000 in
theorem kF_X10_87 : q_F RX10 87 10 37 (.array .int) true := ⟨_, _, _, _, kC10, by decide, q_p5 109 rfl rfl, rfl, rfl⟩
set_option maxRecDepth 20000 in
theorem kF_X10_90 : q_F RX10 90 10 38 (.array .int) true := ⟨_, _, _, _, kC10, by decide, q_p5 110 rfl rfl, rfl, rfl⟩
set_option maxRecDepth 20000 in
theorem kF_X10_93 : q_F RX10 93 10 39 (.array .int) true := ⟨_, _, _, _, kC10, by decide, q_p5 111 rfl rfl, rfl, rfl⟩
set_option maxRecDepth 20000 in
theorem kF_X10_96 : q_F RX10 96 10 40 (.array .boolean) true := ⟨_, _, _, _, kC10, by decide, q_p5 112 rfl rfl, rfl, rfl⟩
set_option maxRecDepth 20000 in
theorem kF_X10_99 : q_F RX10 99 10 41 (.array .int) true := ⟨_, _, _, _, kC10, by decide, q_p5 113 rfl rfl, rfl, rfl⟩
set_option maxRecDepth 20000 in
theorem kF_X10_102 : q_F RX10 102 10 42 (.array .int) true := ⟨_, _, _, _, kC10, by decide, q_p5 114 rfl rfl, rfl, rfl⟩
set_option maxRecDepth 20000 in
theorem kF_X10_105 : q_F RX10 105 10 43 (.array .int) true := ⟨_, _, _, _, kC10, by decide, q_p5 115 rfl rfl, rfl, rfl⟩
set_option maxRecDepth 20000 in
theorem kF_X10_108 : q_F RX10 108 10 44 (.array .int) true := ⟨_, _, _, _, kC10, by decide, q_p5 116 rfl rfl, rfl, rfl⟩
set_option maxRecDepth 20000 in
theorem kF_X10_111 : q_F RX10 111 10 45 (.array .int) true := ⟨_, _, _, _, kC10, by decide, q_p5 117 rfl rfl, rfl, rfl⟩
set_option maxRecDepth 20000 in
theorem kF_X10_114 : q_F RX10 114 10 46 (.array .boolean) true := ⟨_, _, _, _, kC10, by decide, q_p5 118 rfl rfl, rfl, rfl⟩
set_option maxRecDepth 20000 in
theorem kF_X10_117 : q_F RX10 117 10 48 (.array .int) true := ⟨_, _, _, _, kC10, by decide, q_p5 120 rfl rfl, rfl, rfl⟩
set_option maxRecDepth 20000 in
theorem kF_X10_120 : q_F RX10 120 10 49 (.array .int) true := ⟨_, _, _, _, kC10, by decide, q_p5 121 rfl rfl, rfl, rfl⟩
set_option maxRecDepth 20000 in
theorem kF_X10_123 : q_F RX10 123 10 50 (.array .int) true := ⟨_, _, _, _, kC10, by decide, q_p5 122 rfl rfl, rfl, rfl⟩
set_option maxRecDepth 20000 in
theorem kF_X10_126 : q_F RX10 126 10 51 (.array .int) true := ⟨_, _, _, _, kC10, by decide, q_p5 123 rfl rfl, rfl, rfl⟩
set_option maxRecDepth 20000 in
theorem kF_X10_136 : q_F RX10 136 10 0 (.int) false := ⟨_, _, _, _, kC10, by decide, q_p5 72 rfl rfl, rfl, rfl⟩
set_option maxRecDepth 20000 in
theorem kF_X10_142 : q_F RX10 142 10 1 (.int) false := ⟨_, _, _, _, kC10, by decide, q_p5 73 rfl rfl, rfl, rfl⟩
set_option maxRecDepth 20000 in
theorem kF_X10_145 : q_F RX10 145 10 3 (.int) false := ⟨_, _, _, _, kC10, by decide, q_p5 75 rfl rfl, rfl, rfl⟩
set_option maxRecDepth 20000 in
theorem kF_X10_148 : q_F RX10 148 10 4 (.int) false := ⟨_, _, _, _, kC10, by decide, q_p5 76 rfl rfl, rfl, rfl⟩
set_option maxRecDepth 20000 in
theorem kF_X10_151 : q_F RX10 151 10 5 (.int) false := ⟨_, _, _, _, kC10, by decide, q_p5 77 rfl rfl, rfl, rfl⟩
set_option maxRecDepth 20000 in
theorem kF_X10_154 : q_F RX10 154 10 7 (.long) false := ⟨_, _, _, _, kC10, by decide, q_p5 79 rfl rfl, rfl, rfl⟩
set_option maxRecDepth 20000 in
theorem kF_X10_158 : q_F RX10 158 10 8 (.int) false := ⟨_, _, _, _, kC10, by decide, q_p5 80 rfl rfl, rfl, rfl⟩
set_option maxRecDepth 20000 in
theorem kF_X10_161 : q_F RX10 161 10 6 (.int) false := ⟨_, _, _, _, kC10, by decide, q_p5 78 rfl rfl, rfl, rfl⟩
set_option maxRecDepth 20000 in
theorem kF_X10_172 : q_F RX10 172 10 9 (.int) false := ⟨_, _, _, _, kC10, by decide, q_p5 81 rfl rfl, rfl, rfl⟩
set_option maxRecDepth 20000 in
theorem kF_X10_175 : q_F RX10 175 10 19 (.int) false := ⟨_, _, _, _, kC10, by decide, q_p5 91 rfl rfl, rfl, rfl⟩
set_option maxRecDepth 20000 in
theorem kF_X10_256 : q_F RX10 256 10 33 (.int) false := ⟨_, _, _, _, kC10, by decide, q_p5 105 rfl rfl, rfl, rfl⟩
set_option maxRecDepth 20000 in
theorem kF_X10_280 : q_F RX10 280 10 20 (.int) false := ⟨_, _, _, _, kC10, by decide, q_p5 92 rfl rfl, rfl, rfl⟩
set_option maxRecDepth 20000 in
theorem kF_X10_314 : q_F RX10 314 10 47 (.int) false := ⟨_, _, _, _, kC10, by decide, q_p5 119 rfl rfl, rfl, rfl⟩
set_option maxRecDepth 20000 in
theorem kF_X10_426 : q_F RX10 426 10 52 (.long) false := ⟨_, _, _, _, kC10, by decide, q_p5 124 rfl rfl, rfl, rfl⟩
set_option maxRecDepth 20000 in
theorem kY_J6_bitCount_0f7a4 : q_Y yJ6_bitCount_0f7a4 cJ6_bitCount_0f7a4 1 (some .int) 1 := ⟨q_p3 194 rfl rfl, q_p1 17 rfl rfl, by decide, by decide +kernel⟩
set_option maxRecDepth 20000 in
theorem kS_J6_bitCount_0f7a4 : Cond.static yJ6_bitCount_0f7a4 ∈ q_tbl := q_p3 193 rfl rfl
set_option maxRecDepth 20000 in
theorem kY_X0_clear : q_YV yX0_clear cX0_clear 1 none 0 0 := ⟨⟨q_p3 66 rfl rfl, q_p1 7 rfl rfl, by decide, by decide +kernel⟩, q_p3 64 rfl rfl, q_p3 65 rfl rfl, _, _, rfl⟩
set_option maxRecDepth 20000 in
theorem kY_X0_giveBack : q_YV yX0_giveBack cX0_giveBack 2 (some .boolean) 1 0 := ⟨⟨q_p3 205 rfl rfl, q_p1 7 rfl rfl, by decide, by decide +kernel⟩, q_p3 203 rfl rfl, q_p3 204 rfl rfl, _, _, rfl⟩
set_option maxRecDepth 20000 in
theorem kY_X0_init : q_Y yX0_init cX0_init 2 none 0 := ⟨q_p1 189 rfl rfl, q_p1 7 rfl rfl, by decide, by decide +kernel⟩
set_option maxRecDepth 20000 in
theorem kI_X0_init : Cond.instanceMethod yX0_init ∈ q_tbl := q_p1 188 rfl rfl
set_option maxRecDepth 20000 in
theorem kY_X0_keep : q_YV yX0_keep cX0_keep 2 none 1 0 := ⟨⟨q_p3 129 rfl rfl, q_p1 7 rfl rfl, by decide, by decide +kernel⟩, q_p3 127 rfl rfl, q_p3 128 rfl rfl, _, _, rfl⟩
set_option maxRecDepth 20000 in
theorem kY_X10_again : q_YV yX10_again cX10_again 2 (some .int) 1 10 := ⟨⟨q_p7 66 rfl rfl, q_p1 11 rfl rfl, by decide, by decide +kernel⟩, q_p7 64 rfl rfl, q_p7 65 rfl rfl, _, _, rfl⟩
set_option maxRecDepth 20000 in
theorem kY_X10_all : q_YV yX10_all cX10_all 1 (some .int) 0 10 := ⟨⟨q_p7 42 rfl rfl, q_p1 11 rfl rfl, by decide, by decide +kernel⟩, q_p7 40 rfl rfl, q_p7 41 rfl rfl, _, _, rfl⟩
set_option maxRecDepth 20000 in
theorem kY_X10_allOf : q_YV yX10_allOf cX10_allOf 4 (some .int) 1 10 := ⟨⟨q_p7 192 rfl rfl, q_p1 11 rfl rfl, by decide, by decide +kernel⟩, q_p7 191 rfl rfl, q_ps (q := (yX10_allOf, 53)) 91 (by decide +kernel), _, _, rfl⟩
set_option maxRecDepth 20000 in
theorem kY_X10_bare : q_YV yX10_bare cX10_bare 3 (some .int) 0 10 := ⟨⟨q_p7 118 rfl rfl, q_p1 11 rfl rfl, by decide, by decide +kernel⟩, q_p7 116 rfl rfl, q_p7 117 rfl rfl, _, _, rfl⟩
set_option maxRecDepth 20000 in
theorem kY_X10_begins : q_YV yX10_begins cX10_begins 1 none 0 10 := ⟨⟨q_p6 12 rfl rfl, q_p1 11 rfl rfl, by decide, by decide +kernel⟩, q_p6 11 rfl rfl, q_ps (q := (yX10_begins, 53)) 39 (by decide +kernel), _, _, rfl⟩
set_option maxRecDepth 20000 in
theorem kY_X10_between : q_Y yX10_between cX10_between 3 (some .int) 3 := ⟨q_p6 192 rfl rfl, q_p1 11 rfl rfl, by decide, by decide +kernel⟩
set_option maxRecDepth 20000 in
theorem kS_X10_between : Cond.static yX10_between ∈ q_tbl := q_p6 191 rfl rfl
set_option maxRecDepth 20000 in
theorem kY_X10_bits : q_Y yX10_bits cX10_bits 3 (some .int) 1 := ⟨q_p6 213 rfl rfl, q_p1 11 rfl rfl, by decide, by decide +kernel⟩
set_option maxRecDepth 20000 in
theorem kS_X10_bits : Cond.static yX10_bits ∈ q_tbl := q_p6 212 rfl rfl
set_option maxRecDepth 20000 in
theorem kY_X10_byYears : q_YV yX10_byYears cX10_byYears 5 (some .int) 1 10 := ⟨⟨q_p7 98 rfl rfl, q_p1 11 rfl rfl, by decide, by decide +kernel⟩, q_p7 97 rfl rfl, q_ps (q := (yX10_byYears, 53)) 84 (by decide +kernel), _, _, rfl⟩
set_option maxRecDepth 20000 in
theorem kY_X10_causes : q_YV yX10_causes cX10_causes 4 (some .int) 1 10 := ⟨⟨q_p7 86 rfl rfl, q_p1 11 rfl rfl, by decide, by decide +kernel⟩, q_p7 84 rfl rfl, q_p7 85 rfl rfl, _, _, rfl⟩
set_option maxRecDepth 20000 in
theorem kY_X10_chance : q_YV yX10_chance cX10_chance 13 (some .int) 3 10 := ⟨⟨q_p7 151 rfl rfl, q_p1 11 rfl rfl, by decide, by decide +kernel⟩, q_p7 149 rfl rfl, q_p7 150 rfl rfl, _, _, rfl⟩
set_option maxRecDepth 20000 in
theorem kY_X10_cheap : q_YV yX10_cheap cX10_cheap 4 (some .int) 2 10 := ⟨⟨q_p7 18 rfl rfl, q_p1 11 rfl rfl, by decide, by decide +kernel⟩, q_p7 16 rfl rfl, q_p7 17 rfl rfl, _, _, rfl⟩
set_option maxRecDepth 20000 in
theorem kY_X10_cheapBy : q_YV yX10_cheapBy cX10_cheapBy 6 (some .int) 1 10 := ⟨⟨q_p7 22 rfl rfl, q_p1 11 rfl rfl, by decide, by decide +kernel⟩, q_p7 21 rfl rfl, q_ps (q := (yX10_cheapBy, 53)) 79 (by decide +kernel), _, _, rfl⟩
set_option maxRecDepth 20000 in
theorem kY_X10_closes : q_YV yX10_closes cX10_closes 1 (some .boolean) 0 10 := ⟨⟨q_p6 75 rfl rfl, q_p1 11 rfl rfl, by decide, by decide +kernel⟩, q_p6 74 rfl rfl, q_ps (q := (yX10_closes, 53)) 49 (by decide +kernel), _, _, rfl⟩
set_option maxRecDepth 20000 in
theorem kY_X10_coats : q_YV yX10_coats cX10_coats 2 none 1 10 := ⟨⟨q_p6 169 rfl rfl, q_p1 11 rfl rfl, by decide, by decide +kernel⟩, q_p6 168 rfl rfl, q_ps (q := (yX10_coats, 53)) 67 (by decide +kernel), _, _, rfl⟩
set_option maxRecDepth 20000 in
theorem kY_X10_comes : q_YV yX10_comes cX10_comes 4 (some .int) 2 10 := ⟨⟨q_p7 70 rfl rfl, q_p1 11 rfl rfl, by decide, by decide +kernel⟩, q_p7 69 rfl rfl, q_ps (q := (yX10_comes, 53)) 83 (by decide +kernel), _, _, rfl⟩
set_option maxRecDepth 20000 in
theorem kY_X10_copies : q_Y yX10_copies cX10_copies 5 none 4 := ⟨q_p6 165 rfl rfl, q_p1 11 rfl rfl, by decide, by decide +kernel⟩
set_option maxRecDepth 20000 in
theorem kS_X10_copies : Cond.static yX10_copies ∈ q_tbl := q_p6 164 rfl rfl
set_option maxRecDepth 20000 in
theorem kY_X10_cost : q_YV yX10_cost cX10_cost 3 (some .int) 1 10 := ⟨⟨q_p7 9 rfl rfl, q_p1 11 rfl rfl, by decide, by decide +kernel⟩, q_p7 7 rfl rfl, q_p7 8 rfl rfl, _, _, rfl⟩
set_option maxRecDepth 20000 in
theorem kY_X10_costOf : q_YV yX10_costOf cX10_costOf 3 (some .int) 1 10 := ⟨⟨q_p7 13 rfl rfl, q_p1 11 rfl rfl, by decide, by decide +kernel⟩, q_p7 12 rfl rfl, q_ps (q := (yX10_costOf, 53)) 78 (by decide +kernel), _, _, rfl⟩
set_option maxRecDepth 20000 in
theorem kY_X10_costsOf : q_YV yX10_costsOf cX10_costsOf 4 (some .int) 1 10 := ⟨⟨q_p7 38 rfl rfl, q_p1 11 rfl rfl, by decide, by decide +kernel⟩, q_p7 37 rfl rfl, q_ps (q := (yX10_costsOf, 53)) 81 (by decide +kernel), _, _, rfl⟩
set_option maxRecDepth 20000 in
theorem kY_X10_count : q_YV yX10_count cX10_count 2 (some .int) 1 10 := ⟨⟨q_p7 188 rfl rfl, q_p1 11 rfl rfl, by decide, by decide +kernel⟩, q_p7 186 rfl rfl, q_p7 187 rfl rfl, _, _, rfl⟩
set_option maxRecDepth 20000 in
theorem kY_X10_dinners : q_YV yX10_dinners cX10_dinners 4 (some .int) 1 10 := ⟨⟨q_p7 82 rfl rfl, q_p1 11 rfl rfl, by decide, by decide +kernel⟩, q_p7 80 rfl rfl, q_p7 81 rfl rfl, _, _, rfl⟩
set_option maxRecDepth 20000 in
theorem kY_X10_draws : q_YV yX10_draws cX10_draws 2 (some .int) 1 10 := ⟨⟨q_p7 172 rfl rfl, q_p1 11 rfl rfl, by decide, by decide +kernel⟩, q_p7 171 rfl rfl, q_ps (q := (yX10_draws, 53)) 89 (by decide +kernel), _, _, rfl⟩
set_option maxRecDepth 20000 in
theorem kY_X10_easiest : q_YV yX10_easiest cX10_easiest 3 (some .int) 0 10 := ⟨⟨q_p7 54 rfl rfl, q_p1 11 rfl rfl, by decide, by decide +kernel⟩, q_p7 52 rfl rfl, q_p7 53 rfl rfl, _, _, rfl⟩
set_option maxRecDepth 20000 in
theorem kY_X10_eat : q_YV yX10_eat cX10_eat 2 (some .int) 1 10 := ⟨⟨q_p6 197 rfl rfl, q_p1 11 rfl rfl, by decide, by decide +kernel⟩, q_p6 195 rfl rfl, q_p6 196 rfl rfl, _, _, rfl⟩
set_option maxRecDepth 20000 in
theorem kY_X10_eaten : q_YV yX10_eaten cX10_eaten 2 none 1 10 := ⟨⟨q_p6 201 rfl rfl, q_p1 11 rfl rfl, by decide, by decide +kernel⟩, q_p6 200 rfl rfl, q_ps (q := (yX10_eaten, 53)) 73 (by decide +kernel), _, _, rfl⟩
set_option maxRecDepth 20000 in
theorem kY_X10_elders : q_YV yX10_elders cX10_elders 4 (some .int) 1 10 := ⟨⟨q_p7 58 rfl rfl, q_p1 11 rfl rfl, by decide, by decide +kernel⟩, q_p7 56 rfl rfl, q_p7 57 rfl rfl, _, _, rfl⟩
set_option maxRecDepth 20000 in
theorem kY_X10_every : q_YV yX10_every cX10_every 1 (some .int) 0 10 := ⟨⟨q_p6 229 rfl rfl, q_p1 11 rfl rfl, by decide, by decide +kernel⟩, q_p6 228 rfl rfl, q_ps (q := (yX10_every, 53)) 76 (by decide +kernel), _, _, rfl⟩
set_option maxRecDepth 20000 in
theorem kY_X10_fact : q_YV yX10_fact cX10_fact 1 (some .int) 0 10 := ⟨⟨q_p6 103 rfl rfl, q_p1 11 rfl rfl, by decide, by decide +kernel⟩, q_p6 102 rfl rfl, q_ps (q := (yX10_fact, 53)) 56 (by decide +kernel), _, _, rfl⟩
set_option maxRecDepth 20000 in
theorem kY_X10_fails : q_YV yX10_fails cX10_fails 2 (some .boolean) 1 10 := ⟨⟨q_p6 35 rfl rfl, q_p1 11 rfl rfl, by decide, by decide +kernel⟩, q_p6 34 rfl rfl, q_ps (q := (yX10_fails, 53)) 44 (by decide +kernel), _, _, rfl⟩
set_option maxRecDepth 20000 in
theorem kY_X10_feed : q_YV yX10_feed cX10_feed 11 (some .int) 3 10 := ⟨⟨q_p5 239 rfl rfl, q_p1 11 rfl rfl, by decide, by decide +kernel⟩, q_p5 237 rfl rfl, q_p5 238 rfl rfl, _, _, rfl⟩
set_option maxRecDepth 20000 in
theorem kY_X10_fills : q_YV yX10_fills cX10_fills 3 (some .int) 1 10 := ⟨⟨q_p7 78 rfl rfl, q_p1 11 rfl rfl, by decide, by decide +kernel⟩, q_p7 76 rfl rfl, q_p7 77 rfl rfl, _, _, rfl⟩
set_option maxRecDepth 20000 in
theorem kY_X10_fresh0 : q_YV yX10_fresh0 cX10_fresh0 2 none 0 10 := ⟨⟨q_p5 71 rfl rfl, q_p1 11 rfl rfl, by decide, by decide +kernel⟩, q_p5 70 rfl rfl, q_ps (q := (yX10_fresh0, 53)) 37 (by decide +kernel), _, _, rfl⟩
set_option maxRecDepth 20000 in
theorem kY_X10_fruits : q_YV yX10_fruits cX10_fruits 2 (some .int) 1 10 := ⟨⟨q_p7 90 rfl rfl, q_p1 11 rfl rfl, by decide, by decide +kernel⟩, q_p7 88 rfl rfl, q_p7 89 rfl rfl, _, _, rfl⟩
set_option maxRecDepth 20000 in
theorem kY_X10_gap : q_YV yX10_gap cX10_gap 3 (some .int) 0 10 := ⟨⟨q_p7 114 rfl rfl, q_p1 11 rfl rfl, by decide, by decide +kernel⟩, q_p7 112 rfl rfl, q_p7 113 rfl rfl, _, _, rfl⟩
set_option maxRecDepth 20000 in
theorem kY_X10_getsBy : q_Y yX10_getsBy cX10_getsBy 5 (some .int) 5 := ⟨q_p7 160 rfl rfl, q_p1 11 rfl rfl, by decide, by decide +kernel⟩
set_option maxRecDepth 20000 in
theorem kS_X10_getsBy : Cond.static yX10_getsBy ∈ q_tbl := q_p7 159 rfl rfl
set_option maxRecDepth 20000 in
theorem kY_X10_heals : q_YV yX10_heals cX10_heals 2 (some .int) 1 10 := ⟨⟨q_p7 74 rfl rfl, q_p1 11 rfl rfl, by decide, by decide +kernel⟩, q_p7 72 rfl rfl, q_p7 73 rfl rfl, _, _, rfl⟩
set_option maxRecDepth 20000 in
theorem kY_X10_init : q_Y yX10_init cX10_init 1 none 0 := ⟨q_p5 62 rfl rfl, q_p1 11 rfl rfl, by decide, by decide +kernel⟩
set_option maxRecDepth 20000 in
theorem kI_X10_init : Cond.instanceMethod yX10_init ∈ q_tbl := q_p5 61 rfl rfl
set_option maxRecDepth 20000 in
theorem kY_X10_isAsSeen : q_YV yX10_isAsSeen cX10_isAsSeen 3 (some .boolean) 1 10 := ⟨⟨q_p7 142 rfl rfl, q_p1 11 rfl rfl, by decide, by decide +kernel⟩, q_p7 141 rfl rfl, q_ps (q := (yX10_isAsSeen, 53)) 87 (by decide +kernel), _, _, rfl⟩
set_option maxRecDepth 20000 in
theorem kY_X10_isDone : q_YV yX10_isDone cX10_isDone 3 (some .boolean) 1 10 := ⟨⟨q_p6 225 rfl rfl, q_p1 11 rfl rfl, by decide, by decide +kernel⟩, q_p6 224 rfl rfl, q_ps (q := (yX10_isDone, 53)) 75 (by decide +kernel), _, _, rfl⟩
set_option maxRecDepth 20000 in
theorem kY_X10_isKept : q_YV yX10_isKept cX10_isKept 1 (some .boolean) 0 10 := ⟨⟨q_p6 39 rfl rfl, q_p1 11 rfl rfl, by decide, by decide +kernel⟩, q_p6 38 rfl rfl, q_ps (q := (yX10_isKept, 53)) 45 (by decide +kernel), _, _, rfl⟩
set_option maxRecDepth 20000 in
theorem kY_X10_isMatter : q_YV yX10_isMatter cX10_isMatter 2 (some .boolean) 1 10 := ⟨⟨q_p6 142 rfl rfl, q_p1 11 rfl rfl, by decide, by decide +kernel⟩, q_p6 141 rfl rfl, q_ps (q := (yX10_isMatter, 53)) 62 (by decide +kernel), _, _, rfl⟩
set_option maxRecDepth 20000 in
theorem kY_X10_isSign : q_YV yX10_isSign cX10_isSign 2 (some .boolean) 1 10 := ⟨⟨q_p6 79 rfl rfl, q_p1 11 rfl rfl, by decide, by decide +kernel⟩, q_p6 78 rfl rfl, q_ps (q := (yX10_isSign, 53)) 50 (by decide +kernel), _, _, rfl⟩
set_option maxRecDepth 20000 in
theorem kY_X10_isWord : q_YV yX10_isWord cX10_isWord 3 (some .boolean) 1 10 := ⟨⟨q_p6 27 rfl rfl, q_p1 11 rfl rfl, by decide, by decide +kernel⟩, q_p6 26 rfl rfl, q_ps (q := (yX10_isWord, 53)) 42 (by decide +kernel), _, _, rfl⟩
set_option maxRecDepth 20000 in
theorem kY_X10_judged : q_YV yX10_judged cX10_judged 5 (some .int) 1 10 := ⟨⟨q_p6 221 rfl rfl, q_p1 11 rfl rfl, by decide, by decide +kernel⟩, q_p6 219 rfl rfl, q_p6 220 rfl rfl, _, _, rfl⟩
set_option maxRecDepth 20000 in
theorem kY_X10_keeps : q_YV yX10_keeps cX10_keeps 2 none 0 10 := ⟨⟨q_p6 162 rfl rfl, q_p1 11 rfl rfl, by decide, by decide +kernel⟩, q_p6 161 rfl rfl, q_ps (q := (yX10_keeps, 53)) 66 (by decide +kernel), _, _, rfl⟩
set_option maxRecDepth 20000 in
theorem kY_X10_lacks : q_YV yX10_lacks cX10_lacks 2 (some .int) 0 10 := ⟨⟨q_p7 50 rfl rfl, q_p1 11 rfl rfl, by decide, by decide +kernel⟩, q_p7 48 rfl rfl, q_p7 49 rfl rfl, _, _, rfl⟩
set_option maxRecDepth 20000 in
theorem kY_X10_later : q_YV yX10_later cX10_later 4 (some .int) 2 10 := ⟨⟨q_p7 62 rfl rfl, q_p1 11 rfl rfl, by decide, by decide +kernel⟩, q_p7 60 rfl rfl, q_p7 61 rfl rfl, _, _, rfl⟩
set_option maxRecDepth 20000 in
theorem kY_X10_lays : q_YV yX10_lays cX10_lays 2 none 0 10 := ⟨⟨q_p6 115 rfl rfl, q_p1 11 rfl rfl, by decide, by decide +kernel⟩, q_p6 114 rfl rfl, q_ps (q := (yX10_lays, 53)) 58 (by decide +kernel), _, _, rfl⟩
set_option maxRecDepth 20000 in
theorem kY_X10_laysCauses : q_YV yX10_laysCauses cX10_laysCauses 4 none 0 10 := ⟨⟨q_p6 122 rfl rfl, q_p1 11 rfl rfl, by decide, by decide +kernel⟩, q_p6 121 rfl rfl, q_ps (q := (yX10_laysCauses, 53)) 59 (by decide +kernel), _, _, rfl⟩
set_option maxRecDepth 20000 in
theorem kY_X10_laysCosts : q_YV yX10_laysCosts cX10_laysCosts 2 none 0 10 := ⟨⟨q_p7 34 rfl rfl, q_p1 11 rfl rfl, by decide, by decide +kernel⟩, q_p7 33 rfl rfl, q_ps (q := (yX10_laysCosts, 53)) 80 (by decide +kernel), _, _, rfl⟩
set_option maxRecDepth 20000 in
theorem kY_X10_laysLines : q_YV yX10_laysLines cX10_laysLines 4 none 2 10 := ⟨⟨q_p6 134 rfl rfl, q_p1 11 rfl rfl, by decide, by decide +kernel⟩, q_p6 133 rfl rfl, q_ps (q := (yX10_laysLines, 53)) 61 (by decide +kernel), _, _, rfl⟩
set_option maxRecDepth 20000 in
theorem kY_X10_laysSeen : q_YV yX10_laysSeen cX10_laysSeen 4 none 2 10 := ⟨⟨q_p7 184 rfl rfl, q_p1 11 rfl rfl, by decide, by decide +kernel⟩, q_p7 183 rfl rfl, q_ps (q := (yX10_laysSeen, 53)) 90 (by decide +kernel), _, _, rfl⟩
set_option maxRecDepth 20000 in
theorem kY_X10_laysSours : q_YV yX10_laysSours cX10_laysSours 3 none 0 10 := ⟨⟨q_p7 134 rfl rfl, q_p1 11 rfl rfl, by decide, by decide +kernel⟩, q_p7 133 rfl rfl, q_ps (q := (yX10_laysSours, 53)) 85 (by decide +kernel), _, _, rfl⟩
set_option maxRecDepth 20000 in
theorem kY_X10_livesYear : q_YV yX10_livesYear cX10_livesYear 4 (some .boolean) 0 10 := ⟨⟨q_p7 168 rfl rfl, q_p1 11 rfl rfl, by decide, by decide +kernel⟩, q_p7 167 rfl rfl, q_ps (q := (yX10_livesYear, 53)) 88 (by decide +kernel), _, _, rfl⟩
set_option maxRecDepth 20000 in
theorem kY_X10_lost : q_YV yX10_lost cX10_lost 3 (some .int) 0 10 := ⟨⟨q_p7 26 rfl rfl, q_p1 11 rfl rfl, by decide, by decide +kernel⟩, q_p7 24 rfl rfl, q_p7 25 rfl rfl, _, _, rfl⟩
set_option maxRecDepth 20000 in
theorem kY_X10_mark : q_YV yX10_mark cX10_mark 5 (some .boolean) 2 10 := ⟨⟨q_p7 180 rfl rfl, q_p1 11 rfl rfl, by decide, by decide +kernel⟩, q_p7 178 rfl rfl, q_p7 179 rfl rfl, _, _, rfl⟩
set_option maxRecDepth 20000 in
theorem kY_X10_matter : q_YV yX10_matter cX10_matter 3 (some .int) 2 10 := ⟨⟨q_p6 138 rfl rfl, q_p1 11 rfl rfl, by decide, by decide +kernel⟩, q_p6 136 rfl rfl, q_p6 137 rfl rfl, _, _, rfl⟩
set_option maxRecDepth 20000 in
theorem kY_X10_matterNamed : q_YV yX10_matterNamed cX10_matterNamed 3 (some .int) 1 10 := ⟨⟨q_p6 60 rfl rfl, q_p1 11 rfl rfl, by decide, by decide +kernel⟩, q_p6 59 rfl rfl, q_ps (q := (yX10_matterNamed, 53)) 46 (by decide +kernel), _, _, rfl⟩
set_option maxRecDepth 20000 in
theorem kY_X10_meant : q_YV yX10_meant cX10_meant 1 (some .int) 0 10 := ⟨⟨q_p6 233 rfl rfl, q_p1 11 rfl rfl, by decide, by decide +kernel⟩, q_p6 231 rfl rfl, q_p6 232 rfl rfl, _, _, rfl⟩
set_option maxRecDepth 20000 in
theorem kY_X10_meantNow : q_YV yX10_meantNow cX10_meantNow 3 (some .int) 0 10 := ⟨⟨q_p6 146 rfl rfl, q_p1 11 rfl rfl, by decide, by decide +kernel⟩, q_p6 145 rfl rfl, q_ps (q := (yX10_meantNow, 53)) 63 (by decide +kernel), _, _, rfl⟩
set_option maxRecDepth 20000 in
theorem kY_X10_most : q_YV yX10_most cX10_most 6 (some .int) 2 10 := ⟨⟨q_p7 30 rfl rfl, q_p1 11 rfl rfl, by decide, by decide +kernel⟩, q_p7 28 rfl rfl, q_p7 29 rfl rfl, _, _, rfl⟩
set_option maxRecDepth 20000 in
theorem kY_X10_needsBoth : q_YV yX10_needsBoth cX10_needsBoth 5 (some .boolean) 3 10 := ⟨⟨q_p6 64 rfl rfl, q_p1 11 rfl rfl, by decide, by decide +kernel⟩, q_p6 63 rfl rfl, q_ps (q := (yX10_needsBoth, 53)) 47 (by decide +kernel), _, _, rfl⟩
set_option maxRecDepth 20000 in
theorem kY_X10_needsMatter : q_YV yX10_needsMatter cX10_needsMatter 2 (some .boolean) 1 10 := ⟨⟨q_p6 87 rfl rfl, q_p1 11 rfl rfl, by decide, by decide +kernel⟩, q_p6 86 rfl rfl, q_ps (q := (yX10_needsMatter, 53)) 52 (by decide +kernel), _, _, rfl⟩
set_option maxRecDepth 20000 in
theorem kY_X10_needsNumber : q_YV yX10_needsNumber cX10_needsNumber 3 (some .boolean) 2 10 := ⟨⟨q_p6 68 rfl rfl, q_p1 11 rfl rfl, by decide, by decide +kernel⟩, q_p6 67 rfl rfl, q_ps (q := (yX10_needsNumber, 53)) 48 (by decide +kernel), _, _, rfl⟩
set_option maxRecDepth 20000 in
theorem kY_X10_nextToken : q_YV yX10_nextToken cX10_nextToken 2 none 0 10 := ⟨⟨q_p6 16 rfl rfl, q_p1 11 rfl rfl, by decide, by decide +kernel⟩, q_p6 15 rfl rfl, q_ps (q := (yX10_nextToken, 53)) 40 (by decide +kernel), _, _, rfl⟩
set_option maxRecDepth 20000 in
theorem kY_X10_opens : q_YV yX10_opens cX10_opens 2 none 1 10 := ⟨⟨q_p6 181 rfl rfl, q_p1 11 rfl rfl, by decide, by decide +kernel⟩, q_p6 180 rfl rfl, q_ps (q := (yX10_opens, 53)) 70 (by decide +kernel), _, _, rfl⟩
set_option maxRecDepth 20000 in
theorem kY_X10_passes : q_YV yX10_passes cX10_passes 2 none 0 10 := ⟨⟨q_p6 209 rfl rfl, q_p1 11 rfl rfl, by decide, by decide +kernel⟩, q_p6 208 rfl rfl, q_ps (q := (yX10_passes, 53)) 74 (by decide +kernel), _, _, rfl⟩
set_option maxRecDepth 20000 in
theorem kY_X10_past : q_YV yX10_past cX10_past 2 (some .int) 0 10 := ⟨⟨q_p6 4 rfl rfl, q_p1 11 rfl rfl, by decide, by decide +kernel⟩, q_p6 2 rfl rfl, q_p6 3 rfl rfl, _, _, rfl⟩
set_option maxRecDepth 20000 in
theorem kY_X10_priceOf : q_YV yX10_priceOf cX10_priceOf 2 (some .int) 1 10 := ⟨⟨q_p6 158 rfl rfl, q_p1 11 rfl rfl, by decide, by decide +kernel⟩, q_p6 157 rfl rfl, q_ps (q := (yX10_priceOf, 53)) 65 (by decide +kernel), _, _, rfl⟩
set_option maxRecDepth 20000 in
theorem kY_X10_puts : q_YV yX10_puts cX10_puts 2 none 1 10 := ⟨⟨q_p6 111 rfl rfl, q_p1 11 rfl rfl, by decide, by decide +kernel⟩, q_p6 110 rfl rfl, q_ps (q := (yX10_puts, 53)) 57 (by decide +kernel), _, _, rfl⟩
set_option maxRecDepth 20000 in
theorem kY_X10_reads : q_YV yX10_reads cX10_reads 6 (some .boolean) 0 10 := ⟨⟨q_p6 99 rfl rfl, q_p1 11 rfl rfl, by decide, by decide +kernel⟩, q_p6 98 rfl rfl, q_ps (q := (yX10_reads, 53)) 55 (by decide +kernel), _, _, rfl⟩
set_option maxRecDepth 20000 in
theorem kY_X10_readsAll : q_YV yX10_readsAll cX10_readsAll 2 (some .boolean) 0 10 := ⟨⟨q_p6 8 rfl rfl, q_p1 11 rfl rfl, by decide, by decide +kernel⟩, q_p6 7 rfl rfl, q_ps (q := (yX10_readsAll, 53)) 38 (by decide +kernel), _, _, rfl⟩
set_option maxRecDepth 20000 in
theorem kY_X10_readsLed : q_YV yX10_readsLed cX10_readsLed 2 (some .boolean) 0 10 := ⟨⟨q_p6 83 rfl rfl, q_p1 11 rfl rfl, by decide, by decide +kernel⟩, q_p6 82 rfl rfl, q_ps (q := (yX10_readsLed, 53)) 51 (by decide +kernel), _, _, rfl⟩
set_option maxRecDepth 20000 in
theorem kY_X10_readsLine : q_YV yX10_readsLine cX10_readsLine 3 (some .boolean) 0 10 := ⟨⟨q_p6 130 rfl rfl, q_p1 11 rfl rfl, by decide, by decide +kernel⟩, q_p6 129 rfl rfl, q_ps (q := (yX10_readsLine, 53)) 60 (by decide +kernel), _, _, rfl⟩
set_option maxRecDepth 20000 in
theorem kY_X10_readsMatter : q_YV yX10_readsMatter cX10_readsMatter 4 (some .boolean) 0 10 := ⟨⟨q_p6 31 rfl rfl, q_p1 11 rfl rfl, by decide, by decide +kernel⟩, q_p6 30 rfl rfl, q_ps (q := (yX10_readsMatter, 53)) 43 (by decide +kernel), _, _, rfl⟩
set_option maxRecDepth 20000 in
theorem kY_X10_readsOne : q_YV yX10_readsOne cX10_readsOne 4 (some .boolean) 3 10 := ⟨⟨q_p6 91 rfl rfl, q_p1 11 rfl rfl, by decide, by decide +kernel⟩, q_p6 90 rfl rfl, q_ps (q := (yX10_readsOne, 53)) 53 (by decide +kernel), _, _, rfl⟩
set_option maxRecDepth 20000 in
theorem kY_X10_readsTakes : q_YV yX10_readsTakes cX10_readsTakes 1 (some .boolean) 0 10 := ⟨⟨q_p6 95 rfl rfl, q_p1 11 rfl rfl, by decide, by decide +kernel⟩, q_p6 94 rfl rfl, q_ps (q := (yX10_readsTakes, 53)) 54 (by decide +kernel), _, _, rfl⟩
set_option maxRecDepth 20000 in
theorem kY_X10_redeems : q_YV yX10_redeems cX10_redeems 7 (some .int) 0 10 := ⟨⟨q_p7 110 rfl rfl, q_p1 11 rfl rfl, by decide, by decide +kernel⟩, q_p7 108 rfl rfl, q_p7 109 rfl rfl, _, _, rfl⟩
set_option maxRecDepth 20000 in
theorem kY_X10_rests : q_YV yX10_rests cX10_rests 9 (some .int) 4 10 := ⟨⟨q_p7 157 rfl rfl, q_p1 11 rfl rfl, by decide, by decide +kernel⟩, q_p7 155 rfl rfl, q_p7 156 rfl rfl, _, _, rfl⟩
set_option maxRecDepth 20000 in
theorem kY_X10_right : q_YV yX10_right cX10_right 1 (some .int) 0 10 := ⟨⟨q_p6 237 rfl rfl, q_p1 11 rfl rfl, by decide, by decide +kernel⟩, q_p6 235 rfl rfl, q_p6 236 rfl rfl, _, _, rfl⟩
set_option maxRecDepth 20000 in
theorem kY_X10_rightAll : q_YV yX10_rightAll cX10_rightAll 4 (some .int) 0 10 := ⟨⟨q_p7 46 rfl rfl, q_p1 11 rfl rfl, by decide, by decide +kernel⟩, q_p7 45 rfl rfl, q_ps (q := (yX10_rightAll, 53)) 82 (by decide +kernel), _, _, rfl⟩
set_option maxRecDepth 20000 in
theorem kY_X10_rightBy : q_YV yX10_rightBy cX10_rightBy 4 (some .int) 1 10 := ⟨⟨q_p6 150 rfl rfl, q_p1 11 rfl rfl, by decide, by decide +kernel⟩, q_p6 149 rfl rfl, q_ps (q := (yX10_rightBy, 53)) 64 (by decide +kernel), _, _, rfl⟩
set_option maxRecDepth 20000 in
theorem kY_X10_roots : q_YV yX10_roots cX10_roots 3 (some .int) 0 10 := ⟨⟨q_p7 106 rfl rfl, q_p1 11 rfl rfl, by decide, by decide +kernel⟩, q_p7 104 rfl rfl, q_p7 105 rfl rfl, _, _, rfl⟩
set_option maxRecDepth 20000 in
theorem kY_X10_round : q_YV yX10_round cX10_round 1 (some .int) 0 10 := ⟨⟨q_p6 126 rfl rfl, q_p1 11 rfl rfl, by decide, by decide +kernel⟩, q_p6 124 rfl rfl, q_p6 125 rfl rfl, _, _, rfl⟩
set_option maxRecDepth 20000 in
theorem kY_X10_see : q_YV yX10_see cX10_see 4 (some .boolean) 3 10 := ⟨⟨q_p7 126 rfl rfl, q_p1 11 rfl rfl, by decide, by decide +kernel⟩, q_p7 124 rfl rfl, q_p7 125 rfl rfl, _, _, rfl⟩
set_option maxRecDepth 20000 in
theorem kY_X10_shifts : q_Y yX10_shifts cX10_shifts 3 none 2 := ⟨q_p6 118 rfl rfl, q_p1 11 rfl rfl, by decide, by decide +kernel⟩
set_option maxRecDepth 20000 in
theorem kS_X10_shifts : Cond.static yX10_shifts ∈ q_tbl := q_p6 117 rfl rfl
set_option maxRecDepth 20000 in
theorem kY_X10_signAt : q_YV yX10_signAt cX10_signAt 2 (some .int) 1 10 := ⟨⟨q_p6 20 rfl rfl, q_p1 11 rfl rfl, by decide, by decide +kernel⟩, q_p6 19 rfl rfl, q_ps (q := (yX10_signAt, 53)) 41 (by decide +kernel), _, _, rfl⟩
set_option maxRecDepth 20000 in
theorem kY_X10_sourBy : q_YV yX10_sourBy cX10_sourBy 5 (some .int) 2 10 := ⟨⟨q_p7 138 rfl rfl, q_p1 11 rfl rfl, by decide, by decide +kernel⟩, q_p7 137 rfl rfl, q_ps (q := (yX10_sourBy, 53)) 86 (by decide +kernel), _, _, rfl⟩
set_option maxRecDepth 20000 in
theorem kY_X10_sourest : q_YV yX10_sourest cX10_sourest 3 (some .int) 0 10 := ⟨⟨q_p7 122 rfl rfl, q_p1 11 rfl rfl, by decide, by decide +kernel⟩, q_p7 120 rfl rfl, q_p7 121 rfl rfl, _, _, rfl⟩
set_option maxRecDepth 20000 in
theorem kY_X10_spread : q_YV yX10_spread cX10_spread 2 (some .int) 1 10 := ⟨⟨q_p6 154 rfl rfl, q_p1 11 rfl rfl, by decide, by decide +kernel⟩, q_p6 152 rfl rfl, q_p6 153 rfl rfl, _, _, rfl⟩
set_option maxRecDepth 20000 in
theorem kY_X10_story : q_YV yX10_story cX10_story 5 (some .int) 0 10 := ⟨⟨q_p7 102 rfl rfl, q_p1 11 rfl rfl, by decide, by decide +kernel⟩, q_p7 100 rfl rfl, q_p7 101 rfl rfl, _, _, rfl⟩
set_option maxRecDepth 20000 in
theorem kY_X10_sums : q_YV yX10_sums cX10_sums 2 none 1 10 := ⟨⟨q_p6 185 rfl rfl, q_p1 11 rfl rfl, by decide, by decide +kernel⟩, q_p6 184 rfl rfl, q_ps (q := (yX10_sums, 53)) 71 (by decide +kernel), _, _, rfl⟩
set_option maxRecDepth 20000 in
theorem kY_X10_takenBy : q_YV yX10_takenBy cX10_takenBy 4 (some .int) 3 10 := ⟨⟨q_p6 173 rfl rfl, q_p1 11 rfl rfl, by decide, by decide +kernel⟩, q_p6 172 rfl rfl, q_ps (q := (yX10_takenBy, 53)) 68 (by decide +kernel), _, _, rfl⟩
set_option maxRecDepth 20000 in
theorem kY_X10_taste : q_YV yX10_taste cX10_taste 9 (some .int) 0 10 := ⟨⟨q_p7 146 rfl rfl, q_p1 11 rfl rfl, by decide, by decide +kernel⟩, q_p7 144 rfl rfl, q_p7 145 rfl rfl, _, _, rfl⟩
set_option maxRecDepth 20000 in
theorem kY_X10_tests : q_YV yX10_tests cX10_tests 3 none 1 10 := ⟨⟨q_p6 189 rfl rfl, q_p1 11 rfl rfl, by decide, by decide +kernel⟩, q_p6 188 rfl rfl, q_ps (q := (yX10_tests, 53)) 72 (by decide +kernel), _, _, rfl⟩
set_option maxRecDepth 20000 in
theorem kY_X10_thrown : q_YV yX10_thrown cX10_thrown 1 (some .int) 0 10 := ⟨⟨q_p5 235 rfl rfl, q_p1 11 rfl rfl, by decide, by decide +kernel⟩, q_p5 233 rfl rfl, q_p5 234 rfl rfl, _, _, rfl⟩
set_option maxRecDepth 20000 in
theorem kY_X10_undo : q_YV yX10_undo cX10_undo 1 (some .boolean) 0 10 := ⟨⟨q_p6 217 rfl rfl, q_p1 11 rfl rfl, by decide, by decide +kernel⟩, q_p6 215 rfl rfl, q_p6 216 rfl rfl, _, _, rfl⟩
set_option maxRecDepth 20000 in
theorem kY_X10_usual : q_YV yX10_usual cX10_usual 2 none 1 10 := ⟨⟨q_p5 67 rfl rfl, q_p1 11 rfl rfl, by decide, by decide +kernel⟩, q_p5 66 rfl rfl, q_ps (q := (yX10_usual, 53)) 36 (by decide +kernel), _, _, rfl⟩
set_option maxRecDepth 20000 in
theorem kY_X10_wants : q_YV yX10_wants cX10_wants 2 (some .int) 1 10 := ⟨⟨q_p7 1 rfl rfl, q_p1 11 rfl rfl, by decide, by decide +kernel⟩, q_p6 239 rfl rfl, q_p7 0 rfl rfl, _, _, rfl⟩
set_option maxRecDepth 20000 in
theorem kY_X10_wantsOf : q_YV yX10_wantsOf cX10_wantsOf 4 (some .int) 1 10 := ⟨⟨q_p7 5 rfl rfl, q_p1 11 rfl rfl, by decide, by decide +kernel⟩, q_p7 4 rfl rfl, q_ps (q := (yX10_wantsOf, 53)) 77 (by decide +kernel), _, _, rfl⟩
set_option maxRecDepth 20000 in
theorem kY_X10_ways : q_YV yX10_ways cX10_ways 6 (some .int) 2 10 := ⟨⟨q_p7 94 rfl rfl, q_p1 11 rfl rfl, by decide, by decide +kernel⟩, q_p7 92 rfl rfl, q_p7 93 rfl rfl, _, _, rfl⟩
set_option maxRecDepth 20000 in
theorem kY_X10_who : q_YV yX10_who cX10_who 3 (some .int) 0 10 := ⟨⟨q_p7 130 rfl rfl, q_p1 11 rfl rfl, by decide, by decide +kernel⟩, q_p7 128 rfl rfl, q_p7 129 rfl rfl, _, _, rfl⟩
set_option maxRecDepth 20000 in
theorem kY_X10_within : q_Y yX10_within cX10_within 3 (some .boolean) 3 := ⟨q_p6 71 rfl rfl, q_p1 11 rfl rfl, by decide, by decide +kernel⟩
set_option maxRecDepth 20000 in
theorem kS_X10_within : Cond.static yX10_within ∈ q_tbl := q_p6 70 rfl rfl
set_option maxRecDepth 20000 in
theorem kY_X10_worked : q_YV yX10_worked cX10_worked 6 (some .int) 1 10 := ⟨⟨q_p6 177 rfl rfl, q_p1 11 rfl rfl, by decide, by decide +kernel⟩, q_p6 176 rfl rfl, q_ps (q := (yX10_worked, 53)) 69 (by decide +kernel), _, _, rfl⟩
set_option maxRecDepth 20000 in
theorem kY_X10_year : q_YV yX10_year cX10_year 1 (some .int) 0 10 := ⟨⟨q_p6 205 rfl rfl, q_p1 11 rfl rfl, by decide, by decide +kernel⟩, q_p6 203 rfl rfl, q_p6 204 rfl rfl, _, _, rfl⟩
set_option maxRecDepth 20000 in
theorem kY_X10_years : q_YV yX10_years cX10_years 7 (some .int) 3 10 := ⟨⟨q_p7 164 rfl rfl, q_p1 11 rfl rfl, by decide, by decide +kernel⟩, q_p7 162 rfl rfl, q_p7 163 rfl rfl, _, _, rfl⟩
set_option maxRecDepth 20000 in
theorem kY_X1_add : q_YV yX1_add cX1_add 2 none 1 1 := ⟨⟨q_p2 50 rfl rfl, q_p1 5 rfl rfl, by decide, by decide +kernel⟩, q_p2 48 rfl rfl, q_p2 49 rfl rfl, _, _, rfl⟩
set_option maxRecDepth 20000 in
theorem kY_X1_clear : q_YV yX1_clear cX1_clear 1 none 0 1 := ⟨⟨q_p2 46 rfl rfl, q_p1 5 rfl rfl, by decide, by decide +kernel⟩, q_p2 44 rfl rfl, q_p2 45 rfl rfl, _, _, rfl⟩
set_option maxRecDepth 20000 in
theorem kY_X1_init : q_Y yX1_init cX1_init 1 none 0 := ⟨q_p1 91 rfl rfl, q_p1 5 rfl rfl, by decide, by decide +kernel⟩
set_option maxRecDepth 20000 in
theorem kI_X1_init : Cond.instanceMethod yX1_init ∈ q_tbl := q_p1 90 rfl rfl
set_option maxRecDepth 20000 in
theorem kY_X1_joined : q_Y yX1_joined cX1_joined 3 (some .int) 3 := ⟨q_p3 159 rfl rfl, q_p1 5 rfl rfl, by decide, by decide +kernel⟩
set_option maxRecDepth 20000 in
theorem kS_X1_joined : Cond.static yX1_joined ∈ q_tbl := q_p3 158 rfl rfl
set_option maxRecDepth 20000 in
theorem kY_X1_pop : q_YV yX1_pop cX1_pop 1 (some .int) 0 1 := ⟨⟨q_p3 156 rfl rfl, q_p1 5 rfl rfl, by decide, by decide +kernel⟩, q_p3 155 rfl rfl, q_ps (q := (yX1_pop, 4)) 19 (by decide +kernel), _, _, rfl⟩
set_option maxRecDepth 20000 in
theorem kY_X1_push : q_YV yX1_push cX1_push 2 none 1 1 := ⟨⟨q_p3 152 rfl rfl, q_p1 5 rfl rfl, by decide, by decide +kernel⟩, q_p3 151 rfl rfl, q_ps (q := (yX1_push, 4)) 18 (by decide +kernel), _, _, rfl⟩
set_option maxRecDepth 20000 in
theorem kY_X1_worth : q_YV yX1_worth cX1_worth 8 (some .int) 4 1 := ⟨⟨q_p3 148 rfl rfl, q_p1 5 rfl rfl, by decide, by decide +kernel⟩, q_p3 146 rfl rfl, q_p3 147 rfl rfl, _, _, rfl⟩
set_option maxRecDepth 20000 in
theorem kY_X2_add : q_YV yX2_add cX2_add 3 none 2 2 := ⟨⟨q_p3 84 rfl rfl, q_p1 8 rfl rfl, by decide, by decide +kernel⟩, q_p3 82 rfl rfl, q_p3 83 rfl rfl, _, _, rfl⟩
set_option maxRecDepth 20000 in
theorem kY_X2_clear : q_YV yX2_clear cX2_clear 1 none 0 2 := ⟨⟨q_p3 62 rfl rfl, q_p1 8 rfl rfl, by decide, by decide +kernel⟩, q_p3 60 rfl rfl, q_p3 61 rfl rfl, _, _, rfl⟩
set_option maxRecDepth 20000 in
theorem kY_X2_copy : q_YV yX2_copy cX2_copy 3 none 1 2 := ⟨⟨q_p3 88 rfl rfl, q_p1 8 rfl rfl, by decide, by decide +kernel⟩, q_p3 86 rfl rfl, q_p3 87 rfl rfl, _, _, rfl⟩
set_option maxRecDepth 20000 in
theorem kY_X2_init : q_Y yX2_init cX2_init 1 none 0 := ⟨q_p1 209 rfl rfl, q_p1 8 rfl rfl, by decide, by decide +kernel⟩
set_option maxRecDepth 20000 in
theorem kI_X2_init : Cond.instanceMethod yX2_init ∈ q_tbl := q_p1 208 rfl rfl
set_option maxRecDepth 20000 in
theorem kY_X3_init : q_Y yX3_init cX3_init 1 none 0 := ⟨q_p2 14 rfl rfl, q_p1 10 rfl rfl, by decide, by decide +kernel⟩
set_option maxRecDepth 20000 in
theorem kI_X3_init : Cond.instanceMethod yX3_init ∈ q_tbl := q_p2 13 rfl rfl
set_option maxRecDepth 20000 in
theorem kY_X3_lay : q_YV yX3_lay cX3_lay 4 none 3 3 := ⟨⟨q_p4 207 rfl rfl, q_p1 10 rfl rfl, by decide, by decide +kernel⟩, q_p4 205 rfl rfl, q_p4 206 rfl rfl, _, _, rfl⟩
set_option maxRecDepth 20000 in
theorem kY_X4_init : q_Y yX4_init cX4_init 2 none 1 := ⟨q_p1 75 rfl rfl, q_p1 3 rfl rfl, by decide, by decide +kernel⟩
set_option maxRecDepth 20000 in
theorem kI_X4_init : Cond.instanceMethod yX4_init ∈ q_tbl := q_p1 74 rfl rfl
set_option maxRecDepth 20000 in
theorem kY_X4_matterHere : q_YV yX4_matterHere cX4_matterHere 3 (some .int) 1 4 := ⟨⟨q_p3 15 rfl rfl, q_p1 3 rfl rfl, by decide, by decide +kernel⟩, q_p3 14 rfl rfl, q_ps (q := (yX4_matterHere, 1)) 8 (by decide +kernel), _, _, rfl⟩
set_option maxRecDepth 20000 in
theorem kY_X4_readE : q_YV yX4_readE cX4_readE 5 none 2 4 := ⟨⟨q_p3 27 rfl rfl, q_p1 3 rfl rfl, by decide, by decide +kernel⟩, q_p3 26 rfl rfl, q_ps (q := (yX4_readE, 1)) 10 (by decide +kernel), _, _, rfl⟩
set_option maxRecDepth 20000 in
theorem kY_X4_readLed : q_YV yX4_readLed cX4_readLed 4 none 1 4 := ⟨⟨q_p3 11 rfl rfl, q_p1 3 rfl rfl, by decide, by decide +kernel⟩, q_p3 10 rfl rfl, q_ps (q := (yX4_readLed, 1)) 7 (by decide +kernel), _, _, rfl⟩
set_option maxRecDepth 20000 in
theorem kY_X4_readMatter : q_YV yX4_readMatter cX4_readMatter 3 none 1 4 := ⟨⟨q_p2 209 rfl rfl, q_p1 3 rfl rfl, by decide, by decide +kernel⟩, q_p2 208 rfl rfl, q_ps (q := (yX4_readMatter, 1)) 4 (by decide +kernel), _, _, rfl⟩
set_option maxRecDepth 20000 in
theorem kY_X4_readPart : q_YV yX4_readPart cX4_readPart 4 none 2 4 := ⟨⟨q_p3 43 rfl rfl, q_p1 3 rfl rfl, by decide, by decide +kernel⟩, q_p3 42 rfl rfl, q_ps (q := (yX4_readPart, 1)) 14 (by decide +kernel), _, _, rfl⟩
set_option maxRecDepth 20000 in
theorem kY_X4_readPast : q_YV yX4_readPast cX4_readPast 3 (some .int) 1 4 := ⟨⟨q_p2 114 rfl rfl, q_p1 3 rfl rfl, by decide, by decide +kernel⟩, q_p2 112 rfl rfl, q_p2 113 rfl rfl, _, _, rfl⟩
set_option maxRecDepth 20000 in
theorem kY_X4_readProduct : q_YV yX4_readProduct cX4_readProduct 4 none 2 4 := ⟨⟨q_p3 39 rfl rfl, q_p1 3 rfl rfl, by decide, by decide +kernel⟩, q_p3 38 rfl rfl, q_ps (q := (yX4_readProduct, 1)) 13 (by decide +kernel), _, _, rfl⟩
set_option maxRecDepth 20000 in
theorem kY_X4_readRound : q_YV yX4_readRound cX4_readRound 4 (some .int) 2 4 := ⟨⟨q_p3 75 rfl rfl, q_p1 3 rfl rfl, by decide, by decide +kernel⟩, q_p3 73 rfl rfl, q_p3 74 rfl rfl, _, _, rfl⟩
set_option maxRecDepth 20000 in
theorem kY_X4_readRoundLine : q_YV yX4_readRoundLine cX4_readRoundLine 5 none 2 4 := ⟨⟨q_p3 80 rfl rfl, q_p1 3 rfl rfl, by decide, by decide +kernel⟩, q_p3 79 rfl rfl, q_ps (q := (yX4_readRoundLine, 1)) 16 (by decide +kernel), _, _, rfl⟩
set_option maxRecDepth 20000 in
theorem kY_X4_readSetting : q_YV yX4_readSetting cX4_readSetting 3 none 2 4 := ⟨⟨q_p3 22 rfl rfl, q_p1 3 rfl rfl, by decide, by decide +kernel⟩, q_p3 21 rfl rfl, q_ps (q := (yX4_readSetting, 1)) 9 (by decide +kernel), _, _, rfl⟩
set_option maxRecDepth 20000 in
theorem kY_X4_readSum : q_YV yX4_readSum cX4_readSum 5 none 2 4 := ⟨⟨q_p3 35 rfl rfl, q_p1 3 rfl rfl, by decide, by decide +kernel⟩, q_p3 34 rfl rfl, q_ps (q := (yX4_readSum, 1)) 12 (by decide +kernel), _, _, rfl⟩
set_option maxRecDepth 20000 in
theorem kY_X4_readTest : q_YV yX4_readTest cX4_readTest 4 none 2 4 := ⟨⟨q_p3 31 rfl rfl, q_p1 3 rfl rfl, by decide, by decide +kernel⟩, q_p3 30 rfl rfl, q_ps (q := (yX4_readTest, 1)) 11 (by decide +kernel), _, _, rfl⟩
set_option maxRecDepth 20000 in
theorem kY_X4_takeKind : q_YV yX4_takeKind cX4_takeKind 2 (some .int) 0 4 := ⟨⟨q_p2 230 rfl rfl, q_p1 3 rfl rfl, by decide, by decide +kernel⟩, q_p2 229 rfl rfl, q_ps (q := (yX4_takeKind, 1)) 6 (by decide +kernel), _, _, rfl⟩
set_option maxRecDepth 20000 in
theorem kY_X4_takeNewName : q_YV yX4_takeNewName cX4_takeNewName 4 (some .long) 1 4 := ⟨⟨q_p2 218 rfl rfl, q_p1 3 rfl rfl, by decide, by decide +kernel⟩, q_p2 217 rfl rfl, q_ps (q := (yX4_takeNewName, 1)) 5 (by decide +kernel), _, _, rfl⟩
set_option maxRecDepth 20000 in
theorem kY_X5_causeBits : q_YV yX5_causeBits cX5_causeBits 2 (some .int) 1 5 := ⟨⟨q_p4 76 rfl rfl, q_p1 4 rfl rfl, by decide, by decide +kernel⟩, q_p4 74 rfl rfl, q_p4 75 rfl rfl, _, _, rfl⟩
set_option maxRecDepth 20000 in
theorem kY_X5_clear : q_YV yX5_clear cX5_clear 1 none 0 5 := ⟨⟨q_p2 42 rfl rfl, q_p1 4 rfl rfl, by decide, by decide +kernel⟩, q_p2 40 rfl rfl, q_p2 41 rfl rfl, _, _, rfl⟩
set_option maxRecDepth 20000 in
theorem kY_X5_coatsAfterCoat : q_YV yX5_coatsAfterCoat cX5_coatsAfterCoat 3 (some .int) 2 5 := ⟨⟨q_p3 167 rfl rfl, q_p1 4 rfl rfl, by decide, by decide +kernel⟩, q_p3 165 rfl rfl, q_p3 166 rfl rfl, _, _, rfl⟩
set_option maxRecDepth 20000 in
theorem kY_X5_elderBits : q_YV yX5_elderBits cX5_elderBits 4 (some .int) 1 5 := ⟨⟨q_p4 116 rfl rfl, q_p1 4 rfl rfl, by decide, by decide +kernel⟩, q_p4 114 rfl rfl, q_p4 115 rfl rfl, _, _, rfl⟩
set_option maxRecDepth 20000 in
theorem kY_X5_everyone : q_YV yX5_everyone cX5_everyone 1 (some .int) 0 5 := ⟨⟨q_p3 222 rfl rfl, q_p1 4 rfl rfl, by decide, by decide +kernel⟩, q_p3 220 rfl rfl, q_p3 221 rfl rfl, _, _, rfl⟩
set_option maxRecDepth 20000 in
theorem kY_X5_find : q_YV yX5_find cX5_find 4 (some .int) 1 5 := ⟨⟨q_p2 226 rfl rfl, q_p1 4 rfl rfl, by decide, by decide +kernel⟩, q_p2 224 rfl rfl, q_p2 225 rfl rfl, _, _, rfl⟩
set_option maxRecDepth 20000 in
theorem kY_X5_fruitBits : q_YV yX5_fruitBits cX5_fruitBits 5 (some .int) 1 5 := ⟨⟨q_p4 18 rfl rfl, q_p1 4 rfl rfl, by decide, by decide +kernel⟩, q_p4 16 rfl rfl, q_p4 17 rfl rfl, _, _, rfl⟩
set_option maxRecDepth 20000 in
theorem kY_X5_init : q_Y yX5_init cX5_init 1 none 0 := ⟨q_p1 85 rfl rfl, q_p1 4 rfl rfl, by decide, by decide +kernel⟩
set_option maxRecDepth 20000 in
theorem kI_X5_init : Cond.instanceMethod yX5_init ∈ q_tbl := q_p1 84 rfl rfl
set_option maxRecDepth 20000 in
theorem kY_X5_nextBirth : q_YV yX5_nextBirth cX5_nextBirth 4 (some .int) 1 5 := ⟨⟨q_p4 132 rfl rfl, q_p1 4 rfl rfl, by decide, by decide +kernel⟩, q_p4 131 rfl rfl, q_ps (q := (yX5_nextBirth, 11)) 28 (by decide +kernel), _, _, rfl⟩
set_option maxRecDepth 20000 in
theorem kY_X5_potAfterYear : q_YV yX5_potAfterYear cX5_potAfterYear 2 (some .int) 1 5 := ⟨⟨q_p3 191 rfl rfl, q_p1 4 rfl rfl, by decide, by decide +kernel⟩, q_p3 189 rfl rfl, q_p3 190 rfl rfl, _, _, rfl⟩
set_option maxRecDepth 20000 in
theorem kY_X5_price : q_YV yX5_price cX5_price 2 (some .int) 1 5 := ⟨⟨q_p3 125 rfl rfl, q_p1 4 rfl rfl, by decide, by decide +kernel⟩, q_p3 123 rfl rfl, q_p3 124 rfl rfl, _, _, rfl⟩
set_option maxRecDepth 20000 in
theorem kY_X5_rightBy : q_YV yX5_rightBy cX5_rightBy 5 (some .int) 1 5 := ⟨⟨q_p3 113 rfl rfl, q_p1 4 rfl rfl, by decide, by decide +kernel⟩, q_p3 111 rfl rfl, q_p3 112 rfl rfl, _, _, rfl⟩
set_option maxRecDepth 20000 in
theorem kY_X5_rootBits : q_YV yX5_rootBits cX5_rootBits 3 (some .int) 0 5 := ⟨⟨q_p4 107 rfl rfl, q_p1 4 rfl rfl, by decide, by decide +kernel⟩, q_p4 105 rfl rfl, q_p4 106 rfl rfl, _, _, rfl⟩
set_option maxRecDepth 20000 in
theorem kY_X5_sourAfterCoat : q_YV yX5_sourAfterCoat cX5_sourAfterCoat 7 (some .int) 4 5 := ⟨⟨q_p3 144 rfl rfl, q_p1 4 rfl rfl, by decide, by decide +kernel⟩, q_p3 142 rfl rfl, q_p3 143 rfl rfl, _, _, rfl⟩
set_option maxRecDepth 20000 in
theorem kY_X5_sourAfterYear : q_YV yX5_sourAfterYear cX5_sourAfterYear 4 (some .int) 3 5 := ⟨⟨q_p3 187 rfl rfl, q_p1 4 rfl rfl, by decide, by decide +kernel⟩, q_p3 185 rfl rfl, q_p3 186 rfl rfl, _, _, rfl⟩
set_option maxRecDepth 20000 in
theorem kY_X5_storyFrom : q_YV yX5_storyFrom cX5_storyFrom 5 (some .int) 2 5 := ⟨⟨q_p4 98 rfl rfl, q_p1 4 rfl rfl, by decide, by decide +kernel⟩, q_p4 97 rfl rfl, q_ps (q := (yX5_storyFrom, 11)) 27 (by decide +kernel), _, _, rfl⟩
set_option maxRecDepth 20000 in
theorem kY_X5_waysTo : q_YV yX5_waysTo cX5_waysTo 6 (some .int) 3 5 := ⟨⟨q_p4 89 rfl rfl, q_p1 4 rfl rfl, by decide, by decide +kernel⟩, q_p4 88 rfl rfl, q_ps (q := (yX5_waysTo, 11)) 26 (by decide +kernel), _, _, rfl⟩
set_option maxRecDepth 20000 in
theorem kY_X5_widestGap : q_YV yX5_widestGap cX5_widestGap 3 (some .int) 0 5 := ⟨⟨q_p4 128 rfl rfl, q_p1 4 rfl rfl, by decide, by decide +kernel⟩, q_p4 126 rfl rfl, q_p4 127 rfl rfl, _, _, rfl⟩
set_option maxRecDepth 20000 in
theorem kY_X6_addBytes : q_YV yX6_addBytes cX6_addBytes 4 none 1 6 := ⟨⟨q_p2 102 rfl rfl, q_p1 2 rfl rfl, by decide, by decide +kernel⟩, q_p2 100 rfl rfl, q_p2 101 rfl rfl, _, _, rfl⟩
set_option maxRecDepth 20000 in
theorem kY_X6_addSign : q_YV yX6_addSign cX6_addSign 2 none 1 6 := ⟨⟨q_p2 106 rfl rfl, q_p1 2 rfl rfl, by decide, by decide +kernel⟩, q_p2 105 rfl rfl, q_ps (q := (yX6_addSign, 9)) 0 (by decide +kernel), _, _, rfl⟩
set_option maxRecDepth 20000 in
theorem kY_X6_advance : q_YV yX6_advance cX6_advance 2 none 0 6 := ⟨⟨q_p2 123 rfl rfl, q_p1 2 rfl rfl, by decide, by decide +kernel⟩, q_p2 121 rfl rfl, q_p2 122 rfl rfl, _, _, rfl⟩
set_option maxRecDepth 20000 in
theorem kY_X6_close : q_YV yX6_close cX6_close 1 (some .int) 0 6 := ⟨⟨q_p3 54 rfl rfl, q_p1 2 rfl rfl, by decide, by decide +kernel⟩, q_p3 52 rfl rfl, q_p3 53 rfl rfl, _, _, rfl⟩
set_option maxRecDepth 20000 in
theorem kY_X6_fail : q_YV yX6_fail cX6_fail 2 none 1 6 := ⟨⟨q_p2 213 rfl rfl, q_p1 2 rfl rfl, by decide, by decide +kernel⟩, q_p2 211 rfl rfl, q_p2 212 rfl rfl, _, _, rfl⟩
set_option maxRecDepth 20000 in
theorem kY_X6_init : q_Y yX6_init cX6_init 1 none 0 := ⟨q_p1 34 rfl rfl, q_p1 2 rfl rfl, by decide, by decide +kernel⟩
set_option maxRecDepth 20000 in
theorem kI_X6_init : Cond.instanceMethod yX6_init ∈ q_tbl := q_p1 33 rfl rfl
set_option maxRecDepth 20000 in
theorem kY_X6_isDigit : q_Y yX6_isDigit cX6_isDigit 1 (some .boolean) 1 := ⟨q_p2 190 rfl rfl, q_p1 2 rfl rfl, by decide, by decide +kernel⟩
set_option maxRecDepth 20000 in
theorem kS_X6_isDigit : Cond.static yX6_isDigit ∈ q_tbl := q_p2 189 rfl rfl
set_option maxRecDepth 20000 in
theorem kY_X6_isKey : q_YV yX6_isKey cX6_isKey 2 (some .boolean) 1 6 := ⟨⟨q_p3 1 rfl rfl, q_p1 2 rfl rfl, by decide, by decide +kernel⟩, q_p2 239 rfl rfl, q_p3 0 rfl rfl, _, _, rfl⟩
set_option maxRecDepth 20000 in
theorem kY_X6_isLetter : q_Y yX6_isLetter cX6_isLetter 1 (some .boolean) 1 := ⟨q_p2 130 rfl rfl, q_p1 2 rfl rfl, by decide, by decide +kernel⟩
set_option maxRecDepth 20000 in
theorem kS_X6_isLetter : Cond.static yX6_isLetter ∈ q_tbl := q_p2 129 rfl rfl
set_option maxRecDepth 20000 in
theorem kY_X6_isName : q_YV yX6_isName cX6_isName 1 (some .boolean) 0 6 := ⟨⟨q_p2 222 rfl rfl, q_p1 2 rfl rfl, by decide, by decide +kernel⟩, q_p2 220 rfl rfl, q_p2 221 rfl rfl, _, _, rfl⟩
set_option maxRecDepth 20000 in
theorem kY_X6_isSign : q_Y yX6_isSign cX6_isSign 1 (some .boolean) 1 := ⟨q_p2 197 rfl rfl, q_p1 2 rfl rfl, by decide, by decide +kernel⟩
set_option maxRecDepth 20000 in
theorem kS_X6_isSign : Cond.static yX6_isSign ∈ q_tbl := q_p2 196 rfl rfl
set_option maxRecDepth 20000 in
theorem kY_X6_isType : q_YV yX6_isType cX6_isType 2 (some .boolean) 1 6 := ⟨⟨q_p2 205 rfl rfl, q_p1 2 rfl rfl, by decide, by decide +kernel⟩, q_p2 203 rfl rfl, q_p2 204 rfl rfl, _, _, rfl⟩
set_option maxRecDepth 20000 in
theorem kY_X6_keyHere : q_YV yX6_keyHere cX6_keyHere 1 (some .int) 0 6 := ⟨⟨q_p2 201 rfl rfl, q_p1 2 rfl rfl, by decide, by decide +kernel⟩, q_p2 199 rfl rfl, q_p2 200 rfl rfl, _, _, rfl⟩
set_option maxRecDepth 20000 in
theorem kY_X6_keyOf : q_Y yX6_keyOf cX6_keyOf 7 (some .int) 1 := ⟨q_p2 138 rfl rfl, q_p1 2 rfl rfl, by decide, by decide +kernel⟩
set_option maxRecDepth 20000 in
theorem kS_X6_keyOf : Cond.static yX6_keyOf ∈ q_tbl := q_p2 137 rfl rfl
set_option maxRecDepth 20000 in
theorem kY_X6_open : q_YV yX6_open cX6_open 1 none 0 6 := ⟨⟨q_p2 119 rfl rfl, q_p1 2 rfl rfl, by decide, by decide +kernel⟩, q_p2 117 rfl rfl, q_p2 118 rfl rfl, _, _, rfl⟩
set_option maxRecDepth 20000 in
theorem kY_X6_readNumber : q_YV yX6_readNumber cX6_readNumber 2 none 0 6 := ⟨⟨q_p2 194 rfl rfl, q_p1 2 rfl rfl, by decide, by decide +kernel⟩, q_p2 193 rfl rfl, q_ps (q := (yX6_readNumber, 9)) 3 (by decide +kernel), _, _, rfl⟩
set_option maxRecDepth 20000 in
theorem kY_X6_readWord : q_YV yX6_readWord cX6_readWord 2 none 0 6 := ⟨⟨q_p2 134 rfl rfl, q_p1 2 rfl rfl, by decide, by decide +kernel⟩, q_p2 133 rfl rfl, q_ps (q := (yX6_readWord, 9)) 2 (by decide +kernel), _, _, rfl⟩
set_option maxRecDepth 20000 in
theorem kY_X6_signAt : q_YV yX6_signAt cX6_signAt 2 (some .int) 1 6 := ⟨⟨q_p2 127 rfl rfl, q_p1 2 rfl rfl, by decide, by decide +kernel⟩, q_p2 126 rfl rfl, q_ps (q := (yX6_signAt, 9)) 1 (by decide +kernel), _, _, rfl⟩
set_option maxRecDepth 20000 in
theorem kY_X6_takeKey : q_YV yX6_takeKey cX6_takeKey 2 none 1 6 := ⟨⟨q_p2 237 rfl rfl, q_p1 2 rfl rfl, by decide, by decide +kernel⟩, q_p2 235 rfl rfl, q_p2 236 rfl rfl, _, _, rfl⟩
set_option maxRecDepth 20000 in
theorem kY_X6_takeNumber : q_YV yX6_takeNumber cX6_takeNumber 4 (some .int) 2 6 := ⟨⟨q_p3 6 rfl rfl, q_p1 2 rfl rfl, by decide, by decide +kernel⟩, q_p3 4 rfl rfl, q_p3 5 rfl rfl, _, _, rfl⟩
set_option maxRecDepth 20000 in
theorem kY_X6_takeSign : q_YV yX6_takeSign cX6_takeSign 2 none 1 6 := ⟨⟨q_p3 49 rfl rfl, q_p1 2 rfl rfl, by decide, by decide +kernel⟩, q_p3 47 rfl rfl, q_p3 48 rfl rfl, _, _, rfl⟩
set_option maxRecDepth 20000 in
theorem kY_X7_add : q_YV yX7_add cX7_add 4 (some .boolean) 3 7 := ⟨⟨q_p4 152 rfl rfl, q_p1 9 rfl rfl, by decide, by decide +kernel⟩, q_p4 150 rfl rfl, q_p4 151 rfl rfl, _, _, rfl⟩
set_option maxRecDepth 20000 in
theorem kY_X7_copy : q_YV yX7_copy cX7_copy 3 none 1 7 := ⟨⟨q_p4 213 rfl rfl, q_p1 9 rfl rfl, by decide, by decide +kernel⟩, q_p4 211 rfl rfl, q_p4 212 rfl rfl, _, _, rfl⟩
set_option maxRecDepth 20000 in
theorem kY_X7_init : q_Y yX7_init cX7_init 1 none 0 := ⟨q_p1 229 rfl rfl, q_p1 9 rfl rfl, by decide, by decide +kernel⟩
set_option maxRecDepth 20000 in
theorem kI_X7_init : Cond.instanceMethod yX7_init ∈ q_tbl := q_p1 228 rfl rfl
set_option maxRecDepth 20000 in
theorem kY_X8_begin : q_YV yX8_begin cX8_begin 3 none 1 8 := ⟨⟨q_p2 54 rfl rfl, q_p1 6 rfl rfl, by decide, by decide +kernel⟩, q_p2 52 rfl rfl, q_p2 53 rfl rfl, _, _, rfl⟩
set_option maxRecDepth 20000 in
theorem kY_X8_canSpread : q_YV yX8_canSpread cX8_canSpread 3 (some .boolean) 2 8 := ⟨⟨q_p3 121 rfl rfl, q_p1 6 rfl rfl, by decide, by decide +kernel⟩, q_p3 119 rfl rfl, q_p3 120 rfl rfl, _, _, rfl⟩
set_option maxRecDepth 20000 in
theorem kY_X8_copy : q_YV yX8_copy cX8_copy 3 none 1 8 := ⟨⟨q_p3 133 rfl rfl, q_p1 6 rfl rfl, by decide, by decide +kernel⟩, q_p3 131 rfl rfl, q_p3 132 rfl rfl, _, _, rfl⟩
set_option maxRecDepth 20000 in
theorem kY_X8_follow : q_YV yX8_follow cX8_follow 4 (some .boolean) 3 8 := ⟨⟨q_p3 214 rfl rfl, q_p1 6 rfl rfl, by decide, by decide +kernel⟩, q_p3 212 rfl rfl, q_p3 213 rfl rfl, _, _, rfl⟩
set_option maxRecDepth 20000 in
theorem kY_X8_init : q_Y yX8_init cX8_init 1 none 0 := ⟨q_p1 166 rfl rfl, q_p1 6 rfl rfl, by decide, by decide +kernel⟩
set_option maxRecDepth 20000 in
theorem kI_X8_init : Cond.instanceMethod yX8_init ∈ q_tbl := q_p1 165 rfl rfl
set_option maxRecDepth 20000 in
theorem kY_X8_meantBits : q_YV yX8_meantBits cX8_meantBits 4 (some .int) 1 8 := ⟨⟨q_p3 104 rfl rfl, q_p1 6 rfl rfl, by decide, by decide +kernel⟩, q_p3 102 rfl rfl, q_p3 103 rfl rfl, _, _, rfl⟩
set_option maxRecDepth 20000 in
theorem kY_X8_pass : q_YV yX8_pass cX8_pass 3 none 1 8 := ⟨⟨q_p3 183 rfl rfl, q_p1 6 rfl rfl, by decide, by decide +kernel⟩, q_p3 181 rfl rfl, q_p3 182 rfl rfl, _, _, rfl⟩
set_option maxRecDepth 20000 in
theorem kY_X8_putOn : q_YV yX8_putOn cX8_putOn 3 none 2 8 := ⟨⟨q_p3 140 rfl rfl, q_p1 6 rfl rfl, by decide, by decide +kernel⟩, q_p3 138 rfl rfl, q_p3 139 rfl rfl, _, _, rfl⟩
set_option maxRecDepth 20000 in
theorem kY_X8_takeOff : q_YV yX8_takeOff cX8_takeOff 3 none 2 8 := ⟨⟨q_p3 175 rfl rfl, q_p1 6 rfl rfl, by decide, by decide +kernel⟩, q_p3 173 rfl rfl, q_p3 174 rfl rfl, _, _, rfl⟩
set_option maxRecDepth 20000 in
theorem kY_X9_again : q_YV yX9_again cX9_again 4 (some .int) 1 9 := ⟨⟨q_p4 54 rfl rfl, q_p1 1 rfl rfl, by decide, by decide +kernel⟩, q_p4 52 rfl rfl, q_p4 53 rfl rfl, _, _, rfl⟩
set_option maxRecDepth 20000 in
theorem kY_X9_all : q_YV yX9_all cX9_all 5 (some .int) 0 9 := ⟨⟨q_p4 35 rfl rfl, q_p1 1 rfl rfl, by decide, by decide +kernel⟩, q_p4 33 rfl rfl, q_p4 34 rfl rfl, _, _, rfl⟩
set_option maxRecDepth 20000 in
theorem kY_X9_bare : q_YV yX9_bare cX9_bare 3 (some .int) 0 9 := ⟨⟨q_p4 136 rfl rfl, q_p1 1 rfl rfl, by decide, by decide +kernel⟩, q_p4 134 rfl rfl, q_p4 135 rfl rfl, _, _, rfl⟩
set_option maxRecDepth 20000 in
theorem kY_X9_beginAnew : q_YV yX9_beginAnew cX9_beginAnew 2 none 0 9 := ⟨⟨q_p3 58 rfl rfl, q_p1 1 rfl rfl, by decide, by decide +kernel⟩, q_p3 57 rfl rfl, q_ps (q := (yX9_beginAnew, 13)) 15 (by decide +kernel), _, _, rfl⟩
set_option maxRecDepth 20000 in
theorem kY_X9_bit : q_Y yX9_bit cX9_bit 2 (some .int) 2 := ⟨q_p3 18 rfl rfl, q_p1 1 rfl rfl, by decide, by decide +kernel⟩
set_option maxRecDepth 20000 in
theorem kS_X9_bit : Cond.static yX9_bit ∈ q_tbl := q_p3 17 rfl rfl
set_option maxRecDepth 20000 in
theorem kY_X9_causes : q_YV yX9_causes cX9_causes 2 (some .int) 1 9 := ⟨⟨q_p4 72 rfl rfl, q_p1 1 rfl rfl, by decide, by decide +kernel⟩, q_p4 70 rfl rfl, q_p4 71 rfl rfl, _, _, rfl⟩
set_option maxRecDepth 20000 in
theorem kY_X9_chance : q_YV yX9_chance cX9_chance 6 (some .int) 3 9 := ⟨⟨q_p4 176 rfl rfl, q_p1 1 rfl rfl, by decide, by decide +kernel⟩, q_p4 174 rfl rfl, q_p4 175 rfl rfl, _, _, rfl⟩
set_option maxRecDepth 20000 in
theorem kY_X9_cheap : q_YV yX9_cheap cX9_cheap 4 (some .int) 2 9 := ⟨⟨q_p4 6 rfl rfl, q_p1 1 rfl rfl, by decide, by decide +kernel⟩, q_p4 4 rfl rfl, q_p4 5 rfl rfl, _, _, rfl⟩
set_option maxRecDepth 20000 in
theorem kY_X9_cheapestFor : q_YV yX9_cheapestFor cX9_cheapestFor 2 (some .int) 1 9 := ⟨⟨q_p4 14 rfl rfl, q_p1 1 rfl rfl, by decide, by decide +kernel⟩, q_p4 13 rfl rfl, q_ps (q := (yX9_cheapestFor, 13)) 23 (by decide +kernel), _, _, rfl⟩
set_option maxRecDepth 20000 in
theorem kY_X9_cheapestOf : q_YV yX9_cheapestOf cX9_cheapestOf 4 (some .int) 1 9 := ⟨⟨q_p4 23 rfl rfl, q_p1 1 rfl rfl, by decide, by decide +kernel⟩, q_p4 22 rfl rfl, q_ps (q := (yX9_cheapestOf, 13)) 24 (by decide +kernel), _, _, rfl⟩
set_option maxRecDepth 20000 in
theorem kY_X9_coatsWanted : q_YV yX9_coatsWanted cX9_coatsWanted 4 (some .int) 1 9 := ⟨⟨q_p3 232 rfl rfl, q_p1 1 rfl rfl, by decide, by decide +kernel⟩, q_p3 231 rfl rfl, q_ps (q := (yX9_coatsWanted, 13)) 20 (by decide +kernel), _, _, rfl⟩
set_option maxRecDepth 20000 in
theorem kY_X9_cost : q_YV yX9_cost cX9_cost 2 (some .int) 1 9 := ⟨⟨q_p3 237 rfl rfl, q_p1 1 rfl rfl, by decide, by decide +kernel⟩, q_p3 235 rfl rfl, q_p3 236 rfl rfl, _, _, rfl⟩
set_option maxRecDepth 20000 in
theorem kY_X9_costOfSet : q_YV yX9_costOfSet cX9_costOfSet 4 (some .int) 1 9 := ⟨⟨q_p4 31 rfl rfl, q_p1 1 rfl rfl, by decide, by decide +kernel⟩, q_p4 30 rfl rfl, q_ps (q := (yX9_costOfSet, 13)) 25 (by decide +kernel), _, _, rfl⟩
set_option maxRecDepth 20000 in
theorem kY_X9_count : q_YV yX9_count cX9_count 2 (some .int) 1 9 := ⟨⟨q_p4 218 rfl rfl, q_p1 1 rfl rfl, by decide, by decide +kernel⟩, q_p4 216 rfl rfl, q_p4 217 rfl rfl, _, _, rfl⟩
set_option maxRecDepth 20000 in
theorem kY_X9_dinners : q_YV yX9_dinners cX9_dinners 4 (some .int) 1 9 := ⟨⟨q_p4 67 rfl rfl, q_p1 1 rfl rfl, by decide, by decide +kernel⟩, q_p4 65 rfl rfl, q_p4 66 rfl rfl, _, _, rfl⟩
set_option maxRecDepth 20000 in
theorem kY_X9_drawnBelow : q_Y yX9_drawnBelow cX9_drawnBelow 3 (some .int) 2 := ⟨q_p4 198 rfl rfl, q_p1 1 rfl rfl, by decide, by decide +kernel⟩
set_option maxRecDepth 20000 in
theorem kS_X9_drawnBelow : Cond.static yX9_drawnBelow ∈ q_tbl := q_p4 197 rfl rfl
set_option maxRecDepth 20000 in
theorem kY_X9_easiest : q_YV yX9_easiest cX9_easiest 1 (some .int) 0 9 := ⟨⟨q_p4 45 rfl rfl, q_p1 1 rfl rfl, by decide, by decide +kernel⟩, q_p4 43 rfl rfl, q_p4 44 rfl rfl, _, _, rfl⟩
set_option maxRecDepth 20000 in
theorem kY_X9_eat : q_YV yX9_eat cX9_eat 2 (some .int) 1 9 := ⟨⟨q_p3 171 rfl rfl, q_p1 1 rfl rfl, by decide, by decide +kernel⟩, q_p3 169 rfl rfl, q_p3 170 rfl rfl, _, _, rfl⟩
set_option maxRecDepth 20000 in
theorem kY_X9_elders : q_YV yX9_elders cX9_elders 2 (some .int) 1 9 := ⟨⟨q_p4 112 rfl rfl, q_p1 1 rfl rfl, by decide, by decide +kernel⟩, q_p4 110 rfl rfl, q_p4 111 rfl rfl, _, _, rfl⟩
set_option maxRecDepth 20000 in
theorem kY_X9_feed : q_YV yX9_feed cX9_feed 7 (some .int) 3 9 := ⟨⟨q_p2 98 rfl rfl, q_p1 1 rfl rfl, by decide, by decide +kernel⟩, q_p2 96 rfl rfl, q_p2 97 rfl rfl, _, _, rfl⟩
set_option maxRecDepth 20000 in
theorem kY_X9_fills : q_YV yX9_fills cX9_fills 4 (some .int) 1 9 := ⟨⟨q_p4 62 rfl rfl, q_p1 1 rfl rfl, by decide, by decide +kernel⟩, q_p4 60 rfl rfl, q_p4 61 rfl rfl, _, _, rfl⟩
set_option maxRecDepth 20000 in
theorem kY_X9_fruits : q_YV yX9_fruits cX9_fruits 2 (some .int) 1 9 := ⟨⟨q_p4 81 rfl rfl, q_p1 1 rfl rfl, by decide, by decide +kernel⟩, q_p4 79 rfl rfl, q_p4 80 rfl rfl, _, _, rfl⟩
set_option maxRecDepth 20000 in
theorem kY_X9_gain : q_Y yX9_gain cX9_gain 5 (some .int) 5 := ⟨q_p5 57 rfl rfl, q_p1 1 rfl rfl, by decide, by decide +kernel⟩
set_option maxRecDepth 20000 in
theorem kS_X9_gain : Cond.static yX9_gain ∈ q_tbl := q_p5 56 rfl rfl
set_option maxRecDepth 20000 in
theorem kY_X9_gap : q_YV yX9_gap cX9_gap 1 (some .int) 0 9 := ⟨⟨q_p4 124 rfl rfl, q_p1 1 rfl rfl, by decide, by decide +kernel⟩, q_p4 122 rfl rfl, q_p4 123 rfl rfl, _, _, rfl⟩
set_option maxRecDepth 20000 in
theorem kY_X9_heals : q_YV yX9_heals cX9_heals 4 (some .int) 1 9 := ⟨⟨q_p4 58 rfl rfl, q_p1 1 rfl rfl, by decide, by decide +kernel⟩, q_p4 56 rfl rfl, q_p4 57 rfl rfl, _, _, rfl⟩
set_option maxRecDepth 20000 in
theorem kY_X9_init : q_Y yX9_init cX9_init 2 none 0 := ⟨q_p1 26 rfl rfl, q_p1 1 rfl rfl, by decide, by decide +kernel⟩
set_option maxRecDepth 20000 in
theorem kI_X9_init : Cond.instanceMethod yX9_init ∈ q_tbl := q_p1 25 rfl rfl
set_option maxRecDepth 20000 in
theorem kY_X9_isMatter : q_YV yX9_isMatter cX9_isMatter 2 (some .boolean) 1 9 := ⟨⟨q_p3 96 rfl rfl, q_p1 1 rfl rfl, by decide, by decide +kernel⟩, q_p3 95 rfl rfl, q_ps (q := (yX9_isMatter, 13)) 17 (by decide +kernel), _, _, rfl⟩
set_option maxRecDepth 20000 in
theorem kY_X9_isRest : q_Y yX9_isRest cX9_isRest 6 (some .boolean) 4 := ⟨q_p5 54 rfl rfl, q_p1 1 rfl rfl, by decide, by decide +kernel⟩
set_option maxRecDepth 20000 in
theorem kS_X9_isRest : Cond.static yX9_isRest ∈ q_tbl := q_p5 53 rfl rfl
set_option maxRecDepth 20000 in
theorem kY_X9_judged : q_YV yX9_judged cX9_judged 5 (some .int) 1 9 := ⟨⟨q_p3 209 rfl rfl, q_p1 1 rfl rfl, by decide, by decide +kernel⟩, q_p3 207 rfl rfl, q_p3 208 rfl rfl, _, _, rfl⟩
set_option maxRecDepth 20000 in
theorem kY_X9_lacks : q_YV yX9_lacks cX9_lacks 2 (some .int) 0 9 := ⟨⟨q_p4 39 rfl rfl, q_p1 1 rfl rfl, by decide, by decide +kernel⟩, q_p4 37 rfl rfl, q_p4 38 rfl rfl, _, _, rfl⟩
set_option maxRecDepth 20000 in
theorem kY_X9_later : q_YV yX9_later cX9_later 5 (some .int) 2 9 := ⟨⟨q_p4 49 rfl rfl, q_p1 1 rfl rfl, by decide, by decide +kernel⟩, q_p4 47 rfl rfl, q_p4 48 rfl rfl, _, _, rfl⟩
set_option maxRecDepth 20000 in
theorem kY_X9_liveYears : q_YV yX9_liveYears cX9_liveYears 9 (some .int) 2 9 := ⟨⟨q_p4 189 rfl rfl, q_p1 1 rfl rfl, by decide, by decide +kernel⟩, q_p4 188 rfl rfl, q_ps (q := (yX9_liveYears, 13)) 33 (by decide +kernel), _, _, rfl⟩
set_option maxRecDepth 20000 in
theorem kY_X9_lost : q_YV yX9_lost cX9_lost 3 (some .int) 0 9 := ⟨⟨q_p4 144 rfl rfl, q_p1 1 rfl rfl, by decide, by decide +kernel⟩, q_p4 142 rfl rfl, q_p4 143 rfl rfl, _, _, rfl⟩
set_option maxRecDepth 20000 in
theorem kY_X9_mark : q_YV yX9_mark cX9_mark 4 (some .boolean) 2 9 := ⟨⟨q_p4 203 rfl rfl, q_p1 1 rfl rfl, by decide, by decide +kernel⟩, q_p4 201 rfl rfl, q_p4 202 rfl rfl, _, _, rfl⟩
set_option maxRecDepth 20000 in
theorem kY_X9_matter : q_YV yX9_matter cX9_matter 3 (some .int) 2 9 := ⟨⟨q_p3 92 rfl rfl, q_p1 1 rfl rfl, by decide, by decide +kernel⟩, q_p3 90 rfl rfl, q_p3 91 rfl rfl, _, _, rfl⟩
set_option maxRecDepth 20000 in
theorem kY_X9_meant : q_YV yX9_meant cX9_meant 1 (some .int) 0 9 := ⟨⟨q_p3 100 rfl rfl, q_p1 1 rfl rfl, by decide, by decide +kernel⟩, q_p3 98 rfl rfl, q_p3 99 rfl rfl, _, _, rfl⟩
set_option maxRecDepth 20000 in
theorem kY_X9_most : q_YV yX9_most cX9_most 9 (some .int) 2 9 := ⟨⟨q_p4 27 rfl rfl, q_p1 1 rfl rfl, by decide, by decide +kernel⟩, q_p4 25 rfl rfl, q_p4 26 rfl rfl, _, _, rfl⟩
set_option maxRecDepth 20000 in
theorem kY_X9_mustardFor : q_YV yX9_mustardFor cX9_mustardFor 3 (some .int) 2 9 := ⟨⟨q_p4 1 rfl rfl, q_p1 1 rfl rfl, by decide, by decide +kernel⟩, q_p4 0 rfl rfl, q_ps (q := (yX9_mustardFor, 13)) 21 (by decide +kernel), _, _, rfl⟩
set_option maxRecDepth 20000 in
theorem kY_X9_nextDraw : q_Y yX9_nextDraw cX9_nextDraw 2 (some .long) 1 := ⟨q_p4 192 rfl rfl, q_p1 1 rfl rfl, by decide, by decide +kernel⟩
set_option maxRecDepth 20000 in
theorem kS_X9_nextDraw : Cond.static yX9_nextDraw ∈ q_tbl := q_p4 191 rfl rfl
set_option maxRecDepth 20000 in
theorem kY_X9_noSourerBits : q_YV yX9_noSourerBits cX9_noSourerBits 5 (some .int) 2 9 := ⟨⟨q_p4 168 rfl rfl, q_p1 1 rfl rfl, by decide, by decide +kernel⟩, q_p4 167 rfl rfl, q_ps (q := (yX9_noSourerBits, 13)) 31 (by decide +kernel), _, _, rfl⟩
set_option maxRecDepth 20000 in
theorem kY_X9_partsMeant : q_YV yX9_partsMeant cX9_partsMeant 13 (some .int) 7 9 := ⟨⟨q_p4 180 rfl rfl, q_p1 1 rfl rfl, by decide, by decide +kernel⟩, q_p4 179 rfl rfl, q_ps (q := (yX9_partsMeant, 13)) 32 (by decide +kernel), _, _, rfl⟩
set_option maxRecDepth 20000 in
theorem kY_X9_past : q_YV yX9_past cX9_past 3 (some .int) 0 9 := ⟨⟨q_p2 110 rfl rfl, q_p1 1 rfl rfl, by decide, by decide +kernel⟩, q_p2 108 rfl rfl, q_p2 109 rfl rfl, _, _, rfl⟩
set_option maxRecDepth 20000 in
theorem kY_X9_reckonCosts : q_YV yX9_reckonCosts cX9_reckonCosts 2 none 0 9 := ⟨⟨q_p4 10 rfl rfl, q_p1 1 rfl rfl, by decide, by decide +kernel⟩, q_p4 9 rfl rfl, q_ps (q := (yX9_reckonCosts, 13)) 22 (by decide +kernel), _, _, rfl⟩
set_option maxRecDepth 20000 in
theorem kY_X9_reckonTastes : q_YV yX9_reckonTastes cX9_reckonTastes 4 none 0 9 := ⟨⟨q_p4 160 rfl rfl, q_p1 1 rfl rfl, by decide, by decide +kernel⟩, q_p4 159 rfl rfl, q_ps (q := (yX9_reckonTastes, 13)) 29 (by decide +kernel), _, _, rfl⟩
set_option maxRecDepth 20000 in
theorem kY_X9_redeems : q_YV yX9_redeems cX9_redeems 6 (some .int) 0 9 := ⟨⟨q_p4 120 rfl rfl, q_p1 1 rfl rfl, by decide, by decide +kernel⟩, q_p4 118 rfl rfl, q_p4 119 rfl rfl, _, _, rfl⟩
set_option maxRecDepth 20000 in
theorem kY_X9_rests : q_YV yX9_rests cX9_rests 7 (some .int) 4 9 := ⟨⟨q_p4 230 rfl rfl, q_p1 1 rfl rfl, by decide, by decide +kernel⟩, q_p4 228 rfl rfl, q_p4 229 rfl rfl, _, _, rfl⟩
set_option maxRecDepth 20000 in
theorem kY_X9_right : q_YV yX9_right cX9_right 1 (some .int) 0 9 := ⟨⟨q_p3 109 rfl rfl, q_p1 1 rfl rfl, by decide, by decide +kernel⟩, q_p3 107 rfl rfl, q_p3 108 rfl rfl, _, _, rfl⟩
set_option maxRecDepth 20000 in
theorem kY_X9_roots : q_YV yX9_roots cX9_roots 1 (some .int) 0 9 := ⟨⟨q_p4 103 rfl rfl, q_p1 1 rfl rfl, by decide, by decide +kernel⟩, q_p4 101 rfl rfl, q_p4 102 rfl rfl, _, _, rfl⟩
set_option maxRecDepth 20000 in
theorem kY_X9_round : q_YV yX9_round cX9_round 2 (some .int) 0 9 := ⟨⟨q_p3 71 rfl rfl, q_p1 1 rfl rfl, by decide, by decide +kernel⟩, q_p3 69 rfl rfl, q_p3 70 rfl rfl, _, _, rfl⟩
set_option maxRecDepth 20000 in
theorem kY_X9_see : q_YV yX9_see cX9_see 4 (some .boolean) 3 9 := ⟨⟨q_p4 148 rfl rfl, q_p1 1 rfl rfl, by decide, by decide +kernel⟩, q_p4 146 rfl rfl, q_p4 147 rfl rfl, _, _, rfl⟩
set_option maxRecDepth 20000 in
theorem kY_X9_sourest : q_YV yX9_sourest cX9_sourest 4 (some .int) 0 9 := ⟨⟨q_p4 140 rfl rfl, q_p1 1 rfl rfl, by decide, by decide +kernel⟩, q_p4 138 rfl rfl, q_p4 139 rfl rfl, _, _, rfl⟩
set_option maxRecDepth 20000 in
theorem kY_X9_spread : q_YV yX9_spread cX9_spread 2 (some .int) 1 9 := ⟨⟨q_p3 117 rfl rfl, q_p1 1 rfl rfl, by decide, by decide +kernel⟩, q_p3 115 rfl rfl, q_p3 116 rfl rfl, _, _, rfl⟩
set_option maxRecDepth 20000 in
theorem kY_X9_story : q_YV yX9_story cX9_story 3 (some .int) 0 9 := ⟨⟨q_p4 94 rfl rfl, q_p1 1 rfl rfl, by decide, by decide +kernel⟩, q_p4 92 rfl rfl, q_p4 93 rfl rfl, _, _, rfl⟩
set_option maxRecDepth 20000 in
theorem kY_X9_sumOf : q_YV yX9_sumOf cX9_sumOf 4 (some .int) 1 9 := ⟨⟨q_p4 222 rfl rfl, q_p1 1 rfl rfl, by decide, by decide +kernel⟩, q_p4 221 rfl rfl, q_ps (q := (yX9_sumOf, 13)) 34 (by decide +kernel), _, _, rfl⟩
set_option maxRecDepth 20000 in
theorem kY_X9_suspects : q_YV yX9_suspects cX9_suspects 4 (some .int) 0 9 := ⟨⟨q_p4 164 rfl rfl, q_p1 1 rfl rfl, by decide, by decide +kernel⟩, q_p4 163 rfl rfl, q_ps (q := (yX9_suspects, 13)) 30 (by decide +kernel), _, _, rfl⟩
set_option maxRecDepth 20000 in
theorem kY_X9_taste : q_YV yX9_taste cX9_taste 9 (some .int) 0 9 := ⟨⟨q_p4 172 rfl rfl, q_p1 1 rfl rfl, by decide, by decide +kernel⟩, q_p4 170 rfl rfl, q_p4 171 rfl rfl, _, _, rfl⟩
set_option maxRecDepth 20000 in
theorem kY_X9_undo : q_YV yX9_undo cX9_undo 1 (some .boolean) 0 9 := ⟨⟨q_p3 201 rfl rfl, q_p1 1 rfl rfl, by decide, by decide +kernel⟩, q_p3 199 rfl rfl, q_p3 200 rfl rfl, _, _, rfl⟩
set_option maxRecDepth 20000 in
theorem kY_X9_wants : q_YV yX9_wants cX9_wants 2 (some .int) 1 9 := ⟨⟨q_p3 228 rfl rfl, q_p1 1 rfl rfl, by decide, by decide +kernel⟩, q_p3 226 rfl rfl, q_p3 227 rfl rfl, _, _, rfl⟩
set_option maxRecDepth 20000 in
theorem kY_X9_ways : q_YV yX9_ways cX9_ways 3 (some .int) 2 9 := ⟨⟨q_p4 85 rfl rfl, q_p1 1 rfl rfl, by decide, by decide +kernel⟩, q_p4 83 rfl rfl, q_p4 84 rfl rfl, _, _, rfl⟩
set_option maxRecDepth 20000 in
theorem kY_X9_who : q_YV yX9_who cX9_who 1 (some .int) 0 9 := ⟨⟨q_p4 156 rfl rfl, q_p1 1 rfl rfl, by decide, by decide +kernel⟩, q_p4 154 rfl rfl, q_p4 155 rfl rfl, _, _, rfl⟩
set_option maxRecDepth 20000 in
theorem kY_X9_within : q_Y yX9_within cX9_within 3 (some .boolean) 3 := ⟨q_p2 233 rfl rfl, q_p1 1 rfl rfl, by decide, by decide +kernel⟩
set_option maxRecDepth 20000 in
theorem kS_X9_within : Cond.static yX9_within ∈ q_tbl := q_p2 232 rfl rfl
set_option maxRecDepth 20000 in
theorem kY_X9_year : q_YV yX9_year cX9_year 1 (some .int) 0 9 := ⟨⟨q_p3 179 rfl rfl, q_p1 1 rfl rfl, by decide, by decide +kernel⟩, q_p3 177 rfl rfl, q_p3 178 rfl rfl, _, _, rfl⟩
set_option maxRecDepth 20000 in
theorem kY_X9_years : q_YV yX9_years cX9_years 5 (some .int) 3 9 := ⟨⟨q_p4 185 rfl rfl, q_p1 1 rfl rfl, by decide, by decide +kernel⟩, q_p4 183 rfl rfl, q_p4 184 rfl rfl, _, _, rfl⟩
set_option maxRecDepth 20000 in
theorem kL_X9_1 : Cond.methodLink RX9 1 Lib.objectInit ∈ q_tbl := q_p1 27 rfl rfl
set_option maxRecDepth 20000 in
theorem kL_X9_9 : q_Lk RX9 9 yX6_init := Or.inr ⟨"MustardPast", q_lw 32 rfl⟩
set_option maxRecDepth 20000 in
theorem kL_X9_18 : q_Lk RX9 18 yX4_init := Or.inl (q_p1 73 rfl rfl)
set_option maxRecDepth 20000 in
theorem kL_X9_27 : q_Lk RX9 27 yX5_init := Or.inr ⟨"MustardPast", q_lw 83 rfl⟩
set_option maxRecDepth 20000 in
theorem kL_X9_37 : q_Lk RX9 37 yX8_init := Or.inr ⟨"MustardPast", q_lw 164 rfl⟩
set_option maxRecDepth 20000 in
theorem kL_X9_47 : q_Lk RX9 47 yX0_init := Or.inl (q_p1 187 rfl rfl)
set_option maxRecDepth 20000 in
theorem kL_X9_54 : q_Lk RX9 54 yX2_init := Or.inr ⟨"MustardPast", q_lw 207 rfl⟩
set_option maxRecDepth 20000 in
theorem kL_X9_64 : q_Lk RX9 64 yX7_init := Or.inr ⟨"MustardPast", q_lw 227 rfl⟩
set_option maxRecDepth 20000 in
theorem kL_X9_82 : q_Lk RX9 82 yX3_init := Or.inr ⟨"MustardPast", q_lw 252 rfl⟩
set_option maxRecDepth 20000 in
theorem kL_X9_83 : q_Lk RX9 83 yX5_clear := Or.inl (q_p2 39 rfl rfl)
set_option maxRecDepth 20000 in
theorem kL_X9_86 : q_Lk RX9 86 yX8_begin := Or.inl (q_p2 51 rfl rfl)
set_option maxRecDepth 20000 in
theorem kL_X9_90 : q_Lk RX9 90 yX6_addBytes := Or.inl (q_p2 99 rfl rfl)
set_option maxRecDepth 20000 in
theorem kL_X9_98 : q_Lk RX9 98 yX4_readPast := Or.inl (q_p2 111 rfl rfl)
set_option maxRecDepth 20000 in
theorem kL_X9_102 : q_Lk RX9 102 yX9_beginAnew := Or.inl (q_p3 55 rfl rfl)
set_option maxRecDepth 20000 in
theorem kL_X9_105 : q_Lk RX9 105 yX2_clear := Or.inl (q_p3 59 rfl rfl)
set_option maxRecDepth 20000 in
theorem kL_X9_109 : q_Lk RX9 109 yX0_clear := Or.inl (q_p3 63 rfl rfl)
set_option maxRecDepth 20000 in
theorem kL_X9_114 : q_Lk RX9 114 yX4_readRound := Or.inl (q_p3 72 rfl rfl)
set_option maxRecDepth 20000 in
theorem kL_X9_118 : q_Lk RX9 118 yX2_copy := Or.inl (q_p3 85 rfl rfl)
set_option maxRecDepth 20000 in
theorem kL_X9_122 : q_Lk RX9 122 yX9_isMatter := Or.inl (q_p3 93 rfl rfl)
set_option maxRecDepth 20000 in
theorem kL_X9_138 : q_Lk RX9 138 yX9_meant := Or.inl (q_p3 97 rfl rfl)
set_option maxRecDepth 20000 in
theorem kL_X9_142 : q_Lk RX9 142 yX9_bit := Or.inl (q_p3 105 rfl rfl)
set_option maxRecDepth 20000 in
theorem kL_X9_146 : q_Lk RX9 146 yX9_right := Or.inl (q_p3 106 rfl rfl)
set_option maxRecDepth 20000 in
theorem kL_X9_152 : q_Lk RX9 152 yX8_canSpread := Or.inl (q_p3 118 rfl rfl)
set_option maxRecDepth 20000 in
theorem kL_X9_156 : q_Lk RX9 156 yX0_keep := Or.inl (q_p3 126 rfl rfl)
set_option maxRecDepth 20000 in
theorem kL_X9_160 : q_Lk RX9 160 yX8_putOn := Or.inl (q_p3 137 rfl rfl)
set_option maxRecDepth 20000 in
theorem kL_X9_164 : q_Lk RX9 164 yX8_takeOff := Or.inl (q_p3 172 rfl rfl)
set_option maxRecDepth 20000 in
theorem kL_X9_167 : q_Lk RX9 167 yX8_pass := Or.inl (q_p3 180 rfl rfl)
set_option maxRecDepth 20000 in
theorem kL_X9_170 : q_Lk RX9 170 yJ6_bitCount_0f7a4 := Or.inl (q_p3 192 rfl rfl)
set_option maxRecDepth 20000 in
theorem kL_X9_176 : q_Lk RX9 176 yX0_giveBack := Or.inl (q_p3 202 rfl rfl)
set_option maxRecDepth 20000 in
theorem kL_X9_180 : q_Lk RX9 180 yX9_within := Or.inl (q_p3 210 rfl rfl)
set_option maxRecDepth 20000 in
theorem kL_X9_191 : q_Lk RX9 191 yX8_follow := Or.inl (q_p3 211 rfl rfl)
set_option maxRecDepth 20000 in
theorem kL_X9_195 : q_Lk RX9 195 yX8_meantBits := Or.inl (q_p3 101 rfl rfl)
set_option maxRecDepth 20000 in
theorem kL_X9_198 : q_Lk RX9 198 yX5_rightBy := Or.inl (q_p3 110 rfl rfl)
set_option maxRecDepth 20000 in
theorem kL_X9_201 : q_Lk RX9 201 yX5_everyone := Or.inl (q_p3 219 rfl rfl)
set_option maxRecDepth 20000 in
theorem kL_X9_204 : q_Lk RX9 204 yX9_coatsWanted := Or.inl (q_p3 229 rfl rfl)
set_option maxRecDepth 20000 in
theorem kL_X9_210 : q_Lk RX9 210 yX5_sourAfterCoat := Or.inl (q_p3 233 rfl rfl)
set_option maxRecDepth 20000 in
theorem kL_X9_214 : q_Lk RX9 214 yX9_mustardFor := Or.inl (q_p3 238 rfl rfl)
set_option maxRecDepth 20000 in
theorem kL_X9_217 : q_Lk RX9 217 yX5_price := Or.inl (q_p4 2 rfl rfl)
set_option maxRecDepth 20000 in
theorem kL_X9_223 : q_Lk RX9 223 yX9_reckonCosts := Or.inl (q_p4 7 rfl rfl)
set_option maxRecDepth 20000 in
theorem kL_X9_226 : q_Lk RX9 226 yX9_cheapestFor := Or.inl (q_p4 11 rfl rfl)
set_option maxRecDepth 20000 in
theorem kL_X9_229 : q_Lk RX9 229 yX5_fruitBits := Or.inl (q_p4 15 rfl rfl)
set_option maxRecDepth 20000 in
theorem kL_X9_232 : q_Lk RX9 232 yX9_cheapestOf := Or.inl (q_p4 20 rfl rfl)
set_option maxRecDepth 20000 in
theorem kL_X9_235 : q_Lk RX9 235 yX9_costOfSet := Or.inl (q_p4 28 rfl rfl)
set_option maxRecDepth 20000 in
theorem kL_X9_238 : q_Lk RX9 238 yX9_all := Or.inl (q_p4 40 rfl rfl)
set_option maxRecDepth 20000 in
theorem kL_X9_244 : Cond.methodLink RX9 244 Lib.Math.max.name ∈ q_tbl := q_p4 41 rfl rfl
set_option maxRecDepth 20000 in
theorem kL_X9_249 : q_Lk RX9 249 yX5_sourAfterYear := Or.inl (q_p4 50 rfl rfl)
set_option maxRecDepth 20000 in
theorem kL_X9_253 : q_Lk RX9 253 yX5_potAfterYear := Or.inl (q_p4 63 rfl rfl)
set_option maxRecDepth 20000 in
theorem kL_X9_256 : q_Lk RX9 256 yX8_copy := Or.inl (q_p4 68 rfl rfl)
set_option maxRecDepth 20000 in
theorem kL_X9_258 : q_Lk RX9 258 yX5_causeBits := Or.inl (q_p4 73 rfl rfl)
set_option maxRecDepth 20000 in
theorem kL_X9_261 : q_Lk RX9 261 yX5_waysTo := Or.inr ⟨"MustardPast", q_lw 806 rfl⟩
set_option maxRecDepth 20000 in
theorem kL_X9_264 : q_Lk RX9 264 yX5_storyFrom := Or.inr ⟨"MustardPast", q_lw 815 rfl⟩
set_option maxRecDepth 20000 in
theorem kL_X9_267 : q_Lk RX9 267 yX5_rootBits := Or.inl (q_p4 104 rfl rfl)
set_option maxRecDepth 20000 in
theorem kL_X9_270 : q_Lk RX9 270 yX5_elderBits := Or.inl (q_p4 113 rfl rfl)
set_option maxRecDepth 20000 in
theorem kL_X9_273 : q_Lk RX9 273 yX5_widestGap := Or.inl (q_p4 125 rfl rfl)
set_option maxRecDepth 20000 in
theorem kL_X9_276 : q_Lk RX9 276 yX7_add := Or.inl (q_p4 149 rfl rfl)
set_option maxRecDepth 20000 in
theorem kL_X9_280 : q_Lk RX9 280 yX9_reckonTastes := Or.inl (q_p4 157 rfl rfl)
set_option maxRecDepth 20000 in
theorem kL_X9_283 : q_Lk RX9 283 yX9_suspects := Or.inl (q_p4 161 rfl rfl)
set_option maxRecDepth 20000 in
theorem kL_X9_288 : q_Lk RX9 288 yX9_noSourerBits := Or.inl (q_p4 165 rfl rfl)
set_option maxRecDepth 20000 in
theorem kL_X9_295 : q_Lk RX9 295 yX9_partsMeant := Or.inl (q_p4 177 rfl rfl)
set_option maxRecDepth 20000 in
theorem kL_X9_299 : q_Lk RX9 299 yX5_coatsAfterCoat := Or.inl (q_p4 181 rfl rfl)
set_option maxRecDepth 20000 in
theorem kL_X9_305 : q_Lk RX9 305 yX9_isRest := Or.inl (q_p5 52 rfl rfl)
set_option maxRecDepth 20000 in
theorem kL_X9_309 : q_Lk RX9 309 yX9_gain := Or.inl (q_p5 55 rfl rfl)
set_option maxRecDepth 20000 in
theorem kL_X9_313 : q_Lk RX9 313 yX9_liveYears := Or.inl (q_p4 186 rfl rfl)
set_option maxRecDepth 20000 in
theorem kL_X9_316 : q_Lk RX9 316 yX9_nextDraw := Or.inl (q_p4 190 rfl rfl)
set_option maxRecDepth 20000 in
theorem kL_X9_320 : q_Lk RX9 320 yX9_drawnBelow := Or.inl (q_p4 196 rfl rfl)
set_option maxRecDepth 20000 in
theorem kL_X9_332 : q_Lk RX9 332 yX3_lay := Or.inl (q_p4 204 rfl rfl)
set_option maxRecDepth 20000 in
theorem kL_X9_341 : q_Lk RX9 341 yX7_copy := Or.inl (q_p4 214 rfl rfl)
set_option maxRecDepth 20000 in
theorem kL_X9_350 : q_Lk RX9 350 yX9_sumOf := Or.inl (q_p4 219 rfl rfl)
set_option maxRecDepth 20000 in
theorem kL_X0_3 : Cond.methodLink RX0 3 Lib.objectInit ∈ q_tbl := q_p1 190 rfl rfl
set_option maxRecDepth 20000 in
theorem kL_X0_17 : q_Lk RX0 17 yX8_init := Or.inr ⟨"MustardPast", q_lw 193 rfl⟩
set_option maxRecDepth 20000 in
theorem kL_X0_25 : q_Lk RX0 25 yX8_copy := Or.inl (q_p3 130 rfl rfl)
set_option maxRecDepth 20000 in
theorem kL_X0_29 : Cond.methodLink RX0 29 Lib.Math.min.name ∈ q_tbl := q_p3 134 rfl rfl
set_option maxRecDepth 20000 in
theorem kL_X1_3 : Cond.methodLink RX1 3 Lib.objectInit ∈ q_tbl := q_p1 92 rfl rfl
set_option maxRecDepth 20000 in
theorem kL_X1_25 : q_Lk RX1 25 yX1_push := Or.inl (q_p3 149 rfl rfl)
set_option maxRecDepth 20000 in
theorem kL_X1_29 : q_Lk RX1 29 yX1_pop := Or.inl (q_p3 153 rfl rfl)
set_option maxRecDepth 20000 in
theorem kL_X1_33 : q_Lk RX1 33 yX1_joined := Or.inl (q_p3 157 rfl rfl)
set_option maxRecDepth 20000 in
theorem kL_X2_3 : Cond.methodLink RX2 3 Lib.objectInit ∈ q_tbl := q_p1 210 rfl rfl
set_option maxRecDepth 20000 in
theorem kL_X3_1 : Cond.methodLink RX3 1 Lib.objectInit ∈ q_tbl := q_p2 15 rfl rfl
set_option maxRecDepth 20000 in
theorem kL_X3_9 : q_Lk RX3 9 yX8_init := Or.inr ⟨"MustardPast", q_lw 257 rfl⟩
set_option maxRecDepth 20000 in
theorem kL_X3_18 : q_Lk RX3 18 yX2_init := Or.inr ⟨"MustardPast", q_lw 259 rfl⟩
set_option maxRecDepth 20000 in
theorem kL_X3_25 : q_Lk RX3 25 yX7_init := Or.inr ⟨"MustardPast", q_lw 261 rfl⟩
set_option maxRecDepth 20000 in
theorem kL_X3_30 : q_Lk RX3 30 yX8_copy := Or.inl (q_p4 208 rfl rfl)
set_option maxRecDepth 20000 in
theorem kL_X3_34 : q_Lk RX3 34 yX2_copy := Or.inl (q_p4 209 rfl rfl)
set_option maxRecDepth 20000 in
theorem kL_X3_37 : q_Lk RX3 37 yX7_copy := Or.inl (q_p4 210 rfl rfl)
set_option maxRecDepth 20000 in
theorem kL_X4_3 : Cond.methodLink RX4 3 Lib.objectInit ∈ q_tbl := q_p1 76 rfl rfl
set_option maxRecDepth 20000 in
theorem kL_X4_15 : q_Lk RX4 15 yX5_clear := Or.inl (q_p2 115 rfl rfl)
set_option maxRecDepth 20000 in
theorem kL_X4_20 : q_Lk RX4 20 yX6_open := Or.inl (q_p2 116 rfl rfl)
set_option maxRecDepth 20000 in
theorem kL_X4_32 : q_Lk RX4 32 yX6_keyHere := Or.inl (q_p2 198 rfl rfl)
set_option maxRecDepth 20000 in
theorem kL_X4_36 : q_Lk RX4 36 yX4_readMatter := Or.inl (q_p2 206 rfl rfl)
set_option maxRecDepth 20000 in
theorem kL_X4_40 : q_Lk RX4 40 yX4_readLed := Or.inl (q_p3 8 rfl rfl)
set_option maxRecDepth 20000 in
theorem kL_X4_43 : q_Lk RX4 43 yX4_readSetting := Or.inl (q_p3 19 rfl rfl)
set_option maxRecDepth 20000 in
theorem kL_X4_47 : q_Lk RX4 47 yX6_fail := Or.inl (q_p2 210 rfl rfl)
set_option maxRecDepth 20000 in
theorem kL_X4_51 : q_Lk RX4 51 yX6_takeSign := Or.inl (q_p3 46 rfl rfl)
set_option maxRecDepth 20000 in
theorem kL_X4_54 : q_Lk RX4 54 yX6_close := Or.inl (q_p3 51 rfl rfl)
set_option maxRecDepth 20000 in
theorem kL_X4_60 : q_Lk RX4 60 yX6_advance := Or.inl (q_p2 214 rfl rfl)
set_option maxRecDepth 20000 in
theorem kL_X4_67 : q_Lk RX4 67 yX4_takeNewName := Or.inl (q_p2 215 rfl rfl)
set_option maxRecDepth 20000 in
theorem kL_X4_75 : q_Lk RX4 75 yX4_takeKind := Or.inl (q_p2 227 rfl rfl)
set_option maxRecDepth 20000 in
theorem kL_X4_78 : q_Lk RX4 78 yX6_takeKey := Or.inl (q_p2 234 rfl rfl)
set_option maxRecDepth 20000 in
theorem kL_X4_84 : q_Lk RX4 84 yX6_takeNumber := Or.inl (q_p3 3 rfl rfl)
set_option maxRecDepth 20000 in
theorem kL_X4_94 : q_Lk RX4 94 yX6_isName := Or.inl (q_p2 219 rfl rfl)
set_option maxRecDepth 20000 in
theorem kL_X4_102 : q_Lk RX4 102 yX5_find := Or.inl (q_p2 223 rfl rfl)
set_option maxRecDepth 20000 in
theorem kL_X4_106 : q_Lk RX4 106 yX9_within := Or.inr ⟨"MustardPast", q_lw 471 rfl⟩
set_option maxRecDepth 20000 in
theorem kL_X4_110 : q_Lk RX4 110 yX4_matterHere := Or.inl (q_p3 12 rfl rfl)
set_option maxRecDepth 20000 in
theorem kL_X4_114 : q_Lk RX4 114 yX9_bit := Or.inr ⟨"MustardPast", q_lw 496 rfl⟩
set_option maxRecDepth 20000 in
theorem kL_X4_133 : q_Lk RX4 133 yX1_clear := Or.inl (q_p3 23 rfl rfl)
set_option maxRecDepth 20000 in
theorem kL_X4_136 : q_Lk RX4 136 yX4_readE := Or.inl (q_p3 24 rfl rfl)
set_option maxRecDepth 20000 in
theorem kL_X4_140 : q_Lk RX4 140 yX2_clear := Or.inl (q_p3 76 rfl rfl)
set_option maxRecDepth 20000 in
theorem kL_X4_143 : q_Lk RX4 143 yX4_readRoundLine := Or.inl (q_p3 77 rfl rfl)
set_option maxRecDepth 20000 in
theorem kL_X4_150 : q_Lk RX4 150 yX2_add := Or.inl (q_p3 81 rfl rfl)
set_option maxRecDepth 20000 in
theorem kL_X4_154 : q_Lk RX4 154 yX4_readTest := Or.inl (q_p3 28 rfl rfl)
set_option maxRecDepth 20000 in
theorem kL_X4_157 : q_Lk RX4 157 yX6_isKey := Or.inl (q_p3 45 rfl rfl)
set_option maxRecDepth 20000 in
theorem kL_X4_164 : q_Lk RX4 164 yX1_add := Or.inl (q_p3 50 rfl rfl)
set_option maxRecDepth 20000 in
theorem kL_X4_166 : q_Lk RX4 166 yX4_readSum := Or.inl (q_p3 32 rfl rfl)
set_option maxRecDepth 20000 in
theorem kL_X4_169 : q_Lk RX4 169 yX6_isType := Or.inl (q_p3 44 rfl rfl)
set_option maxRecDepth 20000 in
theorem kL_X4_172 : q_Lk RX4 172 yX4_readProduct := Or.inl (q_p3 36 rfl rfl)
set_option maxRecDepth 20000 in
theorem kL_X4_175 : q_Lk RX4 175 yX4_readPart := Or.inl (q_p3 40 rfl rfl)
set_option maxRecDepth 20000 in
theorem kL_X5_3 : Cond.methodLink RX5 3 Lib.objectInit ∈ q_tbl := q_p1 86 rfl rfl
set_option maxRecDepth 20000 in
theorem kL_X5_30 : q_Lk RX5 30 yX1_init := Or.inr ⟨"MustardPast", q_lw 89 rfl⟩
set_option maxRecDepth 20000 in
theorem kL_X5_51 : q_Lk RX5 51 yX1_clear := Or.inl (q_p2 43 rfl rfl)
set_option maxRecDepth 20000 in
theorem kL_X5_54 : q_Lk RX5 54 yX1_add := Or.inl (q_p2 47 rfl rfl)
set_option maxRecDepth 20000 in
theorem kL_X5_58 : q_Lk RX5 58 yX1_worth := Or.inl (q_p3 145 rfl rfl)
set_option maxRecDepth 20000 in
theorem kL_X5_62 : Cond.methodLink RX5 62 Lib.Math.min.name ∈ q_tbl := q_p3 160 rfl rfl
set_option maxRecDepth 20000 in
theorem kL_X5_68 : Cond.methodLink RX5 68 Lib.Math.max.name ∈ q_tbl := q_p3 161 rfl rfl
set_option maxRecDepth 20000 in
theorem kL_X5_71 : q_Lk RX5 71 yX9_bit := Or.inr ⟨"MustardPast", q_lw 739 rfl⟩
set_option maxRecDepth 20000 in
theorem kL_X5_74 : q_Lk RX5 74 yX5_rightBy := Or.inl (q_p4 77 rfl rfl)
set_option maxRecDepth 20000 in
theorem kL_X5_78 : q_Lk RX5 78 yX5_everyone := Or.inl (q_p4 108 rfl rfl)
set_option maxRecDepth 20000 in
theorem kL_X5_82 : q_Lk RX5 82 yX5_waysTo := Or.inl (q_p4 90 rfl rfl)
set_option maxRecDepth 20000 in
theorem kL_X5_86 : q_Lk RX5 86 yX5_storyFrom := Or.inl (q_p4 99 rfl rfl)
set_option maxRecDepth 20000 in
theorem kL_X5_89 : q_Lk RX5 89 yX5_nextBirth := Or.inl (q_p4 129 rfl rfl)
set_option maxRecDepth 20000 in
theorem kL_X6_3 : Cond.methodLink RX6 3 Lib.objectInit ∈ q_tbl := q_p1 35 rfl rfl
set_option maxRecDepth 20000 in
theorem kL_X6_15 : q_Lk RX6 15 yX6_addSign := Or.inl (q_p2 103 rfl rfl)
set_option maxRecDepth 20000 in
theorem kL_X6_29 : q_Lk RX6 29 yX6_advance := Or.inl (q_p2 120 rfl rfl)
set_option maxRecDepth 20000 in
theorem kL_X6_38 : q_Lk RX6 38 yX6_isType := Or.inl (q_p2 202 rfl rfl)
set_option maxRecDepth 20000 in
theorem kL_X6_45 : q_Lk RX6 45 yX6_isKey := Or.inl (q_p2 238 rfl rfl)
set_option maxRecDepth 20000 in
theorem kL_X6_48 : q_Lk RX6 48 yX6_fail := Or.inl (q_p3 2 rfl rfl)
set_option maxRecDepth 20000 in
theorem kL_X6_54 : q_Lk RX6 54 yX9_within := Or.inr ⟨"MustardPast", q_lw 487 rfl⟩
set_option maxRecDepth 20000 in
theorem kL_X6_58 : q_Lk RX6 58 yX6_signAt := Or.inl (q_p2 124 rfl rfl)
set_option maxRecDepth 20000 in
theorem kL_X6_62 : q_Lk RX6 62 yX6_isLetter := Or.inl (q_p2 128 rfl rfl)
set_option maxRecDepth 20000 in
theorem kL_X6_65 : q_Lk RX6 65 yX6_readWord := Or.inl (q_p2 131 rfl rfl)
set_option maxRecDepth 20000 in
theorem kL_X6_68 : q_Lk RX6 68 yX6_isDigit := Or.inl (q_p2 188 rfl rfl)
set_option maxRecDepth 20000 in
theorem kL_X6_71 : q_Lk RX6 71 yX6_readNumber := Or.inl (q_p2 191 rfl rfl)
set_option maxRecDepth 20000 in
theorem kL_X6_74 : q_Lk RX6 74 yX6_isSign := Or.inl (q_p2 195 rfl rfl)
set_option maxRecDepth 20000 in
theorem kL_X6_83 : q_Lk RX6 83 yX6_keyOf := Or.inl (q_p2 136 rfl rfl)
set_option maxRecDepth 20000 in
theorem kL_X6_89 : Cond.methodLink RX6 89 ⟨"java/lang/String", "length", "()I"⟩ ∈ q_tbl := q_p2 140 rfl rfl
set_option maxRecDepth 20000 in
theorem kL_X6_94 : Cond.methodLink RX6 94 ⟨"java/lang/String", "charAt", "(I)C"⟩ ∈ q_tbl := q_p2 150 rfl rfl
set_option maxRecDepth 20000 in
theorem kL_X7_3 : Cond.methodLink RX7 3 Lib.objectInit ∈ q_tbl := q_p1 230 rfl rfl
set_option maxRecDepth 20000 in
theorem kL_X8_3 : Cond.methodLink RX8 3 Lib.objectInit ∈ q_tbl := q_p1 167 rfl rfl
set_option maxRecDepth 20000 in
theorem kL_X8_29 : q_Lk RX8 29 yX5_price := Or.inl (q_p3 122 rfl rfl)
set_option maxRecDepth 20000 in
theorem kL_X8_33 : q_Lk RX8 33 yX5_sourAfterCoat := Or.inl (q_p3 141 rfl rfl)
set_option maxRecDepth 20000 in
theorem kL_X8_37 : q_Lk RX8 37 yX5_coatsAfterCoat := Or.inl (q_p3 164 rfl rfl)
set_option maxRecDepth 20000 in
theorem kL_X8_44 : q_Lk RX8 44 yX5_sourAfterYear := Or.inl (q_p3 184 rfl rfl)
set_option maxRecDepth 20000 in
theorem kL_X8_48 : q_Lk RX8 48 yX5_potAfterYear := Or.inl (q_p3 188 rfl rfl)
set_option maxRecDepth 20000 in
theorem kL_X8_51 : q_Lk RX8 51 yX8_pass := Or.inl (q_p3 215 rfl rfl)
set_option maxRecDepth 20000 in
theorem kL_X8_55 : q_Lk RX8 55 yX8_canSpread := Or.inl (q_p3 216 rfl rfl)
set_option maxRecDepth 20000 in
theorem kL_X8_59 : q_Lk RX8 59 yX8_putOn := Or.inl (q_p3 217 rfl rfl)
set_option maxRecDepth 20000 in
theorem kL_X8_63 : q_Lk RX8 63 yX8_takeOff := Or.inl (q_p3 218 rfl rfl)
set_option maxRecDepth 20000 in
theorem kL_L_7 : q_Lk RL 7 yX9_rests := Or.inl (q_p4 227 rfl rfl)
set_option maxRecDepth 20000 in
theorem kL_L_15 : q_Lk RL 15 yX9_init := Or.inl (q_p1 24 rfl rfl)
set_option maxRecDepth 20000 in
theorem kL_L_18 : q_Lk RL 18 yX10_init := Or.inl (q_p5 60 rfl rfl)
set_option maxRecDepth 20000 in
theorem kL_L_21 : q_Lk RL 21 yX9_feed := Or.inl (q_p2 95 rfl rfl)
set_option maxRecDepth 20000 in
theorem kL_L_25 : q_Lk RL 25 yX10_feed := Or.inl (q_p5 236 rfl rfl)
set_option maxRecDepth 20000 in
theorem kL_L_26 : q_Lk RL 26 yX9_past := Or.inl (q_p2 107 rfl rfl)
set_option maxRecDepth 20000 in
theorem kL_L_30 : q_Lk RL 30 yX10_past := Or.inl (q_p6 1 rfl rfl)
set_option maxRecDepth 20000 in
theorem kL_L_31 : q_Lk RL 31 yX9_round := Or.inl (q_p3 68 rfl rfl)
set_option maxRecDepth 20000 in
theorem kL_L_34 : q_Lk RL 34 yX10_round := Or.inl (q_p6 123 rfl rfl)
set_option maxRecDepth 20000 in
theorem kL_L_35 : q_Lk RL 35 yX9_matter := Or.inl (q_p3 89 rfl rfl)
set_option maxRecDepth 20000 in
theorem kL_L_39 : q_Lk RL 39 yX10_matter := Or.inl (q_p6 135 rfl rfl)
set_option maxRecDepth 20000 in
theorem kL_L_40 : q_Lk RL 40 yX9_spread := Or.inl (q_p3 114 rfl rfl)
set_option maxRecDepth 20000 in
theorem kL_L_44 : q_Lk RL 44 yX10_spread := Or.inl (q_p6 151 rfl rfl)
set_option maxRecDepth 20000 in
theorem kL_L_45 : q_Lk RL 45 yX9_eat := Or.inl (q_p3 168 rfl rfl)
set_option maxRecDepth 20000 in
theorem kL_L_48 : q_Lk RL 48 yX10_eat := Or.inl (q_p6 194 rfl rfl)
set_option maxRecDepth 20000 in
theorem kL_L_49 : q_Lk RL 49 yX9_year := Or.inl (q_p3 176 rfl rfl)
set_option maxRecDepth 20000 in
theorem kL_L_52 : q_Lk RL 52 yX10_year := Or.inl (q_p6 202 rfl rfl)
set_option maxRecDepth 20000 in
theorem kL_L_53 : q_Lk RL 53 yX9_undo := Or.inl (q_p3 198 rfl rfl)
set_option maxRecDepth 20000 in
theorem kL_L_57 : q_Lk RL 57 yX10_undo := Or.inl (q_p6 214 rfl rfl)
set_option maxRecDepth 20000 in
theorem kL_L_58 : q_Lk RL 58 yX9_judged := Or.inl (q_p3 206 rfl rfl)
set_option maxRecDepth 20000 in
theorem kL_L_61 : q_Lk RL 61 yX10_judged := Or.inl (q_p6 218 rfl rfl)
set_option maxRecDepth 20000 in
theorem kL_L_62 : q_Lk RL 62 yX9_meant := Or.inl (q_p3 223 rfl rfl)
set_option maxRecDepth 20000 in
theorem kL_L_65 : q_Lk RL 65 yX10_meant := Or.inl (q_p6 230 rfl rfl)
set_option maxRecDepth 20000 in
theorem kL_L_66 : q_Lk RL 66 yX9_right := Or.inl (q_p3 224 rfl rfl)
set_option maxRecDepth 20000 in
theorem kL_L_69 : q_Lk RL 69 yX10_right := Or.inl (q_p6 234 rfl rfl)
set_option maxRecDepth 20000 in
theorem kL_L_70 : q_Lk RL 70 yX9_wants := Or.inl (q_p3 225 rfl rfl)
set_option maxRecDepth 20000 in
theorem kL_L_73 : q_Lk RL 73 yX10_wants := Or.inl (q_p6 238 rfl rfl)
set_option maxRecDepth 20000 in
theorem kL_L_74 : q_Lk RL 74 yX9_cost := Or.inl (q_p3 234 rfl rfl)
set_option maxRecDepth 20000 in
theorem kL_L_77 : q_Lk RL 77 yX10_cost := Or.inl (q_p7 6 rfl rfl)
set_option maxRecDepth 20000 in
theorem kL_L_78 : q_Lk RL 78 yX9_cheap := Or.inl (q_p4 3 rfl rfl)
set_option maxRecDepth 20000 in
theorem kL_L_81 : q_Lk RL 81 yX10_cheap := Or.inl (q_p7 15 rfl rfl)
set_option maxRecDepth 20000 in
theorem kL_L_82 : q_Lk RL 82 yX9_most := Or.inl (q_p4 24 rfl rfl)
set_option maxRecDepth 20000 in
theorem kL_L_85 : q_Lk RL 85 yX10_most := Or.inl (q_p7 27 rfl rfl)
set_option maxRecDepth 20000 in
theorem kL_L_86 : q_Lk RL 86 yX9_all := Or.inl (q_p4 32 rfl rfl)
set_option maxRecDepth 20000 in
theorem kL_L_89 : q_Lk RL 89 yX10_all := Or.inl (q_p7 39 rfl rfl)
set_option maxRecDepth 20000 in
theorem kL_L_90 : q_Lk RL 90 yX9_lacks := Or.inl (q_p4 36 rfl rfl)
set_option maxRecDepth 20000 in
theorem kL_L_93 : q_Lk RL 93 yX10_lacks := Or.inl (q_p7 47 rfl rfl)
set_option maxRecDepth 20000 in
theorem kL_L_94 : q_Lk RL 94 yX9_easiest := Or.inl (q_p4 42 rfl rfl)
set_option maxRecDepth 20000 in
theorem kL_L_97 : q_Lk RL 97 yX10_easiest := Or.inl (q_p7 51 rfl rfl)
set_option maxRecDepth 20000 in
theorem kL_L_98 : q_Lk RL 98 yX9_later := Or.inl (q_p4 46 rfl rfl)
set_option maxRecDepth 20000 in
theorem kL_L_101 : q_Lk RL 101 yX10_later := Or.inl (q_p7 59 rfl rfl)
set_option maxRecDepth 20000 in
theorem kL_L_102 : q_Lk RL 102 yX9_again := Or.inl (q_p4 51 rfl rfl)
set_option maxRecDepth 20000 in
theorem kL_L_105 : q_Lk RL 105 yX10_again := Or.inl (q_p7 63 rfl rfl)
set_option maxRecDepth 20000 in
theorem kL_L_106 : q_Lk RL 106 yX9_heals := Or.inl (q_p4 55 rfl rfl)
set_option maxRecDepth 20000 in
theorem kL_L_109 : q_Lk RL 109 yX10_heals := Or.inl (q_p7 71 rfl rfl)
set_option maxRecDepth 20000 in
theorem kL_L_110 : q_Lk RL 110 yX9_fills := Or.inl (q_p4 59 rfl rfl)
set_option maxRecDepth 20000 in
theorem kL_L_113 : q_Lk RL 113 yX10_fills := Or.inl (q_p7 75 rfl rfl)
set_option maxRecDepth 20000 in
theorem kL_L_114 : q_Lk RL 114 yX9_dinners := Or.inl (q_p4 64 rfl rfl)
set_option maxRecDepth 20000 in
theorem kL_L_117 : q_Lk RL 117 yX10_dinners := Or.inl (q_p7 79 rfl rfl)
set_option maxRecDepth 20000 in
theorem kL_L_118 : q_Lk RL 118 yX9_causes := Or.inl (q_p4 69 rfl rfl)
set_option maxRecDepth 20000 in
theorem kL_L_121 : q_Lk RL 121 yX10_causes := Or.inl (q_p7 83 rfl rfl)
set_option maxRecDepth 20000 in
theorem kL_L_122 : q_Lk RL 122 yX9_fruits := Or.inl (q_p4 78 rfl rfl)
set_option maxRecDepth 20000 in
theorem kL_L_125 : q_Lk RL 125 yX10_fruits := Or.inl (q_p7 87 rfl rfl)
set_option maxRecDepth 20000 in
theorem kL_L_126 : q_Lk RL 126 yX9_ways := Or.inl (q_p4 82 rfl rfl)
set_option maxRecDepth 20000 in
theorem kL_L_129 : q_Lk RL 129 yX10_ways := Or.inl (q_p7 91 rfl rfl)
set_option maxRecDepth 20000 in
theorem kL_L_130 : q_Lk RL 130 yX9_story := Or.inl (q_p4 91 rfl rfl)
set_option maxRecDepth 20000 in
theorem kL_L_133 : q_Lk RL 133 yX10_story := Or.inl (q_p7 99 rfl rfl)
set_option maxRecDepth 20000 in
theorem kL_L_134 : q_Lk RL 134 yX9_roots := Or.inl (q_p4 100 rfl rfl)
set_option maxRecDepth 20000 in
theorem kL_L_137 : q_Lk RL 137 yX10_roots := Or.inl (q_p7 103 rfl rfl)
set_option maxRecDepth 20000 in
theorem kL_L_138 : q_Lk RL 138 yX9_elders := Or.inl (q_p4 109 rfl rfl)
set_option maxRecDepth 20000 in
theorem kL_L_141 : q_Lk RL 141 yX10_elders := Or.inl (q_p7 55 rfl rfl)
set_option maxRecDepth 20000 in
theorem kL_L_142 : q_Lk RL 142 yX9_redeems := Or.inl (q_p4 117 rfl rfl)
set_option maxRecDepth 20000 in
theorem kL_L_145 : q_Lk RL 145 yX10_redeems := Or.inl (q_p7 107 rfl rfl)
set_option maxRecDepth 20000 in
theorem kL_L_146 : q_Lk RL 146 yX9_gap := Or.inl (q_p4 121 rfl rfl)
set_option maxRecDepth 20000 in
theorem kL_L_149 : q_Lk RL 149 yX10_gap := Or.inl (q_p7 111 rfl rfl)
set_option maxRecDepth 20000 in
theorem kL_L_150 : q_Lk RL 150 yX9_bare := Or.inl (q_p4 133 rfl rfl)
set_option maxRecDepth 20000 in
theorem kL_L_153 : q_Lk RL 153 yX10_bare := Or.inl (q_p7 115 rfl rfl)
set_option maxRecDepth 20000 in
theorem kL_L_154 : q_Lk RL 154 yX9_sourest := Or.inl (q_p4 137 rfl rfl)
set_option maxRecDepth 20000 in
theorem kL_L_157 : q_Lk RL 157 yX10_sourest := Or.inl (q_p7 119 rfl rfl)
set_option maxRecDepth 20000 in
theorem kL_L_158 : q_Lk RL 158 yX9_lost := Or.inl (q_p4 141 rfl rfl)
set_option maxRecDepth 20000 in
theorem kL_L_161 : q_Lk RL 161 yX10_lost := Or.inl (q_p7 23 rfl rfl)
set_option maxRecDepth 20000 in
theorem kL_L_162 : q_Lk RL 162 yX9_see := Or.inl (q_p4 145 rfl rfl)
set_option maxRecDepth 20000 in
theorem kL_L_166 : q_Lk RL 166 yX10_see := Or.inl (q_p7 123 rfl rfl)
set_option maxRecDepth 20000 in
theorem kL_L_167 : q_Lk RL 167 yX9_who := Or.inl (q_p4 153 rfl rfl)
set_option maxRecDepth 20000 in
theorem kL_L_170 : q_Lk RL 170 yX10_who := Or.inl (q_p7 127 rfl rfl)
set_option maxRecDepth 20000 in
theorem kL_L_171 : q_Lk RL 171 yX9_taste := Or.inl (q_p4 169 rfl rfl)
set_option maxRecDepth 20000 in
theorem kL_L_174 : q_Lk RL 174 yX10_taste := Or.inl (q_p7 143 rfl rfl)
set_option maxRecDepth 20000 in
theorem kL_L_175 : q_Lk RL 175 yX9_chance := Or.inl (q_p4 173 rfl rfl)
set_option maxRecDepth 20000 in
theorem kL_L_179 : q_Lk RL 179 yX10_chance := Or.inl (q_p7 148 rfl rfl)
set_option maxRecDepth 20000 in
theorem kL_L_180 : q_Lk RL 180 yL_rests := Or.inl (q_p4 223 rfl rfl)
set_option maxRecDepth 20000 in
theorem kL_L_185 : q_Lk RL 185 yX10_rests := Or.inl (q_p7 154 rfl rfl)
set_option maxRecDepth 20000 in
theorem kL_L_186 : q_Lk RL 186 yX10_thrown := Or.inl (q_p5 232 rfl rfl)
set_option maxRecDepth 20000 in
theorem kL_L_189 : q_Lk RL 189 yX9_years := Or.inl (q_p4 182 rfl rfl)
set_option maxRecDepth 20000 in
theorem kL_L_192 : q_Lk RL 192 yX10_years := Or.inl (q_p7 161 rfl rfl)
set_option maxRecDepth 20000 in
theorem kL_L_193 : q_Lk RL 193 yX9_mark := Or.inl (q_p4 200 rfl rfl)
set_option maxRecDepth 20000 in
theorem kL_L_197 : q_Lk RL 197 yX10_mark := Or.inl (q_p7 177 rfl rfl)
set_option maxRecDepth 20000 in
theorem kL_L_198 : q_Lk RL 198 yX9_count := Or.inl (q_p4 215 rfl rfl)
set_option maxRecDepth 20000 in
theorem kL_L_201 : q_Lk RL 201 yX10_count := Or.inl (q_p7 185 rfl rfl)
set_option maxRecDepth 20000 in
theorem kL_X10_1 : Cond.methodLink RX10 1 Lib.objectInit ∈ q_tbl := q_p5 63 rfl rfl
set_option maxRecDepth 20000 in
theorem kL_X10_129 : q_Lk RX10 129 yX10_usual := Or.inl (q_p5 64 rfl rfl)
set_option maxRecDepth 20000 in
theorem kL_X10_133 : q_Lk RX10 133 yX10_fresh0 := Or.inl (q_p5 68 rfl rfl)
set_option maxRecDepth 20000 in
theorem kL_X10_164 : q_Lk RX10 164 yX10_signAt := Or.inl (q_p6 17 rfl rfl)
set_option maxRecDepth 20000 in
theorem kL_X10_186 : q_Lk RX10 186 yX10_fact := Or.inl (q_p6 100 rfl rfl)
set_option maxRecDepth 20000 in
theorem kL_X10_192 : q_Lk RX10 192 yX10_isWord := Or.inl (q_p6 24 rfl rfl)
set_option maxRecDepth 20000 in
theorem kL_X10_196 : q_Lk RX10 196 yX10_isSign := Or.inl (q_p6 76 rfl rfl)
set_option maxRecDepth 20000 in
theorem kL_X10_200 : q_Lk RX10 200 yX10_fails := Or.inl (q_p6 32 rfl rfl)
set_option maxRecDepth 20000 in
theorem kL_X10_203 : q_Lk RX10 203 yX10_puts := Or.inl (q_p6 108 rfl rfl)
set_option maxRecDepth 20000 in
theorem kL_X10_206 : q_Lk RX10 206 yX10_nextToken := Or.inl (q_p6 13 rfl rfl)
set_option maxRecDepth 20000 in
theorem kL_X10_213 : q_Lk RX10 213 yX10_sums := Or.inl (q_p6 182 rfl rfl)
set_option maxRecDepth 20000 in
theorem kL_X10_216 : q_Lk RX10 216 yX10_opens := Or.inl (q_p6 178 rfl rfl)
set_option maxRecDepth 20000 in
theorem kL_X10_219 : q_Lk RX10 219 yX10_tests := Or.inl (q_p6 186 rfl rfl)
set_option maxRecDepth 20000 in
theorem kL_X10_252 : q_Lk RX10 252 yX10_within := Or.inl (q_p6 69 rfl rfl)
set_option maxRecDepth 20000 in
theorem kL_X10_259 : q_Lk RX10 259 yX10_needsNumber := Or.inl (q_p6 65 rfl rfl)
set_option maxRecDepth 20000 in
theorem kL_X10_263 : q_Lk RX10 263 yX10_isKept := Or.inl (q_p6 36 rfl rfl)
set_option maxRecDepth 20000 in
theorem kL_X10_267 : q_Lk RX10 267 yX10_matterNamed := Or.inl (q_p6 57 rfl rfl)
set_option maxRecDepth 20000 in
theorem kL_X10_270 : q_Lk RX10 270 yX10_needsBoth := Or.inl (q_p6 61 rfl rfl)
set_option maxRecDepth 20000 in
theorem kL_X10_274 : q_Lk RX10 274 yX10_closes := Or.inl (q_p6 72 rfl rfl)
set_option maxRecDepth 20000 in
theorem kL_X10_277 : q_Lk RX10 277 yX10_needsMatter := Or.inl (q_p6 84 rfl rfl)
set_option maxRecDepth 20000 in
theorem kL_X10_283 : q_Lk RX10 283 yX10_reads := Or.inl (q_p6 96 rfl rfl)
set_option maxRecDepth 20000 in
theorem kL_X10_286 : q_Lk RX10 286 yX10_begins := Or.inl (q_p6 9 rfl rfl)
set_option maxRecDepth 20000 in
theorem kL_X10_289 : q_Lk RX10 289 yX10_readsMatter := Or.inl (q_p6 28 rfl rfl)
set_option maxRecDepth 20000 in
theorem kL_X10_292 : q_Lk RX10 292 yX10_readsLed := Or.inl (q_p6 80 rfl rfl)
set_option maxRecDepth 20000 in
theorem kL_X10_295 : q_Lk RX10 295 yX10_readsOne := Or.inl (q_p6 88 rfl rfl)
set_option maxRecDepth 20000 in
theorem kL_X10_298 : q_Lk RX10 298 yX10_readsTakes := Or.inl (q_p6 92 rfl rfl)
set_option maxRecDepth 20000 in
theorem kL_X10_301 : q_Lk RX10 301 yX10_shifts := Or.inl (q_p6 116 rfl rfl)
set_option maxRecDepth 20000 in
theorem kL_X10_305 : q_Lk RX10 305 yX10_readsAll := Or.inl (q_p6 5 rfl rfl)
set_option maxRecDepth 20000 in
theorem kL_X10_308 : q_Lk RX10 308 yX10_lays := Or.inl (q_p6 112 rfl rfl)
set_option maxRecDepth 20000 in
theorem kL_X10_311 : q_Lk RX10 311 yX10_laysCauses := Or.inl (q_p6 119 rfl rfl)
set_option maxRecDepth 20000 in
theorem kL_X10_317 : q_Lk RX10 317 yX10_readsLine := Or.inl (q_p6 127 rfl rfl)
set_option maxRecDepth 20000 in
theorem kL_X10_320 : q_Lk RX10 320 yX10_laysLines := Or.inl (q_p6 131 rfl rfl)
set_option maxRecDepth 20000 in
theorem kL_X10_324 : q_Lk RX10 324 yX10_worked := Or.inl (q_p6 174 rfl rfl)
set_option maxRecDepth 20000 in
theorem kL_X10_327 : q_Lk RX10 327 yX10_between := Or.inl (q_p6 190 rfl rfl)
set_option maxRecDepth 20000 in
theorem kL_X10_331 : q_Lk RX10 331 yX10_priceOf := Or.inl (q_p6 155 rfl rfl)
set_option maxRecDepth 20000 in
theorem kL_X10_334 : q_Lk RX10 334 yX10_takenBy := Or.inl (q_p6 170 rfl rfl)
set_option maxRecDepth 20000 in
theorem kL_X10_337 : Cond.methodLink RX10 337 Lib.Math.max.name ∈ q_tbl := q_p6 193 rfl rfl
set_option maxRecDepth 20000 in
theorem kL_X10_343 : Cond.methodLink RX10 343 Lib.Math.min.name ∈ q_tbl := q_p6 210 rfl rfl
set_option maxRecDepth 20000 in
theorem kL_X10_346 : q_Lk RX10 346 yX10_isMatter := Or.inl (q_p6 139 rfl rfl)
set_option maxRecDepth 20000 in
theorem kL_X10_349 : q_Lk RX10 349 yX10_meantNow := Or.inl (q_p6 143 rfl rfl)
set_option maxRecDepth 20000 in
theorem kL_X10_352 : q_Lk RX10 352 yX10_rightBy := Or.inl (q_p6 147 rfl rfl)
set_option maxRecDepth 20000 in
theorem kL_X10_355 : q_Lk RX10 355 yX10_copies := Or.inl (q_p6 163 rfl rfl)
set_option maxRecDepth 20000 in
theorem kL_X10_359 : q_Lk RX10 359 yX10_keeps := Or.inl (q_p6 159 rfl rfl)
set_option maxRecDepth 20000 in
theorem kL_X10_362 : q_Lk RX10 362 yX10_coats := Or.inl (q_p6 166 rfl rfl)
set_option maxRecDepth 20000 in
theorem kL_X10_365 : q_Lk RX10 365 yX10_eaten := Or.inl (q_p6 198 rfl rfl)
set_option maxRecDepth 20000 in
theorem kL_X10_368 : q_Lk RX10 368 yX10_passes := Or.inl (q_p6 206 rfl rfl)
set_option maxRecDepth 20000 in
theorem kL_X10_371 : q_Lk RX10 371 yX10_bits := Or.inl (q_p6 211 rfl rfl)
set_option maxRecDepth 20000 in
theorem kL_X10_374 : q_Lk RX10 374 yX10_isDone := Or.inl (q_p6 222 rfl rfl)
set_option maxRecDepth 20000 in
theorem kL_X10_377 : q_Lk RX10 377 yX10_every := Or.inl (q_p6 226 rfl rfl)
set_option maxRecDepth 20000 in
theorem kL_X10_380 : q_Lk RX10 380 yX10_wantsOf := Or.inl (q_p7 2 rfl rfl)
set_option maxRecDepth 20000 in
theorem kL_X10_384 : q_Lk RX10 384 yX10_costOf := Or.inl (q_p7 10 rfl rfl)
set_option maxRecDepth 20000 in
theorem kL_X10_387 : q_Lk RX10 387 yX10_cheapBy := Or.inl (q_p7 19 rfl rfl)
set_option maxRecDepth 20000 in
theorem kL_X10_390 : q_Lk RX10 390 yX10_laysCosts := Or.inl (q_p7 31 rfl rfl)
set_option maxRecDepth 20000 in
theorem kL_X10_393 : q_Lk RX10 393 yX10_costsOf := Or.inl (q_p7 35 rfl rfl)
set_option maxRecDepth 20000 in
theorem kL_X10_396 : q_Lk RX10 396 yX10_rightAll := Or.inl (q_p7 43 rfl rfl)
set_option maxRecDepth 20000 in
theorem kL_X10_399 : q_Lk RX10 399 yX10_comes := Or.inl (q_p7 67 rfl rfl)
set_option maxRecDepth 20000 in
theorem kL_X10_403 : q_Lk RX10 403 yX10_byYears := Or.inl (q_p7 95 rfl rfl)
set_option maxRecDepth 20000 in
theorem kL_X10_406 : q_Lk RX10 406 yX10_sourBy := Or.inl (q_p7 135 rfl rfl)
set_option maxRecDepth 20000 in
theorem kL_X10_409 : q_Lk RX10 409 yX10_laysSours := Or.inl (q_p7 131 rfl rfl)
set_option maxRecDepth 20000 in
theorem kL_X10_412 : q_Lk RX10 412 yX10_isAsSeen := Or.inl (q_p7 139 rfl rfl)
set_option maxRecDepth 20000 in
theorem kL_X10_415 : q_Lk RX10 415 yX10_who := Or.inl (q_p7 147 rfl rfl)
set_option maxRecDepth 20000 in
theorem kL_X10_422 : q_Lk RX10 422 yX10_getsBy := Or.inl (q_p7 158 rfl rfl)
set_option maxRecDepth 20000 in
theorem kL_X10_437 : q_Lk RX10 437 yX10_draws := Or.inl (q_p7 169 rfl rfl)
set_option maxRecDepth 20000 in
theorem kL_X10_440 : q_Lk RX10 440 yX10_livesYear := Or.inl (q_p7 165 rfl rfl)
set_option maxRecDepth 20000 in
theorem kL_X10_443 : q_Lk RX10 443 yX10_laysSeen := Or.inl (q_p7 181 rfl rfl)
set_option maxRecDepth 20000 in
theorem kL_X10_446 : q_Lk RX10 446 yX10_allOf := Or.inl (q_p7 189 rfl rfl)
set_option maxRecDepth 20000 in
theorem kS_max : Cond.static Lib.Math.max.name ∈ q_tbl := q_p3 162 rfl rfl
set_option maxRecDepth 20000 in
theorem kD_max : Cond.code Lib.Math.max.name Lib.Math.max.code 2 (some .int) ∈ q_tbl := q_p3 163 rfl rfl
set_option maxRecDepth 20000 in
theorem kS_min : Cond.static Lib.Math.min.name ∈ q_tbl := q_p3 135 rfl rfl
set_option maxRecDepth 20000 in
theorem kD_min : Cond.code Lib.Math.min.name Lib.Math.min.code 2 (some .int) ∈ q_tbl := q_p3 136 rfl rfl
set_option maxRecDepth 20000 in
theorem kZ_math : Cond.initialized "java/lang/Math" ∈ q_tbl := q_p1 16 rfl rfl
set_option maxRecDepth 20000 in
theorem kI_obj : Cond.instanceMethod Lib.objectInit ∈ q_tbl := q_p1 28 rfl rfl
set_option maxRecDepth 20000 in
theorem kD_obj : Cond.code Lib.objectInit ⟨#[0xb1]⟩ 1 none ∈ q_tbl := q_p1 29 rfl rfl
set_option maxRecDepth 20000 in
theorem kK_X9_324 : Cond.constantLong RX9 324 (1103515245) ∈ q_tbl := q_p4 193 rfl rfl
set_option maxRecDepth 20000 in
theorem kK_X9_326 : Cond.constantLong RX9 326 (12345) ∈ q_tbl := q_p4 194 rfl rfl
set_option maxRecDepth 20000 in
theorem kK_X9_328 : Cond.constantLong RX9 328 (2147483648) ∈ q_tbl := q_p4 195 rfl rfl
set_option maxRecDepth 20000 in
theorem kK_X9_330 : Cond.constantLong RX9 330 (65536) ∈ q_tbl := q_p4 199 rfl rfl
set_option maxRecDepth 20000 in
theorem kK_X6_81 : Cond.constantLong RX6 81 (32) ∈ q_tbl := q_p2 135 rfl rfl
set_option maxRecDepth 20000 in
theorem kK_L_19 : Cond.constantLong RL 19 (4294967295) ∈ q_tbl := q_p7 193 rfl rfl
set_option maxRecDepth 20000 in
theorem kK_X10_140 : Cond.constantLong RX10 140 (255) ∈ q_tbl := q_p6 0 rfl rfl
set_option maxRecDepth 20000 in
theorem kK_X10_168 : Cond.constantLong RX10 168 (27) ∈ q_tbl := q_p6 21 rfl rfl
set_option maxRecDepth 20000 in
theorem kK_X10_170 : Cond.constantLong RX10 170 (96) ∈ q_tbl := q_p6 22 rfl rfl
set_option maxRecDepth 20000 in
theorem kK_X10_178 : Cond.constantLong RX10 178 (240023) ∈ q_tbl := q_p6 104 rfl rfl
set_option maxRecDepth 20000 in
theorem kK_X10_180 : Cond.constantLong RX10 180 (1890856) ∈ q_tbl := q_p6 105 rfl rfl
set_option maxRecDepth 20000 in
theorem kK_X10_182 : Cond.constantLong RX10 182 (923) ∈ q_tbl := q_p6 106 rfl rfl
set_option maxRecDepth 20000 in
theorem kK_X10_184 : Cond.constantLong RX10 184 (10792937) ∈ q_tbl := q_p6 107 rfl rfl
set_option maxRecDepth 20000 in
theorem kK_X10_190 : Cond.constantLong RX10 190 (10631) ∈ q_tbl := q_p6 54 rfl rfl
set_option maxRecDepth 20000 in
theorem kK_X10_209 : Cond.constantLong RX10 209 (1111) ∈ q_tbl := q_p6 55 rfl rfl
set_option maxRecDepth 20000 in
theorem kK_X10_211 : Cond.constantLong RX10 211 (423) ∈ q_tbl := q_p6 56 rfl rfl
set_option maxRecDepth 20000 in
theorem kK_X10_222 : Cond.constantLong RX10 222 (187475625) ∈ q_tbl := q_p6 23 rfl rfl
set_option maxRecDepth 20000 in
theorem kK_X10_224 : Cond.constantLong RX10 224 (257) ∈ q_tbl := q_p6 40 rfl rfl
set_option maxRecDepth 20000 in
theorem kK_X10_226 : Cond.constantLong RX10 226 (385497) ∈ q_tbl := q_p6 41 rfl rfl
set_option maxRecDepth 20000 in
theorem kK_X10_228 : Cond.constantLong RX10 228 (8887) ∈ q_tbl := q_p6 42 rfl rfl
set_option maxRecDepth 20000 in
theorem kK_X10_230 : Cond.constantLong RX10 230 (6128141) ∈ q_tbl := q_p6 43 rfl rfl
set_option maxRecDepth 20000 in
theorem kK_X10_232 : Cond.constantLong RX10 232 (12089) ∈ q_tbl := q_p6 44 rfl rfl
set_option maxRecDepth 20000 in
theorem kK_X10_234 : Cond.constantLong RX10 234 (22726) ∈ q_tbl := q_p6 45 rfl rfl
set_option maxRecDepth 20000 in
theorem kK_X10_236 : Cond.constantLong RX10 236 (10656676) ∈ q_tbl := q_p6 46 rfl rfl
set_option maxRecDepth 20000 in
theorem kK_X10_238 : Cond.constantLong RX10 238 (281490259) ∈ q_tbl := q_p6 47 rfl rfl
set_option maxRecDepth 20000 in
theorem kK_X10_240 : Cond.constantLong RX10 240 (3692) ∈ q_tbl := q_p6 48 rfl rfl
set_option maxRecDepth 20000 in
theorem kK_X10_242 : Cond.constantLong RX10 242 (495765) ∈ q_tbl := q_p6 49 rfl rfl
set_option maxRecDepth 20000 in
theorem kK_X10_244 : Cond.constantLong RX10 244 (8740238) ∈ q_tbl := q_p6 50 rfl rfl
set_option maxRecDepth 20000 in
theorem kK_X10_246 : Cond.constantLong RX10 246 (29637824) ∈ q_tbl := q_p6 51 rfl rfl
set_option maxRecDepth 20000 in
theorem kK_X10_248 : Cond.constantLong RX10 248 (8984627224) ∈ q_tbl := q_p6 52 rfl rfl
set_option maxRecDepth 20000 in
theorem kK_X10_250 : Cond.constantLong RX10 250 (335098125) ∈ q_tbl := q_p6 53 rfl rfl
set_option maxRecDepth 20000 in
theorem kK_X10_383 : Cond.constant RX10 383 (1000000) ∈ q_tbl := q_p7 14 rfl rfl
set_option maxRecDepth 20000 in
theorem kK_X10_418 : Cond.constantLong RX10 418 (10) ∈ q_tbl := q_p7 152 rfl rfl
set_option maxRecDepth 20000 in
theorem kK_X10_420 : Cond.constantLong RX10 420 (1000000) ∈ q_tbl := q_p7 153 rfl rfl
set_option maxRecDepth 20000 in
theorem kK_X10_429 : Cond.constantLong RX10 429 (1103515245) ∈ q_tbl := q_p7 173 rfl rfl
set_option maxRecDepth 20000 in
theorem kK_X10_431 : Cond.constantLong RX10 431 (12345) ∈ q_tbl := q_p7 174 rfl rfl
set_option maxRecDepth 20000 in
theorem kK_X10_433 : Cond.constantLong RX10 433 (2147483648) ∈ q_tbl := q_p7 175 rfl rfl
set_option maxRecDepth 20000 in
theorem kK_X10_435 : Cond.constantLong RX10 435 (65536) ∈ q_tbl := q_p7 176 rfl rfl
set_option maxRecDepth 20000 in
theorem kK_J6_265 : Cond.constant RJ6 265 (1431655765) ∈ q_tbl := q_p3 195 rfl rfl
set_option maxRecDepth 20000 in
theorem kK_J6_266 : Cond.constant RJ6 266 (858993459) ∈ q_tbl := q_p3 196 rfl rfl
set_option maxRecDepth 20000 in
theorem kK_J6_267 : Cond.constant RJ6 267 (252645135) ∈ q_tbl := q_p3 197 rfl rfl
set_option maxRecDepth 20000 in
theorem kN_X9_7 : Cond.classLink RX9 7 RX6 ∈ q_tbl := q_p1 30 rfl rfl
set_option maxRecDepth 20000 in
theorem kN_X9_16 : Cond.classLink RX9 16 RX4 ∈ q_tbl := q_p1 71 rfl rfl
set_option maxRecDepth 20000 in
theorem kN_X9_25 : Cond.classLink RX9 25 RX5 ∈ q_tbl := q_p1 81 rfl rfl
set_option maxRecDepth 20000 in
theorem kN_X9_35 : Cond.classLink RX9 35 RX8 ∈ q_tbl := q_p1 162 rfl rfl
set_option maxRecDepth 20000 in
theorem kN_X9_45 : Cond.classLink RX9 45 RX0 ∈ q_tbl := q_p1 185 rfl rfl
set_option maxRecDepth 20000 in
theorem kN_X9_52 : Cond.classLink RX9 52 RX2 ∈ q_tbl := q_p1 205 rfl rfl
set_option maxRecDepth 20000 in
theorem kN_X9_62 : Cond.classLink RX9 62 RX7 ∈ q_tbl := q_p1 225 rfl rfl
set_option maxRecDepth 20000 in
theorem kN_X9_69 : Cond.classLink RX9 69 RX3 ∈ q_tbl := q_p2 9 rfl rfl
set_option maxRecDepth 20000 in
theorem kN_X0_9 : Cond.classLink RX0 9 RX8 ∈ q_tbl := q_p1 191 rfl rfl
set_option maxRecDepth 20000 in
theorem kN_X3_7 : Cond.classLink RX3 7 RX8 ∈ q_tbl := q_p2 16 rfl rfl
set_option maxRecDepth 20000 in
theorem kN_X3_16 : Cond.classLink RX3 16 RX2 ∈ q_tbl := q_p2 18 rfl rfl
set_option maxRecDepth 20000 in
theorem kN_X3_23 : Cond.classLink RX3 23 RX7 ∈ q_tbl := q_p2 20 rfl rfl
set_option maxRecDepth 20000 in
theorem kN_X5_28 : Cond.classLink RX5 28 RX1 ∈ q_tbl := q_p1 87 rfl rfl
set_option maxRecDepth 20000 in
theorem kN_L_8 : Cond.classLink RL 8 RX9 ∈ q_tbl := q_p1 22 rfl rfl
set_option maxRecDepth 20000 in
theorem kN_L_16 : Cond.classLink RL 16 RX10 ∈ q_tbl := q_p5 58 rfl rfl
set_option maxRecDepth 20000 in
theorem kT0 : Cond.instantiable RX0 3 ∈ q_tbl := q_p1 186 rfl rfl
set_option maxRecDepth 20000 in
theorem kZ0 : Cond.initialized RX0 ∈ q_tbl := q_p1 7 rfl rfl
set_option maxRecDepth 20000 in
theorem kT1 : Cond.instantiable RX1 4 ∈ q_tbl := q_p1 88 rfl rfl
set_option maxRecDepth 20000 in
theorem kZ1 : Cond.initialized RX1 ∈ q_tbl := q_p1 5 rfl rfl
set_option maxRecDepth 20000 in
theorem kT2 : Cond.instantiable RX2 3 ∈ q_tbl := q_p1 206 rfl rfl
set_option maxRecDepth 20000 in
theorem kZ2 : Cond.initialized RX2 ∈ q_tbl := q_p1 8 rfl rfl
set_option maxRecDepth 20000 in
theorem kT3 : Cond.instantiable RX3 4 ∈ q_tbl := q_p2 11 rfl rfl
set_option maxRecDepth 20000 in
theorem kZ3 : Cond.initialized RX3 ∈ q_tbl := q_p1 10 rfl rfl
set_option maxRecDepth 20000 in
theorem kT4 : Cond.instantiable RX4 1 ∈ q_tbl := q_p1 72 rfl rfl
set_option maxRecDepth 20000 in
theorem kZ4 : Cond.initialized RX4 ∈ q_tbl := q_p1 3 rfl rfl
set_option maxRecDepth 20000 in
theorem kT5 : Cond.instantiable RX5 11 ∈ q_tbl := q_p1 82 rfl rfl
set_option maxRecDepth 20000 in
theorem kZ5 : Cond.initialized RX5 ∈ q_tbl := q_p1 4 rfl rfl
set_option maxRecDepth 20000 in
theorem kT6 : Cond.instantiable RX6 9 ∈ q_tbl := q_p1 31 rfl rfl
set_option maxRecDepth 20000 in
theorem kZ6 : Cond.initialized RX6 ∈ q_tbl := q_p1 2 rfl rfl
set_option maxRecDepth 20000 in
theorem kT7 : Cond.instantiable RX7 4 ∈ q_tbl := q_p1 226 rfl rfl
set_option maxRecDepth 20000 in
theorem kZ7 : Cond.initialized RX7 ∈ q_tbl := q_p1 9 rfl rfl
set_option maxRecDepth 20000 in
theorem kT8 : Cond.instantiable RX8 4 ∈ q_tbl := q_p1 163 rfl rfl
set_option maxRecDepth 20000 in
theorem kZ8 : Cond.initialized RX8 ∈ q_tbl := q_p1 6 rfl rfl
set_option maxRecDepth 20000 in
theorem kT9 : Cond.instantiable RX9 13 ∈ q_tbl := q_p1 23 rfl rfl
set_option maxRecDepth 20000 in
theorem kZ9 : Cond.initialized RX9 ∈ q_tbl := q_p1 1 rfl rfl
set_option maxRecDepth 20000 in
theorem kT10 : Cond.instantiable RX10 53 ∈ q_tbl := q_p5 59 rfl rfl
set_option maxRecDepth 20000 in
theorem kZ10 : Cond.initialized RX10 ∈ q_tbl := q_p1 11 rfl rfl
set_option maxRecDepth 20000 in
theorem kA_char : Cond.arrayClass .char ∈ q_tbl := q_p1 70 rfl rfl
set_option maxRecDepth 20000 in
theorem kA_long : Cond.arrayClass .long ∈ q_tbl := q_p1 106 rfl rfl
set_option maxRecDepth 20000 in
theorem kA_int : Cond.arrayClass .int ∈ q_tbl := q_p1 107 rfl rfl
set_option maxRecDepth 20000 in
theorem kA_boolean : Cond.arrayClass .boolean ∈ q_tbl := q_p2 8 rfl rfl
set_option maxRecDepth 20000 in
theorem kA_byte : Cond.arrayClass .byte ∈ q_tbl := q_p3 67 rfl rfl
