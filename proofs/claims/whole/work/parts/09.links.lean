/-! LINKS by the places of the words -/
set_option maxRecDepth 100000 in
theorem ob_0 : gObj 0 := ⟨rfl, by decide, rfl, gw_l [491, 493, 495, 497, 499] (by decide +kernel) (by decide +kernel), tyX0_ok, nmX0⟩
set_option maxRecDepth 100000 in
theorem ob_1 : gObj 1 := ⟨rfl, by decide, rfl, gw_l [142, 144, 146, 148, 150, 152] (by decide +kernel) (by decide +kernel), tyX1_ok, nmX1⟩
set_option maxRecDepth 100000 in
theorem ob_2 : gObj 2 := ⟨rfl, by decide, rfl, gw_l [207, 209, 211, 213, 215, 217, 219, 221, 223, 225] (by decide +kernel) (by decide +kernel), tyX2_ok, nmX2⟩
set_option maxRecDepth 100000 in
theorem ob_3 : gObj 3 := ⟨rfl, by decide, rfl, gw_l [462, 464, 466, 468, 470, 472, 474, 476] (by decide +kernel) (by decide +kernel), tyX3_ok, nmX3⟩
set_option maxRecDepth 100000 in
theorem ob_4 : gObj 4 := ⟨rfl, by decide, rfl, gw_l [386, 388, 390, 392, 394, 396, 398, 400, 402, 404, 406, 408] (by decide +kernel) (by decide +kernel), tyX4_ok, nmX4⟩
set_option maxRecDepth 100000 in
theorem ob_5 : gObj 5 := ⟨rfl, by decide, rfl, gw_l [165, 167, 169, 171, 173, 175, 177] (by decide +kernel) (by decide +kernel), tyX5_ok, nmX5⟩
set_option maxRecDepth 100000 in
theorem ob_6 : gObj 6 := ⟨rfl, by decide, rfl, gw_l [105, 107, 109, 111, 113, 115, 117, 119] (by decide +kernel) (by decide +kernel), tyX6_ok, nmX6⟩
set_option maxRecDepth 100000 in
theorem ob_7 : gObj 7 := ⟨rfl, by decide, rfl, gw_l [293, 295, 297, 299, 301, 303, 305, 307, 309, 311, 313, 315, 317, 319, 321, 323, 325, 327, 329] (by decide +kernel) (by decide +kernel), tyX7_ok, nmX7⟩
set_option maxRecDepth 100000 in
theorem ob_8 : gObj 8 := ⟨rfl, by decide, rfl, gw_l [429, 431, 433, 435, 437, 439, 441, 443] (by decide +kernel) (by decide +kernel), tyX8_ok, nmX8⟩
set_option maxRecDepth 100000 in
theorem ob_9 : gObj 9 := ⟨rfl, by decide, rfl, gw_l [514, 516, 518, 520, 522, 524, 526, 528, 530, 532, 534, 536] (by decide +kernel) (by decide +kernel), tyX9_ok, nmX9⟩
set_option maxRecDepth 100000 in
theorem ob_10 : gObj 10 := ⟨rfl, by decide, rfl, gw_l [1277, 1279, 1281, 1283, 1285, 1287, 1289, 1291, 1293, 1295, 1297, 1299, 1301, 1303, 1305, 1307, 1309, 1311, 1313, 1315, 1317, 1319, 1321, 1323, 1325, 1327, 1329, 1331, 1333, 1335, 1337, 1339, 1341, 1343, 1345, 1347, 1349, 1351, 1353, 1355, 1357, 1359, 1361, 1363, 1365, 1367, 1369, 1371, 1373, 1375, 1377, 1379, 1381, 1383, 1385, 1387, 1389, 1391, 1393, 1395, 1397, 1399, 1401] (by decide +kernel) (by decide +kernel), tyX10_ok, nmX10⟩
theorem fl_6_9 : gFL RX6 9 6 0   := ⟨ob_6, by decide +kernel, gw_t 90 (by decide +kernel) (by decide +kernel)⟩
theorem fl_6_15 : gFL RX6 15 6 1   := ⟨ob_6, by decide +kernel, gw_t 91 (by decide +kernel) (by decide +kernel)⟩
theorem fl_6_35 : gFL RX6 35 6 2   := ⟨ob_6, by decide +kernel, gw_t 92 (by decide +kernel) (by decide +kernel)⟩
theorem fi_6_35 : gFI RX6 35 6 2 .int := ⟨fl_6_35, fun _ _ => rfl, rfl, rfl, rfl⟩
theorem fl_9_81 : gFL RX9 81 6 2   := ⟨ob_6, by decide +kernel, gw_t 93 (by decide +kernel) (by decide +kernel)⟩
theorem fi_9_81 : gFI RX9 81 6 2 .int := ⟨fl_9_81, fun _ _ => rfl, rfl, rfl, rfl⟩
theorem fl_1_39 : gFL RX1 39 6 3   := ⟨ob_6, by decide +kernel, gw_t 94 (by decide +kernel) (by decide +kernel)⟩
theorem fi_1_39 : gFI RX1 39 6 3 .int := ⟨fl_1_39, fun _ _ => rfl, rfl, rfl, rfl⟩
theorem fl_6_44 : gFL RX6 44 6 3   := ⟨ob_6, by decide +kernel, gw_t 95 (by decide +kernel) (by decide +kernel)⟩
theorem fi_6_44 : gFI RX6 44 6 3 .int := ⟨fl_6_44, fun _ _ => rfl, rfl, rfl, rfl⟩
theorem fl_6_46 : gFL RX6 46 6 4   := ⟨ob_6, by decide +kernel, gw_t 96 (by decide +kernel) (by decide +kernel)⟩
theorem fi_6_46 : gFI RX6 46 6 4 .int := ⟨fl_6_46, fun _ _ => rfl, rfl, rfl, rfl⟩
theorem fl_1_44 : gFL RX1 44 6 5   := ⟨ob_6, by decide +kernel, gw_t 97 (by decide +kernel) (by decide +kernel)⟩
theorem fi_1_44 : gFI RX1 44 6 5 .int := ⟨fl_1_44, fun _ _ => rfl, rfl, rfl, rfl⟩
theorem fl_5_48 : gFL RX5 48 6 5   := ⟨ob_6, by decide +kernel, gw_t 98 (by decide +kernel) (by decide +kernel)⟩
theorem fi_5_48 : gFI RX5 48 6 5 .int := ⟨fl_5_48, fun _ _ => rfl, rfl, rfl, rfl⟩
theorem fl_6_58 : gFL RX6 58 6 5   := ⟨ob_6, by decide +kernel, gw_t 99 (by decide +kernel) (by decide +kernel)⟩
theorem fi_6_58 : gFI RX6 58 6 5 .int := ⟨fl_6_58, fun _ _ => rfl, rfl, rfl, rfl⟩
theorem fl_5_58 : gFL RX5 58 6 6   := ⟨ob_6, by decide +kernel, gw_t 100 (by decide +kernel) (by decide +kernel)⟩
theorem fi_5_58 : gFI RX5 58 6 6 .int := ⟨fl_5_58, fun _ _ => rfl, rfl, rfl, rfl⟩
theorem fl_6_52 : gFL RX6 52 6 6   := ⟨ob_6, by decide +kernel, gw_t 101 (by decide +kernel) (by decide +kernel)⟩
theorem fi_6_52 : gFI RX6 52 6 6 .int := ⟨fl_6_52, fun _ _ => rfl, rfl, rfl, rfl⟩
theorem fl_1_51 : gFL RX1 51 6 7   := ⟨ob_6, by decide +kernel, gw_t 102 (by decide +kernel) (by decide +kernel)⟩
theorem fi_1_51 : gFI RX1 51 6 7 .int := ⟨fl_1_51, fun _ _ => rfl, rfl, rfl, rfl⟩
theorem fl_6_55 : gFL RX6 55 6 7   := ⟨ob_6, by decide +kernel, gw_t 103 (by decide +kernel) (by decide +kernel)⟩
theorem fi_6_55 : gFI RX6 55 6 7 .int := ⟨fl_6_55, fun _ _ => rfl, rfl, rfl, rfl⟩
theorem fl_5_181 : gFL RX5 181 6 7   := ⟨ob_6, by decide +kernel, gw_t 104 (by decide +kernel) (by decide +kernel)⟩
theorem fi_5_181 : gFI RX5 181 6 7 .int := ⟨fl_5_181, fun _ _ => rfl, rfl, rfl, rfl⟩
theorem fl_1_9 : gFL RX1 9 1 0   := ⟨ob_1, by decide +kernel, gw_t 136 (by decide +kernel) (by decide +kernel)⟩
theorem fl_1_19 : gFL RX1 19 1 1   := ⟨ob_1, by decide +kernel, gw_t 137 (by decide +kernel) (by decide +kernel)⟩
theorem fi_1_19 : gFI RX1 19 1 1 .int := ⟨fl_1_19, fun _ _ => rfl, rfl, rfl, rfl⟩
theorem fl_1_15 : gFL RX1 15 1 2   := ⟨ob_1, by decide +kernel, gw_t 138 (by decide +kernel) (by decide +kernel)⟩
theorem fl_1_23 : gFL RX1 23 1 3   := ⟨ob_1, by decide +kernel, gw_t 139 (by decide +kernel) (by decide +kernel)⟩
theorem fi_1_23 : gFI RX1 23 1 3 .int := ⟨fl_1_23, fun _ _ => rfl, rfl, rfl, rfl⟩
theorem fl_1_26 : gFL RX1 26 1 4   := ⟨ob_1, by decide +kernel, gw_t 140 (by decide +kernel) (by decide +kernel)⟩
theorem fi_1_26 : gFI RX1 26 1 4 .boolean := ⟨fl_1_26, fun _ _ => rfl, rfl, rfl, rfl⟩
theorem fl_1_30 : gFL RX1 30 1 5   := ⟨ob_1, by decide +kernel, gw_t 141 (by decide +kernel) (by decide +kernel)⟩
theorem fi_1_30 : gFI RX1 30 1 5 .boolean := ⟨fl_1_30, fun _ _ => rfl, rfl, rfl, rfl⟩
theorem fl_5_29 : gFL RX5 29 5 0   := ⟨ob_5, by decide +kernel, gw_t 156 (by decide +kernel) (by decide +kernel)⟩
theorem fl_5_12 : gFL RX5 12 5 1   := ⟨ob_5, by decide +kernel, gw_t 157 (by decide +kernel) (by decide +kernel)⟩
theorem fl_5_18 : gFL RX5 18 5 2   := ⟨ob_5, by decide +kernel, gw_t 158 (by decide +kernel) (by decide +kernel)⟩
theorem fl_5_33 : gFL RX5 33 5 3   := ⟨ob_5, by decide +kernel, gw_t 159 (by decide +kernel) (by decide +kernel)⟩
theorem fl_5_108 : gFL RX5 108 5 4   := ⟨ob_5, by decide +kernel, gw_t 160 (by decide +kernel) (by decide +kernel)⟩
theorem fi_5_108 : gFI RX5 108 5 4 .int := ⟨fl_5_108, fun _ _ => rfl, rfl, rfl, rfl⟩
theorem fl_5_22 : gFL RX5 22 5 5   := ⟨ob_5, by decide +kernel, gw_t 161 (by decide +kernel) (by decide +kernel)⟩
theorem fi_5_22 : gFI RX5 22 5 5 .int := ⟨fl_5_22, fun _ _ => rfl, rfl, rfl, rfl⟩
theorem fl_9_99 : gFL RX9 99 5 5   := ⟨ob_5, by decide +kernel, gw_t 162 (by decide +kernel) (by decide +kernel)⟩
theorem fi_9_99 : gFI RX9 99 5 5 .int := ⟨fl_9_99, fun _ _ => rfl, rfl, rfl, rfl⟩
theorem fl_5_26 : gFL RX5 26 5 6   := ⟨ob_5, by decide +kernel, gw_t 163 (by decide +kernel) (by decide +kernel)⟩
theorem fi_5_26 : gFI RX5 26 5 6 .int := ⟨fl_5_26, fun _ _ => rfl, rfl, rfl, rfl⟩
theorem fl_9_102 : gFL RX9 102 5 6   := ⟨ob_5, by decide +kernel, gw_t 164 (by decide +kernel) (by decide +kernel)⟩
theorem fi_9_102 : gFI RX9 102 5 6 .int := ⟨fl_9_102, fun _ _ => rfl, rfl, rfl, rfl⟩
theorem fl_2_9 : gFL RX2 9 2 0   := ⟨ob_2, by decide +kernel, gw_t 192 (by decide +kernel) (by decide +kernel)⟩
theorem fl_2_15 : gFL RX2 15 2 1   := ⟨ob_2, by decide +kernel, gw_t 193 (by decide +kernel) (by decide +kernel)⟩
theorem fl_2_18 : gFL RX2 18 2 2   := ⟨ob_2, by decide +kernel, gw_t 194 (by decide +kernel) (by decide +kernel)⟩
theorem fl_2_21 : gFL RX2 21 2 3   := ⟨ob_2, by decide +kernel, gw_t 195 (by decide +kernel) (by decide +kernel)⟩
theorem fl_2_24 : gFL RX2 24 2 4   := ⟨ob_2, by decide +kernel, gw_t 196 (by decide +kernel) (by decide +kernel)⟩
theorem fl_2_28 : gFL RX2 28 2 5   := ⟨ob_2, by decide +kernel, gw_t 197 (by decide +kernel) (by decide +kernel)⟩
theorem fl_8_190 : gFL RX8 190 2 5   := ⟨ob_2, by decide +kernel, gw_t 198 (by decide +kernel) (by decide +kernel)⟩
theorem fl_2_31 : gFL RX2 31 2 6   := ⟨ob_2, by decide +kernel, gw_t 199 (by decide +kernel) (by decide +kernel)⟩
theorem fi_2_31 : gFI RX2 31 2 6 .int := ⟨fl_2_31, fun _ _ => rfl, rfl, rfl, rfl⟩
theorem fl_2_35 : gFL RX2 35 2 7   := ⟨ob_2, by decide +kernel, gw_t 200 (by decide +kernel) (by decide +kernel)⟩
theorem fi_2_35 : gFI RX2 35 2 7 .int := ⟨fl_2_35, fun _ _ => rfl, rfl, rfl, rfl⟩
theorem fl_1_54 : gFL RX1 54 2 7   := ⟨ob_2, by decide +kernel, gw_t 201 (by decide +kernel) (by decide +kernel)⟩
theorem fi_1_54 : gFI RX1 54 2 7 .int := ⟨fl_1_54, fun _ _ => rfl, rfl, rfl, rfl⟩
theorem fl_9_341 : gFL RX9 341 2 7   := ⟨ob_2, by decide +kernel, gw_t 202 (by decide +kernel) (by decide +kernel)⟩
theorem fi_9_341 : gFI RX9 341 2 7 .int := ⟨fl_9_341, fun _ _ => rfl, rfl, rfl, rfl⟩
theorem fl_2_38 : gFL RX2 38 2 8   := ⟨ob_2, by decide +kernel, gw_t 203 (by decide +kernel) (by decide +kernel)⟩
theorem fi_2_38 : gFI RX2 38 2 8 .boolean := ⟨fl_2_38, fun _ _ => rfl, rfl, rfl, rfl⟩
theorem fl_2_62 : gFL RX2 62 2 9   := ⟨ob_2, by decide +kernel, gw_t 204 (by decide +kernel) (by decide +kernel)⟩
theorem fi_2_62 : gFJ RX2 62 2 9 := ⟨fl_2_62, fun _ _ => rfl, rfl, rfl, rfl⟩
theorem fl_9_222 : gFL RX9 222 2 9   := ⟨ob_2, by decide +kernel, gw_t 205 (by decide +kernel) (by decide +kernel)⟩
theorem fi_9_222 : gFJ RX9 222 2 9 := ⟨fl_9_222, fun _ _ => rfl, rfl, rfl, rfl⟩
theorem fl_8_178 : gFL RX8 178 2 9   := ⟨ob_2, by decide +kernel, gw_t 206 (by decide +kernel) (by decide +kernel)⟩
theorem fi_8_178 : gFJ RX8 178 2 9 := ⟨fl_8_178, fun _ _ => rfl, rfl, rfl, rfl⟩
theorem fl_7_53 : gFL RX7 53 7 0   := ⟨ob_7, by decide +kernel, gw_t 229 (by decide +kernel) (by decide +kernel)⟩
theorem fi_7_53 : gFI RX7 53 7 0 .int := ⟨fl_7_53, fun _ _ => rfl, rfl, rfl, rfl⟩
theorem fl_9_108 : gFL RX9 108 7 0   := ⟨ob_7, by decide +kernel, gw_t 230 (by decide +kernel) (by decide +kernel)⟩
theorem fi_9_108 : gFI RX9 108 7 0 .int := ⟨fl_9_108, fun _ _ => rfl, rfl, rfl, rfl⟩
theorem fl_5_90 : gFL RX5 90 7 0   := ⟨ob_7, by decide +kernel, gw_t 231 (by decide +kernel) (by decide +kernel)⟩
theorem fi_5_90 : gFI RX5 90 7 0 .int := ⟨fl_5_90, fun _ _ => rfl, rfl, rfl, rfl⟩
theorem fl_8_68 : gFL RX8 68 7 0   := ⟨ob_7, by decide +kernel, gw_t 232 (by decide +kernel) (by decide +kernel)⟩
theorem fi_8_68 : gFI RX8 68 7 0 .int := ⟨fl_8_68, fun _ _ => rfl, rfl, rfl, rfl⟩
theorem fl_7_9 : gFL RX7 9 7 1   := ⟨ob_7, by decide +kernel, gw_t 233 (by decide +kernel) (by decide +kernel)⟩
theorem fl_9_105 : gFL RX9 105 7 1   := ⟨ob_7, by decide +kernel, gw_t 234 (by decide +kernel) (by decide +kernel)⟩
theorem fl_5_93 : gFL RX5 93 7 1   := ⟨ob_7, by decide +kernel, gw_t 235 (by decide +kernel) (by decide +kernel)⟩
theorem fl_7_15 : gFL RX7 15 7 2   := ⟨ob_7, by decide +kernel, gw_t 236 (by decide +kernel) (by decide +kernel)⟩
theorem fl_4_15 : gFL RX4 15 7 2   := ⟨ob_7, by decide +kernel, gw_t 237 (by decide +kernel) (by decide +kernel)⟩
theorem fl_5_105 : gFL RX5 105 7 2   := ⟨ob_7, by decide +kernel, gw_t 238 (by decide +kernel) (by decide +kernel)⟩
theorem fl_7_18 : gFL RX7 18 7 3   := ⟨ob_7, by decide +kernel, gw_t 239 (by decide +kernel) (by decide +kernel)⟩
theorem fl_4_23 : gFL RX4 23 7 3   := ⟨ob_7, by decide +kernel, gw_t 240 (by decide +kernel) (by decide +kernel)⟩
theorem fl_5_111 : gFL RX5 111 7 3   := ⟨ob_7, by decide +kernel, gw_t 241 (by decide +kernel) (by decide +kernel)⟩
theorem fl_7_21 : gFL RX7 21 7 4   := ⟨ob_7, by decide +kernel, gw_t 242 (by decide +kernel) (by decide +kernel)⟩
theorem fl_9_144 : gFL RX9 144 7 4   := ⟨ob_7, by decide +kernel, gw_t 243 (by decide +kernel) (by decide +kernel)⟩
theorem fl_5_114 : gFL RX5 114 7 4   := ⟨ob_7, by decide +kernel, gw_t 244 (by decide +kernel) (by decide +kernel)⟩
theorem fl_8_110 : gFL RX8 110 7 4   := ⟨ob_7, by decide +kernel, gw_t 245 (by decide +kernel) (by decide +kernel)⟩
theorem fl_7_56 : gFL RX7 56 7 5   := ⟨ob_7, by decide +kernel, gw_t 246 (by decide +kernel) (by decide +kernel)⟩
theorem fi_7_56 : gFI RX7 56 7 5 .int := ⟨fl_7_56, fun _ _ => rfl, rfl, rfl, rfl⟩
theorem fl_9_118 : gFL RX9 118 7 5   := ⟨ob_7, by decide +kernel, gw_t 247 (by decide +kernel) (by decide +kernel)⟩
theorem fi_9_118 : gFI RX9 118 7 5 .int := ⟨fl_9_118, fun _ _ => rfl, rfl, rfl, rfl⟩
theorem fl_5_117 : gFL RX5 117 7 5   := ⟨ob_7, by decide +kernel, gw_t 248 (by decide +kernel) (by decide +kernel)⟩
theorem fi_5_117 : gFI RX5 117 7 5 .int := ⟨fl_5_117, fun _ _ => rfl, rfl, rfl, rfl⟩
theorem fl_7_24 : gFL RX7 24 7 6   := ⟨ob_7, by decide +kernel, gw_t 249 (by decide +kernel) (by decide +kernel)⟩
theorem fl_9_115 : gFL RX9 115 7 6   := ⟨ob_7, by decide +kernel, gw_t 250 (by decide +kernel) (by decide +kernel)⟩
theorem fl_5_120 : gFL RX5 120 7 6   := ⟨ob_7, by decide +kernel, gw_t 251 (by decide +kernel) (by decide +kernel)⟩
theorem fl_7_27 : gFL RX7 27 7 7   := ⟨ob_7, by decide +kernel, gw_t 252 (by decide +kernel) (by decide +kernel)⟩
theorem fl_8_85 : gFL RX8 85 7 7   := ⟨ob_7, by decide +kernel, gw_t 253 (by decide +kernel) (by decide +kernel)⟩
theorem fl_5_123 : gFL RX5 123 7 7   := ⟨ob_7, by decide +kernel, gw_t 254 (by decide +kernel) (by decide +kernel)⟩
theorem fl_9_182 : gFL RX9 182 7 7   := ⟨ob_7, by decide +kernel, gw_t 255 (by decide +kernel) (by decide +kernel)⟩
theorem fl_7_30 : gFL RX7 30 7 8   := ⟨ob_7, by decide +kernel, gw_t 256 (by decide +kernel) (by decide +kernel)⟩
theorem fl_4_63 : gFL RX4 63 7 8   := ⟨ob_7, by decide +kernel, gw_t 257 (by decide +kernel) (by decide +kernel)⟩
theorem fl_5_126 : gFL RX5 126 7 8   := ⟨ob_7, by decide +kernel, gw_t 258 (by decide +kernel) (by decide +kernel)⟩
theorem fl_9_185 : gFL RX9 185 7 8   := ⟨ob_7, by decide +kernel, gw_t 259 (by decide +kernel) (by decide +kernel)⟩
theorem fl_7_33 : gFL RX7 33 7 9   := ⟨ob_7, by decide +kernel, gw_t 260 (by decide +kernel) (by decide +kernel)⟩
theorem fl_5_129 : gFL RX5 129 7 9   := ⟨ob_7, by decide +kernel, gw_t 261 (by decide +kernel) (by decide +kernel)⟩
theorem fl_9_188 : gFL RX9 188 7 9   := ⟨ob_7, by decide +kernel, gw_t 262 (by decide +kernel) (by decide +kernel)⟩
theorem fl_7_59 : gFL RX7 59 7 10   := ⟨ob_7, by decide +kernel, gw_t 263 (by decide +kernel) (by decide +kernel)⟩
theorem fi_7_59 : gFI RX7 59 7 10 .int := ⟨fl_7_59, fun _ _ => rfl, rfl, rfl, rfl⟩
theorem fl_5_132 : gFL RX5 132 7 10   := ⟨ob_7, by decide +kernel, gw_t 264 (by decide +kernel) (by decide +kernel)⟩
theorem fi_5_132 : gFI RX5 132 7 10 .int := ⟨fl_5_132, fun _ _ => rfl, rfl, rfl, rfl⟩
theorem fl_9_338 : gFL RX9 338 7 10   := ⟨ob_7, by decide +kernel, gw_t 265 (by decide +kernel) (by decide +kernel)⟩
theorem fi_9_338 : gFI RX9 338 7 10 .int := ⟨fl_9_338, fun _ _ => rfl, rfl, rfl, rfl⟩
theorem fl_7_36 : gFL RX7 36 7 11   := ⟨ob_7, by decide +kernel, gw_t 266 (by decide +kernel) (by decide +kernel)⟩
theorem fl_4_56 : gFL RX4 56 7 11   := ⟨ob_7, by decide +kernel, gw_t 267 (by decide +kernel) (by decide +kernel)⟩
theorem fl_5_139 : gFL RX5 139 7 11   := ⟨ob_7, by decide +kernel, gw_t 268 (by decide +kernel) (by decide +kernel)⟩
theorem fl_7_39 : gFL RX7 39 7 12   := ⟨ob_7, by decide +kernel, gw_t 269 (by decide +kernel) (by decide +kernel)⟩
theorem fi_7_39 : gFI RX7 39 7 12 .int := ⟨fl_7_39, fun _ _ => rfl, rfl, rfl, rfl⟩
theorem fl_5_145 : gFL RX5 145 7 12   := ⟨ob_7, by decide +kernel, gw_t 270 (by decide +kernel) (by decide +kernel)⟩
theorem fi_5_145 : gFI RX5 145 7 12 .int := ⟨fl_5_145, fun _ _ => rfl, rfl, rfl, rfl⟩
theorem fl_8_162 : gFL RX8 162 7 12   := ⟨ob_7, by decide +kernel, gw_t 271 (by decide +kernel) (by decide +kernel)⟩
theorem fi_8_162 : gFI RX8 162 7 12 .int := ⟨fl_8_162, fun _ _ => rfl, rfl, rfl, rfl⟩
theorem fl_9_360 : gFL RX9 360 7 12   := ⟨ob_7, by decide +kernel, gw_t 272 (by decide +kernel) (by decide +kernel)⟩
theorem fi_9_360 : gFI RX9 360 7 12 .int := ⟨fl_9_360, fun _ _ => rfl, rfl, rfl, rfl⟩
theorem fl_7_43 : gFL RX7 43 7 13   := ⟨ob_7, by decide +kernel, gw_t 273 (by decide +kernel) (by decide +kernel)⟩
theorem fi_7_43 : gFI RX7 43 7 13 .int := ⟨fl_7_43, fun _ _ => rfl, rfl, rfl, rfl⟩
theorem fl_8_75 : gFL RX8 75 7 13   := ⟨ob_7, by decide +kernel, gw_t 274 (by decide +kernel) (by decide +kernel)⟩
theorem fi_8_75 : gFI RX8 75 7 13 .int := ⟨fl_8_75, fun _ _ => rfl, rfl, rfl, rfl⟩
theorem fl_5_148 : gFL RX5 148 7 13   := ⟨ob_7, by decide +kernel, gw_t 275 (by decide +kernel) (by decide +kernel)⟩
theorem fi_5_148 : gFI RX5 148 7 13 .int := ⟨fl_5_148, fun _ _ => rfl, rfl, rfl, rfl⟩
theorem fl_9_353 : gFL RX9 353 7 13   := ⟨ob_7, by decide +kernel, gw_t 276 (by decide +kernel) (by decide +kernel)⟩
theorem fi_9_353 : gFI RX9 353 7 13 .int := ⟨fl_9_353, fun _ _ => rfl, rfl, rfl, rfl⟩
theorem fl_7_68 : gFL RX7 68 7 14   := ⟨ob_7, by decide +kernel, gw_t 277 (by decide +kernel) (by decide +kernel)⟩
theorem fi_7_68 : gFI RX7 68 7 14 .int := ⟨fl_7_68, fun _ _ => rfl, rfl, rfl, rfl⟩
theorem fl_8_135 : gFL RX8 135 7 14   := ⟨ob_7, by decide +kernel, gw_t 278 (by decide +kernel) (by decide +kernel)⟩
theorem fi_8_135 : gFI RX8 135 7 14 .int := ⟨fl_8_135, fun _ _ => rfl, rfl, rfl, rfl⟩
theorem fl_5_151 : gFL RX5 151 7 14   := ⟨ob_7, by decide +kernel, gw_t 279 (by decide +kernel) (by decide +kernel)⟩
theorem fi_5_151 : gFI RX5 151 7 14 .int := ⟨fl_5_151, fun _ _ => rfl, rfl, rfl, rfl⟩
theorem fl_7_71 : gFL RX7 71 7 15   := ⟨ob_7, by decide +kernel, gw_t 280 (by decide +kernel) (by decide +kernel)⟩
theorem fi_7_71 : gFI RX7 71 7 15 .int := ⟨fl_7_71, fun _ _ => rfl, rfl, rfl, rfl⟩
theorem fl_8_129 : gFL RX8 129 7 15   := ⟨ob_7, by decide +kernel, gw_t 281 (by decide +kernel) (by decide +kernel)⟩
theorem fi_8_129 : gFI RX8 129 7 15 .int := ⟨fl_8_129, fun _ _ => rfl, rfl, rfl, rfl⟩
theorem fl_5_154 : gFL RX5 154 7 15   := ⟨ob_7, by decide +kernel, gw_t 282 (by decide +kernel) (by decide +kernel)⟩
theorem fi_5_154 : gFI RX5 154 7 15 .int := ⟨fl_5_154, fun _ _ => rfl, rfl, rfl, rfl⟩
theorem fl_7_74 : gFL RX7 74 7 16   := ⟨ob_7, by decide +kernel, gw_t 283 (by decide +kernel) (by decide +kernel)⟩
theorem fi_7_74 : gFI RX7 74 7 16 .int := ⟨fl_7_74, fun _ _ => rfl, rfl, rfl, rfl⟩
theorem fl_5_157 : gFL RX5 157 7 16   := ⟨ob_7, by decide +kernel, gw_t 284 (by decide +kernel) (by decide +kernel)⟩
theorem fi_5_157 : gFI RX5 157 7 16 .int := ⟨fl_5_157, fun _ _ => rfl, rfl, rfl, rfl⟩
theorem fl_9_233 : gFL RX9 233 7 16   := ⟨ob_7, by decide +kernel, gw_t 285 (by decide +kernel) (by decide +kernel)⟩
theorem fi_9_233 : gFI RX9 233 7 16 .int := ⟨fl_9_233, fun _ _ => rfl, rfl, rfl, rfl⟩
theorem fl_8_38 : gFL RX8 38 7 17   := ⟨ob_7, by decide +kernel, gw_t 286 (by decide +kernel) (by decide +kernel)⟩
theorem fi_8_38 : gFI RX8 38 7 17 .int := ⟨fl_8_38, fun _ _ => rfl, rfl, rfl, rfl⟩
theorem fl_7_77 : gFL RX7 77 7 17   := ⟨ob_7, by decide +kernel, gw_t 287 (by decide +kernel) (by decide +kernel)⟩
theorem fi_7_77 : gFI RX7 77 7 17 .int := ⟨fl_7_77, fun _ _ => rfl, rfl, rfl, rfl⟩
theorem fl_5_161 : gFL RX5 161 7 17   := ⟨ob_7, by decide +kernel, gw_t 288 (by decide +kernel) (by decide +kernel)⟩
theorem fi_5_161 : gFI RX5 161 7 17 .int := ⟨fl_5_161, fun _ _ => rfl, rfl, rfl, rfl⟩
theorem fl_7_49 : gFL RX7 49 7 18   := ⟨ob_7, by decide +kernel, gw_t 289 (by decide +kernel) (by decide +kernel)⟩
theorem fl_8_106 : gFL RX8 106 7 18   := ⟨ob_7, by decide +kernel, gw_t 290 (by decide +kernel) (by decide +kernel)⟩
theorem fl_9_198 : gFL RX9 198 7 18   := ⟨ob_7, by decide +kernel, gw_t 291 (by decide +kernel) (by decide +kernel)⟩
theorem fl_5_168 : gFL RX5 168 7 18   := ⟨ob_7, by decide +kernel, gw_t 292 (by decide +kernel) (by decide +kernel)⟩
theorem fl_4_20 : gFL RX4 20 4 0   := ⟨ob_4, by decide +kernel, gw_t 345 (by decide +kernel) (by decide +kernel)⟩
theorem fi_4_20 : gFI RX4 20 4 0 .int := ⟨fl_4_20, fun _ _ => rfl, rfl, rfl, rfl⟩
theorem fl_0_43 : gFL RX0 43 4 0   := ⟨ob_4, by decide +kernel, gw_t 346 (by decide +kernel) (by decide +kernel)⟩
theorem fi_0_43 : gFI RX0 43 4 0 .int := ⟨fl_0_43, fun _ _ => rfl, rfl, rfl, rfl⟩
theorem fl_9_136 : gFL RX9 136 4 0   := ⟨ob_4, by decide +kernel, gw_t 347 (by decide +kernel) (by decide +kernel)⟩
theorem fi_9_136 : gFI RX9 136 4 0 .int := ⟨fl_9_136, fun _ _ => rfl, rfl, rfl, rfl⟩
theorem fl_8_100 : gFL RX8 100 4 0   := ⟨ob_4, by decide +kernel, gw_t 348 (by decide +kernel) (by decide +kernel)⟩
theorem fi_8_100 : gFI RX8 100 4 0 .int := ⟨fl_8_100, fun _ _ => rfl, rfl, rfl, rfl⟩
theorem fl_4_26 : gFL RX4 26 4 1   := ⟨ob_4, by decide +kernel, gw_t 349 (by decide +kernel) (by decide +kernel)⟩
theorem fi_4_26 : gFI RX4 26 4 1 .int := ⟨fl_4_26, fun _ _ => rfl, rfl, rfl, rfl⟩
theorem fl_9_141 : gFL RX9 141 4 1   := ⟨ob_4, by decide +kernel, gw_t 350 (by decide +kernel) (by decide +kernel)⟩
theorem fi_9_141 : gFI RX9 141 4 1 .int := ⟨fl_9_141, fun _ _ => rfl, rfl, rfl, rfl⟩
theorem fl_8_82 : gFL RX8 82 4 1   := ⟨ob_4, by decide +kernel, gw_t 351 (by decide +kernel) (by decide +kernel)⟩
theorem fi_8_82 : gFI RX8 82 4 1 .int := ⟨fl_8_82, fun _ _ => rfl, rfl, rfl, rfl⟩
theorem fl_4_28 : gFL RX4 28 4 2   := ⟨ob_4, by decide +kernel, gw_t 352 (by decide +kernel) (by decide +kernel)⟩
theorem fi_4_28 : gFI RX4 28 4 2 .int := ⟨fl_4_28, fun _ _ => rfl, rfl, rfl, rfl⟩
theorem fl_9_147 : gFL RX9 147 4 2   := ⟨ob_4, by decide +kernel, gw_t 353 (by decide +kernel) (by decide +kernel)⟩
theorem fi_9_147 : gFI RX9 147 4 2 .int := ⟨fl_9_147, fun _ _ => rfl, rfl, rfl, rfl⟩
theorem fl_8_117 : gFL RX8 117 4 2   := ⟨ob_4, by decide +kernel, gw_t 354 (by decide +kernel) (by decide +kernel)⟩
theorem fi_8_117 : gFI RX8 117 4 2 .int := ⟨fl_8_117, fun _ _ => rfl, rfl, rfl, rfl⟩
theorem fl_4_31 : gFL RX4 31 4 3   := ⟨ob_4, by decide +kernel, gw_t 355 (by decide +kernel) (by decide +kernel)⟩
theorem fi_4_31 : gFI RX4 31 4 3 .int := ⟨fl_4_31, fun _ _ => rfl, rfl, rfl, rfl⟩
theorem fl_9_150 : gFL RX9 150 4 3   := ⟨ob_4, by decide +kernel, gw_t 356 (by decide +kernel) (by decide +kernel)⟩
theorem fi_9_150 : gFI RX9 150 4 3 .int := ⟨fl_9_150, fun _ _ => rfl, rfl, rfl, rfl⟩
theorem fl_8_120 : gFL RX8 120 4 3   := ⟨ob_4, by decide +kernel, gw_t 357 (by decide +kernel) (by decide +kernel)⟩
theorem fi_8_120 : gFI RX8 120 4 3 .int := ⟨fl_8_120, fun _ _ => rfl, rfl, rfl, rfl⟩
theorem fl_4_34 : gFL RX4 34 4 4   := ⟨ob_4, by decide +kernel, gw_t 358 (by decide +kernel) (by decide +kernel)⟩
theorem fi_4_34 : gFI RX4 34 4 4 .int := ⟨fl_4_34, fun _ _ => rfl, rfl, rfl, rfl⟩
theorem fl_9_153 : gFL RX9 153 4 4   := ⟨ob_4, by decide +kernel, gw_t 359 (by decide +kernel) (by decide +kernel)⟩
theorem fi_9_153 : gFI RX9 153 4 4 .int := ⟨fl_9_153, fun _ _ => rfl, rfl, rfl, rfl⟩
theorem fl_8_136 : gFL RX8 136 4 4   := ⟨ob_4, by decide +kernel, gw_t 360 (by decide +kernel) (by decide +kernel)⟩
theorem fi_8_136 : gFI RX8 136 4 4 .int := ⟨fl_8_136, fun _ _ => rfl, rfl, rfl, rfl⟩
theorem fl_4_37 : gFL RX4 37 4 5   := ⟨ob_4, by decide +kernel, gw_t 361 (by decide +kernel) (by decide +kernel)⟩
theorem fi_4_37 : gFI RX4 37 4 5 .int := ⟨fl_4_37, fun _ _ => rfl, rfl, rfl, rfl⟩
theorem fl_9_156 : gFL RX9 156 4 5   := ⟨ob_4, by decide +kernel, gw_t 362 (by decide +kernel) (by decide +kernel)⟩
theorem fi_9_156 : gFI RX9 156 4 5 .int := ⟨fl_9_156, fun _ _ => rfl, rfl, rfl, rfl⟩
theorem fl_8_123 : gFL RX8 123 4 5   := ⟨ob_4, by decide +kernel, gw_t 363 (by decide +kernel) (by decide +kernel)⟩
theorem fi_8_123 : gFI RX8 123 4 5 .int := ⟨fl_8_123, fun _ _ => rfl, rfl, rfl, rfl⟩
theorem fl_4_40 : gFL RX4 40 4 6   := ⟨ob_4, by decide +kernel, gw_t 364 (by decide +kernel) (by decide +kernel)⟩
theorem fi_4_40 : gFI RX4 40 4 6 .int := ⟨fl_4_40, fun _ _ => rfl, rfl, rfl, rfl⟩
theorem fl_9_159 : gFL RX9 159 4 6   := ⟨ob_4, by decide +kernel, gw_t 365 (by decide +kernel) (by decide +kernel)⟩
theorem fi_9_159 : gFI RX9 159 4 6 .int := ⟨fl_9_159, fun _ _ => rfl, rfl, rfl, rfl⟩
theorem fl_8_126 : gFL RX8 126 4 6   := ⟨ob_4, by decide +kernel, gw_t 366 (by decide +kernel) (by decide +kernel)⟩
theorem fi_8_126 : gFI RX8 126 4 6 .int := ⟨fl_8_126, fun _ _ => rfl, rfl, rfl, rfl⟩
theorem fl_3_62 : gFL RX3 62 4 6   := ⟨ob_4, by decide +kernel, gw_t 367 (by decide +kernel) (by decide +kernel)⟩
theorem fi_3_62 : gFI RX3 62 4 6 .int := ⟨fl_3_62, fun _ _ => rfl, rfl, rfl, rfl⟩
theorem fl_4_43 : gFL RX4 43 4 7   := ⟨ob_4, by decide +kernel, gw_t 368 (by decide +kernel) (by decide +kernel)⟩
theorem fi_4_43 : gFI RX4 43 4 7 .int := ⟨fl_4_43, fun _ _ => rfl, rfl, rfl, rfl⟩
theorem fl_9_173 : gFL RX9 173 4 7   := ⟨ob_4, by decide +kernel, gw_t 369 (by decide +kernel) (by decide +kernel)⟩
theorem fi_9_173 : gFI RX9 173 4 7 .int := ⟨fl_9_173, fun _ _ => rfl, rfl, rfl, rfl⟩
theorem fl_8_132 : gFL RX8 132 4 7   := ⟨ob_4, by decide +kernel, gw_t 370 (by decide +kernel) (by decide +kernel)⟩
theorem fi_8_132 : gFI RX8 132 4 7 .int := ⟨fl_8_132, fun _ _ => rfl, rfl, rfl, rfl⟩
theorem fl_4_46 : gFL RX4 46 4 8   := ⟨ob_4, by decide +kernel, gw_t 371 (by decide +kernel) (by decide +kernel)⟩
theorem fi_4_46 : gFI RX4 46 4 8 .int := ⟨fl_4_46, fun _ _ => rfl, rfl, rfl, rfl⟩
theorem fl_9_176 : gFL RX9 176 4 8   := ⟨ob_4, by decide +kernel, gw_t 372 (by decide +kernel) (by decide +kernel)⟩
theorem fi_9_176 : gFI RX9 176 4 8 .int := ⟨fl_9_176, fun _ _ => rfl, rfl, rfl, rfl⟩
theorem fl_8_159 : gFL RX8 159 4 8   := ⟨ob_4, by decide +kernel, gw_t 373 (by decide +kernel) (by decide +kernel)⟩
theorem fi_8_159 : gFI RX8 159 4 8 .int := ⟨fl_8_159, fun _ _ => rfl, rfl, rfl, rfl⟩
theorem fl_4_49 : gFL RX4 49 4 9   := ⟨ob_4, by decide +kernel, gw_t 374 (by decide +kernel) (by decide +kernel)⟩
theorem fi_4_49 : gFI RX4 49 4 9 .int := ⟨fl_4_49, fun _ _ => rfl, rfl, rfl, rfl⟩
theorem fl_0_49 : gFL RX0 49 4 9   := ⟨ob_4, by decide +kernel, gw_t 375 (by decide +kernel) (by decide +kernel)⟩
theorem fi_0_49 : gFI RX0 49 4 9 .int := ⟨fl_0_49, fun _ _ => rfl, rfl, rfl, rfl⟩
theorem fl_9_170 : gFL RX9 170 4 9   := ⟨ob_4, by decide +kernel, gw_t 376 (by decide +kernel) (by decide +kernel)⟩
theorem fi_9_170 : gFI RX9 170 4 9 .int := ⟨fl_9_170, fun _ _ => rfl, rfl, rfl, rfl⟩
theorem fl_8_149 : gFL RX8 149 4 9   := ⟨ob_4, by decide +kernel, gw_t 377 (by decide +kernel) (by decide +kernel)⟩
theorem fi_8_149 : gFI RX8 149 4 9 .int := ⟨fl_8_149, fun _ _ => rfl, rfl, rfl, rfl⟩
theorem fl_4_52 : gFL RX4 52 4 10   := ⟨ob_4, by decide +kernel, gw_t 378 (by decide +kernel) (by decide +kernel)⟩
theorem fi_4_52 : gFI RX4 52 4 10 .boolean := ⟨fl_4_52, fun _ _ => rfl, rfl, rfl, rfl⟩
theorem fl_0_37 : gFL RX0 37 4 10   := ⟨ob_4, by decide +kernel, gw_t 379 (by decide +kernel) (by decide +kernel)⟩
theorem fi_0_37 : gFI RX0 37 4 10 .boolean := ⟨fl_0_37, fun _ _ => rfl, rfl, rfl, rfl⟩
theorem fl_9_167 : gFL RX9 167 4 10   := ⟨ob_4, by decide +kernel, gw_t 380 (by decide +kernel) (by decide +kernel)⟩
theorem fi_9_167 : gFI RX9 167 4 10 .boolean := ⟨fl_9_167, fun _ _ => rfl, rfl, rfl, rfl⟩
theorem fl_8_103 : gFL RX8 103 4 10   := ⟨ob_4, by decide +kernel, gw_t 381 (by decide +kernel) (by decide +kernel)⟩
theorem fi_8_103 : gFI RX8 103 4 10 .boolean := ⟨fl_8_103, fun _ _ => rfl, rfl, rfl, rfl⟩
theorem fl_4_9 : gFL RX4 9 4 11   := ⟨ob_4, by decide +kernel, gw_t 382 (by decide +kernel) (by decide +kernel)⟩
theorem fl_0_46 : gFL RX0 46 4 11   := ⟨ob_4, by decide +kernel, gw_t 383 (by decide +kernel) (by decide +kernel)⟩
theorem fl_8_89 : gFL RX8 89 4 11   := ⟨ob_4, by decide +kernel, gw_t 384 (by decide +kernel) (by decide +kernel)⟩
theorem fl_9_191 : gFL RX9 191 4 11   := ⟨ob_4, by decide +kernel, gw_t 385 (by decide +kernel) (by decide +kernel)⟩
theorem fl_8_11 : gFL RX8 11 8 0   := ⟨ob_8, by decide +kernel, gw_t 411 (by decide +kernel) (by decide +kernel)⟩
theorem fl_0_31 : gFL RX0 31 8 0   := ⟨ob_8, by decide +kernel, gw_t 412 (by decide +kernel) (by decide +kernel)⟩
theorem fl_9_132 : gFL RX9 132 8 0   := ⟨ob_8, by decide +kernel, gw_t 413 (by decide +kernel) (by decide +kernel)⟩
theorem fl_3_56 : gFL RX3 56 8 0   := ⟨ob_8, by decide +kernel, gw_t 414 (by decide +kernel) (by decide +kernel)⟩
theorem fl_8_32 : gFL RX8 32 8 1   := ⟨ob_8, by decide +kernel, gw_t 415 (by decide +kernel) (by decide +kernel)⟩
theorem fi_8_32 : gFI RX8 32 8 1 .int := ⟨fl_8_32, fun _ _ => rfl, rfl, rfl, rfl⟩
theorem fl_9_230 : gFL RX9 230 8 1   := ⟨ob_8, by decide +kernel, gw_t 416 (by decide +kernel) (by decide +kernel)⟩
theorem fi_9_230 : gFI RX9 230 8 1 .int := ⟨fl_9_230, fun _ _ => rfl, rfl, rfl, rfl⟩
theorem fl_8_35 : gFL RX8 35 8 2   := ⟨ob_8, by decide +kernel, gw_t 417 (by decide +kernel) (by decide +kernel)⟩
theorem fi_8_35 : gFI RX8 35 8 2 .int := ⟨fl_8_35, fun _ _ => rfl, rfl, rfl, rfl⟩
theorem fl_9_344 : gFL RX9 344 8 2   := ⟨ob_8, by decide +kernel, gw_t 418 (by decide +kernel) (by decide +kernel)⟩
theorem fi_9_344 : gFI RX9 344 8 2 .int := ⟨fl_9_344, fun _ _ => rfl, rfl, rfl, rfl⟩
theorem fl_8_43 : gFL RX8 43 8 3   := ⟨ob_8, by decide +kernel, gw_t 419 (by decide +kernel) (by decide +kernel)⟩
theorem fi_8_43 : gFJ RX8 43 8 3 := ⟨fl_8_43, fun _ _ => rfl, rfl, rfl, rfl⟩
theorem fl_9_310 : gFL RX9 310 8 3   := ⟨ob_8, by decide +kernel, gw_t 420 (by decide +kernel) (by decide +kernel)⟩
theorem fi_9_310 : gFJ RX9 310 8 3 := ⟨fl_9_310, fun _ _ => rfl, rfl, rfl, rfl⟩
theorem fl_8_17 : gFL RX8 17 8 4   := ⟨ob_8, by decide +kernel, gw_t 421 (by decide +kernel) (by decide +kernel)⟩
theorem fi_8_17 : gFI RX8 17 8 4 .int := ⟨fl_8_17, fun _ _ => rfl, rfl, rfl, rfl⟩
theorem fl_9_271 : gFL RX9 271 8 4   := ⟨ob_8, by decide +kernel, gw_t 422 (by decide +kernel) (by decide +kernel)⟩
theorem fi_9_271 : gFI RX9 271 8 4 .int := ⟨fl_9_271, fun _ _ => rfl, rfl, rfl, rfl⟩
theorem fl_8_21 : gFL RX8 21 8 5   := ⟨ob_8, by decide +kernel, gw_t 423 (by decide +kernel) (by decide +kernel)⟩
theorem fi_8_21 : gFI RX8 21 8 5 .int := ⟨fl_8_21, fun _ _ => rfl, rfl, rfl, rfl⟩
theorem fl_9_316 : gFL RX9 316 8 5   := ⟨ob_8, by decide +kernel, gw_t 424 (by decide +kernel) (by decide +kernel)⟩
theorem fi_9_316 : gFI RX9 316 8 5 .int := ⟨fl_9_316, fun _ _ => rfl, rfl, rfl, rfl⟩
theorem fl_8_24 : gFL RX8 24 8 6   := ⟨ob_8, by decide +kernel, gw_t 425 (by decide +kernel) (by decide +kernel)⟩
theorem fi_8_24 : gFI RX8 24 8 6 .int := ⟨fl_8_24, fun _ _ => rfl, rfl, rfl, rfl⟩
theorem fl_9_350 : gFL RX9 350 8 6   := ⟨ob_8, by decide +kernel, gw_t 426 (by decide +kernel) (by decide +kernel)⟩
theorem fi_9_350 : gFI RX9 350 8 6 .int := ⟨fl_9_350, fun _ _ => rfl, rfl, rfl, rfl⟩
theorem fl_8_54 : gFL RX8 54 8 7   := ⟨ob_8, by decide +kernel, gw_t 427 (by decide +kernel) (by decide +kernel)⟩
theorem fi_8_54 : gFI RX8 54 8 7 .boolean := ⟨fl_8_54, fun _ _ => rfl, rfl, rfl, rfl⟩
theorem fl_9_319 : gFL RX9 319 8 7   := ⟨ob_8, by decide +kernel, gw_t 428 (by decide +kernel) (by decide +kernel)⟩
theorem fi_9_319 : gFI RX9 319 8 7 .boolean := ⟨fl_9_319, fun _ _ => rfl, rfl, rfl, rfl⟩
theorem fl_3_9 : gFL RX3 9 3 0   := ⟨ob_3, by decide +kernel, gw_t 452 (by decide +kernel) (by decide +kernel)⟩
theorem fl_3_15 : gFL RX3 15 3 1   := ⟨ob_3, by decide +kernel, gw_t 453 (by decide +kernel) (by decide +kernel)⟩
theorem fl_3_18 : gFL RX3 18 3 2   := ⟨ob_3, by decide +kernel, gw_t 454 (by decide +kernel) (by decide +kernel)⟩
theorem fl_3_21 : gFL RX3 21 3 3   := ⟨ob_3, by decide +kernel, gw_t 455 (by decide +kernel) (by decide +kernel)⟩
theorem fl_3_25 : gFL RX3 25 3 4   := ⟨ob_3, by decide +kernel, gw_t 456 (by decide +kernel) (by decide +kernel)⟩
theorem fl_3_28 : gFL RX3 28 3 5   := ⟨ob_3, by decide +kernel, gw_t 457 (by decide +kernel) (by decide +kernel)⟩
theorem fl_3_35 : gFL RX3 35 3 6   := ⟨ob_3, by decide +kernel, gw_t 458 (by decide +kernel) (by decide +kernel)⟩
theorem fi_3_35 : gFI RX3 35 3 6 .int := ⟨fl_3_35, fun _ _ => rfl, rfl, rfl, rfl⟩
theorem fl_9_297 : gFL RX9 297 3 6   := ⟨ob_3, by decide +kernel, gw_t 459 (by decide +kernel) (by decide +kernel)⟩
theorem fi_9_297 : gFI RX9 297 3 6 .int := ⟨fl_9_297, fun _ _ => rfl, rfl, rfl, rfl⟩
theorem fl_3_31 : gFL RX3 31 3 7   := ⟨ob_3, by decide +kernel, gw_t 460 (by decide +kernel) (by decide +kernel)⟩
theorem fi_3_31 : gFI RX3 31 3 7 .int := ⟨fl_3_31, fun _ _ => rfl, rfl, rfl, rfl⟩
theorem fl_9_301 : gFL RX9 301 3 7   := ⟨ob_3, by decide +kernel, gw_t 461 (by decide +kernel) (by decide +kernel)⟩
theorem fi_9_301 : gFI RX9 301 3 7 .int := ⟨fl_9_301, fun _ _ => rfl, rfl, rfl, rfl⟩
theorem fl_0_9 : gFL RX0 9 0 0   := ⟨ob_0, by decide +kernel, gw_t 485 (by decide +kernel) (by decide +kernel)⟩
theorem fl_0_15 : gFL RX0 15 0 1   := ⟨ob_0, by decide +kernel, gw_t 486 (by decide +kernel) (by decide +kernel)⟩
theorem fl_0_18 : gFL RX0 18 0 2   := ⟨ob_0, by decide +kernel, gw_t 487 (by decide +kernel) (by decide +kernel)⟩
theorem fl_0_21 : gFL RX0 21 0 3   := ⟨ob_0, by decide +kernel, gw_t 488 (by decide +kernel) (by decide +kernel)⟩
theorem fl_0_24 : gFL RX0 24 0 4   := ⟨ob_0, by decide +kernel, gw_t 489 (by decide +kernel) (by decide +kernel)⟩
theorem fi_0_24 : gFI RX0 24 0 4 .int := ⟨fl_0_24, fun _ _ => rfl, rfl, rfl, rfl⟩
theorem fl_9_96 : gFL RX9 96 0 4   := ⟨ob_0, by decide +kernel, gw_t 490 (by decide +kernel) (by decide +kernel)⟩
theorem fi_9_96 : gFI RX9 96 0 4 .int := ⟨fl_9_96, fun _ _ => rfl, rfl, rfl, rfl⟩
theorem fl_9_10 : gFL RX9 10 9 0   := ⟨ob_9, by decide +kernel, gw_t 502 (by decide +kernel) (by decide +kernel)⟩
theorem fl_9_21 : gFL RX9 21 9 1   := ⟨ob_9, by decide +kernel, gw_t 503 (by decide +kernel) (by decide +kernel)⟩
theorem fl_9_28 : gFL RX9 28 9 2   := ⟨ob_9, by decide +kernel, gw_t 504 (by decide +kernel) (by decide +kernel)⟩
theorem fl_9_32 : gFL RX9 32 9 3   := ⟨ob_9, by decide +kernel, gw_t 505 (by decide +kernel) (by decide +kernel)⟩
theorem fl_9_38 : gFL RX9 38 9 4   := ⟨ob_9, by decide +kernel, gw_t 506 (by decide +kernel) (by decide +kernel)⟩
theorem fl_9_42 : gFL RX9 42 9 5   := ⟨ob_9, by decide +kernel, gw_t 507 (by decide +kernel) (by decide +kernel)⟩
theorem fl_9_45 : gFL RX9 45 9 6   := ⟨ob_9, by decide +kernel, gw_t 508 (by decide +kernel) (by decide +kernel)⟩
theorem fl_9_51 : gFL RX9 51 9 7   := ⟨ob_9, by decide +kernel, gw_t 509 (by decide +kernel) (by decide +kernel)⟩
theorem fl_9_58 : gFL RX9 58 9 8   := ⟨ob_9, by decide +kernel, gw_t 510 (by decide +kernel) (by decide +kernel)⟩
theorem fl_9_62 : gFL RX9 62 9 9   := ⟨ob_9, by decide +kernel, gw_t 511 (by decide +kernel) (by decide +kernel)⟩
theorem fl_9_66 : gFL RX9 66 9 10   := ⟨ob_9, by decide +kernel, gw_t 512 (by decide +kernel) (by decide +kernel)⟩
theorem fl_9_69 : gFL RX9 69 9 11   := ⟨ob_9, by decide +kernel, gw_t 513 (by decide +kernel) (by decide +kernel)⟩
theorem fi_9_69 : gFI RX9 69 9 11 .boolean := ⟨fl_9_69, fun _ _ => rfl, rfl, rfl, rfl⟩
theorem fl_10_145 : gFL RX10 145 10 0   := ⟨ob_10, by decide +kernel, gw_t 1214 (by decide +kernel) (by decide +kernel)⟩
theorem fi_10_145 : gFI RX10 145 10 0 .int := ⟨fl_10_145, fun _ _ => rfl, rfl, rfl, rfl⟩
theorem fl_10_7 : gFL RX10 7 10 1   := ⟨ob_10, by decide +kernel, gw_t 1215 (by decide +kernel) (by decide +kernel)⟩
theorem fl_10_148 : gFL RX10 148 10 2   := ⟨ob_10, by decide +kernel, gw_t 1216 (by decide +kernel) (by decide +kernel)⟩
theorem fi_10_148 : gFI RX10 148 10 2 .int := ⟨fl_10_148, fun _ _ => rfl, rfl, rfl, rfl⟩
theorem fl_10_13 : gFL RX10 13 10 3   := ⟨ob_10, by decide +kernel, gw_t 1217 (by decide +kernel) (by decide +kernel)⟩
theorem fl_10_16 : gFL RX10 16 10 4   := ⟨ob_10, by decide +kernel, gw_t 1218 (by decide +kernel) (by decide +kernel)⟩
theorem fl_10_19 : gFL RX10 19 10 5   := ⟨ob_10, by decide +kernel, gw_t 1219 (by decide +kernel) (by decide +kernel)⟩
theorem fl_10_22 : gFL RX10 22 10 6   := ⟨ob_10, by decide +kernel, gw_t 1220 (by decide +kernel) (by decide +kernel)⟩
theorem fl_10_25 : gFL RX10 25 10 7   := ⟨ob_10, by decide +kernel, gw_t 1221 (by decide +kernel) (by decide +kernel)⟩
theorem fl_10_28 : gFL RX10 28 10 8   := ⟨ob_10, by decide +kernel, gw_t 1222 (by decide +kernel) (by decide +kernel)⟩
theorem fl_10_31 : gFL RX10 31 10 9   := ⟨ob_10, by decide +kernel, gw_t 1223 (by decide +kernel) (by decide +kernel)⟩
theorem fl_10_34 : gFL RX10 34 10 10   := ⟨ob_10, by decide +kernel, gw_t 1224 (by decide +kernel) (by decide +kernel)⟩
theorem fl_10_37 : gFL RX10 37 10 11   := ⟨ob_10, by decide +kernel, gw_t 1225 (by decide +kernel) (by decide +kernel)⟩
theorem fl_10_40 : gFL RX10 40 10 12   := ⟨ob_10, by decide +kernel, gw_t 1226 (by decide +kernel) (by decide +kernel)⟩
theorem fl_10_43 : gFL RX10 43 10 13   := ⟨ob_10, by decide +kernel, gw_t 1227 (by decide +kernel) (by decide +kernel)⟩
theorem fl_10_46 : gFL RX10 46 10 14   := ⟨ob_10, by decide +kernel, gw_t 1228 (by decide +kernel) (by decide +kernel)⟩
theorem fl_10_49 : gFL RX10 49 10 15   := ⟨ob_10, by decide +kernel, gw_t 1229 (by decide +kernel) (by decide +kernel)⟩
theorem fl_10_52 : gFL RX10 52 10 16   := ⟨ob_10, by decide +kernel, gw_t 1230 (by decide +kernel) (by decide +kernel)⟩
theorem fl_10_222 : gFL RX10 222 10 17   := ⟨ob_10, by decide +kernel, gw_t 1231 (by decide +kernel) (by decide +kernel)⟩
theorem fi_10_222 : gFI RX10 222 10 17 .int := ⟨fl_10_222, fun _ _ => rfl, rfl, rfl, rfl⟩
theorem fl_10_246 : gFL RX10 246 10 18   := ⟨ob_10, by decide +kernel, gw_t 1232 (by decide +kernel) (by decide +kernel)⟩
theorem fi_10_246 : gFI RX10 246 10 18 .int := ⟨fl_10_246, fun _ _ => rfl, rfl, rfl, rfl⟩
theorem fl_10_154 : gFL RX10 154 10 19   := ⟨ob_10, by decide +kernel, gw_t 1233 (by decide +kernel) (by decide +kernel)⟩
theorem fi_10_154 : gFI RX10 154 10 19 .int := ⟨fl_10_154, fun _ _ => rfl, rfl, rfl, rfl⟩
theorem fl_10_151 : gFL RX10 151 10 20   := ⟨ob_10, by decide +kernel, gw_t 1234 (by decide +kernel) (by decide +kernel)⟩
theorem fi_10_151 : gFI RX10 151 10 20 .int := ⟨fl_10_151, fun _ _ => rfl, rfl, rfl, rfl⟩
theorem fl_10_161 : gFL RX10 161 10 21   := ⟨ob_10, by decide +kernel, gw_t 1235 (by decide +kernel) (by decide +kernel)⟩
theorem fi_10_161 : gFI RX10 161 10 21 .int := ⟨fl_10_161, fun _ _ => rfl, rfl, rfl, rfl⟩
theorem fl_10_164 : gFL RX10 164 10 22   := ⟨ob_10, by decide +kernel, gw_t 1236 (by decide +kernel) (by decide +kernel)⟩
theorem fi_10_164 : gFI RX10 164 10 22 .int := ⟨fl_10_164, fun _ _ => rfl, rfl, rfl, rfl⟩
theorem fl_10_174 : gFL RX10 174 10 23   := ⟨ob_10, by decide +kernel, gw_t 1237 (by decide +kernel) (by decide +kernel)⟩
theorem fi_10_174 : gFI RX10 174 10 23 .int := ⟨fl_10_174, fun _ _ => rfl, rfl, rfl, rfl⟩
theorem fl_10_199 : gFL RX10 199 10 24   := ⟨ob_10, by decide +kernel, gw_t 1238 (by decide +kernel) (by decide +kernel)⟩
theorem fi_10_199 : gFI RX10 199 10 24 .int := ⟨fl_10_199, fun _ _ => rfl, rfl, rfl, rfl⟩
theorem fl_10_202 : gFL RX10 202 10 25   := ⟨ob_10, by decide +kernel, gw_t 1239 (by decide +kernel) (by decide +kernel)⟩
theorem fi_10_202 : gFI RX10 202 10 25 .int := ⟨fl_10_202, fun _ _ => rfl, rfl, rfl, rfl⟩
theorem fl_10_291 : gFL RX10 291 10 26   := ⟨ob_10, by decide +kernel, gw_t 1240 (by decide +kernel) (by decide +kernel)⟩
theorem fi_10_291 : gFI RX10 291 10 26 .int := ⟨fl_10_291, fun _ _ => rfl, rfl, rfl, rfl⟩
theorem fl_10_55 : gFL RX10 55 10 27   := ⟨ob_10, by decide +kernel, gw_t 1241 (by decide +kernel) (by decide +kernel)⟩
theorem fi_10_55 : gFI RX10 55 10 27 .int := ⟨fl_10_55, fun _ _ => rfl, rfl, rfl, rfl⟩
theorem fl_10_285 : gFL RX10 285 10 28   := ⟨ob_10, by decide +kernel, gw_t 1242 (by decide +kernel) (by decide +kernel)⟩
theorem fi_10_285 : gFI RX10 285 10 28 .int := ⟨fl_10_285, fun _ _ => rfl, rfl, rfl, rfl⟩
theorem fl_10_258 : gFL RX10 258 10 29   := ⟨ob_10, by decide +kernel, gw_t 1243 (by decide +kernel) (by decide +kernel)⟩
theorem fi_10_258 : gFI RX10 258 10 29 .int := ⟨fl_10_258, fun _ _ => rfl, rfl, rfl, rfl⟩
theorem fl_10_59 : gFL RX10 59 10 30   := ⟨ob_10, by decide +kernel, gw_t 1244 (by decide +kernel) (by decide +kernel)⟩
theorem fl_10_63 : gFL RX10 63 10 31   := ⟨ob_10, by decide +kernel, gw_t 1245 (by decide +kernel) (by decide +kernel)⟩
theorem fl_10_308 : gFL RX10 308 10 32   := ⟨ob_10, by decide +kernel, gw_t 1246 (by decide +kernel) (by decide +kernel)⟩
theorem fi_10_308 : gFI RX10 308 10 32 .int := ⟨fl_10_308, fun _ _ => rfl, rfl, rfl, rfl⟩
theorem fl_10_66 : gFL RX10 66 10 33   := ⟨ob_10, by decide +kernel, gw_t 1247 (by decide +kernel) (by decide +kernel)⟩
theorem fl_10_69 : gFL RX10 69 10 34   := ⟨ob_10, by decide +kernel, gw_t 1248 (by decide +kernel) (by decide +kernel)⟩
theorem fl_10_72 : gFL RX10 72 10 35   := ⟨ob_10, by decide +kernel, gw_t 1249 (by decide +kernel) (by decide +kernel)⟩
theorem fl_10_75 : gFL RX10 75 10 36   := ⟨ob_10, by decide +kernel, gw_t 1250 (by decide +kernel) (by decide +kernel)⟩
theorem fl_10_78 : gFL RX10 78 10 37   := ⟨ob_10, by decide +kernel, gw_t 1251 (by decide +kernel) (by decide +kernel)⟩
theorem fl_10_81 : gFL RX10 81 10 38   := ⟨ob_10, by decide +kernel, gw_t 1252 (by decide +kernel) (by decide +kernel)⟩
theorem fl_10_84 : gFL RX10 84 10 39   := ⟨ob_10, by decide +kernel, gw_t 1253 (by decide +kernel) (by decide +kernel)⟩
theorem fl_10_87 : gFL RX10 87 10 40   := ⟨ob_10, by decide +kernel, gw_t 1254 (by decide +kernel) (by decide +kernel)⟩
theorem fl_10_90 : gFL RX10 90 10 41   := ⟨ob_10, by decide +kernel, gw_t 1255 (by decide +kernel) (by decide +kernel)⟩
theorem fl_10_93 : gFL RX10 93 10 42   := ⟨ob_10, by decide +kernel, gw_t 1256 (by decide +kernel) (by decide +kernel)⟩
theorem fl_10_96 : gFL RX10 96 10 43   := ⟨ob_10, by decide +kernel, gw_t 1257 (by decide +kernel) (by decide +kernel)⟩
theorem fl_10_99 : gFL RX10 99 10 44   := ⟨ob_10, by decide +kernel, gw_t 1258 (by decide +kernel) (by decide +kernel)⟩
theorem fl_10_102 : gFL RX10 102 10 45   := ⟨ob_10, by decide +kernel, gw_t 1259 (by decide +kernel) (by decide +kernel)⟩
theorem fl_10_105 : gFL RX10 105 10 46   := ⟨ob_10, by decide +kernel, gw_t 1260 (by decide +kernel) (by decide +kernel)⟩
theorem fl_10_108 : gFL RX10 108 10 47   := ⟨ob_10, by decide +kernel, gw_t 1261 (by decide +kernel) (by decide +kernel)⟩
theorem fl_10_381 : gFL RX10 381 10 48   := ⟨ob_10, by decide +kernel, gw_t 1262 (by decide +kernel) (by decide +kernel)⟩
theorem fi_10_381 : gFI RX10 381 10 48 .int := ⟨fl_10_381, fun _ _ => rfl, rfl, rfl, rfl⟩
theorem fl_10_301 : gFL RX10 301 10 49   := ⟨ob_10, by decide +kernel, gw_t 1263 (by decide +kernel) (by decide +kernel)⟩
theorem fi_10_301 : gFI RX10 301 10 49 .boolean := ⟨fl_10_301, fun _ _ => rfl, rfl, rfl, rfl⟩
theorem fl_10_305 : gFL RX10 305 10 50   := ⟨ob_10, by decide +kernel, gw_t 1264 (by decide +kernel) (by decide +kernel)⟩
theorem fi_10_305 : gFI RX10 305 10 50 .int := ⟨fl_10_305, fun _ _ => rfl, rfl, rfl, rfl⟩
theorem fl_10_331 : gFL RX10 331 10 51   := ⟨ob_10, by decide +kernel, gw_t 1265 (by decide +kernel) (by decide +kernel)⟩
theorem fi_10_331 : gFI RX10 331 10 51 .int := ⟨fl_10_331, fun _ _ => rfl, rfl, rfl, rfl⟩
theorem fl_10_111 : gFL RX10 111 10 52   := ⟨ob_10, by decide +kernel, gw_t 1266 (by decide +kernel) (by decide +kernel)⟩
theorem fi_10_111 : gFI RX10 111 10 52 .int := ⟨fl_10_111, fun _ _ => rfl, rfl, rfl, rfl⟩
theorem fl_10_114 : gFL RX10 114 10 53   := ⟨ob_10, by decide +kernel, gw_t 1267 (by decide +kernel) (by decide +kernel)⟩
theorem fl_10_117 : gFL RX10 117 10 54   := ⟨ob_10, by decide +kernel, gw_t 1268 (by decide +kernel) (by decide +kernel)⟩
theorem fl_10_298 : gFL RX10 298 10 55   := ⟨ob_10, by decide +kernel, gw_t 1269 (by decide +kernel) (by decide +kernel)⟩
theorem fi_10_298 : gFI RX10 298 10 55 .int := ⟨fl_10_298, fun _ _ => rfl, rfl, rfl, rfl⟩
theorem fl_10_120 : gFL RX10 120 10 56   := ⟨ob_10, by decide +kernel, gw_t 1270 (by decide +kernel) (by decide +kernel)⟩
theorem fi_10_120 : gFI RX10 120 10 56 .int := ⟨fl_10_120, fun _ _ => rfl, rfl, rfl, rfl⟩
theorem fl_10_123 : gFL RX10 123 10 57   := ⟨ob_10, by decide +kernel, gw_t 1271 (by decide +kernel) (by decide +kernel)⟩
theorem fl_10_126 : gFL RX10 126 10 58   := ⟨ob_10, by decide +kernel, gw_t 1272 (by decide +kernel) (by decide +kernel)⟩
theorem fl_10_129 : gFL RX10 129 10 59   := ⟨ob_10, by decide +kernel, gw_t 1273 (by decide +kernel) (by decide +kernel)⟩
theorem fl_10_132 : gFL RX10 132 10 60   := ⟨ob_10, by decide +kernel, gw_t 1274 (by decide +kernel) (by decide +kernel)⟩
theorem fl_10_136 : gFL RX10 136 10 61   := ⟨ob_10, by decide +kernel, gw_t 1275 (by decide +kernel) (by decide +kernel)⟩
theorem fl_10_139 : gFL RX10 139 10 62   := ⟨ob_10, by decide +kernel, gw_t 1276 (by decide +kernel) (by decide +kernel)⟩
theorem co_X9_init : Cond.code yX9_init cX9_init 1 none ∈ gw := gw_t 28 (by decide +kernel) (by decide +kernel)
theorem co_X6_init : Cond.code yX6_init cX6_init 4 none ∈ gw := gw_t 36 (by decide +kernel) (by decide +kernel)
theorem co_J0_length_8abf5 : Cond.code yJ0_length_8abf5 cJ0_length_8abf5 1 (some .int) ∈ gw := gw_t 42 (by decide +kernel) (by decide +kernel)
theorem iv_J0_length_8abf5 : Cond.instanceMethod yJ0_length_8abf5 ∈ gw ∧ Cond.selects yJ0_length_8abf5.cls yJ0_length_8abf5 yJ0_length_8abf5 ∈ gw ∧ Cond.initialized yJ0_length_8abf5.cls ∈ gw := ⟨gw_t 40 (by decide +kernel) (by decide +kernel), gw_t 41 (by decide +kernel) (by decide +kernel), gw_t 3 (by decide +kernel) (by decide +kernel)⟩
theorem co_J0_coder_7d493 : Cond.code yJ0_coder_7d493 cJ0_coder_7d493 1 (some .byte) ∈ gw := gw_t 46 (by decide +kernel) (by decide +kernel)
theorem iv_J0_coder_7d493 : Cond.instanceMethod yJ0_coder_7d493 ∈ gw ∧ Cond.selects yJ0_coder_7d493.cls yJ0_coder_7d493 yJ0_coder_7d493 ∈ gw ∧ Cond.initialized yJ0_coder_7d493.cls ∈ gw := ⟨gw_t 44 (by decide +kernel) (by decide +kernel), gw_t 45 (by decide +kernel) (by decide +kernel), gw_t 3 (by decide +kernel) (by decide +kernel)⟩
theorem co_J0_charAt_5068e : Cond.code yJ0_charAt_5068e cJ0_charAt_5068e 2 (some .char) ∈ gw := gw_t 52 (by decide +kernel) (by decide +kernel)
theorem iv_J0_charAt_5068e : Cond.instanceMethod yJ0_charAt_5068e ∈ gw ∧ Cond.selects yJ0_charAt_5068e.cls yJ0_charAt_5068e yJ0_charAt_5068e ∈ gw ∧ Cond.initialized yJ0_charAt_5068e.cls ∈ gw := ⟨gw_t 50 (by decide +kernel) (by decide +kernel), gw_t 51 (by decide +kernel) (by decide +kernel), gw_t 3 (by decide +kernel) (by decide +kernel)⟩
theorem co_J0_isLatin1_aae02 : Cond.code yJ0_isLatin1_aae02 cJ0_isLatin1_aae02 1 (some .boolean) ∈ gw := gw_t 56 (by decide +kernel) (by decide +kernel)
theorem iv_J0_isLatin1_aae02 : Cond.instanceMethod yJ0_isLatin1_aae02 ∈ gw ∧ Cond.selects yJ0_isLatin1_aae02.cls yJ0_isLatin1_aae02 yJ0_isLatin1_aae02 ∈ gw ∧ Cond.initialized yJ0_isLatin1_aae02.cls ∈ gw := ⟨gw_t 54 (by decide +kernel) (by decide +kernel), gw_t 55 (by decide +kernel) (by decide +kernel), gw_t 3 (by decide +kernel) (by decide +kernel)⟩
theorem co_J1_charAt_3b067 : Cond.code yJ1_charAt_3b067 cJ1_charAt_3b067 2 (some .char) ∈ gw := gw_t 59 (by decide +kernel) (by decide +kernel)
theorem st_J1_charAt_3b067 : Cond.static yJ1_charAt_3b067 ∈ gw ∧ Cond.initialized yJ1_charAt_3b067.cls ∈ gw := ⟨gw_t 58 (by decide +kernel) (by decide +kernel), gw_t 4 (by decide +kernel) (by decide +kernel)⟩
theorem co_J0_checkIndex_df160 : Cond.code yJ0_checkIndex_df160 cJ0_checkIndex_df160 2 none ∈ gw := gw_t 62 (by decide +kernel) (by decide +kernel)
theorem st_J0_checkIndex_df160 : Cond.static yJ0_checkIndex_df160 ∈ gw ∧ Cond.initialized yJ0_checkIndex_df160.cls ∈ gw := ⟨gw_t 61 (by decide +kernel) (by decide +kernel), gw_t 3 (by decide +kernel) (by decide +kernel)⟩
theorem co_J3_checkIndex_8e157 : Cond.code yJ3_checkIndex_8e157 cJ3_checkIndex_8e157 3 (some .int) ∈ gw := gw_t 67 (by decide +kernel) (by decide +kernel)
theorem st_J3_checkIndex_8e157 : Cond.static yJ3_checkIndex_8e157 ∈ gw ∧ Cond.initialized yJ3_checkIndex_8e157.cls ∈ gw := ⟨gw_t 66 (by decide +kernel) (by decide +kernel), gw_t 5 (by decide +kernel) (by decide +kernel)⟩
theorem co_J2_charAt_3b067 : Cond.code yJ2_charAt_3b067 cJ2_charAt_3b067 2 (some .char) ∈ gw := gw_t 70 (by decide +kernel) (by decide +kernel)
theorem st_J2_charAt_3b067 : Cond.static yJ2_charAt_3b067 ∈ gw ∧ Cond.initialized yJ2_charAt_3b067.cls ∈ gw := ⟨gw_t 69 (by decide +kernel) (by decide +kernel), gw_t 6 (by decide +kernel) (by decide +kernel)⟩
theorem co_J2_checkIndex_2214a : Cond.code yJ2_checkIndex_2214a cJ2_checkIndex_2214a 2 none ∈ gw := gw_t 73 (by decide +kernel) (by decide +kernel)
theorem st_J2_checkIndex_2214a : Cond.static yJ2_checkIndex_2214a ∈ gw ∧ Cond.initialized yJ2_checkIndex_2214a.cls ∈ gw := ⟨gw_t 72 (by decide +kernel) (by decide +kernel), gw_t 6 (by decide +kernel) (by decide +kernel)⟩
theorem co_J2_length_9d52b : Cond.code yJ2_length_9d52b cJ2_length_9d52b 1 (some .int) ∈ gw := gw_t 76 (by decide +kernel) (by decide +kernel)
theorem st_J2_length_9d52b : Cond.static yJ2_length_9d52b ∈ gw ∧ Cond.initialized yJ2_length_9d52b.cls ∈ gw := ⟨gw_t 75 (by decide +kernel) (by decide +kernel), gw_t 6 (by decide +kernel) (by decide +kernel)⟩
theorem co_J2_getChar_3b067 : Cond.code yJ2_getChar_3b067 cJ2_getChar_3b067 2 (some .char) ∈ gw := gw_t 80 (by decide +kernel) (by decide +kernel)
theorem st_J2_getChar_3b067 : Cond.static yJ2_getChar_3b067 ∈ gw ∧ Cond.initialized yJ2_getChar_3b067.cls ∈ gw := ⟨gw_t 79 (by decide +kernel) (by decide +kernel), gw_t 6 (by decide +kernel) (by decide +kernel)⟩
theorem co_X6_letterBits : Cond.code yX6_letterBits cX6_letterBits 2 (some .int) ∈ gw := gw_t 89 (by decide +kernel) (by decide +kernel)
theorem st_X6_letterBits : Cond.static yX6_letterBits ∈ gw ∧ Cond.initialized yX6_letterBits.cls ∈ gw := ⟨gw_t 88 (by decide +kernel) (by decide +kernel), gw_t 2 (by decide +kernel) (by decide +kernel)⟩
theorem co_X5_init : Cond.code yX5_init cX5_init 2 none ∈ gw := gw_t 128 (by decide +kernel) (by decide +kernel)
theorem co_X1_init : Cond.code yX1_init cX1_init 1 none ∈ gw := gw_t 134 (by decide +kernel) (by decide +kernel)
theorem co_X7_init : Cond.code yX7_init cX7_init 1 none ∈ gw := gw_t 184 (by decide +kernel) (by decide +kernel)
theorem co_X2_init : Cond.code yX2_init cX2_init 1 none ∈ gw := gw_t 190 (by decide +kernel) (by decide +kernel)
theorem co_X8_init : Cond.code yX8_init cX8_init 2 none ∈ gw := gw_t 336 (by decide +kernel) (by decide +kernel)
theorem co_X4_init : Cond.code yX4_init cX4_init 1 none ∈ gw := gw_t 343 (by decide +kernel) (by decide +kernel)
theorem co_X3_init : Cond.code yX3_init cX3_init 1 none ∈ gw := gw_t 450 (by decide +kernel) (by decide +kernel)
theorem co_X0_init : Cond.code yX0_init cX0_init 1 none ∈ gw := gw_t 483 (by decide +kernel) (by decide +kernel)
theorem co_X9_feed : Cond.code yX9_feed cX9_feed 6 (some .int) ∈ gw := gw_t 542 (by decide +kernel) (by decide +kernel)
theorem iv_X9_feed : Cond.instanceMethod yX9_feed ∈ gw ∧ Cond.selects yX9_feed.cls yX9_feed yX9_feed ∈ gw ∧ Cond.initialized yX9_feed.cls ∈ gw := ⟨gw_t 540 (by decide +kernel) (by decide +kernel), gw_t 541 (by decide +kernel) (by decide +kernel), gw_t 1 (by decide +kernel) (by decide +kernel)⟩
theorem co_X6_hasRoom : Cond.code yX6_hasRoom cX6_hasRoom 1 (some .boolean) ∈ gw := gw_t 546 (by decide +kernel) (by decide +kernel)
theorem iv_X6_hasRoom : Cond.instanceMethod yX6_hasRoom ∈ gw ∧ Cond.selects yX6_hasRoom.cls yX6_hasRoom yX6_hasRoom ∈ gw ∧ Cond.initialized yX6_hasRoom.cls ∈ gw := ⟨gw_t 544 (by decide +kernel) (by decide +kernel), gw_t 545 (by decide +kernel) (by decide +kernel), gw_t 2 (by decide +kernel) (by decide +kernel)⟩
theorem co_X6_append : Cond.code yX6_append cX6_append 3 none ∈ gw := gw_t 550 (by decide +kernel) (by decide +kernel)
theorem iv_X6_append : Cond.instanceMethod yX6_append ∈ gw ∧ Cond.selects yX6_append.cls yX6_append yX6_append ∈ gw ∧ Cond.initialized yX6_append.cls ∈ gw := ⟨gw_t 548 (by decide +kernel) (by decide +kernel), gw_t 549 (by decide +kernel) (by decide +kernel), gw_t 2 (by decide +kernel) (by decide +kernel)⟩
theorem co_X9_text : Cond.code yX9_text cX9_text 4 (some .int) ∈ gw := gw_t 554 (by decide +kernel) (by decide +kernel)
theorem iv_X9_text : Cond.instanceMethod yX9_text ∈ gw ∧ Cond.selects yX9_text.cls yX9_text yX9_text ∈ gw ∧ Cond.initialized yX9_text.cls ∈ gw := ⟨gw_t 552 (by decide +kernel) (by decide +kernel), gw_t 553 (by decide +kernel) (by decide +kernel), gw_t 1 (by decide +kernel) (by decide +kernel)⟩
theorem co_X5_readText : Cond.code yX5_readText cX5_readText 5 (some .int) ∈ gw := gw_t 558 (by decide +kernel) (by decide +kernel)
theorem iv_X5_readText : Cond.instanceMethod yX5_readText ∈ gw ∧ Cond.selects yX5_readText.cls yX5_readText yX5_readText ∈ gw ∧ Cond.initialized yX5_readText.cls ∈ gw := ⟨gw_t 556 (by decide +kernel) (by decide +kernel), gw_t 557 (by decide +kernel) (by decide +kernel), gw_t 7 (by decide +kernel) (by decide +kernel)⟩
theorem co_X7_clear : Cond.code yX7_clear cX7_clear 1 none ∈ gw := gw_t 562 (by decide +kernel) (by decide +kernel)
theorem iv_X7_clear : Cond.instanceMethod yX7_clear ∈ gw ∧ Cond.selects yX7_clear.cls yX7_clear yX7_clear ∈ gw ∧ Cond.initialized yX7_clear.cls ∈ gw := ⟨gw_t 560 (by decide +kernel) (by decide +kernel), gw_t 561 (by decide +kernel) (by decide +kernel), gw_t 9 (by decide +kernel) (by decide +kernel)⟩
theorem co_J7_fill_53178 : Cond.code yJ7_fill_53178 cJ7_fill_53178 4 none ∈ gw := gw_t 565 (by decide +kernel) (by decide +kernel)
theorem st_J7_fill_53178 : Cond.static yJ7_fill_53178 ∈ gw ∧ Cond.initialized yJ7_fill_53178.cls ∈ gw := ⟨gw_t 564 (by decide +kernel) (by decide +kernel), gw_t 16 (by decide +kernel) (by decide +kernel)⟩
theorem co_X2_clear : Cond.code yX2_clear cX2_clear 1 none ∈ gw := gw_t 569 (by decide +kernel) (by decide +kernel)
theorem iv_X2_clear : Cond.instanceMethod yX2_clear ∈ gw ∧ Cond.selects yX2_clear.cls yX2_clear yX2_clear ∈ gw ∧ Cond.initialized yX2_clear.cls ∈ gw := ⟨gw_t 567 (by decide +kernel) (by decide +kernel), gw_t 568 (by decide +kernel) (by decide +kernel), gw_t 10 (by decide +kernel) (by decide +kernel)⟩
theorem co_X6_begin : Cond.code yX6_begin cX6_begin 2 none ∈ gw := gw_t 574 (by decide +kernel) (by decide +kernel)
theorem iv_X6_begin : Cond.instanceMethod yX6_begin ∈ gw ∧ Cond.selects yX6_begin.cls yX6_begin yX6_begin ∈ gw ∧ Cond.initialized yX6_begin.cls ∈ gw := ⟨gw_t 572 (by decide +kernel) (by decide +kernel), gw_t 573 (by decide +kernel) (by decide +kernel), gw_t 2 (by decide +kernel) (by decide +kernel)⟩
theorem co_J9_min_7cf53 : Cond.code yJ9_min_7cf53 cJ9_min_7cf53 2 (some .int) ∈ gw := gw_t 577 (by decide +kernel) (by decide +kernel)
theorem st_J9_min_7cf53 : Cond.static yJ9_min_7cf53 ∈ gw ∧ Cond.initialized yJ9_min_7cf53.cls ∈ gw := ⟨gw_t 576 (by decide +kernel) (by decide +kernel), gw_t 17 (by decide +kernel) (by decide +kernel)⟩
theorem co_X6_next : Cond.code yX6_next cX6_next 1 none ∈ gw := gw_t 581 (by decide +kernel) (by decide +kernel)
theorem iv_X6_next : Cond.instanceMethod yX6_next ∈ gw ∧ Cond.selects yX6_next.cls yX6_next yX6_next ∈ gw ∧ Cond.initialized yX6_next.cls ∈ gw := ⟨gw_t 579 (by decide +kernel) (by decide +kernel), gw_t 580 (by decide +kernel) (by decide +kernel), gw_t 2 (by decide +kernel) (by decide +kernel)⟩
theorem co_X6_isLetter : Cond.code yX6_isLetter cX6_isLetter 1 (some .boolean) ∈ gw := gw_t 584 (by decide +kernel) (by decide +kernel)
theorem st_X6_isLetter : Cond.static yX6_isLetter ∈ gw ∧ Cond.initialized yX6_isLetter.cls ∈ gw := ⟨gw_t 583 (by decide +kernel) (by decide +kernel), gw_t 2 (by decide +kernel) (by decide +kernel)⟩
theorem co_X6_readWord : Cond.code yX6_readWord cX6_readWord 3 none ∈ gw := gw_t 588 (by decide +kernel) (by decide +kernel)
theorem iv_X6_readWord : Cond.instanceMethod yX6_readWord ∈ gw ∧ Cond.selects yX6_readWord.cls yX6_readWord yX6_readWord ∈ gw ∧ Cond.initialized yX6_readWord.cls ∈ gw := ⟨gw_t 587 (by decide +kernel) (by decide +kernel), gw_s (q := (yX6_readWord, 8)) (List.mem_of_getElem? (i := 0) (by decide +kernel)), gw_t 2 (by decide +kernel) (by decide +kernel)⟩
theorem co_X9_placeOf : Cond.code yX9_placeOf cX9_placeOf 4 (some .int) ∈ gw := gw_t 591 (by decide +kernel) (by decide +kernel)
theorem st_X9_placeOf : Cond.static yX9_placeOf ∈ gw ∧ Cond.initialized yX9_placeOf.cls ∈ gw := ⟨gw_t 590 (by decide +kernel) (by decide +kernel), gw_t 1 (by decide +kernel) (by decide +kernel)⟩
theorem co_X6_isDigit : Cond.code yX6_isDigit cX6_isDigit 1 (some .boolean) ∈ gw := gw_t 594 (by decide +kernel) (by decide +kernel)
theorem st_X6_isDigit : Cond.static yX6_isDigit ∈ gw ∧ Cond.initialized yX6_isDigit.cls ∈ gw := ⟨gw_t 593 (by decide +kernel) (by decide +kernel), gw_t 2 (by decide +kernel) (by decide +kernel)⟩
theorem co_X6_readNumber : Cond.code yX6_readNumber cX6_readNumber 1 none ∈ gw := gw_t 598 (by decide +kernel) (by decide +kernel)
theorem iv_X6_readNumber : Cond.instanceMethod yX6_readNumber ∈ gw ∧ Cond.selects yX6_readNumber.cls yX6_readNumber yX6_readNumber ∈ gw ∧ Cond.initialized yX6_readNumber.cls ∈ gw := ⟨gw_t 597 (by decide +kernel) (by decide +kernel), gw_s (q := (yX6_readNumber, 8)) (List.mem_of_getElem? (i := 1) (by decide +kernel)), gw_t 2 (by decide +kernel) (by decide +kernel)⟩
theorem co_X6_readSign : Cond.code yX6_readSign cX6_readSign 2 none ∈ gw := gw_t 603 (by decide +kernel) (by decide +kernel)
theorem iv_X6_readSign : Cond.instanceMethod yX6_readSign ∈ gw ∧ Cond.selects yX6_readSign.cls yX6_readSign yX6_readSign ∈ gw ∧ Cond.initialized yX6_readSign.cls ∈ gw := ⟨gw_t 602 (by decide +kernel) (by decide +kernel), gw_s (q := (yX6_readSign, 8)) (List.mem_of_getElem? (i := 2) (by decide +kernel)), gw_t 2 (by decide +kernel) (by decide +kernel)⟩
theorem co_X6_takes : Cond.code yX6_takes cX6_takes 2 (some .boolean) ∈ gw := gw_t 607 (by decide +kernel) (by decide +kernel)
theorem iv_X6_takes : Cond.instanceMethod yX6_takes ∈ gw ∧ Cond.selects yX6_takes.cls yX6_takes yX6_takes ∈ gw ∧ Cond.initialized yX6_takes.cls ∈ gw := ⟨gw_t 606 (by decide +kernel) (by decide +kernel), gw_s (q := (yX6_takes, 8)) (List.mem_of_getElem? (i := 3) (by decide +kernel)), gw_t 2 (by decide +kernel) (by decide +kernel)⟩
theorem co_X5_readLine : Cond.code yX5_readLine cX5_readLine 1 (some .boolean) ∈ gw := gw_t 611 (by decide +kernel) (by decide +kernel)
theorem iv_X5_readLine : Cond.instanceMethod yX5_readLine ∈ gw ∧ Cond.selects yX5_readLine.cls yX5_readLine yX5_readLine ∈ gw ∧ Cond.initialized yX5_readLine.cls ∈ gw := ⟨gw_t 610 (by decide +kernel) (by decide +kernel), gw_s (q := (yX5_readLine, 7)) (List.mem_of_getElem? (i := 4) (by decide +kernel)), gw_t 7 (by decide +kernel) (by decide +kernel)⟩
theorem co_X5_readMan : Cond.code yX5_readMan cX5_readMan 2 (some .boolean) ∈ gw := gw_t 615 (by decide +kernel) (by decide +kernel)
theorem iv_X5_readMan : Cond.instanceMethod yX5_readMan ∈ gw ∧ Cond.selects yX5_readMan.cls yX5_readMan yX5_readMan ∈ gw ∧ Cond.initialized yX5_readMan.cls ∈ gw := ⟨gw_t 614 (by decide +kernel) (by decide +kernel), gw_s (q := (yX5_readMan, 7)) (List.mem_of_getElem? (i := 5) (by decide +kernel)), gw_t 7 (by decide +kernel) (by decide +kernel)⟩
theorem co_X5_fail : Cond.code yX5_fail cX5_fail 2 (some .boolean) ∈ gw := gw_t 619 (by decide +kernel) (by decide +kernel)
theorem iv_X5_fail : Cond.instanceMethod yX5_fail ∈ gw ∧ Cond.selects yX5_fail.cls yX5_fail yX5_fail ∈ gw ∧ Cond.initialized yX5_fail.cls ∈ gw := ⟨gw_t 618 (by decide +kernel) (by decide +kernel), gw_s (q := (yX5_fail, 7)) (List.mem_of_getElem? (i := 6) (by decide +kernel)), gw_t 7 (by decide +kernel) (by decide +kernel)⟩
theorem co_X5_readNewName : Cond.code yX5_readNewName cX5_readNewName 3 (some .boolean) ∈ gw := gw_t 624 (by decide +kernel) (by decide +kernel)
theorem iv_X5_readNewName : Cond.instanceMethod yX5_readNewName ∈ gw ∧ Cond.selects yX5_readNewName.cls yX5_readNewName yX5_readNewName ∈ gw ∧ Cond.initialized yX5_readNewName.cls ∈ gw := ⟨gw_t 623 (by decide +kernel) (by decide +kernel), gw_s (q := (yX5_readNewName, 7)) (List.mem_of_getElem? (i := 7) (by decide +kernel)), gw_t 7 (by decide +kernel) (by decide +kernel)⟩
theorem co_X5_readNumber : Cond.code yX5_readNumber cX5_readNumber 3 (some .boolean) ∈ gw := gw_t 629 (by decide +kernel) (by decide +kernel)
theorem iv_X5_readNumber : Cond.instanceMethod yX5_readNumber ∈ gw ∧ Cond.selects yX5_readNumber.cls yX5_readNumber yX5_readNumber ∈ gw ∧ Cond.initialized yX5_readNumber.cls ∈ gw := ⟨gw_t 628 (by decide +kernel) (by decide +kernel), gw_s (q := (yX5_readNumber, 7)) (List.mem_of_getElem? (i := 8) (by decide +kernel)), gw_t 7 (by decide +kernel) (by decide +kernel)⟩
theorem co_X9_isWithin : Cond.code yX9_isWithin cX9_isWithin 3 (some .boolean) ∈ gw := gw_t 632 (by decide +kernel) (by decide +kernel)
theorem st_X9_isWithin : Cond.static yX9_isWithin ∈ gw ∧ Cond.initialized yX9_isWithin.cls ∈ gw := ⟨gw_t 631 (by decide +kernel) (by decide +kernel), gw_t 1 (by decide +kernel) (by decide +kernel)⟩
theorem co_X5_readDeed : Cond.code yX5_readDeed cX5_readDeed 2 (some .boolean) ∈ gw := gw_t 636 (by decide +kernel) (by decide +kernel)
theorem iv_X5_readDeed : Cond.instanceMethod yX5_readDeed ∈ gw ∧ Cond.selects yX5_readDeed.cls yX5_readDeed yX5_readDeed ∈ gw ∧ Cond.initialized yX5_readDeed.cls ∈ gw := ⟨gw_t 635 (by decide +kernel) (by decide +kernel), gw_s (q := (yX5_readDeed, 7)) (List.mem_of_getElem? (i := 9) (by decide +kernel)), gw_t 7 (by decide +kernel) (by decide +kernel)⟩
theorem co_X5_readPlan : Cond.code yX5_readPlan cX5_readPlan 3 (some .boolean) ∈ gw := gw_t 640 (by decide +kernel) (by decide +kernel)
theorem iv_X5_readPlan : Cond.instanceMethod yX5_readPlan ∈ gw ∧ Cond.selects yX5_readPlan.cls yX5_readPlan yX5_readPlan ∈ gw ∧ Cond.initialized yX5_readPlan.cls ∈ gw := ⟨gw_t 639 (by decide +kernel) (by decide +kernel), gw_s (q := (yX5_readPlan, 7)) (List.mem_of_getElem? (i := 10) (by decide +kernel)), gw_t 7 (by decide +kernel) (by decide +kernel)⟩
theorem co_X5_findName : Cond.code yX5_findName cX5_findName 4 (some .int) ∈ gw := gw_t 644 (by decide +kernel) (by decide +kernel)
theorem iv_X5_findName : Cond.instanceMethod yX5_findName ∈ gw ∧ Cond.selects yX5_findName.cls yX5_findName yX5_findName ∈ gw ∧ Cond.initialized yX5_findName.cls ∈ gw := ⟨gw_t 643 (by decide +kernel) (by decide +kernel), gw_s (q := (yX5_findName, 7)) (List.mem_of_getElem? (i := 11) (by decide +kernel)), gw_t 7 (by decide +kernel) (by decide +kernel)⟩
theorem co_X5_readBet : Cond.code yX5_readBet cX5_readBet 1 (some .boolean) ∈ gw := gw_t 648 (by decide +kernel) (by decide +kernel)
theorem iv_X5_readBet : Cond.instanceMethod yX5_readBet ∈ gw ∧ Cond.selects yX5_readBet.cls yX5_readBet yX5_readBet ∈ gw ∧ Cond.initialized yX5_readBet.cls ∈ gw := ⟨gw_t 647 (by decide +kernel) (by decide +kernel), gw_s (q := (yX5_readBet, 7)) (List.mem_of_getElem? (i := 12) (by decide +kernel)), gw_t 7 (by decide +kernel) (by decide +kernel)⟩
theorem co_X5_readOnce : Cond.code yX5_readOnce cX5_readOnce 2 (some .boolean) ∈ gw := gw_t 652 (by decide +kernel) (by decide +kernel)
theorem iv_X5_readOnce : Cond.instanceMethod yX5_readOnce ∈ gw ∧ Cond.selects yX5_readOnce.cls yX5_readOnce yX5_readOnce ∈ gw ∧ Cond.initialized yX5_readOnce.cls ∈ gw := ⟨gw_t 651 (by decide +kernel) (by decide +kernel), gw_s (q := (yX5_readOnce, 7)) (List.mem_of_getElem? (i := 13) (by decide +kernel)), gw_t 7 (by decide +kernel) (by decide +kernel)⟩
theorem co_X5_readPay : Cond.code yX5_readPay cX5_readPay 1 (some .boolean) ∈ gw := gw_t 656 (by decide +kernel) (by decide +kernel)
theorem iv_X5_readPay : Cond.instanceMethod yX5_readPay ∈ gw ∧ Cond.selects yX5_readPay.cls yX5_readPay yX5_readPay ∈ gw ∧ Cond.initialized yX5_readPay.cls ∈ gw := ⟨gw_t 655 (by decide +kernel) (by decide +kernel), gw_s (q := (yX5_readPay, 7)) (List.mem_of_getElem? (i := 14) (by decide +kernel)), gw_t 7 (by decide +kernel) (by decide +kernel)⟩
theorem co_X5_readRain : Cond.code yX5_readRain cX5_readRain 1 (some .boolean) ∈ gw := gw_t 660 (by decide +kernel) (by decide +kernel)
theorem iv_X5_readRain : Cond.instanceMethod yX5_readRain ∈ gw ∧ Cond.selects yX5_readRain.cls yX5_readRain yX5_readRain ∈ gw ∧ Cond.initialized yX5_readRain.cls ∈ gw := ⟨gw_t 659 (by decide +kernel) (by decide +kernel), gw_s (q := (yX5_readRain, 7)) (List.mem_of_getElem? (i := 15) (by decide +kernel)), gw_t 7 (by decide +kernel) (by decide +kernel)⟩
theorem co_X5_readSeed : Cond.code yX5_readSeed cX5_readSeed 1 (some .boolean) ∈ gw := gw_t 664 (by decide +kernel) (by decide +kernel)
theorem iv_X5_readSeed : Cond.instanceMethod yX5_readSeed ∈ gw ∧ Cond.selects yX5_readSeed.cls yX5_readSeed yX5_readSeed ∈ gw ∧ Cond.initialized yX5_readSeed.cls ∈ gw := ⟨gw_t 663 (by decide +kernel) (by decide +kernel), gw_s (q := (yX5_readSeed, 7)) (List.mem_of_getElem? (i := 16) (by decide +kernel)), gw_t 7 (by decide +kernel) (by decide +kernel)⟩
theorem co_X5_readLaw : Cond.code yX5_readLaw cX5_readLaw 3 (some .boolean) ∈ gw := gw_t 669 (by decide +kernel) (by decide +kernel)
theorem iv_X5_readLaw : Cond.instanceMethod yX5_readLaw ∈ gw ∧ Cond.selects yX5_readLaw.cls yX5_readLaw yX5_readLaw ∈ gw ∧ Cond.initialized yX5_readLaw.cls ∈ gw := ⟨gw_t 668 (by decide +kernel) (by decide +kernel), gw_s (q := (yX5_readLaw, 7)) (List.mem_of_getElem? (i := 17) (by decide +kernel)), gw_t 7 (by decide +kernel) (by decide +kernel)⟩
theorem co_X2_isTold : Cond.code yX2_isTold cX2_isTold 2 (some .boolean) ∈ gw := gw_t 673 (by decide +kernel) (by decide +kernel)
theorem iv_X2_isTold : Cond.instanceMethod yX2_isTold ∈ gw ∧ Cond.selects yX2_isTold.cls yX2_isTold yX2_isTold ∈ gw ∧ Cond.initialized yX2_isTold.cls ∈ gw := ⟨gw_t 671 (by decide +kernel) (by decide +kernel), gw_t 672 (by decide +kernel) (by decide +kernel), gw_t 10 (by decide +kernel) (by decide +kernel)⟩
theorem co_X1_readInto : Cond.code yX1_readInto cX1_readInto 5 (some .int) ∈ gw := gw_t 677 (by decide +kernel) (by decide +kernel)
theorem iv_X1_readInto : Cond.instanceMethod yX1_readInto ∈ gw ∧ Cond.selects yX1_readInto.cls yX1_readInto yX1_readInto ∈ gw ∧ Cond.initialized yX1_readInto.cls ∈ gw := ⟨gw_t 675 (by decide +kernel) (by decide +kernel), gw_t 676 (by decide +kernel) (by decide +kernel), gw_t 8 (by decide +kernel) (by decide +kernel)⟩
theorem co_X2_begin : Cond.code yX2_begin cX2_begin 2 none ∈ gw := gw_t 681 (by decide +kernel) (by decide +kernel)
theorem iv_X2_begin : Cond.instanceMethod yX2_begin ∈ gw ∧ Cond.selects yX2_begin.cls yX2_begin yX2_begin ∈ gw ∧ Cond.initialized yX2_begin.cls ∈ gw := ⟨gw_t 679 (by decide +kernel) (by decide +kernel), gw_t 680 (by decide +kernel) (by decide +kernel), gw_t 10 (by decide +kernel) (by decide +kernel)⟩
theorem co_X1_canStand : Cond.code yX1_canStand cX1_canStand 2 (some .boolean) ∈ gw := gw_t 685 (by decide +kernel) (by decide +kernel)
theorem iv_X1_canStand : Cond.instanceMethod yX1_canStand ∈ gw ∧ Cond.selects yX1_canStand.cls yX1_canStand yX1_canStand ∈ gw ∧ Cond.initialized yX1_canStand.cls ∈ gw := ⟨gw_t 684 (by decide +kernel) (by decide +kernel), gw_s (q := (yX1_canStand, 6)) (List.mem_of_getElem? (i := 18) (by decide +kernel)), gw_t 8 (by decide +kernel) (by decide +kernel)⟩
theorem co_X1_isValue : Cond.code yX1_isValue cX1_isValue 1 (some .boolean) ∈ gw := gw_t 688 (by decide +kernel) (by decide +kernel)
theorem st_X1_isValue : Cond.static yX1_isValue ∈ gw ∧ Cond.initialized yX1_isValue.cls ∈ gw := ⟨gw_t 687 (by decide +kernel) (by decide +kernel), gw_t 8 (by decide +kernel) (by decide +kernel)⟩
theorem co_X1_isComparison : Cond.code yX1_isComparison cX1_isComparison 1 (some .boolean) ∈ gw := gw_t 692 (by decide +kernel) (by decide +kernel)
theorem st_X1_isComparison : Cond.static yX1_isComparison ∈ gw ∧ Cond.initialized yX1_isComparison.cls ∈ gw := ⟨gw_t 691 (by decide +kernel) (by decide +kernel), gw_t 8 (by decide +kernel) (by decide +kernel)⟩
theorem co_X1_isTooMuch : Cond.code yX1_isTooMuch cX1_isTooMuch 4 (some .boolean) ∈ gw := gw_t 696 (by decide +kernel) (by decide +kernel)
theorem iv_X1_isTooMuch : Cond.instanceMethod yX1_isTooMuch ∈ gw ∧ Cond.selects yX1_isTooMuch.cls yX1_isTooMuch yX1_isTooMuch ∈ gw ∧ Cond.initialized yX1_isTooMuch.cls ∈ gw := ⟨gw_t 695 (by decide +kernel) (by decide +kernel), gw_s (q := (yX1_isTooMuch, 6)) (List.mem_of_getElem? (i := 19) (by decide +kernel)), gw_t 8 (by decide +kernel) (by decide +kernel)⟩
theorem co_X2_add : Cond.code yX2_add cX2_add 3 none ∈ gw := gw_t 700 (by decide +kernel) (by decide +kernel)
theorem iv_X2_add : Cond.instanceMethod yX2_add ∈ gw ∧ Cond.selects yX2_add.cls yX2_add yX2_add ∈ gw ∧ Cond.initialized yX2_add.cls ∈ gw := ⟨gw_t 698 (by decide +kernel) (by decide +kernel), gw_t 699 (by decide +kernel) (by decide +kernel), gw_t 10 (by decide +kernel) (by decide +kernel)⟩
theorem co_X1_takeOpen : Cond.code yX1_takeOpen cX1_takeOpen 1 none ∈ gw := gw_t 704 (by decide +kernel) (by decide +kernel)
theorem iv_X1_takeOpen : Cond.instanceMethod yX1_takeOpen ∈ gw ∧ Cond.selects yX1_takeOpen.cls yX1_takeOpen yX1_takeOpen ∈ gw ∧ Cond.initialized yX1_takeOpen.cls ∈ gw := ⟨gw_t 703 (by decide +kernel) (by decide +kernel), gw_s (q := (yX1_takeOpen, 6)) (List.mem_of_getElem? (i := 20) (by decide +kernel)), gw_t 8 (by decide +kernel) (by decide +kernel)⟩
theorem co_X1_hold : Cond.code yX1_hold cX1_hold 2 none ∈ gw := gw_t 708 (by decide +kernel) (by decide +kernel)
theorem iv_X1_hold : Cond.instanceMethod yX1_hold ∈ gw ∧ Cond.selects yX1_hold.cls yX1_hold yX1_hold ∈ gw ∧ Cond.initialized yX1_hold.cls ∈ gw := ⟨gw_t 707 (by decide +kernel) (by decide +kernel), gw_s (q := (yX1_hold, 6)) (List.mem_of_getElem? (i := 21) (by decide +kernel)), gw_t 8 (by decide +kernel) (by decide +kernel)⟩
theorem co_X1_takeClose : Cond.code yX1_takeClose cX1_takeClose 2 none ∈ gw := gw_t 712 (by decide +kernel) (by decide +kernel)
theorem iv_X1_takeClose : Cond.instanceMethod yX1_takeClose ∈ gw ∧ Cond.selects yX1_takeClose.cls yX1_takeClose yX1_takeClose ∈ gw ∧ Cond.initialized yX1_takeClose.cls ∈ gw := ⟨gw_t 711 (by decide +kernel) (by decide +kernel), gw_s (q := (yX1_takeClose, 6)) (List.mem_of_getElem? (i := 22) (by decide +kernel)), gw_t 8 (by decide +kernel) (by decide +kernel)⟩
theorem co_X1_release : Cond.code yX1_release cX1_release 3 none ∈ gw := gw_t 716 (by decide +kernel) (by decide +kernel)
theorem iv_X1_release : Cond.instanceMethod yX1_release ∈ gw ∧ Cond.selects yX1_release.cls yX1_release yX1_release ∈ gw ∧ Cond.initialized yX1_release.cls ∈ gw := ⟨gw_t 715 (by decide +kernel) (by decide +kernel), gw_s (q := (yX1_release, 6)) (List.mem_of_getElem? (i := 23) (by decide +kernel)), gw_t 8 (by decide +kernel) (by decide +kernel)⟩
theorem co_X1_strength : Cond.code yX1_strength cX1_strength 1 (some .int) ∈ gw := gw_t 719 (by decide +kernel) (by decide +kernel)
theorem st_X1_strength : Cond.static yX1_strength ∈ gw ∧ Cond.initialized yX1_strength.cls ∈ gw := ⟨gw_t 718 (by decide +kernel) (by decide +kernel), gw_t 8 (by decide +kernel) (by decide +kernel)⟩
theorem co_J9_max_7cf53 : Cond.code yJ9_max_7cf53 cJ9_max_7cf53 2 (some .int) ∈ gw := gw_t 722 (by decide +kernel) (by decide +kernel)
theorem st_J9_max_7cf53 : Cond.static yJ9_max_7cf53 ∈ gw ∧ Cond.initialized yJ9_max_7cf53.cls ∈ gw := ⟨gw_t 721 (by decide +kernel) (by decide +kernel), gw_t 17 (by decide +kernel) (by decide +kernel)⟩
theorem co_X1_takeSign : Cond.code yX1_takeSign cX1_takeSign 3 none ∈ gw := gw_t 726 (by decide +kernel) (by decide +kernel)
theorem iv_X1_takeSign : Cond.instanceMethod yX1_takeSign ∈ gw ∧ Cond.selects yX1_takeSign.cls yX1_takeSign yX1_takeSign ∈ gw ∧ Cond.initialized yX1_takeSign.cls ∈ gw := ⟨gw_t 725 (by decide +kernel) (by decide +kernel), gw_s (q := (yX1_takeSign, 6)) (List.mem_of_getElem? (i := 24) (by decide +kernel)), gw_t 8 (by decide +kernel) (by decide +kernel)⟩
theorem co_X2_end : Cond.code yX2_end cX2_end 2 none ∈ gw := gw_t 731 (by decide +kernel) (by decide +kernel)
theorem iv_X2_end : Cond.instanceMethod yX2_end ∈ gw ∧ Cond.selects yX2_end.cls yX2_end yX2_end ∈ gw ∧ Cond.initialized yX2_end.cls ∈ gw := ⟨gw_t 729 (by decide +kernel) (by decide +kernel), gw_t 730 (by decide +kernel) (by decide +kernel), gw_t 10 (by decide +kernel) (by decide +kernel)⟩
theorem co_X5_readLineEnd : Cond.code yX5_readLineEnd cX5_readLineEnd 1 (some .boolean) ∈ gw := gw_t 735 (by decide +kernel) (by decide +kernel)
theorem iv_X5_readLineEnd : Cond.instanceMethod yX5_readLineEnd ∈ gw ∧ Cond.selects yX5_readLineEnd.cls yX5_readLineEnd yX5_readLineEnd ∈ gw ∧ Cond.initialized yX5_readLineEnd.cls ∈ gw := ⟨gw_t 734 (by decide +kernel) (by decide +kernel), gw_s (q := (yX5_readLineEnd, 7)) (List.mem_of_getElem? (i := 25) (by decide +kernel)), gw_t 7 (by decide +kernel) (by decide +kernel)⟩
theorem co_X8_start : Cond.code yX8_start cX8_start 3 none ∈ gw := gw_t 739 (by decide +kernel) (by decide +kernel)
theorem iv_X8_start : Cond.instanceMethod yX8_start ∈ gw ∧ Cond.selects yX8_start.cls yX8_start yX8_start ∈ gw ∧ Cond.initialized yX8_start.cls ∈ gw := ⟨gw_t 737 (by decide +kernel) (by decide +kernel), gw_t 738 (by decide +kernel) (by decide +kernel), gw_t 11 (by decide +kernel) (by decide +kernel)⟩
theorem co_X4_start : Cond.code yX4_start cX4_start 3 none ∈ gw := gw_t 743 (by decide +kernel) (by decide +kernel)
theorem iv_X4_start : Cond.instanceMethod yX4_start ∈ gw ∧ Cond.selects yX4_start.cls yX4_start yX4_start ∈ gw ∧ Cond.initialized yX4_start.cls ∈ gw := ⟨gw_t 741 (by decide +kernel) (by decide +kernel), gw_t 742 (by decide +kernel) (by decide +kernel), gw_t 12 (by decide +kernel) (by decide +kernel)⟩
theorem co_X8_setPlain : Cond.code yX8_setPlain cX8_setPlain 1 none ∈ gw := gw_t 750 (by decide +kernel) (by decide +kernel)
theorem iv_X8_setPlain : Cond.instanceMethod yX8_setPlain ∈ gw ∧ Cond.selects yX8_setPlain.cls yX8_setPlain yX8_setPlain ∈ gw ∧ Cond.initialized yX8_setPlain.cls ∈ gw := ⟨gw_t 749 (by decide +kernel) (by decide +kernel), gw_s (q := (yX8_setPlain, 8)) (List.mem_of_getElem? (i := 26) (by decide +kernel)), gw_t 11 (by decide +kernel) (by decide +kernel)⟩
theorem co_X3_clear : Cond.code yX3_clear cX3_clear 1 none ∈ gw := gw_t 754 (by decide +kernel) (by decide +kernel)
theorem iv_X3_clear : Cond.instanceMethod yX3_clear ∈ gw ∧ Cond.selects yX3_clear.cls yX3_clear yX3_clear ∈ gw ∧ Cond.initialized yX3_clear.cls ∈ gw := ⟨gw_t 752 (by decide +kernel) (by decide +kernel), gw_t 753 (by decide +kernel) (by decide +kernel), gw_t 13 (by decide +kernel) (by decide +kernel)⟩
theorem co_X9_fault : Cond.code yX9_fault cX9_fault 2 (some .int) ∈ gw := gw_t 758 (by decide +kernel) (by decide +kernel)
theorem iv_X9_fault : Cond.instanceMethod yX9_fault ∈ gw ∧ Cond.selects yX9_fault.cls yX9_fault yX9_fault ∈ gw ∧ Cond.initialized yX9_fault.cls ∈ gw := ⟨gw_t 756 (by decide +kernel) (by decide +kernel), gw_t 757 (by decide +kernel) (by decide +kernel), gw_t 1 (by decide +kernel) (by decide +kernel)⟩
theorem co_X9_named : Cond.code yX9_named cX9_named 3 (some .int) ∈ gw := gw_t 762 (by decide +kernel) (by decide +kernel)
theorem iv_X9_named : Cond.instanceMethod yX9_named ∈ gw ∧ Cond.selects yX9_named.cls yX9_named yX9_named ∈ gw ∧ Cond.initialized yX9_named.cls ∈ gw := ⟨gw_t 760 (by decide +kernel) (by decide +kernel), gw_t 761 (by decide +kernel) (by decide +kernel), gw_t 1 (by decide +kernel) (by decide +kernel)⟩
theorem co_X9_has : Cond.code yX9_has cX9_has 4 (some .int) ∈ gw := gw_t 767 (by decide +kernel) (by decide +kernel)
theorem iv_X9_has : Cond.instanceMethod yX9_has ∈ gw ∧ Cond.selects yX9_has.cls yX9_has yX9_has ∈ gw ∧ Cond.initialized yX9_has.cls ∈ gw := ⟨gw_t 765 (by decide +kernel) (by decide +kernel), gw_t 766 (by decide +kernel) (by decide +kernel), gw_t 1 (by decide +kernel) (by decide +kernel)⟩
theorem co_X9_isMan : Cond.code yX9_isMan cX9_isMan 2 (some .boolean) ∈ gw := gw_t 771 (by decide +kernel) (by decide +kernel)
theorem iv_X9_isMan : Cond.instanceMethod yX9_isMan ∈ gw ∧ Cond.selects yX9_isMan.cls yX9_isMan yX9_isMan ∈ gw ∧ Cond.initialized yX9_isMan.cls ∈ gw := ⟨gw_t 770 (by decide +kernel) (by decide +kernel), gw_s (q := (yX9_isMan, 12)) (List.mem_of_getElem? (i := 27) (by decide +kernel)), gw_t 1 (by decide +kernel) (by decide +kernel)⟩
theorem co_X9_deed : Cond.code yX9_deed cX9_deed 3 (some .int) ∈ gw := gw_t 776 (by decide +kernel) (by decide +kernel)
theorem iv_X9_deed : Cond.instanceMethod yX9_deed ∈ gw ∧ Cond.selects yX9_deed.cls yX9_deed yX9_deed ∈ gw ∧ Cond.initialized yX9_deed.cls ∈ gw := ⟨gw_t 774 (by decide +kernel) (by decide +kernel), gw_t 775 (by decide +kernel) (by decide +kernel), gw_t 1 (by decide +kernel) (by decide +kernel)⟩
theorem co_X9_isDeed : Cond.code yX9_isDeed cX9_isDeed 2 (some .boolean) ∈ gw := gw_t 780 (by decide +kernel) (by decide +kernel)
theorem iv_X9_isDeed : Cond.instanceMethod yX9_isDeed ∈ gw ∧ Cond.selects yX9_isDeed.cls yX9_isDeed yX9_isDeed ∈ gw ∧ Cond.initialized yX9_isDeed.cls ∈ gw := ⟨gw_t 779 (by decide +kernel) (by decide +kernel), gw_s (q := (yX9_isDeed, 12)) (List.mem_of_getElem? (i := 28) (by decide +kernel)), gw_t 1 (by decide +kernel) (by decide +kernel)⟩
theorem co_X9_times : Cond.code yX9_times cX9_times 3 (some .int) ∈ gw := gw_t 784 (by decide +kernel) (by decide +kernel)
theorem iv_X9_times : Cond.instanceMethod yX9_times ∈ gw ∧ Cond.selects yX9_times.cls yX9_times yX9_times ∈ gw ∧ Cond.initialized yX9_times.cls ∈ gw := ⟨gw_t 782 (by decide +kernel) (by decide +kernel), gw_t 783 (by decide +kernel) (by decide +kernel), gw_t 1 (by decide +kernel) (by decide +kernel)⟩
theorem co_X9_law : Cond.code yX9_law cX9_law 4 (some .long) ∈ gw := gw_t 788 (by decide +kernel) (by decide +kernel)
theorem iv_X9_law : Cond.instanceMethod yX9_law ∈ gw ∧ Cond.selects yX9_law.cls yX9_law yX9_law ∈ gw ∧ Cond.initialized yX9_law.cls ∈ gw := ⟨gw_t 786 (by decide +kernel) (by decide +kernel), gw_t 787 (by decide +kernel) (by decide +kernel), gw_t 1 (by decide +kernel) (by decide +kernel)⟩
theorem co_X4_stepsOn : Cond.code yX4_stepsOn cX4_stepsOn 3 (some .int) ∈ gw := gw_t 794 (by decide +kernel) (by decide +kernel)
theorem iv_X4_stepsOn : Cond.instanceMethod yX4_stepsOn ∈ gw ∧ Cond.selects yX4_stepsOn.cls yX4_stepsOn yX4_stepsOn ∈ gw ∧ Cond.initialized yX4_stepsOn.cls ∈ gw := ⟨gw_t 792 (by decide +kernel) (by decide +kernel), gw_t 793 (by decide +kernel) (by decide +kernel), gw_t 12 (by decide +kernel) (by decide +kernel)⟩
theorem co_X7_inPlan : Cond.code yX7_inPlan cX7_inPlan 5 (some .int) ∈ gw := gw_t 798 (by decide +kernel) (by decide +kernel)
theorem iv_X7_inPlan : Cond.instanceMethod yX7_inPlan ∈ gw ∧ Cond.selects yX7_inPlan.cls yX7_inPlan yX7_inPlan ∈ gw ∧ Cond.initialized yX7_inPlan.cls ∈ gw := ⟨gw_t 796 (by decide +kernel) (by decide +kernel), gw_t 797 (by decide +kernel) (by decide +kernel), gw_t 9 (by decide +kernel) (by decide +kernel)⟩
theorem co_X8_setNames : Cond.code yX8_setNames cX8_setNames 6 none ∈ gw := gw_t 802 (by decide +kernel) (by decide +kernel)
theorem iv_X8_setNames : Cond.instanceMethod yX8_setNames ∈ gw ∧ Cond.selects yX8_setNames.cls yX8_setNames yX8_setNames ∈ gw ∧ Cond.initialized yX8_setNames.cls ∈ gw := ⟨gw_t 800 (by decide +kernel) (by decide +kernel), gw_t 801 (by decide +kernel) (by decide +kernel), gw_t 11 (by decide +kernel) (by decide +kernel)⟩
theorem co_X2_mindsOthers : Cond.code yX2_mindsOthers cX2_mindsOthers 1 (some .boolean) ∈ gw := gw_t 806 (by decide +kernel) (by decide +kernel)
theorem iv_X2_mindsOthers : Cond.instanceMethod yX2_mindsOthers ∈ gw ∧ Cond.selects yX2_mindsOthers.cls yX2_mindsOthers yX2_mindsOthers ∈ gw ∧ Cond.initialized yX2_mindsOthers.cls ∈ gw := ⟨gw_t 804 (by decide +kernel) (by decide +kernel), gw_t 805 (by decide +kernel) (by decide +kernel), gw_t 10 (by decide +kernel) (by decide +kernel)⟩
theorem co_X2_workOut : Cond.code yX2_workOut cX2_workOut 5 (some .boolean) ∈ gw := gw_t 811 (by decide +kernel) (by decide +kernel)
theorem iv_X2_workOut : Cond.instanceMethod yX2_workOut ∈ gw ∧ Cond.selects yX2_workOut.cls yX2_workOut yX2_workOut ∈ gw ∧ Cond.initialized yX2_workOut.cls ∈ gw := ⟨gw_t 809 (by decide +kernel) (by decide +kernel), gw_t 810 (by decide +kernel) (by decide +kernel), gw_t 10 (by decide +kernel) (by decide +kernel)⟩
theorem co_X2_isWorkable : Cond.code yX2_isWorkable cX2_isWorkable 7 (some .boolean) ∈ gw := gw_t 815 (by decide +kernel) (by decide +kernel)
theorem st_X2_isWorkable : Cond.static yX2_isWorkable ∈ gw ∧ Cond.initialized yX2_isWorkable.cls ∈ gw := ⟨gw_t 814 (by decide +kernel) (by decide +kernel), gw_t 10 (by decide +kernel) (by decide +kernel)⟩
theorem co_X2_joined : Cond.code yX2_joined cX2_joined 5 (some .long) ∈ gw := gw_t 820 (by decide +kernel) (by decide +kernel)
theorem st_X2_joined : Cond.static yX2_joined ∈ gw ∧ Cond.initialized yX2_joined.cls ∈ gw := ⟨gw_t 819 (by decide +kernel) (by decide +kernel), gw_t 10 (by decide +kernel) (by decide +kernel)⟩
theorem co_X9_wear : Cond.code yX9_wear cX9_wear 3 (some .boolean) ∈ gw := gw_t 824 (by decide +kernel) (by decide +kernel)
theorem iv_X9_wear : Cond.instanceMethod yX9_wear ∈ gw ∧ Cond.selects yX9_wear.cls yX9_wear yX9_wear ∈ gw ∧ Cond.initialized yX9_wear.cls ∈ gw := ⟨gw_t 822 (by decide +kernel) (by decide +kernel), gw_t 823 (by decide +kernel) (by decide +kernel), gw_t 1 (by decide +kernel) (by decide +kernel)⟩
theorem co_X0_add : Cond.code yX0_add cX0_add 5 none ∈ gw := gw_t 828 (by decide +kernel) (by decide +kernel)
theorem iv_X0_add : Cond.instanceMethod yX0_add ∈ gw ∧ Cond.selects yX0_add.cls yX0_add yX0_add ∈ gw ∧ Cond.initialized yX0_add.cls ∈ gw := ⟨gw_t 826 (by decide +kernel) (by decide +kernel), gw_t 827 (by decide +kernel) (by decide +kernel), gw_t 14 (by decide +kernel) (by decide +kernel)⟩
theorem co_X0_dropFirst : Cond.code yX0_dropFirst cX0_dropFirst 2 none ∈ gw := gw_t 832 (by decide +kernel) (by decide +kernel)
theorem iv_X0_dropFirst : Cond.instanceMethod yX0_dropFirst ∈ gw ∧ Cond.selects yX0_dropFirst.cls yX0_dropFirst yX0_dropFirst ∈ gw ∧ Cond.initialized yX0_dropFirst.cls ∈ gw := ⟨gw_t 831 (by decide +kernel) (by decide +kernel), gw_s (q := (yX0_dropFirst, 5)) (List.mem_of_getElem? (i := 29) (by decide +kernel)), gw_t 14 (by decide +kernel) (by decide +kernel)⟩
theorem co_X9_goal : Cond.code yX9_goal cX9_goal 3 (some .boolean) ∈ gw := gw_t 836 (by decide +kernel) (by decide +kernel)
theorem iv_X9_goal : Cond.instanceMethod yX9_goal ∈ gw ∧ Cond.selects yX9_goal.cls yX9_goal yX9_goal ∈ gw ∧ Cond.initialized yX9_goal.cls ∈ gw := ⟨gw_t 834 (by decide +kernel) (by decide +kernel), gw_t 835 (by decide +kernel) (by decide +kernel), gw_t 1 (by decide +kernel) (by decide +kernel)⟩
theorem co_X9_plan : Cond.code yX9_plan cX9_plan 5 (some .boolean) ∈ gw := gw_t 840 (by decide +kernel) (by decide +kernel)
theorem iv_X9_plan : Cond.instanceMethod yX9_plan ∈ gw ∧ Cond.selects yX9_plan.cls yX9_plan yX9_plan ∈ gw ∧ Cond.initialized yX9_plan.cls ∈ gw := ⟨gw_t 838 (by decide +kernel) (by decide +kernel), gw_t 839 (by decide +kernel) (by decide +kernel), gw_t 1 (by decide +kernel) (by decide +kernel)⟩
theorem co_X9_lend : Cond.code yX9_lend cX9_lend 4 (some .int) ∈ gw := gw_t 844 (by decide +kernel) (by decide +kernel)
theorem iv_X9_lend : Cond.instanceMethod yX9_lend ∈ gw ∧ Cond.selects yX9_lend.cls yX9_lend yX9_lend ∈ gw ∧ Cond.initialized yX9_lend.cls ∈ gw := ⟨gw_t 842 (by decide +kernel) (by decide +kernel), gw_t 843 (by decide +kernel) (by decide +kernel), gw_t 1 (by decide +kernel) (by decide +kernel)⟩
theorem co_X9_go : Cond.code yX9_go cX9_go 3 (some .int) ∈ gw := gw_t 848 (by decide +kernel) (by decide +kernel)
theorem iv_X9_go : Cond.instanceMethod yX9_go ∈ gw ∧ Cond.selects yX9_go.cls yX9_go yX9_go ∈ gw ∧ Cond.initialized yX9_go.cls ∈ gw := ⟨gw_t 846 (by decide +kernel) (by decide +kernel), gw_t 847 (by decide +kernel) (by decide +kernel), gw_t 1 (by decide +kernel) (by decide +kernel)⟩
theorem co_X8_drawsWet : Cond.code yX8_drawsWet cX8_drawsWet 2 (some .boolean) ∈ gw := gw_t 852 (by decide +kernel) (by decide +kernel)
theorem iv_X8_drawsWet : Cond.instanceMethod yX8_drawsWet ∈ gw ∧ Cond.selects yX8_drawsWet.cls yX8_drawsWet yX8_drawsWet ∈ gw ∧ Cond.initialized yX8_drawsWet.cls ∈ gw := ⟨gw_t 850 (by decide +kernel) (by decide +kernel), gw_t 851 (by decide +kernel) (by decide +kernel), gw_t 11 (by decide +kernel) (by decide +kernel)⟩
theorem co_X8_passDay : Cond.code yX8_passDay cX8_passDay 4 none ∈ gw := gw_t 861 (by decide +kernel) (by decide +kernel)
theorem iv_X8_passDay : Cond.instanceMethod yX8_passDay ∈ gw ∧ Cond.selects yX8_passDay.cls yX8_passDay yX8_passDay ∈ gw ∧ Cond.initialized yX8_passDay.cls ∈ gw := ⟨gw_t 859 (by decide +kernel) (by decide +kernel), gw_t 860 (by decide +kernel) (by decide +kernel), gw_t 11 (by decide +kernel) (by decide +kernel)⟩
theorem co_X8_passPerson : Cond.code yX8_passPerson cX8_passPerson 10 none ∈ gw := gw_t 865 (by decide +kernel) (by decide +kernel)
theorem iv_X8_passPerson : Cond.instanceMethod yX8_passPerson ∈ gw ∧ Cond.selects yX8_passPerson.cls yX8_passPerson yX8_passPerson ∈ gw ∧ Cond.initialized yX8_passPerson.cls ∈ gw := ⟨gw_t 864 (by decide +kernel) (by decide +kernel), gw_s (q := (yX8_passPerson, 8)) (List.mem_of_getElem? (i := 30) (by decide +kernel)), gw_t 11 (by decide +kernel) (by decide +kernel)⟩
theorem co_X8_ruled : Cond.code yX8_ruled cX8_ruled 7 (some .int) ∈ gw := gw_t 871 (by decide +kernel) (by decide +kernel)
theorem iv_X8_ruled : Cond.instanceMethod yX8_ruled ∈ gw ∧ Cond.selects yX8_ruled.cls yX8_ruled yX8_ruled ∈ gw ∧ Cond.initialized yX8_ruled.cls ∈ gw := ⟨gw_t 870 (by decide +kernel) (by decide +kernel), gw_s (q := (yX8_ruled, 8)) (List.mem_of_getElem? (i := 31) (by decide +kernel)), gw_t 11 (by decide +kernel) (by decide +kernel)⟩
theorem co_J9_min_f86c9 : Cond.code yJ9_min_f86c9 cJ9_min_f86c9 4 (some .long) ∈ gw := gw_t 877 (by decide +kernel) (by decide +kernel)
theorem st_J9_min_f86c9 : Cond.static yJ9_min_f86c9 ∈ gw ∧ Cond.initialized yJ9_min_f86c9.cls ∈ gw := ⟨gw_t 876 (by decide +kernel) (by decide +kernel), gw_t 17 (by decide +kernel) (by decide +kernel)⟩
theorem co_J9_max_f86c9 : Cond.code yJ9_max_f86c9 cJ9_max_f86c9 4 (some .long) ∈ gw := gw_t 880 (by decide +kernel) (by decide +kernel)
theorem st_J9_max_f86c9 : Cond.static yJ9_max_f86c9 ∈ gw ∧ Cond.initialized yJ9_max_f86c9.cls ∈ gw := ⟨gw_t 879 (by decide +kernel) (by decide +kernel), gw_t 17 (by decide +kernel) (by decide +kernel)⟩
theorem co_X8_habitOf : Cond.code yX8_habitOf cX8_habitOf 2 (some .int) ∈ gw := gw_t 884 (by decide +kernel) (by decide +kernel)
theorem st_X8_habitOf : Cond.static yX8_habitOf ∈ gw ∧ Cond.initialized yX8_habitOf.cls ∈ gw := ⟨gw_t 883 (by decide +kernel) (by decide +kernel), gw_t 11 (by decide +kernel) (by decide +kernel)⟩
theorem co_X8_givePot : Cond.code yX8_givePot cX8_givePot 3 none ∈ gw := gw_t 888 (by decide +kernel) (by decide +kernel)
theorem iv_X8_givePot : Cond.instanceMethod yX8_givePot ∈ gw ∧ Cond.selects yX8_givePot.cls yX8_givePot yX8_givePot ∈ gw ∧ Cond.initialized yX8_givePot.cls ∈ gw := ⟨gw_t 887 (by decide +kernel) (by decide +kernel), gw_s (q := (yX8_givePot, 8)) (List.mem_of_getElem? (i := 32) (by decide +kernel)), gw_t 11 (by decide +kernel) (by decide +kernel)⟩
theorem co_X8_greatest : Cond.code yX8_greatest cX8_greatest 4 (some .int) ∈ gw := gw_t 892 (by decide +kernel) (by decide +kernel)
theorem iv_X8_greatest : Cond.instanceMethod yX8_greatest ∈ gw ∧ Cond.selects yX8_greatest.cls yX8_greatest yX8_greatest ∈ gw ∧ Cond.initialized yX8_greatest.cls ∈ gw := ⟨gw_t 890 (by decide +kernel) (by decide +kernel), gw_t 891 (by decide +kernel) (by decide +kernel), gw_t 11 (by decide +kernel) (by decide +kernel)⟩
theorem co_X9_ahead : Cond.code yX9_ahead cX9_ahead 5 (some .int) ∈ gw := gw_t 896 (by decide +kernel) (by decide +kernel)
theorem iv_X9_ahead : Cond.instanceMethod yX9_ahead ∈ gw ∧ Cond.selects yX9_ahead.cls yX9_ahead yX9_ahead ∈ gw ∧ Cond.initialized yX9_ahead.cls ∈ gw := ⟨gw_t 894 (by decide +kernel) (by decide +kernel), gw_t 895 (by decide +kernel) (by decide +kernel), gw_t 1 (by decide +kernel) (by decide +kernel)⟩
theorem co_X9_lookAhead : Cond.code yX9_lookAhead cX9_lookAhead 2 (some (.object "WristGoal$Person")) ∈ gw := gw_t 900 (by decide +kernel) (by decide +kernel)
theorem iv_X9_lookAhead : Cond.instanceMethod yX9_lookAhead ∈ gw ∧ Cond.selects yX9_lookAhead.cls yX9_lookAhead yX9_lookAhead ∈ gw ∧ Cond.initialized yX9_lookAhead.cls ∈ gw := ⟨gw_t 899 (by decide +kernel) (by decide +kernel), gw_s (q := (yX9_lookAhead, 12)) (List.mem_of_getElem? (i := 33) (by decide +kernel)), gw_t 1 (by decide +kernel) (by decide +kernel)⟩
theorem co_X8_copyFrom : Cond.code yX8_copyFrom cX8_copyFrom 3 none ∈ gw := gw_t 904 (by decide +kernel) (by decide +kernel)
theorem iv_X8_copyFrom : Cond.instanceMethod yX8_copyFrom ∈ gw ∧ Cond.selects yX8_copyFrom.cls yX8_copyFrom yX8_copyFrom ∈ gw ∧ Cond.initialized yX8_copyFrom.cls ∈ gw := ⟨gw_t 902 (by decide +kernel) (by decide +kernel), gw_t 903 (by decide +kernel) (by decide +kernel), gw_t 11 (by decide +kernel) (by decide +kernel)⟩
theorem co_X4_copyFrom : Cond.code yX4_copyFrom cX4_copyFrom 2 none ∈ gw := gw_t 908 (by decide +kernel) (by decide +kernel)
theorem iv_X4_copyFrom : Cond.instanceMethod yX4_copyFrom ∈ gw ∧ Cond.selects yX4_copyFrom.cls yX4_copyFrom yX4_copyFrom ∈ gw ∧ Cond.initialized yX4_copyFrom.cls ∈ gw := ⟨gw_t 906 (by decide +kernel) (by decide +kernel), gw_t 907 (by decide +kernel) (by decide +kernel), gw_t 12 (by decide +kernel) (by decide +kernel)⟩
theorem co_X9_passAsItGoes : Cond.code yX9_passAsItGoes cX9_passAsItGoes 4 none ∈ gw := gw_t 913 (by decide +kernel) (by decide +kernel)
theorem iv_X9_passAsItGoes : Cond.instanceMethod yX9_passAsItGoes ∈ gw ∧ Cond.selects yX9_passAsItGoes.cls yX9_passAsItGoes yX9_passAsItGoes ∈ gw ∧ Cond.initialized yX9_passAsItGoes.cls ∈ gw := ⟨gw_t 912 (by decide +kernel) (by decide +kernel), gw_s (q := (yX9_passAsItGoes, 12)) (List.mem_of_getElem? (i := 34) (by decide +kernel)), gw_t 1 (by decide +kernel) (by decide +kernel)⟩
theorem co_X9_isWetAsItGoes : Cond.code yX9_isWetAsItGoes cX9_isWetAsItGoes 1 (some .boolean) ∈ gw := gw_t 917 (by decide +kernel) (by decide +kernel)
theorem iv_X9_isWetAsItGoes : Cond.instanceMethod yX9_isWetAsItGoes ∈ gw ∧ Cond.selects yX9_isWetAsItGoes.cls yX9_isWetAsItGoes yX9_isWetAsItGoes ∈ gw ∧ Cond.initialized yX9_isWetAsItGoes.cls ∈ gw := ⟨gw_t 916 (by decide +kernel) (by decide +kernel), gw_s (q := (yX9_isWetAsItGoes, 12)) (List.mem_of_getElem? (i := 35) (by decide +kernel)), gw_t 1 (by decide +kernel) (by decide +kernel)⟩
theorem co_X9_reaches : Cond.code yX9_reaches cX9_reaches 5 (some .int) ∈ gw := gw_t 921 (by decide +kernel) (by decide +kernel)
theorem iv_X9_reaches : Cond.instanceMethod yX9_reaches ∈ gw ∧ Cond.selects yX9_reaches.cls yX9_reaches yX9_reaches ∈ gw ∧ Cond.initialized yX9_reaches.cls ∈ gw := ⟨gw_t 919 (by decide +kernel) (by decide +kernel), gw_t 920 (by decide +kernel) (by decide +kernel), gw_t 1 (by decide +kernel) (by decide +kernel)⟩
theorem co_X9_longest : Cond.code yX9_longest cX9_longest 6 (some .int) ∈ gw := gw_t 925 (by decide +kernel) (by decide +kernel)
theorem iv_X9_longest : Cond.instanceMethod yX9_longest ∈ gw ∧ Cond.selects yX9_longest.cls yX9_longest yX9_longest ∈ gw ∧ Cond.initialized yX9_longest.cls ∈ gw := ⟨gw_t 923 (by decide +kernel) (by decide +kernel), gw_t 924 (by decide +kernel) (by decide +kernel), gw_t 1 (by decide +kernel) (by decide +kernel)⟩
theorem co_X9_moves : Cond.code yX9_moves cX9_moves 9 (some .int) ∈ gw := gw_t 930 (by decide +kernel) (by decide +kernel)
theorem iv_X9_moves : Cond.instanceMethod yX9_moves ∈ gw ∧ Cond.selects yX9_moves.cls yX9_moves yX9_moves ∈ gw ∧ Cond.initialized yX9_moves.cls ∈ gw := ⟨gw_t 928 (by decide +kernel) (by decide +kernel), gw_t 929 (by decide +kernel) (by decide +kernel), gw_t 1 (by decide +kernel) (by decide +kernel)⟩
theorem co_X9_deeds : Cond.code yX9_deeds cX9_deeds 3 (some .int) ∈ gw := gw_t 934 (by decide +kernel) (by decide +kernel)
theorem iv_X9_deeds : Cond.instanceMethod yX9_deeds ∈ gw ∧ Cond.selects yX9_deeds.cls yX9_deeds yX9_deeds ∈ gw ∧ Cond.initialized yX9_deeds.cls ∈ gw := ⟨gw_t 932 (by decide +kernel) (by decide +kernel), gw_t 933 (by decide +kernel) (by decide +kernel), gw_t 1 (by decide +kernel) (by decide +kernel)⟩
theorem co_X9_findFewest : Cond.code yX9_findFewest cX9_findFewest 9 (some .boolean) ∈ gw := gw_t 938 (by decide +kernel) (by decide +kernel)
theorem iv_X9_findFewest : Cond.instanceMethod yX9_findFewest ∈ gw ∧ Cond.selects yX9_findFewest.cls yX9_findFewest yX9_findFewest ∈ gw ∧ Cond.initialized yX9_findFewest.cls ∈ gw := ⟨gw_t 937 (by decide +kernel) (by decide +kernel), gw_s (q := (yX9_findFewest, 12)) (List.mem_of_getElem? (i := 36) (by decide +kernel)), gw_t 1 (by decide +kernel) (by decide +kernel)⟩
theorem co_X9_amount : Cond.code yX9_amount cX9_amount 6 (some .int) ∈ gw := gw_t 943 (by decide +kernel) (by decide +kernel)
theorem st_X9_amount : Cond.static yX9_amount ∈ gw ∧ Cond.initialized yX9_amount.cls ∈ gw := ⟨gw_t 942 (by decide +kernel) (by decide +kernel), gw_t 1 (by decide +kernel) (by decide +kernel)⟩
theorem co_X9_leads : Cond.code yX9_leads cX9_leads 1 (some .int) ∈ gw := gw_t 947 (by decide +kernel) (by decide +kernel)
theorem iv_X9_leads : Cond.instanceMethod yX9_leads ∈ gw ∧ Cond.selects yX9_leads.cls yX9_leads yX9_leads ∈ gw ∧ Cond.initialized yX9_leads.cls ∈ gw := ⟨gw_t 945 (by decide +kernel) (by decide +kernel), gw_t 946 (by decide +kernel) (by decide +kernel), gw_t 1 (by decide +kernel) (by decide +kernel)⟩
theorem co_X9_winner : Cond.code yX9_winner cX9_winner 2 (some .int) ∈ gw := gw_t 952 (by decide +kernel) (by decide +kernel)
theorem iv_X9_winner : Cond.instanceMethod yX9_winner ∈ gw ∧ Cond.selects yX9_winner.cls yX9_winner yX9_winner ∈ gw ∧ Cond.initialized yX9_winner.cls ∈ gw := ⟨gw_t 950 (by decide +kernel) (by decide +kernel), gw_t 951 (by decide +kernel) (by decide +kernel), gw_t 1 (by decide +kernel) (by decide +kernel)⟩
theorem co_X9_daysToPot : Cond.code yX9_daysToPot cX9_daysToPot 1 (some .int) ∈ gw := gw_t 956 (by decide +kernel) (by decide +kernel)
theorem iv_X9_daysToPot : Cond.instanceMethod yX9_daysToPot ∈ gw ∧ Cond.selects yX9_daysToPot.cls yX9_daysToPot yX9_daysToPot ∈ gw ∧ Cond.initialized yX9_daysToPot.cls ∈ gw := ⟨gw_t 955 (by decide +kernel) (by decide +kernel), gw_s (q := (yX9_daysToPot, 12)) (List.mem_of_getElem? (i := 37) (by decide +kernel)), gw_t 1 (by decide +kernel) (by decide +kernel)⟩
theorem co_X9_lookAtAll : Cond.code yX9_lookAtAll cX9_lookAtAll 1 none ∈ gw := gw_t 960 (by decide +kernel) (by decide +kernel)
theorem iv_X9_lookAtAll : Cond.instanceMethod yX9_lookAtAll ∈ gw ∧ Cond.selects yX9_lookAtAll.cls yX9_lookAtAll yX9_lookAtAll ∈ gw ∧ Cond.initialized yX9_lookAtAll.cls ∈ gw := ⟨gw_t 959 (by decide +kernel) (by decide +kernel), gw_s (q := (yX9_lookAtAll, 12)) (List.mem_of_getElem? (i := 38) (by decide +kernel)), gw_t 1 (by decide +kernel) (by decide +kernel)⟩
theorem co_X9_needs : Cond.code yX9_needs cX9_needs 2 (some .int) ∈ gw := gw_t 964 (by decide +kernel) (by decide +kernel)
theorem iv_X9_needs : Cond.instanceMethod yX9_needs ∈ gw ∧ Cond.selects yX9_needs.cls yX9_needs yX9_needs ∈ gw ∧ Cond.initialized yX9_needs.cls ∈ gw := ⟨gw_t 962 (by decide +kernel) (by decide +kernel), gw_t 963 (by decide +kernel) (by decide +kernel), gw_t 1 (by decide +kernel) (by decide +kernel)⟩
theorem co_X9_neededOneByOne : Cond.code yX9_neededOneByOne cX9_neededOneByOne 3 (some .int) ∈ gw := gw_t 968 (by decide +kernel) (by decide +kernel)
theorem iv_X9_neededOneByOne : Cond.instanceMethod yX9_neededOneByOne ∈ gw ∧ Cond.selects yX9_neededOneByOne.cls yX9_neededOneByOne yX9_neededOneByOne ∈ gw ∧ Cond.initialized yX9_neededOneByOne.cls ∈ gw := ⟨gw_t 967 (by decide +kernel) (by decide +kernel), gw_s (q := (yX9_neededOneByOne, 12)) (List.mem_of_getElem? (i := 39) (by decide +kernel)), gw_t 1 (by decide +kernel) (by decide +kernel)⟩
theorem co_X9_winsWith : Cond.code yX9_winsWith cX9_winsWith 6 (some .boolean) ∈ gw := gw_t 972 (by decide +kernel) (by decide +kernel)
theorem iv_X9_winsWith : Cond.instanceMethod yX9_winsWith ∈ gw ∧ Cond.selects yX9_winsWith.cls yX9_winsWith yX9_winsWith ∈ gw ∧ Cond.initialized yX9_winsWith.cls ∈ gw := ⟨gw_t 971 (by decide +kernel) (by decide +kernel), gw_s (q := (yX9_winsWith, 12)) (List.mem_of_getElem? (i := 40) (by decide +kernel)), gw_t 1 (by decide +kernel) (by decide +kernel)⟩
theorem co_X9_neededByHalves : Cond.code yX9_neededByHalves cX9_neededByHalves 6 (some .int) ∈ gw := gw_t 976 (by decide +kernel) (by decide +kernel)
theorem iv_X9_neededByHalves : Cond.instanceMethod yX9_neededByHalves ∈ gw ∧ Cond.selects yX9_neededByHalves.cls yX9_neededByHalves yX9_neededByHalves ∈ gw ∧ Cond.initialized yX9_neededByHalves.cls ∈ gw := ⟨gw_t 975 (by decide +kernel) (by decide +kernel), gw_s (q := (yX9_neededByHalves, 12)) (List.mem_of_getElem? (i := 41) (by decide +kernel)), gw_t 1 (by decide +kernel) (by decide +kernel)⟩
theorem co_X9_rests : Cond.code yX9_rests cX9_rests 5 (some .int) ∈ gw := gw_t 980 (by decide +kernel) (by decide +kernel)
theorem iv_X9_rests : Cond.instanceMethod yX9_rests ∈ gw ∧ Cond.selects yX9_rests.cls yX9_rests yX9_rests ∈ gw ∧ Cond.initialized yX9_rests.cls ∈ gw := ⟨gw_t 978 (by decide +kernel) (by decide +kernel), gw_t 979 (by decide +kernel) (by decide +kernel), gw_t 1 (by decide +kernel) (by decide +kernel)⟩
theorem co_X9_chooseFurther : Cond.code yX9_chooseFurther cX9_chooseFurther 4 none ∈ gw := gw_t 984 (by decide +kernel) (by decide +kernel)
theorem iv_X9_chooseFurther : Cond.instanceMethod yX9_chooseFurther ∈ gw ∧ Cond.selects yX9_chooseFurther.cls yX9_chooseFurther yX9_chooseFurther ∈ gw ∧ Cond.initialized yX9_chooseFurther.cls ∈ gw := ⟨gw_t 983 (by decide +kernel) (by decide +kernel), gw_s (q := (yX9_chooseFurther, 12)) (List.mem_of_getElem? (i := 42) (by decide +kernel)), gw_t 1 (by decide +kernel) (by decide +kernel)⟩
theorem co_X9_isRest : Cond.code yX9_isRest cX9_isRest 7 (some .boolean) ∈ gw := gw_t 988 (by decide +kernel) (by decide +kernel)
theorem iv_X9_isRest : Cond.instanceMethod yX9_isRest ∈ gw ∧ Cond.selects yX9_isRest.cls yX9_isRest yX9_isRest ∈ gw ∧ Cond.initialized yX9_isRest.cls ∈ gw := ⟨gw_t 987 (by decide +kernel) (by decide +kernel), gw_s (q := (yX9_isRest, 12)) (List.mem_of_getElem? (i := 43) (by decide +kernel)), gw_t 1 (by decide +kernel) (by decide +kernel)⟩
theorem co_X9_gain : Cond.code yX9_gain cX9_gain 4 (some .int) ∈ gw := gw_t 992 (by decide +kernel) (by decide +kernel)
theorem iv_X9_gain : Cond.instanceMethod yX9_gain ∈ gw ∧ Cond.selects yX9_gain.cls yX9_gain yX9_gain ∈ gw ∧ Cond.initialized yX9_gain.cls ∈ gw := ⟨gw_t 991 (by decide +kernel) (by decide +kernel), gw_s (q := (yX9_gain, 12)) (List.mem_of_getElem? (i := 44) (by decide +kernel)), gw_t 1 (by decide +kernel) (by decide +kernel)⟩
theorem co_X9_rest : Cond.code yX9_rest cX9_rest 6 (some .int) ∈ gw := gw_t 996 (by decide +kernel) (by decide +kernel)
theorem iv_X9_rest : Cond.instanceMethod yX9_rest ∈ gw ∧ Cond.selects yX9_rest.cls yX9_rest yX9_rest ∈ gw ∧ Cond.initialized yX9_rest.cls ∈ gw := ⟨gw_t 994 (by decide +kernel) (by decide +kernel), gw_t 995 (by decide +kernel) (by decide +kernel), gw_t 1 (by decide +kernel) (by decide +kernel)⟩
theorem co_X9_rank : Cond.code yX9_rank cX9_rank 6 (some .int) ∈ gw := gw_t 1000 (by decide +kernel) (by decide +kernel)
theorem iv_X9_rank : Cond.instanceMethod yX9_rank ∈ gw ∧ Cond.selects yX9_rank.cls yX9_rank yX9_rank ∈ gw ∧ Cond.initialized yX9_rank.cls ∈ gw := ⟨gw_t 998 (by decide +kernel) (by decide +kernel), gw_t 999 (by decide +kernel) (by decide +kernel), gw_t 1 (by decide +kernel) (by decide +kernel)⟩
theorem co_X9_falls : Cond.code yX9_falls cX9_falls 4 (some .int) ∈ gw := gw_t 1004 (by decide +kernel) (by decide +kernel)
theorem iv_X9_falls : Cond.instanceMethod yX9_falls ∈ gw ∧ Cond.selects yX9_falls.cls yX9_falls yX9_falls ∈ gw ∧ Cond.initialized yX9_falls.cls ∈ gw := ⟨gw_t 1002 (by decide +kernel) (by decide +kernel), gw_t 1003 (by decide +kernel) (by decide +kernel), gw_t 1 (by decide +kernel) (by decide +kernel)⟩
theorem co_X9_earns : Cond.code yX9_earns cX9_earns 6 (some .int) ∈ gw := gw_t 1008 (by decide +kernel) (by decide +kernel)
theorem iv_X9_earns : Cond.instanceMethod yX9_earns ∈ gw ∧ Cond.selects yX9_earns.cls yX9_earns yX9_earns ∈ gw ∧ Cond.initialized yX9_earns.cls ∈ gw := ⟨gw_t 1006 (by decide +kernel) (by decide +kernel), gw_t 1007 (by decide +kernel) (by decide +kernel), gw_t 1 (by decide +kernel) (by decide +kernel)⟩
theorem co_X9_falseOnes : Cond.code yX9_falseOnes cX9_falseOnes 7 (some .int) ∈ gw := gw_t 1012 (by decide +kernel) (by decide +kernel)
theorem iv_X9_falseOnes : Cond.instanceMethod yX9_falseOnes ∈ gw ∧ Cond.selects yX9_falseOnes.cls yX9_falseOnes yX9_falseOnes ∈ gw ∧ Cond.initialized yX9_falseOnes.cls ∈ gw := ⟨gw_t 1010 (by decide +kernel) (by decide +kernel), gw_t 1011 (by decide +kernel) (by decide +kernel), gw_t 1 (by decide +kernel) (by decide +kernel)⟩
theorem co_X9_commonDivisor : Cond.code yX9_commonDivisor cX9_commonDivisor 6 (some .int) ∈ gw := gw_t 1015 (by decide +kernel) (by decide +kernel)
theorem st_X9_commonDivisor : Cond.static yX9_commonDivisor ∈ gw ∧ Cond.initialized yX9_commonDivisor.cls ∈ gw := ⟨gw_t 1014 (by decide +kernel) (by decide +kernel), gw_t 1 (by decide +kernel) (by decide +kernel)⟩
theorem co_X9_habit : Cond.code yX9_habit cX9_habit 4 (some .int) ∈ gw := gw_t 1019 (by decide +kernel) (by decide +kernel)
theorem iv_X9_habit : Cond.instanceMethod yX9_habit ∈ gw ∧ Cond.selects yX9_habit.cls yX9_habit yX9_habit ∈ gw ∧ Cond.initialized yX9_habit.cls ∈ gw := ⟨gw_t 1017 (by decide +kernel) (by decide +kernel), gw_t 1018 (by decide +kernel) (by decide +kernel), gw_t 1 (by decide +kernel) (by decide +kernel)⟩
theorem co_X9_breaks : Cond.code yX9_breaks cX9_breaks 5 (some .int) ∈ gw := gw_t 1023 (by decide +kernel) (by decide +kernel)
theorem iv_X9_breaks : Cond.instanceMethod yX9_breaks ∈ gw ∧ Cond.selects yX9_breaks.cls yX9_breaks yX9_breaks ∈ gw ∧ Cond.initialized yX9_breaks.cls ∈ gw := ⟨gw_t 1021 (by decide +kernel) (by decide +kernel), gw_t 1022 (by decide +kernel) (by decide +kernel), gw_t 1 (by decide +kernel) (by decide +kernel)⟩
theorem co_X9_note : Cond.code yX9_note cX9_note 5 (some .int) ∈ gw := gw_t 1027 (by decide +kernel) (by decide +kernel)
theorem iv_X9_note : Cond.instanceMethod yX9_note ∈ gw ∧ Cond.selects yX9_note.cls yX9_note yX9_note ∈ gw ∧ Cond.initialized yX9_note.cls ∈ gw := ⟨gw_t 1025 (by decide +kernel) (by decide +kernel), gw_t 1026 (by decide +kernel) (by decide +kernel), gw_t 1 (by decide +kernel) (by decide +kernel)⟩
theorem co_X3_add : Cond.code yX3_add cX3_add 5 (some .int) ∈ gw := gw_t 1032 (by decide +kernel) (by decide +kernel)
theorem iv_X3_add : Cond.instanceMethod yX3_add ∈ gw ∧ Cond.selects yX3_add.cls yX3_add yX3_add ∈ gw ∧ Cond.initialized yX3_add.cls ∈ gw := ⟨gw_t 1030 (by decide +kernel) (by decide +kernel), gw_t 1031 (by decide +kernel) (by decide +kernel), gw_t 13 (by decide +kernel) (by decide +kernel)⟩
theorem co_X9_out : Cond.code yX9_out cX9_out 2 (some .int) ∈ gw := gw_t 1036 (by decide +kernel) (by decide +kernel)
theorem iv_X9_out : Cond.instanceMethod yX9_out ∈ gw ∧ Cond.selects yX9_out.cls yX9_out yX9_out ∈ gw ∧ Cond.initialized yX9_out.cls ∈ gw := ⟨gw_t 1034 (by decide +kernel) (by decide +kernel), gw_t 1035 (by decide +kernel) (by decide +kernel), gw_t 1 (by decide +kernel) (by decide +kernel)⟩
theorem co_X3_addStrike : Cond.code yX3_addStrike cX3_addStrike 3 (some .int) ∈ gw := gw_t 1040 (by decide +kernel) (by decide +kernel)
theorem iv_X3_addStrike : Cond.instanceMethod yX3_addStrike ∈ gw ∧ Cond.selects yX3_addStrike.cls yX3_addStrike yX3_addStrike ∈ gw ∧ Cond.initialized yX3_addStrike.cls ∈ gw := ⟨gw_t 1038 (by decide +kernel) (by decide +kernel), gw_t 1039 (by decide +kernel) (by decide +kernel), gw_t 13 (by decide +kernel) (by decide +kernel)⟩
theorem co_X9_known : Cond.code yX9_known cX9_known 2 (some .boolean) ∈ gw := gw_t 1045 (by decide +kernel) (by decide +kernel)
theorem iv_X9_known : Cond.instanceMethod yX9_known ∈ gw ∧ Cond.selects yX9_known.cls yX9_known yX9_known ∈ gw ∧ Cond.initialized yX9_known.cls ∈ gw := ⟨gw_t 1043 (by decide +kernel) (by decide +kernel), gw_t 1044 (by decide +kernel) (by decide +kernel), gw_t 1 (by decide +kernel) (by decide +kernel)⟩
theorem co_X9_fits : Cond.code yX9_fits cX9_fits 5 (some .int) ∈ gw := gw_t 1049 (by decide +kernel) (by decide +kernel)
theorem iv_X9_fits : Cond.instanceMethod yX9_fits ∈ gw ∧ Cond.selects yX9_fits.cls yX9_fits yX9_fits ∈ gw ∧ Cond.initialized yX9_fits.cls ∈ gw := ⟨gw_t 1047 (by decide +kernel) (by decide +kernel), gw_t 1048 (by decide +kernel) (by decide +kernel), gw_t 1 (by decide +kernel) (by decide +kernel)⟩
theorem co_X3_findStruck : Cond.code yX3_findStruck cX3_findStruck 2 none ∈ gw := gw_t 1053 (by decide +kernel) (by decide +kernel)
theorem iv_X3_findStruck : Cond.instanceMethod yX3_findStruck ∈ gw ∧ Cond.selects yX3_findStruck.cls yX3_findStruck yX3_findStruck ∈ gw ∧ Cond.initialized yX3_findStruck.cls ∈ gw := ⟨gw_t 1051 (by decide +kernel) (by decide +kernel), gw_t 1052 (by decide +kernel) (by decide +kernel), gw_t 13 (by decide +kernel) (by decide +kernel)⟩
theorem co_X3_firstKnown : Cond.code yX3_firstKnown cX3_firstKnown 1 (some .int) ∈ gw := gw_t 1057 (by decide +kernel) (by decide +kernel)
theorem iv_X3_firstKnown : Cond.instanceMethod yX3_firstKnown ∈ gw ∧ Cond.selects yX3_firstKnown.cls yX3_firstKnown yX3_firstKnown ∈ gw ∧ Cond.initialized yX3_firstKnown.cls ∈ gw := ⟨gw_t 1055 (by decide +kernel) (by decide +kernel), gw_t 1056 (by decide +kernel) (by decide +kernel), gw_t 13 (by decide +kernel) (by decide +kernel)⟩
theorem co_X9_agreesWithNotes : Cond.code yX9_agreesWithNotes cX9_agreesWithNotes 6 (some .boolean) ∈ gw := gw_t 1061 (by decide +kernel) (by decide +kernel)
theorem iv_X9_agreesWithNotes : Cond.instanceMethod yX9_agreesWithNotes ∈ gw ∧ Cond.selects yX9_agreesWithNotes.cls yX9_agreesWithNotes yX9_agreesWithNotes ∈ gw ∧ Cond.initialized yX9_agreesWithNotes.cls ∈ gw := ⟨gw_t 1060 (by decide +kernel) (by decide +kernel), gw_s (q := (yX9_agreesWithNotes, 12)) (List.mem_of_getElem? (i := 45) (by decide +kernel)), gw_t 1 (by decide +kernel) (by decide +kernel)⟩
theorem co_X3_lastDay : Cond.code yX3_lastDay cX3_lastDay 3 (some .int) ∈ gw := gw_t 1065 (by decide +kernel) (by decide +kernel)
theorem iv_X3_lastDay : Cond.instanceMethod yX3_lastDay ∈ gw ∧ Cond.selects yX3_lastDay.cls yX3_lastDay yX3_lastDay ∈ gw ∧ Cond.initialized yX3_lastDay.cls ∈ gw := ⟨gw_t 1063 (by decide +kernel) (by decide +kernel), gw_t 1064 (by decide +kernel) (by decide +kernel), gw_t 13 (by decide +kernel) (by decide +kernel)⟩
theorem co_X3_isKnown : Cond.code yX3_isKnown cX3_isKnown 2 (some .boolean) ∈ gw := gw_t 1069 (by decide +kernel) (by decide +kernel)
theorem iv_X3_isKnown : Cond.instanceMethod yX3_isKnown ∈ gw ∧ Cond.selects yX3_isKnown.cls yX3_isKnown yX3_isKnown ∈ gw ∧ Cond.initialized yX3_isKnown.cls ∈ gw := ⟨gw_t 1068 (by decide +kernel) (by decide +kernel), gw_s (q := (yX3_isKnown, 8)) (List.mem_of_getElem? (i := 46) (by decide +kernel)), gw_t 13 (by decide +kernel) (by decide +kernel)⟩
theorem co_X3_agree : Cond.code yX3_agree cX3_agree 4 (some .boolean) ∈ gw := gw_t 1074 (by decide +kernel) (by decide +kernel)
theorem iv_X3_agree : Cond.instanceMethod yX3_agree ∈ gw ∧ Cond.selects yX3_agree.cls yX3_agree yX3_agree ∈ gw ∧ Cond.initialized yX3_agree.cls ∈ gw := ⟨gw_t 1072 (by decide +kernel) (by decide +kernel), gw_t 1073 (by decide +kernel) (by decide +kernel), gw_t 13 (by decide +kernel) (by decide +kernel)⟩
theorem co_X9_chance : Cond.code yX9_chance cX9_chance 11 (some .int) ∈ gw := gw_t 1078 (by decide +kernel) (by decide +kernel)
theorem iv_X9_chance : Cond.instanceMethod yX9_chance ∈ gw ∧ Cond.selects yX9_chance.cls yX9_chance yX9_chance ∈ gw ∧ Cond.initialized yX9_chance.cls ∈ gw := ⟨gw_t 1076 (by decide +kernel) (by decide +kernel), gw_t 1077 (by decide +kernel) (by decide +kernel), gw_t 1 (by decide +kernel) (by decide +kernel)⟩
theorem co_X9_tried : Cond.code yX9_tried cX9_tried 7 (some .int) ∈ gw := gw_t 1082 (by decide +kernel) (by decide +kernel)
theorem iv_X9_tried : Cond.instanceMethod yX9_tried ∈ gw ∧ Cond.selects yX9_tried.cls yX9_tried yX9_tried ∈ gw ∧ Cond.initialized yX9_tried.cls ∈ gw := ⟨gw_t 1080 (by decide +kernel) (by decide +kernel), gw_t 1081 (by decide +kernel) (by decide +kernel), gw_t 1 (by decide +kernel) (by decide +kernel)⟩
theorem co_X8_inAll : Cond.code yX8_inAll cX8_inAll 6 (some .int) ∈ gw := gw_t 1087 (by decide +kernel) (by decide +kernel)
theorem iv_X8_inAll : Cond.instanceMethod yX8_inAll ∈ gw ∧ Cond.selects yX8_inAll.cls yX8_inAll yX8_inAll ∈ gw ∧ Cond.initialized yX8_inAll.cls ∈ gw := ⟨gw_t 1085 (by decide +kernel) (by decide +kernel), gw_t 1086 (by decide +kernel) (by decide +kernel), gw_t 11 (by decide +kernel) (by decide +kernel)⟩
theorem co_X9_undo : Cond.code yX9_undo cX9_undo 1 (some .int) ∈ gw := gw_t 1091 (by decide +kernel) (by decide +kernel)
theorem iv_X9_undo : Cond.instanceMethod yX9_undo ∈ gw ∧ Cond.selects yX9_undo.cls yX9_undo yX9_undo ∈ gw ∧ Cond.initialized yX9_undo.cls ∈ gw := ⟨gw_t 1089 (by decide +kernel) (by decide +kernel), gw_t 1090 (by decide +kernel) (by decide +kernel), gw_t 1 (by decide +kernel) (by decide +kernel)⟩
theorem co_X0_takeBack : Cond.code yX0_takeBack cX0_takeBack 3 none ∈ gw := gw_t 1095 (by decide +kernel) (by decide +kernel)
theorem iv_X0_takeBack : Cond.instanceMethod yX0_takeBack ∈ gw ∧ Cond.selects yX0_takeBack.cls yX0_takeBack yX0_takeBack ∈ gw ∧ Cond.initialized yX0_takeBack.cls ∈ gw := ⟨gw_t 1093 (by decide +kernel) (by decide +kernel), gw_t 1094 (by decide +kernel) (by decide +kernel), gw_t 14 (by decide +kernel) (by decide +kernel)⟩
theorem co_X9_keep : Cond.code yX9_keep cX9_keep 1 (some .int) ∈ gw := gw_t 1099 (by decide +kernel) (by decide +kernel)
theorem iv_X9_keep : Cond.instanceMethod yX9_keep ∈ gw ∧ Cond.selects yX9_keep.cls yX9_keep yX9_keep ∈ gw ∧ Cond.initialized yX9_keep.cls ∈ gw := ⟨gw_t 1097 (by decide +kernel) (by decide +kernel), gw_t 1098 (by decide +kernel) (by decide +kernel), gw_t 1 (by decide +kernel) (by decide +kernel)⟩
theorem co_X9_back : Cond.code yX9_back cX9_back 1 (some .int) ∈ gw := gw_t 1103 (by decide +kernel) (by decide +kernel)
theorem iv_X9_back : Cond.instanceMethod yX9_back ∈ gw ∧ Cond.selects yX9_back.cls yX9_back yX9_back ∈ gw ∧ Cond.initialized yX9_back.cls ∈ gw := ⟨gw_t 1101 (by decide +kernel) (by decide +kernel), gw_t 1102 (by decide +kernel) (by decide +kernel), gw_t 1 (by decide +kernel) (by decide +kernel)⟩
theorem co_X9_count : Cond.code yX9_count cX9_count 2 (some .int) ∈ gw := gw_t 1107 (by decide +kernel) (by decide +kernel)
theorem iv_X9_count : Cond.instanceMethod yX9_count ∈ gw ∧ Cond.selects yX9_count.cls yX9_count yX9_count ∈ gw ∧ Cond.initialized yX9_count.cls ∈ gw := ⟨gw_t 1105 (by decide +kernel) (by decide +kernel), gw_t 1106 (by decide +kernel) (by decide +kernel), gw_t 1 (by decide +kernel) (by decide +kernel)⟩
theorem co_X9_man : Cond.code yX9_man cX9_man 4 (some .int) ∈ gw := gw_t 1117 (by decide +kernel) (by decide +kernel)
theorem iv_X9_man : Cond.instanceMethod yX9_man ∈ gw ∧ Cond.selects yX9_man.cls yX9_man yX9_man ∈ gw ∧ Cond.initialized yX9_man.cls ∈ gw := ⟨gw_t 1115 (by decide +kernel) (by decide +kernel), gw_t 1116 (by decide +kernel) (by decide +kernel), gw_t 1 (by decide +kernel) (by decide +kernel)⟩
theorem co_X10_init : Cond.code yX10_init cX10_init 1 none ∈ gw := gw_t 1204 (by decide +kernel) (by decide +kernel)
theorem co_X10_begins : Cond.code yX10_begins cX10_begins 1 none ∈ gw := gw_t 1209 (by decide +kernel) (by decide +kernel)
theorem iv_X10_begins : Cond.instanceMethod yX10_begins ∈ gw ∧ Cond.selects yX10_begins.cls yX10_begins yX10_begins ∈ gw ∧ Cond.initialized yX10_begins.cls ∈ gw := ⟨gw_t 1208 (by decide +kernel) (by decide +kernel), gw_s (q := (yX10_begins, 63)) (List.mem_of_getElem? (i := 48) (by decide +kernel)), gw_t 15 (by decide +kernel) (by decide +kernel)⟩
theorem co_X10_starts : Cond.code yX10_starts cX10_starts 5 none ∈ gw := gw_t 1213 (by decide +kernel) (by decide +kernel)
theorem iv_X10_starts : Cond.instanceMethod yX10_starts ∈ gw ∧ Cond.selects yX10_starts.cls yX10_starts yX10_starts ∈ gw ∧ Cond.initialized yX10_starts.cls ∈ gw := ⟨gw_t 1212 (by decide +kernel) (by decide +kernel), gw_s (q := (yX10_starts, 63)) (List.mem_of_getElem? (i := 49) (by decide +kernel)), gw_t 15 (by decide +kernel) (by decide +kernel)⟩
theorem co_X10_thrown : Cond.code yX10_thrown cX10_thrown 1 (some .int) ∈ gw := gw_t 1407 (by decide +kernel) (by decide +kernel)
theorem iv_X10_thrown : Cond.instanceMethod yX10_thrown ∈ gw ∧ Cond.selects yX10_thrown.cls yX10_thrown yX10_thrown ∈ gw ∧ Cond.initialized yX10_thrown.cls ∈ gw := ⟨gw_t 1405 (by decide +kernel) (by decide +kernel), gw_t 1406 (by decide +kernel) (by decide +kernel), gw_t 15 (by decide +kernel) (by decide +kernel)⟩
theorem co_X10_feed : Cond.code yX10_feed cX10_feed 8 (some .int) ∈ gw := gw_t 1411 (by decide +kernel) (by decide +kernel)
theorem iv_X10_feed : Cond.instanceMethod yX10_feed ∈ gw ∧ Cond.selects yX10_feed.cls yX10_feed yX10_feed ∈ gw ∧ Cond.initialized yX10_feed.cls ∈ gw := ⟨gw_t 1409 (by decide +kernel) (by decide +kernel), gw_t 1410 (by decide +kernel) (by decide +kernel), gw_t 15 (by decide +kernel) (by decide +kernel)⟩
theorem co_X10_text : Cond.code yX10_text cX10_text 3 (some .int) ∈ gw := gw_t 1415 (by decide +kernel) (by decide +kernel)
theorem iv_X10_text : Cond.instanceMethod yX10_text ∈ gw ∧ Cond.selects yX10_text.cls yX10_text yX10_text ∈ gw ∧ Cond.initialized yX10_text.cls ∈ gw := ⟨gw_t 1413 (by decide +kernel) (by decide +kernel), gw_t 1414 (by decide +kernel) (by decide +kernel), gw_t 15 (by decide +kernel) (by decide +kernel)⟩
theorem co_X10_reads : Cond.code yX10_reads cX10_reads 3 none ∈ gw := gw_t 1419 (by decide +kernel) (by decide +kernel)
theorem iv_X10_reads : Cond.instanceMethod yX10_reads ∈ gw ∧ Cond.selects yX10_reads.cls yX10_reads yX10_reads ∈ gw ∧ Cond.initialized yX10_reads.cls ∈ gw := ⟨gw_t 1418 (by decide +kernel) (by decide +kernel), gw_s (q := (yX10_reads, 63)) (List.mem_of_getElem? (i := 50) (by decide +kernel)), gw_t 15 (by decide +kernel) (by decide +kernel)⟩
theorem co_X10_token : Cond.code yX10_token cX10_token 2 none ∈ gw := gw_t 1423 (by decide +kernel) (by decide +kernel)
theorem iv_X10_token : Cond.instanceMethod yX10_token ∈ gw ∧ Cond.selects yX10_token.cls yX10_token yX10_token ∈ gw ∧ Cond.initialized yX10_token.cls ∈ gw := ⟨gw_t 1422 (by decide +kernel) (by decide +kernel), gw_s (q := (yX10_token, 63)) (List.mem_of_getElem? (i := 51) (by decide +kernel)), gw_t 15 (by decide +kernel) (by decide +kernel)⟩
theorem co_X10_here : Cond.code yX10_here cX10_here 1 (some .int) ∈ gw := gw_t 1427 (by decide +kernel) (by decide +kernel)
theorem iv_X10_here : Cond.instanceMethod yX10_here ∈ gw ∧ Cond.selects yX10_here.cls yX10_here yX10_here ∈ gw ∧ Cond.initialized yX10_here.cls ∈ gw := ⟨gw_t 1426 (by decide +kernel) (by decide +kernel), gw_s (q := (yX10_here, 63)) (List.mem_of_getElem? (i := 52) (by decide +kernel)), gw_t 15 (by decide +kernel) (by decide +kernel)⟩
theorem co_X10_isSmall : Cond.code yX10_isSmall cX10_isSmall 1 (some .boolean) ∈ gw := gw_t 1430 (by decide +kernel) (by decide +kernel)
theorem st_X10_isSmall : Cond.static yX10_isSmall ∈ gw ∧ Cond.initialized yX10_isSmall.cls ∈ gw := ⟨gw_t 1429 (by decide +kernel) (by decide +kernel), gw_t 15 (by decide +kernel) (by decide +kernel)⟩
theorem co_X10_word : Cond.code yX10_word cX10_word 4 (some .int) ∈ gw := gw_t 1434 (by decide +kernel) (by decide +kernel)
theorem iv_X10_word : Cond.instanceMethod yX10_word ∈ gw ∧ Cond.selects yX10_word.cls yX10_word yX10_word ∈ gw ∧ Cond.initialized yX10_word.cls ∈ gw := ⟨gw_t 1433 (by decide +kernel) (by decide +kernel), gw_s (q := (yX10_word, 63)) (List.mem_of_getElem? (i := 53) (by decide +kernel)), gw_t 15 (by decide +kernel) (by decide +kernel)⟩
theorem co_X10_name : Cond.code yX10_name cX10_name 2 none ∈ gw := gw_t 1441 (by decide +kernel) (by decide +kernel)
theorem iv_X10_name : Cond.instanceMethod yX10_name ∈ gw ∧ Cond.selects yX10_name.cls yX10_name yX10_name ∈ gw ∧ Cond.initialized yX10_name.cls ∈ gw := ⟨gw_t 1440 (by decide +kernel) (by decide +kernel), gw_s (q := (yX10_name, 63)) (List.mem_of_getElem? (i := 54) (by decide +kernel)), gw_t 15 (by decide +kernel) (by decide +kernel)⟩
theorem co_X10_isDigit : Cond.code yX10_isDigit cX10_isDigit 1 (some .boolean) ∈ gw := gw_t 1444 (by decide +kernel) (by decide +kernel)
theorem st_X10_isDigit : Cond.static yX10_isDigit ∈ gw ∧ Cond.initialized yX10_isDigit.cls ∈ gw := ⟨gw_t 1443 (by decide +kernel) (by decide +kernel), gw_t 15 (by decide +kernel) (by decide +kernel)⟩
theorem co_X10_sign : Cond.code yX10_sign cX10_sign 2 none ∈ gw := gw_t 1449 (by decide +kernel) (by decide +kernel)
theorem iv_X10_sign : Cond.instanceMethod yX10_sign ∈ gw ∧ Cond.selects yX10_sign.cls yX10_sign yX10_sign ∈ gw ∧ Cond.initialized yX10_sign.cls ∈ gw := ⟨gw_t 1448 (by decide +kernel) (by decide +kernel), gw_s (q := (yX10_sign, 63)) (List.mem_of_getElem? (i := 55) (by decide +kernel)), gw_t 15 (by decide +kernel) (by decide +kernel)⟩
theorem co_X10_line : Cond.code yX10_line cX10_line 4 none ∈ gw := gw_t 1453 (by decide +kernel) (by decide +kernel)
theorem iv_X10_line : Cond.instanceMethod yX10_line ∈ gw ∧ Cond.selects yX10_line.cls yX10_line yX10_line ∈ gw ∧ Cond.initialized yX10_line.cls ∈ gw := ⟨gw_t 1452 (by decide +kernel) (by decide +kernel), gw_s (q := (yX10_line, 63)) (List.mem_of_getElem? (i := 56) (by decide +kernel)), gw_t 15 (by decide +kernel) (by decide +kernel)⟩
theorem co_X10_wrong : Cond.code yX10_wrong cX10_wrong 2 none ∈ gw := gw_t 1457 (by decide +kernel) (by decide +kernel)
theorem iv_X10_wrong : Cond.instanceMethod yX10_wrong ∈ gw ∧ Cond.selects yX10_wrong.cls yX10_wrong yX10_wrong ∈ gw ∧ Cond.initialized yX10_wrong.cls ∈ gw := ⟨gw_t 1456 (by decide +kernel) (by decide +kernel), gw_s (q := (yX10_wrong, 63)) (List.mem_of_getElem? (i := 57) (by decide +kernel)), gw_t 15 (by decide +kernel) (by decide +kernel)⟩
theorem co_X10_isFull : Cond.code yX10_isFull cX10_isFull 2 (some .boolean) ∈ gw := gw_t 1461 (by decide +kernel) (by decide +kernel)
theorem iv_X10_isFull : Cond.instanceMethod yX10_isFull ∈ gw ∧ Cond.selects yX10_isFull.cls yX10_isFull yX10_isFull ∈ gw ∧ Cond.initialized yX10_isFull.cls ∈ gw := ⟨gw_t 1460 (by decide +kernel) (by decide +kernel), gw_s (q := (yX10_isFull, 63)) (List.mem_of_getElem? (i := 58) (by decide +kernel)), gw_t 15 (by decide +kernel) (by decide +kernel)⟩
theorem co_X10_fresher : Cond.code yX10_fresher cX10_fresher 2 (some .int) ∈ gw := gw_t 1465 (by decide +kernel) (by decide +kernel)
theorem iv_X10_fresher : Cond.instanceMethod yX10_fresher ∈ gw ∧ Cond.selects yX10_fresher.cls yX10_fresher yX10_fresher ∈ gw ∧ Cond.initialized yX10_fresher.cls ∈ gw := ⟨gw_t 1464 (by decide +kernel) (by decide +kernel), gw_s (q := (yX10_fresher, 63)) (List.mem_of_getElem? (i := 59) (by decide +kernel)), gw_t 15 (by decide +kernel) (by decide +kernel)⟩
theorem co_X10_fresh : Cond.code yX10_fresh cX10_fresh 5 (some .int) ∈ gw := gw_t 1469 (by decide +kernel) (by decide +kernel)
theorem iv_X10_fresh : Cond.instanceMethod yX10_fresh ∈ gw ∧ Cond.selects yX10_fresh.cls yX10_fresh yX10_fresh ∈ gw ∧ Cond.initialized yX10_fresh.cls ∈ gw := ⟨gw_t 1468 (by decide +kernel) (by decide +kernel), gw_s (q := (yX10_fresh, 63)) (List.mem_of_getElem? (i := 60) (by decide +kernel)), gw_t 15 (by decide +kernel) (by decide +kernel)⟩
theorem co_X10_found : Cond.code yX10_found cX10_found 5 (some .int) ∈ gw := gw_t 1472 (by decide +kernel) (by decide +kernel)
theorem st_X10_found : Cond.static yX10_found ∈ gw ∧ Cond.initialized yX10_found.cls ∈ gw := ⟨gw_t 1471 (by decide +kernel) (by decide +kernel), gw_t 15 (by decide +kernel) (by decide +kernel)⟩
theorem co_X10_numeral : Cond.code yX10_numeral cX10_numeral 4 (some .int) ∈ gw := gw_t 1476 (by decide +kernel) (by decide +kernel)
theorem iv_X10_numeral : Cond.instanceMethod yX10_numeral ∈ gw ∧ Cond.selects yX10_numeral.cls yX10_numeral yX10_numeral ∈ gw ∧ Cond.initialized yX10_numeral.cls ∈ gw := ⟨gw_t 1475 (by decide +kernel) (by decide +kernel), gw_s (q := (yX10_numeral, 63)) (List.mem_of_getElem? (i := 61) (by decide +kernel)), gw_t 15 (by decide +kernel) (by decide +kernel)⟩
theorem co_X10_planLine : Cond.code yX10_planLine cX10_planLine 5 none ∈ gw := gw_t 1480 (by decide +kernel) (by decide +kernel)
theorem iv_X10_planLine : Cond.instanceMethod yX10_planLine ∈ gw ∧ Cond.selects yX10_planLine.cls yX10_planLine yX10_planLine ∈ gw ∧ Cond.initialized yX10_planLine.cls ∈ gw := ⟨gw_t 1479 (by decide +kernel) (by decide +kernel), gw_s (q := (yX10_planLine, 63)) (List.mem_of_getElem? (i := 62) (by decide +kernel)), gw_t 15 (by decide +kernel) (by decide +kernel)⟩
theorem co_X10_toldAhead : Cond.code yX10_toldAhead cX10_toldAhead 4 (some .int) ∈ gw := gw_t 1484 (by decide +kernel) (by decide +kernel)
theorem iv_X10_toldAhead : Cond.instanceMethod yX10_toldAhead ∈ gw ∧ Cond.selects yX10_toldAhead.cls yX10_toldAhead yX10_toldAhead ∈ gw ∧ Cond.initialized yX10_toldAhead.cls ∈ gw := ⟨gw_t 1483 (by decide +kernel) (by decide +kernel), gw_s (q := (yX10_toldAhead, 63)) (List.mem_of_getElem? (i := 63) (by decide +kernel)), gw_t 15 (by decide +kernel) (by decide +kernel)⟩
theorem co_X10_goOn : Cond.code yX10_goOn cX10_goOn 1 none ∈ gw := gw_t 1488 (by decide +kernel) (by decide +kernel)
theorem iv_X10_goOn : Cond.instanceMethod yX10_goOn ∈ gw ∧ Cond.selects yX10_goOn.cls yX10_goOn yX10_goOn ∈ gw ∧ Cond.initialized yX10_goOn.cls ∈ gw := ⟨gw_t 1487 (by decide +kernel) (by decide +kernel), gw_s (q := (yX10_goOn, 63)) (List.mem_of_getElem? (i := 64) (by decide +kernel)), gw_t 15 (by decide +kernel) (by decide +kernel)⟩
theorem co_X10_lawLine : Cond.code yX10_lawLine cX10_lawLine 2 none ∈ gw := gw_t 1492 (by decide +kernel) (by decide +kernel)
theorem iv_X10_lawLine : Cond.instanceMethod yX10_lawLine ∈ gw ∧ Cond.selects yX10_lawLine.cls yX10_lawLine yX10_lawLine ∈ gw ∧ Cond.initialized yX10_lawLine.cls ∈ gw := ⟨gw_t 1491 (by decide +kernel) (by decide +kernel), gw_s (q := (yX10_lawLine, 63)) (List.mem_of_getElem? (i := 65) (by decide +kernel)), gw_t 15 (by decide +kernel) (by decide +kernel)⟩
theorem co_X10_expression : Cond.code yX10_expression cX10_expression 1 none ∈ gw := gw_t 1496 (by decide +kernel) (by decide +kernel)
theorem iv_X10_expression : Cond.instanceMethod yX10_expression ∈ gw ∧ Cond.selects yX10_expression.cls yX10_expression yX10_expression ∈ gw ∧ Cond.initialized yX10_expression.cls ∈ gw := ⟨gw_t 1495 (by decide +kernel) (by decide +kernel), gw_s (q := (yX10_expression, 63)) (List.mem_of_getElem? (i := 66) (by decide +kernel)), gw_t 15 (by decide +kernel) (by decide +kernel)⟩
theorem co_X10_conjunction : Cond.code yX10_conjunction cX10_conjunction 1 none ∈ gw := gw_t 1500 (by decide +kernel) (by decide +kernel)
theorem iv_X10_conjunction : Cond.instanceMethod yX10_conjunction ∈ gw ∧ Cond.selects yX10_conjunction.cls yX10_conjunction yX10_conjunction ∈ gw ∧ Cond.initialized yX10_conjunction.cls ∈ gw := ⟨gw_t 1499 (by decide +kernel) (by decide +kernel), gw_s (q := (yX10_conjunction, 63)) (List.mem_of_getElem? (i := 67) (by decide +kernel)), gw_t 15 (by decide +kernel) (by decide +kernel)⟩
theorem co_X10_negation : Cond.code yX10_negation cX10_negation 2 none ∈ gw := gw_t 1504 (by decide +kernel) (by decide +kernel)
theorem iv_X10_negation : Cond.instanceMethod yX10_negation ∈ gw ∧ Cond.selects yX10_negation.cls yX10_negation yX10_negation ∈ gw ∧ Cond.initialized yX10_negation.cls ∈ gw := ⟨gw_t 1503 (by decide +kernel) (by decide +kernel), gw_s (q := (yX10_negation, 63)) (List.mem_of_getElem? (i := 68) (by decide +kernel)), gw_t 15 (by decide +kernel) (by decide +kernel)⟩
theorem co_X10_isWord : Cond.code yX10_isWord cX10_isWord 2 (some .boolean) ∈ gw := gw_t 1508 (by decide +kernel) (by decide +kernel)
theorem iv_X10_isWord : Cond.instanceMethod yX10_isWord ∈ gw ∧ Cond.selects yX10_isWord.cls yX10_isWord yX10_isWord ∈ gw ∧ Cond.initialized yX10_isWord.cls ∈ gw := ⟨gw_t 1507 (by decide +kernel) (by decide +kernel), gw_s (q := (yX10_isWord, 63)) (List.mem_of_getElem? (i := 69) (by decide +kernel)), gw_t 15 (by decide +kernel) (by decide +kernel)⟩
theorem co_X10_knot : Cond.code yX10_knot cX10_knot 1 none ∈ gw := gw_t 1512 (by decide +kernel) (by decide +kernel)
theorem iv_X10_knot : Cond.instanceMethod yX10_knot ∈ gw ∧ Cond.selects yX10_knot.cls yX10_knot yX10_knot ∈ gw ∧ Cond.initialized yX10_knot.cls ∈ gw := ⟨gw_t 1511 (by decide +kernel) (by decide +kernel), gw_s (q := (yX10_knot, 63)) (List.mem_of_getElem? (i := 70) (by decide +kernel)), gw_t 15 (by decide +kernel) (by decide +kernel)⟩
theorem co_X10_puts : Cond.code yX10_puts cX10_puts 3 none ∈ gw := gw_t 1516 (by decide +kernel) (by decide +kernel)
theorem iv_X10_puts : Cond.instanceMethod yX10_puts ∈ gw ∧ Cond.selects yX10_puts.cls yX10_puts yX10_puts ∈ gw ∧ Cond.initialized yX10_puts.cls ∈ gw := ⟨gw_t 1515 (by decide +kernel) (by decide +kernel), gw_s (q := (yX10_puts, 63)) (List.mem_of_getElem? (i := 71) (by decide +kernel)), gw_t 15 (by decide +kernel) (by decide +kernel)⟩
theorem co_X10_sum : Cond.code yX10_sum cX10_sum 2 none ∈ gw := gw_t 1520 (by decide +kernel) (by decide +kernel)
theorem iv_X10_sum : Cond.instanceMethod yX10_sum ∈ gw ∧ Cond.selects yX10_sum.cls yX10_sum yX10_sum ∈ gw ∧ Cond.initialized yX10_sum.cls ∈ gw := ⟨gw_t 1519 (by decide +kernel) (by decide +kernel), gw_s (q := (yX10_sum, 63)) (List.mem_of_getElem? (i := 72) (by decide +kernel)), gw_t 15 (by decide +kernel) (by decide +kernel)⟩
theorem co_X10_product : Cond.code yX10_product cX10_product 2 none ∈ gw := gw_t 1524 (by decide +kernel) (by decide +kernel)
theorem iv_X10_product : Cond.instanceMethod yX10_product ∈ gw ∧ Cond.selects yX10_product.cls yX10_product yX10_product ∈ gw ∧ Cond.initialized yX10_product.cls ∈ gw := ⟨gw_t 1523 (by decide +kernel) (by decide +kernel), gw_s (q := (yX10_product, 63)) (List.mem_of_getElem? (i := 73) (by decide +kernel)), gw_t 15 (by decide +kernel) (by decide +kernel)⟩
theorem co_X10_primary : Cond.code yX10_primary cX10_primary 2 none ∈ gw := gw_t 1528 (by decide +kernel) (by decide +kernel)
theorem iv_X10_primary : Cond.instanceMethod yX10_primary ∈ gw ∧ Cond.selects yX10_primary.cls yX10_primary yX10_primary ∈ gw ∧ Cond.initialized yX10_primary.cls ∈ gw := ⟨gw_t 1527 (by decide +kernel) (by decide +kernel), gw_s (q := (yX10_primary, 63)) (List.mem_of_getElem? (i := 74) (by decide +kernel)), gw_t 15 (by decide +kernel) (by decide +kernel)⟩
theorem co_X10_isSign : Cond.code yX10_isSign cX10_isSign 2 (some .boolean) ∈ gw := gw_t 1532 (by decide +kernel) (by decide +kernel)
theorem iv_X10_isSign : Cond.instanceMethod yX10_isSign ∈ gw ∧ Cond.selects yX10_isSign.cls yX10_isSign yX10_isSign ∈ gw ∧ Cond.initialized yX10_isSign.cls ∈ gw := ⟨gw_t 1531 (by decide +kernel) (by decide +kernel), gw_s (q := (yX10_isSign, 63)) (List.mem_of_getElem? (i := 75) (by decide +kernel)), gw_t 15 (by decide +kernel) (by decide +kernel)⟩
theorem co_X10_half : Cond.code yX10_half cX10_half 3 none ∈ gw := gw_t 1535 (by decide +kernel) (by decide +kernel)
theorem st_X10_half : Cond.static yX10_half ∈ gw ∧ Cond.initialized yX10_half.cls ∈ gw := ⟨gw_t 1534 (by decide +kernel) (by decide +kernel), gw_t 15 (by decide +kernel) (by decide +kernel)⟩
theorem co_X10_fault : Cond.code yX10_fault cX10_fault 2 (some .int) ∈ gw := gw_t 1539 (by decide +kernel) (by decide +kernel)
theorem iv_X10_fault : Cond.instanceMethod yX10_fault ∈ gw ∧ Cond.selects yX10_fault.cls yX10_fault yX10_fault ∈ gw ∧ Cond.initialized yX10_fault.cls ∈ gw := ⟨gw_t 1537 (by decide +kernel) (by decide +kernel), gw_t 1538 (by decide +kernel) (by decide +kernel), gw_t 15 (by decide +kernel) (by decide +kernel)⟩
theorem co_X10_named : Cond.code yX10_named cX10_named 3 (some .int) ∈ gw := gw_t 1543 (by decide +kernel) (by decide +kernel)
theorem iv_X10_named : Cond.instanceMethod yX10_named ∈ gw ∧ Cond.selects yX10_named.cls yX10_named yX10_named ∈ gw ∧ Cond.initialized yX10_named.cls ∈ gw := ⟨gw_t 1541 (by decide +kernel) (by decide +kernel), gw_t 1542 (by decide +kernel) (by decide +kernel), gw_t 15 (by decide +kernel) (by decide +kernel)⟩
theorem co_X10_man : Cond.code yX10_man cX10_man 3 (some .int) ∈ gw := gw_t 1547 (by decide +kernel) (by decide +kernel)
theorem iv_X10_man : Cond.instanceMethod yX10_man ∈ gw ∧ Cond.selects yX10_man.cls yX10_man yX10_man ∈ gw ∧ Cond.initialized yX10_man.cls ∈ gw := ⟨gw_t 1545 (by decide +kernel) (by decide +kernel), gw_t 1546 (by decide +kernel) (by decide +kernel), gw_t 15 (by decide +kernel) (by decide +kernel)⟩
theorem co_X10_isMan : Cond.code yX10_isMan cX10_isMan 2 (some .boolean) ∈ gw := gw_t 1551 (by decide +kernel) (by decide +kernel)
theorem iv_X10_isMan : Cond.instanceMethod yX10_isMan ∈ gw ∧ Cond.selects yX10_isMan.cls yX10_isMan yX10_isMan ∈ gw ∧ Cond.initialized yX10_isMan.cls ∈ gw := ⟨gw_t 1550 (by decide +kernel) (by decide +kernel), gw_s (q := (yX10_isMan, 63)) (List.mem_of_getElem? (i := 76) (by decide +kernel)), gw_t 15 (by decide +kernel) (by decide +kernel)⟩
theorem co_X10_has : Cond.code yX10_has cX10_has 3 (some .int) ∈ gw := gw_t 1555 (by decide +kernel) (by decide +kernel)
theorem iv_X10_has : Cond.instanceMethod yX10_has ∈ gw ∧ Cond.selects yX10_has.cls yX10_has yX10_has ∈ gw ∧ Cond.initialized yX10_has.cls ∈ gw := ⟨gw_t 1553 (by decide +kernel) (by decide +kernel), gw_t 1554 (by decide +kernel) (by decide +kernel), gw_t 15 (by decide +kernel) (by decide +kernel)⟩
theorem co_X10_deed : Cond.code yX10_deed cX10_deed 3 (some .int) ∈ gw := gw_t 1559 (by decide +kernel) (by decide +kernel)
theorem iv_X10_deed : Cond.instanceMethod yX10_deed ∈ gw ∧ Cond.selects yX10_deed.cls yX10_deed yX10_deed ∈ gw ∧ Cond.initialized yX10_deed.cls ∈ gw := ⟨gw_t 1557 (by decide +kernel) (by decide +kernel), gw_t 1558 (by decide +kernel) (by decide +kernel), gw_t 15 (by decide +kernel) (by decide +kernel)⟩
theorem co_X10_isDeed : Cond.code yX10_isDeed cX10_isDeed 2 (some .boolean) ∈ gw := gw_t 1563 (by decide +kernel) (by decide +kernel)
theorem iv_X10_isDeed : Cond.instanceMethod yX10_isDeed ∈ gw ∧ Cond.selects yX10_isDeed.cls yX10_isDeed yX10_isDeed ∈ gw ∧ Cond.initialized yX10_isDeed.cls ∈ gw := ⟨gw_t 1562 (by decide +kernel) (by decide +kernel), gw_s (q := (yX10_isDeed, 63)) (List.mem_of_getElem? (i := 77) (by decide +kernel)), gw_t 15 (by decide +kernel) (by decide +kernel)⟩
theorem co_X10_times : Cond.code yX10_times cX10_times 3 (some .int) ∈ gw := gw_t 1567 (by decide +kernel) (by decide +kernel)
theorem iv_X10_times : Cond.instanceMethod yX10_times ∈ gw ∧ Cond.selects yX10_times.cls yX10_times yX10_times ∈ gw ∧ Cond.initialized yX10_times.cls ∈ gw := ⟨gw_t 1565 (by decide +kernel) (by decide +kernel), gw_t 1566 (by decide +kernel) (by decide +kernel), gw_t 15 (by decide +kernel) (by decide +kernel)⟩
theorem co_X10_law : Cond.code yX10_law cX10_law 4 (some .long) ∈ gw := gw_t 1571 (by decide +kernel) (by decide +kernel)
theorem iv_X10_law : Cond.instanceMethod yX10_law ∈ gw ∧ Cond.selects yX10_law.cls yX10_law yX10_law ∈ gw ∧ Cond.initialized yX10_law.cls ∈ gw := ⟨gw_t 1569 (by decide +kernel) (by decide +kernel), gw_t 1570 (by decide +kernel) (by decide +kernel), gw_t 15 (by decide +kernel) (by decide +kernel)⟩
theorem co_X10_hasLaw : Cond.code yX10_hasLaw cX10_hasLaw 2 (some .boolean) ∈ gw := gw_t 1575 (by decide +kernel) (by decide +kernel)
theorem iv_X10_hasLaw : Cond.instanceMethod yX10_hasLaw ∈ gw ∧ Cond.selects yX10_hasLaw.cls yX10_hasLaw yX10_hasLaw ∈ gw ∧ Cond.initialized yX10_hasLaw.cls ∈ gw := ⟨gw_t 1574 (by decide +kernel) (by decide +kernel), gw_s (q := (yX10_hasLaw, 63)) (List.mem_of_getElem? (i := 78) (by decide +kernel)), gw_t 15 (by decide +kernel) (by decide +kernel)⟩
theorem co_X10_deedSteps : Cond.code yX10_deedSteps cX10_deedSteps 6 (some .int) ∈ gw := gw_t 1580 (by decide +kernel) (by decide +kernel)
theorem iv_X10_deedSteps : Cond.instanceMethod yX10_deedSteps ∈ gw ∧ Cond.selects yX10_deedSteps.cls yX10_deedSteps yX10_deedSteps ∈ gw ∧ Cond.initialized yX10_deedSteps.cls ∈ gw := ⟨gw_t 1579 (by decide +kernel) (by decide +kernel), gw_s (q := (yX10_deedSteps, 63)) (List.mem_of_getElem? (i := 79) (by decide +kernel)), gw_t 15 (by decide +kernel) (by decide +kernel)⟩
theorem co_X10_calls : Cond.code yX10_calls cX10_calls 5 none ∈ gw := gw_t 1584 (by decide +kernel) (by decide +kernel)
theorem iv_X10_calls : Cond.instanceMethod yX10_calls ∈ gw ∧ Cond.selects yX10_calls.cls yX10_calls yX10_calls ∈ gw ∧ Cond.initialized yX10_calls.cls ∈ gw := ⟨gw_t 1583 (by decide +kernel) (by decide +kernel), gw_s (q := (yX10_calls, 63)) (List.mem_of_getElem? (i := 80) (by decide +kernel)), gw_t 15 (by decide +kernel) (by decide +kernel)⟩
theorem co_X10_greatest : Cond.code yX10_greatest cX10_greatest 4 (some .int) ∈ gw := gw_t 1589 (by decide +kernel) (by decide +kernel)
theorem iv_X10_greatest : Cond.instanceMethod yX10_greatest ∈ gw ∧ Cond.selects yX10_greatest.cls yX10_greatest yX10_greatest ∈ gw ∧ Cond.initialized yX10_greatest.cls ∈ gw := ⟨gw_t 1588 (by decide +kernel) (by decide +kernel), gw_s (q := (yX10_greatest, 63)) (List.mem_of_getElem? (i := 81) (by decide +kernel)), gw_t 15 (by decide +kernel) (by decide +kernel)⟩
theorem co_X10_isThere : Cond.code yX10_isThere cX10_isThere 2 (some .boolean) ∈ gw := gw_t 1593 (by decide +kernel) (by decide +kernel)
theorem iv_X10_isThere : Cond.instanceMethod yX10_isThere ∈ gw ∧ Cond.selects yX10_isThere.cls yX10_isThere yX10_isThere ∈ gw ∧ Cond.initialized yX10_isThere.cls ∈ gw := ⟨gw_t 1592 (by decide +kernel) (by decide +kernel), gw_s (q := (yX10_isThere, 63)) (List.mem_of_getElem? (i := 82) (by decide +kernel)), gw_t 15 (by decide +kernel) (by decide +kernel)⟩
theorem co_X10_goes : Cond.code yX10_goes cX10_goes 3 (some .boolean) ∈ gw := gw_t 1597 (by decide +kernel) (by decide +kernel)
theorem iv_X10_goes : Cond.instanceMethod yX10_goes ∈ gw ∧ Cond.selects yX10_goes.cls yX10_goes yX10_goes ∈ gw ∧ Cond.initialized yX10_goes.cls ∈ gw := ⟨gw_t 1596 (by decide +kernel) (by decide +kernel), gw_s (q := (yX10_goes, 63)) (List.mem_of_getElem? (i := 83) (by decide +kernel)), gw_t 15 (by decide +kernel) (by decide +kernel)⟩
theorem co_X10_works : Cond.code yX10_works cX10_works 8 (some .boolean) ∈ gw := gw_t 1601 (by decide +kernel) (by decide +kernel)
theorem iv_X10_works : Cond.instanceMethod yX10_works ∈ gw ∧ Cond.selects yX10_works.cls yX10_works yX10_works ∈ gw ∧ Cond.initialized yX10_works.cls ∈ gw := ⟨gw_t 1600 (by decide +kernel) (by decide +kernel), gw_s (q := (yX10_works, 63)) (List.mem_of_getElem? (i := 84) (by decide +kernel)), gw_t 15 (by decide +kernel) (by decide +kernel)⟩
theorem co_X10_is : Cond.code yX10_is cX10_is 1 (some .long) ∈ gw := gw_t 1604 (by decide +kernel) (by decide +kernel)
theorem st_X10_is : Cond.static yX10_is ∈ gw ∧ Cond.initialized yX10_is.cls ∈ gw := ⟨gw_t 1603 (by decide +kernel) (by decide +kernel), gw_t 15 (by decide +kernel) (by decide +kernel)⟩
theorem co_J9_abs_067f4 : Cond.code yJ9_abs_067f4 cJ9_abs_067f4 2 (some .long) ∈ gw := gw_t 1607 (by decide +kernel) (by decide +kernel)
theorem st_J9_abs_067f4 : Cond.static yJ9_abs_067f4 ∈ gw ∧ Cond.initialized yJ9_abs_067f4.cls ∈ gw := ⟨gw_t 1606 (by decide +kernel) (by decide +kernel), gw_t 17 (by decide +kernel) (by decide +kernel)⟩
theorem co_X10_wear : Cond.code yX10_wear cX10_wear 3 (some .boolean) ∈ gw := gw_t 1613 (by decide +kernel) (by decide +kernel)
theorem iv_X10_wear : Cond.instanceMethod yX10_wear ∈ gw ∧ Cond.selects yX10_wear.cls yX10_wear yX10_wear ∈ gw ∧ Cond.initialized yX10_wear.cls ∈ gw := ⟨gw_t 1611 (by decide +kernel) (by decide +kernel), gw_t 1612 (by decide +kernel) (by decide +kernel), gw_t 15 (by decide +kernel) (by decide +kernel)⟩
theorem co_X10_keepNow : Cond.code yX10_keepNow cX10_keepNow 2 none ∈ gw := gw_t 1617 (by decide +kernel) (by decide +kernel)
theorem iv_X10_keepNow : Cond.instanceMethod yX10_keepNow ∈ gw ∧ Cond.selects yX10_keepNow.cls yX10_keepNow yX10_keepNow ∈ gw ∧ Cond.initialized yX10_keepNow.cls ∈ gw := ⟨gw_t 1616 (by decide +kernel) (by decide +kernel), gw_s (q := (yX10_keepNow, 63)) (List.mem_of_getElem? (i := 85) (by decide +kernel)), gw_t 15 (by decide +kernel) (by decide +kernel)⟩
theorem co_X10_copies : Cond.code yX10_copies cX10_copies 6 none ∈ gw := gw_t 1621 (by decide +kernel) (by decide +kernel)
theorem iv_X10_copies : Cond.instanceMethod yX10_copies ∈ gw ∧ Cond.selects yX10_copies.cls yX10_copies yX10_copies ∈ gw ∧ Cond.initialized yX10_copies.cls ∈ gw := ⟨gw_t 1620 (by decide +kernel) (by decide +kernel), gw_s (q := (yX10_copies, 63)) (List.mem_of_getElem? (i := 86) (by decide +kernel)), gw_t 15 (by decide +kernel) (by decide +kernel)⟩
theorem co_X10_goal : Cond.code yX10_goal cX10_goal 3 (some .boolean) ∈ gw := gw_t 1625 (by decide +kernel) (by decide +kernel)
theorem iv_X10_goal : Cond.instanceMethod yX10_goal ∈ gw ∧ Cond.selects yX10_goal.cls yX10_goal yX10_goal ∈ gw ∧ Cond.initialized yX10_goal.cls ∈ gw := ⟨gw_t 1623 (by decide +kernel) (by decide +kernel), gw_t 1624 (by decide +kernel) (by decide +kernel), gw_t 15 (by decide +kernel) (by decide +kernel)⟩
theorem co_X10_plan : Cond.code yX10_plan cX10_plan 4 (some .boolean) ∈ gw := gw_t 1629 (by decide +kernel) (by decide +kernel)
theorem iv_X10_plan : Cond.instanceMethod yX10_plan ∈ gw ∧ Cond.selects yX10_plan.cls yX10_plan yX10_plan ∈ gw ∧ Cond.initialized yX10_plan.cls ∈ gw := ⟨gw_t 1627 (by decide +kernel) (by decide +kernel), gw_t 1628 (by decide +kernel) (by decide +kernel), gw_t 15 (by decide +kernel) (by decide +kernel)⟩
theorem co_X10_lend : Cond.code yX10_lend cX10_lend 3 (some .int) ∈ gw := gw_t 1633 (by decide +kernel) (by decide +kernel)
theorem iv_X10_lend : Cond.instanceMethod yX10_lend ∈ gw ∧ Cond.selects yX10_lend.cls yX10_lend yX10_lend ∈ gw ∧ Cond.initialized yX10_lend.cls ∈ gw := ⟨gw_t 1631 (by decide +kernel) (by decide +kernel), gw_t 1632 (by decide +kernel) (by decide +kernel), gw_t 15 (by decide +kernel) (by decide +kernel)⟩
theorem co_X10_go : Cond.code yX10_go cX10_go 3 (some .int) ∈ gw := gw_t 1637 (by decide +kernel) (by decide +kernel)
theorem iv_X10_go : Cond.instanceMethod yX10_go ∈ gw ∧ Cond.selects yX10_go.cls yX10_go yX10_go ∈ gw ∧ Cond.initialized yX10_go.cls ∈ gw := ⟨gw_t 1635 (by decide +kernel) (by decide +kernel), gw_t 1636 (by decide +kernel) (by decide +kernel), gw_t 15 (by decide +kernel) (by decide +kernel)⟩
theorem co_X10_passes : Cond.code yX10_passes cX10_passes 6 none ∈ gw := gw_t 1641 (by decide +kernel) (by decide +kernel)
theorem iv_X10_passes : Cond.instanceMethod yX10_passes ∈ gw ∧ Cond.selects yX10_passes.cls yX10_passes yX10_passes ∈ gw ∧ Cond.initialized yX10_passes.cls ∈ gw := ⟨gw_t 1640 (by decide +kernel) (by decide +kernel), gw_s (q := (yX10_passes, 63)) (List.mem_of_getElem? (i := 87) (by decide +kernel)), gw_t 15 (by decide +kernel) (by decide +kernel)⟩
theorem co_X10_walks : Cond.code yX10_walks cX10_walks 11 none ∈ gw := gw_t 1647 (by decide +kernel) (by decide +kernel)
theorem iv_X10_walks : Cond.instanceMethod yX10_walks ∈ gw ∧ Cond.selects yX10_walks.cls yX10_walks yX10_walks ∈ gw ∧ Cond.initialized yX10_walks.cls ∈ gw := ⟨gw_t 1646 (by decide +kernel) (by decide +kernel), gw_s (q := (yX10_walks, 63)) (List.mem_of_getElem? (i := 88) (by decide +kernel)), gw_t 15 (by decide +kernel) (by decide +kernel)⟩
theorem co_X10_hasBand : Cond.code yX10_hasBand cX10_hasBand 3 (some .boolean) ∈ gw := gw_t 1651 (by decide +kernel) (by decide +kernel)
theorem iv_X10_hasBand : Cond.instanceMethod yX10_hasBand ∈ gw ∧ Cond.selects yX10_hasBand.cls yX10_hasBand yX10_hasBand ∈ gw ∧ Cond.initialized yX10_hasBand.cls ∈ gw := ⟨gw_t 1650 (by decide +kernel) (by decide +kernel), gw_s (q := (yX10_hasBand, 63)) (List.mem_of_getElem? (i := 89) (by decide +kernel)), gw_t 15 (by decide +kernel) (by decide +kernel)⟩
theorem co_X10_within : Cond.code yX10_within cX10_within 4 (some .int) ∈ gw := gw_t 1655 (by decide +kernel) (by decide +kernel)
theorem iv_X10_within : Cond.instanceMethod yX10_within ∈ gw ∧ Cond.selects yX10_within.cls yX10_within yX10_within ∈ gw ∧ Cond.initialized yX10_within.cls ∈ gw := ⟨gw_t 1654 (by decide +kernel) (by decide +kernel), gw_s (q := (yX10_within, 63)) (List.mem_of_getElem? (i := 90) (by decide +kernel)), gw_t 15 (by decide +kernel) (by decide +kernel)⟩
theorem co_X10_leader : Cond.code yX10_leader cX10_leader 4 (some .int) ∈ gw := gw_t 1662 (by decide +kernel) (by decide +kernel)
theorem iv_X10_leader : Cond.instanceMethod yX10_leader ∈ gw ∧ Cond.selects yX10_leader.cls yX10_leader yX10_leader ∈ gw ∧ Cond.initialized yX10_leader.cls ∈ gw := ⟨gw_t 1661 (by decide +kernel) (by decide +kernel), gw_s (q := (yX10_leader, 63)) (List.mem_of_getElem? (i := 91) (by decide +kernel)), gw_t 15 (by decide +kernel) (by decide +kernel)⟩
theorem co_X10_ahead : Cond.code yX10_ahead cX10_ahead 5 (some .int) ∈ gw := gw_t 1666 (by decide +kernel) (by decide +kernel)
theorem iv_X10_ahead : Cond.instanceMethod yX10_ahead ∈ gw ∧ Cond.selects yX10_ahead.cls yX10_ahead yX10_ahead ∈ gw ∧ Cond.initialized yX10_ahead.cls ∈ gw := ⟨gw_t 1664 (by decide +kernel) (by decide +kernel), gw_t 1665 (by decide +kernel) (by decide +kernel), gw_t 15 (by decide +kernel) (by decide +kernel)⟩
theorem co_X10_runs : Cond.code yX10_runs cX10_runs 3 none ∈ gw := gw_t 1670 (by decide +kernel) (by decide +kernel)
theorem iv_X10_runs : Cond.instanceMethod yX10_runs ∈ gw ∧ Cond.selects yX10_runs.cls yX10_runs yX10_runs ∈ gw ∧ Cond.initialized yX10_runs.cls ∈ gw := ⟨gw_t 1669 (by decide +kernel) (by decide +kernel), gw_s (q := (yX10_runs, 63)) (List.mem_of_getElem? (i := 92) (by decide +kernel)), gw_t 15 (by decide +kernel) (by decide +kernel)⟩
theorem co_X10_reaches : Cond.code yX10_reaches cX10_reaches 4 (some .int) ∈ gw := gw_t 1674 (by decide +kernel) (by decide +kernel)
theorem iv_X10_reaches : Cond.instanceMethod yX10_reaches ∈ gw ∧ Cond.selects yX10_reaches.cls yX10_reaches yX10_reaches ∈ gw ∧ Cond.initialized yX10_reaches.cls ∈ gw := ⟨gw_t 1672 (by decide +kernel) (by decide +kernel), gw_t 1673 (by decide +kernel) (by decide +kernel), gw_t 15 (by decide +kernel) (by decide +kernel)⟩
theorem co_X10_longest : Cond.code yX10_longest cX10_longest 5 (some .int) ∈ gw := gw_t 1678 (by decide +kernel) (by decide +kernel)
theorem iv_X10_longest : Cond.instanceMethod yX10_longest ∈ gw ∧ Cond.selects yX10_longest.cls yX10_longest yX10_longest ∈ gw ∧ Cond.initialized yX10_longest.cls ∈ gw := ⟨gw_t 1676 (by decide +kernel) (by decide +kernel), gw_t 1677 (by decide +kernel) (by decide +kernel), gw_t 15 (by decide +kernel) (by decide +kernel)⟩
theorem co_X10_moves : Cond.code yX10_moves cX10_moves 8 (some .int) ∈ gw := gw_t 1682 (by decide +kernel) (by decide +kernel)
theorem iv_X10_moves : Cond.instanceMethod yX10_moves ∈ gw ∧ Cond.selects yX10_moves.cls yX10_moves yX10_moves ∈ gw ∧ Cond.initialized yX10_moves.cls ∈ gw := ⟨gw_t 1680 (by decide +kernel) (by decide +kernel), gw_t 1681 (by decide +kernel) (by decide +kernel), gw_t 15 (by decide +kernel) (by decide +kernel)⟩
theorem co_X10_deeds : Cond.code yX10_deeds cX10_deeds 11 (some .int) ∈ gw := gw_t 1686 (by decide +kernel) (by decide +kernel)
theorem iv_X10_deeds : Cond.instanceMethod yX10_deeds ∈ gw ∧ Cond.selects yX10_deeds.cls yX10_deeds yX10_deeds ∈ gw ∧ Cond.initialized yX10_deeds.cls ∈ gw := ⟨gw_t 1684 (by decide +kernel) (by decide +kernel), gw_t 1685 (by decide +kernel) (by decide +kernel), gw_t 15 (by decide +kernel) (by decide +kernel)⟩
theorem co_X10_fives : Cond.code yX10_fives cX10_fives 3 (some .int) ∈ gw := gw_t 1689 (by decide +kernel) (by decide +kernel)
theorem st_X10_fives : Cond.static yX10_fives ∈ gw ∧ Cond.initialized yX10_fives.cls ∈ gw := ⟨gw_t 1688 (by decide +kernel) (by decide +kernel), gw_t 15 (by decide +kernel) (by decide +kernel)⟩
theorem co_X10_leads : Cond.code yX10_leads cX10_leads 1 (some .int) ∈ gw := gw_t 1693 (by decide +kernel) (by decide +kernel)
theorem iv_X10_leads : Cond.instanceMethod yX10_leads ∈ gw ∧ Cond.selects yX10_leads.cls yX10_leads yX10_leads ∈ gw ∧ Cond.initialized yX10_leads.cls ∈ gw := ⟨gw_t 1691 (by decide +kernel) (by decide +kernel), gw_t 1692 (by decide +kernel) (by decide +kernel), gw_t 15 (by decide +kernel) (by decide +kernel)⟩
theorem co_X10_winner : Cond.code yX10_winner cX10_winner 3 (some .int) ∈ gw := gw_t 1697 (by decide +kernel) (by decide +kernel)
theorem iv_X10_winner : Cond.instanceMethod yX10_winner ∈ gw ∧ Cond.selects yX10_winner.cls yX10_winner yX10_winner ∈ gw ∧ Cond.initialized yX10_winner.cls ∈ gw := ⟨gw_t 1695 (by decide +kernel) (by decide +kernel), gw_t 1696 (by decide +kernel) (by decide +kernel), gw_t 15 (by decide +kernel) (by decide +kernel)⟩
theorem co_X10_winsFrom : Cond.code yX10_winsFrom cX10_winsFrom 1 (some .int) ∈ gw := gw_t 1701 (by decide +kernel) (by decide +kernel)
theorem iv_X10_winsFrom : Cond.instanceMethod yX10_winsFrom ∈ gw ∧ Cond.selects yX10_winsFrom.cls yX10_winsFrom yX10_winsFrom ∈ gw ∧ Cond.initialized yX10_winsFrom.cls ∈ gw := ⟨gw_t 1700 (by decide +kernel) (by decide +kernel), gw_s (q := (yX10_winsFrom, 63)) (List.mem_of_getElem? (i := 93) (by decide +kernel)), gw_t 15 (by decide +kernel) (by decide +kernel)⟩
theorem co_X10_needs : Cond.code yX10_needs cX10_needs 3 (some .int) ∈ gw := gw_t 1705 (by decide +kernel) (by decide +kernel)
theorem iv_X10_needs : Cond.instanceMethod yX10_needs ∈ gw ∧ Cond.selects yX10_needs.cls yX10_needs yX10_needs ∈ gw ∧ Cond.initialized yX10_needs.cls ∈ gw := ⟨gw_t 1703 (by decide +kernel) (by decide +kernel), gw_t 1704 (by decide +kernel) (by decide +kernel), gw_t 15 (by decide +kernel) (by decide +kernel)⟩
theorem co_X10_rank : Cond.code yX10_rank cX10_rank 4 (some .int) ∈ gw := gw_t 1709 (by decide +kernel) (by decide +kernel)
theorem iv_X10_rank : Cond.instanceMethod yX10_rank ∈ gw ∧ Cond.selects yX10_rank.cls yX10_rank yX10_rank ∈ gw ∧ Cond.initialized yX10_rank.cls ∈ gw := ⟨gw_t 1707 (by decide +kernel) (by decide +kernel), gw_t 1708 (by decide +kernel) (by decide +kernel), gw_t 15 (by decide +kernel) (by decide +kernel)⟩
theorem co_X10_falls : Cond.code yX10_falls cX10_falls 3 (some .int) ∈ gw := gw_t 1713 (by decide +kernel) (by decide +kernel)
theorem iv_X10_falls : Cond.instanceMethod yX10_falls ∈ gw ∧ Cond.selects yX10_falls.cls yX10_falls yX10_falls ∈ gw ∧ Cond.initialized yX10_falls.cls ∈ gw := ⟨gw_t 1711 (by decide +kernel) (by decide +kernel), gw_t 1712 (by decide +kernel) (by decide +kernel), gw_t 15 (by decide +kernel) (by decide +kernel)⟩
theorem co_X10_earns : Cond.code yX10_earns cX10_earns 5 (some .int) ∈ gw := gw_t 1717 (by decide +kernel) (by decide +kernel)
theorem iv_X10_earns : Cond.instanceMethod yX10_earns ∈ gw ∧ Cond.selects yX10_earns.cls yX10_earns yX10_earns ∈ gw ∧ Cond.initialized yX10_earns.cls ∈ gw := ⟨gw_t 1715 (by decide +kernel) (by decide +kernel), gw_t 1716 (by decide +kernel) (by decide +kernel), gw_t 15 (by decide +kernel) (by decide +kernel)⟩
theorem co_X10_rests : Cond.code yX10_rests cX10_rests 3 (some .int) ∈ gw := gw_t 1721 (by decide +kernel) (by decide +kernel)
theorem iv_X10_rests : Cond.instanceMethod yX10_rests ∈ gw ∧ Cond.selects yX10_rests.cls yX10_rests yX10_rests ∈ gw ∧ Cond.initialized yX10_rests.cls ∈ gw := ⟨gw_t 1719 (by decide +kernel) (by decide +kernel), gw_t 1720 (by decide +kernel) (by decide +kernel), gw_t 15 (by decide +kernel) (by decide +kernel)⟩
theorem co_X10_areTwo : Cond.code yX10_areTwo cX10_areTwo 3 (some .boolean) ∈ gw := gw_t 1725 (by decide +kernel) (by decide +kernel)
theorem iv_X10_areTwo : Cond.instanceMethod yX10_areTwo ∈ gw ∧ Cond.selects yX10_areTwo.cls yX10_areTwo yX10_areTwo ∈ gw ∧ Cond.initialized yX10_areTwo.cls ∈ gw := ⟨gw_t 1724 (by decide +kernel) (by decide +kernel), gw_s (q := (yX10_areTwo, 63)) (List.mem_of_getElem? (i := 94) (by decide +kernel)), gw_t 15 (by decide +kernel) (by decide +kernel)⟩
theorem co_X10_layFurther : Cond.code yX10_layFurther cX10_layFurther 5 none ∈ gw := gw_t 1729 (by decide +kernel) (by decide +kernel)
theorem iv_X10_layFurther : Cond.instanceMethod yX10_layFurther ∈ gw ∧ Cond.selects yX10_layFurther.cls yX10_layFurther yX10_layFurther ∈ gw ∧ Cond.initialized yX10_layFurther.cls ∈ gw := ⟨gw_t 1728 (by decide +kernel) (by decide +kernel), gw_s (q := (yX10_layFurther, 63)) (List.mem_of_getElem? (i := 95) (by decide +kernel)), gw_t 15 (by decide +kernel) (by decide +kernel)⟩
theorem co_X10_restOf : Cond.code yX10_restOf cX10_restOf 4 (some .int) ∈ gw := gw_t 1733 (by decide +kernel) (by decide +kernel)
theorem iv_X10_restOf : Cond.instanceMethod yX10_restOf ∈ gw ∧ Cond.selects yX10_restOf.cls yX10_restOf yX10_restOf ∈ gw ∧ Cond.initialized yX10_restOf.cls ∈ gw := ⟨gw_t 1732 (by decide +kernel) (by decide +kernel), gw_s (q := (yX10_restOf, 63)) (List.mem_of_getElem? (i := 96) (by decide +kernel)), gw_t 15 (by decide +kernel) (by decide +kernel)⟩
theorem co_X10_isRest : Cond.code yX10_isRest cX10_isRest 3 (some .boolean) ∈ gw := gw_t 1737 (by decide +kernel) (by decide +kernel)
theorem iv_X10_isRest : Cond.instanceMethod yX10_isRest ∈ gw ∧ Cond.selects yX10_isRest.cls yX10_isRest yX10_isRest ∈ gw ∧ Cond.initialized yX10_isRest.cls ∈ gw := ⟨gw_t 1736 (by decide +kernel) (by decide +kernel), gw_s (q := (yX10_isRest, 63)) (List.mem_of_getElem? (i := 97) (by decide +kernel)), gw_t 15 (by decide +kernel) (by decide +kernel)⟩
theorem co_X10_rest : Cond.code yX10_rest cX10_rest 4 (some .int) ∈ gw := gw_t 1741 (by decide +kernel) (by decide +kernel)
theorem iv_X10_rest : Cond.instanceMethod yX10_rest ∈ gw ∧ Cond.selects yX10_rest.cls yX10_rest yX10_rest ∈ gw ∧ Cond.initialized yX10_rest.cls ∈ gw := ⟨gw_t 1739 (by decide +kernel) (by decide +kernel), gw_t 1740 (by decide +kernel) (by decide +kernel), gw_t 15 (by decide +kernel) (by decide +kernel)⟩
theorem co_X10_falseOnes : Cond.code yX10_falseOnes cX10_falseOnes 7 (some .int) ∈ gw := gw_t 1745 (by decide +kernel) (by decide +kernel)
theorem iv_X10_falseOnes : Cond.instanceMethod yX10_falseOnes ∈ gw ∧ Cond.selects yX10_falseOnes.cls yX10_falseOnes yX10_falseOnes ∈ gw ∧ Cond.initialized yX10_falseOnes.cls ∈ gw := ⟨gw_t 1743 (by decide +kernel) (by decide +kernel), gw_t 1744 (by decide +kernel) (by decide +kernel), gw_t 15 (by decide +kernel) (by decide +kernel)⟩
theorem co_X10_common : Cond.code yX10_common cX10_common 5 (some .int) ∈ gw := gw_t 1748 (by decide +kernel) (by decide +kernel)
theorem st_X10_common : Cond.static yX10_common ∈ gw ∧ Cond.initialized yX10_common.cls ∈ gw := ⟨gw_t 1747 (by decide +kernel) (by decide +kernel), gw_t 15 (by decide +kernel) (by decide +kernel)⟩
theorem co_X10_habit : Cond.code yX10_habit cX10_habit 3 (some .int) ∈ gw := gw_t 1752 (by decide +kernel) (by decide +kernel)
theorem iv_X10_habit : Cond.instanceMethod yX10_habit ∈ gw ∧ Cond.selects yX10_habit.cls yX10_habit yX10_habit ∈ gw ∧ Cond.initialized yX10_habit.cls ∈ gw := ⟨gw_t 1750 (by decide +kernel) (by decide +kernel), gw_t 1751 (by decide +kernel) (by decide +kernel), gw_t 15 (by decide +kernel) (by decide +kernel)⟩
theorem co_X10_breaks : Cond.code yX10_breaks cX10_breaks 5 (some .int) ∈ gw := gw_t 1756 (by decide +kernel) (by decide +kernel)
theorem iv_X10_breaks : Cond.instanceMethod yX10_breaks ∈ gw ∧ Cond.selects yX10_breaks.cls yX10_breaks yX10_breaks ∈ gw ∧ Cond.initialized yX10_breaks.cls ∈ gw := ⟨gw_t 1754 (by decide +kernel) (by decide +kernel), gw_t 1755 (by decide +kernel) (by decide +kernel), gw_t 15 (by decide +kernel) (by decide +kernel)⟩
theorem co_X10_note : Cond.code yX10_note cX10_note 5 (some .int) ∈ gw := gw_t 1760 (by decide +kernel) (by decide +kernel)
theorem iv_X10_note : Cond.instanceMethod yX10_note ∈ gw ∧ Cond.selects yX10_note.cls yX10_note yX10_note ∈ gw ∧ Cond.initialized yX10_note.cls ∈ gw := ⟨gw_t 1758 (by decide +kernel) (by decide +kernel), gw_t 1759 (by decide +kernel) (by decide +kernel), gw_t 15 (by decide +kernel) (by decide +kernel)⟩
theorem co_X10_out : Cond.code yX10_out cX10_out 2 (some .int) ∈ gw := gw_t 1764 (by decide +kernel) (by decide +kernel)
theorem iv_X10_out : Cond.instanceMethod yX10_out ∈ gw ∧ Cond.selects yX10_out.cls yX10_out yX10_out ∈ gw ∧ Cond.initialized yX10_out.cls ∈ gw := ⟨gw_t 1762 (by decide +kernel) (by decide +kernel), gw_t 1763 (by decide +kernel) (by decide +kernel), gw_t 15 (by decide +kernel) (by decide +kernel)⟩
theorem co_X10_known : Cond.code yX10_known cX10_known 2 (some .boolean) ∈ gw := gw_t 1768 (by decide +kernel) (by decide +kernel)
theorem iv_X10_known : Cond.instanceMethod yX10_known ∈ gw ∧ Cond.selects yX10_known.cls yX10_known yX10_known ∈ gw ∧ Cond.initialized yX10_known.cls ∈ gw := ⟨gw_t 1766 (by decide +kernel) (by decide +kernel), gw_t 1767 (by decide +kernel) (by decide +kernel), gw_t 15 (by decide +kernel) (by decide +kernel)⟩
theorem co_X10_fits : Cond.code yX10_fits cX10_fits 6 (some .int) ∈ gw := gw_t 1772 (by decide +kernel) (by decide +kernel)
theorem iv_X10_fits : Cond.instanceMethod yX10_fits ∈ gw ∧ Cond.selects yX10_fits.cls yX10_fits yX10_fits ∈ gw ∧ Cond.initialized yX10_fits.cls ∈ gw := ⟨gw_t 1770 (by decide +kernel) (by decide +kernel), gw_t 1771 (by decide +kernel) (by decide +kernel), gw_t 15 (by decide +kernel) (by decide +kernel)⟩
theorem co_X10_knownMany : Cond.code yX10_knownMany cX10_knownMany 1 (some .int) ∈ gw := gw_t 1776 (by decide +kernel) (by decide +kernel)
theorem iv_X10_knownMany : Cond.instanceMethod yX10_knownMany ∈ gw ∧ Cond.selects yX10_knownMany.cls yX10_knownMany yX10_knownMany ∈ gw ∧ Cond.initialized yX10_knownMany.cls ∈ gw := ⟨gw_t 1775 (by decide +kernel) (by decide +kernel), gw_s (q := (yX10_knownMany, 63)) (List.mem_of_getElem? (i := 98) (by decide +kernel)), gw_t 15 (by decide +kernel) (by decide +kernel)⟩
theorem co_X10_fitsTimes : Cond.code yX10_fitsTimes cX10_fitsTimes 6 (some .boolean) ∈ gw := gw_t 1780 (by decide +kernel) (by decide +kernel)
theorem iv_X10_fitsTimes : Cond.instanceMethod yX10_fitsTimes ∈ gw ∧ Cond.selects yX10_fitsTimes.cls yX10_fitsTimes yX10_fitsTimes ∈ gw ∧ Cond.initialized yX10_fitsTimes.cls ∈ gw := ⟨gw_t 1779 (by decide +kernel) (by decide +kernel), gw_s (q := (yX10_fitsTimes, 63)) (List.mem_of_getElem? (i := 99) (by decide +kernel)), gw_t 15 (by decide +kernel) (by decide +kernel)⟩
theorem co_X10_isSo : Cond.code yX10_isSo cX10_isSo 3 (some .boolean) ∈ gw := gw_t 1784 (by decide +kernel) (by decide +kernel)
theorem iv_X10_isSo : Cond.instanceMethod yX10_isSo ∈ gw ∧ Cond.selects yX10_isSo.cls yX10_isSo yX10_isSo ∈ gw ∧ Cond.initialized yX10_isSo.cls ∈ gw := ⟨gw_t 1783 (by decide +kernel) (by decide +kernel), gw_s (q := (yX10_isSo, 63)) (List.mem_of_getElem? (i := 100) (by decide +kernel)), gw_t 15 (by decide +kernel) (by decide +kernel)⟩
theorem co_X10_chance : Cond.code yX10_chance cX10_chance 9 (some .int) ∈ gw := gw_t 1788 (by decide +kernel) (by decide +kernel)
theorem iv_X10_chance : Cond.instanceMethod yX10_chance ∈ gw ∧ Cond.selects yX10_chance.cls yX10_chance yX10_chance ∈ gw ∧ Cond.initialized yX10_chance.cls ∈ gw := ⟨gw_t 1786 (by decide +kernel) (by decide +kernel), gw_t 1787 (by decide +kernel) (by decide +kernel), gw_t 15 (by decide +kernel) (by decide +kernel)⟩
theorem co_X10_tried : Cond.code yX10_tried cX10_tried 5 (some .int) ∈ gw := gw_t 1792 (by decide +kernel) (by decide +kernel)
theorem iv_X10_tried : Cond.instanceMethod yX10_tried ∈ gw ∧ Cond.selects yX10_tried.cls yX10_tried yX10_tried ∈ gw ∧ Cond.initialized yX10_tried.cls ∈ gw := ⟨gw_t 1790 (by decide +kernel) (by decide +kernel), gw_t 1791 (by decide +kernel) (by decide +kernel), gw_t 15 (by decide +kernel) (by decide +kernel)⟩
theorem co_X10_sumOf : Cond.code yX10_sumOf cX10_sumOf 5 (some .int) ∈ gw := gw_t 1796 (by decide +kernel) (by decide +kernel)
theorem iv_X10_sumOf : Cond.instanceMethod yX10_sumOf ∈ gw ∧ Cond.selects yX10_sumOf.cls yX10_sumOf yX10_sumOf ∈ gw ∧ Cond.initialized yX10_sumOf.cls ∈ gw := ⟨gw_t 1795 (by decide +kernel) (by decide +kernel), gw_s (q := (yX10_sumOf, 63)) (List.mem_of_getElem? (i := 101) (by decide +kernel)), gw_t 15 (by decide +kernel) (by decide +kernel)⟩
theorem co_X10_undo : Cond.code yX10_undo cX10_undo 1 (some .int) ∈ gw := gw_t 1800 (by decide +kernel) (by decide +kernel)
theorem iv_X10_undo : Cond.instanceMethod yX10_undo ∈ gw ∧ Cond.selects yX10_undo.cls yX10_undo yX10_undo ∈ gw ∧ Cond.initialized yX10_undo.cls ∈ gw := ⟨gw_t 1798 (by decide +kernel) (by decide +kernel), gw_t 1799 (by decide +kernel) (by decide +kernel), gw_t 15 (by decide +kernel) (by decide +kernel)⟩
theorem co_X10_keep : Cond.code yX10_keep cX10_keep 1 (some .int) ∈ gw := gw_t 1804 (by decide +kernel) (by decide +kernel)
theorem iv_X10_keep : Cond.instanceMethod yX10_keep ∈ gw ∧ Cond.selects yX10_keep.cls yX10_keep yX10_keep ∈ gw ∧ Cond.initialized yX10_keep.cls ∈ gw := ⟨gw_t 1802 (by decide +kernel) (by decide +kernel), gw_t 1803 (by decide +kernel) (by decide +kernel), gw_t 15 (by decide +kernel) (by decide +kernel)⟩
theorem co_X10_back : Cond.code yX10_back cX10_back 1 (some .int) ∈ gw := gw_t 1808 (by decide +kernel) (by decide +kernel)
theorem iv_X10_back : Cond.instanceMethod yX10_back ∈ gw ∧ Cond.selects yX10_back.cls yX10_back yX10_back ∈ gw ∧ Cond.initialized yX10_back.cls ∈ gw := ⟨gw_t 1806 (by decide +kernel) (by decide +kernel), gw_t 1807 (by decide +kernel) (by decide +kernel), gw_t 15 (by decide +kernel) (by decide +kernel)⟩
theorem co_X10_count : Cond.code yX10_count cX10_count 2 (some .int) ∈ gw := gw_t 1812 (by decide +kernel) (by decide +kernel)
theorem iv_X10_count : Cond.instanceMethod yX10_count ∈ gw ∧ Cond.selects yX10_count.cls yX10_count yX10_count ∈ gw ∧ Cond.initialized yX10_count.cls ∈ gw := ⟨gw_t 1810 (by decide +kernel) (by decide +kernel), gw_t 1811 (by decide +kernel) (by decide +kernel), gw_t 15 (by decide +kernel) (by decide +kernel)⟩
theorem ca_X6_21 : gLV RX6 21 RJ0 yJ0_length_8abf5 cJ0_length_8abf5 1 (some .int) 0 := ⟨co_J0_length_8abf5, gw_t 39 (by decide +kernel) (by decide +kernel), iv_J0_length_8abf5.1, iv_J0_length_8abf5.2.1, iv_J0_length_8abf5.2.2, rfl, by decide +kernel, by decide +kernel, by decide +kernel⟩
theorem ca_J0_335 : gLV RJ0 335 RJ0 yJ0_coder_7d493 cJ0_coder_7d493 1 (some .byte) 0 := ⟨co_J0_coder_7d493, gw_t 43 (by decide +kernel) (by decide +kernel), iv_J0_coder_7d493.1, iv_J0_coder_7d493.2.1, iv_J0_coder_7d493.2.2, rfl, by decide +kernel, by decide +kernel, by decide +kernel⟩
theorem ca_X6_27 : gLV RX6 27 RJ0 yJ0_charAt_5068e cJ0_charAt_5068e 2 (some .char) 1 := ⟨co_J0_charAt_5068e, gw_t 49 (by decide +kernel) (by decide +kernel), iv_J0_charAt_5068e.1, iv_J0_charAt_5068e.2.1, iv_J0_charAt_5068e.2.2, rfl, by decide +kernel, by decide +kernel, by decide +kernel⟩
theorem ca_J0_492 : gLV RJ0 492 RJ0 yJ0_isLatin1_aae02 cJ0_isLatin1_aae02 1 (some .boolean) 0 := ⟨co_J0_isLatin1_aae02, gw_t 53 (by decide +kernel) (by decide +kernel), iv_J0_isLatin1_aae02.1, iv_J0_isLatin1_aae02.2.1, iv_J0_isLatin1_aae02.2.2, rfl, by decide +kernel, by decide +kernel, by decide +kernel⟩
theorem ca_J0_495 : gLS RJ0 495 yJ1_charAt_3b067 cJ1_charAt_3b067 2 (some .char) 2 := ⟨co_J1_charAt_3b067, gw_t 57 (by decide +kernel) (by decide +kernel), st_J1_charAt_3b067.1, st_J1_charAt_3b067.2, by decide +kernel, by decide +kernel, by decide +kernel⟩
theorem ca_J1_9 : gLS RJ1 9 yJ0_checkIndex_df160 cJ0_checkIndex_df160 2 none 2 := ⟨co_J0_checkIndex_df160, gw_t 60 (by decide +kernel) (by decide +kernel), st_J0_checkIndex_df160.1, st_J0_checkIndex_df160.2, by decide +kernel, by decide +kernel, by decide +kernel⟩
theorem ca_J0_1059 : gLS RJ0 1059 yJ3_checkIndex_8e157 cJ3_checkIndex_8e157 3 (some .int) 3 := ⟨co_J3_checkIndex_8e157, gw_t 65 (by decide +kernel) (by decide +kernel), st_J3_checkIndex_8e157.1, st_J3_checkIndex_8e157.2, by decide +kernel, by decide +kernel, by decide +kernel⟩
theorem ca_J0_498 : gLS RJ0 498 yJ2_charAt_3b067 cJ2_charAt_3b067 2 (some .char) 2 := ⟨co_J2_charAt_3b067, gw_t 68 (by decide +kernel) (by decide +kernel), st_J2_charAt_3b067.1, st_J2_charAt_3b067.2, by decide +kernel, by decide +kernel, by decide +kernel⟩
theorem ca_J2_67 : gLS RJ2 67 yJ2_checkIndex_2214a cJ2_checkIndex_2214a 2 none 2 := ⟨co_J2_checkIndex_2214a, gw_t 71 (by decide +kernel) (by decide +kernel), st_J2_checkIndex_2214a.1, st_J2_checkIndex_2214a.2, by decide +kernel, by decide +kernel, by decide +kernel⟩
theorem ca_J2_48 : gLS RJ2 48 yJ2_length_9d52b cJ2_length_9d52b 1 (some .int) 1 := ⟨co_J2_length_9d52b, gw_t 74 (by decide +kernel) (by decide +kernel), st_J2_length_9d52b.1, st_J2_length_9d52b.2, by decide +kernel, by decide +kernel, by decide +kernel⟩
theorem ca_J2_414 : gLS RJ2 414 yJ0_checkIndex_df160 cJ0_checkIndex_df160 2 none 2 := ⟨co_J0_checkIndex_df160, gw_t 77 (by decide +kernel) (by decide +kernel), st_J0_checkIndex_df160.1, st_J0_checkIndex_df160.2, by decide +kernel, by decide +kernel, by decide +kernel⟩
theorem ca_J2_71 : gLS RJ2 71 yJ2_getChar_3b067 cJ2_getChar_3b067 2 (some .char) 2 := ⟨co_J2_getChar_3b067, gw_t 78 (by decide +kernel) (by decide +kernel), st_J2_getChar_3b067.1, st_J2_getChar_3b067.2, by decide +kernel, by decide +kernel, by decide +kernel⟩
theorem ca_X6_31 : gLS RX6 31 yX6_letterBits cX6_letterBits 2 (some .int) 2 := ⟨co_X6_letterBits, gw_t 87 (by decide +kernel) (by decide +kernel), st_X6_letterBits.1, st_X6_letterBits.2, by decide +kernel, by decide +kernel, by decide +kernel⟩
theorem ca_L_21 : gLV RL 21 (gCn 9) yX9_feed cX9_feed 6 (some .int) 5 := ⟨co_X9_feed, gw_t 539 (by decide +kernel) (by decide +kernel), iv_X9_feed.1, iv_X9_feed.2.1, iv_X9_feed.2.2, rfl, by decide +kernel, by decide +kernel, by decide +kernel⟩
theorem ca_X9_73 : gLV RX9 73 (gCn 6) yX6_hasRoom cX6_hasRoom 1 (some .boolean) 0 := ⟨co_X6_hasRoom, gw_t 543 (by decide +kernel) (by decide +kernel), iv_X6_hasRoom.1, iv_X6_hasRoom.2.1, iv_X6_hasRoom.2.2, rfl, by decide +kernel, by decide +kernel, by decide +kernel⟩
theorem ca_X9_77 : gLV RX9 77 (gCn 6) yX6_append cX6_append 3 none 1 := ⟨co_X6_append, gw_t 547 (by decide +kernel) (by decide +kernel), iv_X6_append.1, iv_X6_append.2.1, iv_X6_append.2.2, rfl, by decide +kernel, by decide +kernel, by decide +kernel⟩
theorem ca_L_26 : gLV RL 26 (gCn 9) yX9_text cX9_text 4 (some .int) 1 := ⟨co_X9_text, gw_t 551 (by decide +kernel) (by decide +kernel), iv_X9_text.1, iv_X9_text.2.1, iv_X9_text.2.2, rfl, by decide +kernel, by decide +kernel, by decide +kernel⟩
theorem ca_X9_85 : gLV RX9 85 (gCn 5) yX5_readText cX5_readText 5 (some .int) 2 := ⟨co_X5_readText, gw_t 555 (by decide +kernel) (by decide +kernel), iv_X5_readText.1, iv_X5_readText.2.1, iv_X5_readText.2.2, rfl, by decide +kernel, by decide +kernel, by decide +kernel⟩
theorem ca_X5_37 : gLV RX5 37 (gCn 7) yX7_clear cX7_clear 1 none 0 := ⟨co_X7_clear, gw_t 559 (by decide +kernel) (by decide +kernel), iv_X7_clear.1, iv_X7_clear.2.1, iv_X7_clear.2.2, rfl, by decide +kernel, by decide +kernel, by decide +kernel⟩
theorem ca_X7_62 : gLS RX7 62 yJ7_fill_53178 cJ7_fill_53178 4 none 2 := ⟨co_J7_fill_53178, gw_t 563 (by decide +kernel) (by decide +kernel), st_J7_fill_53178.1, st_J7_fill_53178.2, by decide +kernel, by decide +kernel, by decide +kernel⟩
theorem ca_X7_80 : gLV RX7 80 (gCn 2) yX2_clear cX2_clear 1 none 0 := ⟨co_X2_clear, gw_t 566 (by decide +kernel) (by decide +kernel), iv_X2_clear.1, iv_X2_clear.2.1, iv_X2_clear.2.2, rfl, by decide +kernel, by decide +kernel, by decide +kernel⟩
theorem ca_X2_42 : gLS RX2 42 yJ7_fill_53178 cJ7_fill_53178 4 none 2 := ⟨co_J7_fill_53178, gw_t 570 (by decide +kernel) (by decide +kernel), st_J7_fill_53178.1, st_J7_fill_53178.2, by decide +kernel, by decide +kernel, by decide +kernel⟩
theorem ca_X5_42 : gLV RX5 42 (gCn 6) yX6_begin cX6_begin 2 none 1 := ⟨co_X6_begin, gw_t 571 (by decide +kernel) (by decide +kernel), iv_X6_begin.1, iv_X6_begin.2.1, iv_X6_begin.2.2, rfl, by decide +kernel, by decide +kernel, by decide +kernel⟩
theorem ca_X6_39 : gLS RX6 39 yJ9_min_7cf53 cJ9_min_7cf53 2 (some .int) 2 := ⟨co_J9_min_7cf53, gw_t 575 (by decide +kernel) (by decide +kernel), st_J9_min_7cf53.1, st_J9_min_7cf53.2, by decide +kernel, by decide +kernel, by decide +kernel⟩
theorem ca_X6_49 : gLV RX6 49 (gCn 6) yX6_next cX6_next 1 none 0 := ⟨co_X6_next, gw_t 578 (by decide +kernel) (by decide +kernel), iv_X6_next.1, iv_X6_next.2.1, iv_X6_next.2.2, rfl, by decide +kernel, by decide +kernel, by decide +kernel⟩
theorem ca_X6_61 : gLS RX6 61 yX6_isLetter cX6_isLetter 1 (some .boolean) 1 := ⟨co_X6_isLetter, gw_t 582 (by decide +kernel) (by decide +kernel), st_X6_isLetter.1, st_X6_isLetter.2, by decide +kernel, by decide +kernel, by decide +kernel⟩
theorem ca_X6_65 : gLV RX6 65 (gCn 6) yX6_readWord cX6_readWord 3 none 0 := ⟨co_X6_readWord, gw_t 585 (by decide +kernel) (by decide +kernel), iv_X6_readWord.1, iv_X6_readWord.2.1, iv_X6_readWord.2.2, rfl, by decide +kernel, by decide +kernel, by decide +kernel⟩
theorem ca_X6_68 : gLS RX6 68 yX6_isDigit cX6_isDigit 1 (some .boolean) 1 := ⟨co_X6_isDigit, gw_t 592 (by decide +kernel) (by decide +kernel), st_X6_isDigit.1, st_X6_isDigit.2, by decide +kernel, by decide +kernel, by decide +kernel⟩
theorem ca_X6_71 : gLV RX6 71 (gCn 6) yX6_readNumber cX6_readNumber 1 none 0 := ⟨co_X6_readNumber, gw_t 595 (by decide +kernel) (by decide +kernel), iv_X6_readNumber.1, iv_X6_readNumber.2.1, iv_X6_readNumber.2.2, rfl, by decide +kernel, by decide +kernel, by decide +kernel⟩
theorem ca_X6_74 : gLV RX6 74 (gCn 6) yX6_readSign cX6_readSign 2 none 0 := ⟨co_X6_readSign, gw_t 600 (by decide +kernel) (by decide +kernel), iv_X6_readSign.1, iv_X6_readSign.2.1, iv_X6_readSign.2.2, rfl, by decide +kernel, by decide +kernel, by decide +kernel⟩
theorem ca_X6_82 : gLV RX6 82 (gCn 6) yX6_takes cX6_takes 2 (some .boolean) 1 := ⟨co_X6_takes, gw_t 604 (by decide +kernel) (by decide +kernel), iv_X6_takes.1, iv_X6_takes.2.1, iv_X6_takes.2.2, rfl, by decide +kernel, by decide +kernel, by decide +kernel⟩
theorem ca_X5_51 : gLV RX5 51 (gCn 5) yX5_readLine cX5_readLine 1 (some .boolean) 0 := ⟨co_X5_readLine, gw_t 608 (by decide +kernel) (by decide +kernel), iv_X5_readLine.1, iv_X5_readLine.2.1, iv_X5_readLine.2.2, rfl, by decide +kernel, by decide +kernel, by decide +kernel⟩
theorem ca_X5_66 : gLV RX5 66 (gCn 5) yX5_readMan cX5_readMan 2 (some .boolean) 0 := ⟨co_X5_readMan, gw_t 612 (by decide +kernel) (by decide +kernel), iv_X5_readMan.1, iv_X5_readMan.2.1, iv_X5_readMan.2.2, rfl, by decide +kernel, by decide +kernel, by decide +kernel⟩
theorem ca_X5_59 : gLV RX5 59 (gCn 5) yX5_fail cX5_fail 2 (some .boolean) 1 := ⟨co_X5_fail, gw_t 616 (by decide +kernel) (by decide +kernel), iv_X5_fail.1, iv_X5_fail.2.1, iv_X5_fail.2.2, rfl, by decide +kernel, by decide +kernel, by decide +kernel⟩
theorem ca_X5_63 : gLV RX5 63 (gCn 6) yX6_next cX6_next 1 none 0 := ⟨co_X6_next, gw_t 620 (by decide +kernel) (by decide +kernel), iv_X6_next.1, iv_X6_next.2.1, iv_X6_next.2.2, rfl, by decide +kernel, by decide +kernel, by decide +kernel⟩
theorem ca_X5_97 : gLV RX5 97 (gCn 5) yX5_readNewName cX5_readNewName 3 (some .boolean) 2 := ⟨co_X5_readNewName, gw_t 621 (by decide +kernel) (by decide +kernel), iv_X5_readNewName.1, iv_X5_readNewName.2.1, iv_X5_readNewName.2.2, rfl, by decide +kernel, by decide +kernel, by decide +kernel⟩
theorem ca_X5_101 : gLV RX5 101 (gCn 5) yX5_readNumber cX5_readNumber 3 (some .boolean) 2 := ⟨co_X5_readNumber, gw_t 626 (by decide +kernel) (by decide +kernel), iv_X5_readNumber.1, iv_X5_readNumber.2.1, iv_X5_readNumber.2.2, rfl, by decide +kernel, by decide +kernel, by decide +kernel⟩
theorem ca_X5_69 : gLV RX5 69 (gCn 5) yX5_readDeed cX5_readDeed 2 (some .boolean) 0 := ⟨co_X5_readDeed, gw_t 633 (by decide +kernel) (by decide +kernel), iv_X5_readDeed.1, iv_X5_readDeed.2.1, iv_X5_readDeed.2.2, rfl, by decide +kernel, by decide +kernel, by decide +kernel⟩
theorem ca_X5_72 : gLV RX5 72 (gCn 5) yX5_readPlan cX5_readPlan 3 (some .boolean) 0 := ⟨co_X5_readPlan, gw_t 637 (by decide +kernel) (by decide +kernel), iv_X5_readPlan.1, iv_X5_readPlan.2.1, iv_X5_readPlan.2.2, rfl, by decide +kernel, by decide +kernel, by decide +kernel⟩
theorem ca_X5_135 : gLV RX5 135 (gCn 5) yX5_findName cX5_findName 4 (some .int) 2 := ⟨co_X5_findName, gw_t 641 (by decide +kernel) (by decide +kernel), iv_X5_findName.1, iv_X5_findName.2.1, iv_X5_findName.2.2, rfl, by decide +kernel, by decide +kernel, by decide +kernel⟩
theorem ca_X5_75 : gLV RX5 75 (gCn 5) yX5_readBet cX5_readBet 1 (some .boolean) 0 := ⟨co_X5_readBet, gw_t 645 (by decide +kernel) (by decide +kernel), iv_X5_readBet.1, iv_X5_readBet.2.1, iv_X5_readBet.2.2, rfl, by decide +kernel, by decide +kernel, by decide +kernel⟩
theorem ca_X5_142 : gLV RX5 142 (gCn 5) yX5_readOnce cX5_readOnce 2 (some .boolean) 0 := ⟨co_X5_readOnce, gw_t 649 (by decide +kernel) (by decide +kernel), iv_X5_readOnce.1, iv_X5_readOnce.2.1, iv_X5_readOnce.2.2, rfl, by decide +kernel, by decide +kernel, by decide +kernel⟩
theorem ca_X5_78 : gLV RX5 78 (gCn 5) yX5_readPay cX5_readPay 1 (some .boolean) 0 := ⟨co_X5_readPay, gw_t 653 (by decide +kernel) (by decide +kernel), iv_X5_readPay.1, iv_X5_readPay.2.1, iv_X5_readPay.2.2, rfl, by decide +kernel, by decide +kernel, by decide +kernel⟩
theorem ca_X5_81 : gLV RX5 81 (gCn 5) yX5_readRain cX5_readRain 1 (some .boolean) 0 := ⟨co_X5_readRain, gw_t 657 (by decide +kernel) (by decide +kernel), iv_X5_readRain.1, iv_X5_readRain.2.1, iv_X5_readRain.2.2, rfl, by decide +kernel, by decide +kernel, by decide +kernel⟩
theorem ca_X5_84 : gLV RX5 84 (gCn 5) yX5_readSeed cX5_readSeed 1 (some .boolean) 0 := ⟨co_X5_readSeed, gw_t 661 (by decide +kernel) (by decide +kernel), iv_X5_readSeed.1, iv_X5_readSeed.2.1, iv_X5_readSeed.2.2, rfl, by decide +kernel, by decide +kernel, by decide +kernel⟩
theorem ca_X5_87 : gLV RX5 87 (gCn 5) yX5_readLaw cX5_readLaw 3 (some .boolean) 0 := ⟨co_X5_readLaw, gw_t 666 (by decide +kernel) (by decide +kernel), iv_X5_readLaw.1, iv_X5_readLaw.2.1, iv_X5_readLaw.2.2, rfl, by decide +kernel, by decide +kernel, by decide +kernel⟩
theorem ca_X5_172 : gLV RX5 172 (gCn 2) yX2_isTold cX2_isTold 2 (some .boolean) 1 := ⟨co_X2_isTold, gw_t 670 (by decide +kernel) (by decide +kernel), iv_X2_isTold.1, iv_X2_isTold.2.1, iv_X2_isTold.2.2, rfl, by decide +kernel, by decide +kernel, by decide +kernel⟩
theorem ca_X5_177 : gLV RX5 177 (gCn 1) yX1_readInto cX1_readInto 5 (some .int) 3 := ⟨co_X1_readInto, gw_t 674 (by decide +kernel) (by decide +kernel), iv_X1_readInto.1, iv_X1_readInto.2.1, iv_X1_readInto.2.2, rfl, by decide +kernel, by decide +kernel, by decide +kernel⟩
theorem ca_X1_33 : gLV RX1 33 (gCn 2) yX2_begin cX2_begin 2 none 1 := ⟨co_X2_begin, gw_t 678 (by decide +kernel) (by decide +kernel), iv_X2_begin.1, iv_X2_begin.2.1, iv_X2_begin.2.2, rfl, by decide +kernel, by decide +kernel, by decide +kernel⟩
theorem ca_X1_47 : gLV RX1 47 (gCn 1) yX1_canStand cX1_canStand 2 (some .boolean) 1 := ⟨co_X1_canStand, gw_t 682 (by decide +kernel) (by decide +kernel), iv_X1_canStand.1, iv_X1_canStand.2.1, iv_X1_canStand.2.2, rfl, by decide +kernel, by decide +kernel, by decide +kernel⟩
theorem ca_X1_61 : gLS RX1 61 yX1_isValue cX1_isValue 1 (some .boolean) 1 := ⟨co_X1_isValue, gw_t 686 (by decide +kernel) (by decide +kernel), st_X1_isValue.1, st_X1_isValue.2, by decide +kernel, by decide +kernel, by decide +kernel⟩
theorem ca_X1_92 : gLS RX1 92 yX1_isComparison cX1_isComparison 1 (some .boolean) 1 := ⟨co_X1_isComparison, gw_t 690 (by decide +kernel) (by decide +kernel), st_X1_isComparison.1, st_X1_isComparison.2, by decide +kernel, by decide +kernel, by decide +kernel⟩
theorem ca_X1_57 : gLV RX1 57 (gCn 1) yX1_isTooMuch cX1_isTooMuch 4 (some .boolean) 3 := ⟨co_X1_isTooMuch, gw_t 693 (by decide +kernel) (by decide +kernel), iv_X1_isTooMuch.1, iv_X1_isTooMuch.2.1, iv_X1_isTooMuch.2.2, rfl, by decide +kernel, by decide +kernel, by decide +kernel⟩
theorem ca_X1_64 : gLV RX1 64 (gCn 2) yX2_add cX2_add 3 none 2 := ⟨co_X2_add, gw_t 697 (by decide +kernel) (by decide +kernel), iv_X2_add.1, iv_X2_add.2.1, iv_X2_add.2.2, rfl, by decide +kernel, by decide +kernel, by decide +kernel⟩
theorem ca_X1_68 : gLV RX1 68 (gCn 1) yX1_takeOpen cX1_takeOpen 1 none 0 := ⟨co_X1_takeOpen, gw_t 701 (by decide +kernel) (by decide +kernel), iv_X1_takeOpen.1, iv_X1_takeOpen.2.1, iv_X1_takeOpen.2.2, rfl, by decide +kernel, by decide +kernel, by decide +kernel⟩
theorem ca_X1_95 : gLV RX1 95 (gCn 1) yX1_hold cX1_hold 2 none 1 := ⟨co_X1_hold, gw_t 705 (by decide +kernel) (by decide +kernel), iv_X1_hold.1, iv_X1_hold.2.1, iv_X1_hold.2.2, rfl, by decide +kernel, by decide +kernel, by decide +kernel⟩
theorem ca_X1_71 : gLV RX1 71 (gCn 1) yX1_takeClose cX1_takeClose 2 none 1 := ⟨co_X1_takeClose, gw_t 709 (by decide +kernel) (by decide +kernel), iv_X1_takeClose.1, iv_X1_takeClose.2.1, iv_X1_takeClose.2.2, rfl, by decide +kernel, by decide +kernel, by decide +kernel⟩
theorem ca_X1_82 : gLV RX1 82 (gCn 1) yX1_release cX1_release 3 none 2 := ⟨co_X1_release, gw_t 713 (by decide +kernel) (by decide +kernel), iv_X1_release.1, iv_X1_release.2.1, iv_X1_release.2.2, rfl, by decide +kernel, by decide +kernel, by decide +kernel⟩
theorem ca_X1_104 : gLS RX1 104 yX1_strength cX1_strength 1 (some .int) 1 := ⟨co_X1_strength, gw_t 717 (by decide +kernel) (by decide +kernel), st_X1_strength.1, st_X1_strength.2, by decide +kernel, by decide +kernel, by decide +kernel⟩
theorem ca_X1_98 : gLS RX1 98 yJ9_max_7cf53 cJ9_max_7cf53 2 (some .int) 2 := ⟨co_J9_max_7cf53, gw_t 720 (by decide +kernel) (by decide +kernel), st_J9_max_7cf53.1, st_J9_max_7cf53.2, by decide +kernel, by decide +kernel, by decide +kernel⟩
theorem ca_X1_75 : gLV RX1 75 (gCn 1) yX1_takeSign cX1_takeSign 3 none 2 := ⟨co_X1_takeSign, gw_t 723 (by decide +kernel) (by decide +kernel), iv_X1_takeSign.1, iv_X1_takeSign.2.1, iv_X1_takeSign.2.2, rfl, by decide +kernel, by decide +kernel, by decide +kernel⟩
theorem ca_X1_79 : gLV RX1 79 (gCn 6) yX6_next cX6_next 1 none 0 := ⟨co_X6_next, gw_t 727 (by decide +kernel) (by decide +kernel), iv_X6_next.1, iv_X6_next.2.1, iv_X6_next.2.2, rfl, by decide +kernel, by decide +kernel, by decide +kernel⟩
theorem ca_X1_86 : gLV RX1 86 (gCn 2) yX2_end cX2_end 2 none 1 := ⟨co_X2_end, gw_t 728 (by decide +kernel) (by decide +kernel), iv_X2_end.1, iv_X2_end.2.1, iv_X2_end.2.2, rfl, by decide +kernel, by decide +kernel, by decide +kernel⟩
theorem ca_X5_55 : gLV RX5 55 (gCn 5) yX5_readLineEnd cX5_readLineEnd 1 (some .boolean) 0 := ⟨co_X5_readLineEnd, gw_t 732 (by decide +kernel) (by decide +kernel), iv_X5_readLineEnd.1, iv_X5_readLineEnd.2.1, iv_X5_readLineEnd.2.2, rfl, by decide +kernel, by decide +kernel, by decide +kernel⟩
theorem ca_X9_89 : gLV RX9 89 (gCn 8) yX8_start cX8_start 3 none 1 := ⟨co_X8_start, gw_t 736 (by decide +kernel) (by decide +kernel), iv_X8_start.1, iv_X8_start.2.1, iv_X8_start.2.2, rfl, by decide +kernel, by decide +kernel, by decide +kernel⟩
theorem ca_X8_28 : gLV RX8 28 (gCn 4) yX4_start cX4_start 3 none 2 := ⟨co_X4_start, gw_t 740 (by decide +kernel) (by decide +kernel), iv_X4_start.1, iv_X4_start.2.1, iv_X4_start.2.2, rfl, by decide +kernel, by decide +kernel, by decide +kernel⟩
theorem ca_X8_47 : gLV RX8 47 (gCn 8) yX8_setPlain cX8_setPlain 1 none 0 := ⟨co_X8_setPlain, gw_t 747 (by decide +kernel) (by decide +kernel), iv_X8_setPlain.1, iv_X8_setPlain.2.1, iv_X8_setPlain.2.2, rfl, by decide +kernel, by decide +kernel, by decide +kernel⟩
theorem ca_X9_93 : gLV RX9 93 (gCn 3) yX3_clear cX3_clear 1 none 0 := ⟨co_X3_clear, gw_t 751 (by decide +kernel) (by decide +kernel), iv_X3_clear.1, iv_X3_clear.2.1, iv_X3_clear.2.2, rfl, by decide +kernel, by decide +kernel, by decide +kernel⟩
theorem ca_L_31 : gLV RL 31 (gCn 9) yX9_fault cX9_fault 2 (some .int) 1 := ⟨co_X9_fault, gw_t 755 (by decide +kernel) (by decide +kernel), iv_X9_fault.1, iv_X9_fault.2.1, iv_X9_fault.2.2, rfl, by decide +kernel, by decide +kernel, by decide +kernel⟩
theorem ca_L_35 : gLV RL 35 (gCn 9) yX9_named cX9_named 3 (some .int) 2 := ⟨co_X9_named, gw_t 759 (by decide +kernel) (by decide +kernel), iv_X9_named.1, iv_X9_named.2.1, iv_X9_named.2.2, rfl, by decide +kernel, by decide +kernel, by decide +kernel⟩
theorem ca_X9_111 : gLS RX9 111 yX9_placeOf cX9_placeOf 4 (some .int) 3 := ⟨co_X9_placeOf, gw_t 763 (by decide +kernel) (by decide +kernel), st_X9_placeOf.1, st_X9_placeOf.2, by decide +kernel, by decide +kernel, by decide +kernel⟩
theorem ca_L_49 : gLV RL 49 (gCn 9) yX9_has cX9_has 4 (some .int) 2 := ⟨co_X9_has, gw_t 764 (by decide +kernel) (by decide +kernel), iv_X9_has.1, iv_X9_has.2.1, iv_X9_has.2.2, rfl, by decide +kernel, by decide +kernel, by decide +kernel⟩
theorem ca_X9_121 : gLV RX9 121 (gCn 9) yX9_isMan cX9_isMan 2 (some .boolean) 1 := ⟨co_X9_isMan, gw_t 768 (by decide +kernel) (by decide +kernel), iv_X9_isMan.1, iv_X9_isMan.2.1, iv_X9_isMan.2.2, rfl, by decide +kernel, by decide +kernel, by decide +kernel⟩
theorem ca_X9_194 : gLS RX9 194 yX9_isWithin cX9_isWithin 3 (some .boolean) 3 := ⟨co_X9_isWithin, gw_t 772 (by decide +kernel) (by decide +kernel), st_X9_isWithin.1, st_X9_isWithin.2, by decide +kernel, by decide +kernel, by decide +kernel⟩
theorem ca_L_53 : gLV RL 53 (gCn 9) yX9_deed cX9_deed 3 (some .int) 2 := ⟨co_X9_deed, gw_t 773 (by decide +kernel) (by decide +kernel), iv_X9_deed.1, iv_X9_deed.2.1, iv_X9_deed.2.2, rfl, by decide +kernel, by decide +kernel, by decide +kernel⟩
theorem ca_X9_179 : gLV RX9 179 (gCn 9) yX9_isDeed cX9_isDeed 2 (some .boolean) 1 := ⟨co_X9_isDeed, gw_t 777 (by decide +kernel) (by decide +kernel), iv_X9_isDeed.1, iv_X9_isDeed.2.1, iv_X9_isDeed.2.2, rfl, by decide +kernel, by decide +kernel, by decide +kernel⟩
theorem ca_L_57 : gLV RL 57 (gCn 9) yX9_times cX9_times 3 (some .int) 2 := ⟨co_X9_times, gw_t 781 (by decide +kernel) (by decide +kernel), iv_X9_times.1, iv_X9_times.2.1, iv_X9_times.2.2, rfl, by decide +kernel, by decide +kernel, by decide +kernel⟩
theorem ca_L_61 : gLV RL 61 (gCn 9) yX9_law cX9_law 4 (some .long) 2 := ⟨co_X9_law, gw_t 785 (by decide +kernel) (by decide +kernel), iv_X9_law.1, iv_X9_law.2.1, iv_X9_law.2.2, rfl, by decide +kernel, by decide +kernel, by decide +kernel⟩
theorem ca_X9_202 : gLV RX9 202 (gCn 2) yX2_isTold cX2_isTold 2 (some .boolean) 1 := ⟨co_X2_isTold, gw_t 789 (by decide +kernel) (by decide +kernel), iv_X2_isTold.1, iv_X2_isTold.2.1, iv_X2_isTold.2.2, rfl, by decide +kernel, by decide +kernel, by decide +kernel⟩
theorem ca_X9_211 : gLV RX9 211 (gCn 4) yX4_stepsOn cX4_stepsOn 3 (some .int) 2 := ⟨co_X4_stepsOn, gw_t 791 (by decide +kernel) (by decide +kernel), iv_X4_stepsOn.1, iv_X4_stepsOn.2.1, iv_X4_stepsOn.2.2, rfl, by decide +kernel, by decide +kernel, by decide +kernel⟩
theorem ca_X4_66 : gLV RX4 66 (gCn 7) yX7_inPlan cX7_inPlan 5 (some .int) 2 := ⟨co_X7_inPlan, gw_t 795 (by decide +kernel) (by decide +kernel), iv_X7_inPlan.1, iv_X7_inPlan.2.1, iv_X7_inPlan.2.2, rfl, by decide +kernel, by decide +kernel, by decide +kernel⟩
theorem ca_X9_215 : gLV RX9 215 (gCn 8) yX8_setNames cX8_setNames 6 none 3 := ⟨co_X8_setNames, gw_t 799 (by decide +kernel) (by decide +kernel), iv_X8_setNames.1, iv_X8_setNames.2.1, iv_X8_setNames.2.2, rfl, by decide +kernel, by decide +kernel, by decide +kernel⟩
theorem ca_X8_186 : gLV RX8 186 (gCn 2) yX2_mindsOthers cX2_mindsOthers 1 (some .boolean) 0 := ⟨co_X2_mindsOthers, gw_t 803 (by decide +kernel) (by decide +kernel), iv_X2_mindsOthers.1, iv_X2_mindsOthers.2.1, iv_X2_mindsOthers.2.2, rfl, by decide +kernel, by decide +kernel, by decide +kernel⟩
theorem ca_X8_152 : gLS RX8 152 yJ9_max_7cf53 cJ9_max_7cf53 2 (some .int) 2 := ⟨co_J9_max_7cf53, gw_t 807 (by decide +kernel) (by decide +kernel), st_J9_max_7cf53.1, st_J9_max_7cf53.2, by decide +kernel, by decide +kernel, by decide +kernel⟩
theorem ca_X9_219 : gLV RX9 219 (gCn 2) yX2_workOut cX2_workOut 5 (some .boolean) 1 := ⟨co_X2_workOut, gw_t 808 (by decide +kernel) (by decide +kernel), iv_X2_workOut.1, iv_X2_workOut.2.1, iv_X2_workOut.2.2, rfl, by decide +kernel, by decide +kernel, by decide +kernel⟩
theorem ca_X2_54 : gLS RX2 54 yX2_isWorkable cX2_isWorkable 7 (some .boolean) 3 := ⟨co_X2_isWorkable, gw_t 813 (by decide +kernel) (by decide +kernel), st_X2_isWorkable.1, st_X2_isWorkable.2, by decide +kernel, by decide +kernel, by decide +kernel⟩
theorem ca_X2_58 : gLS RX2 58 yX2_joined cX2_joined 5 (some .long) 3 := ⟨co_X2_joined, gw_t 818 (by decide +kernel) (by decide +kernel), st_X2_joined.1, st_X2_joined.2, by decide +kernel, by decide +kernel, by decide +kernel⟩
theorem ca_L_66 : gLV RL 66 (gCn 9) yX9_wear cX9_wear 3 (some .boolean) 2 := ⟨co_X9_wear, gw_t 821 (by decide +kernel) (by decide +kernel), iv_X9_wear.1, iv_X9_wear.2.1, iv_X9_wear.2.2, rfl, by decide +kernel, by decide +kernel, by decide +kernel⟩
theorem ca_X9_226 : gLV RX9 226 (gCn 0) yX0_add cX0_add 5 none 4 := ⟨co_X0_add, gw_t 825 (by decide +kernel) (by decide +kernel), iv_X0_add.1, iv_X0_add.2.1, iv_X0_add.2.2, rfl, by decide +kernel, by decide +kernel, by decide +kernel⟩
theorem ca_X0_28 : gLV RX0 28 (gCn 0) yX0_dropFirst cX0_dropFirst 2 none 0 := ⟨co_X0_dropFirst, gw_t 829 (by decide +kernel) (by decide +kernel), iv_X0_dropFirst.1, iv_X0_dropFirst.2.1, iv_X0_dropFirst.2.2, rfl, by decide +kernel, by decide +kernel, by decide +kernel⟩
theorem ca_L_71 : gLV RL 71 (gCn 9) yX9_goal cX9_goal 3 (some .boolean) 2 := ⟨co_X9_goal, gw_t 833 (by decide +kernel) (by decide +kernel), iv_X9_goal.1, iv_X9_goal.2.1, iv_X9_goal.2.2, rfl, by decide +kernel, by decide +kernel, by decide +kernel⟩
theorem ca_L_76 : gLV RL 76 (gCn 9) yX9_plan cX9_plan 5 (some .boolean) 3 := ⟨co_X9_plan, gw_t 837 (by decide +kernel) (by decide +kernel), iv_X9_plan.1, iv_X9_plan.2.1, iv_X9_plan.2.2, rfl, by decide +kernel, by decide +kernel, by decide +kernel⟩
theorem ca_L_81 : gLV RL 81 (gCn 9) yX9_lend cX9_lend 4 (some .int) 2 := ⟨co_X9_lend, gw_t 841 (by decide +kernel) (by decide +kernel), iv_X9_lend.1, iv_X9_lend.2.1, iv_X9_lend.2.2, rfl, by decide +kernel, by decide +kernel, by decide +kernel⟩
theorem ca_L_85 : gLV RL 85 (gCn 9) yX9_go cX9_go 3 (some .int) 1 := ⟨co_X9_go, gw_t 845 (by decide +kernel) (by decide +kernel), iv_X9_go.1, iv_X9_go.2.1, iv_X9_go.2.2, rfl, by decide +kernel, by decide +kernel, by decide +kernel⟩
theorem ca_X9_236 : gLV RX9 236 (gCn 8) yX8_drawsWet cX8_drawsWet 2 (some .boolean) 1 := ⟨co_X8_drawsWet, gw_t 849 (by decide +kernel) (by decide +kernel), iv_X8_drawsWet.1, iv_X8_drawsWet.2.1, iv_X8_drawsWet.2.2, rfl, by decide +kernel, by decide +kernel, by decide +kernel⟩
theorem ca_X9_239 : gLV RX9 239 (gCn 8) yX8_passDay cX8_passDay 4 none 2 := ⟨co_X8_passDay, gw_t 858 (by decide +kernel) (by decide +kernel), iv_X8_passDay.1, iv_X8_passDay.2.1, iv_X8_passDay.2.2, rfl, by decide +kernel, by decide +kernel, by decide +kernel⟩
theorem ca_X8_71 : gLV RX8 71 (gCn 8) yX8_passPerson cX8_passPerson 10 none 3 := ⟨co_X8_passPerson, gw_t 862 (by decide +kernel) (by decide +kernel), iv_X8_passPerson.1, iv_X8_passPerson.2.1, iv_X8_passPerson.2.2, rfl, by decide +kernel, by decide +kernel, by decide +kernel⟩
theorem ca_X8_92 : gLV RX8 92 (gCn 7) yX7_inPlan cX7_inPlan 5 (some .int) 2 := ⟨co_X7_inPlan, gw_t 866 (by decide +kernel) (by decide +kernel), iv_X7_inPlan.1, iv_X7_inPlan.2.1, iv_X7_inPlan.2.2, rfl, by decide +kernel, by decide +kernel, by decide +kernel⟩
theorem ca_X8_96 : gLV RX8 96 (gCn 4) yX4_stepsOn cX4_stepsOn 3 (some .int) 2 := ⟨co_X4_stepsOn, gw_t 867 (by decide +kernel) (by decide +kernel), iv_X4_stepsOn.1, iv_X4_stepsOn.2.1, iv_X4_stepsOn.2.2, rfl, by decide +kernel, by decide +kernel, by decide +kernel⟩
theorem ca_X8_113 : gLV RX8 113 (gCn 8) yX8_ruled cX8_ruled 7 (some .int) 6 := ⟨co_X8_ruled, gw_t 868 (by decide +kernel) (by decide +kernel), iv_X8_ruled.1, iv_X8_ruled.2.1, iv_X8_ruled.2.2, rfl, by decide +kernel, by decide +kernel, by decide +kernel⟩
theorem ca_X8_165 : gLV RX8 165 (gCn 2) yX2_isTold cX2_isTold 2 (some .boolean) 1 := ⟨co_X2_isTold, gw_t 872 (by decide +kernel) (by decide +kernel), iv_X2_isTold.1, iv_X2_isTold.2.1, iv_X2_isTold.2.2, rfl, by decide +kernel, by decide +kernel, by decide +kernel⟩
theorem ca_X8_171 : gLV RX8 171 (gCn 8) yX8_setNames cX8_setNames 6 none 3 := ⟨co_X8_setNames, gw_t 873 (by decide +kernel) (by decide +kernel), iv_X8_setNames.1, iv_X8_setNames.2.1, iv_X8_setNames.2.2, rfl, by decide +kernel, by decide +kernel, by decide +kernel⟩
theorem ca_X8_175 : gLV RX8 175 (gCn 2) yX2_workOut cX2_workOut 5 (some .boolean) 1 := ⟨co_X2_workOut, gw_t 874 (by decide +kernel) (by decide +kernel), iv_X2_workOut.1, iv_X2_workOut.2.1, iv_X2_workOut.2.2, rfl, by decide +kernel, by decide +kernel, by decide +kernel⟩
theorem ca_X8_181 : gLS RX8 181 yJ9_min_f86c9 cJ9_min_f86c9 4 (some .long) 2 := ⟨co_J9_min_f86c9, gw_t 875 (by decide +kernel) (by decide +kernel), st_J9_min_f86c9.1, st_J9_min_f86c9.2, by decide +kernel, by decide +kernel, by decide +kernel⟩
theorem ca_X8_184 : gLS RX8 184 yJ9_max_f86c9 cJ9_max_f86c9 4 (some .long) 2 := ⟨co_J9_max_f86c9, gw_t 878 (by decide +kernel) (by decide +kernel), st_J9_max_f86c9.1, st_J9_max_f86c9.2, by decide +kernel, by decide +kernel, by decide +kernel⟩
theorem ca_X8_139 : gLS RX8 139 yJ9_min_7cf53 cJ9_min_7cf53 2 (some .int) 2 := ⟨co_J9_min_7cf53, gw_t 881 (by decide +kernel) (by decide +kernel), st_J9_min_7cf53.1, st_J9_min_7cf53.2, by decide +kernel, by decide +kernel, by decide +kernel⟩
theorem ca_X8_145 : gLS RX8 145 yX8_habitOf cX8_habitOf 2 (some .int) 2 := ⟨co_X8_habitOf, gw_t 882 (by decide +kernel) (by decide +kernel), st_X8_habitOf.1, st_X8_habitOf.2, by decide +kernel, by decide +kernel, by decide +kernel⟩
theorem ca_X8_78 : gLV RX8 78 (gCn 8) yX8_givePot cX8_givePot 3 none 1 := ⟨co_X8_givePot, gw_t 885 (by decide +kernel) (by decide +kernel), iv_X8_givePot.1, iv_X8_givePot.2.1, iv_X8_givePot.2.2, rfl, by decide +kernel, by decide +kernel, by decide +kernel⟩
theorem ca_X8_155 : gLV RX8 155 (gCn 8) yX8_greatest cX8_greatest 4 (some .int) 1 := ⟨co_X8_greatest, gw_t 889 (by decide +kernel) (by decide +kernel), iv_X8_greatest.1, iv_X8_greatest.2.1, iv_X8_greatest.2.2, rfl, by decide +kernel, by decide +kernel, by decide +kernel⟩
theorem ca_L_89 : gLV RL 89 (gCn 9) yX9_ahead cX9_ahead 5 (some .int) 3 := ⟨co_X9_ahead, gw_t 893 (by decide +kernel) (by decide +kernel), iv_X9_ahead.1, iv_X9_ahead.2.1, iv_X9_ahead.2.2, rfl, by decide +kernel, by decide +kernel, by decide +kernel⟩
theorem ca_X9_243 : gLV RX9 243 (gCn 9) yX9_lookAhead cX9_lookAhead 2 (some (.object "WristGoal$Person")) 1 := ⟨co_X9_lookAhead, gw_t 897 (by decide +kernel) (by decide +kernel), iv_X9_lookAhead.1, iv_X9_lookAhead.2.1, iv_X9_lookAhead.2.2, rfl, by decide +kernel, by decide +kernel, by decide +kernel⟩
theorem ca_X9_335 : gLV RX9 335 (gCn 8) yX8_copyFrom cX8_copyFrom 3 none 1 := ⟨co_X8_copyFrom, gw_t 901 (by decide +kernel) (by decide +kernel), iv_X8_copyFrom.1, iv_X8_copyFrom.2.1, iv_X8_copyFrom.2.2, rfl, by decide +kernel, by decide +kernel, by decide +kernel⟩
theorem ca_X8_50 : gLV RX8 50 (gCn 4) yX4_copyFrom cX4_copyFrom 2 none 1 := ⟨co_X4_copyFrom, gw_t 905 (by decide +kernel) (by decide +kernel), iv_X4_copyFrom.1, iv_X4_copyFrom.2.1, iv_X4_copyFrom.2.2, rfl, by decide +kernel, by decide +kernel, by decide +kernel⟩
theorem ca_X9_274 : gLV RX9 274 (gCn 2) yX2_mindsOthers cX2_mindsOthers 1 (some .boolean) 0 := ⟨co_X2_mindsOthers, gw_t 909 (by decide +kernel) (by decide +kernel), iv_X2_mindsOthers.1, iv_X2_mindsOthers.2.1, iv_X2_mindsOthers.2.2, rfl, by decide +kernel, by decide +kernel, by decide +kernel⟩
theorem ca_X9_247 : gLV RX9 247 (gCn 9) yX9_passAsItGoes cX9_passAsItGoes 4 none 1 := ⟨co_X9_passAsItGoes, gw_t 910 (by decide +kernel) (by decide +kernel), iv_X9_passAsItGoes.1, iv_X9_passAsItGoes.2.1, iv_X9_passAsItGoes.2.2, rfl, by decide +kernel, by decide +kernel, by decide +kernel⟩
theorem ca_X9_313 : gLV RX9 313 (gCn 9) yX9_isWetAsItGoes cX9_isWetAsItGoes 1 (some .boolean) 0 := ⟨co_X9_isWetAsItGoes, gw_t 914 (by decide +kernel) (by decide +kernel), iv_X9_isWetAsItGoes.1, iv_X9_isWetAsItGoes.2.1, iv_X9_isWetAsItGoes.2.2, rfl, by decide +kernel, by decide +kernel, by decide +kernel⟩
theorem ca_L_94 : gLV RL 94 (gCn 9) yX9_reaches cX9_reaches 5 (some .int) 2 := ⟨co_X9_reaches, gw_t 918 (by decide +kernel) (by decide +kernel), iv_X9_reaches.1, iv_X9_reaches.2.1, iv_X9_reaches.2.2, rfl, by decide +kernel, by decide +kernel, by decide +kernel⟩
theorem ca_L_98 : gLV RL 98 (gCn 9) yX9_longest cX9_longest 6 (some .int) 2 := ⟨co_X9_longest, gw_t 922 (by decide +kernel) (by decide +kernel), iv_X9_longest.1, iv_X9_longest.2.1, iv_X9_longest.2.2, rfl, by decide +kernel, by decide +kernel, by decide +kernel⟩
theorem ca_X9_250 : gLS RX9 250 yJ9_max_7cf53 cJ9_max_7cf53 2 (some .int) 2 := ⟨co_J9_max_7cf53, gw_t 926 (by decide +kernel) (by decide +kernel), st_J9_max_7cf53.1, st_J9_max_7cf53.2, by decide +kernel, by decide +kernel, by decide +kernel⟩
theorem ca_L_102 : gLV RL 102 (gCn 9) yX9_moves cX9_moves 9 (some .int) 3 := ⟨co_X9_moves, gw_t 927 (by decide +kernel) (by decide +kernel), iv_X9_moves.1, iv_X9_moves.2.1, iv_X9_moves.2.2, rfl, by decide +kernel, by decide +kernel, by decide +kernel⟩
theorem ca_L_106 : gLV RL 106 (gCn 9) yX9_deeds cX9_deeds 3 (some .int) 2 := ⟨co_X9_deeds, gw_t 931 (by decide +kernel) (by decide +kernel), iv_X9_deeds.1, iv_X9_deeds.2.1, iv_X9_deeds.2.2, rfl, by decide +kernel, by decide +kernel, by decide +kernel⟩
theorem ca_X9_256 : gLV RX9 256 (gCn 9) yX9_findFewest cX9_findFewest 9 (some .boolean) 1 := ⟨co_X9_findFewest, gw_t 935 (by decide +kernel) (by decide +kernel), iv_X9_findFewest.1, iv_X9_findFewest.2.1, iv_X9_findFewest.2.2, rfl, by decide +kernel, by decide +kernel, by decide +kernel⟩
theorem ca_X9_374 : gLS RX9 374 yJ9_min_7cf53 cJ9_min_7cf53 2 (some .int) 2 := ⟨co_J9_min_7cf53, gw_t 939 (by decide +kernel) (by decide +kernel), st_J9_min_7cf53.1, st_J9_min_7cf53.2, by decide +kernel, by decide +kernel, by decide +kernel⟩
theorem ca_X9_377 : gLV RX9 377 (gCn 7) yX7_inPlan cX7_inPlan 5 (some .int) 2 := ⟨co_X7_inPlan, gw_t 940 (by decide +kernel) (by decide +kernel), iv_X7_inPlan.1, iv_X7_inPlan.2.1, iv_X7_inPlan.2.2, rfl, by decide +kernel, by decide +kernel, by decide +kernel⟩
theorem ca_X9_381 : gLS RX9 381 yX9_amount cX9_amount 6 (some .int) 3 := ⟨co_X9_amount, gw_t 941 (by decide +kernel) (by decide +kernel), st_X9_amount.1, st_X9_amount.2, by decide +kernel, by decide +kernel, by decide +kernel⟩
theorem ca_L_110 : gLV RL 110 (gCn 9) yX9_leads cX9_leads 1 (some .int) 0 := ⟨co_X9_leads, gw_t 944 (by decide +kernel) (by decide +kernel), iv_X9_leads.1, iv_X9_leads.2.1, iv_X9_leads.2.2, rfl, by decide +kernel, by decide +kernel, by decide +kernel⟩
theorem ca_X9_260 : gLV RX9 260 (gCn 8) yX8_greatest cX8_greatest 4 (some .int) 1 := ⟨co_X8_greatest, gw_t 948 (by decide +kernel) (by decide +kernel), iv_X8_greatest.1, iv_X8_greatest.2.1, iv_X8_greatest.2.2, rfl, by decide +kernel, by decide +kernel, by decide +kernel⟩
theorem ca_L_114 : gLV RL 114 (gCn 9) yX9_winner cX9_winner 2 (some .int) 1 := ⟨co_X9_winner, gw_t 949 (by decide +kernel) (by decide +kernel), iv_X9_winner.1, iv_X9_winner.2.1, iv_X9_winner.2.2, rfl, by decide +kernel, by decide +kernel, by decide +kernel⟩
theorem ca_X9_264 : gLV RX9 264 (gCn 9) yX9_daysToPot cX9_daysToPot 1 (some .int) 0 := ⟨co_X9_daysToPot, gw_t 953 (by decide +kernel) (by decide +kernel), iv_X9_daysToPot.1, iv_X9_daysToPot.2.1, iv_X9_daysToPot.2.2, rfl, by decide +kernel, by decide +kernel, by decide +kernel⟩
theorem ca_X9_268 : gLV RX9 268 (gCn 9) yX9_lookAtAll cX9_lookAtAll 1 none 0 := ⟨co_X9_lookAtAll, gw_t 957 (by decide +kernel) (by decide +kernel), iv_X9_lookAtAll.1, iv_X9_lookAtAll.2.1, iv_X9_lookAtAll.2.2, rfl, by decide +kernel, by decide +kernel, by decide +kernel⟩
theorem ca_L_118 : gLV RL 118 (gCn 9) yX9_needs cX9_needs 2 (some .int) 1 := ⟨co_X9_needs, gw_t 961 (by decide +kernel) (by decide +kernel), iv_X9_needs.1, iv_X9_needs.2.1, iv_X9_needs.2.2, rfl, by decide +kernel, by decide +kernel, by decide +kernel⟩
theorem ca_X9_277 : gLV RX9 277 (gCn 9) yX9_neededOneByOne cX9_neededOneByOne 3 (some .int) 1 := ⟨co_X9_neededOneByOne, gw_t 965 (by decide +kernel) (by decide +kernel), iv_X9_neededOneByOne.1, iv_X9_neededOneByOne.2.1, iv_X9_neededOneByOne.2.2, rfl, by decide +kernel, by decide +kernel, by decide +kernel⟩
theorem ca_X9_356 : gLV RX9 356 (gCn 9) yX9_winsWith cX9_winsWith 6 (some .boolean) 2 := ⟨co_X9_winsWith, gw_t 969 (by decide +kernel) (by decide +kernel), iv_X9_winsWith.1, iv_X9_winsWith.2.1, iv_X9_winsWith.2.2, rfl, by decide +kernel, by decide +kernel, by decide +kernel⟩
theorem ca_X9_280 : gLV RX9 280 (gCn 9) yX9_neededByHalves cX9_neededByHalves 6 (some .int) 1 := ⟨co_X9_neededByHalves, gw_t 973 (by decide +kernel) (by decide +kernel), iv_X9_neededByHalves.1, iv_X9_neededByHalves.2.1, iv_X9_neededByHalves.2.2, rfl, by decide +kernel, by decide +kernel, by decide +kernel⟩
theorem ca_L_122 : gLV RL 122 (gCn 9) yX9_rests cX9_rests 5 (some .int) 2 := ⟨co_X9_rests, gw_t 977 (by decide +kernel) (by decide +kernel), iv_X9_rests.1, iv_X9_rests.2.1, iv_X9_rests.2.2, rfl, by decide +kernel, by decide +kernel, by decide +kernel⟩
theorem ca_X9_283 : gLV RX9 283 (gCn 9) yX9_chooseFurther cX9_chooseFurther 4 none 2 := ⟨co_X9_chooseFurther, gw_t 981 (by decide +kernel) (by decide +kernel), iv_X9_chooseFurther.1, iv_X9_chooseFurther.2.1, iv_X9_chooseFurther.2.2, rfl, by decide +kernel, by decide +kernel, by decide +kernel⟩
theorem ca_X9_287 : gLV RX9 287 (gCn 9) yX9_isRest cX9_isRest 7 (some .boolean) 3 := ⟨co_X9_isRest, gw_t 985 (by decide +kernel) (by decide +kernel), iv_X9_isRest.1, iv_X9_isRest.2.1, iv_X9_isRest.2.2, rfl, by decide +kernel, by decide +kernel, by decide +kernel⟩
theorem ca_X9_363 : gLV RX9 363 (gCn 9) yX9_gain cX9_gain 4 (some .int) 3 := ⟨co_X9_gain, gw_t 989 (by decide +kernel) (by decide +kernel), iv_X9_gain.1, iv_X9_gain.2.1, iv_X9_gain.2.2, rfl, by decide +kernel, by decide +kernel, by decide +kernel⟩
theorem ca_L_126 : gLV RL 126 (gCn 9) yX9_rest cX9_rest 6 (some .int) 3 := ⟨co_X9_rest, gw_t 993 (by decide +kernel) (by decide +kernel), iv_X9_rest.1, iv_X9_rest.2.1, iv_X9_rest.2.2, rfl, by decide +kernel, by decide +kernel, by decide +kernel⟩
theorem ca_L_130 : gLV RL 130 (gCn 9) yX9_rank cX9_rank 6 (some .int) 1 := ⟨co_X9_rank, gw_t 997 (by decide +kernel) (by decide +kernel), iv_X9_rank.1, iv_X9_rank.2.1, iv_X9_rank.2.2, rfl, by decide +kernel, by decide +kernel, by decide +kernel⟩
theorem ca_L_134 : gLV RL 134 (gCn 9) yX9_falls cX9_falls 4 (some .int) 2 := ⟨co_X9_falls, gw_t 1001 (by decide +kernel) (by decide +kernel), iv_X9_falls.1, iv_X9_falls.2.1, iv_X9_falls.2.2, rfl, by decide +kernel, by decide +kernel, by decide +kernel⟩
theorem ca_L_138 : gLV RL 138 (gCn 9) yX9_earns cX9_earns 6 (some .int) 3 := ⟨co_X9_earns, gw_t 1005 (by decide +kernel) (by decide +kernel), iv_X9_earns.1, iv_X9_earns.2.1, iv_X9_earns.2.2, rfl, by decide +kernel, by decide +kernel, by decide +kernel⟩
theorem ca_L_142 : gLV RL 142 (gCn 9) yX9_falseOnes cX9_falseOnes 7 (some .int) 2 := ⟨co_X9_falseOnes, gw_t 1009 (by decide +kernel) (by decide +kernel), iv_X9_falseOnes.1, iv_X9_falseOnes.2.1, iv_X9_falseOnes.2.2, rfl, by decide +kernel, by decide +kernel, by decide +kernel⟩
theorem ca_X9_290 : gLS RX9 290 yX9_commonDivisor cX9_commonDivisor 6 (some .int) 2 := ⟨co_X9_commonDivisor, gw_t 1013 (by decide +kernel) (by decide +kernel), st_X9_commonDivisor.1, st_X9_commonDivisor.2, by decide +kernel, by decide +kernel, by decide +kernel⟩
theorem ca_L_146 : gLV RL 146 (gCn 9) yX9_habit cX9_habit 4 (some .int) 1 := ⟨co_X9_habit, gw_t 1016 (by decide +kernel) (by decide +kernel), iv_X9_habit.1, iv_X9_habit.2.1, iv_X9_habit.2.2, rfl, by decide +kernel, by decide +kernel, by decide +kernel⟩
theorem ca_L_150 : gLV RL 150 (gCn 9) yX9_breaks cX9_breaks 5 (some .int) 2 := ⟨co_X9_breaks, gw_t 1020 (by decide +kernel) (by decide +kernel), iv_X9_breaks.1, iv_X9_breaks.2.1, iv_X9_breaks.2.2, rfl, by decide +kernel, by decide +kernel, by decide +kernel⟩
theorem ca_L_154 : gLV RL 154 (gCn 9) yX9_note cX9_note 5 (some .int) 4 := ⟨co_X9_note, gw_t 1024 (by decide +kernel) (by decide +kernel), iv_X9_note.1, iv_X9_note.2.1, iv_X9_note.2.2, rfl, by decide +kernel, by decide +kernel, by decide +kernel⟩
theorem ca_X9_294 : gLV RX9 294 (gCn 3) yX3_add cX3_add 5 (some .int) 4 := ⟨co_X3_add, gw_t 1029 (by decide +kernel) (by decide +kernel), iv_X3_add.1, iv_X3_add.2.1, iv_X3_add.2.2, rfl, by decide +kernel, by decide +kernel, by decide +kernel⟩
theorem ca_L_159 : gLV RL 159 (gCn 9) yX9_out cX9_out 2 (some .int) 1 := ⟨co_X9_out, gw_t 1033 (by decide +kernel) (by decide +kernel), iv_X9_out.1, iv_X9_out.2.1, iv_X9_out.2.2, rfl, by decide +kernel, by decide +kernel, by decide +kernel⟩
theorem ca_X9_298 : gLV RX9 298 (gCn 3) yX3_addStrike cX3_addStrike 3 (some .int) 1 := ⟨co_X3_addStrike, gw_t 1037 (by decide +kernel) (by decide +kernel), iv_X3_addStrike.1, iv_X3_addStrike.2.1, iv_X3_addStrike.2.2, rfl, by decide +kernel, by decide +kernel, by decide +kernel⟩
theorem ca_X3_38 : gLV RX3 38 (gCn 3) yX3_add cX3_add 5 (some .int) 4 := ⟨co_X3_add, gw_t 1041 (by decide +kernel) (by decide +kernel), iv_X3_add.1, iv_X3_add.2.1, iv_X3_add.2.2, rfl, by decide +kernel, by decide +kernel, by decide +kernel⟩
theorem ca_L_163 : gLV RL 163 (gCn 9) yX9_known cX9_known 2 (some .boolean) 1 := ⟨co_X9_known, gw_t 1042 (by decide +kernel) (by decide +kernel), iv_X9_known.1, iv_X9_known.2.1, iv_X9_known.2.2, rfl, by decide +kernel, by decide +kernel, by decide +kernel⟩
theorem ca_L_168 : gLV RL 168 (gCn 9) yX9_fits cX9_fits 5 (some .int) 2 := ⟨co_X9_fits, gw_t 1046 (by decide +kernel) (by decide +kernel), iv_X9_fits.1, iv_X9_fits.2.1, iv_X9_fits.2.2, rfl, by decide +kernel, by decide +kernel, by decide +kernel⟩
theorem ca_X9_304 : gLV RX9 304 (gCn 3) yX3_findStruck cX3_findStruck 2 none 0 := ⟨co_X3_findStruck, gw_t 1050 (by decide +kernel) (by decide +kernel), iv_X3_findStruck.1, iv_X3_findStruck.2.1, iv_X3_findStruck.2.2, rfl, by decide +kernel, by decide +kernel, by decide +kernel⟩
theorem ca_X3_42 : gLV RX3 42 (gCn 3) yX3_firstKnown cX3_firstKnown 1 (some .int) 0 := ⟨co_X3_firstKnown, gw_t 1054 (by decide +kernel) (by decide +kernel), iv_X3_firstKnown.1, iv_X3_firstKnown.2.1, iv_X3_firstKnown.2.2, rfl, by decide +kernel, by decide +kernel, by decide +kernel⟩
theorem ca_X9_307 : gLV RX9 307 (gCn 9) yX9_agreesWithNotes cX9_agreesWithNotes 6 (some .boolean) 3 := ⟨co_X9_agreesWithNotes, gw_t 1058 (by decide +kernel) (by decide +kernel), iv_X9_agreesWithNotes.1, iv_X9_agreesWithNotes.2.1, iv_X9_agreesWithNotes.2.2, rfl, by decide +kernel, by decide +kernel, by decide +kernel⟩
theorem ca_X9_367 : gLV RX9 367 (gCn 3) yX3_lastDay cX3_lastDay 3 (some .int) 0 := ⟨co_X3_lastDay, gw_t 1062 (by decide +kernel) (by decide +kernel), iv_X3_lastDay.1, iv_X3_lastDay.2.1, iv_X3_lastDay.2.2, rfl, by decide +kernel, by decide +kernel, by decide +kernel⟩
theorem ca_X3_46 : gLV RX3 46 (gCn 3) yX3_isKnown cX3_isKnown 2 (some .boolean) 1 := ⟨co_X3_isKnown, gw_t 1066 (by decide +kernel) (by decide +kernel), iv_X3_isKnown.1, iv_X3_isKnown.2.1, iv_X3_isKnown.2.2, rfl, by decide +kernel, by decide +kernel, by decide +kernel⟩
theorem ca_X3_50 : gLS RX3 50 yJ9_max_7cf53 cJ9_max_7cf53 2 (some .int) 2 := ⟨co_J9_max_7cf53, gw_t 1070 (by decide +kernel) (by decide +kernel), st_J9_max_7cf53.1, st_J9_max_7cf53.2, by decide +kernel, by decide +kernel, by decide +kernel⟩
theorem ca_X9_370 : gLV RX9 370 (gCn 3) yX3_agree cX3_agree 4 (some .boolean) 2 := ⟨co_X3_agree, gw_t 1071 (by decide +kernel) (by decide +kernel), iv_X3_agree.1, iv_X3_agree.2.1, iv_X3_agree.2.2, rfl, by decide +kernel, by decide +kernel, by decide +kernel⟩
theorem ca_L_172 : gLV RL 172 (gCn 9) yX9_chance cX9_chance 11 (some .int) 4 := ⟨co_X9_chance, gw_t 1075 (by decide +kernel) (by decide +kernel), iv_X9_chance.1, iv_X9_chance.2.1, iv_X9_chance.2.2, rfl, by decide +kernel, by decide +kernel, by decide +kernel⟩
theorem ca_L_177 : gLV RL 177 (gCn 9) yX9_tried cX9_tried 7 (some .int) 3 := ⟨co_X9_tried, gw_t 1079 (by decide +kernel) (by decide +kernel), iv_X9_tried.1, iv_X9_tried.2.1, iv_X9_tried.2.2, rfl, by decide +kernel, by decide +kernel, by decide +kernel⟩
theorem ca_X9_322 : gLS RX9 322 yJ7_fill_53178 cJ7_fill_53178 4 none 2 := ⟨co_J7_fill_53178, gw_t 1083 (by decide +kernel) (by decide +kernel), st_J7_fill_53178.1, st_J7_fill_53178.2, by decide +kernel, by decide +kernel, by decide +kernel⟩
theorem ca_X9_328 : gLV RX9 328 (gCn 8) yX8_inAll cX8_inAll 6 (some .int) 2 := ⟨co_X8_inAll, gw_t 1084 (by decide +kernel) (by decide +kernel), iv_X8_inAll.1, iv_X8_inAll.2.1, iv_X8_inAll.2.2, rfl, by decide +kernel, by decide +kernel, by decide +kernel⟩
theorem ca_L_181 : gLV RL 181 (gCn 9) yX9_undo cX9_undo 1 (some .int) 0 := ⟨co_X9_undo, gw_t 1088 (by decide +kernel) (by decide +kernel), iv_X9_undo.1, iv_X9_undo.2.1, iv_X9_undo.2.2, rfl, by decide +kernel, by decide +kernel, by decide +kernel⟩
theorem ca_X9_331 : gLV RX9 331 (gCn 0) yX0_takeBack cX0_takeBack 3 none 1 := ⟨co_X0_takeBack, gw_t 1092 (by decide +kernel) (by decide +kernel), iv_X0_takeBack.1, iv_X0_takeBack.2.1, iv_X0_takeBack.2.2, rfl, by decide +kernel, by decide +kernel, by decide +kernel⟩
theorem ca_L_185 : gLV RL 185 (gCn 9) yX9_keep cX9_keep 1 (some .int) 0 := ⟨co_X9_keep, gw_t 1096 (by decide +kernel) (by decide +kernel), iv_X9_keep.1, iv_X9_keep.2.1, iv_X9_keep.2.2, rfl, by decide +kernel, by decide +kernel, by decide +kernel⟩
theorem ca_L_189 : gLV RL 189 (gCn 9) yX9_back cX9_back 1 (some .int) 0 := ⟨co_X9_back, gw_t 1100 (by decide +kernel) (by decide +kernel), iv_X9_back.1, iv_X9_back.2.1, iv_X9_back.2.2, rfl, by decide +kernel, by decide +kernel, by decide +kernel⟩
theorem ca_L_193 : gLV RL 193 (gCn 9) yX9_count cX9_count 2 (some .int) 1 := ⟨co_X9_count, gw_t 1104 (by decide +kernel) (by decide +kernel), iv_X9_count.1, iv_X9_count.2.1, iv_X9_count.2.2, rfl, by decide +kernel, by decide +kernel, by decide +kernel⟩
theorem ca_X9_347 : gLV RX9 347 (gCn 3) yX3_firstKnown cX3_firstKnown 1 (some .int) 0 := ⟨co_X3_firstKnown, gw_t 1108 (by decide +kernel) (by decide +kernel), iv_X3_firstKnown.1, iv_X3_firstKnown.2.1, iv_X3_firstKnown.2.2, rfl, by decide +kernel, by decide +kernel, by decide +kernel⟩
theorem ca_L_7 : gLV RL 7 (gCn 9) yX9_man cX9_man 4 (some .int) 2 := ⟨co_X9_man, gw_t 1114 (by decide +kernel) (by decide +kernel), iv_X9_man.1, iv_X9_man.2.1, iv_X9_man.2.2, rfl, by decide +kernel, by decide +kernel, by decide +kernel⟩
theorem ca_X10_142 : gLV RX10 142 (gCn 10) yX10_begins cX10_begins 1 none 0 := ⟨co_X10_begins, gw_t 1206 (by decide +kernel) (by decide +kernel), iv_X10_begins.1, iv_X10_begins.2.1, iv_X10_begins.2.2, rfl, by decide +kernel, by decide +kernel, by decide +kernel⟩
theorem ca_X10_328 : gLV RX10 328 (gCn 10) yX10_starts cX10_starts 5 none 1 := ⟨co_X10_starts, gw_t 1210 (by decide +kernel) (by decide +kernel), iv_X10_starts.1, iv_X10_starts.2.1, iv_X10_starts.2.2, rfl, by decide +kernel, by decide +kernel, by decide +kernel⟩
theorem ca_L_45 : gLV RL 45 (gCn 10) yX10_thrown cX10_thrown 1 (some .int) 0 := ⟨co_X10_thrown, gw_t 1404 (by decide +kernel) (by decide +kernel), iv_X10_thrown.1, iv_X10_thrown.2.1, iv_X10_thrown.2.2, rfl, by decide +kernel, by decide +kernel, by decide +kernel⟩
theorem ca_L_25 : gLV RL 25 (gCn 10) yX10_feed cX10_feed 8 (some .int) 5 := ⟨co_X10_feed, gw_t 1408 (by decide +kernel) (by decide +kernel), iv_X10_feed.1, iv_X10_feed.2.1, iv_X10_feed.2.2, rfl, by decide +kernel, by decide +kernel, by decide +kernel⟩
theorem ca_L_30 : gLV RL 30 (gCn 10) yX10_text cX10_text 3 (some .int) 1 := ⟨co_X10_text, gw_t 1412 (by decide +kernel) (by decide +kernel), iv_X10_text.1, iv_X10_text.2.1, iv_X10_text.2.2, rfl, by decide +kernel, by decide +kernel, by decide +kernel⟩
theorem ca_X10_233 : gLV RX10 233 (gCn 10) yX10_reads cX10_reads 3 none 2 := ⟨co_X10_reads, gw_t 1416 (by decide +kernel) (by decide +kernel), iv_X10_reads.1, iv_X10_reads.2.1, iv_X10_reads.2.2, rfl, by decide +kernel, by decide +kernel, by decide +kernel⟩
theorem ca_X10_205 : gLV RX10 205 (gCn 10) yX10_token cX10_token 2 none 0 := ⟨co_X10_token, gw_t 1420 (by decide +kernel) (by decide +kernel), iv_X10_token.1, iv_X10_token.2.1, iv_X10_token.2.2, rfl, by decide +kernel, by decide +kernel, by decide +kernel⟩
theorem ca_X10_157 : gLV RX10 157 (gCn 10) yX10_here cX10_here 1 (some .int) 0 := ⟨co_X10_here, gw_t 1424 (by decide +kernel) (by decide +kernel), iv_X10_here.1, iv_X10_here.2.1, iv_X10_here.2.2, rfl, by decide +kernel, by decide +kernel, by decide +kernel⟩
theorem ca_X10_167 : gLS RX10 167 yX10_isSmall cX10_isSmall 1 (some .boolean) 1 := ⟨co_X10_isSmall, gw_t 1428 (by decide +kernel) (by decide +kernel), st_X10_isSmall.1, st_X10_isSmall.2, by decide +kernel, by decide +kernel, by decide +kernel⟩
theorem ca_X10_171 : gLV RX10 171 (gCn 10) yX10_word cX10_word 4 (some .int) 0 := ⟨co_X10_word, gw_t 1431 (by decide +kernel) (by decide +kernel), iv_X10_word.1, iv_X10_word.2.1, iv_X10_word.2.2, rfl, by decide +kernel, by decide +kernel, by decide +kernel⟩
theorem ca_X10_190 : gLV RX10 190 RJ0 yJ0_length_8abf5 cJ0_length_8abf5 1 (some .int) 0 := ⟨co_J0_length_8abf5, gw_t 1436 (by decide +kernel) (by decide +kernel), iv_J0_length_8abf5.1, iv_J0_length_8abf5.2.1, iv_J0_length_8abf5.2.2, rfl, by decide +kernel, by decide +kernel, by decide +kernel⟩
theorem ca_X10_195 : gLV RX10 195 RJ0 yJ0_charAt_5068e cJ0_charAt_5068e 2 (some .char) 1 := ⟨co_J0_charAt_5068e, gw_t 1437 (by decide +kernel) (by decide +kernel), iv_J0_charAt_5068e.1, iv_J0_charAt_5068e.2.1, iv_J0_charAt_5068e.2.2, rfl, by decide +kernel, by decide +kernel, by decide +kernel⟩
theorem ca_X10_177 : gLV RX10 177 (gCn 10) yX10_name cX10_name 2 none 0 := ⟨co_X10_name, gw_t 1438 (by decide +kernel) (by decide +kernel), iv_X10_name.1, iv_X10_name.2.1, iv_X10_name.2.2, rfl, by decide +kernel, by decide +kernel, by decide +kernel⟩
theorem ca_X10_180 : gLS RX10 180 yX10_isDigit cX10_isDigit 1 (some .boolean) 1 := ⟨co_X10_isDigit, gw_t 1442 (by decide +kernel) (by decide +kernel), st_X10_isDigit.1, st_X10_isDigit.2, by decide +kernel, by decide +kernel, by decide +kernel⟩
theorem ca_X10_184 : gLV RX10 184 (gCn 10) yX10_sign cX10_sign 2 none 1 := ⟨co_X10_sign, gw_t 1446 (by decide +kernel) (by decide +kernel), iv_X10_sign.1, iv_X10_sign.2.1, iv_X10_sign.2.2, rfl, by decide +kernel, by decide +kernel, by decide +kernel⟩
theorem ca_X10_288 : gLV RX10 288 (gCn 10) yX10_line cX10_line 4 none 0 := ⟨co_X10_line, gw_t 1450 (by decide +kernel) (by decide +kernel), iv_X10_line.1, iv_X10_line.2.1, iv_X10_line.2.2, rfl, by decide +kernel, by decide +kernel, by decide +kernel⟩
theorem ca_X10_208 : gLV RX10 208 (gCn 10) yX10_wrong cX10_wrong 2 none 1 := ⟨co_X10_wrong, gw_t 1454 (by decide +kernel) (by decide +kernel), iv_X10_wrong.1, iv_X10_wrong.2.1, iv_X10_wrong.2.2, rfl, by decide +kernel, by decide +kernel, by decide +kernel⟩
theorem ca_X10_219 : gLV RX10 219 (gCn 10) yX10_isFull cX10_isFull 2 (some .boolean) 1 := ⟨co_X10_isFull, gw_t 1458 (by decide +kernel) (by decide +kernel), iv_X10_isFull.1, iv_X10_isFull.2.1, iv_X10_isFull.2.2, rfl, by decide +kernel, by decide +kernel, by decide +kernel⟩
theorem ca_X10_215 : gLV RX10 215 (gCn 10) yX10_fresher cX10_fresher 2 (some .int) 1 := ⟨co_X10_fresher, gw_t 1462 (by decide +kernel) (by decide +kernel), iv_X10_fresher.1, iv_X10_fresher.2.1, iv_X10_fresher.2.2, rfl, by decide +kernel, by decide +kernel, by decide +kernel⟩
theorem ca_X10_225 : gLV RX10 225 (gCn 10) yX10_fresh cX10_fresh 5 (some .int) 3 := ⟨co_X10_fresh, gw_t 1466 (by decide +kernel) (by decide +kernel), iv_X10_fresh.1, iv_X10_fresh.2.1, iv_X10_fresh.2.2, rfl, by decide +kernel, by decide +kernel, by decide +kernel⟩
theorem ca_X10_211 : gLS RX10 211 yX10_found cX10_found 5 (some .int) 4 := ⟨co_X10_found, gw_t 1470 (by decide +kernel) (by decide +kernel), st_X10_found.1, st_X10_found.2, by decide +kernel, by decide +kernel, by decide +kernel⟩
theorem ca_X10_229 : gLV RX10 229 (gCn 10) yX10_numeral cX10_numeral 4 (some .int) 2 := ⟨co_X10_numeral, gw_t 1473 (by decide +kernel) (by decide +kernel), iv_X10_numeral.1, iv_X10_numeral.2.1, iv_X10_numeral.2.2, rfl, by decide +kernel, by decide +kernel, by decide +kernel⟩
theorem ca_X10_237 : gLV RX10 237 (gCn 10) yX10_planLine cX10_planLine 5 none 0 := ⟨co_X10_planLine, gw_t 1477 (by decide +kernel) (by decide +kernel), iv_X10_planLine.1, iv_X10_planLine.2.1, iv_X10_planLine.2.2, rfl, by decide +kernel, by decide +kernel, by decide +kernel⟩
theorem ca_X10_249 : gLV RX10 249 (gCn 10) yX10_toldAhead cX10_toldAhead 4 (some .int) 3 := ⟨co_X10_toldAhead, gw_t 1481 (by decide +kernel) (by decide +kernel), iv_X10_toldAhead.1, iv_X10_toldAhead.2.1, iv_X10_toldAhead.2.2, rfl, by decide +kernel, by decide +kernel, by decide +kernel⟩
theorem ca_X10_252 : gLV RX10 252 (gCn 10) yX10_goOn cX10_goOn 1 none 0 := ⟨co_X10_goOn, gw_t 1485 (by decide +kernel) (by decide +kernel), iv_X10_goOn.1, iv_X10_goOn.2.1, iv_X10_goOn.2.2, rfl, by decide +kernel, by decide +kernel, by decide +kernel⟩
theorem ca_X10_240 : gLV RX10 240 (gCn 10) yX10_lawLine cX10_lawLine 2 none 0 := ⟨co_X10_lawLine, gw_t 1489 (by decide +kernel) (by decide +kernel), iv_X10_lawLine.1, iv_X10_lawLine.2.1, iv_X10_lawLine.2.2, rfl, by decide +kernel, by decide +kernel, by decide +kernel⟩
theorem ca_X10_255 : gLV RX10 255 (gCn 10) yX10_expression cX10_expression 1 none 0 := ⟨co_X10_expression, gw_t 1493 (by decide +kernel) (by decide +kernel), iv_X10_expression.1, iv_X10_expression.2.1, iv_X10_expression.2.2, rfl, by decide +kernel, by decide +kernel, by decide +kernel⟩
theorem ca_X10_261 : gLV RX10 261 (gCn 10) yX10_conjunction cX10_conjunction 1 none 0 := ⟨co_X10_conjunction, gw_t 1497 (by decide +kernel) (by decide +kernel), iv_X10_conjunction.1, iv_X10_conjunction.2.1, iv_X10_conjunction.2.2, rfl, by decide +kernel, by decide +kernel, by decide +kernel⟩
theorem ca_X10_273 : gLV RX10 273 (gCn 10) yX10_negation cX10_negation 2 none 0 := ⟨co_X10_negation, gw_t 1501 (by decide +kernel) (by decide +kernel), iv_X10_negation.1, iv_X10_negation.2.1, iv_X10_negation.2.2, rfl, by decide +kernel, by decide +kernel, by decide +kernel⟩
theorem ca_X10_264 : gLV RX10 264 (gCn 10) yX10_isWord cX10_isWord 2 (some .boolean) 1 := ⟨co_X10_isWord, gw_t 1505 (by decide +kernel) (by decide +kernel), iv_X10_isWord.1, iv_X10_isWord.2.1, iv_X10_isWord.2.2, rfl, by decide +kernel, by decide +kernel, by decide +kernel⟩
theorem ca_X10_267 : gLV RX10 267 (gCn 10) yX10_knot cX10_knot 1 none 0 := ⟨co_X10_knot, gw_t 1509 (by decide +kernel) (by decide +kernel), iv_X10_knot.1, iv_X10_knot.2.1, iv_X10_knot.2.2, rfl, by decide +kernel, by decide +kernel, by decide +kernel⟩
theorem ca_X10_270 : gLV RX10 270 (gCn 10) yX10_puts cX10_puts 3 none 2 := ⟨co_X10_puts, gw_t 1513 (by decide +kernel) (by decide +kernel), iv_X10_puts.1, iv_X10_puts.2.1, iv_X10_puts.2.2, rfl, by decide +kernel, by decide +kernel, by decide +kernel⟩
theorem ca_X10_276 : gLV RX10 276 (gCn 10) yX10_sum cX10_sum 2 none 0 := ⟨co_X10_sum, gw_t 1517 (by decide +kernel) (by decide +kernel), iv_X10_sum.1, iv_X10_sum.2.1, iv_X10_sum.2.2, rfl, by decide +kernel, by decide +kernel, by decide +kernel⟩
theorem ca_X10_279 : gLV RX10 279 (gCn 10) yX10_product cX10_product 2 none 0 := ⟨co_X10_product, gw_t 1521 (by decide +kernel) (by decide +kernel), iv_X10_product.1, iv_X10_product.2.1, iv_X10_product.2.2, rfl, by decide +kernel, by decide +kernel, by decide +kernel⟩
theorem ca_X10_282 : gLV RX10 282 (gCn 10) yX10_primary cX10_primary 2 none 0 := ⟨co_X10_primary, gw_t 1525 (by decide +kernel) (by decide +kernel), iv_X10_primary.1, iv_X10_primary.2.1, iv_X10_primary.2.2, rfl, by decide +kernel, by decide +kernel, by decide +kernel⟩
theorem ca_X10_243 : gLV RX10 243 (gCn 10) yX10_isSign cX10_isSign 2 (some .boolean) 1 := ⟨co_X10_isSign, gw_t 1529 (by decide +kernel) (by decide +kernel), iv_X10_isSign.1, iv_X10_isSign.2.1, iv_X10_isSign.2.2, rfl, by decide +kernel, by decide +kernel, by decide +kernel⟩
theorem ca_X10_294 : gLS RX10 294 yX10_half cX10_half 3 none 1 := ⟨co_X10_half, gw_t 1533 (by decide +kernel) (by decide +kernel), st_X10_half.1, st_X10_half.2, by decide +kernel, by decide +kernel, by decide +kernel⟩
theorem ca_L_34 : gLV RL 34 (gCn 10) yX10_fault cX10_fault 2 (some .int) 1 := ⟨co_X10_fault, gw_t 1536 (by decide +kernel) (by decide +kernel), iv_X10_fault.1, iv_X10_fault.2.1, iv_X10_fault.2.2, rfl, by decide +kernel, by decide +kernel, by decide +kernel⟩
theorem ca_L_38 : gLV RL 38 (gCn 10) yX10_named cX10_named 3 (some .int) 2 := ⟨co_X10_named, gw_t 1540 (by decide +kernel) (by decide +kernel), iv_X10_named.1, iv_X10_named.2.1, iv_X10_named.2.2, rfl, by decide +kernel, by decide +kernel, by decide +kernel⟩
theorem ca_L_44 : gLV RL 44 (gCn 10) yX10_man cX10_man 3 (some .int) 2 := ⟨co_X10_man, gw_t 1544 (by decide +kernel) (by decide +kernel), iv_X10_man.1, iv_X10_man.2.1, iv_X10_man.2.2, rfl, by decide +kernel, by decide +kernel, by decide +kernel⟩
theorem ca_X10_394 : gLV RX10 394 (gCn 10) yX10_isMan cX10_isMan 2 (some .boolean) 1 := ⟨co_X10_isMan, gw_t 1548 (by decide +kernel) (by decide +kernel), iv_X10_isMan.1, iv_X10_isMan.2.1, iv_X10_isMan.2.2, rfl, by decide +kernel, by decide +kernel, by decide +kernel⟩
theorem ca_L_52 : gLV RL 52 (gCn 10) yX10_has cX10_has 3 (some .int) 2 := ⟨co_X10_has, gw_t 1552 (by decide +kernel) (by decide +kernel), iv_X10_has.1, iv_X10_has.2.1, iv_X10_has.2.2, rfl, by decide +kernel, by decide +kernel, by decide +kernel⟩
theorem ca_L_56 : gLV RL 56 (gCn 10) yX10_deed cX10_deed 3 (some .int) 2 := ⟨co_X10_deed, gw_t 1556 (by decide +kernel) (by decide +kernel), iv_X10_deed.1, iv_X10_deed.2.1, iv_X10_deed.2.2, rfl, by decide +kernel, by decide +kernel, by decide +kernel⟩
theorem ca_X10_397 : gLV RX10 397 (gCn 10) yX10_isDeed cX10_isDeed 2 (some .boolean) 1 := ⟨co_X10_isDeed, gw_t 1560 (by decide +kernel) (by decide +kernel), iv_X10_isDeed.1, iv_X10_isDeed.2.1, iv_X10_isDeed.2.2, rfl, by decide +kernel, by decide +kernel, by decide +kernel⟩
theorem ca_L_60 : gLV RL 60 (gCn 10) yX10_times cX10_times 3 (some .int) 2 := ⟨co_X10_times, gw_t 1564 (by decide +kernel) (by decide +kernel), iv_X10_times.1, iv_X10_times.2.1, iv_X10_times.2.2, rfl, by decide +kernel, by decide +kernel, by decide +kernel⟩
theorem ca_L_65 : gLV RL 65 (gCn 10) yX10_law cX10_law 4 (some .long) 2 := ⟨co_X10_law, gw_t 1568 (by decide +kernel) (by decide +kernel), iv_X10_law.1, iv_X10_law.2.1, iv_X10_law.2.2, rfl, by decide +kernel, by decide +kernel, by decide +kernel⟩
theorem ca_X10_343 : gLV RX10 343 (gCn 10) yX10_hasLaw cX10_hasLaw 2 (some .boolean) 1 := ⟨co_X10_hasLaw, gw_t 1572 (by decide +kernel) (by decide +kernel), iv_X10_hasLaw.1, iv_X10_hasLaw.2.1, iv_X10_hasLaw.2.2, rfl, by decide +kernel, by decide +kernel, by decide +kernel⟩
theorem ca_X10_355 : gLV RX10 355 (gCn 10) yX10_deedSteps cX10_deedSteps 6 (some .int) 3 := ⟨co_X10_deedSteps, gw_t 1577 (by decide +kernel) (by decide +kernel), iv_X10_deedSteps.1, iv_X10_deedSteps.2.1, iv_X10_deedSteps.2.2, rfl, by decide +kernel, by decide +kernel, by decide +kernel⟩
theorem ca_X10_363 : gLV RX10 363 (gCn 10) yX10_calls cX10_calls 5 none 3 := ⟨co_X10_calls, gw_t 1581 (by decide +kernel) (by decide +kernel), iv_X10_calls.1, iv_X10_calls.2.1, iv_X10_calls.2.2, rfl, by decide +kernel, by decide +kernel, by decide +kernel⟩
theorem ca_X10_337 : gLS RX10 337 yJ9_max_7cf53 cJ9_max_7cf53 2 (some .int) 2 := ⟨co_J9_max_7cf53, gw_t 1585 (by decide +kernel) (by decide +kernel), st_J9_max_7cf53.1, st_J9_max_7cf53.2, by decide +kernel, by decide +kernel, by decide +kernel⟩
theorem ca_X10_340 : gLV RX10 340 (gCn 10) yX10_greatest cX10_greatest 4 (some .int) 1 := ⟨co_X10_greatest, gw_t 1586 (by decide +kernel) (by decide +kernel), iv_X10_greatest.1, iv_X10_greatest.2.1, iv_X10_greatest.2.2, rfl, by decide +kernel, by decide +kernel, by decide +kernel⟩
theorem ca_X10_334 : gLV RX10 334 (gCn 10) yX10_isThere cX10_isThere 2 (some .boolean) 1 := ⟨co_X10_isThere, gw_t 1590 (by decide +kernel) (by decide +kernel), iv_X10_isThere.1, iv_X10_isThere.2.1, iv_X10_isThere.2.2, rfl, by decide +kernel, by decide +kernel, by decide +kernel⟩
theorem ca_X10_346 : gLV RX10 346 (gCn 10) yX10_goes cX10_goes 3 (some .boolean) 1 := ⟨co_X10_goes, gw_t 1594 (by decide +kernel) (by decide +kernel), iv_X10_goes.1, iv_X10_goes.2.1, iv_X10_goes.2.2, rfl, by decide +kernel, by decide +kernel, by decide +kernel⟩
theorem ca_X10_325 : gLV RX10 325 (gCn 10) yX10_works cX10_works 8 (some .boolean) 1 := ⟨co_X10_works, gw_t 1598 (by decide +kernel) (by decide +kernel), iv_X10_works.1, iv_X10_works.2.1, iv_X10_works.2.2, rfl, by decide +kernel, by decide +kernel, by decide +kernel⟩
theorem ca_X10_311 : gLS RX10 311 yX10_is cX10_is 1 (some .long) 1 := ⟨co_X10_is, gw_t 1602 (by decide +kernel) (by decide +kernel), st_X10_is.1, st_X10_is.2, by decide +kernel, by decide +kernel, by decide +kernel⟩
theorem ca_X10_315 : gLS RX10 315 yJ9_abs_067f4 cJ9_abs_067f4 2 (some .long) 1 := ⟨co_J9_abs_067f4, gw_t 1605 (by decide +kernel) (by decide +kernel), st_J9_abs_067f4.1, st_J9_abs_067f4.2, by decide +kernel, by decide +kernel, by decide +kernel⟩
theorem ca_L_70 : gLV RL 70 (gCn 10) yX10_wear cX10_wear 3 (some .boolean) 2 := ⟨co_X10_wear, gw_t 1610 (by decide +kernel) (by decide +kernel), iv_X10_wear.1, iv_X10_wear.2.1, iv_X10_wear.2.2, rfl, by decide +kernel, by decide +kernel, by decide +kernel⟩
theorem ca_X10_404 : gLV RX10 404 (gCn 10) yX10_keepNow cX10_keepNow 2 none 0 := ⟨co_X10_keepNow, gw_t 1614 (by decide +kernel) (by decide +kernel), iv_X10_keepNow.1, iv_X10_keepNow.2.1, iv_X10_keepNow.2.2, rfl, by decide +kernel, by decide +kernel, by decide +kernel⟩
theorem ca_X10_387 : gLV RX10 387 (gCn 10) yX10_copies cX10_copies 6 none 2 := ⟨co_X10_copies, gw_t 1618 (by decide +kernel) (by decide +kernel), iv_X10_copies.1, iv_X10_copies.2.1, iv_X10_copies.2.2, rfl, by decide +kernel, by decide +kernel, by decide +kernel⟩
theorem ca_L_75 : gLV RL 75 (gCn 10) yX10_goal cX10_goal 3 (some .boolean) 2 := ⟨co_X10_goal, gw_t 1622 (by decide +kernel) (by decide +kernel), iv_X10_goal.1, iv_X10_goal.2.1, iv_X10_goal.2.2, rfl, by decide +kernel, by decide +kernel, by decide +kernel⟩
theorem ca_L_80 : gLV RL 80 (gCn 10) yX10_plan cX10_plan 4 (some .boolean) 3 := ⟨co_X10_plan, gw_t 1626 (by decide +kernel) (by decide +kernel), iv_X10_plan.1, iv_X10_plan.2.1, iv_X10_plan.2.2, rfl, by decide +kernel, by decide +kernel, by decide +kernel⟩
theorem ca_L_84 : gLV RL 84 (gCn 10) yX10_lend cX10_lend 3 (some .int) 2 := ⟨co_X10_lend, gw_t 1630 (by decide +kernel) (by decide +kernel), iv_X10_lend.1, iv_X10_lend.2.1, iv_X10_lend.2.2, rfl, by decide +kernel, by decide +kernel, by decide +kernel⟩
theorem ca_L_88 : gLV RL 88 (gCn 10) yX10_go cX10_go 3 (some .int) 1 := ⟨co_X10_go, gw_t 1634 (by decide +kernel) (by decide +kernel), iv_X10_go.1, iv_X10_go.2.1, iv_X10_go.2.2, rfl, by decide +kernel, by decide +kernel, by decide +kernel⟩
theorem ca_X10_390 : gLV RX10 390 (gCn 10) yX10_passes cX10_passes 6 none 2 := ⟨co_X10_passes, gw_t 1638 (by decide +kernel) (by decide +kernel), iv_X10_passes.1, iv_X10_passes.2.1, iv_X10_passes.2.2, rfl, by decide +kernel, by decide +kernel, by decide +kernel⟩
theorem ca_X10_377 : gLV RX10 377 (gCn 10) yX10_walks cX10_walks 11 none 3 := ⟨co_X10_walks, gw_t 1644 (by decide +kernel) (by decide +kernel), iv_X10_walks.1, iv_X10_walks.2.1, iv_X10_walks.2.2, rfl, by decide +kernel, by decide +kernel, by decide +kernel⟩
theorem ca_X10_359 : gLV RX10 359 (gCn 10) yX10_hasBand cX10_hasBand 3 (some .boolean) 2 := ⟨co_X10_hasBand, gw_t 1648 (by decide +kernel) (by decide +kernel), iv_X10_hasBand.1, iv_X10_hasBand.2.1, iv_X10_hasBand.2.2, rfl, by decide +kernel, by decide +kernel, by decide +kernel⟩
theorem ca_X10_367 : gLV RX10 367 (gCn 10) yX10_within cX10_within 4 (some .int) 3 := ⟨co_X10_within, gw_t 1652 (by decide +kernel) (by decide +kernel), iv_X10_within.1, iv_X10_within.2.1, iv_X10_within.2.2, rfl, by decide +kernel, by decide +kernel, by decide +kernel⟩
theorem ca_X10_349 : gLS RX10 349 yJ9_min_f86c9 cJ9_min_f86c9 4 (some .long) 2 := ⟨co_J9_min_f86c9, gw_t 1656 (by decide +kernel) (by decide +kernel), st_J9_min_f86c9.1, st_J9_min_f86c9.2, by decide +kernel, by decide +kernel, by decide +kernel⟩
theorem ca_X10_353 : gLS RX10 353 yJ9_max_f86c9 cJ9_max_f86c9 4 (some .long) 2 := ⟨co_J9_max_f86c9, gw_t 1657 (by decide +kernel) (by decide +kernel), st_J9_max_f86c9.1, st_J9_max_f86c9.2, by decide +kernel, by decide +kernel, by decide +kernel⟩
theorem ca_X10_371 : gLS RX10 371 yJ9_min_7cf53 cJ9_min_7cf53 2 (some .int) 2 := ⟨co_J9_min_7cf53, gw_t 1658 (by decide +kernel) (by decide +kernel), st_J9_min_7cf53.1, st_J9_min_7cf53.2, by decide +kernel, by decide +kernel, by decide +kernel⟩
theorem ca_X10_384 : gLV RX10 384 (gCn 10) yX10_leader cX10_leader 4 (some .int) 1 := ⟨co_X10_leader, gw_t 1659 (by decide +kernel) (by decide +kernel), iv_X10_leader.1, iv_X10_leader.2.1, iv_X10_leader.2.2, rfl, by decide +kernel, by decide +kernel, by decide +kernel⟩
theorem ca_L_93 : gLV RL 93 (gCn 10) yX10_ahead cX10_ahead 5 (some .int) 3 := ⟨co_X10_ahead, gw_t 1663 (by decide +kernel) (by decide +kernel), iv_X10_ahead.1, iv_X10_ahead.2.1, iv_X10_ahead.2.2, rfl, by decide +kernel, by decide +kernel, by decide +kernel⟩
theorem ca_X10_407 : gLV RX10 407 (gCn 10) yX10_runs cX10_runs 3 none 1 := ⟨co_X10_runs, gw_t 1667 (by decide +kernel) (by decide +kernel), iv_X10_runs.1, iv_X10_runs.2.1, iv_X10_runs.2.2, rfl, by decide +kernel, by decide +kernel, by decide +kernel⟩
theorem ca_L_97 : gLV RL 97 (gCn 10) yX10_reaches cX10_reaches 4 (some .int) 2 := ⟨co_X10_reaches, gw_t 1671 (by decide +kernel) (by decide +kernel), iv_X10_reaches.1, iv_X10_reaches.2.1, iv_X10_reaches.2.2, rfl, by decide +kernel, by decide +kernel, by decide +kernel⟩
theorem ca_L_101 : gLV RL 101 (gCn 10) yX10_longest cX10_longest 5 (some .int) 2 := ⟨co_X10_longest, gw_t 1675 (by decide +kernel) (by decide +kernel), iv_X10_longest.1, iv_X10_longest.2.1, iv_X10_longest.2.2, rfl, by decide +kernel, by decide +kernel, by decide +kernel⟩
theorem ca_L_105 : gLV RL 105 (gCn 10) yX10_moves cX10_moves 8 (some .int) 3 := ⟨co_X10_moves, gw_t 1679 (by decide +kernel) (by decide +kernel), iv_X10_moves.1, iv_X10_moves.2.1, iv_X10_moves.2.2, rfl, by decide +kernel, by decide +kernel, by decide +kernel⟩
theorem ca_L_109 : gLV RL 109 (gCn 10) yX10_deeds cX10_deeds 11 (some .int) 2 := ⟨co_X10_deeds, gw_t 1683 (by decide +kernel) (by decide +kernel), iv_X10_deeds.1, iv_X10_deeds.2.1, iv_X10_deeds.2.2, rfl, by decide +kernel, by decide +kernel, by decide +kernel⟩
theorem ca_X10_410 : gLS RX10 410 yX10_fives cX10_fives 3 (some .int) 1 := ⟨co_X10_fives, gw_t 1687 (by decide +kernel) (by decide +kernel), st_X10_fives.1, st_X10_fives.2, by decide +kernel, by decide +kernel, by decide +kernel⟩
theorem ca_L_113 : gLV RL 113 (gCn 10) yX10_leads cX10_leads 1 (some .int) 0 := ⟨co_X10_leads, gw_t 1690 (by decide +kernel) (by decide +kernel), iv_X10_leads.1, iv_X10_leads.2.1, iv_X10_leads.2.2, rfl, by decide +kernel, by decide +kernel, by decide +kernel⟩
theorem ca_L_117 : gLV RL 117 (gCn 10) yX10_winner cX10_winner 3 (some .int) 1 := ⟨co_X10_winner, gw_t 1694 (by decide +kernel) (by decide +kernel), iv_X10_winner.1, iv_X10_winner.2.1, iv_X10_winner.2.2, rfl, by decide +kernel, by decide +kernel, by decide +kernel⟩
theorem ca_X10_413 : gLV RX10 413 (gCn 10) yX10_winsFrom cX10_winsFrom 1 (some .int) 0 := ⟨co_X10_winsFrom, gw_t 1698 (by decide +kernel) (by decide +kernel), iv_X10_winsFrom.1, iv_X10_winsFrom.2.1, iv_X10_winsFrom.2.2, rfl, by decide +kernel, by decide +kernel, by decide +kernel⟩
theorem ca_L_121 : gLV RL 121 (gCn 10) yX10_needs cX10_needs 3 (some .int) 1 := ⟨co_X10_needs, gw_t 1702 (by decide +kernel) (by decide +kernel), iv_X10_needs.1, iv_X10_needs.2.1, iv_X10_needs.2.2, rfl, by decide +kernel, by decide +kernel, by decide +kernel⟩
theorem ca_L_133 : gLV RL 133 (gCn 10) yX10_rank cX10_rank 4 (some .int) 1 := ⟨co_X10_rank, gw_t 1706 (by decide +kernel) (by decide +kernel), iv_X10_rank.1, iv_X10_rank.2.1, iv_X10_rank.2.2, rfl, by decide +kernel, by decide +kernel, by decide +kernel⟩
theorem ca_L_137 : gLV RL 137 (gCn 10) yX10_falls cX10_falls 3 (some .int) 2 := ⟨co_X10_falls, gw_t 1710 (by decide +kernel) (by decide +kernel), iv_X10_falls.1, iv_X10_falls.2.1, iv_X10_falls.2.2, rfl, by decide +kernel, by decide +kernel, by decide +kernel⟩
theorem ca_L_141 : gLV RL 141 (gCn 10) yX10_earns cX10_earns 5 (some .int) 3 := ⟨co_X10_earns, gw_t 1714 (by decide +kernel) (by decide +kernel), iv_X10_earns.1, iv_X10_earns.2.1, iv_X10_earns.2.2, rfl, by decide +kernel, by decide +kernel, by decide +kernel⟩
theorem ca_L_125 : gLV RL 125 (gCn 10) yX10_rests cX10_rests 3 (some .int) 2 := ⟨co_X10_rests, gw_t 1718 (by decide +kernel) (by decide +kernel), iv_X10_rests.1, iv_X10_rests.2.1, iv_X10_rests.2.2, rfl, by decide +kernel, by decide +kernel, by decide +kernel⟩
theorem ca_X10_419 : gLV RX10 419 (gCn 10) yX10_areTwo cX10_areTwo 3 (some .boolean) 2 := ⟨co_X10_areTwo, gw_t 1722 (by decide +kernel) (by decide +kernel), iv_X10_areTwo.1, iv_X10_areTwo.2.1, iv_X10_areTwo.2.2, rfl, by decide +kernel, by decide +kernel, by decide +kernel⟩
theorem ca_X10_422 : gLV RX10 422 (gCn 10) yX10_layFurther cX10_layFurther 5 none 2 := ⟨co_X10_layFurther, gw_t 1726 (by decide +kernel) (by decide +kernel), iv_X10_layFurther.1, iv_X10_layFurther.2.1, iv_X10_layFurther.2.2, rfl, by decide +kernel, by decide +kernel, by decide +kernel⟩
theorem ca_X10_425 : gLV RX10 425 (gCn 10) yX10_restOf cX10_restOf 4 (some .int) 1 := ⟨co_X10_restOf, gw_t 1730 (by decide +kernel) (by decide +kernel), iv_X10_restOf.1, iv_X10_restOf.2.1, iv_X10_restOf.2.2, rfl, by decide +kernel, by decide +kernel, by decide +kernel⟩
theorem ca_X10_416 : gLV RX10 416 (gCn 10) yX10_isRest cX10_isRest 3 (some .boolean) 1 := ⟨co_X10_isRest, gw_t 1734 (by decide +kernel) (by decide +kernel), iv_X10_isRest.1, iv_X10_isRest.2.1, iv_X10_isRest.2.2, rfl, by decide +kernel, by decide +kernel, by decide +kernel⟩
theorem ca_L_129 : gLV RL 129 (gCn 10) yX10_rest cX10_rest 4 (some .int) 3 := ⟨co_X10_rest, gw_t 1738 (by decide +kernel) (by decide +kernel), iv_X10_rest.1, iv_X10_rest.2.1, iv_X10_rest.2.2, rfl, by decide +kernel, by decide +kernel, by decide +kernel⟩
theorem ca_L_145 : gLV RL 145 (gCn 10) yX10_falseOnes cX10_falseOnes 7 (some .int) 2 := ⟨co_X10_falseOnes, gw_t 1742 (by decide +kernel) (by decide +kernel), iv_X10_falseOnes.1, iv_X10_falseOnes.2.1, iv_X10_falseOnes.2.2, rfl, by decide +kernel, by decide +kernel, by decide +kernel⟩
theorem ca_X10_428 : gLS RX10 428 yX10_common cX10_common 5 (some .int) 2 := ⟨co_X10_common, gw_t 1746 (by decide +kernel) (by decide +kernel), st_X10_common.1, st_X10_common.2, by decide +kernel, by decide +kernel, by decide +kernel⟩
theorem ca_L_149 : gLV RL 149 (gCn 10) yX10_habit cX10_habit 3 (some .int) 1 := ⟨co_X10_habit, gw_t 1749 (by decide +kernel) (by decide +kernel), iv_X10_habit.1, iv_X10_habit.2.1, iv_X10_habit.2.2, rfl, by decide +kernel, by decide +kernel, by decide +kernel⟩
theorem ca_L_153 : gLV RL 153 (gCn 10) yX10_breaks cX10_breaks 5 (some .int) 2 := ⟨co_X10_breaks, gw_t 1753 (by decide +kernel) (by decide +kernel), iv_X10_breaks.1, iv_X10_breaks.2.1, iv_X10_breaks.2.2, rfl, by decide +kernel, by decide +kernel, by decide +kernel⟩
theorem ca_L_158 : gLV RL 158 (gCn 10) yX10_note cX10_note 5 (some .int) 4 := ⟨co_X10_note, gw_t 1757 (by decide +kernel) (by decide +kernel), iv_X10_note.1, iv_X10_note.2.1, iv_X10_note.2.2, rfl, by decide +kernel, by decide +kernel, by decide +kernel⟩
theorem ca_L_162 : gLV RL 162 (gCn 10) yX10_out cX10_out 2 (some .int) 1 := ⟨co_X10_out, gw_t 1761 (by decide +kernel) (by decide +kernel), iv_X10_out.1, iv_X10_out.2.1, iv_X10_out.2.2, rfl, by decide +kernel, by decide +kernel, by decide +kernel⟩
theorem ca_L_167 : gLV RL 167 (gCn 10) yX10_known cX10_known 2 (some .boolean) 1 := ⟨co_X10_known, gw_t 1765 (by decide +kernel) (by decide +kernel), iv_X10_known.1, iv_X10_known.2.1, iv_X10_known.2.2, rfl, by decide +kernel, by decide +kernel, by decide +kernel⟩
theorem ca_L_171 : gLV RL 171 (gCn 10) yX10_fits cX10_fits 6 (some .int) 2 := ⟨co_X10_fits, gw_t 1769 (by decide +kernel) (by decide +kernel), iv_X10_fits.1, iv_X10_fits.2.1, iv_X10_fits.2.2, rfl, by decide +kernel, by decide +kernel, by decide +kernel⟩
theorem ca_X10_431 : gLV RX10 431 (gCn 10) yX10_knownMany cX10_knownMany 1 (some .int) 0 := ⟨co_X10_knownMany, gw_t 1773 (by decide +kernel) (by decide +kernel), iv_X10_knownMany.1, iv_X10_knownMany.2.1, iv_X10_knownMany.2.2, rfl, by decide +kernel, by decide +kernel, by decide +kernel⟩
theorem ca_X10_437 : gLV RX10 437 (gCn 10) yX10_fitsTimes cX10_fitsTimes 6 (some .boolean) 4 := ⟨co_X10_fitsTimes, gw_t 1777 (by decide +kernel) (by decide +kernel), iv_X10_fitsTimes.1, iv_X10_fitsTimes.2.1, iv_X10_fitsTimes.2.2, rfl, by decide +kernel, by decide +kernel, by decide +kernel⟩
theorem ca_X10_434 : gLV RX10 434 (gCn 10) yX10_isSo cX10_isSo 3 (some .boolean) 1 := ⟨co_X10_isSo, gw_t 1781 (by decide +kernel) (by decide +kernel), iv_X10_isSo.1, iv_X10_isSo.2.1, iv_X10_isSo.2.2, rfl, by decide +kernel, by decide +kernel, by decide +kernel⟩
theorem ca_L_176 : gLV RL 176 (gCn 10) yX10_chance cX10_chance 9 (some .int) 4 := ⟨co_X10_chance, gw_t 1785 (by decide +kernel) (by decide +kernel), iv_X10_chance.1, iv_X10_chance.2.1, iv_X10_chance.2.2, rfl, by decide +kernel, by decide +kernel, by decide +kernel⟩
theorem ca_L_180 : gLV RL 180 (gCn 10) yX10_tried cX10_tried 5 (some .int) 3 := ⟨co_X10_tried, gw_t 1789 (by decide +kernel) (by decide +kernel), iv_X10_tried.1, iv_X10_tried.2.1, iv_X10_tried.2.2, rfl, by decide +kernel, by decide +kernel, by decide +kernel⟩
theorem ca_X10_441 : gLV RX10 441 (gCn 10) yX10_sumOf cX10_sumOf 5 (some .int) 2 := ⟨co_X10_sumOf, gw_t 1793 (by decide +kernel) (by decide +kernel), iv_X10_sumOf.1, iv_X10_sumOf.2.1, iv_X10_sumOf.2.2, rfl, by decide +kernel, by decide +kernel, by decide +kernel⟩
theorem ca_L_184 : gLV RL 184 (gCn 10) yX10_undo cX10_undo 1 (some .int) 0 := ⟨co_X10_undo, gw_t 1797 (by decide +kernel) (by decide +kernel), iv_X10_undo.1, iv_X10_undo.2.1, iv_X10_undo.2.2, rfl, by decide +kernel, by decide +kernel, by decide +kernel⟩
theorem ca_L_188 : gLV RL 188 (gCn 10) yX10_keep cX10_keep 1 (some .int) 0 := ⟨co_X10_keep, gw_t 1801 (by decide +kernel) (by decide +kernel), iv_X10_keep.1, iv_X10_keep.2.1, iv_X10_keep.2.2, rfl, by decide +kernel, by decide +kernel, by decide +kernel⟩
theorem ca_L_192 : gLV RL 192 (gCn 10) yX10_back cX10_back 1 (some .int) 0 := ⟨co_X10_back, gw_t 1805 (by decide +kernel) (by decide +kernel), iv_X10_back.1, iv_X10_back.2.1, iv_X10_back.2.2, rfl, by decide +kernel, by decide +kernel, by decide +kernel⟩
theorem ca_L_196 : gLV RL 196 (gCn 10) yX10_count cX10_count 2 (some .int) 1 := ⟨co_X10_count, gw_t 1809 (by decide +kernel) (by decide +kernel), iv_X10_count.1, iv_X10_count.2.1, iv_X10_count.2.2, rfl, by decide +kernel, by decide +kernel, by decide +kernel⟩
theorem ca_X6_77 : gLN RX6 77 yX9_placeOf "WristGoal" cX9_placeOf 4 (some .int) 3 := ⟨co_X9_placeOf, by decide +kernel, st_X9_placeOf.1, st_X9_placeOf.2, by decide +kernel, by decide +kernel, by decide +kernel⟩
theorem ca_X5_184 : gLN RX5 184 yX9_placeOf "WristGoal" cX9_placeOf 4 (some .int) 3 := ⟨co_X9_placeOf, by decide +kernel, st_X9_placeOf.1, st_X9_placeOf.2, by decide +kernel, by decide +kernel, by decide +kernel⟩
theorem ca_X5_164 : gLN RX5 164 yX9_isWithin "WristGoal" cX9_isWithin 3 (some .boolean) 3 := ⟨co_X9_isWithin, by decide +kernel, st_X9_isWithin.1, st_X9_isWithin.2, by decide +kernel, by decide +kernel, by decide +kernel⟩
theorem ca_X1_89 : gLN RX1 89 yX9_isWithin "WristGoal" cX9_isWithin 3 (some .boolean) 3 := ⟨co_X9_isWithin, by decide +kernel, st_X9_isWithin.1, st_X9_isWithin.2, by decide +kernel, by decide +kernel, by decide +kernel⟩
theorem ca_X2_50 : gLN RX2 50 yX9_isWithin "WristGoal" cX9_isWithin 3 (some .boolean) 3 := ⟨co_X9_isWithin, by decide +kernel, st_X9_isWithin.1, st_X9_isWithin.2, by decide +kernel, by decide +kernel, by decide +kernel⟩
theorem mk_X6_39 : gLM RX6 39 Lib.Math.min.name Lib.Math.min.code 2 (some .int) := ⟨gw_t 575 (by decide +kernel) (by decide +kernel), gw_t 576 (by decide +kernel) (by decide +kernel), gw_t 17 (by decide +kernel) (by decide +kernel), gw_t 577 (by decide +kernel) (by decide +kernel)⟩
theorem mk_X1_98 : gLM RX1 98 Lib.Math.max.name Lib.Math.max.code 2 (some .int) := ⟨gw_t 720 (by decide +kernel) (by decide +kernel), gw_t 721 (by decide +kernel) (by decide +kernel), gw_t 17 (by decide +kernel) (by decide +kernel), gw_t 722 (by decide +kernel) (by decide +kernel)⟩
theorem ac_X4_57 : gLA RX4 57 := ⟨gw_t 744 (by decide +kernel) (by decide +kernel), gw_t 746 (by decide +kernel) (by decide +kernel), gw_t 745 (by decide +kernel) (by decide +kernel), gw_t 18 (by decide +kernel) (by decide +kernel)⟩
theorem mk_X8_152 : gLM RX8 152 Lib.Math.max.name Lib.Math.max.code 2 (some .int) := ⟨gw_t 807 (by decide +kernel) (by decide +kernel), gw_t 721 (by decide +kernel) (by decide +kernel), gw_t 17 (by decide +kernel) (by decide +kernel), gw_t 722 (by decide +kernel) (by decide +kernel)⟩
theorem mk_X8_181 : gLM RX8 181 Lib.MathLoose.min_long.x Lib.MathLoose.min_long.code 4 (some .long) := ⟨gw_t 875 (by decide +kernel) (by decide +kernel), gw_t 876 (by decide +kernel) (by decide +kernel), gw_t 17 (by decide +kernel) (by decide +kernel), gw_t 877 (by decide +kernel) (by decide +kernel)⟩
theorem mk_X8_184 : gLM RX8 184 Lib.MathLoose.max_long.x Lib.MathLoose.max_long.code 4 (some .long) := ⟨gw_t 878 (by decide +kernel) (by decide +kernel), gw_t 879 (by decide +kernel) (by decide +kernel), gw_t 17 (by decide +kernel) (by decide +kernel), gw_t 880 (by decide +kernel) (by decide +kernel)⟩
theorem mk_X8_139 : gLM RX8 139 Lib.Math.min.name Lib.Math.min.code 2 (some .int) := ⟨gw_t 881 (by decide +kernel) (by decide +kernel), gw_t 576 (by decide +kernel) (by decide +kernel), gw_t 17 (by decide +kernel) (by decide +kernel), gw_t 577 (by decide +kernel) (by decide +kernel)⟩
theorem mk_X9_250 : gLM RX9 250 Lib.Math.max.name Lib.Math.max.code 2 (some .int) := ⟨gw_t 926 (by decide +kernel) (by decide +kernel), gw_t 721 (by decide +kernel) (by decide +kernel), gw_t 17 (by decide +kernel) (by decide +kernel), gw_t 722 (by decide +kernel) (by decide +kernel)⟩
theorem mk_X9_374 : gLM RX9 374 Lib.Math.min.name Lib.Math.min.code 2 (some .int) := ⟨gw_t 939 (by decide +kernel) (by decide +kernel), gw_t 576 (by decide +kernel) (by decide +kernel), gw_t 17 (by decide +kernel) (by decide +kernel), gw_t 577 (by decide +kernel) (by decide +kernel)⟩
theorem mk_X3_50 : gLM RX3 50 Lib.Math.max.name Lib.Math.max.code 2 (some .int) := ⟨gw_t 1070 (by decide +kernel) (by decide +kernel), gw_t 721 (by decide +kernel) (by decide +kernel), gw_t 17 (by decide +kernel) (by decide +kernel), gw_t 722 (by decide +kernel) (by decide +kernel)⟩
theorem mk_X10_337 : gLM RX10 337 Lib.Math.max.name Lib.Math.max.code 2 (some .int) := ⟨gw_t 1585 (by decide +kernel) (by decide +kernel), gw_t 721 (by decide +kernel) (by decide +kernel), gw_t 17 (by decide +kernel) (by decide +kernel), gw_t 722 (by decide +kernel) (by decide +kernel)⟩
theorem mk_X10_315 : gLM RX10 315 Lib.MathLoose.abs_long.x Lib.MathLoose.abs_long.code 2 (some .long) := ⟨gw_t 1605 (by decide +kernel) (by decide +kernel), gw_t 1606 (by decide +kernel) (by decide +kernel), gw_t 17 (by decide +kernel) (by decide +kernel), gw_t 1607 (by decide +kernel) (by decide +kernel)⟩
theorem mk_X10_349 : gLM RX10 349 Lib.MathLoose.min_long.x Lib.MathLoose.min_long.code 4 (some .long) := ⟨gw_t 1656 (by decide +kernel) (by decide +kernel), gw_t 876 (by decide +kernel) (by decide +kernel), gw_t 17 (by decide +kernel) (by decide +kernel), gw_t 877 (by decide +kernel) (by decide +kernel)⟩
theorem mk_X10_353 : gLM RX10 353 Lib.MathLoose.max_long.x Lib.MathLoose.max_long.code 4 (some .long) := ⟨gw_t 1657 (by decide +kernel) (by decide +kernel), gw_t 879 (by decide +kernel) (by decide +kernel), gw_t 17 (by decide +kernel) (by decide +kernel), gw_t 880 (by decide +kernel) (by decide +kernel)⟩
theorem mk_X10_371 : gLM RX10 371 Lib.Math.min.name Lib.Math.min.code 2 (some .int) := ⟨gw_t 1658 (by decide +kernel) (by decide +kernel), gw_t 576 (by decide +kernel) (by decide +kernel), gw_t 17 (by decide +kernel) (by decide +kernel), gw_t 577 (by decide +kernel) (by decide +kernel)⟩
theorem kc_X6_81 : Cond.constant RX6 81 (1000000) ∈ gw := gw_t 599 (by decide +kernel) (by decide +kernel)
theorem kc_X5_160 : Cond.constant RX5 160 (99999) ∈ gw := gw_t 665 (by decide +kernel) (by decide +kernel)
theorem kc_X9_293 : Cond.constant RX9 293 (99999) ∈ gw := gw_t 1028 (by decide +kernel) (by decide +kernel)
theorem kc_X10_183 : Cond.constant RX10 183 (99999) ∈ gw := gw_t 1445 (by decide +kernel) (by decide +kernel)
theorem kc_X10_373 : Cond.constant RX10 373 (1103515245) ∈ gw := gw_t 1642 (by decide +kernel) (by decide +kernel)
theorem kc_X10_376 : Cond.constant RX10 376 (2147483647) ∈ gw := gw_t 1643 (by decide +kernel) (by decide +kernel)
theorem kc_X9_209 : Cond.constantLong RX9 209 (-9223372036854775808) ∈ gw := gw_t 790 (by decide +kernel) (by decide +kernel)
theorem kc_X2_66 : Cond.constantLong RX2 66 (1000000000000) ∈ gw := gw_t 816 (by decide +kernel) (by decide +kernel)
theorem kc_X2_68 : Cond.constantLong RX2 68 (-1000000000000) ∈ gw := gw_t 817 (by decide +kernel) (by decide +kernel)
theorem kc_X8_58 : Cond.constantLong RX8 58 (1103515245) ∈ gw := gw_t 853 (by decide +kernel) (by decide +kernel)
theorem kc_X8_60 : Cond.constantLong RX8 60 (12345) ∈ gw := gw_t 854 (by decide +kernel) (by decide +kernel)
theorem kc_X8_62 : Cond.constantLong RX8 62 (2147483647) ∈ gw := gw_t 855 (by decide +kernel) (by decide +kernel)
theorem kc_X8_64 : Cond.constantLong RX8 64 (65536) ∈ gw := gw_t 856 (by decide +kernel) (by decide +kernel)
theorem kc_X8_66 : Cond.constantLong RX8 66 (100) ∈ gw := gw_t 857 (by decide +kernel) (by decide +kernel)
theorem kc_X10_402 : Cond.constantLong RX10 402 (-9223372036854775808) ∈ gw := gw_t 1576 (by decide +kernel) (by decide +kernel)
theorem kc_X10_321 : Cond.constantLong RX10 321 (1000000000000) ∈ gw := gw_t 1608 (by decide +kernel) (by decide +kernel)
theorem kc_X10_323 : Cond.constantLong RX10 323 (-1000000000000) ∈ gw := gw_t 1609 (by decide +kernel) (by decide +kernel)
