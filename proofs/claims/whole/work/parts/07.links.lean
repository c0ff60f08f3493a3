/-! ===== links: fields, methods, constants, by their places in the tables ===== -/
theorem ws_in {ws : List Cond} (ps : List Nat) (hp : ws = ps.filterMap (fun i => lw_tbl[i]?)) (hg : ws.all goodWord = true) : ∀ w ∈ ws, w ∈ TBg := by
  intro w hw
  have h1 := List.all_eq_true.mp hg w hw
  rw [hp] at hw
  obtain ⟨i, -, hi⟩ := List.mem_filterMap.mp hw
  exact tb_of (List.mem_of_getElem? hi) h1
set_option maxHeartbeats 4000000 in
set_option maxRecDepth 100000 in
theorem inT_0 : ∀ w ∈ u_ws RX0 TX0 3, w ∈ TBg := ws_in [217, 219, 221] (by decide +kernel) (by decide +kernel)
theorem ci_0 : CI 0 RX0 TX0 3 tyX0 := ⟨rfl, inT_0, tyX0_ok, nmX0, rfl, by decide⟩
set_option maxHeartbeats 4000000 in
set_option maxRecDepth 100000 in
theorem inT_1 : ∀ w ∈ u_ws RX1 TX1 6, w ∈ TBg := ws_in [396, 398, 400, 402, 404, 406] (by decide +kernel) (by decide +kernel)
theorem ci_1 : CI 1 RX1 TX1 6 tyX1 := ⟨rfl, inT_1, tyX1_ok, nmX1, rfl, by decide⟩
set_option maxHeartbeats 4000000 in
set_option maxRecDepth 100000 in
theorem inT_2 : ∀ w ∈ u_ws RX2 TX2 4, w ∈ TBg := ws_in [448, 450, 452, 454] (by decide +kernel) (by decide +kernel)
theorem ci_2 : CI 2 RX2 TX2 4 tyX2 := ⟨rfl, inT_2, tyX2_ok, nmX2, rfl, by decide⟩
set_option maxHeartbeats 4000000 in
set_option maxRecDepth 100000 in
theorem inT_3 : ∀ w ∈ u_ws RX3 TX3 6, w ∈ TBg := ws_in [425, 427, 429, 431, 433, 435] (by decide +kernel) (by decide +kernel)
theorem ci_3 : CI 3 RX3 TX3 6 tyX3 := ⟨rfl, inT_3, tyX3_ok, nmX3, rfl, by decide⟩
set_option maxHeartbeats 4000000 in
set_option maxRecDepth 100000 in
theorem inT_4 : ∀ w ∈ u_ws RX4 TX4 2, w ∈ TBg := ws_in [522, 524] (by decide +kernel) (by decide +kernel)
theorem ci_4 : CI 4 RX4 TX4 2 tyX4 := ⟨rfl, inT_4, tyX4_ok, nmX4, rfl, by decide⟩
set_option maxHeartbeats 4000000 in
set_option maxRecDepth 100000 in
theorem inT_5 : ∀ w ∈ u_ws RX5 TX5 17, w ∈ TBg := ws_in [312, 314, 316, 318, 320, 322, 324, 326, 328, 330, 332, 334, 336, 338, 340, 342, 344] (by decide +kernel) (by decide +kernel)
theorem ci_5 : CI 5 RX5 TX5 17 tyX5 := ⟨rfl, inT_5, tyX5_ok, nmX5, rfl, by decide⟩
set_option maxHeartbeats 4000000 in
set_option maxRecDepth 100000 in
theorem inT_6 : ∀ w ∈ u_ws RX6 TX6 4, w ∈ TBg := ws_in [357, 359, 361, 363] (by decide +kernel) (by decide +kernel)
theorem ci_6 : CI 6 RX6 TX6 4 tyX6 := ⟨rfl, inT_6, tyX6_ok, nmX6, rfl, by decide⟩
set_option maxHeartbeats 4000000 in
set_option maxRecDepth 100000 in
theorem inT_7 : ∀ w ∈ u_ws RX7 TX7 3, w ∈ TBg := ws_in [467, 469, 471] (by decide +kernel) (by decide +kernel)
theorem ci_7 : CI 7 RX7 TX7 3 tyX7 := ⟨rfl, inT_7, tyX7_ok, nmX7, rfl, by decide⟩
set_option maxHeartbeats 4000000 in
set_option maxRecDepth 100000 in
theorem inT_8 : ∀ w ∈ u_ws RX8 TX8 3, w ∈ TBg := ws_in [233, 235, 237] (by decide +kernel) (by decide +kernel)
theorem ci_8 : CI 8 RX8 TX8 3 tyX8 := ⟨rfl, inT_8, tyX8_ok, nmX8, rfl, by decide⟩
set_option maxHeartbeats 4000000 in
set_option maxRecDepth 100000 in
theorem inT_9 : ∀ w ∈ u_ws RX9 TX9 7, w ∈ TBg := ws_in [192, 194, 196, 198, 200, 202, 204] (by decide +kernel) (by decide +kernel)
theorem ci_9 : CI 9 RX9 TX9 7 tyX9 := ⟨rfl, inT_9, tyX9_ok, nmX9, rfl, by decide⟩
set_option maxHeartbeats 4000000 in
set_option maxRecDepth 100000 in
theorem inT_10 : ∀ w ∈ u_ws RX10 TX10 7, w ∈ TBg := ws_in [497, 499, 501, 503, 505, 507, 509] (by decide +kernel) (by decide +kernel)
theorem ci_10 : CI 10 RX10 TX10 7 tyX10 := ⟨rfl, inT_10, tyX10_ok, nmX10, rfl, by decide⟩
set_option maxHeartbeats 4000000 in
set_option maxRecDepth 100000 in
theorem inT_11 : ∀ w ∈ u_ws RX11 TX11 19, w ∈ TBg := ws_in [546, 548, 550, 552, 554, 556, 558, 560, 562, 564, 566, 568, 570, 572, 574, 576, 578, 580, 582] (by decide +kernel) (by decide +kernel)
theorem ci_11 : CI 11 RX11 TX11 19 tyX11 := ⟨rfl, inT_11, tyX11_ok, nmX11, rfl, by decide⟩
set_option maxHeartbeats 4000000 in
set_option maxRecDepth 100000 in
theorem inT_12 : ∀ w ∈ u_ws RX12 TX12 120, w ∈ TBg := ws_in [1372, 1374, 1376, 1378, 1380, 1382, 1384, 1386, 1388, 1390, 1392, 1394, 1396, 1398, 1400, 1402, 1404, 1406, 1408, 1410, 1412, 1414, 1416, 1418, 1420, 1422, 1424, 1426, 1428, 1430, 1432, 1434, 1436, 1438, 1440, 1442, 1444, 1446, 1448, 1450, 1452, 1454, 1456, 1458, 1460, 1462, 1464, 1466, 1468, 1470, 1472, 1474, 1476, 1478, 1480, 1482, 1484, 1486, 1488, 1490, 1492, 1494, 1496, 1498, 1500, 1502, 1504, 1506, 1508, 1510, 1512, 1514, 1516, 1518, 1520, 1522, 1524, 1526, 1528, 1530, 1532, 1534, 1536, 1538, 1540, 1542, 1544, 1546, 1548, 1550, 1552, 1554, 1556, 1558, 1560, 1562, 1564, 1566, 1568, 1570, 1572, 1574, 1576, 1578, 1580, 1582, 1584, 1586, 1588, 1590, 1592, 1594, 1596, 1598, 1600, 1602, 1604, 1606, 1608, 1610] (by decide +kernel) (by decide +kernel)
theorem ci_12 : CI 12 RX12 TX12 120 tyX12 := ⟨rfl, inT_12, tyX12_ok, nmX12, rfl, by decide⟩
set_option maxHeartbeats 4000000 in
set_option maxRecDepth 100000 in
theorem sl_38 : Cond.fieldLink RJ0 38 "java/lang/String" "COMPACT_STRINGS" "Z" ∈ TBg := tm_3 35 rfl rfl
set_option maxHeartbeats 4000000 in
set_option maxRecDepth 100000 in
theorem sl_1053 : Cond.fieldLink RJ0 1053 "jdk/internal/util/Preconditions" "SIOOBE_FORMATTER" "Ljava/util/function/BiFunction;" ∈ TBg := tm_3 51 rfl rfl
set_option maxHeartbeats 4000000 in
set_option maxRecDepth 100000 in
theorem sl_9 : Cond.fieldLink RJ0 9 "java/lang/String" "value" "[B" ∈ TBg := tm_9 111 rfl rfl
set_option maxHeartbeats 4000000 in
set_option maxRecDepth 100000 in
theorem sl_15 : Cond.fieldLink RJ0 15 "java/lang/String" "coder" "B" ∈ TBg := tm_9 112 rfl rfl
set_option maxHeartbeats 4000000 in
set_option maxRecDepth 100000 in
theorem fg_RX11_12 : FG RX11 12 11 0 2 := ⟨RX11, TX11, 19, tyX11, ci_11, by decide, rfl, tm_2 149 rfl rfl⟩
set_option maxHeartbeats 4000000 in
set_option maxRecDepth 100000 in
theorem fg_RX11_19 : FG RX11 19 11 1 2 := ⟨RX11, TX11, 19, tyX11, ci_11, by decide, rfl, tm_2 150 rfl rfl⟩
set_option maxHeartbeats 4000000 in
set_option maxRecDepth 100000 in
theorem fg_RX11_28 : FG RX11 28 11 2 2 := ⟨RX11, TX11, 19, tyX11, ci_11, by decide, rfl, tm_2 151 rfl rfl⟩
set_option maxHeartbeats 4000000 in
set_option maxRecDepth 100000 in
theorem fg_RX11_35 : FG RX11 35 11 3 2 := ⟨RX11, TX11, 19, tyX11, ci_11, by decide, rfl, tm_2 152 rfl rfl⟩
set_option maxHeartbeats 4000000 in
set_option maxRecDepth 100000 in
theorem fg_RX11_39 : FG RX11 39 11 4 2 := ⟨RX11, TX11, 19, tyX11, ci_11, by decide, rfl, tm_2 153 rfl rfl⟩
set_option maxHeartbeats 4000000 in
set_option maxRecDepth 100000 in
theorem fg_RX11_47 : FG RX11 47 11 5 2 := ⟨RX11, TX11, 19, tyX11, ci_11, by decide, rfl, tm_2 154 rfl rfl⟩
set_option maxHeartbeats 4000000 in
set_option maxRecDepth 100000 in
theorem fg_RX11_54 : FG RX11 54 11 6 2 := ⟨RX11, TX11, 19, tyX11, ci_11, by decide, rfl, tm_2 155 rfl rfl⟩
set_option maxHeartbeats 4000000 in
set_option maxRecDepth 100000 in
theorem fg_RX11_58 : FG RX11 58 11 7 2 := ⟨RX11, TX11, 19, tyX11, ci_11, by decide, rfl, tm_2 156 rfl rfl⟩
set_option maxHeartbeats 4000000 in
set_option maxRecDepth 100000 in
theorem fg_RX11_64 : FG RX11 64 11 8 2 := ⟨RX11, TX11, 19, tyX11, ci_11, by decide, rfl, tm_2 157 rfl rfl⟩
set_option maxHeartbeats 4000000 in
set_option maxRecDepth 100000 in
theorem fg_RX11_71 : FG RX11 71 11 9 2 := ⟨RX11, TX11, 19, tyX11, ci_11, by decide, rfl, tm_2 158 rfl rfl⟩
set_option maxHeartbeats 4000000 in
set_option maxRecDepth 100000 in
theorem fg_RX11_78 : FG RX11 78 11 10 2 := ⟨RX11, TX11, 19, tyX11, ci_11, by decide, rfl, tm_2 159 rfl rfl⟩
set_option maxHeartbeats 4000000 in
set_option maxRecDepth 100000 in
theorem fg_RX11_84 : FG RX11 84 11 11 2 := ⟨RX11, TX11, 19, tyX11, ci_11, by decide, rfl, tm_2 160 rfl rfl⟩
set_option maxHeartbeats 4000000 in
set_option maxRecDepth 100000 in
theorem fg_RX11_89 : FG RX11 89 11 12 2 := ⟨RX11, TX11, 19, tyX11, ci_11, by decide, rfl, tm_2 161 rfl rfl⟩
set_option maxHeartbeats 4000000 in
set_option maxRecDepth 100000 in
theorem fg_RX11_93 : FG RX11 93 11 13 2 := ⟨RX11, TX11, 19, tyX11, ci_11, by decide, rfl, tm_2 162 rfl rfl⟩
set_option maxHeartbeats 4000000 in
set_option maxRecDepth 100000 in
theorem fg_RX11_96 : FG RX11 96 11 14 2 := ⟨RX11, TX11, 19, tyX11, ci_11, by decide, rfl, tm_2 163 rfl rfl⟩
set_option maxHeartbeats 4000000 in
set_option maxRecDepth 100000 in
theorem fg_RX11_100 : FG RX11 100 11 15 2 := ⟨RX11, TX11, 19, tyX11, ci_11, by decide, rfl, tm_2 164 rfl rfl⟩
set_option maxHeartbeats 4000000 in
set_option maxRecDepth 100000 in
theorem fg_RX11_106 : FG RX11 106 11 16 2 := ⟨RX11, TX11, 19, tyX11, ci_11, by decide, rfl, tm_2 165 rfl rfl⟩
set_option maxHeartbeats 4000000 in
set_option maxRecDepth 100000 in
theorem fg_RX11_110 : FG RX11 110 11 17 2 := ⟨RX11, TX11, 19, tyX11, ci_11, by decide, rfl, tm_2 166 rfl rfl⟩
set_option maxHeartbeats 4000000 in
set_option maxRecDepth 100000 in
theorem fg_RX11_113 : FG RX11 113 11 18 1 := ⟨RX11, TX11, 19, tyX11, ci_11, by decide, rfl, tm_2 167 rfl rfl⟩
set_option maxHeartbeats 4000000 in
set_option maxRecDepth 100000 in
theorem fg_RX11_117 : FG RX11 117 9 1 0 := ⟨RX9, TX9, 7, tyX9, ci_9, by decide, rfl, tm_1 39 rfl rfl⟩
set_option maxHeartbeats 4000000 in
set_option maxRecDepth 100000 in
theorem fg_RX11_133 : FG RX11 133 9 5 0 := ⟨RX9, TX9, 7, tyX9, ci_9, by decide, rfl, tm_1 51 rfl rfl⟩
set_option maxHeartbeats 4000000 in
set_option maxRecDepth 100000 in
theorem fg_RX11_143 : FG RX11 143 7 0 0 := ⟨RX7, TX7, 3, tyX7, ci_7, by decide, rfl, tm_2 86 rfl rfl⟩
set_option maxHeartbeats 4000000 in
set_option maxRecDepth 100000 in
theorem fg_RX11_149 : FG RX11 149 9 6 0 := ⟨RX9, TX9, 7, tyX9, ci_9, by decide, rfl, tm_1 53 rfl rfl⟩
set_option maxHeartbeats 4000000 in
set_option maxRecDepth 100000 in
theorem fg_RX11_152 : FG RX11 152 5 0 0 := ⟨RX5, TX5, 17, tyX5, ci_5, by decide, rfl, tm_1 114 rfl rfl⟩
set_option maxHeartbeats 4000000 in
set_option maxRecDepth 100000 in
theorem fg_RX11_155 : FG RX11 155 5 1 0 := ⟨RX5, TX5, 17, tyX5, ci_5, by decide, rfl, tm_1 118 rfl rfl⟩
set_option maxHeartbeats 4000000 in
set_option maxRecDepth 100000 in
theorem fg_RX11_158 : FG RX11 158 5 3 0 := ⟨RX5, TX5, 17, tyX5, ci_5, by decide, rfl, tm_1 128 rfl rfl⟩
set_option maxHeartbeats 4000000 in
set_option maxRecDepth 100000 in
theorem fg_RX11_161 : FG RX11 161 5 4 0 := ⟨RX5, TX5, 17, tyX5, ci_5, by decide, rfl, tm_1 131 rfl rfl⟩
set_option maxHeartbeats 4000000 in
set_option maxRecDepth 100000 in
theorem fg_RX11_164 : FG RX11 164 1 0 0 := ⟨RX1, TX1, 6, tyX1, ci_1, by decide, rfl, tm_1 237 rfl rfl⟩
set_option maxHeartbeats 4000000 in
set_option maxRecDepth 100000 in
theorem fg_RX11_171 : FG RX11 171 5 2 0 := ⟨RX5, TX5, 17, tyX5, ci_5, by decide, rfl, tm_1 123 rfl rfl⟩
set_option maxHeartbeats 4000000 in
set_option maxRecDepth 100000 in
theorem fg_RX11_177 : FG RX11 177 1 1 0 := ⟨RX1, TX1, 6, tyX1, ci_1, by decide, rfl, tm_2 0 rfl rfl⟩
set_option maxHeartbeats 4000000 in
set_option maxRecDepth 100000 in
theorem fg_RX11_186 : FG RX11 186 3 0 0 := ⟨RX3, TX3, 6, tyX3, ci_3, by decide, rfl, tm_2 41 rfl rfl⟩
set_option maxHeartbeats 4000000 in
set_option maxRecDepth 100000 in
theorem fg_RX11_191 : FG RX11 191 5 8 2 := ⟨RX5, TX5, 17, tyX5, ci_5, by decide, rfl, tm_1 144 rfl rfl⟩
set_option maxHeartbeats 4000000 in
set_option maxRecDepth 100000 in
theorem fg_RX11_200 : FG RX11 200 5 12 2 := ⟨RX5, TX5, 17, tyX5, ci_5, by decide, rfl, tm_1 158 rfl rfl⟩
set_option maxHeartbeats 4000000 in
set_option maxRecDepth 100000 in
theorem fg_RX11_206 : FG RX11 206 1 2 2 := ⟨RX1, TX1, 6, tyX1, ci_1, by decide, rfl, tm_2 4 rfl rfl⟩
set_option maxHeartbeats 4000000 in
set_option maxRecDepth 100000 in
theorem fg_RX11_209 : FG RX11 209 1 3 2 := ⟨RX1, TX1, 6, tyX1, ci_1, by decide, rfl, tm_2 9 rfl rfl⟩
set_option maxHeartbeats 4000000 in
set_option maxRecDepth 100000 in
theorem fg_RX11_212 : FG RX11 212 1 4 2 := ⟨RX1, TX1, 6, tyX1, ci_1, by decide, rfl, tm_2 13 rfl rfl⟩
set_option maxHeartbeats 4000000 in
set_option maxRecDepth 100000 in
theorem fg_RX11_215 : FG RX11 215 5 7 2 := ⟨RX5, TX5, 17, tyX5, ci_5, by decide, rfl, tm_1 141 rfl rfl⟩
set_option maxHeartbeats 4000000 in
set_option maxRecDepth 100000 in
theorem fg_RX11_218 : FG RX11 218 5 9 2 := ⟨RX5, TX5, 17, tyX5, ci_5, by decide, rfl, tm_1 147 rfl rfl⟩
set_option maxHeartbeats 4000000 in
set_option maxRecDepth 100000 in
theorem fg_RX11_227 : FG RX11 227 5 10 2 := ⟨RX5, TX5, 17, tyX5, ci_5, by decide, rfl, tm_1 153 rfl rfl⟩
set_option maxHeartbeats 4000000 in
set_option maxRecDepth 100000 in
theorem fg_RX11_230 : FG RX11 230 1 5 2 := ⟨RX1, TX1, 6, tyX1, ci_1, by decide, rfl, tm_2 17 rfl rfl⟩
set_option maxHeartbeats 4000000 in
set_option maxRecDepth 100000 in
theorem fg_RX11_233 : FG RX11 233 5 13 2 := ⟨RX5, TX5, 17, tyX5, ci_5, by decide, rfl, tm_1 162 rfl rfl⟩
set_option maxHeartbeats 4000000 in
set_option maxRecDepth 100000 in
theorem fg_RX11_236 : FG RX11 236 5 14 2 := ⟨RX5, TX5, 17, tyX5, ci_5, by decide, rfl, tm_1 166 rfl rfl⟩
set_option maxHeartbeats 4000000 in
set_option maxRecDepth 100000 in
theorem fg_RX11_252 : FG RX11 252 10 2 0 := ⟨RX10, TX10, 7, tyX10, ci_10, by decide, rfl, tm_2 111 rfl rfl⟩
set_option maxHeartbeats 4000000 in
set_option maxRecDepth 100000 in
theorem fg_RX11_255 : FG RX11 255 10 3 0 := ⟨RX10, TX10, 7, tyX10, ci_10, by decide, rfl, tm_2 113 rfl rfl⟩
set_option maxHeartbeats 4000000 in
set_option maxRecDepth 100000 in
theorem fg_RX11_259 : FG RX11 259 10 4 0 := ⟨RX10, TX10, 7, tyX10, ci_10, by decide, rfl, tm_2 115 rfl rfl⟩
set_option maxHeartbeats 4000000 in
set_option maxRecDepth 100000 in
theorem fg_RX11_345 : FG RX11 345 4 1 0 := ⟨RX4, TX4, 2, tyX4, ci_4, by decide, rfl, tm_2 143 rfl rfl⟩
set_option maxHeartbeats 4000000 in
set_option maxRecDepth 100000 in
theorem fg_RX11_346 : FG RX11 346 4 0 2 := ⟨RX4, TX4, 2, tyX4, ci_4, by decide, rfl, tm_2 141 rfl rfl⟩
set_option maxHeartbeats 4000000 in
set_option maxRecDepth 100000 in
theorem fg_RX11_357 : FG RX11 357 10 5 0 := ⟨RX10, TX10, 7, tyX10, ci_10, by decide, rfl, tm_2 117 rfl rfl⟩
set_option maxHeartbeats 4000000 in
set_option maxRecDepth 100000 in
theorem fg_RX11_366 : FG RX11 366 10 1 2 := ⟨RX10, TX10, 7, tyX10, ci_10, by decide, rfl, tm_2 109 rfl rfl⟩
set_option maxHeartbeats 4000000 in
set_option maxRecDepth 100000 in
theorem fg_RX11_383 : FG RX11 383 10 0 2 := ⟨RX10, TX10, 7, tyX10, ci_10, by decide, rfl, tm_2 107 rfl rfl⟩
set_option maxHeartbeats 4000000 in
set_option maxRecDepth 100000 in
theorem fg_RX11_385 : FG RX11 385 5 16 2 := ⟨RX5, TX5, 17, tyX5, ci_5, by decide, rfl, tm_1 173 rfl rfl⟩
set_option maxHeartbeats 4000000 in
set_option maxRecDepth 100000 in
theorem fg_RX0_9 : FG RX0 9 0 0 2 := ⟨RX0, TX0, 3, tyX0, ci_0, by decide, rfl, tm_1 76 rfl rfl⟩
set_option maxHeartbeats 4000000 in
set_option maxRecDepth 100000 in
theorem fg_RX0_15 : FG RX0 15 0 1 2 := ⟨RX0, TX0, 3, tyX0, ci_0, by decide, rfl, tm_1 77 rfl rfl⟩
set_option maxHeartbeats 4000000 in
set_option maxRecDepth 100000 in
theorem fg_RX0_18 : FG RX0 18 0 2 0 := ⟨RX0, TX0, 3, tyX0, ci_0, by decide, rfl, tm_1 78 rfl rfl⟩
set_option maxHeartbeats 4000000 in
set_option maxRecDepth 100000 in
theorem fg_RX1_9 : FG RX1 9 1 2 2 := ⟨RX1, TX1, 6, tyX1, ci_1, by decide, rfl, tm_2 1 rfl rfl⟩
set_option maxHeartbeats 4000000 in
set_option maxRecDepth 100000 in
theorem fg_RX1_15 : FG RX1 15 1 3 2 := ⟨RX1, TX1, 6, tyX1, ci_1, by decide, rfl, tm_2 5 rfl rfl⟩
set_option maxHeartbeats 4000000 in
set_option maxRecDepth 100000 in
theorem fg_RX1_18 : FG RX1 18 1 4 2 := ⟨RX1, TX1, 6, tyX1, ci_1, by decide, rfl, tm_2 10 rfl rfl⟩
set_option maxHeartbeats 4000000 in
set_option maxRecDepth 100000 in
theorem fg_RX1_21 : FG RX1 21 1 5 2 := ⟨RX1, TX1, 6, tyX1, ci_1, by decide, rfl, tm_2 14 rfl rfl⟩
set_option maxHeartbeats 4000000 in
set_option maxRecDepth 100000 in
theorem fg_RX1_24 : FG RX1 24 1 0 0 := ⟨RX1, TX1, 6, tyX1, ci_1, by decide, rfl, tm_1 234 rfl rfl⟩
set_option maxHeartbeats 4000000 in
set_option maxRecDepth 100000 in
theorem fg_RX1_28 : FG RX1 28 1 1 0 := ⟨RX1, TX1, 6, tyX1, ci_1, by decide, rfl, tm_1 238 rfl rfl⟩
set_option maxHeartbeats 4000000 in
set_option maxRecDepth 100000 in
theorem fg_RX1_31 : FG RX1 31 5 5 2 := ⟨RX5, TX5, 17, tyX5, ci_5, by decide, rfl, tm_1 133 rfl rfl⟩
set_option maxHeartbeats 4000000 in
set_option maxRecDepth 100000 in
theorem fg_RX1_40 : FG RX1 40 5 6 2 := ⟨RX5, TX5, 17, tyX5, ci_5, by decide, rfl, tm_1 136 rfl rfl⟩
set_option maxHeartbeats 4000000 in
set_option maxRecDepth 100000 in
theorem fg_RX1_47 : FG RX1 47 5 11 2 := ⟨RX5, TX5, 17, tyX5, ci_5, by decide, rfl, tm_1 155 rfl rfl⟩
set_option maxHeartbeats 4000000 in
set_option maxRecDepth 100000 in
theorem fg_RX1_50 : FG RX1 50 5 3 0 := ⟨RX5, TX5, 17, tyX5, ci_5, by decide, rfl, tm_1 125 rfl rfl⟩
set_option maxHeartbeats 4000000 in
set_option maxRecDepth 100000 in
theorem fg_RX2_9 : FG RX2 9 2 0 2 := ⟨RX2, TX2, 4, tyX2, ci_2, by decide, rfl, tm_2 66 rfl rfl⟩
set_option maxHeartbeats 4000000 in
set_option maxRecDepth 100000 in
theorem fg_RX2_15 : FG RX2 15 2 1 2 := ⟨RX2, TX2, 4, tyX2, ci_2, by decide, rfl, tm_2 67 rfl rfl⟩
set_option maxHeartbeats 4000000 in
set_option maxRecDepth 100000 in
theorem fg_RX2_18 : FG RX2 18 2 3 2 := ⟨RX2, TX2, 4, tyX2, ci_2, by decide, rfl, tm_2 69 rfl rfl⟩
set_option maxHeartbeats 4000000 in
set_option maxRecDepth 100000 in
theorem fg_RX2_27 : FG RX2 27 2 2 0 := ⟨RX2, TX2, 4, tyX2, ci_2, by decide, rfl, tm_2 68 rfl rfl⟩
set_option maxHeartbeats 4000000 in
set_option maxRecDepth 100000 in
theorem fg_RX2_31 : FG RX2 31 5 0 0 := ⟨RX5, TX5, 17, tyX5, ci_5, by decide, rfl, tm_1 111 rfl rfl⟩
set_option maxHeartbeats 4000000 in
set_option maxRecDepth 100000 in
theorem fg_RX2_36 : FG RX2 36 1 3 2 := ⟨RX1, TX1, 6, tyX1, ci_1, by decide, rfl, tm_2 6 rfl rfl⟩
set_option maxHeartbeats 4000000 in
set_option maxRecDepth 100000 in
theorem fg_RX2_41 : FG RX2 41 5 2 0 := ⟨RX5, TX5, 17, tyX5, ci_5, by decide, rfl, tm_1 120 rfl rfl⟩
set_option maxHeartbeats 4000000 in
set_option maxRecDepth 100000 in
theorem fg_RX2_60 : FG RX2 60 5 7 2 := ⟨RX5, TX5, 17, tyX5, ci_5, by decide, rfl, tm_1 140 rfl rfl⟩
set_option maxHeartbeats 4000000 in
set_option maxRecDepth 100000 in
theorem fg_RX2_63 : FG RX2 63 5 10 2 := ⟨RX5, TX5, 17, tyX5, ci_5, by decide, rfl, tm_1 151 rfl rfl⟩
set_option maxHeartbeats 4000000 in
set_option maxRecDepth 100000 in
theorem fg_RX3_11 : FG RX3 11 3 2 2 := ⟨RX3, TX3, 6, tyX3, ci_3, by decide, rfl, tm_2 43 rfl rfl⟩
set_option maxHeartbeats 4000000 in
set_option maxRecDepth 100000 in
theorem fg_RX3_17 : FG RX3 17 3 3 2 := ⟨RX3, TX3, 6, tyX3, ci_3, by decide, rfl, tm_2 44 rfl rfl⟩
set_option maxHeartbeats 4000000 in
set_option maxRecDepth 100000 in
theorem fg_RX3_21 : FG RX3 21 3 4 2 := ⟨RX3, TX3, 6, tyX3, ci_3, by decide, rfl, tm_2 45 rfl rfl⟩
set_option maxHeartbeats 4000000 in
set_option maxRecDepth 100000 in
theorem fg_RX3_24 : FG RX3 24 3 5 2 := ⟨RX3, TX3, 6, tyX3, ci_3, by decide, rfl, tm_2 46 rfl rfl⟩
set_option maxHeartbeats 4000000 in
set_option maxRecDepth 100000 in
theorem fg_RX3_28 : FG RX3 28 3 0 0 := ⟨RX3, TX3, 6, tyX3, ci_3, by decide, rfl, tm_2 40 rfl rfl⟩
set_option maxHeartbeats 4000000 in
set_option maxRecDepth 100000 in
theorem fg_RX3_32 : FG RX3 32 3 1 0 := ⟨RX3, TX3, 6, tyX3, ci_3, by decide, rfl, tm_2 42 rfl rfl⟩
set_option maxHeartbeats 4000000 in
set_option maxRecDepth 100000 in
theorem fg_RX4_9 : FG RX4 9 4 0 2 := ⟨RX4, TX4, 2, tyX4, ci_4, by decide, rfl, tm_2 140 rfl rfl⟩
set_option maxHeartbeats 4000000 in
set_option maxRecDepth 100000 in
theorem fg_RX4_15 : FG RX4 15 1 0 0 := ⟨RX1, TX1, 6, tyX1, ci_1, by decide, rfl, tm_1 235 rfl rfl⟩
set_option maxHeartbeats 4000000 in
set_option maxRecDepth 100000 in
theorem fg_RX4_21 : FG RX4 21 4 1 0 := ⟨RX4, TX4, 2, tyX4, ci_4, by decide, rfl, tm_2 142 rfl rfl⟩
set_option maxHeartbeats 4000000 in
set_option maxRecDepth 100000 in
theorem fg_RX4_30 : FG RX4 30 1 2 2 := ⟨RX1, TX1, 6, tyX1, ci_1, by decide, rfl, tm_2 2 rfl rfl⟩
set_option maxHeartbeats 4000000 in
set_option maxRecDepth 100000 in
theorem fg_RX4_33 : FG RX4 33 1 3 2 := ⟨RX1, TX1, 6, tyX1, ci_1, by decide, rfl, tm_2 8 rfl rfl⟩
set_option maxHeartbeats 4000000 in
set_option maxRecDepth 100000 in
theorem fg_RX4_36 : FG RX4 36 1 4 2 := ⟨RX1, TX1, 6, tyX1, ci_1, by decide, rfl, tm_2 11 rfl rfl⟩
set_option maxHeartbeats 4000000 in
set_option maxRecDepth 100000 in
theorem fg_RX4_39 : FG RX4 39 5 3 0 := ⟨RX5, TX5, 17, tyX5, ci_5, by decide, rfl, tm_1 126 rfl rfl⟩
set_option maxHeartbeats 4000000 in
set_option maxRecDepth 100000 in
theorem fg_RX4_42 : FG RX4 42 1 5 2 := ⟨RX1, TX1, 6, tyX1, ci_1, by decide, rfl, tm_2 15 rfl rfl⟩
set_option maxHeartbeats 4000000 in
set_option maxRecDepth 100000 in
theorem fg_RX4_49 : FG RX4 49 5 0 0 := ⟨RX5, TX5, 17, tyX5, ci_5, by decide, rfl, tm_1 112 rfl rfl⟩
set_option maxHeartbeats 4000000 in
set_option maxRecDepth 100000 in
theorem fg_RX4_52 : FG RX4 52 9 1 0 := ⟨RX9, TX9, 7, tyX9, ci_9, by decide, rfl, tm_1 42 rfl rfl⟩
set_option maxHeartbeats 4000000 in
set_option maxRecDepth 100000 in
theorem fg_RX4_59 : FG RX4 59 9 0 2 := ⟨RX9, TX9, 7, tyX9, ci_9, by decide, rfl, tm_1 38 rfl rfl⟩
set_option maxHeartbeats 4000000 in
set_option maxRecDepth 100000 in
theorem fg_RX5_9 : FG RX5 9 5 5 2 := ⟨RX5, TX5, 17, tyX5, ci_5, by decide, rfl, tm_1 132 rfl rfl⟩
set_option maxHeartbeats 4000000 in
set_option maxRecDepth 100000 in
theorem fg_RX5_15 : FG RX5 15 5 6 2 := ⟨RX5, TX5, 17, tyX5, ci_5, by decide, rfl, tm_1 135 rfl rfl⟩
set_option maxHeartbeats 4000000 in
set_option maxRecDepth 100000 in
theorem fg_RX5_18 : FG RX5 18 5 7 2 := ⟨RX5, TX5, 17, tyX5, ci_5, by decide, rfl, tm_1 138 rfl rfl⟩
set_option maxHeartbeats 4000000 in
set_option maxRecDepth 100000 in
theorem fg_RX5_21 : FG RX5 21 5 8 2 := ⟨RX5, TX5, 17, tyX5, ci_5, by decide, rfl, tm_1 143 rfl rfl⟩
set_option maxHeartbeats 4000000 in
set_option maxRecDepth 100000 in
theorem fg_RX5_33 : FG RX5 33 5 12 2 := ⟨RX5, TX5, 17, tyX5, ci_5, by decide, rfl, tm_1 157 rfl rfl⟩
set_option maxHeartbeats 4000000 in
set_option maxRecDepth 100000 in
theorem fg_RX5_45 : FG RX5 45 5 15 2 := ⟨RX5, TX5, 17, tyX5, ci_5, by decide, rfl, tm_1 168 rfl rfl⟩
set_option maxHeartbeats 4000000 in
set_option maxRecDepth 100000 in
theorem fg_RX5_49 : FG RX5 49 5 16 2 := ⟨RX5, TX5, 17, tyX5, ci_5, by decide, rfl, tm_1 171 rfl rfl⟩
set_option maxHeartbeats 4000000 in
set_option maxRecDepth 100000 in
theorem fg_RX5_52 : FG RX5 52 5 0 0 := ⟨RX5, TX5, 17, tyX5, ci_5, by decide, rfl, tm_1 110 rfl rfl⟩
set_option maxHeartbeats 4000000 in
set_option maxRecDepth 100000 in
theorem fg_RX5_56 : FG RX5 56 5 1 0 := ⟨RX5, TX5, 17, tyX5, ci_5, by decide, rfl, tm_1 115 rfl rfl⟩
set_option maxHeartbeats 4000000 in
set_option maxRecDepth 100000 in
theorem fg_RX5_62 : FG RX5 62 5 3 0 := ⟨RX5, TX5, 17, tyX5, ci_5, by decide, rfl, tm_1 124 rfl rfl⟩
set_option maxHeartbeats 4000000 in
set_option maxRecDepth 100000 in
theorem fg_RX5_65 : FG RX5 65 5 4 0 := ⟨RX5, TX5, 17, tyX5, ci_5, by decide, rfl, tm_1 129 rfl rfl⟩
set_option maxHeartbeats 4000000 in
set_option maxRecDepth 100000 in
theorem fg_RX6_9 : FG RX6 9 6 0 2 := ⟨RX6, TX6, 4, tyX6, ci_6, by decide, rfl, tm_1 215 rfl rfl⟩
set_option maxHeartbeats 4000000 in
set_option maxRecDepth 100000 in
theorem fg_RX6_15 : FG RX6 15 6 1 2 := ⟨RX6, TX6, 4, tyX6, ci_6, by decide, rfl, tm_1 216 rfl rfl⟩
set_option maxHeartbeats 4000000 in
set_option maxRecDepth 100000 in
theorem fg_RX6_19 : FG RX6 19 6 2 2 := ⟨RX6, TX6, 4, tyX6, ci_6, by decide, rfl, tm_1 217 rfl rfl⟩
set_option maxHeartbeats 4000000 in
set_option maxRecDepth 100000 in
theorem fg_RX6_43 : FG RX6 43 9 3 0 := ⟨RX9, TX9, 7, tyX9, ci_9, by decide, rfl, tm_1 46 rfl rfl⟩
set_option maxHeartbeats 4000000 in
set_option maxRecDepth 100000 in
theorem fg_RX6_54 : FG RX6 54 9 2 0 := ⟨RX9, TX9, 7, tyX9, ci_9, by decide, rfl, tm_1 43 rfl rfl⟩
set_option maxHeartbeats 4000000 in
set_option maxRecDepth 100000 in
theorem fg_RX6_66 : FG RX6 66 5 0 0 := ⟨RX5, TX5, 17, tyX5, ci_5, by decide, rfl, tm_1 113 rfl rfl⟩
set_option maxHeartbeats 4000000 in
set_option maxRecDepth 100000 in
theorem fg_RX6_71 : FG RX6 71 5 1 0 := ⟨RX5, TX5, 17, tyX5, ci_5, by decide, rfl, tm_1 117 rfl rfl⟩
set_option maxHeartbeats 4000000 in
set_option maxRecDepth 100000 in
theorem fg_RX6_106 : FG RX6 106 5 15 2 := ⟨RX5, TX5, 17, tyX5, ci_5, by decide, rfl, tm_1 170 rfl rfl⟩
set_option maxHeartbeats 4000000 in
set_option maxRecDepth 100000 in
theorem fg_RX6_116 : FG RX6 116 5 16 2 := ⟨RX5, TX5, 17, tyX5, ci_5, by decide, rfl, tm_1 172 rfl rfl⟩
set_option maxHeartbeats 4000000 in
set_option maxRecDepth 100000 in
theorem fg_RX6_119 : FG RX6 119 5 3 0 := ⟨RX5, TX5, 17, tyX5, ci_5, by decide, rfl, tm_1 127 rfl rfl⟩
set_option maxHeartbeats 4000000 in
set_option maxRecDepth 100000 in
theorem fg_RX6_122 : FG RX6 122 5 4 0 := ⟨RX5, TX5, 17, tyX5, ci_5, by decide, rfl, tm_1 130 rfl rfl⟩
set_option maxHeartbeats 4000000 in
set_option maxRecDepth 100000 in
theorem fg_RX6_134 : FG RX6 134 5 5 2 := ⟨RX5, TX5, 17, tyX5, ci_5, by decide, rfl, tm_1 134 rfl rfl⟩
set_option maxHeartbeats 4000000 in
set_option maxRecDepth 100000 in
theorem fg_RX6_138 : FG RX6 138 5 6 2 := ⟨RX5, TX5, 17, tyX5, ci_5, by decide, rfl, tm_1 137 rfl rfl⟩
set_option maxHeartbeats 4000000 in
set_option maxRecDepth 100000 in
theorem fg_RX6_141 : FG RX6 141 6 3 0 := ⟨RX6, TX6, 4, tyX6, ci_6, by decide, rfl, tm_1 218 rfl rfl⟩
set_option maxHeartbeats 4000000 in
set_option maxRecDepth 100000 in
theorem fg_RX6_144 : FG RX6 144 5 8 2 := ⟨RX5, TX5, 17, tyX5, ci_5, by decide, rfl, tm_1 145 rfl rfl⟩
set_option maxHeartbeats 4000000 in
set_option maxRecDepth 100000 in
theorem fg_RX6_152 : FG RX6 152 5 7 2 := ⟨RX5, TX5, 17, tyX5, ci_5, by decide, rfl, tm_1 142 rfl rfl⟩
set_option maxHeartbeats 4000000 in
set_option maxRecDepth 100000 in
theorem fg_RX6_157 : FG RX6 157 5 10 2 := ⟨RX5, TX5, 17, tyX5, ci_5, by decide, rfl, tm_1 152 rfl rfl⟩
set_option maxHeartbeats 4000000 in
set_option maxRecDepth 100000 in
theorem fg_RX6_162 : FG RX6 162 5 11 2 := ⟨RX5, TX5, 17, tyX5, ci_5, by decide, rfl, tm_1 156 rfl rfl⟩
set_option maxHeartbeats 4000000 in
set_option maxRecDepth 100000 in
theorem fg_RX6_165 : FG RX6 165 5 9 2 := ⟨RX5, TX5, 17, tyX5, ci_5, by decide, rfl, tm_1 148 rfl rfl⟩
set_option maxHeartbeats 4000000 in
set_option maxRecDepth 100000 in
theorem fg_RX6_168 : FG RX6 168 5 12 2 := ⟨RX5, TX5, 17, tyX5, ci_5, by decide, rfl, tm_1 159 rfl rfl⟩
set_option maxHeartbeats 4000000 in
set_option maxRecDepth 100000 in
theorem fg_RX6_173 : FG RX6 173 5 13 2 := ⟨RX5, TX5, 17, tyX5, ci_5, by decide, rfl, tm_1 163 rfl rfl⟩
set_option maxHeartbeats 4000000 in
set_option maxRecDepth 100000 in
theorem fg_RX6_176 : FG RX6 176 5 14 2 := ⟨RX5, TX5, 17, tyX5, ci_5, by decide, rfl, tm_1 167 rfl rfl⟩
set_option maxHeartbeats 4000000 in
set_option maxRecDepth 100000 in
theorem fg_RX7_9 : FG RX7 9 7 1 2 := ⟨RX7, TX7, 3, tyX7, ci_7, by decide, rfl, tm_2 87 rfl rfl⟩
set_option maxHeartbeats 4000000 in
set_option maxRecDepth 100000 in
theorem fg_RX7_15 : FG RX7 15 7 2 2 := ⟨RX7, TX7, 3, tyX7, ci_7, by decide, rfl, tm_2 88 rfl rfl⟩
set_option maxHeartbeats 4000000 in
set_option maxRecDepth 100000 in
theorem fg_RX7_22 : FG RX7 22 9 1 0 := ⟨RX9, TX9, 7, tyX9, ci_9, by decide, rfl, tm_1 41 rfl rfl⟩
set_option maxHeartbeats 4000000 in
set_option maxRecDepth 100000 in
theorem fg_RX7_28 : FG RX7 28 7 0 0 := ⟨RX7, TX7, 3, tyX7, ci_7, by decide, rfl, tm_2 85 rfl rfl⟩
set_option maxHeartbeats 4000000 in
set_option maxRecDepth 100000 in
theorem fg_RX7_31 : FG RX7 31 9 0 2 := ⟨RX9, TX9, 7, tyX9, ci_9, by decide, rfl, tm_1 37 rfl rfl⟩
set_option maxHeartbeats 4000000 in
set_option maxRecDepth 100000 in
theorem fg_RX8_9 : FG RX8 9 8 0 2 := ⟨RX8, TX8, 3, tyX8, ci_8, by decide, rfl, tm_1 92 rfl rfl⟩
set_option maxHeartbeats 4000000 in
set_option maxRecDepth 100000 in
theorem fg_RX8_15 : FG RX8 15 8 1 2 := ⟨RX8, TX8, 3, tyX8, ci_8, by decide, rfl, tm_1 93 rfl rfl⟩
set_option maxHeartbeats 4000000 in
set_option maxRecDepth 100000 in
theorem fg_RX8_38 : FG RX8 38 9 3 0 := ⟨RX9, TX9, 7, tyX9, ci_9, by decide, rfl, tm_1 47 rfl rfl⟩
set_option maxHeartbeats 4000000 in
set_option maxRecDepth 100000 in
theorem fg_RX8_52 : FG RX8 52 9 2 0 := ⟨RX9, TX9, 7, tyX9, ci_9, by decide, rfl, tm_1 45 rfl rfl⟩
set_option maxHeartbeats 4000000 in
set_option maxRecDepth 100000 in
theorem fg_RX8_55 : FG RX8 55 8 2 0 := ⟨RX8, TX8, 3, tyX8, ci_8, by decide, rfl, tm_1 94 rfl rfl⟩
set_option maxHeartbeats 4000000 in
set_option maxRecDepth 100000 in
theorem fg_RX9_9 : FG RX9 9 9 0 2 := ⟨RX9, TX9, 7, tyX9, ci_9, by decide, rfl, tm_1 36 rfl rfl⟩
set_option maxHeartbeats 4000000 in
set_option maxRecDepth 100000 in
theorem fg_RX9_19 : FG RX9 19 9 1 0 := ⟨RX9, TX9, 7, tyX9, ci_9, by decide, rfl, tm_1 40 rfl rfl⟩
set_option maxHeartbeats 4000000 in
set_option maxRecDepth 100000 in
theorem fg_RX9_22 : FG RX9 22 9 5 0 := ⟨RX9, TX9, 7, tyX9, ci_9, by decide, rfl, tm_1 50 rfl rfl⟩
set_option maxHeartbeats 4000000 in
set_option maxRecDepth 100000 in
theorem fg_RX9_25 : FG RX9 25 9 2 0 := ⟨RX9, TX9, 7, tyX9, ci_9, by decide, rfl, tm_1 44 rfl rfl⟩
set_option maxHeartbeats 4000000 in
set_option maxRecDepth 100000 in
theorem fg_RX9_28 : FG RX9 28 9 4 0 := ⟨RX9, TX9, 7, tyX9, ci_9, by decide, rfl, tm_1 49 rfl rfl⟩
set_option maxHeartbeats 4000000 in
set_option maxRecDepth 100000 in
theorem fg_RX9_34 : FG RX9 34 9 3 0 := ⟨RX9, TX9, 7, tyX9, ci_9, by decide, rfl, tm_1 48 rfl rfl⟩
set_option maxHeartbeats 4000000 in
set_option maxRecDepth 100000 in
theorem fg_RX10_9 : FG RX10 9 10 0 2 := ⟨RX10, TX10, 7, tyX10, ci_10, by decide, rfl, tm_2 106 rfl rfl⟩
set_option maxHeartbeats 4000000 in
set_option maxRecDepth 100000 in
theorem fg_RX10_15 : FG RX10 15 10 1 2 := ⟨RX10, TX10, 7, tyX10, ci_10, by decide, rfl, tm_2 108 rfl rfl⟩
set_option maxHeartbeats 4000000 in
set_option maxRecDepth 100000 in
theorem fg_RX10_18 : FG RX10 18 10 2 0 := ⟨RX10, TX10, 7, tyX10, ci_10, by decide, rfl, tm_2 110 rfl rfl⟩
set_option maxHeartbeats 4000000 in
set_option maxRecDepth 100000 in
theorem fg_RX10_22 : FG RX10 22 10 6 2 := ⟨RX10, TX10, 7, tyX10, ci_10, by decide, rfl, tm_2 118 rfl rfl⟩
set_option maxHeartbeats 4000000 in
set_option maxRecDepth 100000 in
theorem fg_RX10_31 : FG RX10 31 10 3 0 := ⟨RX10, TX10, 7, tyX10, ci_10, by decide, rfl, tm_2 112 rfl rfl⟩
set_option maxHeartbeats 4000000 in
set_option maxRecDepth 100000 in
theorem fg_RX10_35 : FG RX10 35 10 4 0 := ⟨RX10, TX10, 7, tyX10, ci_10, by decide, rfl, tm_2 114 rfl rfl⟩
set_option maxHeartbeats 4000000 in
set_option maxRecDepth 100000 in
theorem fg_RX10_41 : FG RX10 41 1 0 0 := ⟨RX1, TX1, 6, tyX1, ci_1, by decide, rfl, tm_1 236 rfl rfl⟩
set_option maxHeartbeats 4000000 in
set_option maxRecDepth 100000 in
theorem fg_RX10_46 : FG RX10 46 5 13 2 := ⟨RX5, TX5, 17, tyX5, ci_5, by decide, rfl, tm_1 161 rfl rfl⟩
set_option maxHeartbeats 4000000 in
set_option maxRecDepth 100000 in
theorem fg_RX10_51 : FG RX10 51 5 14 2 := ⟨RX5, TX5, 17, tyX5, ci_5, by decide, rfl, tm_1 165 rfl rfl⟩
set_option maxHeartbeats 4000000 in
set_option maxRecDepth 100000 in
theorem fg_RX10_54 : FG RX10 54 1 3 2 := ⟨RX1, TX1, 6, tyX1, ci_1, by decide, rfl, tm_2 7 rfl rfl⟩
set_option maxHeartbeats 4000000 in
set_option maxRecDepth 100000 in
theorem fg_RX10_57 : FG RX10 57 5 2 0 := ⟨RX5, TX5, 17, tyX5, ci_5, by decide, rfl, tm_1 121 rfl rfl⟩
set_option maxHeartbeats 4000000 in
set_option maxRecDepth 100000 in
theorem fg_RX10_72 : FG RX10 72 5 1 0 := ⟨RX5, TX5, 17, tyX5, ci_5, by decide, rfl, tm_1 116 rfl rfl⟩
set_option maxHeartbeats 4000000 in
set_option maxRecDepth 100000 in
theorem fg_RX10_75 : FG RX10 75 5 7 2 := ⟨RX5, TX5, 17, tyX5, ci_5, by decide, rfl, tm_1 139 rfl rfl⟩
set_option maxHeartbeats 4000000 in
set_option maxRecDepth 100000 in
theorem fg_RX10_78 : FG RX10 78 5 10 2 := ⟨RX5, TX5, 17, tyX5, ci_5, by decide, rfl, tm_1 150 rfl rfl⟩
set_option maxHeartbeats 4000000 in
set_option maxRecDepth 100000 in
theorem fg_RX10_89 : FG RX10 89 1 5 2 := ⟨RX1, TX1, 6, tyX1, ci_1, by decide, rfl, tm_2 16 rfl rfl⟩
set_option maxHeartbeats 4000000 in
set_option maxRecDepth 100000 in
theorem fg_RX10_92 : FG RX10 92 1 4 2 := ⟨RX1, TX1, 6, tyX1, ci_1, by decide, rfl, tm_2 12 rfl rfl⟩
set_option maxHeartbeats 4000000 in
set_option maxRecDepth 100000 in
theorem fg_RX10_95 : FG RX10 95 1 2 2 := ⟨RX1, TX1, 6, tyX1, ci_1, by decide, rfl, tm_2 3 rfl rfl⟩
set_option maxHeartbeats 4000000 in
set_option maxRecDepth 100000 in
theorem fg_RX10_98 : FG RX10 98 5 15 2 := ⟨RX5, TX5, 17, tyX5, ci_5, by decide, rfl, tm_1 169 rfl rfl⟩
set_option maxHeartbeats 4000000 in
set_option maxRecDepth 100000 in
theorem fg_RX12_7 : FG RX12 7 12 0 2 := ⟨RX12, TX12, 120, tyX12, ci_12, by decide, rfl, tm_5 154 rfl rfl⟩
set_option maxHeartbeats 4000000 in
set_option maxRecDepth 100000 in
theorem fg_RX12_13 : FG RX12 13 12 8 0 := ⟨RX12, TX12, 120, tyX12, ci_12, by decide, rfl, tm_5 162 rfl rfl⟩
set_option maxHeartbeats 4000000 in
set_option maxRecDepth 100000 in
theorem fg_RX12_17 : FG RX12 17 12 9 2 := ⟨RX12, TX12, 120, tyX12, ci_12, by decide, rfl, tm_5 163 rfl rfl⟩
set_option maxHeartbeats 4000000 in
set_option maxRecDepth 100000 in
theorem fg_RX12_20 : FG RX12 20 12 11 2 := ⟨RX12, TX12, 120, tyX12, ci_12, by decide, rfl, tm_5 165 rfl rfl⟩
set_option maxHeartbeats 4000000 in
set_option maxRecDepth 100000 in
theorem fg_RX12_24 : FG RX12 24 12 12 2 := ⟨RX12, TX12, 120, tyX12, ci_12, by decide, rfl, tm_5 166 rfl rfl⟩
set_option maxHeartbeats 4000000 in
set_option maxRecDepth 100000 in
theorem fg_RX12_27 : FG RX12 27 12 13 2 := ⟨RX12, TX12, 120, tyX12, ci_12, by decide, rfl, tm_5 167 rfl rfl⟩
set_option maxHeartbeats 4000000 in
set_option maxRecDepth 100000 in
theorem fg_RX12_30 : FG RX12 30 12 14 2 := ⟨RX12, TX12, 120, tyX12, ci_12, by decide, rfl, tm_5 168 rfl rfl⟩
set_option maxHeartbeats 4000000 in
set_option maxRecDepth 100000 in
theorem fg_RX12_33 : FG RX12 33 12 15 2 := ⟨RX12, TX12, 120, tyX12, ci_12, by decide, rfl, tm_5 169 rfl rfl⟩
set_option maxHeartbeats 4000000 in
set_option maxRecDepth 100000 in
theorem fg_RX12_36 : FG RX12 36 12 16 2 := ⟨RX12, TX12, 120, tyX12, ci_12, by decide, rfl, tm_5 170 rfl rfl⟩
set_option maxHeartbeats 4000000 in
set_option maxRecDepth 100000 in
theorem fg_RX12_39 : FG RX12 39 12 17 2 := ⟨RX12, TX12, 120, tyX12, ci_12, by decide, rfl, tm_5 171 rfl rfl⟩
set_option maxHeartbeats 4000000 in
set_option maxRecDepth 100000 in
theorem fg_RX12_42 : FG RX12 42 12 18 2 := ⟨RX12, TX12, 120, tyX12, ci_12, by decide, rfl, tm_5 172 rfl rfl⟩
set_option maxHeartbeats 4000000 in
set_option maxRecDepth 100000 in
theorem fg_RX12_45 : FG RX12 45 12 19 2 := ⟨RX12, TX12, 120, tyX12, ci_12, by decide, rfl, tm_5 173 rfl rfl⟩
set_option maxHeartbeats 4000000 in
set_option maxRecDepth 100000 in
theorem fg_RX12_48 : FG RX12 48 12 20 2 := ⟨RX12, TX12, 120, tyX12, ci_12, by decide, rfl, tm_5 174 rfl rfl⟩
set_option maxHeartbeats 4000000 in
set_option maxRecDepth 100000 in
theorem fg_RX12_51 : FG RX12 51 12 21 2 := ⟨RX12, TX12, 120, tyX12, ci_12, by decide, rfl, tm_5 175 rfl rfl⟩
set_option maxHeartbeats 4000000 in
set_option maxRecDepth 100000 in
theorem fg_RX12_54 : FG RX12 54 12 22 2 := ⟨RX12, TX12, 120, tyX12, ci_12, by decide, rfl, tm_5 176 rfl rfl⟩
set_option maxHeartbeats 4000000 in
set_option maxRecDepth 100000 in
theorem fg_RX12_57 : FG RX12 57 12 23 2 := ⟨RX12, TX12, 120, tyX12, ci_12, by decide, rfl, tm_5 177 rfl rfl⟩
set_option maxHeartbeats 4000000 in
set_option maxRecDepth 100000 in
theorem fg_RX12_60 : FG RX12 60 12 24 2 := ⟨RX12, TX12, 120, tyX12, ci_12, by decide, rfl, tm_5 178 rfl rfl⟩
set_option maxHeartbeats 4000000 in
set_option maxRecDepth 100000 in
theorem fg_RX12_63 : FG RX12 63 12 25 2 := ⟨RX12, TX12, 120, tyX12, ci_12, by decide, rfl, tm_5 179 rfl rfl⟩
set_option maxHeartbeats 4000000 in
set_option maxRecDepth 100000 in
theorem fg_RX12_66 : FG RX12 66 12 26 2 := ⟨RX12, TX12, 120, tyX12, ci_12, by decide, rfl, tm_5 180 rfl rfl⟩
set_option maxHeartbeats 4000000 in
set_option maxRecDepth 100000 in
theorem fg_RX12_69 : FG RX12 69 12 27 2 := ⟨RX12, TX12, 120, tyX12, ci_12, by decide, rfl, tm_5 181 rfl rfl⟩
set_option maxHeartbeats 4000000 in
set_option maxRecDepth 100000 in
theorem fg_RX12_72 : FG RX12 72 12 28 2 := ⟨RX12, TX12, 120, tyX12, ci_12, by decide, rfl, tm_5 182 rfl rfl⟩
set_option maxHeartbeats 4000000 in
set_option maxRecDepth 100000 in
theorem fg_RX12_75 : FG RX12 75 12 29 2 := ⟨RX12, TX12, 120, tyX12, ci_12, by decide, rfl, tm_5 183 rfl rfl⟩
set_option maxHeartbeats 4000000 in
set_option maxRecDepth 100000 in
theorem fg_RX12_78 : FG RX12 78 12 30 2 := ⟨RX12, TX12, 120, tyX12, ci_12, by decide, rfl, tm_5 184 rfl rfl⟩
set_option maxHeartbeats 4000000 in
set_option maxRecDepth 100000 in
theorem fg_RX12_81 : FG RX12 81 12 31 2 := ⟨RX12, TX12, 120, tyX12, ci_12, by decide, rfl, tm_5 185 rfl rfl⟩
set_option maxHeartbeats 4000000 in
set_option maxRecDepth 100000 in
theorem fg_RX12_84 : FG RX12 84 12 32 2 := ⟨RX12, TX12, 120, tyX12, ci_12, by decide, rfl, tm_5 186 rfl rfl⟩
set_option maxHeartbeats 4000000 in
set_option maxRecDepth 100000 in
theorem fg_RX12_87 : FG RX12 87 12 33 2 := ⟨RX12, TX12, 120, tyX12, ci_12, by decide, rfl, tm_5 187 rfl rfl⟩
set_option maxHeartbeats 4000000 in
set_option maxRecDepth 100000 in
theorem fg_RX12_90 : FG RX12 90 12 34 2 := ⟨RX12, TX12, 120, tyX12, ci_12, by decide, rfl, tm_5 188 rfl rfl⟩
set_option maxHeartbeats 4000000 in
set_option maxRecDepth 100000 in
theorem fg_RX12_93 : FG RX12 93 12 35 2 := ⟨RX12, TX12, 120, tyX12, ci_12, by decide, rfl, tm_5 189 rfl rfl⟩
set_option maxHeartbeats 4000000 in
set_option maxRecDepth 100000 in
theorem fg_RX12_96 : FG RX12 96 12 36 2 := ⟨RX12, TX12, 120, tyX12, ci_12, by decide, rfl, tm_5 190 rfl rfl⟩
set_option maxHeartbeats 4000000 in
set_option maxRecDepth 100000 in
theorem fg_RX12_99 : FG RX12 99 12 37 2 := ⟨RX12, TX12, 120, tyX12, ci_12, by decide, rfl, tm_5 191 rfl rfl⟩
set_option maxHeartbeats 4000000 in
set_option maxRecDepth 100000 in
theorem fg_RX12_102 : FG RX12 102 12 38 2 := ⟨RX12, TX12, 120, tyX12, ci_12, by decide, rfl, tm_5 192 rfl rfl⟩
set_option maxHeartbeats 4000000 in
set_option maxRecDepth 100000 in
theorem fg_RX12_105 : FG RX12 105 12 39 2 := ⟨RX12, TX12, 120, tyX12, ci_12, by decide, rfl, tm_5 193 rfl rfl⟩
set_option maxHeartbeats 4000000 in
set_option maxRecDepth 100000 in
theorem fg_RX12_108 : FG RX12 108 12 40 2 := ⟨RX12, TX12, 120, tyX12, ci_12, by decide, rfl, tm_5 194 rfl rfl⟩
set_option maxHeartbeats 4000000 in
set_option maxRecDepth 100000 in
theorem fg_RX12_111 : FG RX12 111 12 42 2 := ⟨RX12, TX12, 120, tyX12, ci_12, by decide, rfl, tm_5 196 rfl rfl⟩
set_option maxHeartbeats 4000000 in
set_option maxRecDepth 100000 in
theorem fg_RX12_114 : FG RX12 114 12 45 2 := ⟨RX12, TX12, 120, tyX12, ci_12, by decide, rfl, tm_5 199 rfl rfl⟩
set_option maxHeartbeats 4000000 in
set_option maxRecDepth 100000 in
theorem fg_RX12_117 : FG RX12 117 12 46 2 := ⟨RX12, TX12, 120, tyX12, ci_12, by decide, rfl, tm_5 200 rfl rfl⟩
set_option maxHeartbeats 4000000 in
set_option maxRecDepth 100000 in
theorem fg_RX12_121 : FG RX12 121 12 47 2 := ⟨RX12, TX12, 120, tyX12, ci_12, by decide, rfl, tm_5 201 rfl rfl⟩
set_option maxHeartbeats 4000000 in
set_option maxRecDepth 100000 in
theorem fg_RX12_124 : FG RX12 124 12 48 2 := ⟨RX12, TX12, 120, tyX12, ci_12, by decide, rfl, tm_5 202 rfl rfl⟩
set_option maxHeartbeats 4000000 in
set_option maxRecDepth 100000 in
theorem fg_RX12_127 : FG RX12 127 12 49 2 := ⟨RX12, TX12, 120, tyX12, ci_12, by decide, rfl, tm_5 203 rfl rfl⟩
set_option maxHeartbeats 4000000 in
set_option maxRecDepth 100000 in
theorem fg_RX12_130 : FG RX12 130 12 50 2 := ⟨RX12, TX12, 120, tyX12, ci_12, by decide, rfl, tm_5 204 rfl rfl⟩
set_option maxHeartbeats 4000000 in
set_option maxRecDepth 100000 in
theorem fg_RX12_134 : FG RX12 134 12 51 2 := ⟨RX12, TX12, 120, tyX12, ci_12, by decide, rfl, tm_5 205 rfl rfl⟩
set_option maxHeartbeats 4000000 in
set_option maxRecDepth 100000 in
theorem fg_RX12_137 : FG RX12 137 12 52 2 := ⟨RX12, TX12, 120, tyX12, ci_12, by decide, rfl, tm_5 206 rfl rfl⟩
set_option maxHeartbeats 4000000 in
set_option maxRecDepth 100000 in
theorem fg_RX12_140 : FG RX12 140 12 53 2 := ⟨RX12, TX12, 120, tyX12, ci_12, by decide, rfl, tm_5 207 rfl rfl⟩
set_option maxHeartbeats 4000000 in
set_option maxRecDepth 100000 in
theorem fg_RX12_143 : FG RX12 143 12 58 2 := ⟨RX12, TX12, 120, tyX12, ci_12, by decide, rfl, tm_5 212 rfl rfl⟩
set_option maxHeartbeats 4000000 in
set_option maxRecDepth 100000 in
theorem fg_RX12_146 : FG RX12 146 12 63 2 := ⟨RX12, TX12, 120, tyX12, ci_12, by decide, rfl, tm_5 217 rfl rfl⟩
set_option maxHeartbeats 4000000 in
set_option maxRecDepth 100000 in
theorem fg_RX12_149 : FG RX12 149 12 65 2 := ⟨RX12, TX12, 120, tyX12, ci_12, by decide, rfl, tm_5 219 rfl rfl⟩
set_option maxHeartbeats 4000000 in
set_option maxRecDepth 100000 in
theorem fg_RX12_152 : FG RX12 152 12 66 2 := ⟨RX12, TX12, 120, tyX12, ci_12, by decide, rfl, tm_5 220 rfl rfl⟩
set_option maxHeartbeats 4000000 in
set_option maxRecDepth 100000 in
theorem fg_RX12_155 : FG RX12 155 12 67 2 := ⟨RX12, TX12, 120, tyX12, ci_12, by decide, rfl, tm_5 221 rfl rfl⟩
set_option maxHeartbeats 4000000 in
set_option maxRecDepth 100000 in
theorem fg_RX12_158 : FG RX12 158 12 68 2 := ⟨RX12, TX12, 120, tyX12, ci_12, by decide, rfl, tm_5 222 rfl rfl⟩
set_option maxHeartbeats 4000000 in
set_option maxRecDepth 100000 in
theorem fg_RX12_161 : FG RX12 161 12 69 2 := ⟨RX12, TX12, 120, tyX12, ci_12, by decide, rfl, tm_5 223 rfl rfl⟩
set_option maxHeartbeats 4000000 in
set_option maxRecDepth 100000 in
theorem fg_RX12_164 : FG RX12 164 12 70 2 := ⟨RX12, TX12, 120, tyX12, ci_12, by decide, rfl, tm_5 224 rfl rfl⟩
set_option maxHeartbeats 4000000 in
set_option maxRecDepth 100000 in
theorem fg_RX12_167 : FG RX12 167 12 71 2 := ⟨RX12, TX12, 120, tyX12, ci_12, by decide, rfl, tm_5 225 rfl rfl⟩
set_option maxHeartbeats 4000000 in
set_option maxRecDepth 100000 in
theorem fg_RX12_170 : FG RX12 170 12 72 2 := ⟨RX12, TX12, 120, tyX12, ci_12, by decide, rfl, tm_5 226 rfl rfl⟩
set_option maxHeartbeats 4000000 in
set_option maxRecDepth 100000 in
theorem fg_RX12_173 : FG RX12 173 12 73 2 := ⟨RX12, TX12, 120, tyX12, ci_12, by decide, rfl, tm_5 227 rfl rfl⟩
set_option maxHeartbeats 4000000 in
set_option maxRecDepth 100000 in
theorem fg_RX12_176 : FG RX12 176 12 75 2 := ⟨RX12, TX12, 120, tyX12, ci_12, by decide, rfl, tm_5 229 rfl rfl⟩
set_option maxHeartbeats 4000000 in
set_option maxRecDepth 100000 in
theorem fg_RX12_179 : FG RX12 179 12 76 2 := ⟨RX12, TX12, 120, tyX12, ci_12, by decide, rfl, tm_5 230 rfl rfl⟩
set_option maxHeartbeats 4000000 in
set_option maxRecDepth 100000 in
theorem fg_RX12_182 : FG RX12 182 12 77 2 := ⟨RX12, TX12, 120, tyX12, ci_12, by decide, rfl, tm_5 231 rfl rfl⟩
set_option maxHeartbeats 4000000 in
set_option maxRecDepth 100000 in
theorem fg_RX12_185 : FG RX12 185 12 80 1 := ⟨RX12, TX12, 120, tyX12, ci_12, by decide, rfl, tm_5 234 rfl rfl⟩
set_option maxHeartbeats 4000000 in
set_option maxRecDepth 100000 in
theorem fg_RX12_189 : FG RX12 189 12 81 2 := ⟨RX12, TX12, 120, tyX12, ci_12, by decide, rfl, tm_5 235 rfl rfl⟩
set_option maxHeartbeats 4000000 in
set_option maxRecDepth 100000 in
theorem fg_RX12_192 : FG RX12 192 12 82 2 := ⟨RX12, TX12, 120, tyX12, ci_12, by decide, rfl, tm_5 236 rfl rfl⟩
set_option maxHeartbeats 4000000 in
set_option maxRecDepth 100000 in
theorem fg_RX12_195 : FG RX12 195 12 83 2 := ⟨RX12, TX12, 120, tyX12, ci_12, by decide, rfl, tm_5 237 rfl rfl⟩
set_option maxHeartbeats 4000000 in
set_option maxRecDepth 100000 in
theorem fg_RX12_198 : FG RX12 198 12 84 2 := ⟨RX12, TX12, 120, tyX12, ci_12, by decide, rfl, tm_5 238 rfl rfl⟩
set_option maxHeartbeats 4000000 in
set_option maxRecDepth 100000 in
theorem fg_RX12_201 : FG RX12 201 12 85 2 := ⟨RX12, TX12, 120, tyX12, ci_12, by decide, rfl, tm_5 239 rfl rfl⟩
set_option maxHeartbeats 4000000 in
set_option maxRecDepth 100000 in
theorem fg_RX12_204 : FG RX12 204 12 86 2 := ⟨RX12, TX12, 120, tyX12, ci_12, by decide, rfl, tm_6 0 rfl rfl⟩
set_option maxHeartbeats 4000000 in
set_option maxRecDepth 100000 in
theorem fg_RX12_207 : FG RX12 207 12 87 2 := ⟨RX12, TX12, 120, tyX12, ci_12, by decide, rfl, tm_6 1 rfl rfl⟩
set_option maxHeartbeats 4000000 in
set_option maxRecDepth 100000 in
theorem fg_RX12_210 : FG RX12 210 12 88 2 := ⟨RX12, TX12, 120, tyX12, ci_12, by decide, rfl, tm_6 2 rfl rfl⟩
set_option maxHeartbeats 4000000 in
set_option maxRecDepth 100000 in
theorem fg_RX12_213 : FG RX12 213 12 89 2 := ⟨RX12, TX12, 120, tyX12, ci_12, by decide, rfl, tm_6 3 rfl rfl⟩
set_option maxHeartbeats 4000000 in
set_option maxRecDepth 100000 in
theorem fg_RX12_216 : FG RX12 216 12 90 2 := ⟨RX12, TX12, 120, tyX12, ci_12, by decide, rfl, tm_6 4 rfl rfl⟩
set_option maxHeartbeats 4000000 in
set_option maxRecDepth 100000 in
theorem fg_RX12_219 : FG RX12 219 12 91 2 := ⟨RX12, TX12, 120, tyX12, ci_12, by decide, rfl, tm_6 5 rfl rfl⟩
set_option maxHeartbeats 4000000 in
set_option maxRecDepth 100000 in
theorem fg_RX12_222 : FG RX12 222 12 92 2 := ⟨RX12, TX12, 120, tyX12, ci_12, by decide, rfl, tm_6 6 rfl rfl⟩
set_option maxHeartbeats 4000000 in
set_option maxRecDepth 100000 in
theorem fg_RX12_225 : FG RX12 225 12 93 2 := ⟨RX12, TX12, 120, tyX12, ci_12, by decide, rfl, tm_6 7 rfl rfl⟩
set_option maxHeartbeats 4000000 in
set_option maxRecDepth 100000 in
theorem fg_RX12_228 : FG RX12 228 12 94 2 := ⟨RX12, TX12, 120, tyX12, ci_12, by decide, rfl, tm_6 8 rfl rfl⟩
set_option maxHeartbeats 4000000 in
set_option maxRecDepth 100000 in
theorem fg_RX12_231 : FG RX12 231 12 95 2 := ⟨RX12, TX12, 120, tyX12, ci_12, by decide, rfl, tm_6 9 rfl rfl⟩
set_option maxHeartbeats 4000000 in
set_option maxRecDepth 100000 in
theorem fg_RX12_234 : FG RX12 234 12 96 2 := ⟨RX12, TX12, 120, tyX12, ci_12, by decide, rfl, tm_6 10 rfl rfl⟩
set_option maxHeartbeats 4000000 in
set_option maxRecDepth 100000 in
theorem fg_RX12_237 : FG RX12 237 12 97 2 := ⟨RX12, TX12, 120, tyX12, ci_12, by decide, rfl, tm_6 11 rfl rfl⟩
set_option maxHeartbeats 4000000 in
set_option maxRecDepth 100000 in
theorem fg_RX12_240 : FG RX12 240 12 98 2 := ⟨RX12, TX12, 120, tyX12, ci_12, by decide, rfl, tm_6 12 rfl rfl⟩
set_option maxHeartbeats 4000000 in
set_option maxRecDepth 100000 in
theorem fg_RX12_243 : FG RX12 243 12 99 2 := ⟨RX12, TX12, 120, tyX12, ci_12, by decide, rfl, tm_6 13 rfl rfl⟩
set_option maxHeartbeats 4000000 in
set_option maxRecDepth 100000 in
theorem fg_RX12_246 : FG RX12 246 12 100 2 := ⟨RX12, TX12, 120, tyX12, ci_12, by decide, rfl, tm_6 14 rfl rfl⟩
set_option maxHeartbeats 4000000 in
set_option maxRecDepth 100000 in
theorem fg_RX12_249 : FG RX12 249 12 101 2 := ⟨RX12, TX12, 120, tyX12, ci_12, by decide, rfl, tm_6 15 rfl rfl⟩
set_option maxHeartbeats 4000000 in
set_option maxRecDepth 100000 in
theorem fg_RX12_252 : FG RX12 252 12 102 2 := ⟨RX12, TX12, 120, tyX12, ci_12, by decide, rfl, tm_6 16 rfl rfl⟩
set_option maxHeartbeats 4000000 in
set_option maxRecDepth 100000 in
theorem fg_RX12_255 : FG RX12 255 12 103 2 := ⟨RX12, TX12, 120, tyX12, ci_12, by decide, rfl, tm_6 17 rfl rfl⟩
set_option maxHeartbeats 4000000 in
set_option maxRecDepth 100000 in
theorem fg_RX12_258 : FG RX12 258 12 104 2 := ⟨RX12, TX12, 120, tyX12, ci_12, by decide, rfl, tm_6 18 rfl rfl⟩
set_option maxHeartbeats 4000000 in
set_option maxRecDepth 100000 in
theorem fg_RX12_261 : FG RX12 261 12 105 2 := ⟨RX12, TX12, 120, tyX12, ci_12, by decide, rfl, tm_6 19 rfl rfl⟩
set_option maxHeartbeats 4000000 in
set_option maxRecDepth 100000 in
theorem fg_RX12_264 : FG RX12 264 12 106 2 := ⟨RX12, TX12, 120, tyX12, ci_12, by decide, rfl, tm_6 20 rfl rfl⟩
set_option maxHeartbeats 4000000 in
set_option maxRecDepth 100000 in
theorem fg_RX12_267 : FG RX12 267 12 107 2 := ⟨RX12, TX12, 120, tyX12, ci_12, by decide, rfl, tm_6 21 rfl rfl⟩
set_option maxHeartbeats 4000000 in
set_option maxRecDepth 100000 in
theorem fg_RX12_270 : FG RX12 270 12 108 2 := ⟨RX12, TX12, 120, tyX12, ci_12, by decide, rfl, tm_6 22 rfl rfl⟩
set_option maxHeartbeats 4000000 in
set_option maxRecDepth 100000 in
theorem fg_RX12_273 : FG RX12 273 12 110 2 := ⟨RX12, TX12, 120, tyX12, ci_12, by decide, rfl, tm_6 24 rfl rfl⟩
set_option maxHeartbeats 4000000 in
set_option maxRecDepth 100000 in
theorem fg_RX12_276 : FG RX12 276 12 114 2 := ⟨RX12, TX12, 120, tyX12, ci_12, by decide, rfl, tm_6 28 rfl rfl⟩
set_option maxHeartbeats 4000000 in
set_option maxRecDepth 100000 in
theorem fg_RX12_279 : FG RX12 279 12 118 2 := ⟨RX12, TX12, 120, tyX12, ci_12, by decide, rfl, tm_6 32 rfl rfl⟩
set_option maxHeartbeats 4000000 in
set_option maxRecDepth 100000 in
theorem fg_RX12_282 : FG RX12 282 12 1 0 := ⟨RX12, TX12, 120, tyX12, ci_12, by decide, rfl, tm_5 155 rfl rfl⟩
set_option maxHeartbeats 4000000 in
set_option maxRecDepth 100000 in
theorem fg_RX12_285 : FG RX12 285 12 5 0 := ⟨RX12, TX12, 120, tyX12, ci_12, by decide, rfl, tm_5 159 rfl rfl⟩
set_option maxHeartbeats 4000000 in
set_option maxRecDepth 100000 in
theorem fg_RX12_288 : FG RX12 288 12 6 0 := ⟨RX12, TX12, 120, tyX12, ci_12, by decide, rfl, tm_5 160 rfl rfl⟩
set_option maxHeartbeats 4000000 in
set_option maxRecDepth 100000 in
theorem fg_RX12_291 : FG RX12 291 12 2 0 := ⟨RX12, TX12, 120, tyX12, ci_12, by decide, rfl, tm_5 156 rfl rfl⟩
set_option maxHeartbeats 4000000 in
set_option maxRecDepth 100000 in
theorem fg_RX12_294 : FG RX12 294 12 3 0 := ⟨RX12, TX12, 120, tyX12, ci_12, by decide, rfl, tm_5 157 rfl rfl⟩
set_option maxHeartbeats 4000000 in
set_option maxRecDepth 100000 in
theorem fg_RX12_305 : FG RX12 305 12 4 0 := ⟨RX12, TX12, 120, tyX12, ci_12, by decide, rfl, tm_5 158 rfl rfl⟩
set_option maxHeartbeats 4000000 in
set_option maxRecDepth 100000 in
theorem fg_RX12_325 : FG RX12 325 12 10 0 := ⟨RX12, TX12, 120, tyX12, ci_12, by decide, rfl, tm_5 164 rfl rfl⟩
set_option maxHeartbeats 4000000 in
set_option maxRecDepth 100000 in
theorem fg_RX12_336 : FG RX12 336 12 41 0 := ⟨RX12, TX12, 120, tyX12, ci_12, by decide, rfl, tm_5 195 rfl rfl⟩
set_option maxHeartbeats 4000000 in
set_option maxRecDepth 100000 in
theorem fg_RX12_343 : FG RX12 343 12 57 0 := ⟨RX12, TX12, 120, tyX12, ci_12, by decide, rfl, tm_5 211 rfl rfl⟩
set_option maxHeartbeats 4000000 in
set_option maxRecDepth 100000 in
theorem fg_RX12_372 : FG RX12 372 12 109 0 := ⟨RX12, TX12, 120, tyX12, ci_12, by decide, rfl, tm_6 23 rfl rfl⟩
set_option maxHeartbeats 4000000 in
set_option maxRecDepth 100000 in
theorem fg_RX12_375 : FG RX12 375 12 111 0 := ⟨RX12, TX12, 120, tyX12, ci_12, by decide, rfl, tm_6 25 rfl rfl⟩
set_option maxHeartbeats 4000000 in
set_option maxRecDepth 100000 in
theorem fg_RX12_378 : FG RX12 378 12 112 0 := ⟨RX12, TX12, 120, tyX12, ci_12, by decide, rfl, tm_6 26 rfl rfl⟩
set_option maxHeartbeats 4000000 in
set_option maxRecDepth 100000 in
theorem fg_RX12_381 : FG RX12 381 12 113 0 := ⟨RX12, TX12, 120, tyX12, ci_12, by decide, rfl, tm_6 27 rfl rfl⟩
set_option maxHeartbeats 4000000 in
set_option maxRecDepth 100000 in
theorem fg_RX12_387 : FG RX12 387 12 54 0 := ⟨RX12, TX12, 120, tyX12, ci_12, by decide, rfl, tm_5 208 rfl rfl⟩
set_option maxHeartbeats 4000000 in
set_option maxRecDepth 100000 in
theorem fg_RX12_390 : FG RX12 390 12 55 0 := ⟨RX12, TX12, 120, tyX12, ci_12, by decide, rfl, tm_5 209 rfl rfl⟩
set_option maxHeartbeats 4000000 in
set_option maxRecDepth 100000 in
theorem fg_RX12_399 : FG RX12 399 12 43 0 := ⟨RX12, TX12, 120, tyX12, ci_12, by decide, rfl, tm_5 197 rfl rfl⟩
set_option maxHeartbeats 4000000 in
set_option maxRecDepth 100000 in
theorem fg_RX12_417 : FG RX12 417 12 7 0 := ⟨RX12, TX12, 120, tyX12, ci_12, by decide, rfl, tm_5 161 rfl rfl⟩
set_option maxHeartbeats 4000000 in
set_option maxRecDepth 100000 in
theorem fg_RX12_423 : FG RX12 423 12 56 0 := ⟨RX12, TX12, 120, tyX12, ci_12, by decide, rfl, tm_5 210 rfl rfl⟩
set_option maxHeartbeats 4000000 in
set_option maxRecDepth 100000 in
theorem fg_RX12_427 : FG RX12 427 12 44 0 := ⟨RX12, TX12, 120, tyX12, ci_12, by decide, rfl, tm_5 198 rfl rfl⟩
set_option maxHeartbeats 4000000 in
set_option maxRecDepth 100000 in
theorem fg_RX12_430 : FG RX12 430 12 78 0 := ⟨RX12, TX12, 120, tyX12, ci_12, by decide, rfl, tm_5 232 rfl rfl⟩
set_option maxHeartbeats 4000000 in
set_option maxRecDepth 100000 in
theorem fg_RX12_433 : FG RX12 433 12 74 0 := ⟨RX12, TX12, 120, tyX12, ci_12, by decide, rfl, tm_5 228 rfl rfl⟩
set_option maxHeartbeats 4000000 in
set_option maxRecDepth 100000 in
theorem fg_RX12_461 : FG RX12 461 12 115 0 := ⟨RX12, TX12, 120, tyX12, ci_12, by decide, rfl, tm_6 29 rfl rfl⟩
set_option maxHeartbeats 4000000 in
set_option maxRecDepth 100000 in
theorem fg_RX12_475 : FG RX12 475 12 60 0 := ⟨RX12, TX12, 120, tyX12, ci_12, by decide, rfl, tm_5 214 rfl rfl⟩
set_option maxHeartbeats 4000000 in
set_option maxRecDepth 100000 in
theorem fg_RX12_478 : FG RX12 478 12 61 0 := ⟨RX12, TX12, 120, tyX12, ci_12, by decide, rfl, tm_5 215 rfl rfl⟩
set_option maxHeartbeats 4000000 in
set_option maxRecDepth 100000 in
theorem fg_RX12_497 : FG RX12 497 12 64 0 := ⟨RX12, TX12, 120, tyX12, ci_12, by decide, rfl, tm_5 218 rfl rfl⟩
set_option maxHeartbeats 4000000 in
set_option maxRecDepth 100000 in
theorem fg_RX12_506 : FG RX12 506 12 59 0 := ⟨RX12, TX12, 120, tyX12, ci_12, by decide, rfl, tm_5 213 rfl rfl⟩
set_option maxHeartbeats 4000000 in
set_option maxRecDepth 100000 in
theorem fg_RX12_524 : FG RX12 524 12 62 0 := ⟨RX12, TX12, 120, tyX12, ci_12, by decide, rfl, tm_5 216 rfl rfl⟩
set_option maxHeartbeats 4000000 in
set_option maxRecDepth 100000 in
theorem fg_RX12_595 : FG RX12 595 12 79 0 := ⟨RX12, TX12, 120, tyX12, ci_12, by decide, rfl, tm_5 233 rfl rfl⟩
set_option maxHeartbeats 4000000 in
set_option maxRecDepth 100000 in
theorem fg_RX12_696 : FG RX12 696 12 116 1 := ⟨RX12, TX12, 120, tyX12, ci_12, by decide, rfl, tm_6 30 rfl rfl⟩
set_option maxHeartbeats 4000000 in
set_option maxRecDepth 100000 in
theorem fg_RX12_699 : FG RX12 699 12 117 0 := ⟨RX12, TX12, 120, tyX12, ci_12, by decide, rfl, tm_6 31 rfl rfl⟩
set_option maxHeartbeats 4000000 in
set_option maxRecDepth 100000 in
theorem fg_RX12_721 : FG RX12 721 12 119 0 := ⟨RX12, TX12, 120, tyX12, ci_12, by decide, rfl, tm_6 33 rfl rfl⟩
set_option maxHeartbeats 4000000 in
set_option maxRecDepth 100000 in
theorem fw_RX11_35 : FW RX11 35 11 3 2 false (.object "CalledRiver$Plain") := ⟨RX11, TX11, 19, tyX11, ci_11, by decide, rfl, tm_2 152 rfl rfl, rfl, rfl, (fun h => by cases h)⟩
set_option maxHeartbeats 4000000 in
set_option maxRecDepth 100000 in
theorem fw_RX11_39 : FW RX11 39 11 4 2 false (.object "CalledRiver$Plain") := ⟨RX11, TX11, 19, tyX11, ci_11, by decide, rfl, tm_2 153 rfl rfl, rfl, rfl, (fun h => by cases h)⟩
set_option maxHeartbeats 4000000 in
set_option maxRecDepth 100000 in
theorem fw_RX11_113 : FW RX11 113 11 18 1 false (.long) := ⟨RX11, TX11, 19, tyX11, ci_11, by decide, rfl, tm_2 167 rfl rfl, rfl, rfl, (fun h => by cases h)⟩
set_option maxHeartbeats 4000000 in
set_option maxRecDepth 100000 in
theorem fw_RX11_117 : FW RX11 117 9 1 0 false (.int) := ⟨RX9, TX9, 7, tyX9, ci_9, by decide, rfl, tm_1 39 rfl rfl, rfl, rfl, (fun h => by cases h)⟩
set_option maxHeartbeats 4000000 in
set_option maxRecDepth 100000 in
theorem fw_RX11_143 : FW RX11 143 7 0 0 false (.int) := ⟨RX7, TX7, 3, tyX7, ci_7, by decide, rfl, tm_2 86 rfl rfl, rfl, rfl, (fun h => by cases h)⟩
set_option maxHeartbeats 4000000 in
set_option maxRecDepth 100000 in
theorem fw_RX11_164 : FW RX11 164 1 0 0 false (.int) := ⟨RX1, TX1, 6, tyX1, ci_1, by decide, rfl, tm_1 237 rfl rfl, rfl, rfl, (fun h => by cases h)⟩
set_option maxHeartbeats 4000000 in
set_option maxRecDepth 100000 in
theorem fw_RX11_177 : FW RX11 177 1 1 0 false (.int) := ⟨RX1, TX1, 6, tyX1, ci_1, by decide, rfl, tm_2 0 rfl rfl, rfl, rfl, (fun h => by cases h)⟩
set_option maxHeartbeats 4000000 in
set_option maxRecDepth 100000 in
theorem fw_RX11_357 : FW RX11 357 10 5 0 false (.boolean) := ⟨RX10, TX10, 7, tyX10, ci_10, by decide, rfl, tm_2 117 rfl rfl, rfl, rfl, (fun h => by cases h)⟩
set_option maxHeartbeats 4000000 in
set_option maxRecDepth 100000 in
theorem fw_RX0_18 : FW RX0 18 0 2 0 false (.int) := ⟨RX0, TX0, 3, tyX0, ci_0, by decide, rfl, tm_1 78 rfl rfl, rfl, rfl, (fun h => by cases h)⟩
set_option maxHeartbeats 4000000 in
set_option maxRecDepth 100000 in
theorem fw_RX1_24 : FW RX1 24 1 0 0 false (.int) := ⟨RX1, TX1, 6, tyX1, ci_1, by decide, rfl, tm_1 234 rfl rfl, rfl, rfl, (fun h => by cases h)⟩
set_option maxHeartbeats 4000000 in
set_option maxRecDepth 100000 in
theorem fw_RX1_28 : FW RX1 28 1 1 0 false (.int) := ⟨RX1, TX1, 6, tyX1, ci_1, by decide, rfl, tm_1 238 rfl rfl, rfl, rfl, (fun h => by cases h)⟩
set_option maxHeartbeats 4000000 in
set_option maxRecDepth 100000 in
theorem fw_RX2_27 : FW RX2 27 2 2 0 false (.int) := ⟨RX2, TX2, 4, tyX2, ci_2, by decide, rfl, tm_2 68 rfl rfl, rfl, rfl, (fun h => by cases h)⟩
set_option maxHeartbeats 4000000 in
set_option maxRecDepth 100000 in
theorem fw_RX3_28 : FW RX3 28 3 0 0 false (.int) := ⟨RX3, TX3, 6, tyX3, ci_3, by decide, rfl, tm_2 40 rfl rfl, rfl, rfl, (fun h => by cases h)⟩
set_option maxHeartbeats 4000000 in
set_option maxRecDepth 100000 in
theorem fw_RX3_32 : FW RX3 32 3 1 0 false (.int) := ⟨RX3, TX3, 6, tyX3, ci_3, by decide, rfl, tm_2 42 rfl rfl, rfl, rfl, (fun h => by cases h)⟩
set_option maxHeartbeats 4000000 in
set_option maxRecDepth 100000 in
theorem fw_RX4_15 : FW RX4 15 1 0 0 false (.int) := ⟨RX1, TX1, 6, tyX1, ci_1, by decide, rfl, tm_1 235 rfl rfl, rfl, rfl, (fun h => by cases h)⟩
set_option maxHeartbeats 4000000 in
set_option maxRecDepth 100000 in
theorem fw_RX4_21 : FW RX4 21 4 1 0 false (.int) := ⟨RX4, TX4, 2, tyX4, ci_4, by decide, rfl, tm_2 142 rfl rfl, rfl, rfl, (fun h => by cases h)⟩
set_option maxHeartbeats 4000000 in
set_option maxRecDepth 100000 in
theorem fw_RX4_60 : FW RX4 60 1 1 0 false (.int) := ⟨RX1, TX1, 6, tyX1, ci_1, by decide, rfl, tm_1 239 rfl rfl, rfl, rfl, (fun h => by cases h)⟩
set_option maxHeartbeats 4000000 in
set_option maxRecDepth 100000 in
theorem fw_RX5_52 : FW RX5 52 5 0 0 false (.int) := ⟨RX5, TX5, 17, tyX5, ci_5, by decide, rfl, tm_1 110 rfl rfl, rfl, rfl, (fun h => by cases h)⟩
set_option maxHeartbeats 4000000 in
set_option maxRecDepth 100000 in
theorem fw_RX5_56 : FW RX5 56 5 1 0 false (.int) := ⟨RX5, TX5, 17, tyX5, ci_5, by decide, rfl, tm_1 115 rfl rfl, rfl, rfl, (fun h => by cases h)⟩
set_option maxHeartbeats 4000000 in
set_option maxRecDepth 100000 in
theorem fw_RX5_59 : FW RX5 59 5 2 0 false (.int) := ⟨RX5, TX5, 17, tyX5, ci_5, by decide, rfl, tm_1 119 rfl rfl, rfl, rfl, (fun h => by cases h)⟩
set_option maxHeartbeats 4000000 in
set_option maxRecDepth 100000 in
theorem fw_RX5_62 : FW RX5 62 5 3 0 false (.int) := ⟨RX5, TX5, 17, tyX5, ci_5, by decide, rfl, tm_1 124 rfl rfl, rfl, rfl, (fun h => by cases h)⟩
set_option maxHeartbeats 4000000 in
set_option maxRecDepth 100000 in
theorem fw_RX5_65 : FW RX5 65 5 4 0 false (.int) := ⟨RX5, TX5, 17, tyX5, ci_5, by decide, rfl, tm_1 129 rfl rfl, rfl, rfl, (fun h => by cases h)⟩
set_option maxHeartbeats 4000000 in
set_option maxRecDepth 100000 in
theorem fw_RX6_19 : FW RX6 19 6 2 2 false (.object "CalledRiver$Plain") := ⟨RX6, TX6, 4, tyX6, ci_6, by decide, rfl, tm_1 217 rfl rfl, rfl, rfl, (fun h => by cases h)⟩
set_option maxHeartbeats 4000000 in
set_option maxRecDepth 100000 in
theorem fw_RX6_66 : FW RX6 66 5 0 0 false (.int) := ⟨RX5, TX5, 17, tyX5, ci_5, by decide, rfl, tm_1 113 rfl rfl, rfl, rfl, (fun h => by cases h)⟩
set_option maxHeartbeats 4000000 in
set_option maxRecDepth 100000 in
theorem fw_RX6_71 : FW RX6 71 5 1 0 false (.int) := ⟨RX5, TX5, 17, tyX5, ci_5, by decide, rfl, tm_1 117 rfl rfl, rfl, rfl, (fun h => by cases h)⟩
set_option maxHeartbeats 4000000 in
set_option maxRecDepth 100000 in
theorem fw_RX6_97 : FW RX6 97 5 2 0 false (.int) := ⟨RX5, TX5, 17, tyX5, ci_5, by decide, rfl, tm_1 122 rfl rfl, rfl, rfl, (fun h => by cases h)⟩
set_option maxHeartbeats 4000000 in
set_option maxRecDepth 100000 in
theorem fw_RX6_119 : FW RX6 119 5 3 0 false (.int) := ⟨RX5, TX5, 17, tyX5, ci_5, by decide, rfl, tm_1 127 rfl rfl, rfl, rfl, (fun h => by cases h)⟩
set_option maxHeartbeats 4000000 in
set_option maxRecDepth 100000 in
theorem fw_RX6_122 : FW RX6 122 5 4 0 false (.int) := ⟨RX5, TX5, 17, tyX5, ci_5, by decide, rfl, tm_1 130 rfl rfl, rfl, rfl, (fun h => by cases h)⟩
set_option maxHeartbeats 4000000 in
set_option maxRecDepth 100000 in
theorem fw_RX6_141 : FW RX6 141 6 3 0 false (.int) := ⟨RX6, TX6, 4, tyX6, ci_6, by decide, rfl, tm_1 218 rfl rfl, rfl, rfl, (fun h => by cases h)⟩
set_option maxHeartbeats 4000000 in
set_option maxRecDepth 100000 in
theorem fw_RX7_28 : FW RX7 28 7 0 0 false (.int) := ⟨RX7, TX7, 3, tyX7, ci_7, by decide, rfl, tm_2 85 rfl rfl, rfl, rfl, (fun h => by cases h)⟩
set_option maxHeartbeats 4000000 in
set_option maxRecDepth 100000 in
theorem fw_RX8_15 : FW RX8 15 8 1 2 false (.object "CalledRiver$Code") := ⟨RX8, TX8, 3, tyX8, ci_8, by decide, rfl, tm_1 93 rfl rfl, rfl, rfl, (fun h => by cases h)⟩
set_option maxHeartbeats 4000000 in
set_option maxRecDepth 100000 in
theorem fw_RX8_55 : FW RX8 55 8 2 0 false (.int) := ⟨RX8, TX8, 3, tyX8, ci_8, by decide, rfl, tm_1 94 rfl rfl, rfl, rfl, (fun h => by cases h)⟩
set_option maxHeartbeats 4000000 in
set_option maxRecDepth 100000 in
theorem fw_RX9_15 : FW RX9 15 9 6 0 false (.int) := ⟨RX9, TX9, 7, tyX9, ci_9, by decide, rfl, tm_1 52 rfl rfl, rfl, rfl, (fun h => by cases h)⟩
set_option maxHeartbeats 4000000 in
set_option maxRecDepth 100000 in
theorem fw_RX9_19 : FW RX9 19 9 1 0 false (.int) := ⟨RX9, TX9, 7, tyX9, ci_9, by decide, rfl, tm_1 40 rfl rfl, rfl, rfl, (fun h => by cases h)⟩
set_option maxHeartbeats 4000000 in
set_option maxRecDepth 100000 in
theorem fw_RX9_22 : FW RX9 22 9 5 0 false (.int) := ⟨RX9, TX9, 7, tyX9, ci_9, by decide, rfl, tm_1 50 rfl rfl, rfl, rfl, (fun h => by cases h)⟩
set_option maxHeartbeats 4000000 in
set_option maxRecDepth 100000 in
theorem fw_RX9_25 : FW RX9 25 9 2 0 false (.int) := ⟨RX9, TX9, 7, tyX9, ci_9, by decide, rfl, tm_1 44 rfl rfl, rfl, rfl, (fun h => by cases h)⟩
set_option maxHeartbeats 4000000 in
set_option maxRecDepth 100000 in
theorem fw_RX9_28 : FW RX9 28 9 4 0 false (.int) := ⟨RX9, TX9, 7, tyX9, ci_9, by decide, rfl, tm_1 49 rfl rfl, rfl, rfl, (fun h => by cases h)⟩
set_option maxHeartbeats 4000000 in
set_option maxRecDepth 100000 in
theorem fw_RX9_34 : FW RX9 34 9 3 0 false (.int) := ⟨RX9, TX9, 7, tyX9, ci_9, by decide, rfl, tm_1 48 rfl rfl, rfl, rfl, (fun h => by cases h)⟩
set_option maxHeartbeats 4000000 in
set_option maxRecDepth 100000 in
theorem fw_RX10_18 : FW RX10 18 10 2 0 false (.int) := ⟨RX10, TX10, 7, tyX10, ci_10, by decide, rfl, tm_2 110 rfl rfl, rfl, rfl, (fun h => by cases h)⟩
set_option maxHeartbeats 4000000 in
set_option maxRecDepth 100000 in
theorem fw_RX10_31 : FW RX10 31 10 3 0 false (.boolean) := ⟨RX10, TX10, 7, tyX10, ci_10, by decide, rfl, tm_2 112 rfl rfl, rfl, rfl, (fun h => by cases h)⟩
set_option maxHeartbeats 4000000 in
set_option maxRecDepth 100000 in
theorem fw_RX10_35 : FW RX10 35 10 4 0 false (.int) := ⟨RX10, TX10, 7, tyX10, ci_10, by decide, rfl, tm_2 114 rfl rfl, rfl, rfl, (fun h => by cases h)⟩
set_option maxHeartbeats 4000000 in
set_option maxRecDepth 100000 in
theorem fw_RX10_38 : FW RX10 38 10 5 0 false (.boolean) := ⟨RX10, TX10, 7, tyX10, ci_10, by decide, rfl, tm_2 116 rfl rfl, rfl, rfl, (fun h => by cases h)⟩
set_option maxHeartbeats 4000000 in
set_option maxRecDepth 100000 in
theorem fw_RX12_13 : FW RX12 13 12 8 0 false (.int) := ⟨RX12, TX12, 120, tyX12, ci_12, by decide, rfl, tm_5 162 rfl rfl, rfl, rfl, (fun h => by cases h)⟩
set_option maxHeartbeats 4000000 in
set_option maxRecDepth 100000 in
theorem fw_RX12_185 : FW RX12 185 12 80 1 false (.long) := ⟨RX12, TX12, 120, tyX12, ci_12, by decide, rfl, tm_5 234 rfl rfl, rfl, rfl, (fun h => by cases h)⟩
set_option maxHeartbeats 4000000 in
set_option maxRecDepth 100000 in
theorem fw_RX12_282 : FW RX12 282 12 1 0 false (.int) := ⟨RX12, TX12, 120, tyX12, ci_12, by decide, rfl, tm_5 155 rfl rfl, rfl, rfl, (fun h => by cases h)⟩
set_option maxHeartbeats 4000000 in
set_option maxRecDepth 100000 in
theorem fw_RX12_285 : FW RX12 285 12 5 0 false (.int) := ⟨RX12, TX12, 120, tyX12, ci_12, by decide, rfl, tm_5 159 rfl rfl, rfl, rfl, (fun h => by cases h)⟩
set_option maxHeartbeats 4000000 in
set_option maxRecDepth 100000 in
theorem fw_RX12_288 : FW RX12 288 12 6 0 false (.int) := ⟨RX12, TX12, 120, tyX12, ci_12, by decide, rfl, tm_5 160 rfl rfl, rfl, rfl, (fun h => by cases h)⟩
set_option maxHeartbeats 4000000 in
set_option maxRecDepth 100000 in
theorem fw_RX12_291 : FW RX12 291 12 2 0 false (.int) := ⟨RX12, TX12, 120, tyX12, ci_12, by decide, rfl, tm_5 156 rfl rfl, rfl, rfl, (fun h => by cases h)⟩
set_option maxHeartbeats 4000000 in
set_option maxRecDepth 100000 in
theorem fw_RX12_294 : FW RX12 294 12 3 0 false (.int) := ⟨RX12, TX12, 120, tyX12, ci_12, by decide, rfl, tm_5 157 rfl rfl, rfl, rfl, (fun h => by cases h)⟩
set_option maxHeartbeats 4000000 in
set_option maxRecDepth 100000 in
theorem fw_RX12_305 : FW RX12 305 12 4 0 false (.int) := ⟨RX12, TX12, 120, tyX12, ci_12, by decide, rfl, tm_5 158 rfl rfl, rfl, rfl, (fun h => by cases h)⟩
set_option maxHeartbeats 4000000 in
set_option maxRecDepth 100000 in
theorem fw_RX12_325 : FW RX12 325 12 10 0 false (.int) := ⟨RX12, TX12, 120, tyX12, ci_12, by decide, rfl, tm_5 164 rfl rfl, rfl, rfl, (fun h => by cases h)⟩
set_option maxHeartbeats 4000000 in
set_option maxRecDepth 100000 in
theorem fw_RX12_336 : FW RX12 336 12 41 0 false (.int) := ⟨RX12, TX12, 120, tyX12, ci_12, by decide, rfl, tm_5 195 rfl rfl, rfl, rfl, (fun h => by cases h)⟩
set_option maxHeartbeats 4000000 in
set_option maxRecDepth 100000 in
theorem fw_RX12_343 : FW RX12 343 12 57 0 false (.int) := ⟨RX12, TX12, 120, tyX12, ci_12, by decide, rfl, tm_5 211 rfl rfl, rfl, rfl, (fun h => by cases h)⟩
set_option maxHeartbeats 4000000 in
set_option maxRecDepth 100000 in
theorem fw_RX12_372 : FW RX12 372 12 109 0 false (.int) := ⟨RX12, TX12, 120, tyX12, ci_12, by decide, rfl, tm_6 23 rfl rfl, rfl, rfl, (fun h => by cases h)⟩
set_option maxHeartbeats 4000000 in
set_option maxRecDepth 100000 in
theorem fw_RX12_375 : FW RX12 375 12 111 0 false (.int) := ⟨RX12, TX12, 120, tyX12, ci_12, by decide, rfl, tm_6 25 rfl rfl, rfl, rfl, (fun h => by cases h)⟩
set_option maxHeartbeats 4000000 in
set_option maxRecDepth 100000 in
theorem fw_RX12_378 : FW RX12 378 12 112 0 false (.int) := ⟨RX12, TX12, 120, tyX12, ci_12, by decide, rfl, tm_6 26 rfl rfl, rfl, rfl, (fun h => by cases h)⟩
set_option maxHeartbeats 4000000 in
set_option maxRecDepth 100000 in
theorem fw_RX12_381 : FW RX12 381 12 113 0 false (.int) := ⟨RX12, TX12, 120, tyX12, ci_12, by decide, rfl, tm_6 27 rfl rfl, rfl, rfl, (fun h => by cases h)⟩
set_option maxHeartbeats 4000000 in
set_option maxRecDepth 100000 in
theorem fw_RX12_387 : FW RX12 387 12 54 0 false (.int) := ⟨RX12, TX12, 120, tyX12, ci_12, by decide, rfl, tm_5 208 rfl rfl, rfl, rfl, (fun h => by cases h)⟩
set_option maxHeartbeats 4000000 in
set_option maxRecDepth 100000 in
theorem fw_RX12_390 : FW RX12 390 12 55 0 false (.int) := ⟨RX12, TX12, 120, tyX12, ci_12, by decide, rfl, tm_5 209 rfl rfl, rfl, rfl, (fun h => by cases h)⟩
set_option maxHeartbeats 4000000 in
set_option maxRecDepth 100000 in
theorem fw_RX12_399 : FW RX12 399 12 43 0 false (.int) := ⟨RX12, TX12, 120, tyX12, ci_12, by decide, rfl, tm_5 197 rfl rfl, rfl, rfl, (fun h => by cases h)⟩
set_option maxHeartbeats 4000000 in
set_option maxRecDepth 100000 in
theorem fw_RX12_417 : FW RX12 417 12 7 0 false (.int) := ⟨RX12, TX12, 120, tyX12, ci_12, by decide, rfl, tm_5 161 rfl rfl, rfl, rfl, (fun h => by cases h)⟩
set_option maxHeartbeats 4000000 in
set_option maxRecDepth 100000 in
theorem fw_RX12_423 : FW RX12 423 12 56 0 false (.boolean) := ⟨RX12, TX12, 120, tyX12, ci_12, by decide, rfl, tm_5 210 rfl rfl, rfl, rfl, (fun h => by cases h)⟩
set_option maxHeartbeats 4000000 in
set_option maxRecDepth 100000 in
theorem fw_RX12_427 : FW RX12 427 12 44 0 false (.int) := ⟨RX12, TX12, 120, tyX12, ci_12, by decide, rfl, tm_5 198 rfl rfl, rfl, rfl, (fun h => by cases h)⟩
set_option maxHeartbeats 4000000 in
set_option maxRecDepth 100000 in
theorem fw_RX12_430 : FW RX12 430 12 78 0 false (.int) := ⟨RX12, TX12, 120, tyX12, ci_12, by decide, rfl, tm_5 232 rfl rfl, rfl, rfl, (fun h => by cases h)⟩
set_option maxHeartbeats 4000000 in
set_option maxRecDepth 100000 in
theorem fw_RX12_433 : FW RX12 433 12 74 0 false (.int) := ⟨RX12, TX12, 120, tyX12, ci_12, by decide, rfl, tm_5 228 rfl rfl, rfl, rfl, (fun h => by cases h)⟩
set_option maxHeartbeats 4000000 in
set_option maxRecDepth 100000 in
theorem fw_RX12_461 : FW RX12 461 12 115 0 false (.int) := ⟨RX12, TX12, 120, tyX12, ci_12, by decide, rfl, tm_6 29 rfl rfl, rfl, rfl, (fun h => by cases h)⟩
set_option maxHeartbeats 4000000 in
set_option maxRecDepth 100000 in
theorem fw_RX12_475 : FW RX12 475 12 60 0 false (.int) := ⟨RX12, TX12, 120, tyX12, ci_12, by decide, rfl, tm_5 214 rfl rfl, rfl, rfl, (fun h => by cases h)⟩
set_option maxHeartbeats 4000000 in
set_option maxRecDepth 100000 in
theorem fw_RX12_478 : FW RX12 478 12 61 0 false (.int) := ⟨RX12, TX12, 120, tyX12, ci_12, by decide, rfl, tm_5 215 rfl rfl, rfl, rfl, (fun h => by cases h)⟩
set_option maxHeartbeats 4000000 in
set_option maxRecDepth 100000 in
theorem fw_RX12_497 : FW RX12 497 12 64 0 false (.int) := ⟨RX12, TX12, 120, tyX12, ci_12, by decide, rfl, tm_5 218 rfl rfl, rfl, rfl, (fun h => by cases h)⟩
set_option maxHeartbeats 4000000 in
set_option maxRecDepth 100000 in
theorem fw_RX12_506 : FW RX12 506 12 59 0 false (.int) := ⟨RX12, TX12, 120, tyX12, ci_12, by decide, rfl, tm_5 213 rfl rfl, rfl, rfl, (fun h => by cases h)⟩
set_option maxHeartbeats 4000000 in
set_option maxRecDepth 100000 in
theorem fw_RX12_524 : FW RX12 524 12 62 0 false (.int) := ⟨RX12, TX12, 120, tyX12, ci_12, by decide, rfl, tm_5 216 rfl rfl, rfl, rfl, (fun h => by cases h)⟩
set_option maxHeartbeats 4000000 in
set_option maxRecDepth 100000 in
theorem fw_RX12_595 : FW RX12 595 12 79 0 false (.int) := ⟨RX12, TX12, 120, tyX12, ci_12, by decide, rfl, tm_5 233 rfl rfl, rfl, rfl, (fun h => by cases h)⟩
set_option maxHeartbeats 4000000 in
set_option maxRecDepth 100000 in
theorem fw_RX12_696 : FW RX12 696 12 116 1 false (.long) := ⟨RX12, TX12, 120, tyX12, ci_12, by decide, rfl, tm_6 30 rfl rfl, rfl, rfl, (fun h => by cases h)⟩
set_option maxHeartbeats 4000000 in
set_option maxRecDepth 100000 in
theorem fw_RX12_699 : FW RX12 699 12 117 0 false (.boolean) := ⟨RX12, TX12, 120, tyX12, ci_12, by decide, rfl, tm_6 31 rfl rfl, rfl, rfl, (fun h => by cases h)⟩
set_option maxHeartbeats 4000000 in
set_option maxRecDepth 100000 in
theorem fw_RX12_721 : FW RX12 721 12 119 0 false (.int) := ⟨RX12, TX12, 120, tyX12, ci_12, by decide, rfl, tm_6 33 rfl rfl, rfl, rfl, (fun h => by cases h)⟩
set_option maxHeartbeats 4000000 in
set_option maxRecDepth 100000 in
theorem ml_RX11_121 : Cond.methodLink RX11 121 yX11_refuse ∈ TBg := tm_2 211 rfl rfl
set_option maxHeartbeats 4000000 in
set_option maxRecDepth 100000 in
theorem ml_RX11_125 : Cond.methodLink RX11 125 yX9_append ∈ TBg := tm_2 215 rfl rfl
set_option maxHeartbeats 4000000 in
set_option maxRecDepth 100000 in
theorem ml_RX11_129 : Cond.methodLink RX11 129 yX6_readPlain ∈ TBg := tm_2 227 rfl rfl
set_option maxHeartbeats 4000000 in
set_option maxRecDepth 100000 in
theorem ml_RX11_136 : Cond.methodLink RX11 136 yX1_begin ∈ TBg := tm_3 211 rfl rfl
set_option maxHeartbeats 4000000 in
set_option maxRecDepth 100000 in
theorem ml_RX11_140 : Cond.methodLink RX11 140 yX3_forget ∈ TBg := tm_3 219 rfl rfl
set_option maxHeartbeats 4000000 in
set_option maxRecDepth 100000 in
theorem ml_RX11_146 : Cond.methodLink RX11 146 yX11_forgetWays ∈ TBg := tm_3 223 rfl rfl
set_option maxHeartbeats 4000000 in
set_option maxRecDepth 100000 in
theorem ml_RX11_167 : Cond.methodLink RX11 167 yX1_stones ∈ TBg := tm_3 236 rfl rfl
set_option maxHeartbeats 4000000 in
set_option maxRecDepth 100000 in
theorem ml_RX11_174 : Cond.methodLink RX11 174 yX1_pies ∈ TBg := tm_4 0 rfl rfl
set_option maxHeartbeats 4000000 in
set_option maxRecDepth 100000 in
theorem ml_RX11_180 : Cond.methodLink RX11 180 yJ9_min_7cf53 ∈ TBg := tm_4 4 rfl rfl
set_option maxHeartbeats 4000000 in
set_option maxRecDepth 100000 in
theorem ml_RX11_187 : Cond.methodLink RX11 187 yX5_isFarm ∈ TBg := tm_4 9 rfl rfl
set_option maxHeartbeats 4000000 in
set_option maxRecDepth 100000 in
theorem ml_RX11_194 : Cond.methodLink RX11 194 yX9_letterOf ∈ TBg := tm_4 13 rfl rfl
set_option maxHeartbeats 4000000 in
set_option maxRecDepth 100000 in
theorem ml_RX11_197 : Cond.methodLink RX11 197 yX5_isCaller ∈ TBg := tm_4 16 rfl rfl
set_option maxHeartbeats 4000000 in
set_option maxRecDepth 100000 in
theorem ml_RX11_203 : Cond.methodLink RX11 203 yX5_placeOf ∈ TBg := tm_4 24 rfl rfl
set_option maxHeartbeats 4000000 in
set_option maxRecDepth 100000 in
theorem ml_RX11_221 : Cond.methodLink RX11 221 yX5_columnOf ∈ TBg := tm_4 32 rfl rfl
set_option maxHeartbeats 4000000 in
set_option maxRecDepth 100000 in
theorem ml_RX11_224 : Cond.methodLink RX11 224 yX5_rowOf ∈ TBg := tm_4 36 rfl rfl
set_option maxHeartbeats 4000000 in
set_option maxRecDepth 100000 in
theorem ml_RX11_239 : Cond.methodLink RX11 239 yX3_tell ∈ TBg := tm_4 48 rfl rfl
set_option maxHeartbeats 4000000 in
set_option maxRecDepth 100000 in
theorem ml_RX11_242 : Cond.methodLink RX11 242 yX11_wayOf ∈ TBg := tm_4 56 rfl rfl
set_option maxHeartbeats 4000000 in
set_option maxRecDepth 100000 in
theorem ml_RX11_246 : Cond.methodLink RX11 246 yX10_placeBy ∈ TBg := tm_4 112 rfl rfl
set_option maxHeartbeats 4000000 in
set_option maxRecDepth 100000 in
theorem ml_RX11_249 : Cond.methodLink RX11 249 yX11_placePart ∈ TBg := tm_4 116 rfl rfl
set_option maxHeartbeats 4000000 in
set_option maxRecDepth 100000 in
theorem ml_RX11_262 : Cond.methodLink RX11 262 yX10_isBetterThan ∈ TBg := tm_4 128 rfl rfl
set_option maxHeartbeats 4000000 in
set_option maxRecDepth 100000 in
theorem ml_RX11_266 : Cond.methodLink RX11 266 yX2_search ∈ TBg := tm_4 142 rfl rfl
set_option maxHeartbeats 4000000 in
set_option maxRecDepth 100000 in
theorem ml_RX11_270 : Cond.methodLink RX11 270 yX2_fewestFor ∈ TBg := tm_4 157 rfl rfl
set_option maxHeartbeats 4000000 in
set_option maxRecDepth 100000 in
theorem ml_RX11_273 : Cond.methodLink RX11 273 yJ6_bitCount_0f7a4 ∈ TBg := tm_4 165 rfl rfl
set_option maxHeartbeats 4000000 in
set_option maxRecDepth 100000 in
theorem ml_RX11_278 : Cond.methodLink RX11 278 yX1_copy ∈ TBg := tm_4 170 rfl rfl
set_option maxHeartbeats 4000000 in
set_option maxRecDepth 100000 in
theorem ml_RX11_282 : Cond.methodLink RX11 282 yX10_lead ∈ TBg := tm_4 60 rfl rfl
set_option maxHeartbeats 4000000 in
set_option maxRecDepth 100000 in
theorem ml_RX11_286 : Cond.methodLink RX11 286 yX10_waters ∈ TBg := tm_4 174 rfl rfl
set_option maxHeartbeats 4000000 in
set_option maxRecDepth 100000 in
theorem ml_RX11_289 : Cond.methodLink RX11 289 yX11_waterBySets ∈ TBg := tm_4 182 rfl rfl
set_option maxHeartbeats 4000000 in
set_option maxRecDepth 100000 in
theorem ml_RX11_292 : Cond.methodLink RX11 292 yX11_isAtRest ∈ TBg := tm_4 190 rfl rfl
set_option maxHeartbeats 4000000 in
set_option maxRecDepth 100000 in
theorem ml_RX11_295 : Cond.methodLink RX11 295 yX10_partingFrom ∈ TBg := tm_4 202 rfl rfl
set_option maxHeartbeats 4000000 in
set_option maxRecDepth 100000 in
theorem ml_RX11_299 : Cond.methodLink RX11 299 yX10_meetingWith ∈ TBg := tm_4 207 rfl rfl
set_option maxHeartbeats 4000000 in
set_option maxRecDepth 100000 in
theorem ml_RX11_303 : Cond.methodLink RX11 303 yX5_places ∈ TBg := tm_4 215 rfl rfl
set_option maxHeartbeats 4000000 in
set_option maxRecDepth 100000 in
theorem ml_RX11_306 : Cond.methodLink RX11 306 yX11_waysThrough ∈ TBg := tm_4 219 rfl rfl
set_option maxHeartbeats 4000000 in
set_option maxRecDepth 100000 in
theorem ml_RX11_309 : Cond.methodLink RX11 309 yX7_take ∈ TBg := tm_4 227 rfl rfl
set_option maxHeartbeats 4000000 in
set_option maxRecDepth 100000 in
theorem ml_RX11_313 : Cond.methodLink RX11 313 yX11_callersLeft ∈ TBg := tm_4 239 rfl rfl
set_option maxHeartbeats 4000000 in
set_option maxRecDepth 100000 in
theorem ml_RX11_316 : Cond.methodLink RX11 316 yX11_mostLeftBy ∈ TBg := tm_5 12 rfl rfl
set_option maxHeartbeats 4000000 in
set_option maxRecDepth 100000 in
theorem ml_RX11_319 : Cond.methodLink RX11 319 yX3_remember ∈ TBg := tm_5 23 rfl rfl
set_option maxHeartbeats 4000000 in
set_option maxRecDepth 100000 in
theorem ml_RX11_322 : Cond.methodLink RX11 322 yX11_passYear ∈ TBg := tm_5 28 rfl rfl
set_option maxHeartbeats 4000000 in
set_option maxRecDepth 100000 in
theorem ml_RX11_325 : Cond.methodLink RX11 325 yX11_drawCaller ∈ TBg := tm_5 53 rfl rfl
set_option maxHeartbeats 4000000 in
set_option maxRecDepth 100000 in
theorem ml_RX11_328 : Cond.methodLink RX11 328 yX3_restore ∈ TBg := tm_5 65 rfl rfl
set_option maxHeartbeats 4000000 in
set_option maxRecDepth 100000 in
theorem ml_RX11_334 : Cond.methodLink RX11 334 yX8_readQuestion ∈ TBg := tm_5 78 rfl rfl
set_option maxHeartbeats 4000000 in
set_option maxRecDepth 100000 in
theorem ml_RX11_338 : Cond.methodLink RX11 338 yX11_answerTo ∈ TBg := tm_5 104 rfl rfl
set_option maxHeartbeats 4000000 in
set_option maxRecDepth 100000 in
theorem ml_RX11_342 : Cond.methodLink RX11 342 yX4_write ∈ TBg := tm_5 119 rfl rfl
set_option maxHeartbeats 4000000 in
set_option maxRecDepth 100000 in
theorem ml_RX11_349 : Cond.methodLink RX11 349 yX4_isOf ∈ TBg := tm_5 135 rfl rfl
set_option maxHeartbeats 4000000 in
set_option maxRecDepth 100000 in
theorem ml_RX11_353 : Cond.methodLink RX11 353 yX4_show ∈ TBg := tm_5 141 rfl rfl
set_option maxHeartbeats 4000000 in
set_option maxRecDepth 100000 in
theorem ml_RX11_360 : Cond.methodLink RX11 360 yX11_pieIn ∈ TBg := tm_4 186 rfl rfl
set_option maxHeartbeats 4000000 in
set_option maxRecDepth 100000 in
theorem ml_RX11_363 : Cond.methodLink RX11 363 yX11_welfare ∈ TBg := tm_4 194 rfl rfl
set_option maxHeartbeats 4000000 in
set_option maxRecDepth 100000 in
theorem ml_RX11_369 : Cond.methodLink RX11 369 yX7_fits ∈ TBg := tm_5 3 rfl rfl
set_option maxHeartbeats 4000000 in
set_option maxRecDepth 100000 in
theorem ml_RX11_372 : Cond.methodLink RX11 372 yJ9_max_7cf53 ∈ TBg := tm_5 16 rfl rfl
set_option maxHeartbeats 4000000 in
set_option maxRecDepth 100000 in
theorem ml_RX11_388 : Cond.methodLink RX11 388 yX0_worth ∈ TBg := tm_5 32 rfl rfl
set_option maxHeartbeats 4000000 in
set_option maxRecDepth 100000 in
theorem ml_RX11_392 : Cond.methodLink RX11 392 yX3_keep ∈ TBg := tm_5 33 rfl rfl
set_option maxHeartbeats 4000000 in
set_option maxRecDepth 100000 in
theorem ml_RX11_398 : Cond.methodLink RX11 398 yX11_gatherFacts ∈ TBg := tm_5 109 rfl rfl
set_option maxHeartbeats 4000000 in
set_option maxRecDepth 100000 in
theorem ml_RX11_401 : Cond.methodLink RX11 401 yJ9_max_f86c9 ∈ TBg := tm_5 113 rfl rfl
set_option maxHeartbeats 4000000 in
set_option maxRecDepth 100000 in
theorem ml_RX11_404 : Cond.methodLink RX11 404 yJ9_min_f86c9 ∈ TBg := tm_5 114 rfl rfl
set_option maxHeartbeats 4000000 in
set_option maxRecDepth 100000 in
theorem ml_RX0_22 : Cond.methodLink RX0 22 yX0_ofOne ∈ TBg := tm_4 92 rfl rfl
set_option maxHeartbeats 4000000 in
set_option maxRecDepth 100000 in
theorem ml_RX0_26 : Cond.methodLink RX0 26 yX0_ofTwo ∈ TBg := tm_4 95 rfl rfl
set_option maxHeartbeats 4000000 in
set_option maxRecDepth 100000 in
theorem ml_RX0_30 : Cond.methodLink RX0 30 yX0_held ∈ TBg := tm_4 107 rfl rfl
set_option maxHeartbeats 4000000 in
set_option maxRecDepth 100000 in
theorem ml_RX0_34 : Cond.methodLink RX0 34 yJ9_floorDiv_f86c9 ∈ TBg := tm_4 98 rfl rfl
set_option maxHeartbeats 4000000 in
set_option maxRecDepth 100000 in
theorem ml_RX0_40 : Cond.methodLink RX0 40 yJ9_min_f86c9 ∈ TBg := tm_4 101 rfl rfl
set_option maxHeartbeats 4000000 in
set_option maxRecDepth 100000 in
theorem ml_RX0_43 : Cond.methodLink RX0 43 yJ9_max_f86c9 ∈ TBg := tm_4 104 rfl rfl
set_option maxHeartbeats 4000000 in
set_option maxRecDepth 100000 in
theorem ml_RX1_34 : Cond.methodLink RX1 34 arraycopyName ∈ TBg := tm_3 215 rfl rfl
set_option maxHeartbeats 4000000 in
set_option maxRecDepth 100000 in
theorem ml_RX1_41 : Cond.methodLink RX1 41 yJ7_fill_53178 ∈ TBg := tm_3 218 rfl rfl
set_option maxHeartbeats 4000000 in
set_option maxRecDepth 100000 in
theorem ml_RX2_21 : Cond.methodLink RX2 21 yJ7_fill_53178 ∈ TBg := tm_4 146 rfl rfl
set_option maxHeartbeats 4000000 in
set_option maxRecDepth 100000 in
theorem ml_RX2_44 : Cond.methodLink RX2 44 yX2_reach ∈ TBg := tm_4 147 rfl rfl
set_option maxHeartbeats 4000000 in
set_option maxRecDepth 100000 in
theorem ml_RX2_48 : Cond.methodLink RX2 48 yX2_goOn ∈ TBg := tm_4 151 rfl rfl
set_option maxHeartbeats 4000000 in
set_option maxRecDepth 100000 in
theorem ml_RX2_52 : Cond.methodLink RX2 52 yX5_beside ∈ TBg := tm_4 155 rfl rfl
set_option maxHeartbeats 4000000 in
set_option maxRecDepth 100000 in
theorem ml_RX2_56 : Cond.methodLink RX2 56 yX1_flows ∈ TBg := tm_4 156 rfl rfl
set_option maxHeartbeats 4000000 in
set_option maxRecDepth 100000 in
theorem ml_RX3_35 : Cond.methodLink RX3 35 yX1_copy ∈ TBg := tm_5 27 rfl rfl
set_option maxHeartbeats 4000000 in
set_option maxRecDepth 100000 in
theorem ml_RX4_24 : Cond.methodLink RX4 24 yX5_places ∈ TBg := tm_5 123 rfl rfl
set_option maxHeartbeats 4000000 in
set_option maxRecDepth 100000 in
theorem ml_RX4_45 : Cond.methodLink RX4 45 yX4_checkOf ∈ TBg := tm_5 124 rfl rfl
set_option maxHeartbeats 4000000 in
set_option maxRecDepth 100000 in
theorem ml_RX4_55 : Cond.methodLink RX4 55 yX4_yearOf ∈ TBg := tm_5 138 rfl rfl
set_option maxHeartbeats 4000000 in
set_option maxRecDepth 100000 in
theorem ml_RX5_68 : Cond.methodLink RX5 68 yJ7_fill_53178 ∈ TBg := tm_2 235 rfl rfl
set_option maxHeartbeats 4000000 in
set_option maxRecDepth 100000 in
theorem ml_RX5_74 : Cond.methodLink RX5 74 yX0_clear ∈ TBg := tm_2 236 rfl rfl
set_option maxHeartbeats 4000000 in
set_option maxRecDepth 100000 in
theorem ml_RX5_77 : Cond.methodLink RX5 77 yX5_columnOf ∈ TBg := tm_4 77 rfl rfl
set_option maxHeartbeats 4000000 in
set_option maxRecDepth 100000 in
theorem ml_RX5_84 : Cond.methodLink RX5 84 yX5_rowOf ∈ TBg := tm_4 80 rfl rfl
set_option maxHeartbeats 4000000 in
set_option maxRecDepth 100000 in
theorem ml_RX5_90 : Cond.methodLink RX5 90 yX5_placeOf ∈ TBg := tm_4 83 rfl rfl
set_option maxHeartbeats 4000000 in
set_option maxRecDepth 100000 in
theorem ml_RX6_23 : Cond.methodLink RX6 23 yX5_clear ∈ TBg := tm_2 231 rfl rfl
set_option maxHeartbeats 4000000 in
set_option maxRecDepth 100000 in
theorem ml_RX6_28 : Cond.methodLink RX6 28 yX9_rewind ∈ TBg := tm_3 0 rfl rfl
set_option maxHeartbeats 4000000 in
set_option maxRecDepth 100000 in
theorem ml_RX6_33 : Cond.methodLink RX6 33 yX6_readSides ∈ TBg := tm_3 14 rfl rfl
set_option maxHeartbeats 4000000 in
set_option maxRecDepth 100000 in
theorem ml_RX6_36 : Cond.methodLink RX6 36 yX6_hasMore ∈ TBg := tm_3 96 rfl rfl
set_option maxHeartbeats 4000000 in
set_option maxRecDepth 100000 in
theorem ml_RX6_40 : Cond.methodLink RX6 40 yX6_readStatement ∈ TBg := tm_3 100 rfl rfl
set_option maxHeartbeats 4000000 in
set_option maxRecDepth 100000 in
theorem ml_RX6_47 : Cond.methodLink RX6 47 yX9_fail ∈ TBg := tm_3 114 rfl rfl
set_option maxHeartbeats 4000000 in
set_option maxRecDepth 100000 in
theorem ml_RX6_51 : Cond.methodLink RX6 51 yX6_addMissingSums ∈ TBg := tm_3 206 rfl rfl
set_option maxHeartbeats 4000000 in
set_option maxRecDepth 100000 in
theorem ml_RX6_58 : Cond.methodLink RX6 58 yX9_takeWord ∈ TBg := tm_3 19 rfl rfl
set_option maxHeartbeats 4000000 in
set_option maxRecDepth 100000 in
theorem ml_RX6_62 : Cond.methodLink RX6 62 yX9_takeNumber ∈ TBg := tm_3 83 rfl rfl
set_option maxHeartbeats 4000000 in
set_option maxRecDepth 100000 in
theorem ml_RX6_74 : Cond.methodLink RX6 74 yX9_takeSign ∈ TBg := tm_3 88 rfl rfl
set_option maxHeartbeats 4000000 in
set_option maxRecDepth 100000 in
theorem ml_RX6_80 : Cond.methodLink RX6 80 yX9_wordIn ∈ TBg := tm_3 105 rfl rfl
set_option maxHeartbeats 4000000 in
set_option maxRecDepth 100000 in
theorem ml_RX6_84 : Cond.methodLink RX6 84 yX6_isFull ∈ TBg := tm_3 106 rfl rfl
set_option maxHeartbeats 4000000 in
set_option maxRecDepth 100000 in
theorem ml_RX6_88 : Cond.methodLink RX6 88 yX9_advance ∈ TBg := tm_3 115 rfl rfl
set_option maxHeartbeats 4000000 in
set_option maxRecDepth 100000 in
theorem ml_RX6_91 : Cond.methodLink RX6 91 yX6_readHigh ∈ TBg := tm_3 116 rfl rfl
set_option maxHeartbeats 4000000 in
set_option maxRecDepth 100000 in
theorem ml_RX6_94 : Cond.methodLink RX6 94 yX6_readStone ∈ TBg := tm_3 124 rfl rfl
set_option maxHeartbeats 4000000 in
set_option maxRecDepth 100000 in
theorem ml_RX6_100 : Cond.methodLink RX6 100 yX6_readFarm ∈ TBg := tm_3 128 rfl rfl
set_option maxHeartbeats 4000000 in
set_option maxRecDepth 100000 in
theorem ml_RX6_103 : Cond.methodLink RX6 103 yX6_readCaller ∈ TBg := tm_3 148 rfl rfl
set_option maxHeartbeats 4000000 in
set_option maxRecDepth 100000 in
theorem ml_RX6_110 : Cond.methodLink RX6 110 yX8_readSumOf ∈ TBg := tm_3 154 rfl rfl
set_option maxHeartbeats 4000000 in
set_option maxRecDepth 100000 in
theorem ml_RX6_125 : Cond.methodLink RX6 125 yX0_isEmpty ∈ TBg := tm_3 110 rfl rfl
set_option maxHeartbeats 4000000 in
set_option maxRecDepth 100000 in
theorem ml_RX6_130 : Cond.methodLink RX6 130 yX6_readPlace ∈ TBg := tm_3 120 rfl rfl
set_option maxHeartbeats 4000000 in
set_option maxRecDepth 100000 in
theorem ml_RX6_147 : Cond.methodLink RX6 147 yX6_readNewName ∈ TBg := tm_3 132 rfl rfl
set_option maxHeartbeats 4000000 in
set_option maxRecDepth 100000 in
theorem ml_RX6_178 : Cond.methodLink RX6 178 yX9_takeName ∈ TBg := tm_3 136 rfl rfl
set_option maxHeartbeats 4000000 in
set_option maxRecDepth 100000 in
theorem ml_RX6_181 : Cond.methodLink RX6 181 yX5_isNamed ∈ TBg := tm_3 141 rfl rfl
set_option maxHeartbeats 4000000 in
set_option maxRecDepth 100000 in
theorem ml_RX6_184 : Cond.methodLink RX6 184 yX0_add ∈ TBg := tm_3 210 rfl rfl
set_option maxHeartbeats 4000000 in
set_option maxRecDepth 100000 in
theorem ml_RX7_18 : Cond.methodLink RX7 18 yX7_isSight ∈ TBg := tm_4 231 rfl rfl
set_option maxHeartbeats 4000000 in
set_option maxRecDepth 100000 in
theorem ml_RX7_34 : Cond.methodLink RX7 34 yX5_placeOf ∈ TBg := tm_4 234 rfl rfl
set_option maxHeartbeats 4000000 in
set_option maxRecDepth 100000 in
theorem ml_RX7_40 : Cond.methodLink RX7 40 yX10_placeBy ∈ TBg := tm_5 7 rfl rfl
set_option maxHeartbeats 4000000 in
set_option maxRecDepth 100000 in
theorem ml_RX8_19 : Cond.methodLink RX8 19 yX8_begin ∈ TBg := tm_3 158 rfl rfl
set_option maxHeartbeats 4000000 in
set_option maxRecDepth 100000 in
theorem ml_RX8_23 : Cond.methodLink RX8 23 yX8_readSum ∈ TBg := tm_3 163 rfl rfl
set_option maxHeartbeats 4000000 in
set_option maxRecDepth 100000 in
theorem ml_RX8_27 : Cond.methodLink RX8 27 yX9_rewind ∈ TBg := tm_5 82 rfl rfl
set_option maxHeartbeats 4000000 in
set_option maxRecDepth 100000 in
theorem ml_RX8_34 : Cond.methodLink RX8 34 yX9_wordIn ∈ TBg := tm_3 189 rfl rfl
set_option maxHeartbeats 4000000 in
set_option maxRecDepth 100000 in
theorem ml_RX8_42 : Cond.methodLink RX8 42 yX9_fail ∈ TBg := tm_3 185 rfl rfl
set_option maxHeartbeats 4000000 in
set_option maxRecDepth 100000 in
theorem ml_RX8_46 : Cond.methodLink RX8 46 yX9_advance ∈ TBg := tm_3 186 rfl rfl
set_option maxHeartbeats 4000000 in
set_option maxRecDepth 100000 in
theorem ml_RX8_49 : Cond.methodLink RX8 49 yX8_readTest ∈ TBg := tm_5 84 rfl rfl
set_option maxHeartbeats 4000000 in
set_option maxRecDepth 100000 in
theorem ml_RX8_58 : Cond.methodLink RX8 58 yX0_clear ∈ TBg := tm_3 162 rfl rfl
set_option maxHeartbeats 4000000 in
set_option maxRecDepth 100000 in
theorem ml_RX8_63 : Cond.methodLink RX8 63 yX8_readBoth ∈ TBg := tm_5 88 rfl rfl
set_option maxHeartbeats 4000000 in
set_option maxRecDepth 100000 in
theorem ml_RX8_68 : Cond.methodLink RX8 68 yX0_add ∈ TBg := tm_3 176 rfl rfl
set_option maxHeartbeats 4000000 in
set_option maxRecDepth 100000 in
theorem ml_RX8_71 : Cond.methodLink RX8 71 yX8_readFact ∈ TBg := tm_5 92 rfl rfl
set_option maxHeartbeats 4000000 in
set_option maxRecDepth 100000 in
theorem ml_RX8_78 : Cond.methodLink RX8 78 yX8_opens ∈ TBg := tm_3 181 rfl rfl
set_option maxHeartbeats 4000000 in
set_option maxRecDepth 100000 in
theorem ml_RX8_82 : Cond.methodLink RX8 82 yX9_isSign ∈ TBg := tm_3 180 rfl rfl
set_option maxHeartbeats 4000000 in
set_option maxRecDepth 100000 in
theorem ml_RX8_86 : Cond.methodLink RX8 86 yX9_takeSign ∈ TBg := tm_3 187 rfl rfl
set_option maxHeartbeats 4000000 in
set_option maxRecDepth 100000 in
theorem ml_RX8_92 : Cond.methodLink RX8 92 yX8_readComparison ∈ TBg := tm_5 98 rfl rfl
set_option maxHeartbeats 4000000 in
set_option maxRecDepth 100000 in
theorem ml_RX8_95 : Cond.methodLink RX8 95 yX8_readProduct ∈ TBg := tm_3 167 rfl rfl
set_option maxHeartbeats 4000000 in
set_option maxRecDepth 100000 in
theorem ml_RX8_98 : Cond.methodLink RX8 98 yX8_readPart ∈ TBg := tm_3 171 rfl rfl
set_option maxHeartbeats 4000000 in
set_option maxRecDepth 100000 in
theorem ml_RX8_101 : Cond.methodLink RX8 101 yX9_takeNumber ∈ TBg := tm_3 175 rfl rfl
set_option maxHeartbeats 4000000 in
set_option maxRecDepth 100000 in
theorem ml_RX8_107 : Cond.methodLink RX8 107 yX8_readPair ∈ TBg := tm_3 190 rfl rfl
set_option maxHeartbeats 4000000 in
set_option maxRecDepth 100000 in
theorem ml_RX8_112 : Cond.methodLink RX8 112 yX8_readOfCaller ∈ TBg := tm_3 196 rfl rfl
set_option maxHeartbeats 4000000 in
set_option maxRecDepth 100000 in
theorem ml_RX8_115 : Cond.methodLink RX8 115 yX8_readNamedFact ∈ TBg := tm_3 201 rfl rfl
set_option maxHeartbeats 4000000 in
set_option maxRecDepth 100000 in
theorem ml_RX9_31 : Cond.methodLink RX9 31 yX9_advance ∈ TBg := tm_3 4 rfl rfl
set_option maxHeartbeats 4000000 in
set_option maxRecDepth 100000 in
theorem ml_RX9_37 : Cond.methodLink RX9 37 yX9_kindOf ∈ TBg := tm_3 8 rfl rfl
set_option maxHeartbeats 4000000 in
set_option maxRecDepth 100000 in
theorem ml_RX9_41 : Cond.methodLink RX9 41 yJ9_min_7cf53 ∈ TBg := tm_3 11 rfl rfl
set_option maxHeartbeats 4000000 in
set_option maxRecDepth 100000 in
theorem ml_RX9_47 : Cond.methodLink RX9 47 yX9_isSign ∈ TBg := tm_3 92 rfl rfl
set_option maxHeartbeats 4000000 in
set_option maxRecDepth 100000 in
theorem ml_RX9_51 : Cond.methodLink RX9 51 yX9_fail ∈ TBg := tm_3 79 rfl rfl
set_option maxHeartbeats 4000000 in
set_option maxRecDepth 100000 in
theorem ml_RX9_55 : Cond.methodLink RX9 55 yJ0_length_8abf5 ∈ TBg := tm_3 27 rfl rfl
set_option maxHeartbeats 4000000 in
set_option maxRecDepth 100000 in
theorem ml_RX9_60 : Cond.methodLink RX9 60 yJ0_charAt_5068e ∈ TBg := tm_3 37 rfl rfl
set_option maxHeartbeats 4000000 in
set_option maxRecDepth 100000 in
theorem ml_RX9_64 : Cond.methodLink RX9 64 yX9_isSpelled ∈ TBg := tm_3 75 rfl rfl
set_option maxHeartbeats 4000000 in
set_option maxRecDepth 100000 in
theorem ml_RX9_68 : Cond.methodLink RX9 68 yX9_wordIn ∈ TBg := tm_3 23 rfl rfl
set_option maxHeartbeats 4000000 in
set_option maxRecDepth 100000 in
theorem ml_RX10_25 : Cond.methodLink RX10 25 yJ7_fill_53178 ∈ TBg := tm_2 103 rfl rfl
set_option maxHeartbeats 4000000 in
set_option maxRecDepth 100000 in
theorem ml_RX10_60 : Cond.methodLink RX10 60 yX10_enter ∈ TBg := tm_4 64 rfl rfl
set_option maxHeartbeats 4000000 in
set_option maxRecDepth 100000 in
theorem ml_RX10_64 : Cond.methodLink RX10 64 yX10_nextPlace ∈ TBg := tm_4 69 rfl rfl
set_option maxHeartbeats 4000000 in
set_option maxRecDepth 100000 in
theorem ml_RX10_68 : Cond.methodLink RX10 68 yX5_rowOf ∈ TBg := tm_4 68 rfl rfl
set_option maxHeartbeats 4000000 in
set_option maxRecDepth 100000 in
theorem ml_RX10_81 : Cond.methodLink RX10 81 yX5_beside ∈ TBg := tm_4 73 rfl rfl
set_option maxHeartbeats 4000000 in
set_option maxRecDepth 100000 in
theorem ml_RX10_85 : Cond.methodLink RX10 85 yX1_flows ∈ TBg := tm_4 84 rfl rfl
set_option maxHeartbeats 4000000 in
set_option maxRecDepth 100000 in
theorem ml_RX10_102 : Cond.methodLink RX10 102 yX0_worth ∈ TBg := tm_4 88 rfl rfl
set_option maxHeartbeats 4000000 in
set_option maxRecDepth 100000 in
theorem ml_RX10_108 : Cond.methodLink RX10 108 yJ6_bitCount_0f7a4 ∈ TBg := tm_4 132 rfl rfl
set_option maxHeartbeats 4000000 in
set_option maxRecDepth 100000 in
theorem ml_RX10_113 : Cond.methodLink RX10 113 yJ9_min_7cf53 ∈ TBg := tm_4 206 rfl rfl
set_option maxHeartbeats 4000000 in
set_option maxRecDepth 100000 in
theorem ml_RX12_297 : Cond.methodLink RX12 297 yX12_look ∈ TBg := tm_7 66 rfl rfl
set_option maxHeartbeats 4000000 in
set_option maxRecDepth 100000 in
theorem ml_RX12_301 : Cond.methodLink RX12 301 yX12_isLetter ∈ TBg := tm_7 70 rfl rfl
set_option maxHeartbeats 4000000 in
set_option maxRecDepth 100000 in
theorem ml_RX12_308 : Cond.methodLink RX12 308 yX12_isHere ∈ TBg := tm_7 62 rfl rfl
set_option maxHeartbeats 4000000 in
set_option maxRecDepth 100000 in
theorem ml_RX12_312 : Cond.methodLink RX12 312 yX12_takes ∈ TBg := tm_7 58 rfl rfl
set_option maxHeartbeats 4000000 in
set_option maxRecDepth 100000 in
theorem ml_RX12_315 : Cond.methodLink RX12 315 yX12_fail ∈ TBg := tm_7 73 rfl rfl
set_option maxHeartbeats 4000000 in
set_option maxRecDepth 100000 in
theorem ml_RX12_319 : Cond.methodLink RX12 319 yX12_takesSign ∈ TBg := tm_7 91 rfl rfl
set_option maxHeartbeats 4000000 in
set_option maxRecDepth 100000 in
theorem ml_RX12_322 : Cond.methodLink RX12 322 yX12_isDigit ∈ TBg := tm_7 81 rfl rfl
set_option maxHeartbeats 4000000 in
set_option maxRecDepth 100000 in
theorem ml_RX12_328 : Cond.methodLink RX12 328 yX12_isIn ∈ TBg := tm_7 84 rfl rfl
set_option maxHeartbeats 4000000 in
set_option maxRecDepth 100000 in
theorem ml_RX12_332 : Cond.methodLink RX12 332 yX12_isOwnHere ∈ TBg := tm_7 127 rfl rfl
set_option maxHeartbeats 4000000 in
set_option maxRecDepth 100000 in
theorem ml_RX12_346 : Cond.methodLink RX12 346 yX12_name ∈ TBg := tm_7 123 rfl rfl
set_option maxHeartbeats 4000000 in
set_option maxRecDepth 100000 in
theorem ml_RX12_350 : Cond.methodLink RX12 350 yX12_asks ∈ TBg := tm_7 54 rfl rfl
set_option maxHeartbeats 4000000 in
set_option maxRecDepth 100000 in
theorem ml_RX12_354 : Cond.methodLink RX12 354 yX12_number ∈ TBg := tm_7 77 rfl rfl
set_option maxHeartbeats 4000000 in
set_option maxRecDepth 100000 in
theorem ml_RX12_358 : Cond.methodLink RX12 358 yX12_asksSign ∈ TBg := tm_7 87 rfl rfl
set_option maxHeartbeats 4000000 in
set_option maxRecDepth 100000 in
theorem ml_RX12_362 : Cond.methodLink RX12 362 yX12_cellTold ∈ TBg := tm_7 103 rfl rfl
set_option maxHeartbeats 4000000 in
set_option maxRecDepth 100000 in
theorem ml_RX12_365 : Cond.methodLink RX12 365 yX12_isFull ∈ TBg := tm_7 115 rfl rfl
set_option maxHeartbeats 4000000 in
set_option maxRecDepth 100000 in
theorem ml_RX12_369 : Cond.methodLink RX12 369 yX12_newName ∈ TBg := tm_7 119 rfl rfl
set_option maxHeartbeats 4000000 in
set_option maxRecDepth 100000 in
theorem ml_RX12_384 : Cond.methodLink RX12 384 yX12_qSums ∈ TBg := tm_7 141 rfl rfl
set_option maxHeartbeats 4000000 in
set_option maxRecDepth 100000 in
theorem ml_RX12_393 : Cond.methodLink RX12 393 yX12_highTold ∈ TBg := tm_7 99 rfl rfl
set_option maxHeartbeats 4000000 in
set_option maxRecDepth 100000 in
theorem ml_RX12_396 : Cond.methodLink RX12 396 yX12_stoneTold ∈ TBg := tm_7 107 rfl rfl
set_option maxHeartbeats 4000000 in
set_option maxRecDepth 100000 in
theorem ml_RX12_402 : Cond.methodLink RX12 402 yX12_farmTold ∈ TBg := tm_7 111 rfl rfl
set_option maxHeartbeats 4000000 in
set_option maxRecDepth 100000 in
theorem ml_RX12_405 : Cond.methodLink RX12 405 yX12_callerTold ∈ TBg := tm_7 133 rfl rfl
set_option maxHeartbeats 4000000 in
set_option maxRecDepth 100000 in
theorem ml_RX12_408 : Cond.methodLink RX12 408 yX12_codesTold ∈ TBg := tm_7 137 rfl rfl
set_option maxHeartbeats 4000000 in
set_option maxRecDepth 100000 in
theorem ml_RX12_411 : Cond.methodLink RX12 411 yX12_plainTold ∈ TBg := tm_7 50 rfl rfl
set_option maxHeartbeats 4000000 in
set_option maxRecDepth 100000 in
theorem ml_RX12_414 : Cond.methodLink RX12 414 yX12_statementTold ∈ TBg := tm_7 95 rfl rfl
set_option maxHeartbeats 4000000 in
set_option maxRecDepth 100000 in
theorem ml_RX12_420 : Cond.methodLink RX12 420 yX12_stands ∈ TBg := tm_7 200 rfl rfl
set_option maxHeartbeats 4000000 in
set_option maxRecDepth 100000 in
theorem ml_RX12_436 : Cond.methodLink RX12 436 yX12_farmMany ∈ TBg := tm_7 220 rfl rfl
set_option maxHeartbeats 4000000 in
set_option maxRecDepth 100000 in
theorem ml_RX12_439 : Cond.methodLink RX12 439 yX12_callerMany ∈ TBg := tm_8 30 rfl rfl
set_option maxHeartbeats 4000000 in
set_option maxRecDepth 100000 in
theorem ml_RX12_442 : Cond.methodLink RX12 442 yX12_cellOf ∈ TBg := tm_8 6 rfl rfl
set_option maxHeartbeats 4000000 in
set_option maxRecDepth 100000 in
theorem ml_RX12_446 : Cond.methodLink RX12 446 yX12_farmAt ∈ TBg := tm_8 2 rfl rfl
set_option maxHeartbeats 4000000 in
set_option maxRecDepth 100000 in
theorem ml_RX12_449 : Cond.methodLink RX12 449 yX12_pieOf ∈ TBg := tm_7 224 rfl rfl
set_option maxHeartbeats 4000000 in
set_option maxRecDepth 100000 in
theorem ml_RX12_452 : Cond.methodLink RX12 452 yX12_cellAt ∈ TBg := tm_7 237 rfl rfl
set_option maxHeartbeats 4000000 in
set_option maxRecDepth 100000 in
theorem ml_RX12_455 : Cond.methodLink RX12 455 yX12_isStone ∈ TBg := tm_8 50 rfl rfl
set_option maxHeartbeats 4000000 in
set_option maxRecDepth 100000 in
theorem ml_RX12_458 : Cond.methodLink RX12 458 yX12_heightOf ∈ TBg := tm_8 78 rfl rfl
set_option maxHeartbeats 4000000 in
set_option maxRecDepth 100000 in
theorem ml_RX12_464 : Cond.methodLink RX12 464 yX12_qPuts ∈ TBg := tm_8 90 rfl rfl
set_option maxHeartbeats 4000000 in
set_option maxRecDepth 100000 in
theorem ml_RX12_468 : Cond.methodLink RX12 468 yX12_qPartOf ∈ TBg := tm_8 94 rfl rfl
set_option maxHeartbeats 4000000 in
set_option maxRecDepth 100000 in
theorem ml_RX12_472 : Cond.methodLink RX12 472 yX12_qJoins ∈ TBg := tm_8 106 rfl rfl
set_option maxHeartbeats 4000000 in
set_option maxRecDepth 100000 in
theorem ml_RX12_481 : Cond.methodLink RX12 481 yX12_codesTell ∈ TBg := tm_8 86 rfl rfl
set_option maxHeartbeats 4000000 in
set_option maxRecDepth 100000 in
theorem ml_RX12_484 : Cond.methodLink RX12 484 yX12_cellMany ∈ TBg := tm_8 58 rfl rfl
set_option maxHeartbeats 4000000 in
set_option maxRecDepth 100000 in
theorem ml_RX12_487 : Cond.methodLink RX12 487 yX12_cellOfNumber ∈ TBg := tm_8 62 rfl rfl
set_option maxHeartbeats 4000000 in
set_option maxRecDepth 100000 in
theorem ml_RX12_490 : Cond.methodLink RX12 490 yX12_areBeside ∈ TBg := tm_8 66 rfl rfl
set_option maxHeartbeats 4000000 in
set_option maxRecDepth 100000 in
theorem ml_RX12_494 : Cond.methodLink RX12 494 yX12_canFlow ∈ TBg := tm_8 74 rfl rfl
set_option maxHeartbeats 4000000 in
set_option maxRecDepth 100000 in
theorem ml_RX12_500 : Cond.methodLink RX12 500 yX12_goesTo ∈ TBg := tm_8 82 rfl rfl
set_option maxHeartbeats 4000000 in
set_option maxRecDepth 100000 in
theorem ml_RX12_503 : Cond.methodLink RX12 503 yX12_beside ∈ TBg := tm_8 70 rfl rfl
set_option maxHeartbeats 4000000 in
set_option maxRecDepth 100000 in
theorem ml_RX12_509 : Cond.methodLink RX12 509 yX12_hasWay ∈ TBg := tm_8 46 rfl rfl
set_option maxHeartbeats 4000000 in
set_option maxRecDepth 100000 in
theorem ml_RX12_512 : Cond.methodLink RX12 512 yX12_nextOf ∈ TBg := tm_8 54 rfl rfl
set_option maxHeartbeats 4000000 in
set_option maxRecDepth 100000 in
theorem ml_RX12_515 : Cond.methodLink RX12 515 yX12_dayOf ∈ TBg := tm_8 18 rfl rfl
set_option maxHeartbeats 4000000 in
set_option maxRecDepth 100000 in
theorem ml_RX12_518 : Cond.methodLink RX12 518 yX12_isWatered ∈ TBg := tm_8 126 rfl rfl
set_option maxHeartbeats 4000000 in
set_option maxRecDepth 100000 in
theorem ml_RX12_521 : Cond.methodLink RX12 521 yX12_laysWay ∈ TBg := tm_8 42 rfl rfl
set_option maxHeartbeats 4000000 in
set_option maxRecDepth 100000 in
theorem ml_RX12_529 : Cond.methodLink RX12 529 yX12_beenOf ∈ TBg := tm_8 102 rfl rfl
set_option maxHeartbeats 4000000 in
set_option maxRecDepth 100000 in
theorem ml_RX12_532 : Cond.methodLink RX12 532 yX12_wateredSet ∈ TBg := tm_8 122 rfl rfl
set_option maxHeartbeats 4000000 in
set_option maxRecDepth 100000 in
theorem ml_RX12_535 : Cond.methodLink RX12 535 yX12_bits ∈ TBg := tm_8 134 rfl rfl
set_option maxHeartbeats 4000000 in
set_option maxRecDepth 100000 in
theorem ml_RX12_538 : Cond.methodLink RX12 538 yX12_bakedBy ∈ TBg := tm_8 237 rfl rfl
set_option maxHeartbeats 4000000 in
set_option maxRecDepth 100000 in
theorem ml_RX12_541 : Cond.methodLink RX12 541 yX12_isKept ∈ TBg := tm_9 2 rfl rfl
set_option maxHeartbeats 4000000 in
set_option maxRecDepth 100000 in
theorem ml_RX12_544 : Cond.methodLink RX12 544 yX12_stoneMany ∈ TBg := tm_7 212 rfl rfl
set_option maxHeartbeats 4000000 in
set_option maxRecDepth 100000 in
theorem ml_RX12_547 : Cond.methodLink RX12 547 yX12_pieAll ∈ TBg := tm_7 216 rfl rfl
set_option maxHeartbeats 4000000 in
set_option maxRecDepth 100000 in
theorem ml_RX12_554 : Cond.methodLink RX12 554 yX12_isFarm ∈ TBg := tm_8 14 rfl rfl
set_option maxHeartbeats 4000000 in
set_option maxRecDepth 100000 in
theorem ml_RX12_557 : Cond.methodLink RX12 557 yX12_isCaller ∈ TBg := tm_8 26 rfl rfl
set_option maxHeartbeats 4000000 in
set_option maxRecDepth 100000 in
theorem ml_RX12_561 : Cond.methodLink RX12 561 yX12_setBehind ∈ TBg := tm_8 145 rfl rfl
set_option maxHeartbeats 4000000 in
set_option maxRecDepth 100000 in
theorem ml_RX12_565 : Cond.methodLink RX12 565 yX12_isBegun ∈ TBg := tm_8 141 rfl rfl
set_option maxHeartbeats 4000000 in
set_option maxRecDepth 100000 in
theorem ml_RX12_568 : Cond.methodLink RX12 568 yX12_isThere ∈ TBg := tm_8 149 rfl rfl
set_option maxHeartbeats 4000000 in
set_option maxRecDepth 100000 in
theorem ml_RX12_571 : Cond.methodLink RX12 571 yX12_stepGoes ∈ TBg := tm_8 153 rfl rfl
set_option maxHeartbeats 4000000 in
set_option maxRecDepth 100000 in
theorem ml_RX12_574 : Cond.methodLink RX12 574 yX12_laysWells ∈ TBg := tm_8 169 rfl rfl
set_option maxHeartbeats 4000000 in
set_option maxRecDepth 100000 in
theorem ml_RX12_577 : Cond.methodLink RX12 577 yX12_isRest ∈ TBg := tm_8 173 rfl rfl
set_option maxHeartbeats 4000000 in
set_option maxRecDepth 100000 in
theorem ml_RX12_580 : Cond.methodLink RX12 580 yX12_refuses ∈ TBg := tm_8 189 rfl rfl
set_option maxHeartbeats 4000000 in
set_option maxRecDepth 100000 in
theorem ml_RX12_583 : Cond.methodLink RX12 583 yX12_laysCells ∈ TBg := tm_8 201 rfl rfl
set_option maxHeartbeats 4000000 in
set_option maxRecDepth 100000 in
theorem ml_RX12_586 : Cond.methodLink RX12 586 yX12_isAsSeen ∈ TBg := tm_8 205 rfl rfl
set_option maxHeartbeats 4000000 in
set_option maxRecDepth 100000 in
theorem ml_RX12_589 : Cond.methodLink RX12 589 yX12_whoCan ∈ TBg := tm_8 197 rfl rfl
set_option maxHeartbeats 4000000 in
set_option maxRecDepth 100000 in
theorem ml_RX12_592 : Cond.methodLink RX12 592 yX12_mostAlike ∈ TBg := tm_8 213 rfl rfl
set_option maxHeartbeats 4000000 in
set_option maxRecDepth 100000 in
theorem ml_RX12_598 : Cond.methodLink RX12 598 yX12_isAhead ∈ TBg := tm_8 225 rfl rfl
set_option maxHeartbeats 4000000 in
set_option maxRecDepth 100000 in
theorem ml_RX12_601 : Cond.methodLink RX12 601 yX12_keeps ∈ TBg := tm_8 229 rfl rfl
set_option maxHeartbeats 4000000 in
set_option maxRecDepth 100000 in
theorem ml_RX12_604 : Cond.methodLink RX12 604 yX12_yearGoes ∈ TBg := tm_8 233 rfl rfl
set_option maxHeartbeats 4000000 in
set_option maxRecDepth 100000 in
theorem ml_RX12_607 : Cond.methodLink RX12 607 yX12_isRefused ∈ TBg := tm_9 10 rfl rfl
set_option maxHeartbeats 4000000 in
set_option maxRecDepth 100000 in
theorem ml_RX12_618 : Cond.methodLink RX12 618 yX12_drawOf ∈ TBg := tm_9 30 rfl rfl
set_option maxHeartbeats 4000000 in
set_option maxRecDepth 100000 in
theorem ml_RX12_621 : Cond.methodLink RX12 621 yX12_qCode ∈ TBg := tm_7 169 rfl rfl
set_option maxHeartbeats 4000000 in
set_option maxRecDepth 100000 in
theorem ml_RX12_624 : Cond.methodLink RX12 624 yX12_qIsBracket ∈ TBg := tm_7 189 rfl rfl
set_option maxHeartbeats 4000000 in
set_option maxRecDepth 100000 in
theorem ml_RX12_627 : Cond.methodLink RX12 627 yX12_qDrops ∈ TBg := tm_7 177 rfl rfl
set_option maxHeartbeats 4000000 in
set_option maxRecDepth 100000 in
theorem ml_RX12_630 : Cond.methodLink RX12 630 yX12_qWordHere ∈ TBg := tm_7 153 rfl rfl
set_option maxHeartbeats 4000000 in
set_option maxRecDepth 100000 in
theorem ml_RX12_633 : Cond.methodLink RX12 633 yX12_isAllowed ∈ TBg := tm_7 157 rfl rfl
set_option maxHeartbeats 4000000 in
set_option maxRecDepth 100000 in
theorem ml_RX12_636 : Cond.methodLink RX12 636 yX12_qWordOf ∈ TBg := tm_7 149 rfl rfl
set_option maxHeartbeats 4000000 in
set_option maxRecDepth 100000 in
theorem ml_RX12_639 : Cond.methodLink RX12 639 yX12_qOpens ∈ TBg := tm_7 161 rfl rfl
set_option maxHeartbeats 4000000 in
set_option maxRecDepth 100000 in
theorem ml_RX12_642 : Cond.methodLink RX12 642 yX12_qAsksWord ∈ TBg := tm_7 165 rfl rfl
set_option maxHeartbeats 4000000 in
set_option maxRecDepth 100000 in
theorem ml_RX12_645 : Cond.methodLink RX12 645 yX12_qEndsPart ∈ TBg := tm_7 173 rfl rfl
set_option maxHeartbeats 4000000 in
set_option maxRecDepth 100000 in
theorem ml_RX12_648 : Cond.methodLink RX12 648 yX12_qBracket ∈ TBg := tm_7 185 rfl rfl
set_option maxHeartbeats 4000000 in
set_option maxRecDepth 100000 in
theorem ml_RX12_651 : Cond.methodLink RX12 651 yX12_qDropsToBracket ∈ TBg := tm_7 192 rfl rfl
set_option maxHeartbeats 4000000 in
set_option maxRecDepth 100000 in
theorem ml_RX12_654 : Cond.methodLink RX12 654 yX12_qIsOn ∈ TBg := tm_7 196 rfl rfl
set_option maxHeartbeats 4000000 in
set_option maxRecDepth 100000 in
theorem ml_RX12_657 : Cond.methodLink RX12 657 yX12_qPartTold ∈ TBg := tm_7 145 rfl rfl
set_option maxHeartbeats 4000000 in
set_option maxRecDepth 100000 in
theorem ml_RX12_660 : Cond.methodLink RX12 660 yX12_qGoesOn ∈ TBg := tm_7 181 rfl rfl
set_option maxHeartbeats 4000000 in
set_option maxRecDepth 100000 in
theorem ml_RX12_663 : Cond.methodLink RX12 663 yX12_qFact ∈ TBg := tm_9 51 rfl rfl
set_option maxHeartbeats 4000000 in
set_option maxRecDepth 100000 in
theorem ml_RX12_666 : Cond.methodLink RX12 666 yX12_qDropsNots ∈ TBg := tm_9 55 rfl rfl
set_option maxHeartbeats 4000000 in
set_option maxRecDepth 100000 in
theorem ml_RX12_669 : Cond.methodLink RX12 669 yX12_qGoesOnTest ∈ TBg := tm_9 59 rfl rfl
set_option maxHeartbeats 4000000 in
set_option maxRecDepth 100000 in
theorem ml_RX12_672 : Cond.methodLink RX12 672 yX12_qHasSquare ∈ TBg := tm_9 63 rfl rfl
set_option maxHeartbeats 4000000 in
set_option maxRecDepth 100000 in
theorem ml_RX12_679 : Cond.methodLink RX12 679 yX12_qClip ∈ TBg := tm_8 110 rfl rfl
set_option maxHeartbeats 4000000 in
set_option maxRecDepth 100000 in
theorem ml_RX12_683 : Cond.methodLink RX12 683 yX12_qFloor ∈ TBg := tm_8 115 rfl rfl
set_option maxHeartbeats 4000000 in
set_option maxRecDepth 100000 in
theorem ml_RX12_687 : Cond.methodLink RX12 687 yX12_pieAt ∈ TBg := tm_8 98 rfl rfl
set_option maxHeartbeats 4000000 in
set_option maxRecDepth 100000 in
theorem ml_RX12_692 : Cond.methodLink RX12 692 yX12_qOf ∈ TBg := tm_9 76 rfl rfl
set_option maxHeartbeats 4000000 in
set_option maxRecDepth 100000 in
theorem ml_RX12_704 : Cond.methodLink RX12 704 yX12_qKind ∈ TBg := tm_9 43 rfl rfl
set_option maxHeartbeats 4000000 in
set_option maxRecDepth 100000 in
theorem ml_RX12_707 : Cond.methodLink RX12 707 yX12_qTest ∈ TBg := tm_9 47 rfl rfl
set_option maxHeartbeats 4000000 in
set_option maxRecDepth 100000 in
theorem ml_RX12_710 : Cond.methodLink RX12 710 yX12_laysSteps ∈ TBg := tm_9 68 rfl rfl
set_option maxHeartbeats 4000000 in
set_option maxRecDepth 100000 in
theorem ml_RX12_713 : Cond.methodLink RX12 713 yX12_qTold ∈ TBg := tm_9 72 rfl rfl
set_option maxHeartbeats 4000000 in
set_option maxRecDepth 100000 in
theorem ml_RX12_717 : Cond.methodLink RX12 717 yX12_qTakes ∈ TBg := tm_9 80 rfl rfl
set_option maxHeartbeats 4000000 in
set_option maxRecDepth 100000 in
theorem ml_RX12_724 : Cond.methodLink RX12 724 yX12_writes ∈ TBg := tm_9 88 rfl rfl
set_option maxHeartbeats 4000000 in
set_option maxRecDepth 100000 in
theorem ml_RX12_727 : Cond.methodLink RX12 727 yX12_checked ∈ TBg := tm_9 92 rfl rfl
set_option maxHeartbeats 4000000 in
set_option maxRecDepth 100000 in
theorem ml_RX12_731 : Cond.methodLink RX12 731 yX12_isImage ∈ TBg := tm_9 103 rfl rfl
set_option maxHeartbeats 4000000 in
set_option maxRecDepth 100000 in
theorem ml_RJ0_335 : Cond.methodLink RJ0 335 yJ0_coder_7d493 ∈ TBg := tm_3 31 rfl rfl
set_option maxHeartbeats 4000000 in
set_option maxRecDepth 100000 in
theorem ml_RJ0_492 : Cond.methodLink RJ0 492 yJ0_isLatin1_aae02 ∈ TBg := tm_3 41 rfl rfl
set_option maxHeartbeats 4000000 in
set_option maxRecDepth 100000 in
theorem ml_RJ0_495 : Cond.methodLink RJ0 495 yJ1_charAt_3b067 ∈ TBg := tm_3 45 rfl rfl
set_option maxHeartbeats 4000000 in
set_option maxRecDepth 100000 in
theorem ml_RJ0_498 : Cond.methodLink RJ0 498 yJ2_charAt_3b067 ∈ TBg := tm_3 56 rfl rfl
set_option maxHeartbeats 4000000 in
set_option maxRecDepth 100000 in
theorem ml_RJ0_1059 : Cond.methodLink RJ0 1059 yJ3_checkIndex_8e157 ∈ TBg := tm_3 53 rfl rfl
set_option maxHeartbeats 4000000 in
set_option maxRecDepth 100000 in
theorem ml_RJ1_9 : Cond.methodLink RJ1 9 yJ0_checkIndex_df160 ∈ TBg := tm_3 48 rfl rfl
set_option maxHeartbeats 4000000 in
set_option maxRecDepth 100000 in
theorem mv_J0_charAt_5068e : MV yJ0_charAt_5068e cJ0_charAt_5068e 2 (Option.some FieldType.char) 1 := ⟨tm_3 40 rfl rfl, tm_3 38 rfl rfl, tm_3 39 rfl rfl, tm_1 16 rfl rfl, ⟨by decide +kernel, by decide +kernel, by decide +kernel⟩⟩
set_option maxHeartbeats 4000000 in
set_option maxRecDepth 100000 in
theorem mv_J0_checkIndex_df160 : MS yJ0_checkIndex_df160 cJ0_checkIndex_df160 2 (none : Option FieldType) 2 := ⟨tm_3 50 rfl rfl, tm_3 49 rfl rfl, tm_1 16 rfl rfl, ⟨by decide +kernel, by decide +kernel, by decide +kernel⟩⟩
set_option maxHeartbeats 4000000 in
set_option maxRecDepth 100000 in
theorem mv_J0_coder_7d493 : MV yJ0_coder_7d493 cJ0_coder_7d493 1 (Option.some FieldType.byte) 0 := ⟨tm_3 34 rfl rfl, tm_3 32 rfl rfl, tm_3 33 rfl rfl, tm_1 16 rfl rfl, ⟨by decide +kernel, by decide +kernel, by decide +kernel⟩⟩
set_option maxHeartbeats 4000000 in
set_option maxRecDepth 100000 in
theorem mv_J0_isLatin1_aae02 : MV yJ0_isLatin1_aae02 cJ0_isLatin1_aae02 1 (Option.some FieldType.boolean) 0 := ⟨tm_3 44 rfl rfl, tm_3 42 rfl rfl, tm_3 43 rfl rfl, tm_1 16 rfl rfl, ⟨by decide +kernel, by decide +kernel, by decide +kernel⟩⟩
set_option maxHeartbeats 4000000 in
set_option maxRecDepth 100000 in
theorem mv_J0_length_8abf5 : MV yJ0_length_8abf5 cJ0_length_8abf5 1 (Option.some FieldType.int) 0 := ⟨tm_3 30 rfl rfl, tm_3 28 rfl rfl, tm_3 29 rfl rfl, tm_1 16 rfl rfl, ⟨by decide +kernel, by decide +kernel, by decide +kernel⟩⟩
set_option maxHeartbeats 4000000 in
set_option maxRecDepth 100000 in
theorem mv_J1_charAt_3b067 : MS yJ1_charAt_3b067 cJ1_charAt_3b067 2 (Option.some FieldType.char) 2 := ⟨tm_3 47 rfl rfl, tm_3 46 rfl rfl, tm_1 17 rfl rfl, ⟨by decide +kernel, by decide +kernel, by decide +kernel⟩⟩
set_option maxHeartbeats 4000000 in
set_option maxRecDepth 100000 in
theorem mv_J3_checkIndex_8e157 : MS yJ3_checkIndex_8e157 cJ3_checkIndex_8e157 3 (Option.some FieldType.int) 3 := ⟨tm_3 55 rfl rfl, tm_3 54 rfl rfl, tm_1 18 rfl rfl, ⟨by decide +kernel, by decide +kernel, by decide +kernel⟩⟩
set_option maxHeartbeats 4000000 in
set_option maxRecDepth 100000 in
theorem mv_J6_bitCount_0f7a4 : MS yJ6_bitCount_0f7a4 cJ6_bitCount_0f7a4 1 (Option.some FieldType.int) 1 := ⟨tm_4 134 rfl rfl, tm_4 133 rfl rfl, tm_1 21 rfl rfl, ⟨by decide +kernel, by decide +kernel, by decide +kernel⟩⟩
set_option maxHeartbeats 4000000 in
set_option maxRecDepth 100000 in
theorem mv_J7_fill_53178 : MS yJ7_fill_53178 cJ7_fill_53178 4 (none : Option FieldType) 2 := ⟨tm_2 105 rfl rfl, tm_2 104 rfl rfl, tm_1 12 rfl rfl, ⟨by decide +kernel, by decide +kernel, by decide +kernel⟩⟩
set_option maxHeartbeats 4000000 in
set_option maxRecDepth 100000 in
theorem mv_J9_floorDiv_f86c9 : MS yJ9_floorDiv_f86c9 cJ9_floorDiv_f86c9 6 (Option.some FieldType.long) 2 := ⟨tm_4 100 rfl rfl, tm_4 99 rfl rfl, tm_1 15 rfl rfl, ⟨by decide +kernel, by decide +kernel, by decide +kernel⟩⟩
set_option maxHeartbeats 4000000 in
set_option maxRecDepth 100000 in
theorem mv_J9_max_7cf53 : MS yJ9_max_7cf53 cJ9_max_7cf53 2 (Option.some FieldType.int) 2 := ⟨tm_5 18 rfl rfl, tm_5 17 rfl rfl, tm_1 15 rfl rfl, ⟨by decide +kernel, by decide +kernel, by decide +kernel⟩⟩
set_option maxHeartbeats 4000000 in
set_option maxRecDepth 100000 in
theorem mv_J9_max_f86c9 : MS yJ9_max_f86c9 cJ9_max_f86c9 4 (Option.some FieldType.long) 2 := ⟨tm_4 106 rfl rfl, tm_4 105 rfl rfl, tm_1 15 rfl rfl, ⟨by decide +kernel, by decide +kernel, by decide +kernel⟩⟩
set_option maxHeartbeats 4000000 in
set_option maxRecDepth 100000 in
theorem mv_J9_min_7cf53 : MS yJ9_min_7cf53 cJ9_min_7cf53 2 (Option.some FieldType.int) 2 := ⟨tm_3 13 rfl rfl, tm_3 12 rfl rfl, tm_1 15 rfl rfl, ⟨by decide +kernel, by decide +kernel, by decide +kernel⟩⟩
set_option maxHeartbeats 4000000 in
set_option maxRecDepth 100000 in
theorem mv_J9_min_f86c9 : MS yJ9_min_f86c9 cJ9_min_f86c9 4 (Option.some FieldType.long) 2 := ⟨tm_4 103 rfl rfl, tm_4 102 rfl rfl, tm_1 15 rfl rfl, ⟨by decide +kernel, by decide +kernel, by decide +kernel⟩⟩
set_option maxHeartbeats 4000000 in
set_option maxRecDepth 100000 in
theorem mv_X0_add : MV yX0_add cX0_add 2 (none : Option FieldType) 1 := ⟨tm_3 179 rfl rfl, tm_3 177 rfl rfl, tm_3 178 rfl rfl, tm_1 3 rfl rfl, ⟨by decide +kernel, by decide +kernel, by decide +kernel⟩⟩
set_option maxHeartbeats 4000000 in
set_option maxRecDepth 100000 in
theorem mv_X0_clear : MV yX0_clear cX0_clear 1 (none : Option FieldType) 0 := ⟨tm_2 239 rfl rfl, tm_2 237 rfl rfl, tm_2 238 rfl rfl, tm_1 3 rfl rfl, ⟨by decide +kernel, by decide +kernel, by decide +kernel⟩⟩
set_option maxHeartbeats 4000000 in
set_option maxRecDepth 100000 in
theorem mv_X0_held : MS yX0_held cX0_held 2 (Option.some FieldType.int) 1 := ⟨tm_4 109 rfl rfl, tm_4 108 rfl rfl, tm_1 3 rfl rfl, ⟨by decide +kernel, by decide +kernel, by decide +kernel⟩⟩
set_option maxHeartbeats 4000000 in
set_option maxRecDepth 100000 in
theorem mv_X0_isEmpty : MV yX0_isEmpty cX0_isEmpty 1 (Option.some FieldType.boolean) 0 := ⟨tm_3 113 rfl rfl, tm_3 111 rfl rfl, tm_3 112 rfl rfl, tm_1 3 rfl rfl, ⟨by decide +kernel, by decide +kernel, by decide +kernel⟩⟩
set_option maxHeartbeats 4000000 in
set_option maxRecDepth 100000 in
theorem mv_X0_ofOne : MS yX0_ofOne cX0_ofOne 4 (Option.some FieldType.int) 3 := ⟨tm_4 94 rfl rfl, tm_4 93 rfl rfl, tm_1 3 rfl rfl, ⟨by decide +kernel, by decide +kernel, by decide +kernel⟩⟩
set_option maxHeartbeats 4000000 in
set_option maxRecDepth 100000 in
theorem mv_X0_ofTwo : MS yX0_ofTwo cX0_ofTwo 5 (Option.some FieldType.long) 3 := ⟨tm_4 97 rfl rfl, tm_4 96 rfl rfl, tm_1 3 rfl rfl, ⟨by decide +kernel, by decide +kernel, by decide +kernel⟩⟩
set_option maxHeartbeats 4000000 in
set_option maxRecDepth 100000 in
theorem mv_X0_worth : MV yX0_worth cX0_worth 5 (Option.some FieldType.int) 1 := ⟨tm_4 91 rfl rfl, tm_4 89 rfl rfl, tm_4 90 rfl rfl, tm_1 3 rfl rfl, ⟨by decide +kernel, by decide +kernel, by decide +kernel⟩⟩
set_option maxHeartbeats 4000000 in
set_option maxRecDepth 100000 in
theorem mv_X10_enter : MV yX10_enter cX10_enter 5 (none : Option FieldType) 3 := ⟨tm_4 67 rfl rfl, tm_4 66 rfl rfl, tb_of (List.mem_append_left _ (List.mem_of_getElem? (i := 23) rfl)) rfl, tm_1 11 rfl rfl, ⟨by decide +kernel, by decide +kernel, by decide +kernel⟩⟩
set_option maxHeartbeats 4000000 in
set_option maxRecDepth 100000 in
theorem mv_X10_isBetterThan : MV yX10_isBetterThan cX10_isBetterThan 3 (Option.some FieldType.boolean) 1 := ⟨tm_4 131 rfl rfl, tm_4 129 rfl rfl, tm_4 130 rfl rfl, tm_1 11 rfl rfl, ⟨by decide +kernel, by decide +kernel, by decide +kernel⟩⟩
set_option maxHeartbeats 4000000 in
set_option maxRecDepth 100000 in
theorem mv_X10_lead : MV yX10_lead cX10_lead 6 (none : Option FieldType) 3 := ⟨tm_4 63 rfl rfl, tm_4 61 rfl rfl, tm_4 62 rfl rfl, tm_1 11 rfl rfl, ⟨by decide +kernel, by decide +kernel, by decide +kernel⟩⟩
set_option maxHeartbeats 4000000 in
set_option maxRecDepth 100000 in
theorem mv_X10_meetingWith : MV yX10_meetingWith cX10_meetingWith 4 (Option.some FieldType.int) 2 := ⟨tm_4 210 rfl rfl, tm_4 208 rfl rfl, tm_4 209 rfl rfl, tm_1 11 rfl rfl, ⟨by decide +kernel, by decide +kernel, by decide +kernel⟩⟩
set_option maxHeartbeats 4000000 in
set_option maxRecDepth 100000 in
theorem mv_X10_nextPlace : MV yX10_nextPlace cX10_nextPlace 10 (Option.some FieldType.int) 3 := ⟨tm_4 72 rfl rfl, tm_4 71 rfl rfl, tb_of (List.mem_append_left _ (List.mem_of_getElem? (i := 24) rfl)) rfl, tm_1 11 rfl rfl, ⟨by decide +kernel, by decide +kernel, by decide +kernel⟩⟩
set_option maxHeartbeats 4000000 in
set_option maxRecDepth 100000 in
theorem mv_X10_partingFrom : MV yX10_partingFrom cX10_partingFrom 4 (Option.some FieldType.int) 1 := ⟨tm_4 205 rfl rfl, tm_4 203 rfl rfl, tm_4 204 rfl rfl, tm_1 11 rfl rfl, ⟨by decide +kernel, by decide +kernel, by decide +kernel⟩⟩
set_option maxHeartbeats 4000000 in
set_option maxRecDepth 100000 in
theorem mv_X10_placeBy : MV yX10_placeBy cX10_placeBy 2 (Option.some FieldType.int) 1 := ⟨tm_4 115 rfl rfl, tm_4 113 rfl rfl, tm_4 114 rfl rfl, tm_1 11 rfl rfl, ⟨by decide +kernel, by decide +kernel, by decide +kernel⟩⟩
set_option maxHeartbeats 4000000 in
set_option maxRecDepth 100000 in
theorem mv_X10_waters : MV yX10_waters cX10_waters 2 (Option.some FieldType.boolean) 1 := ⟨tm_4 177 rfl rfl, tm_4 175 rfl rfl, tm_4 176 rfl rfl, tm_1 11 rfl rfl, ⟨by decide +kernel, by decide +kernel, by decide +kernel⟩⟩
set_option maxHeartbeats 4000000 in
set_option maxRecDepth 100000 in
theorem mv_X11_answerTo : MV yX11_answerTo cX11_answerTo 6 (Option.some FieldType.long) 1 := ⟨tm_5 107 rfl rfl, tm_5 106 rfl rfl, tb_of (List.mem_append_left _ (List.mem_of_getElem? (i := 41) rfl)) rfl, tm_1 1 rfl rfl, ⟨by decide +kernel, by decide +kernel, by decide +kernel⟩⟩
set_option maxHeartbeats 4000000 in
set_option maxRecDepth 100000 in
theorem mv_X11_callersLeft : MV yX11_callersLeft cX11_callersLeft 3 (Option.some FieldType.int) 0 := ⟨tm_5 2 rfl rfl, tm_5 1 rfl rfl, tb_of (List.mem_append_left _ (List.mem_of_getElem? (i := 33) rfl)) rfl, tm_1 1 rfl rfl, ⟨by decide +kernel, by decide +kernel, by decide +kernel⟩⟩
set_option maxHeartbeats 4000000 in
set_option maxRecDepth 100000 in
theorem mv_X11_drawCaller : MV yX11_drawCaller cX11_drawCaller 1 (Option.some FieldType.int) 0 := ⟨tm_5 56 rfl rfl, tm_5 55 rfl rfl, tb_of (List.mem_append_left _ (List.mem_of_getElem? (i := 36) rfl)) rfl, tm_1 1 rfl rfl, ⟨by decide +kernel, by decide +kernel, by decide +kernel⟩⟩
set_option maxHeartbeats 4000000 in
set_option maxRecDepth 100000 in
theorem mv_X11_forgetWays : MV yX11_forgetWays cX11_forgetWays 2 (none : Option FieldType) 0 := ⟨tm_3 226 rfl rfl, tm_3 225 rfl rfl, tb_of (List.mem_append_left _ (List.mem_of_getElem? (i := 21) rfl)) rfl, tm_1 1 rfl rfl, ⟨by decide +kernel, by decide +kernel, by decide +kernel⟩⟩
set_option maxHeartbeats 4000000 in
set_option maxRecDepth 100000 in
theorem mv_X11_gatherFacts : MV yX11_gatherFacts cX11_gatherFacts 5 (none : Option FieldType) 1 := ⟨tm_5 112 rfl rfl, tm_5 111 rfl rfl, tb_of (List.mem_append_left _ (List.mem_of_getElem? (i := 42) rfl)) rfl, tm_1 1 rfl rfl, ⟨by decide +kernel, by decide +kernel, by decide +kernel⟩⟩
set_option maxHeartbeats 4000000 in
set_option maxRecDepth 100000 in
theorem mv_X11_isAtRest : MV yX11_isAtRest cX11_isAtRest 3 (Option.some FieldType.boolean) 1 := ⟨tm_4 193 rfl rfl, tm_4 192 rfl rfl, tb_of (List.mem_append_left _ (List.mem_of_getElem? (i := 30) rfl)) rfl, tm_1 1 rfl rfl, ⟨by decide +kernel, by decide +kernel, by decide +kernel⟩⟩
set_option maxHeartbeats 4000000 in
set_option maxRecDepth 100000 in
theorem mv_X11_mostLeftBy : MV yX11_mostLeftBy cX11_mostLeftBy 8 (Option.some FieldType.int) 2 := ⟨tm_5 15 rfl rfl, tm_5 14 rfl rfl, tb_of (List.mem_append_left _ (List.mem_of_getElem? (i := 34) rfl)) rfl, tm_1 1 rfl rfl, ⟨by decide +kernel, by decide +kernel, by decide +kernel⟩⟩
set_option maxHeartbeats 4000000 in
set_option maxRecDepth 100000 in
theorem mv_X11_passYear : MV yX11_passYear cX11_passYear 5 (Option.some FieldType.int) 1 := ⟨tm_5 31 rfl rfl, tm_5 30 rfl rfl, tb_of (List.mem_append_left _ (List.mem_of_getElem? (i := 35) rfl)) rfl, tm_1 1 rfl rfl, ⟨by decide +kernel, by decide +kernel, by decide +kernel⟩⟩
set_option maxHeartbeats 4000000 in
set_option maxRecDepth 100000 in
theorem mv_X11_pieIn : MV yX11_pieIn cX11_pieIn 3 (Option.some FieldType.int) 2 := ⟨tm_4 189 rfl rfl, tm_4 188 rfl rfl, tb_of (List.mem_append_left _ (List.mem_of_getElem? (i := 29) rfl)) rfl, tm_1 1 rfl rfl, ⟨by decide +kernel, by decide +kernel, by decide +kernel⟩⟩
set_option maxHeartbeats 4000000 in
set_option maxRecDepth 100000 in
theorem mv_X11_placePart : MV yX11_placePart cX11_placePart 3 (Option.some FieldType.int) 2 := ⟨tm_4 119 rfl rfl, tm_4 118 rfl rfl, tb_of (List.mem_append_left _ (List.mem_of_getElem? (i := 25) rfl)) rfl, tm_1 1 rfl rfl, ⟨by decide +kernel, by decide +kernel, by decide +kernel⟩⟩
set_option maxHeartbeats 4000000 in
set_option maxRecDepth 100000 in
theorem mv_X11_refuse : MV yX11_refuse cX11_refuse 2 (Option.some FieldType.int) 1 := ⟨tm_2 214 rfl rfl, tm_2 213 rfl rfl, tb_of (List.mem_append_left _ (List.mem_of_getElem? (i := 0) rfl)) rfl, tm_1 1 rfl rfl, ⟨by decide +kernel, by decide +kernel, by decide +kernel⟩⟩
set_option maxHeartbeats 4000000 in
set_option maxRecDepth 100000 in
theorem mv_X11_waterBySets : MV yX11_waterBySets cX11_waterBySets 4 (none : Option FieldType) 1 := ⟨tm_4 185 rfl rfl, tm_4 184 rfl rfl, tb_of (List.mem_append_left _ (List.mem_of_getElem? (i := 28) rfl)) rfl, tm_1 1 rfl rfl, ⟨by decide +kernel, by decide +kernel, by decide +kernel⟩⟩
set_option maxHeartbeats 4000000 in
set_option maxRecDepth 100000 in
theorem mv_X11_wayOf : MV yX11_wayOf cX11_wayOf 3 (Option.some (FieldType.object "CalledRiver$Way")) 1 := ⟨tm_4 59 rfl rfl, tm_4 58 rfl rfl, tb_of (List.mem_append_left _ (List.mem_of_getElem? (i := 22) rfl)) rfl, tm_1 1 rfl rfl, ⟨by decide +kernel, by decide +kernel, by decide +kernel⟩⟩
set_option maxHeartbeats 4000000 in
set_option maxRecDepth 100000 in
theorem mv_X11_waysThrough : MV yX11_waysThrough cX11_waysThrough 4 (Option.some FieldType.int) 1 := ⟨tm_4 222 rfl rfl, tm_4 221 rfl rfl, tb_of (List.mem_append_left _ (List.mem_of_getElem? (i := 32) rfl)) rfl, tm_1 1 rfl rfl, ⟨by decide +kernel, by decide +kernel, by decide +kernel⟩⟩
set_option maxHeartbeats 4000000 in
set_option maxRecDepth 100000 in
theorem mv_X11_welfare : MV yX11_welfare cX11_welfare 3 (Option.some FieldType.int) 2 := ⟨tm_4 197 rfl rfl, tm_4 196 rfl rfl, tb_of (List.mem_append_left _ (List.mem_of_getElem? (i := 31) rfl)) rfl, tm_1 1 rfl rfl, ⟨by decide +kernel, by decide +kernel, by decide +kernel⟩⟩
set_option maxHeartbeats 4000000 in
set_option maxRecDepth 100000 in
theorem mv_X12_areBeside : MV yX12_areBeside cX12_areBeside 4 (Option.some FieldType.boolean) 2 := ⟨tm_8 69 rfl rfl, tm_8 68 rfl rfl, tb_of (List.mem_append_left _ (List.mem_of_getElem? (i := 95) rfl)) rfl, tm_1 14 rfl rfl, ⟨by decide +kernel, by decide +kernel, by decide +kernel⟩⟩
set_option maxHeartbeats 4000000 in
set_option maxRecDepth 100000 in
theorem mv_X12_asks : MV yX12_asks cX12_asks 2 (none : Option FieldType) 1 := ⟨tm_7 57 rfl rfl, tm_7 56 rfl rfl, tb_of (List.mem_append_left _ (List.mem_of_getElem? (i := 44) rfl)) rfl, tm_1 14 rfl rfl, ⟨by decide +kernel, by decide +kernel, by decide +kernel⟩⟩
set_option maxHeartbeats 4000000 in
set_option maxRecDepth 100000 in
theorem mv_X12_asksSign : MV yX12_asksSign cX12_asksSign 2 (none : Option FieldType) 1 := ⟨tm_7 90 rfl rfl, tm_7 89 rfl rfl, tb_of (List.mem_append_left _ (List.mem_of_getElem? (i := 50) rfl)) rfl, tm_1 14 rfl rfl, ⟨by decide +kernel, by decide +kernel, by decide +kernel⟩⟩
set_option maxHeartbeats 4000000 in
set_option maxRecDepth 100000 in
theorem mv_X12_bakedBy : MV yX12_bakedBy cX12_bakedBy 4 (Option.some FieldType.int) 1 := ⟨tm_9 0 rfl rfl, tm_8 239 rfl rfl, tb_of (List.mem_append_left _ (List.mem_of_getElem? (i := 122) rfl)) rfl, tm_1 14 rfl rfl, ⟨by decide +kernel, by decide +kernel, by decide +kernel⟩⟩
set_option maxHeartbeats 4000000 in
set_option maxRecDepth 100000 in
theorem mv_X12_beenOf : MV yX12_beenOf cX12_beenOf 2 (Option.some FieldType.int) 1 := ⟨tm_8 105 rfl rfl, tm_8 104 rfl rfl, tb_of (List.mem_append_left _ (List.mem_of_getElem? (i := 104) rfl)) rfl, tm_1 14 rfl rfl, ⟨by decide +kernel, by decide +kernel, by decide +kernel⟩⟩
set_option maxHeartbeats 4000000 in
set_option maxRecDepth 100000 in
theorem mv_X12_beside : MV yX12_beside cX12_beside 5 (Option.some FieldType.int) 2 := ⟨tm_8 73 rfl rfl, tm_8 72 rfl rfl, tb_of (List.mem_append_left _ (List.mem_of_getElem? (i := 96) rfl)) rfl, tm_1 14 rfl rfl, ⟨by decide +kernel, by decide +kernel, by decide +kernel⟩⟩
set_option maxHeartbeats 4000000 in
set_option maxRecDepth 100000 in
theorem mv_X12_bits : MS yX12_bits cX12_bits 3 (Option.some FieldType.int) 1 := ⟨tm_8 136 rfl rfl, tm_8 135 rfl rfl, tm_1 14 rfl rfl, ⟨by decide +kernel, by decide +kernel, by decide +kernel⟩⟩
set_option maxHeartbeats 4000000 in
set_option maxRecDepth 100000 in
theorem mv_X12_callerMany : MV yX12_callerMany cX12_callerMany 1 (Option.some FieldType.int) 0 := ⟨tm_8 33 rfl rfl, tm_8 32 rfl rfl, tb_of (List.mem_append_left _ (List.mem_of_getElem? (i := 88) rfl)) rfl, tm_1 14 rfl rfl, ⟨by decide +kernel, by decide +kernel, by decide +kernel⟩⟩
set_option maxHeartbeats 4000000 in
set_option maxRecDepth 100000 in
theorem mv_X12_callerTold : MV yX12_callerTold cX12_callerTold 6 (none : Option FieldType) 1 := ⟨tm_7 136 rfl rfl, tm_7 135 rfl rfl, tb_of (List.mem_append_left _ (List.mem_of_getElem? (i := 61) rfl)) rfl, tm_1 14 rfl rfl, ⟨by decide +kernel, by decide +kernel, by decide +kernel⟩⟩
set_option maxHeartbeats 4000000 in
set_option maxRecDepth 100000 in
theorem mv_X12_canFlow : MV yX12_canFlow cX12_canFlow 3 (Option.some FieldType.boolean) 2 := ⟨tm_8 77 rfl rfl, tm_8 76 rfl rfl, tb_of (List.mem_append_left _ (List.mem_of_getElem? (i := 97) rfl)) rfl, tm_1 14 rfl rfl, ⟨by decide +kernel, by decide +kernel, by decide +kernel⟩⟩
set_option maxHeartbeats 4000000 in
set_option maxRecDepth 100000 in
theorem mv_X12_cellAt : MV yX12_cellAt cX12_cellAt 3 (Option.some FieldType.int) 2 := ⟨tm_8 0 rfl rfl, tm_7 239 rfl rfl, tb_of (List.mem_append_left _ (List.mem_of_getElem? (i := 82) rfl)) rfl, tm_1 14 rfl rfl, ⟨by decide +kernel, by decide +kernel, by decide +kernel⟩⟩
set_option maxHeartbeats 4000000 in
set_option maxRecDepth 100000 in
theorem mv_X12_cellMany : MV yX12_cellMany cX12_cellMany 1 (Option.some FieldType.int) 0 := ⟨tm_8 61 rfl rfl, tm_8 60 rfl rfl, tb_of (List.mem_append_left _ (List.mem_of_getElem? (i := 93) rfl)) rfl, tm_1 14 rfl rfl, ⟨by decide +kernel, by decide +kernel, by decide +kernel⟩⟩
set_option maxHeartbeats 4000000 in
set_option maxRecDepth 100000 in
theorem mv_X12_cellOf : MV yX12_cellOf cX12_cellOf 2 (Option.some FieldType.int) 1 := ⟨tm_8 9 rfl rfl, tm_8 8 rfl rfl, tb_of (List.mem_append_left _ (List.mem_of_getElem? (i := 84) rfl)) rfl, tm_1 14 rfl rfl, ⟨by decide +kernel, by decide +kernel, by decide +kernel⟩⟩
set_option maxHeartbeats 4000000 in
set_option maxRecDepth 100000 in
theorem mv_X12_cellOfNumber : MV yX12_cellOfNumber cX12_cellOfNumber 2 (Option.some FieldType.int) 1 := ⟨tm_8 65 rfl rfl, tm_8 64 rfl rfl, tb_of (List.mem_append_left _ (List.mem_of_getElem? (i := 94) rfl)) rfl, tm_1 14 rfl rfl, ⟨by decide +kernel, by decide +kernel, by decide +kernel⟩⟩
set_option maxHeartbeats 4000000 in
set_option maxRecDepth 100000 in
theorem mv_X12_cellTold : MV yX12_cellTold cX12_cellTold 3 (Option.some FieldType.int) 0 := ⟨tm_7 106 rfl rfl, tm_7 105 rfl rfl, tb_of (List.mem_append_left _ (List.mem_of_getElem? (i := 54) rfl)) rfl, tm_1 14 rfl rfl, ⟨by decide +kernel, by decide +kernel, by decide +kernel⟩⟩
set_option maxHeartbeats 4000000 in
set_option maxRecDepth 100000 in
theorem mv_X12_checked : MS yX12_checked cX12_checked 4 (Option.some FieldType.int) 2 := ⟨tm_9 94 rfl rfl, tm_9 93 rfl rfl, tm_1 14 rfl rfl, ⟨by decide +kernel, by decide +kernel, by decide +kernel⟩⟩
set_option maxHeartbeats 4000000 in
set_option maxRecDepth 100000 in
theorem mv_X12_codesTell : MV yX12_codesTell cX12_codesTell 5 (Option.some FieldType.long) 2 := ⟨tm_8 89 rfl rfl, tm_8 88 rfl rfl, tb_of (List.mem_append_left _ (List.mem_of_getElem? (i := 100) rfl)) rfl, tm_1 14 rfl rfl, ⟨by decide +kernel, by decide +kernel, by decide +kernel⟩⟩
set_option maxHeartbeats 4000000 in
set_option maxRecDepth 100000 in
theorem mv_X12_codesTold : MV yX12_codesTold cX12_codesTold 4 (none : Option FieldType) 2 := ⟨tm_7 140 rfl rfl, tm_7 139 rfl rfl, tb_of (List.mem_append_left _ (List.mem_of_getElem? (i := 62) rfl)) rfl, tm_1 14 rfl rfl, ⟨by decide +kernel, by decide +kernel, by decide +kernel⟩⟩
set_option maxHeartbeats 4000000 in
set_option maxRecDepth 100000 in
theorem mv_X12_dayOf : MV yX12_dayOf cX12_dayOf 2 (Option.some FieldType.int) 1 := ⟨tm_8 21 rfl rfl, tm_8 20 rfl rfl, tb_of (List.mem_append_left _ (List.mem_of_getElem? (i := 86) rfl)) rfl, tm_1 14 rfl rfl, ⟨by decide +kernel, by decide +kernel, by decide +kernel⟩⟩
set_option maxHeartbeats 4000000 in
set_option maxRecDepth 100000 in
theorem mv_X12_drawOf : MV yX12_drawOf cX12_drawOf 2 (Option.some FieldType.int) 1 := ⟨tm_9 33 rfl rfl, tm_9 32 rfl rfl, tb_of (List.mem_append_left _ (List.mem_of_getElem? (i := 125) rfl)) rfl, tm_1 14 rfl rfl, ⟨by decide +kernel, by decide +kernel, by decide +kernel⟩⟩
set_option maxHeartbeats 4000000 in
set_option maxRecDepth 100000 in
theorem mv_X12_fail : MV yX12_fail cX12_fail 3 (none : Option FieldType) 2 := ⟨tm_7 76 rfl rfl, tm_7 75 rfl rfl, tb_of (List.mem_append_left _ (List.mem_of_getElem? (i := 48) rfl)) rfl, tm_1 14 rfl rfl, ⟨by decide +kernel, by decide +kernel, by decide +kernel⟩⟩
set_option maxHeartbeats 4000000 in
set_option maxRecDepth 100000 in
theorem mv_X12_farmAt : MV yX12_farmAt cX12_farmAt 3 (Option.some FieldType.int) 1 := ⟨tm_8 5 rfl rfl, tm_8 4 rfl rfl, tb_of (List.mem_append_left _ (List.mem_of_getElem? (i := 83) rfl)) rfl, tm_1 14 rfl rfl, ⟨by decide +kernel, by decide +kernel, by decide +kernel⟩⟩
set_option maxHeartbeats 4000000 in
set_option maxRecDepth 100000 in
theorem mv_X12_farmMany : MV yX12_farmMany cX12_farmMany 1 (Option.some FieldType.int) 0 := ⟨tm_7 223 rfl rfl, tm_7 222 rfl rfl, tb_of (List.mem_append_left _ (List.mem_of_getElem? (i := 80) rfl)) rfl, tm_1 14 rfl rfl, ⟨by decide +kernel, by decide +kernel, by decide +kernel⟩⟩
set_option maxHeartbeats 4000000 in
set_option maxRecDepth 100000 in
theorem mv_X12_farmTold : MV yX12_farmTold cX12_farmTold 7 (none : Option FieldType) 1 := ⟨tm_7 114 rfl rfl, tm_7 113 rfl rfl, tb_of (List.mem_append_left _ (List.mem_of_getElem? (i := 56) rfl)) rfl, tm_1 14 rfl rfl, ⟨by decide +kernel, by decide +kernel, by decide +kernel⟩⟩
set_option maxHeartbeats 4000000 in
set_option maxRecDepth 100000 in
theorem mv_X12_goesTo : MV yX12_goesTo cX12_goesTo 3 (Option.some FieldType.long) 2 := ⟨tm_8 85 rfl rfl, tm_8 84 rfl rfl, tb_of (List.mem_append_left _ (List.mem_of_getElem? (i := 99) rfl)) rfl, tm_1 14 rfl rfl, ⟨by decide +kernel, by decide +kernel, by decide +kernel⟩⟩
set_option maxHeartbeats 4000000 in
set_option maxRecDepth 100000 in
theorem mv_X12_hasWay : MV yX12_hasWay cX12_hasWay 1 (Option.some FieldType.boolean) 0 := ⟨tm_8 49 rfl rfl, tm_8 48 rfl rfl, tb_of (List.mem_append_left _ (List.mem_of_getElem? (i := 90) rfl)) rfl, tm_1 14 rfl rfl, ⟨by decide +kernel, by decide +kernel, by decide +kernel⟩⟩
set_option maxHeartbeats 4000000 in
set_option maxRecDepth 100000 in
theorem mv_X12_heightOf : MV yX12_heightOf cX12_heightOf 2 (Option.some FieldType.int) 1 := ⟨tm_8 81 rfl rfl, tm_8 80 rfl rfl, tb_of (List.mem_append_left _ (List.mem_of_getElem? (i := 98) rfl)) rfl, tm_1 14 rfl rfl, ⟨by decide +kernel, by decide +kernel, by decide +kernel⟩⟩
set_option maxHeartbeats 4000000 in
set_option maxRecDepth 100000 in
theorem mv_X12_highTold : MV yX12_highTold cX12_highTold 3 (none : Option FieldType) 0 := ⟨tm_7 102 rfl rfl, tm_7 101 rfl rfl, tb_of (List.mem_append_left _ (List.mem_of_getElem? (i := 53) rfl)) rfl, tm_1 14 rfl rfl, ⟨by decide +kernel, by decide +kernel, by decide +kernel⟩⟩
set_option maxHeartbeats 4000000 in
set_option maxRecDepth 100000 in
theorem mv_X12_isAhead : MV yX12_isAhead cX12_isAhead 4 (Option.some FieldType.boolean) 3 := ⟨tm_8 228 rfl rfl, tm_8 227 rfl rfl, tb_of (List.mem_append_left _ (List.mem_of_getElem? (i := 119) rfl)) rfl, tm_1 14 rfl rfl, ⟨by decide +kernel, by decide +kernel, by decide +kernel⟩⟩
set_option maxHeartbeats 4000000 in
set_option maxRecDepth 100000 in
theorem mv_X12_isAllowed : MV yX12_isAllowed cX12_isAllowed 2 (Option.some FieldType.boolean) 1 := ⟨tm_7 160 rfl rfl, tm_7 159 rfl rfl, tb_of (List.mem_append_left _ (List.mem_of_getElem? (i := 67) rfl)) rfl, tm_1 14 rfl rfl, ⟨by decide +kernel, by decide +kernel, by decide +kernel⟩⟩
set_option maxHeartbeats 4000000 in
set_option maxRecDepth 100000 in
theorem mv_X12_isAsSeen : MV yX12_isAsSeen cX12_isAsSeen 3 (Option.some FieldType.boolean) 1 := ⟨tm_8 208 rfl rfl, tm_8 207 rfl rfl, tb_of (List.mem_append_left _ (List.mem_of_getElem? (i := 117) rfl)) rfl, tm_1 14 rfl rfl, ⟨by decide +kernel, by decide +kernel, by decide +kernel⟩⟩
set_option maxHeartbeats 4000000 in
set_option maxRecDepth 100000 in
theorem mv_X12_isBegun : MV yX12_isBegun cX12_isBegun 2 (Option.some FieldType.boolean) 0 := ⟨tm_8 144 rfl rfl, tm_8 143 rfl rfl, tb_of (List.mem_append_left _ (List.mem_of_getElem? (i := 108) rfl)) rfl, tm_1 14 rfl rfl, ⟨by decide +kernel, by decide +kernel, by decide +kernel⟩⟩
set_option maxHeartbeats 4000000 in
set_option maxRecDepth 100000 in
theorem mv_X12_isCaller : MV yX12_isCaller cX12_isCaller 3 (Option.some FieldType.boolean) 1 := ⟨tm_8 29 rfl rfl, tm_8 28 rfl rfl, tb_of (List.mem_append_left _ (List.mem_of_getElem? (i := 87) rfl)) rfl, tm_1 14 rfl rfl, ⟨by decide +kernel, by decide +kernel, by decide +kernel⟩⟩
set_option maxHeartbeats 4000000 in
set_option maxRecDepth 100000 in
theorem mv_X12_isDigit : MS yX12_isDigit cX12_isDigit 1 (Option.some FieldType.boolean) 1 := ⟨tm_7 83 rfl rfl, tm_7 82 rfl rfl, tm_1 14 rfl rfl, ⟨by decide +kernel, by decide +kernel, by decide +kernel⟩⟩
set_option maxHeartbeats 4000000 in
set_option maxRecDepth 100000 in
theorem mv_X12_isFarm : MV yX12_isFarm cX12_isFarm 2 (Option.some FieldType.boolean) 1 := ⟨tm_8 17 rfl rfl, tm_8 16 rfl rfl, tb_of (List.mem_append_left _ (List.mem_of_getElem? (i := 85) rfl)) rfl, tm_1 14 rfl rfl, ⟨by decide +kernel, by decide +kernel, by decide +kernel⟩⟩
set_option maxHeartbeats 4000000 in
set_option maxRecDepth 100000 in
theorem mv_X12_isFull : MV yX12_isFull cX12_isFull 4 (Option.some FieldType.boolean) 3 := ⟨tm_7 118 rfl rfl, tm_7 117 rfl rfl, tb_of (List.mem_append_left _ (List.mem_of_getElem? (i := 57) rfl)) rfl, tm_1 14 rfl rfl, ⟨by decide +kernel, by decide +kernel, by decide +kernel⟩⟩
set_option maxHeartbeats 4000000 in
set_option maxRecDepth 100000 in
theorem mv_X12_isHere : MV yX12_isHere cX12_isHere 4 (Option.some FieldType.boolean) 1 := ⟨tm_7 65 rfl rfl, tm_7 64 rfl rfl, tb_of (List.mem_append_left _ (List.mem_of_getElem? (i := 46) rfl)) rfl, tm_1 14 rfl rfl, ⟨by decide +kernel, by decide +kernel, by decide +kernel⟩⟩
set_option maxHeartbeats 4000000 in
set_option maxRecDepth 100000 in
theorem mv_X12_isImage : MV yX12_isImage cX12_isImage 4 (Option.some FieldType.boolean) 1 := ⟨tm_9 106 rfl rfl, tm_9 105 rfl rfl, tb_of (List.mem_append_left _ (List.mem_of_getElem? (i := 137) rfl)) rfl, tm_1 14 rfl rfl, ⟨by decide +kernel, by decide +kernel, by decide +kernel⟩⟩
set_option maxHeartbeats 4000000 in
set_option maxRecDepth 100000 in
theorem mv_X12_isIn : MS yX12_isIn cX12_isIn 6 (Option.some FieldType.boolean) 3 := ⟨tm_7 86 rfl rfl, tm_7 85 rfl rfl, tm_1 14 rfl rfl, ⟨by decide +kernel, by decide +kernel, by decide +kernel⟩⟩
set_option maxHeartbeats 4000000 in
set_option maxRecDepth 100000 in
theorem mv_X12_isKept : MV yX12_isKept cX12_isKept 4 (none : Option FieldType) 2 := ⟨tm_9 5 rfl rfl, tm_9 4 rfl rfl, tb_of (List.mem_append_left _ (List.mem_of_getElem? (i := 123) rfl)) rfl, tm_1 14 rfl rfl, ⟨by decide +kernel, by decide +kernel, by decide +kernel⟩⟩
set_option maxHeartbeats 4000000 in
set_option maxRecDepth 100000 in
theorem mv_X12_isLetter : MS yX12_isLetter cX12_isLetter 1 (Option.some FieldType.boolean) 1 := ⟨tm_7 72 rfl rfl, tm_7 71 rfl rfl, tm_1 14 rfl rfl, ⟨by decide +kernel, by decide +kernel, by decide +kernel⟩⟩
set_option maxHeartbeats 4000000 in
set_option maxRecDepth 100000 in
theorem mv_X12_isOwnHere : MV yX12_isOwnHere cX12_isOwnHere 2 (Option.some FieldType.boolean) 0 := ⟨tm_7 130 rfl rfl, tm_7 129 rfl rfl, tb_of (List.mem_append_left _ (List.mem_of_getElem? (i := 60) rfl)) rfl, tm_1 14 rfl rfl, ⟨by decide +kernel, by decide +kernel, by decide +kernel⟩⟩
set_option maxHeartbeats 4000000 in
set_option maxRecDepth 100000 in
theorem mv_X12_isRefused : MV yX12_isRefused cX12_isRefused 1 (Option.some FieldType.boolean) 0 := ⟨tm_9 13 rfl rfl, tm_9 12 rfl rfl, tb_of (List.mem_append_left _ (List.mem_of_getElem? (i := 124) rfl)) rfl, tm_1 14 rfl rfl, ⟨by decide +kernel, by decide +kernel, by decide +kernel⟩⟩
set_option maxHeartbeats 4000000 in
set_option maxRecDepth 100000 in
theorem mv_X12_isRest : MV yX12_isRest cX12_isRest 3 (Option.some FieldType.boolean) 1 := ⟨tm_8 176 rfl rfl, tm_8 175 rfl rfl, tb_of (List.mem_append_left _ (List.mem_of_getElem? (i := 113) rfl)) rfl, tm_1 14 rfl rfl, ⟨by decide +kernel, by decide +kernel, by decide +kernel⟩⟩
set_option maxHeartbeats 4000000 in
set_option maxRecDepth 100000 in
theorem mv_X12_isStone : MV yX12_isStone cX12_isStone 2 (Option.some FieldType.boolean) 1 := ⟨tm_8 53 rfl rfl, tm_8 52 rfl rfl, tb_of (List.mem_append_left _ (List.mem_of_getElem? (i := 91) rfl)) rfl, tm_1 14 rfl rfl, ⟨by decide +kernel, by decide +kernel, by decide +kernel⟩⟩
set_option maxHeartbeats 4000000 in
set_option maxRecDepth 100000 in
theorem mv_X12_isThere : MV yX12_isThere cX12_isThere 3 (Option.some FieldType.boolean) 1 := ⟨tm_8 152 rfl rfl, tm_8 151 rfl rfl, tb_of (List.mem_append_left _ (List.mem_of_getElem? (i := 110) rfl)) rfl, tm_1 14 rfl rfl, ⟨by decide +kernel, by decide +kernel, by decide +kernel⟩⟩
set_option maxHeartbeats 4000000 in
set_option maxRecDepth 100000 in
theorem mv_X12_isWatered : MV yX12_isWatered cX12_isWatered 3 (Option.some FieldType.boolean) 1 := ⟨tm_8 129 rfl rfl, tm_8 128 rfl rfl, tb_of (List.mem_append_left _ (List.mem_of_getElem? (i := 107) rfl)) rfl, tm_1 14 rfl rfl, ⟨by decide +kernel, by decide +kernel, by decide +kernel⟩⟩
set_option maxHeartbeats 4000000 in
set_option maxRecDepth 100000 in
theorem mv_X12_keeps : MV yX12_keeps cX12_keeps 2 (none : Option FieldType) 0 := ⟨tm_8 232 rfl rfl, tm_8 231 rfl rfl, tb_of (List.mem_append_left _ (List.mem_of_getElem? (i := 120) rfl)) rfl, tm_1 14 rfl rfl, ⟨by decide +kernel, by decide +kernel, by decide +kernel⟩⟩
set_option maxHeartbeats 4000000 in
set_option maxRecDepth 100000 in
theorem mv_X12_laysCells : MV yX12_laysCells cX12_laysCells 3 (none : Option FieldType) 0 := ⟨tm_8 204 rfl rfl, tm_8 203 rfl rfl, tb_of (List.mem_append_left _ (List.mem_of_getElem? (i := 116) rfl)) rfl, tm_1 14 rfl rfl, ⟨by decide +kernel, by decide +kernel, by decide +kernel⟩⟩
set_option maxHeartbeats 4000000 in
set_option maxRecDepth 100000 in
theorem mv_X12_laysSteps : MV yX12_laysSteps cX12_laysSteps 3 (none : Option FieldType) 1 := ⟨tm_9 71 rfl rfl, tm_9 70 rfl rfl, tb_of (List.mem_append_left _ (List.mem_of_getElem? (i := 132) rfl)) rfl, tm_1 14 rfl rfl, ⟨by decide +kernel, by decide +kernel, by decide +kernel⟩⟩
set_option maxHeartbeats 4000000 in
set_option maxRecDepth 100000 in
theorem mv_X12_laysWay : MV yX12_laysWay cX12_laysWay 3 (none : Option FieldType) 1 := ⟨tm_8 45 rfl rfl, tm_8 44 rfl rfl, tb_of (List.mem_append_left _ (List.mem_of_getElem? (i := 89) rfl)) rfl, tm_1 14 rfl rfl, ⟨by decide +kernel, by decide +kernel, by decide +kernel⟩⟩
set_option maxHeartbeats 4000000 in
set_option maxRecDepth 100000 in
theorem mv_X12_laysWells : MV yX12_laysWells cX12_laysWells 4 (none : Option FieldType) 1 := ⟨tm_8 172 rfl rfl, tm_8 171 rfl rfl, tb_of (List.mem_append_left _ (List.mem_of_getElem? (i := 112) rfl)) rfl, tm_1 14 rfl rfl, ⟨by decide +kernel, by decide +kernel, by decide +kernel⟩⟩
set_option maxHeartbeats 4000000 in
set_option maxRecDepth 100000 in
theorem mv_X12_look : MV yX12_look cX12_look 1 (Option.some FieldType.int) 0 := ⟨tm_7 69 rfl rfl, tm_7 68 rfl rfl, tb_of (List.mem_append_left _ (List.mem_of_getElem? (i := 47) rfl)) rfl, tm_1 14 rfl rfl, ⟨by decide +kernel, by decide +kernel, by decide +kernel⟩⟩
set_option maxHeartbeats 4000000 in
set_option maxRecDepth 100000 in
theorem mv_X12_mostAlike : MV yX12_mostAlike cX12_mostAlike 7 (Option.some FieldType.int) 2 := ⟨tm_8 216 rfl rfl, tm_8 215 rfl rfl, tb_of (List.mem_append_left _ (List.mem_of_getElem? (i := 118) rfl)) rfl, tm_1 14 rfl rfl, ⟨by decide +kernel, by decide +kernel, by decide +kernel⟩⟩
set_option maxHeartbeats 4000000 in
set_option maxRecDepth 100000 in
theorem mv_X12_name : MV yX12_name cX12_name 3 (Option.some FieldType.long) 0 := ⟨tm_7 126 rfl rfl, tm_7 125 rfl rfl, tb_of (List.mem_append_left _ (List.mem_of_getElem? (i := 59) rfl)) rfl, tm_1 14 rfl rfl, ⟨by decide +kernel, by decide +kernel, by decide +kernel⟩⟩
set_option maxHeartbeats 4000000 in
set_option maxRecDepth 100000 in
theorem mv_X12_newName : MV yX12_newName cX12_newName 5 (Option.some FieldType.long) 0 := ⟨tm_7 122 rfl rfl, tm_7 121 rfl rfl, tb_of (List.mem_append_left _ (List.mem_of_getElem? (i := 58) rfl)) rfl, tm_1 14 rfl rfl, ⟨by decide +kernel, by decide +kernel, by decide +kernel⟩⟩
set_option maxHeartbeats 4000000 in
set_option maxRecDepth 100000 in
theorem mv_X12_nextOf : MV yX12_nextOf cX12_nextOf 9 (Option.some FieldType.int) 1 := ⟨tm_8 57 rfl rfl, tm_8 56 rfl rfl, tb_of (List.mem_append_left _ (List.mem_of_getElem? (i := 92) rfl)) rfl, tm_1 14 rfl rfl, ⟨by decide +kernel, by decide +kernel, by decide +kernel⟩⟩
set_option maxHeartbeats 4000000 in
set_option maxRecDepth 100000 in
theorem mv_X12_number : MV yX12_number cX12_number 5 (Option.some FieldType.int) 2 := ⟨tm_7 80 rfl rfl, tm_7 79 rfl rfl, tb_of (List.mem_append_left _ (List.mem_of_getElem? (i := 49) rfl)) rfl, tm_1 14 rfl rfl, ⟨by decide +kernel, by decide +kernel, by decide +kernel⟩⟩
set_option maxHeartbeats 4000000 in
set_option maxRecDepth 100000 in
theorem mv_X12_pieAll : MV yX12_pieAll cX12_pieAll 3 (Option.some FieldType.int) 0 := ⟨tm_7 219 rfl rfl, tm_7 218 rfl rfl, tb_of (List.mem_append_left _ (List.mem_of_getElem? (i := 79) rfl)) rfl, tm_1 14 rfl rfl, ⟨by decide +kernel, by decide +kernel, by decide +kernel⟩⟩
set_option maxHeartbeats 4000000 in
set_option maxRecDepth 100000 in
theorem mv_X12_pieAt : MV yX12_pieAt cX12_pieAt 3 (Option.some FieldType.int) 1 := ⟨tm_8 101 rfl rfl, tm_8 100 rfl rfl, tb_of (List.mem_append_left _ (List.mem_of_getElem? (i := 103) rfl)) rfl, tm_1 14 rfl rfl, ⟨by decide +kernel, by decide +kernel, by decide +kernel⟩⟩
set_option maxHeartbeats 4000000 in
set_option maxRecDepth 100000 in
theorem mv_X12_pieOf : MV yX12_pieOf cX12_pieOf 2 (Option.some FieldType.int) 1 := ⟨tm_7 227 rfl rfl, tm_7 226 rfl rfl, tb_of (List.mem_append_left _ (List.mem_of_getElem? (i := 81) rfl)) rfl, tm_1 14 rfl rfl, ⟨by decide +kernel, by decide +kernel, by decide +kernel⟩⟩
set_option maxHeartbeats 4000000 in
set_option maxRecDepth 100000 in
theorem mv_X12_plainTold : MV yX12_plainTold cX12_plainTold 1 (none : Option FieldType) 0 := ⟨tm_7 53 rfl rfl, tm_7 52 rfl rfl, tb_of (List.mem_append_left _ (List.mem_of_getElem? (i := 43) rfl)) rfl, tm_1 14 rfl rfl, ⟨by decide +kernel, by decide +kernel, by decide +kernel⟩⟩
set_option maxHeartbeats 4000000 in
set_option maxRecDepth 100000 in
theorem mv_X12_qAsksWord : MV yX12_qAsksWord cX12_qAsksWord 2 (none : Option FieldType) 1 := ⟨tm_7 168 rfl rfl, tm_7 167 rfl rfl, tb_of (List.mem_append_left _ (List.mem_of_getElem? (i := 69) rfl)) rfl, tm_1 14 rfl rfl, ⟨by decide +kernel, by decide +kernel, by decide +kernel⟩⟩
set_option maxHeartbeats 4000000 in
set_option maxRecDepth 100000 in
theorem mv_X12_qBracket : MV yX12_qBracket cX12_qBracket 2 (Option.some FieldType.int) 0 := ⟨tm_7 188 rfl rfl, tm_7 187 rfl rfl, tb_of (List.mem_append_left _ (List.mem_of_getElem? (i := 74) rfl)) rfl, tm_1 14 rfl rfl, ⟨by decide +kernel, by decide +kernel, by decide +kernel⟩⟩
set_option maxHeartbeats 4000000 in
set_option maxRecDepth 100000 in
theorem mv_X12_qClip : MS yX12_qClip cX12_qClip 2 (Option.some FieldType.long) 1 := ⟨tm_8 112 rfl rfl, tm_8 111 rfl rfl, tm_1 14 rfl rfl, ⟨by decide +kernel, by decide +kernel, by decide +kernel⟩⟩
set_option maxHeartbeats 4000000 in
set_option maxRecDepth 100000 in
theorem mv_X12_qCode : MV yX12_qCode cX12_qCode 2 (none : Option FieldType) 1 := ⟨tm_7 172 rfl rfl, tm_7 171 rfl rfl, tb_of (List.mem_append_left _ (List.mem_of_getElem? (i := 70) rfl)) rfl, tm_1 14 rfl rfl, ⟨by decide +kernel, by decide +kernel, by decide +kernel⟩⟩
set_option maxHeartbeats 4000000 in
set_option maxRecDepth 100000 in
theorem mv_X12_qDrops : MV yX12_qDrops cX12_qDrops 1 (none : Option FieldType) 0 := ⟨tm_7 180 rfl rfl, tm_7 179 rfl rfl, tb_of (List.mem_append_left _ (List.mem_of_getElem? (i := 72) rfl)) rfl, tm_1 14 rfl rfl, ⟨by decide +kernel, by decide +kernel, by decide +kernel⟩⟩
set_option maxHeartbeats 4000000 in
set_option maxRecDepth 100000 in
theorem mv_X12_qDropsNots : MV yX12_qDropsNots cX12_qDropsNots 1 (none : Option FieldType) 0 := ⟨tm_9 58 rfl rfl, tm_9 57 rfl rfl, tb_of (List.mem_append_left _ (List.mem_of_getElem? (i := 129) rfl)) rfl, tm_1 14 rfl rfl, ⟨by decide +kernel, by decide +kernel, by decide +kernel⟩⟩
set_option maxHeartbeats 4000000 in
set_option maxRecDepth 100000 in
theorem mv_X12_qDropsToBracket : MV yX12_qDropsToBracket cX12_qDropsToBracket 1 (none : Option FieldType) 0 := ⟨tm_7 195 rfl rfl, tm_7 194 rfl rfl, tb_of (List.mem_append_left _ (List.mem_of_getElem? (i := 75) rfl)) rfl, tm_1 14 rfl rfl, ⟨by decide +kernel, by decide +kernel, by decide +kernel⟩⟩
set_option maxHeartbeats 4000000 in
set_option maxRecDepth 100000 in
theorem mv_X12_qEndsPart : MV yX12_qEndsPart cX12_qEndsPart 1 (none : Option FieldType) 0 := ⟨tm_7 176 rfl rfl, tm_7 175 rfl rfl, tb_of (List.mem_append_left _ (List.mem_of_getElem? (i := 71) rfl)) rfl, tm_1 14 rfl rfl, ⟨by decide +kernel, by decide +kernel, by decide +kernel⟩⟩
set_option maxHeartbeats 4000000 in
set_option maxRecDepth 100000 in
theorem mv_X12_qFact : MV yX12_qFact cX12_qFact 2 (none : Option FieldType) 0 := ⟨tm_9 54 rfl rfl, tm_9 53 rfl rfl, tb_of (List.mem_append_left _ (List.mem_of_getElem? (i := 128) rfl)) rfl, tm_1 14 rfl rfl, ⟨by decide +kernel, by decide +kernel, by decide +kernel⟩⟩
set_option maxHeartbeats 4000000 in
set_option maxRecDepth 100000 in
theorem mv_X12_qFloor : MS yX12_qFloor cX12_qFloor 6 (Option.some FieldType.long) 2 := ⟨tm_8 117 rfl rfl, tm_8 116 rfl rfl, tm_1 14 rfl rfl, ⟨by decide +kernel, by decide +kernel, by decide +kernel⟩⟩
set_option maxHeartbeats 4000000 in
set_option maxRecDepth 100000 in
theorem mv_X12_qGoesOn : MV yX12_qGoesOn cX12_qGoesOn 2 (Option.some FieldType.boolean) 0 := ⟨tm_7 184 rfl rfl, tm_7 183 rfl rfl, tb_of (List.mem_append_left _ (List.mem_of_getElem? (i := 73) rfl)) rfl, tm_1 14 rfl rfl, ⟨by decide +kernel, by decide +kernel, by decide +kernel⟩⟩
set_option maxHeartbeats 4000000 in
set_option maxRecDepth 100000 in
theorem mv_X12_qGoesOnTest : MV yX12_qGoesOnTest cX12_qGoesOnTest 1 (Option.some FieldType.boolean) 0 := ⟨tm_9 62 rfl rfl, tm_9 61 rfl rfl, tb_of (List.mem_append_left _ (List.mem_of_getElem? (i := 130) rfl)) rfl, tm_1 14 rfl rfl, ⟨by decide +kernel, by decide +kernel, by decide +kernel⟩⟩
set_option maxHeartbeats 4000000 in
set_option maxRecDepth 100000 in
theorem mv_X12_qHasSquare : MV yX12_qHasSquare cX12_qHasSquare 2 (Option.some FieldType.boolean) 0 := ⟨tm_9 66 rfl rfl, tm_9 65 rfl rfl, tb_of (List.mem_append_left _ (List.mem_of_getElem? (i := 131) rfl)) rfl, tm_1 14 rfl rfl, ⟨by decide +kernel, by decide +kernel, by decide +kernel⟩⟩
set_option maxHeartbeats 4000000 in
set_option maxRecDepth 100000 in
theorem mv_X12_qIsBracket : MS yX12_qIsBracket cX12_qIsBracket 1 (Option.some FieldType.boolean) 1 := ⟨tm_7 191 rfl rfl, tm_7 190 rfl rfl, tm_1 14 rfl rfl, ⟨by decide +kernel, by decide +kernel, by decide +kernel⟩⟩
set_option maxHeartbeats 4000000 in
set_option maxRecDepth 100000 in
theorem mv_X12_qIsOn : MV yX12_qIsOn cX12_qIsOn 2 (Option.some FieldType.boolean) 1 := ⟨tm_7 199 rfl rfl, tm_7 198 rfl rfl, tb_of (List.mem_append_left _ (List.mem_of_getElem? (i := 76) rfl)) rfl, tm_1 14 rfl rfl, ⟨by decide +kernel, by decide +kernel, by decide +kernel⟩⟩
set_option maxHeartbeats 4000000 in
set_option maxRecDepth 100000 in
theorem mv_X12_qJoins : MV yX12_qJoins cX12_qJoins 6 (none : Option FieldType) 1 := ⟨tm_8 109 rfl rfl, tm_8 108 rfl rfl, tb_of (List.mem_append_left _ (List.mem_of_getElem? (i := 105) rfl)) rfl, tm_1 14 rfl rfl, ⟨by decide +kernel, by decide +kernel, by decide +kernel⟩⟩
set_option maxHeartbeats 4000000 in
set_option maxRecDepth 100000 in
theorem mv_X12_qKind : MV yX12_qKind cX12_qKind 2 (Option.some FieldType.int) 0 := ⟨tm_9 46 rfl rfl, tm_9 45 rfl rfl, tb_of (List.mem_append_left _ (List.mem_of_getElem? (i := 126) rfl)) rfl, tm_1 14 rfl rfl, ⟨by decide +kernel, by decide +kernel, by decide +kernel⟩⟩
set_option maxHeartbeats 4000000 in
set_option maxRecDepth 100000 in
theorem mv_X12_qOf : MV yX12_qOf cX12_qOf 5 (Option.some FieldType.long) 3 := ⟨tm_9 79 rfl rfl, tm_9 78 rfl rfl, tb_of (List.mem_append_left _ (List.mem_of_getElem? (i := 134) rfl)) rfl, tm_1 14 rfl rfl, ⟨by decide +kernel, by decide +kernel, by decide +kernel⟩⟩
set_option maxHeartbeats 4000000 in
set_option maxRecDepth 100000 in
theorem mv_X12_qOpens : MV yX12_qOpens cX12_qOpens 3 (none : Option FieldType) 2 := ⟨tm_7 164 rfl rfl, tm_7 163 rfl rfl, tb_of (List.mem_append_left _ (List.mem_of_getElem? (i := 68) rfl)) rfl, tm_1 14 rfl rfl, ⟨by decide +kernel, by decide +kernel, by decide +kernel⟩⟩
set_option maxHeartbeats 4000000 in
set_option maxRecDepth 100000 in
theorem mv_X12_qPartOf : MV yX12_qPartOf cX12_qPartOf 3 (Option.some FieldType.long) 2 := ⟨tm_8 97 rfl rfl, tm_8 96 rfl rfl, tb_of (List.mem_append_left _ (List.mem_of_getElem? (i := 102) rfl)) rfl, tm_1 14 rfl rfl, ⟨by decide +kernel, by decide +kernel, by decide +kernel⟩⟩
set_option maxHeartbeats 4000000 in
set_option maxRecDepth 100000 in
theorem mv_X12_qPartTold : MV yX12_qPartTold cX12_qPartTold 6 (none : Option FieldType) 0 := ⟨tm_7 148 rfl rfl, tm_7 147 rfl rfl, tb_of (List.mem_append_left _ (List.mem_of_getElem? (i := 64) rfl)) rfl, tm_1 14 rfl rfl, ⟨by decide +kernel, by decide +kernel, by decide +kernel⟩⟩
set_option maxHeartbeats 4000000 in
set_option maxRecDepth 100000 in
theorem mv_X12_qPuts : MV yX12_qPuts cX12_qPuts 3 (none : Option FieldType) 1 := ⟨tm_8 93 rfl rfl, tm_8 92 rfl rfl, tb_of (List.mem_append_left _ (List.mem_of_getElem? (i := 101) rfl)) rfl, tm_1 14 rfl rfl, ⟨by decide +kernel, by decide +kernel, by decide +kernel⟩⟩
set_option maxHeartbeats 4000000 in
set_option maxRecDepth 100000 in
theorem mv_X12_qSums : MV yX12_qSums cX12_qSums 3 (none : Option FieldType) 0 := ⟨tm_7 144 rfl rfl, tm_7 143 rfl rfl, tb_of (List.mem_append_left _ (List.mem_of_getElem? (i := 63) rfl)) rfl, tm_1 14 rfl rfl, ⟨by decide +kernel, by decide +kernel, by decide +kernel⟩⟩
set_option maxHeartbeats 4000000 in
set_option maxRecDepth 100000 in
theorem mv_X12_qTakes : MV yX12_qTakes cX12_qTakes 6 (none : Option FieldType) 3 := ⟨tm_9 83 rfl rfl, tm_9 82 rfl rfl, tb_of (List.mem_append_left _ (List.mem_of_getElem? (i := 135) rfl)) rfl, tm_1 14 rfl rfl, ⟨by decide +kernel, by decide +kernel, by decide +kernel⟩⟩
set_option maxHeartbeats 4000000 in
set_option maxRecDepth 100000 in
theorem mv_X12_qTest : MV yX12_qTest cX12_qTest 3 (none : Option FieldType) 0 := ⟨tm_9 50 rfl rfl, tm_9 49 rfl rfl, tb_of (List.mem_append_left _ (List.mem_of_getElem? (i := 127) rfl)) rfl, tm_1 14 rfl rfl, ⟨by decide +kernel, by decide +kernel, by decide +kernel⟩⟩
set_option maxHeartbeats 4000000 in
set_option maxRecDepth 100000 in
theorem mv_X12_qTold : MV yX12_qTold cX12_qTold 4 (Option.some FieldType.long) 1 := ⟨tm_9 75 rfl rfl, tm_9 74 rfl rfl, tb_of (List.mem_append_left _ (List.mem_of_getElem? (i := 133) rfl)) rfl, tm_1 14 rfl rfl, ⟨by decide +kernel, by decide +kernel, by decide +kernel⟩⟩
set_option maxHeartbeats 4000000 in
set_option maxRecDepth 100000 in
theorem mv_X12_qWordHere : MV yX12_qWordHere cX12_qWordHere 1 (Option.some FieldType.int) 0 := ⟨tm_7 156 rfl rfl, tm_7 155 rfl rfl, tb_of (List.mem_append_left _ (List.mem_of_getElem? (i := 66) rfl)) rfl, tm_1 14 rfl rfl, ⟨by decide +kernel, by decide +kernel, by decide +kernel⟩⟩
set_option maxHeartbeats 4000000 in
set_option maxRecDepth 100000 in
theorem mv_X12_qWordOf : MV yX12_qWordOf cX12_qWordOf 4 (Option.some FieldType.int) 2 := ⟨tm_7 152 rfl rfl, tm_7 151 rfl rfl, tb_of (List.mem_append_left _ (List.mem_of_getElem? (i := 65) rfl)) rfl, tm_1 14 rfl rfl, ⟨by decide +kernel, by decide +kernel, by decide +kernel⟩⟩
set_option maxHeartbeats 4000000 in
set_option maxRecDepth 100000 in
theorem mv_X12_refuses : MV yX12_refuses cX12_refuses 2 (Option.some FieldType.int) 1 := ⟨tm_8 192 rfl rfl, tm_8 191 rfl rfl, tb_of (List.mem_append_left _ (List.mem_of_getElem? (i := 114) rfl)) rfl, tm_1 14 rfl rfl, ⟨by decide +kernel, by decide +kernel, by decide +kernel⟩⟩
set_option maxHeartbeats 4000000 in
set_option maxRecDepth 100000 in
theorem mv_X12_setBehind : MV yX12_setBehind cX12_setBehind 5 (Option.some FieldType.int) 3 := ⟨tm_8 148 rfl rfl, tm_8 147 rfl rfl, tb_of (List.mem_append_left _ (List.mem_of_getElem? (i := 109) rfl)) rfl, tm_1 14 rfl rfl, ⟨by decide +kernel, by decide +kernel, by decide +kernel⟩⟩
set_option maxHeartbeats 4000000 in
set_option maxRecDepth 100000 in
theorem mv_X12_stands : MV yX12_stands cX12_stands 2 (none : Option FieldType) 0 := ⟨tm_7 203 rfl rfl, tm_7 202 rfl rfl, tb_of (List.mem_append_left _ (List.mem_of_getElem? (i := 77) rfl)) rfl, tm_1 14 rfl rfl, ⟨by decide +kernel, by decide +kernel, by decide +kernel⟩⟩
set_option maxHeartbeats 4000000 in
set_option maxRecDepth 100000 in
theorem mv_X12_statementTold : MV yX12_statementTold cX12_statementTold 2 (none : Option FieldType) 0 := ⟨tm_7 98 rfl rfl, tm_7 97 rfl rfl, tb_of (List.mem_append_left _ (List.mem_of_getElem? (i := 52) rfl)) rfl, tm_1 14 rfl rfl, ⟨by decide +kernel, by decide +kernel, by decide +kernel⟩⟩
set_option maxHeartbeats 4000000 in
set_option maxRecDepth 100000 in
theorem mv_X12_stepGoes : MV yX12_stepGoes cX12_stepGoes 7 (none : Option FieldType) 1 := ⟨tm_8 156 rfl rfl, tm_8 155 rfl rfl, tb_of (List.mem_append_left _ (List.mem_of_getElem? (i := 111) rfl)) rfl, tm_1 14 rfl rfl, ⟨by decide +kernel, by decide +kernel, by decide +kernel⟩⟩
set_option maxHeartbeats 4000000 in
set_option maxRecDepth 100000 in
theorem mv_X12_stoneMany : MV yX12_stoneMany cX12_stoneMany 3 (Option.some FieldType.int) 0 := ⟨tm_7 215 rfl rfl, tm_7 214 rfl rfl, tb_of (List.mem_append_left _ (List.mem_of_getElem? (i := 78) rfl)) rfl, tm_1 14 rfl rfl, ⟨by decide +kernel, by decide +kernel, by decide +kernel⟩⟩
set_option maxHeartbeats 4000000 in
set_option maxRecDepth 100000 in
theorem mv_X12_stoneTold : MV yX12_stoneTold cX12_stoneTold 2 (none : Option FieldType) 0 := ⟨tm_7 110 rfl rfl, tm_7 109 rfl rfl, tb_of (List.mem_append_left _ (List.mem_of_getElem? (i := 55) rfl)) rfl, tm_1 14 rfl rfl, ⟨by decide +kernel, by decide +kernel, by decide +kernel⟩⟩
set_option maxHeartbeats 4000000 in
set_option maxRecDepth 100000 in
theorem mv_X12_takes : MV yX12_takes cX12_takes 2 (Option.some FieldType.boolean) 1 := ⟨tm_7 61 rfl rfl, tm_7 60 rfl rfl, tb_of (List.mem_append_left _ (List.mem_of_getElem? (i := 45) rfl)) rfl, tm_1 14 rfl rfl, ⟨by decide +kernel, by decide +kernel, by decide +kernel⟩⟩
set_option maxHeartbeats 4000000 in
set_option maxRecDepth 100000 in
theorem mv_X12_takesSign : MV yX12_takesSign cX12_takesSign 2 (Option.some FieldType.boolean) 1 := ⟨tm_7 94 rfl rfl, tm_7 93 rfl rfl, tb_of (List.mem_append_left _ (List.mem_of_getElem? (i := 51) rfl)) rfl, tm_1 14 rfl rfl, ⟨by decide +kernel, by decide +kernel, by decide +kernel⟩⟩
set_option maxHeartbeats 4000000 in
set_option maxRecDepth 100000 in
theorem mv_X12_wateredSet : MV yX12_wateredSet cX12_wateredSet 3 (Option.some FieldType.int) 0 := ⟨tm_8 125 rfl rfl, tm_8 124 rfl rfl, tb_of (List.mem_append_left _ (List.mem_of_getElem? (i := 106) rfl)) rfl, tm_1 14 rfl rfl, ⟨by decide +kernel, by decide +kernel, by decide +kernel⟩⟩
set_option maxHeartbeats 4000000 in
set_option maxRecDepth 100000 in
theorem mv_X12_whoCan : MV yX12_whoCan cX12_whoCan 3 (Option.some FieldType.int) 0 := ⟨tm_8 200 rfl rfl, tm_8 199 rfl rfl, tb_of (List.mem_append_left _ (List.mem_of_getElem? (i := 115) rfl)) rfl, tm_1 14 rfl rfl, ⟨by decide +kernel, by decide +kernel, by decide +kernel⟩⟩
set_option maxHeartbeats 4000000 in
set_option maxRecDepth 100000 in
theorem mv_X12_writes : MV yX12_writes cX12_writes 2 (none : Option FieldType) 1 := ⟨tm_9 91 rfl rfl, tm_9 90 rfl rfl, tb_of (List.mem_append_left _ (List.mem_of_getElem? (i := 136) rfl)) rfl, tm_1 14 rfl rfl, ⟨by decide +kernel, by decide +kernel, by decide +kernel⟩⟩
set_option maxHeartbeats 4000000 in
set_option maxRecDepth 100000 in
theorem mv_X12_yearGoes : MV yX12_yearGoes cX12_yearGoes 4 (Option.some FieldType.int) 1 := ⟨tm_8 236 rfl rfl, tm_8 235 rfl rfl, tb_of (List.mem_append_left _ (List.mem_of_getElem? (i := 121) rfl)) rfl, tm_1 14 rfl rfl, ⟨by decide +kernel, by decide +kernel, by decide +kernel⟩⟩
set_option maxHeartbeats 4000000 in
set_option maxRecDepth 100000 in
theorem mv_X1_begin : MV yX1_begin cX1_begin 2 (none : Option FieldType) 1 := ⟨tm_3 214 rfl rfl, tm_3 212 rfl rfl, tm_3 213 rfl rfl, tm_1 7 rfl rfl, ⟨by decide +kernel, by decide +kernel, by decide +kernel⟩⟩
set_option maxHeartbeats 4000000 in
set_option maxRecDepth 100000 in
theorem mv_X1_copy : MV yX1_copy cX1_copy 2 (none : Option FieldType) 1 := ⟨tm_4 173 rfl rfl, tm_4 171 rfl rfl, tm_4 172 rfl rfl, tm_1 7 rfl rfl, ⟨by decide +kernel, by decide +kernel, by decide +kernel⟩⟩
set_option maxHeartbeats 4000000 in
set_option maxRecDepth 100000 in
theorem mv_X1_flows : MV yX1_flows cX1_flows 3 (Option.some FieldType.boolean) 2 := ⟨tm_4 87 rfl rfl, tm_4 85 rfl rfl, tm_4 86 rfl rfl, tm_1 7 rfl rfl, ⟨by decide +kernel, by decide +kernel, by decide +kernel⟩⟩
set_option maxHeartbeats 4000000 in
set_option maxRecDepth 100000 in
theorem mv_X1_pies : MV yX1_pies cX1_pies 6 (Option.some FieldType.int) 0 := ⟨tm_4 3 rfl rfl, tm_4 1 rfl rfl, tm_4 2 rfl rfl, tm_1 7 rfl rfl, ⟨by decide +kernel, by decide +kernel, by decide +kernel⟩⟩
set_option maxHeartbeats 4000000 in
set_option maxRecDepth 100000 in
theorem mv_X1_stones : MV yX1_stones cX1_stones 6 (Option.some FieldType.int) 0 := ⟨tm_3 239 rfl rfl, tm_3 237 rfl rfl, tm_3 238 rfl rfl, tm_1 7 rfl rfl, ⟨by decide +kernel, by decide +kernel, by decide +kernel⟩⟩
set_option maxHeartbeats 4000000 in
set_option maxRecDepth 100000 in
theorem mv_X2_fewestFor : MV yX2_fewestFor cX2_fewestFor 5 (Option.some FieldType.int) 1 := ⟨tm_4 160 rfl rfl, tm_4 158 rfl rfl, tm_4 159 rfl rfl, tm_1 9 rfl rfl, ⟨by decide +kernel, by decide +kernel, by decide +kernel⟩⟩
set_option maxHeartbeats 4000000 in
set_option maxRecDepth 100000 in
theorem mv_X2_goOn : MV yX2_goOn cX2_goOn 8 (none : Option FieldType) 3 := ⟨tm_4 154 rfl rfl, tm_4 153 rfl rfl, tb_of (List.mem_append_left _ (List.mem_of_getElem? (i := 27) rfl)) rfl, tm_1 9 rfl rfl, ⟨by decide +kernel, by decide +kernel, by decide +kernel⟩⟩
set_option maxHeartbeats 4000000 in
set_option maxRecDepth 100000 in
theorem mv_X2_reach : MV yX2_reach cX2_reach 8 (none : Option FieldType) 4 := ⟨tm_4 150 rfl rfl, tm_4 149 rfl rfl, tb_of (List.mem_append_left _ (List.mem_of_getElem? (i := 26) rfl)) rfl, tm_1 9 rfl rfl, ⟨by decide +kernel, by decide +kernel, by decide +kernel⟩⟩
set_option maxHeartbeats 4000000 in
set_option maxRecDepth 100000 in
theorem mv_X2_search : MV yX2_search cX2_search 4 (none : Option FieldType) 2 := ⟨tm_4 145 rfl rfl, tm_4 143 rfl rfl, tm_4 144 rfl rfl, tm_1 9 rfl rfl, ⟨by decide +kernel, by decide +kernel, by decide +kernel⟩⟩
set_option maxHeartbeats 4000000 in
set_option maxRecDepth 100000 in
theorem mv_X3_forget : MV yX3_forget cX3_forget 1 (none : Option FieldType) 0 := ⟨tm_3 222 rfl rfl, tm_3 220 rfl rfl, tm_3 221 rfl rfl, tm_1 8 rfl rfl, ⟨by decide +kernel, by decide +kernel, by decide +kernel⟩⟩
set_option maxHeartbeats 4000000 in
set_option maxRecDepth 100000 in
theorem mv_X3_keep : MV yX3_keep cX3_keep 5 (Option.some FieldType.int) 4 := ⟨tm_5 36 rfl rfl, tm_5 34 rfl rfl, tm_5 35 rfl rfl, tm_1 8 rfl rfl, ⟨by decide +kernel, by decide +kernel, by decide +kernel⟩⟩
set_option maxHeartbeats 4000000 in
set_option maxRecDepth 100000 in
theorem mv_X3_remember : MV yX3_remember cX3_remember 2 (none : Option FieldType) 1 := ⟨tm_5 26 rfl rfl, tm_5 24 rfl rfl, tm_5 25 rfl rfl, tm_1 8 rfl rfl, ⟨by decide +kernel, by decide +kernel, by decide +kernel⟩⟩
set_option maxHeartbeats 4000000 in
set_option maxRecDepth 100000 in
theorem mv_X3_restore : MV yX3_restore cX3_restore 2 (Option.some FieldType.boolean) 1 := ⟨tm_5 68 rfl rfl, tm_5 66 rfl rfl, tm_5 67 rfl rfl, tm_1 8 rfl rfl, ⟨by decide +kernel, by decide +kernel, by decide +kernel⟩⟩
set_option maxHeartbeats 4000000 in
set_option maxRecDepth 100000 in
theorem mv_X3_tell : MV yX3_tell cX3_tell 3 (Option.some FieldType.int) 2 := ⟨tm_4 51 rfl rfl, tm_4 49 rfl rfl, tm_4 50 rfl rfl, tm_1 8 rfl rfl, ⟨by decide +kernel, by decide +kernel, by decide +kernel⟩⟩
set_option maxHeartbeats 4000000 in
set_option maxRecDepth 100000 in
theorem mv_X4_checkOf : MS yX4_checkOf cX4_checkOf 4 (Option.some FieldType.int) 2 := ⟨tm_5 126 rfl rfl, tm_5 125 rfl rfl, tm_1 13 rfl rfl, ⟨by decide +kernel, by decide +kernel, by decide +kernel⟩⟩
set_option maxHeartbeats 4000000 in
set_option maxRecDepth 100000 in
theorem mv_X4_isOf : MS yX4_isOf cX4_isOf 6 (Option.some FieldType.boolean) 2 := ⟨tm_5 137 rfl rfl, tm_5 136 rfl rfl, tm_1 13 rfl rfl, ⟨by decide +kernel, by decide +kernel, by decide +kernel⟩⟩
set_option maxHeartbeats 4000000 in
set_option maxRecDepth 100000 in
theorem mv_X4_show : MS yX4_show cX4_show 5 (none : Option FieldType) 3 := ⟨tm_5 143 rfl rfl, tm_5 142 rfl rfl, tm_1 13 rfl rfl, ⟨by decide +kernel, by decide +kernel, by decide +kernel⟩⟩
set_option maxHeartbeats 4000000 in
set_option maxRecDepth 100000 in
theorem mv_X4_write : MV yX4_write cX4_write 4 (none : Option FieldType) 2 := ⟨tm_5 122 rfl rfl, tm_5 120 rfl rfl, tm_5 121 rfl rfl, tm_1 13 rfl rfl, ⟨by decide +kernel, by decide +kernel, by decide +kernel⟩⟩
set_option maxHeartbeats 4000000 in
set_option maxRecDepth 100000 in
theorem mv_X4_yearOf : MS yX4_yearOf cX4_yearOf 1 (Option.some FieldType.int) 1 := ⟨tm_5 140 rfl rfl, tm_5 139 rfl rfl, tm_1 13 rfl rfl, ⟨by decide +kernel, by decide +kernel, by decide +kernel⟩⟩
set_option maxHeartbeats 4000000 in
set_option maxRecDepth 100000 in
theorem mv_X5_beside : MV yX5_beside cX5_beside 3 (Option.some FieldType.int) 2 := ⟨tm_4 76 rfl rfl, tm_4 74 rfl rfl, tm_4 75 rfl rfl, tm_1 5 rfl rfl, ⟨by decide +kernel, by decide +kernel, by decide +kernel⟩⟩
set_option maxHeartbeats 4000000 in
set_option maxRecDepth 100000 in
theorem mv_X5_clear : MV yX5_clear cX5_clear 1 (none : Option FieldType) 0 := ⟨tm_2 234 rfl rfl, tm_2 232 rfl rfl, tm_2 233 rfl rfl, tm_1 5 rfl rfl, ⟨by decide +kernel, by decide +kernel, by decide +kernel⟩⟩
set_option maxHeartbeats 4000000 in
set_option maxRecDepth 100000 in
theorem mv_X5_columnOf : MV yX5_columnOf cX5_columnOf 2 (Option.some FieldType.int) 1 := ⟨tm_4 35 rfl rfl, tm_4 33 rfl rfl, tm_4 34 rfl rfl, tm_1 5 rfl rfl, ⟨by decide +kernel, by decide +kernel, by decide +kernel⟩⟩
set_option maxHeartbeats 4000000 in
set_option maxRecDepth 100000 in
theorem mv_X5_isCaller : MV yX5_isCaller cX5_isCaller 2 (Option.some FieldType.boolean) 1 := ⟨tm_4 19 rfl rfl, tm_4 17 rfl rfl, tm_4 18 rfl rfl, tm_1 5 rfl rfl, ⟨by decide +kernel, by decide +kernel, by decide +kernel⟩⟩
set_option maxHeartbeats 4000000 in
set_option maxRecDepth 100000 in
theorem mv_X5_isFarm : MV yX5_isFarm cX5_isFarm 2 (Option.some FieldType.boolean) 1 := ⟨tm_4 12 rfl rfl, tm_4 10 rfl rfl, tm_4 11 rfl rfl, tm_1 5 rfl rfl, ⟨by decide +kernel, by decide +kernel, by decide +kernel⟩⟩
set_option maxHeartbeats 4000000 in
set_option maxRecDepth 100000 in
theorem mv_X5_isNamed : MV yX5_isNamed cX5_isNamed 3 (Option.some FieldType.boolean) 1 := ⟨tm_3 144 rfl rfl, tm_3 142 rfl rfl, tm_3 143 rfl rfl, tm_1 5 rfl rfl, ⟨by decide +kernel, by decide +kernel, by decide +kernel⟩⟩
set_option maxHeartbeats 4000000 in
set_option maxRecDepth 100000 in
theorem mv_X5_placeOf : MV yX5_placeOf cX5_placeOf 4 (Option.some FieldType.int) 2 := ⟨tm_4 27 rfl rfl, tm_4 25 rfl rfl, tm_4 26 rfl rfl, tm_1 5 rfl rfl, ⟨by decide +kernel, by decide +kernel, by decide +kernel⟩⟩
set_option maxHeartbeats 4000000 in
set_option maxRecDepth 100000 in
theorem mv_X5_places : MV yX5_places cX5_places 1 (Option.some FieldType.int) 0 := ⟨tm_4 218 rfl rfl, tm_4 216 rfl rfl, tm_4 217 rfl rfl, tm_1 5 rfl rfl, ⟨by decide +kernel, by decide +kernel, by decide +kernel⟩⟩
set_option maxHeartbeats 4000000 in
set_option maxRecDepth 100000 in
theorem mv_X5_rowOf : MV yX5_rowOf cX5_rowOf 2 (Option.some FieldType.int) 1 := ⟨tm_4 39 rfl rfl, tm_4 37 rfl rfl, tm_4 38 rfl rfl, tm_1 5 rfl rfl, ⟨by decide +kernel, by decide +kernel, by decide +kernel⟩⟩
set_option maxHeartbeats 4000000 in
set_option maxRecDepth 100000 in
theorem mv_X6_addMissingSums : MV yX6_addMissingSums cX6_addMissingSums 1 (none : Option FieldType) 0 := ⟨tm_3 209 rfl rfl, tm_3 208 rfl rfl, tb_of (List.mem_append_left _ (List.mem_of_getElem? (i := 20) rfl)) rfl, tm_1 6 rfl rfl, ⟨by decide +kernel, by decide +kernel, by decide +kernel⟩⟩
set_option maxHeartbeats 4000000 in
set_option maxRecDepth 100000 in
theorem mv_X6_hasMore : MV yX6_hasMore cX6_hasMore 1 (Option.some FieldType.boolean) 0 := ⟨tm_3 99 rfl rfl, tm_3 98 rfl rfl, tb_of (List.mem_append_left _ (List.mem_of_getElem? (i := 3) rfl)) rfl, tm_1 6 rfl rfl, ⟨by decide +kernel, by decide +kernel, by decide +kernel⟩⟩
set_option maxHeartbeats 4000000 in
set_option maxRecDepth 100000 in
theorem mv_X6_isFull : MV yX6_isFull cX6_isFull 2 (Option.some FieldType.boolean) 1 := ⟨tm_3 109 rfl rfl, tm_3 108 rfl rfl, tb_of (List.mem_append_left _ (List.mem_of_getElem? (i := 5) rfl)) rfl, tm_1 6 rfl rfl, ⟨by decide +kernel, by decide +kernel, by decide +kernel⟩⟩
set_option maxHeartbeats 4000000 in
set_option maxRecDepth 100000 in
theorem mv_X6_readCaller : MV yX6_readCaller cX6_readCaller 2 (none : Option FieldType) 0 := ⟨tm_3 151 rfl rfl, tm_3 150 rfl rfl, tb_of (List.mem_append_left _ (List.mem_of_getElem? (i := 11) rfl)) rfl, tm_1 6 rfl rfl, ⟨by decide +kernel, by decide +kernel, by decide +kernel⟩⟩
set_option maxHeartbeats 4000000 in
set_option maxRecDepth 100000 in
theorem mv_X6_readFarm : MV yX6_readFarm cX6_readFarm 3 (none : Option FieldType) 0 := ⟨tm_3 131 rfl rfl, tm_3 130 rfl rfl, tb_of (List.mem_append_left _ (List.mem_of_getElem? (i := 9) rfl)) rfl, tm_1 6 rfl rfl, ⟨by decide +kernel, by decide +kernel, by decide +kernel⟩⟩
set_option maxHeartbeats 4000000 in
set_option maxRecDepth 100000 in
theorem mv_X6_readHigh : MV yX6_readHigh cX6_readHigh 2 (none : Option FieldType) 0 := ⟨tm_3 119 rfl rfl, tm_3 118 rfl rfl, tb_of (List.mem_append_left _ (List.mem_of_getElem? (i := 6) rfl)) rfl, tm_1 6 rfl rfl, ⟨by decide +kernel, by decide +kernel, by decide +kernel⟩⟩
set_option maxHeartbeats 4000000 in
set_option maxRecDepth 100000 in
theorem mv_X6_readNewName : MV yX6_readNewName cX6_readNewName 3 (Option.some FieldType.int) 0 := ⟨tm_3 135 rfl rfl, tm_3 134 rfl rfl, tb_of (List.mem_append_left _ (List.mem_of_getElem? (i := 10) rfl)) rfl, tm_1 6 rfl rfl, ⟨by decide +kernel, by decide +kernel, by decide +kernel⟩⟩
set_option maxHeartbeats 4000000 in
set_option maxRecDepth 100000 in
theorem mv_X6_readPlace : MV yX6_readPlace cX6_readPlace 3 (Option.some FieldType.int) 0 := ⟨tm_3 123 rfl rfl, tm_3 122 rfl rfl, tb_of (List.mem_append_left _ (List.mem_of_getElem? (i := 7) rfl)) rfl, tm_1 6 rfl rfl, ⟨by decide +kernel, by decide +kernel, by decide +kernel⟩⟩
set_option maxHeartbeats 4000000 in
set_option maxRecDepth 100000 in
theorem mv_X6_readPlain : MV yX6_readPlain cX6_readPlain 3 (Option.some FieldType.int) 1 := ⟨tm_2 230 rfl rfl, tm_2 228 rfl rfl, tm_2 229 rfl rfl, tm_1 6 rfl rfl, ⟨by decide +kernel, by decide +kernel, by decide +kernel⟩⟩
set_option maxHeartbeats 4000000 in
set_option maxRecDepth 100000 in
theorem mv_X6_readSides : MV yX6_readSides cX6_readSides 1 (none : Option FieldType) 0 := ⟨tm_3 17 rfl rfl, tm_3 16 rfl rfl, tb_of (List.mem_append_left _ (List.mem_of_getElem? (i := 1) rfl)) rfl, tm_1 6 rfl rfl, ⟨by decide +kernel, by decide +kernel, by decide +kernel⟩⟩
set_option maxHeartbeats 4000000 in
set_option maxRecDepth 100000 in
theorem mv_X6_readStatement : MV yX6_readStatement cX6_readStatement 2 (none : Option FieldType) 0 := ⟨tm_3 103 rfl rfl, tm_3 102 rfl rfl, tb_of (List.mem_append_left _ (List.mem_of_getElem? (i := 4) rfl)) rfl, tm_1 6 rfl rfl, ⟨by decide +kernel, by decide +kernel, by decide +kernel⟩⟩
set_option maxHeartbeats 4000000 in
set_option maxRecDepth 100000 in
theorem mv_X6_readStone : MV yX6_readStone cX6_readStone 2 (none : Option FieldType) 0 := ⟨tm_3 127 rfl rfl, tm_3 126 rfl rfl, tb_of (List.mem_append_left _ (List.mem_of_getElem? (i := 8) rfl)) rfl, tm_1 6 rfl rfl, ⟨by decide +kernel, by decide +kernel, by decide +kernel⟩⟩
set_option maxHeartbeats 4000000 in
set_option maxRecDepth 100000 in
theorem mv_X7_fits : MV yX7_fits cX7_fits 3 (Option.some FieldType.boolean) 1 := ⟨tm_5 6 rfl rfl, tm_5 4 rfl rfl, tm_5 5 rfl rfl, tm_1 10 rfl rfl, ⟨by decide +kernel, by decide +kernel, by decide +kernel⟩⟩
set_option maxHeartbeats 4000000 in
set_option maxRecDepth 100000 in
theorem mv_X7_isSight : MS yX7_isSight cX7_isSight 5 (Option.some FieldType.boolean) 2 := ⟨tm_4 233 rfl rfl, tm_4 232 rfl rfl, tm_1 10 rfl rfl, ⟨by decide +kernel, by decide +kernel, by decide +kernel⟩⟩
set_option maxHeartbeats 4000000 in
set_option maxRecDepth 100000 in
theorem mv_X7_take : MV yX7_take cX7_take 4 (Option.some FieldType.boolean) 2 := ⟨tm_4 230 rfl rfl, tm_4 228 rfl rfl, tm_4 229 rfl rfl, tm_1 10 rfl rfl, ⟨by decide +kernel, by decide +kernel, by decide +kernel⟩⟩
set_option maxHeartbeats 4000000 in
set_option maxRecDepth 100000 in
theorem mv_X8_begin : MV yX8_begin cX8_begin 3 (none : Option FieldType) 2 := ⟨tm_3 161 rfl rfl, tm_3 160 rfl rfl, tb_of (List.mem_append_left _ (List.mem_of_getElem? (i := 12) rfl)) rfl, tm_1 4 rfl rfl, ⟨by decide +kernel, by decide +kernel, by decide +kernel⟩⟩
set_option maxHeartbeats 4000000 in
set_option maxRecDepth 100000 in
theorem mv_X8_opens : MV yX8_opens cX8_opens 2 (Option.some FieldType.boolean) 1 := ⟨tm_3 184 rfl rfl, tm_3 183 rfl rfl, tb_of (List.mem_append_left _ (List.mem_of_getElem? (i := 16) rfl)) rfl, tm_1 4 rfl rfl, ⟨by decide +kernel, by decide +kernel, by decide +kernel⟩⟩
set_option maxHeartbeats 4000000 in
set_option maxRecDepth 100000 in
theorem mv_X8_readBoth : MV yX8_readBoth cX8_readBoth 3 (none : Option FieldType) 1 := ⟨tm_5 91 rfl rfl, tm_5 90 rfl rfl, tb_of (List.mem_append_left _ (List.mem_of_getElem? (i := 38) rfl)) rfl, tm_1 4 rfl rfl, ⟨by decide +kernel, by decide +kernel, by decide +kernel⟩⟩
set_option maxHeartbeats 4000000 in
set_option maxRecDepth 100000 in
theorem mv_X8_readComparison : MV yX8_readComparison cX8_readComparison 3 (none : Option FieldType) 1 := ⟨tm_5 101 rfl rfl, tm_5 100 rfl rfl, tb_of (List.mem_append_left _ (List.mem_of_getElem? (i := 40) rfl)) rfl, tm_1 4 rfl rfl, ⟨by decide +kernel, by decide +kernel, by decide +kernel⟩⟩
set_option maxHeartbeats 4000000 in
set_option maxRecDepth 100000 in
theorem mv_X8_readFact : MV yX8_readFact cX8_readFact 2 (none : Option FieldType) 1 := ⟨tm_5 95 rfl rfl, tm_5 94 rfl rfl, tb_of (List.mem_append_left _ (List.mem_of_getElem? (i := 39) rfl)) rfl, tm_1 4 rfl rfl, ⟨by decide +kernel, by decide +kernel, by decide +kernel⟩⟩
set_option maxHeartbeats 4000000 in
set_option maxRecDepth 100000 in
theorem mv_X8_readNamedFact : MV yX8_readNamedFact cX8_readNamedFact 2 (none : Option FieldType) 0 := ⟨tm_3 204 rfl rfl, tm_3 203 rfl rfl, tb_of (List.mem_append_left _ (List.mem_of_getElem? (i := 19) rfl)) rfl, tm_1 4 rfl rfl, ⟨by decide +kernel, by decide +kernel, by decide +kernel⟩⟩
set_option maxHeartbeats 4000000 in
set_option maxRecDepth 100000 in
theorem mv_X8_readOfCaller : MV yX8_readOfCaller cX8_readOfCaller 3 (none : Option FieldType) 1 := ⟨tm_3 199 rfl rfl, tm_3 198 rfl rfl, tb_of (List.mem_append_left _ (List.mem_of_getElem? (i := 18) rfl)) rfl, tm_1 4 rfl rfl, ⟨by decide +kernel, by decide +kernel, by decide +kernel⟩⟩
set_option maxHeartbeats 4000000 in
set_option maxRecDepth 100000 in
theorem mv_X8_readPair : MV yX8_readPair cX8_readPair 3 (none : Option FieldType) 1 := ⟨tm_3 193 rfl rfl, tm_3 192 rfl rfl, tb_of (List.mem_append_left _ (List.mem_of_getElem? (i := 17) rfl)) rfl, tm_1 4 rfl rfl, ⟨by decide +kernel, by decide +kernel, by decide +kernel⟩⟩
set_option maxHeartbeats 4000000 in
set_option maxRecDepth 100000 in
theorem mv_X8_readPart : MV yX8_readPart cX8_readPart 2 (none : Option FieldType) 1 := ⟨tm_3 174 rfl rfl, tm_3 173 rfl rfl, tb_of (List.mem_append_left _ (List.mem_of_getElem? (i := 15) rfl)) rfl, tm_1 4 rfl rfl, ⟨by decide +kernel, by decide +kernel, by decide +kernel⟩⟩
set_option maxHeartbeats 4000000 in
set_option maxRecDepth 100000 in
theorem mv_X8_readProduct : MV yX8_readProduct cX8_readProduct 4 (none : Option FieldType) 1 := ⟨tm_3 170 rfl rfl, tm_3 169 rfl rfl, tb_of (List.mem_append_left _ (List.mem_of_getElem? (i := 14) rfl)) rfl, tm_1 4 rfl rfl, ⟨by decide +kernel, by decide +kernel, by decide +kernel⟩⟩
set_option maxHeartbeats 4000000 in
set_option maxRecDepth 100000 in
theorem mv_X8_readQuestion : MV yX8_readQuestion cX8_readQuestion 3 (Option.some FieldType.int) 1 := ⟨tm_5 81 rfl rfl, tm_5 79 rfl rfl, tm_5 80 rfl rfl, tm_1 4 rfl rfl, ⟨by decide +kernel, by decide +kernel, by decide +kernel⟩⟩
set_option maxHeartbeats 4000000 in
set_option maxRecDepth 100000 in
theorem mv_X8_readSum : MV yX8_readSum cX8_readSum 4 (none : Option FieldType) 1 := ⟨tm_3 166 rfl rfl, tm_3 165 rfl rfl, tb_of (List.mem_append_left _ (List.mem_of_getElem? (i := 13) rfl)) rfl, tm_1 4 rfl rfl, ⟨by decide +kernel, by decide +kernel, by decide +kernel⟩⟩
set_option maxHeartbeats 4000000 in
set_option maxRecDepth 100000 in
theorem mv_X8_readSumOf : MV yX8_readSumOf cX8_readSumOf 3 (none : Option FieldType) 2 := ⟨tm_3 157 rfl rfl, tm_3 155 rfl rfl, tm_3 156 rfl rfl, tm_1 4 rfl rfl, ⟨by decide +kernel, by decide +kernel, by decide +kernel⟩⟩
set_option maxHeartbeats 4000000 in
set_option maxRecDepth 100000 in
theorem mv_X8_readTest : MV yX8_readTest cX8_readTest 3 (none : Option FieldType) 1 := ⟨tm_5 87 rfl rfl, tm_5 86 rfl rfl, tb_of (List.mem_append_left _ (List.mem_of_getElem? (i := 37) rfl)) rfl, tm_1 4 rfl rfl, ⟨by decide +kernel, by decide +kernel, by decide +kernel⟩⟩
set_option maxHeartbeats 4000000 in
set_option maxRecDepth 100000 in
theorem mv_X9_advance : MV yX9_advance cX9_advance 3 (none : Option FieldType) 0 := ⟨tm_3 7 rfl rfl, tm_3 5 rfl rfl, tm_3 6 rfl rfl, tm_1 2 rfl rfl, ⟨by decide +kernel, by decide +kernel, by decide +kernel⟩⟩
set_option maxHeartbeats 4000000 in
set_option maxRecDepth 100000 in
theorem mv_X9_append : MV yX9_append cX9_append 3 (none : Option FieldType) 1 := ⟨tm_2 218 rfl rfl, tm_2 216 rfl rfl, tm_2 217 rfl rfl, tm_1 2 rfl rfl, ⟨by decide +kernel, by decide +kernel, by decide +kernel⟩⟩
set_option maxHeartbeats 4000000 in
set_option maxRecDepth 100000 in
theorem mv_X9_fail : MV yX9_fail cX9_fail 3 (none : Option FieldType) 2 := ⟨tm_3 82 rfl rfl, tm_3 80 rfl rfl, tm_3 81 rfl rfl, tm_1 2 rfl rfl, ⟨by decide +kernel, by decide +kernel, by decide +kernel⟩⟩
set_option maxHeartbeats 4000000 in
set_option maxRecDepth 100000 in
theorem mv_X9_isSign : MV yX9_isSign cX9_isSign 2 (Option.some FieldType.boolean) 1 := ⟨tm_3 95 rfl rfl, tm_3 93 rfl rfl, tm_3 94 rfl rfl, tm_1 2 rfl rfl, ⟨by decide +kernel, by decide +kernel, by decide +kernel⟩⟩
set_option maxHeartbeats 4000000 in
set_option maxRecDepth 100000 in
theorem mv_X9_isSpelled : MV yX9_isSpelled cX9_isSpelled 4 (Option.some FieldType.boolean) 2 := ⟨tm_3 78 rfl rfl, tm_3 77 rfl rfl, tb_of (List.mem_append_left _ (List.mem_of_getElem? (i := 2) rfl)) rfl, tm_1 2 rfl rfl, ⟨by decide +kernel, by decide +kernel, by decide +kernel⟩⟩
set_option maxHeartbeats 4000000 in
set_option maxRecDepth 100000 in
theorem mv_X9_kindOf : MS yX9_kindOf cX9_kindOf 1 (Option.some FieldType.int) 1 := ⟨tm_3 10 rfl rfl, tm_3 9 rfl rfl, tm_1 2 rfl rfl, ⟨by decide +kernel, by decide +kernel, by decide +kernel⟩⟩
set_option maxHeartbeats 4000000 in
set_option maxRecDepth 100000 in
theorem mv_X9_letterOf : MS yX9_letterOf cX9_letterOf 2 (Option.some FieldType.int) 2 := ⟨tm_4 15 rfl rfl, tm_4 14 rfl rfl, tm_1 2 rfl rfl, ⟨by decide +kernel, by decide +kernel, by decide +kernel⟩⟩
set_option maxHeartbeats 4000000 in
set_option maxRecDepth 100000 in
theorem mv_X9_rewind : MV yX9_rewind cX9_rewind 1 (none : Option FieldType) 0 := ⟨tm_3 3 rfl rfl, tm_3 1 rfl rfl, tm_3 2 rfl rfl, tm_1 2 rfl rfl, ⟨by decide +kernel, by decide +kernel, by decide +kernel⟩⟩
set_option maxHeartbeats 4000000 in
set_option maxRecDepth 100000 in
theorem mv_X9_takeName : MV yX9_takeName cX9_takeName 3 (Option.some FieldType.int) 0 := ⟨tm_3 139 rfl rfl, tm_3 137 rfl rfl, tm_3 138 rfl rfl, tm_1 2 rfl rfl, ⟨by decide +kernel, by decide +kernel, by decide +kernel⟩⟩
set_option maxHeartbeats 4000000 in
set_option maxRecDepth 100000 in
theorem mv_X9_takeNumber : MV yX9_takeNumber cX9_takeNumber 5 (Option.some FieldType.int) 2 := ⟨tm_3 86 rfl rfl, tm_3 84 rfl rfl, tm_3 85 rfl rfl, tm_1 2 rfl rfl, ⟨by decide +kernel, by decide +kernel, by decide +kernel⟩⟩
set_option maxHeartbeats 4000000 in
set_option maxRecDepth 100000 in
theorem mv_X9_takeSign : MV yX9_takeSign cX9_takeSign 2 (none : Option FieldType) 1 := ⟨tm_3 91 rfl rfl, tm_3 89 rfl rfl, tm_3 90 rfl rfl, tm_1 2 rfl rfl, ⟨by decide +kernel, by decide +kernel, by decide +kernel⟩⟩
set_option maxHeartbeats 4000000 in
set_option maxRecDepth 100000 in
theorem mv_X9_takeWord : MV yX9_takeWord cX9_takeWord 2 (none : Option FieldType) 1 := ⟨tm_3 22 rfl rfl, tm_3 20 rfl rfl, tm_3 21 rfl rfl, tm_1 2 rfl rfl, ⟨by decide +kernel, by decide +kernel, by decide +kernel⟩⟩
set_option maxHeartbeats 4000000 in
set_option maxRecDepth 100000 in
theorem mv_X9_wordIn : MV yX9_wordIn cX9_wordIn 5 (Option.some FieldType.int) 1 := ⟨tm_3 26 rfl rfl, tm_3 24 rfl rfl, tm_3 25 rfl rfl, tm_1 2 rfl rfl, ⟨by decide +kernel, by decide +kernel, by decide +kernel⟩⟩
set_option maxHeartbeats 4000000 in
set_option maxRecDepth 100000 in
theorem cw_RX11_332 : Cond.constantLong RX11 332 (-1000000000000000 : Int64) ∈ TBg := tm_5 77 rfl rfl
set_option maxHeartbeats 4000000 in
set_option maxRecDepth 100000 in
theorem cw_RX11_375 : Cond.constantLong RX11 375 (1103515245 : Int64) ∈ TBg := tm_5 57 rfl rfl
set_option maxHeartbeats 4000000 in
set_option maxRecDepth 100000 in
theorem cw_RX11_377 : Cond.constantLong RX11 377 (12345 : Int64) ∈ TBg := tm_5 58 rfl rfl
set_option maxHeartbeats 4000000 in
set_option maxRecDepth 100000 in
theorem cw_RX11_379 : Cond.constantLong RX11 379 (2147483647 : Int64) ∈ TBg := tm_5 59 rfl rfl
set_option maxHeartbeats 4000000 in
set_option maxRecDepth 100000 in
theorem cw_RX11_381 : Cond.constantLong RX11 381 (64 : Int64) ∈ TBg := tm_5 60 rfl rfl
set_option maxHeartbeats 4000000 in
set_option maxRecDepth 100000 in
theorem cw_RX11_396 : Cond.constantLong RX11 396 (-1 : Int64) ∈ TBg := tm_5 108 rfl rfl
set_option maxHeartbeats 4000000 in
set_option maxRecDepth 100000 in
theorem cw_RX0_46 : Cond.constantLong RX0 46 (-1000000 : Int64) ∈ TBg := tm_4 110 rfl rfl
set_option maxHeartbeats 4000000 in
set_option maxRecDepth 100000 in
theorem cw_RX0_48 : Cond.constantLong RX0 48 (1000000 : Int64) ∈ TBg := tm_4 111 rfl rfl
set_option maxHeartbeats 4000000 in
set_option maxRecDepth 100000 in
theorem cw_RX12_339 : Cond.constantLong RX12 339 (27 : Int64) ∈ TBg := tm_7 131 rfl rfl
set_option maxHeartbeats 4000000 in
set_option maxRecDepth 100000 in
theorem cw_RX12_341 : Cond.constantLong RX12 341 (97 : Int64) ∈ TBg := tm_7 132 rfl rfl
set_option maxHeartbeats 4000000 in
set_option maxRecDepth 100000 in
theorem cw_RX12_527 : Cond.constantLong RX12 527 (9 : Int64) ∈ TBg := tm_9 1 rfl rfl
set_option maxHeartbeats 4000000 in
set_option maxRecDepth 100000 in
theorem cw_RX12_550 : Cond.constantLong RX12 550 (5 : Int64) ∈ TBg := tm_7 232 rfl rfl
set_option maxHeartbeats 4000000 in
set_option maxRecDepth 100000 in
theorem cw_RX12_552 : Cond.constantLong RX12 552 (2 : Int64) ∈ TBg := tm_8 1 rfl rfl
set_option maxHeartbeats 4000000 in
set_option maxRecDepth 100000 in
theorem cw_RX12_610 : Cond.constantLong RX12 610 (1103515245 : Int64) ∈ TBg := tm_9 34 rfl rfl
set_option maxHeartbeats 4000000 in
set_option maxRecDepth 100000 in
theorem cw_RX12_612 : Cond.constantLong RX12 612 (12345 : Int64) ∈ TBg := tm_9 35 rfl rfl
set_option maxHeartbeats 4000000 in
set_option maxRecDepth 100000 in
theorem cw_RX12_614 : Cond.constantLong RX12 614 (2147483648 : Int64) ∈ TBg := tm_9 36 rfl rfl
set_option maxHeartbeats 4000000 in
set_option maxRecDepth 100000 in
theorem cw_RX12_616 : Cond.constantLong RX12 616 (64 : Int64) ∈ TBg := tm_9 37 rfl rfl
set_option maxHeartbeats 4000000 in
set_option maxRecDepth 100000 in
theorem cw_RX12_675 : Cond.constantLong RX12 675 (1000000 : Int64) ∈ TBg := tm_8 113 rfl rfl
set_option maxHeartbeats 4000000 in
set_option maxRecDepth 100000 in
theorem cw_RX12_677 : Cond.constantLong RX12 677 (-1000000 : Int64) ∈ TBg := tm_8 114 rfl rfl
set_option maxHeartbeats 4000000 in
set_option maxRecDepth 100000 in
theorem cw_RX12_690 : Cond.constantLong RX12 690 (-1 : Int64) ∈ TBg := tm_9 67 rfl rfl
set_option maxHeartbeats 4000000 in
set_option maxRecDepth 100000 in
theorem cw_RX12_702 : Cond.constantLong RX12 702 (-1000000000000000 : Int64) ∈ TBg := tm_9 42 rfl rfl
set_option maxHeartbeats 4000000 in
set_option maxRecDepth 100000 in
theorem cw_RJ6_265 : Cond.constant RJ6 265 (1431655765 : Int32) ∈ TBg := tm_4 135 rfl rfl
set_option maxHeartbeats 4000000 in
set_option maxRecDepth 100000 in
theorem cw_RJ6_266 : Cond.constant RJ6 266 (858993459 : Int32) ∈ TBg := tm_4 136 rfl rfl
set_option maxHeartbeats 4000000 in
set_option maxRecDepth 100000 in
theorem cw_RJ6_267 : Cond.constant RJ6 267 (252645135 : Int32) ∈ TBg := tm_4 137 rfl rfl
