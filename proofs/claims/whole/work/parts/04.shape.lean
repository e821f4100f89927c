/-! the cells that the two constructors make, in their order: objects (class, fields) and rows (kind, length) -/
def shp : List zSh := [
  .inl (11, [some (some 1), some (some 26), none, some (some 33), some (some 8), some (some 35), some (some 17), some (some 44), some (some 47), some (some 24), some (some 57), some (some 63), some (some 65), some (some 67)]),
  .inl (10, [some (some 2), some (some 3), some (some 4), some (some 5), some (some 6), some (some 7), none, none, none, none, none, none, none]),
  .inr (0, 16),
  .inr (0, 8),
  .inr (0, 8),
  .inr (0, 8),
  .inr (0, 8),
  .inr (0, 8),
  .inl (1, [some (some 9), some (some 10), none, some (some 11), some (some 12), some (some 13), some (some 14), none, none, some (some 15), none, none, none, some (some 16)]),
  .inr (0, 240),
  .inr (0, 240),
  .inr (0, 16),
  .inr (0, 16),
  .inr (0, 16),
  .inr (0, 16),
  .inr (0, 240),
  .inr (0, 64),
  .inl (5, [some (some 1), some (some 18), some (some 19), some (some 20), some (some 21), some (some 22), none, none, none, none, none, none, none, none, none, some (some 23)]),
  .inr (0, 4),
  .inr (0, 4),
  .inr (0, 8),
  .inr (0, 8),
  .inr (0, 3),
  .inr (0, 6),
  .inl (3, [some (some 1), some (some 8), some (some 25), none, none, none, none]),
  .inr (0, 9),
  .inl (10, [some (some 27), some (some 28), some (some 29), some (some 30), some (some 31), some (some 32), none, none, none, none, none, none, none]),
  .inr (0, 16),
  .inr (0, 8),
  .inr (0, 8),
  .inr (0, 8),
  .inr (0, 8),
  .inr (0, 8),
  .inl (8, [some (some 34), none, none]),
  .inr (0, 260),
  .inl (1, [some (some 36), some (some 37), none, some (some 38), some (some 39), some (some 40), some (some 41), none, none, some (some 42), none, none, none, some (some 43)]),
  .inr (0, 240),
  .inr (0, 240),
  .inr (0, 16),
  .inr (0, 16),
  .inr (0, 16),
  .inr (0, 16),
  .inr (0, 240),
  .inr (0, 64),
  .inl (7, [some (some 45), some (some 46), none]),
  .inr (0, 32),
  .inr (0, 32),
  .inl (4, [some (some 17), some (some 48), some (some 49), some (some 50), some (some 51), none, none, some (some 52), none, some (some 53), some (some 54), some (some 55), some (some 56), none]),
  .inr (0, 27648),
  .inr (0, 16),
  .inr (0, 4),
  .inr (0, 40),
  .inr (0, 6),
  .inr (0, 4),
  .inr (0, 4),
  .inr (0, 4),
  .inr (0, 4),
  .inl (6, [some (some 1), some (some 8), some (some 24), some (some 58), some (some 59), none, some (some 60), some (some 61), some (some 62)]),
  .inr (0, 12),
  .inr (0, 12),
  .inr (2, 8),
  .inr (2, 8),
  .inr (2, 64),
  .inl (2, [some (some 64), none, some none, some none]),
  .inr (0, 6),
  .inl (0, [none, some (some 66)]),
  .inr (0, 6),
  .inl (9, [some (some 68)]),
  .inr (0, 12),
  .inl (12, [none, none, none, none, none, none, none, some (some 70), some (some 71), some (some 72), some (some 73), some (some 74), some (some 75), some (some 76), none, none, none, none, none, none, none, none, none, none, some (some 77), some (some 78), some (some 79), some (some 80), some (some 81), some (some 82), some (some 83), some (some 84), some (some 85), some (some 86), some (some 87), some (some 88), some (some 89), none, none, none, none, none, none, some (some 90), some (some 91), some (some 92), some (some 93), some (some 94), some (some 95), none, some (some 96), some (some 97), some (some 98), none, none, some (some 99), some (some 100), some (some 101), some (some 102), none, some (some 103), some (some 104), none, none, none, none, none, none, none, none, some (some 105), some (some 106), some (some 107), some (some 108), some (some 109), some (some 110)]),
  .inr (0, 16),
  .inr (0, 8),
  .inr (0, 8),
  .inr (0, 8),
  .inr (0, 8),
  .inr (0, 8),
  .inr (1, 260),
  .inr (0, 260),
  .inr (0, 260),
  .inr (0, 16),
  .inr (0, 16),
  .inr (0, 16),
  .inr (0, 16),
  .inr (0, 260),
  .inr (0, 16),
  .inr (0, 16),
  .inr (0, 16),
  .inr (0, 16),
  .inr (0, 260),
  .inr (0, 9),
  .inr (0, 32),
  .inr (0, 32),
  .inr (0, 27648),
  .inr (0, 8),
  .inr (0, 3),
  .inr (0, 8),
  .inr (0, 4),
  .inr (0, 4),
  .inr (0, 4),
  .inr (0, 12),
  .inr (0, 12),
  .inr (2, 8),
  .inr (2, 64),
  .inr (0, 6),
  .inr (0, 12),
  .inr (0, 16),
  .inr (0, 8),
  .inr (0, 8),
  .inr (0, 8),
  .inr (0, 8),
  .inr (0, 8)]
def zN : Nat := 111
set_option maxRecDepth 20000 in
theorem zN_len : shp.length = zN := by decide +kernel
def zNest : List (String × Nat × MethodName × String) := [(RX10, 58, yX11_isBelow, "GiantHeart"), (RX7, 35, yX11_fault, "GiantHeart"), (RX7, 39, yX11_isBelow, "GiantHeart"), (RX5, 34, yX11_isBelow, "GiantHeart"), (RX4, 49, yX11_isBelow, "GiantHeart"), (RX3, 67, yX11_isBelow, "GiantHeart"), (RX6, 54, yX11_fault, "GiantHeart"), (RX6, 71, yX11_isBelow, "GiantHeart"), (RX6, 77, yX11_commonDivisor, "GiantHeart"), (RX2, 34, yX11_isBelow, "GiantHeart"), (RX2, 40, yX11_commonDivisor, "GiantHeart"), (RX0, 15, yX11_isBelow, "GiantHeart"), (RX9, 15, yX11_isBelow, "GiantHeart")]
def zHi : Nat → Int32 := fun j => ([3, 3, 7, 7, 7, 2] : List Int32).getD j 0
def zPo : Nat → Int32 := fun j => ([1, 3, 9] : List Int32).getD j 0
def zBy : List (List Int32) := [[110, 104, 105, 100, 115, 119, 107, 111, 114], [103, 114, 111, 119, 115, 107]]
set_option maxRecDepth 20000 in
theorem inX0 : ∀ w ∈ u_ws RX0 TX0 2, w ∈ zT := zT_ws _ [498, 500] (by decide +kernel) (by decide +kernel)
set_option maxRecDepth 20000 in
theorem inX1 : ∀ w ∈ u_ws RX1 TX1 14, w ∈ zT := zT_ws _ [228, 230, 232, 234, 236, 238, 240, 242, 244, 246, 248, 250, 252, 254] (by decide +kernel) (by decide +kernel)
set_option maxRecDepth 20000 in
theorem inX2 : ∀ w ∈ u_ws RX2 TX2 4, w ∈ zT := zT_ws _ [480, 482, 484, 486] (by decide +kernel) (by decide +kernel)
set_option maxRecDepth 20000 in
theorem inX3 : ∀ w ∈ u_ws RX3 TX3 7, w ∈ zT := zT_ws _ [335, 337, 339, 341, 343, 345, 347] (by decide +kernel) (by decide +kernel)
set_option maxRecDepth 20000 in
theorem inX4 : ∀ w ∈ u_ws RX4 TX4 14, w ∈ zT := zT_ws _ [406, 408, 410, 412, 414, 416, 418, 420, 422, 424, 426, 428, 430, 432] (by decide +kernel) (by decide +kernel)
set_option maxRecDepth 20000 in
theorem inX5 : ∀ w ∈ u_ws RX5 TX5 16, w ∈ zT := zT_ws _ [283, 285, 287, 289, 291, 293, 295, 297, 299, 301, 303, 305, 307, 309, 311, 313] (by decide +kernel) (by decide +kernel)
set_option maxRecDepth 20000 in
theorem inX6 : ∀ w ∈ u_ws RX6 TX6 9, w ∈ zT := zT_ws _ [450, 452, 454, 456, 458, 460, 462, 464, 466] (by decide +kernel) (by decide +kernel)
set_option maxRecDepth 20000 in
theorem inX7 : ∀ w ∈ u_ws RX7 TX7 3, w ∈ zT := zT_ws _ [379, 381, 383] (by decide +kernel) (by decide +kernel)
set_option maxRecDepth 20000 in
theorem inX8 : ∀ w ∈ u_ws RX8 TX8 3, w ∈ zT := zT_ws _ [363, 365, 367] (by decide +kernel) (by decide +kernel)
set_option maxRecDepth 20000 in
theorem inX9 : ∀ w ∈ u_ws RX9 TX9 1, w ∈ zT := zT_ws _ [510] (by decide +kernel) (by decide +kernel)
set_option maxRecDepth 20000 in
theorem inX10 : ∀ w ∈ u_ws RX10 TX10 13, w ∈ zT := zT_ws _ [178, 180, 182, 184, 186, 188, 190, 192, 194, 196, 198, 200, 202] (by decide +kernel) (by decide +kernel)
set_option maxRecDepth 20000 in
theorem inX11 : ∀ w ∈ u_ws RX11 TX11 14, w ∈ zT := zT_ws _ [527, 529, 531, 533, 535, 537, 539, 541, 543, 545, 547, 549, 551, 553] (by decide +kernel) (by decide +kernel)
set_option maxRecDepth 20000 in
theorem inX12 : ∀ w ∈ u_ws RX12 TX12 76, w ∈ zT := zT_ws _ [1352, 1354, 1356, 1358, 1360, 1362, 1364, 1366, 1368, 1370, 1372, 1374, 1376, 1378, 1380, 1382, 1384, 1386, 1388, 1390, 1392, 1394, 1396, 1398, 1400, 1402, 1404, 1406, 1408, 1410, 1412, 1414, 1416, 1418, 1420, 1422, 1424, 1426, 1428, 1430, 1432, 1434, 1436, 1438, 1440, 1442, 1444, 1446, 1448, 1450, 1452, 1454, 1456, 1458, 1460, 1462, 1464, 1466, 1468, 1470, 1472, 1474, 1476, 1478, 1480, 1482, 1484, 1486, 1488, 1490, 1492, 1494, 1496, 1498, 1500, 1502] (by decide +kernel) (by decide +kernel)
