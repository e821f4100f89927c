set_option maxRecDepth 20000 in
theorem lk_X11_104 : zLS' RX11 104 yX11_isBelow cX11_isBelow 2 (some .boolean) 2 := ⟨⟨zT_in 560 (by decide +kernel) (by decide +kernel), zT_in 561 (by decide +kernel) (by decide +kernel), zT_in 106 (by decide +kernel) (by decide +kernel), zT_in 562 (by decide +kernel) (by decide +kernel)⟩, ⟨by decide +kernel, by decide +kernel, by decide +kernel⟩, by decide⟩
set_option maxRecDepth 20000 in
theorem sh_0 : shp[0]? = some (.inl (11, [some (some 1), some (some 26), none, some (some 33), some (some 8), some (some 35), some (some 17), some (some 44), some (some 47), some (some 24), some (some 57), some (some 63), some (some 65), some (some 67)])) := rfl
set_option maxRecDepth 20000 in
theorem cl_X11 : zCl 11 RX11 TX11 14 tyX11 := ⟨rfl, inX11, tyX11_ok, nmX11⟩
set_option maxRecDepth 20000 in
theorem gf_X11_23_0 : zFG RX11 23 0 0 (some (some 1)) := ⟨_, _, _, _, _, _, sh_0, rfl, cl_X11, by decide, zT_in 513 (by decide +kernel) (by decide +kernel)⟩
set_option maxRecDepth 20000 in
theorem sh_1 : shp[1]? = some (.inl (10, [some (some 2), some (some 3), some (some 4), some (some 5), some (some 6), some (some 7), none, none, none, none, none, none, none])) := rfl
set_option maxRecDepth 20000 in
theorem cl_X10 : zCl 10 RX10 TX10 13 tyX10 := ⟨rfl, inX10, tyX10_ok, nmX10⟩
set_option maxRecDepth 20000 in
theorem gf_X11_108_1 : zFG RX11 108 1 0 (some (some 2)) := ⟨_, _, _, _, _, _, sh_1, rfl, cl_X10, by decide, zT_in 142 (by decide +kernel) (by decide +kernel)⟩
set_option maxRecDepth 20000 in
theorem sh_2 : shp[2]? = some (.inr (0, 16)) := rfl
set_option maxRecDepth 20000 in
theorem lk_X12_160 : zLS' RX12 160 yX12_isIsland cX12_isIsland 1 (some .boolean) 1 := ⟨⟨zT_in 1509 (by decide +kernel) (by decide +kernel), zT_in 1510 (by decide +kernel) (by decide +kernel), zT_in 118 (by decide +kernel) (by decide +kernel), zT_in 1511 (by decide +kernel) (by decide +kernel)⟩, ⟨by decide +kernel, by decide +kernel, by decide +kernel⟩, by decide⟩
set_option maxRecDepth 20000 in
theorem lk_X12_163 : zLS' RX12 163 yX12_in cX12_in 3 (some .boolean) 3 := ⟨⟨zT_in 1512 (by decide +kernel) (by decide +kernel), zT_in 1513 (by decide +kernel) (by decide +kernel), zT_in 118 (by decide +kernel) (by decide +kernel), zT_in 1514 (by decide +kernel) (by decide +kernel)⟩, ⟨by decide +kernel, by decide +kernel, by decide +kernel⟩, by decide⟩
set_option maxRecDepth 20000 in
theorem sh_69 : shp[69]? = some (.inl (12, [none, none, none, none, none, none, none, some (some 70), some (some 71), some (some 72), some (some 73), some (some 74), some (some 75), some (some 76), none, none, none, none, none, none, none, none, none, none, some (some 77), some (some 78), some (some 79), some (some 80), some (some 81), some (some 82), some (some 83), some (some 84), some (some 85), some (some 86), some (some 87), some (some 88), some (some 89), none, none, none, none, none, none, some (some 90), some (some 91), some (some 92), some (some 93), some (some 94), some (some 95), none, some (some 96), some (some 97), some (some 98), none, none, some (some 99), some (some 100), some (some 101), some (some 102), none, some (some 103), some (some 104), none, none, none, none, none, none, none, none, some (some 105), some (some 106), some (some 107), some (some 108), some (some 109), some (some 110)])) := rfl
set_option maxRecDepth 20000 in
theorem cl_X12 : zCl 12 RX12 TX12 76 tyX12 := ⟨rfl, inX12, tyX12_ok, nmX12⟩
set_option maxRecDepth 20000 in
theorem gf_X12_7_69 : zFG RX12 7 69 7 (some (some 70)) := ⟨_, _, _, _, _, _, sh_69, rfl, cl_X12, by decide, zT_in 1283 (by decide +kernel) (by decide +kernel)⟩
set_option maxRecDepth 20000 in
theorem sh_70 : shp[70]? = some (.inr (0, 16)) := rfl
set_option maxRecDepth 20000 in
theorem lk_X10_58 : zLN RX10 58 yX11_isBelow cX11_isBelow 2 (some .boolean) 2 := ⟨⟨⟨_, List.mem_of_getElem? (i := 0) rfl⟩, zT_in 561 (by decide +kernel) (by decide +kernel), zT_in 106 (by decide +kernel) (by decide +kernel), zT_in 562 (by decide +kernel) (by decide +kernel)⟩, ⟨by decide +kernel, by decide +kernel, by decide +kernel⟩, by decide⟩
set_option maxRecDepth 20000 in
theorem gf_X10_46_1 : zFG RX10 46 1 6 none := ⟨_, _, _, _, _, _, sh_1, rfl, cl_X10, by decide, zT_in 156 (by decide +kernel) (by decide +kernel)⟩
set_option maxRecDepth 20000 in
theorem pf_X10_46_1 : zFP RX10 46 1 6 none .int := ⟨_, _, _, _, _, _, sh_1, rfl, cl_X10, by decide, zT_in 156 (by decide +kernel) (by decide +kernel), rfl, by decide +kernel⟩
set_option maxRecDepth 20000 in
theorem gf_X10_49_1 : zFG RX10 49 1 7 none := ⟨_, _, _, _, _, _, sh_1, rfl, cl_X10, by decide, zT_in 158 (by decide +kernel) (by decide +kernel)⟩
set_option maxRecDepth 20000 in
theorem pf_X10_49_1 : zFP RX10 49 1 7 none .int := ⟨_, _, _, _, _, _, sh_1, rfl, cl_X10, by decide, zT_in 158 (by decide +kernel) (by decide +kernel), rfl, by decide +kernel⟩
set_option maxRecDepth 20000 in
theorem gf_X10_15_1 : zFG RX10 15 1 1 (some (some 3)) := ⟨_, _, _, _, _, _, sh_1, rfl, cl_X10, by decide, zT_in 144 (by decide +kernel) (by decide +kernel)⟩
set_option maxRecDepth 20000 in
theorem sh_3 : shp[3]? = some (.inr (0, 8)) := rfl
set_option maxRecDepth 20000 in
theorem gf_X10_18_1 : zFG RX10 18 1 2 (some (some 4)) := ⟨_, _, _, _, _, _, sh_1, rfl, cl_X10, by decide, zT_in 145 (by decide +kernel) (by decide +kernel)⟩
set_option maxRecDepth 20000 in
theorem sh_4 : shp[4]? = some (.inr (0, 8)) := rfl
set_option maxRecDepth 20000 in
theorem gf_X10_21_1 : zFG RX10 21 1 3 (some (some 5)) := ⟨_, _, _, _, _, _, sh_1, rfl, cl_X10, by decide, zT_in 146 (by decide +kernel) (by decide +kernel)⟩
set_option maxRecDepth 20000 in
theorem sh_5 : shp[5]? = some (.inr (0, 8)) := rfl
set_option maxRecDepth 20000 in
theorem gf_X10_24_1 : zFG RX10 24 1 4 (some (some 6)) := ⟨_, _, _, _, _, _, sh_1, rfl, cl_X10, by decide, zT_in 149 (by decide +kernel) (by decide +kernel)⟩
set_option maxRecDepth 20000 in
theorem sh_6 : shp[6]? = some (.inr (0, 8)) := rfl
set_option maxRecDepth 20000 in
theorem lk_X11_116 : zLV RX11 116 yX10_tell cX10_tell 5 none 4 := ⟨⟨zT_in 572 (by decide +kernel) (by decide +kernel), zT_in 573 (by decide +kernel) (by decide +kernel), zT_in 574 (by decide +kernel) (by decide +kernel), zT_in 107 (by decide +kernel) (by decide +kernel), zT_in 575 (by decide +kernel) (by decide +kernel)⟩, ⟨by decide +kernel, by decide +kernel, by decide +kernel⟩, by decide⟩
set_option maxRecDepth 20000 in
theorem ob_1 : zObj 1 RX10 := ⟨10, _, _, sh_1, rfl, rfl⟩
set_option maxRecDepth 20000 in
theorem lk_X11_112 : zLV RX11 112 yX10_isTold cX10_isTold 2 (some .boolean) 1 := ⟨⟨zT_in 567 (by decide +kernel) (by decide +kernel), zT_in 568 (by decide +kernel) (by decide +kernel), zT_in 569 (by decide +kernel) (by decide +kernel), zT_in 107 (by decide +kernel) (by decide +kernel), zT_in 570 (by decide +kernel) (by decide +kernel)⟩, ⟨by decide +kernel, by decide +kernel, by decide +kernel⟩, by decide⟩
set_option maxRecDepth 20000 in
theorem lk_X12_149 : zLS' RX12 149 yX12_isEight cX12_isEight 1 (some .boolean) 1 := ⟨⟨zT_in 1519 (by decide +kernel) (by decide +kernel), zT_in 1520 (by decide +kernel) (by decide +kernel), zT_in 118 (by decide +kernel) (by decide +kernel), zT_in 1521 (by decide +kernel) (by decide +kernel)⟩, ⟨by decide +kernel, by decide +kernel, by decide +kernel⟩, by decide⟩
set_option maxRecDepth 20000 in
theorem gf_X12_153_69 : zFG RX12 153 69 0 none := ⟨_, _, _, _, _, _, sh_69, rfl, cl_X12, by decide, zT_in 1276 (by decide +kernel) (by decide +kernel)⟩
set_option maxRecDepth 20000 in
theorem lk_X12_156 : zLS' RX12 156 yX12_has cX12_has 2 (some .boolean) 2 := ⟨⟨zT_in 1526 (by decide +kernel) (by decide +kernel), zT_in 1527 (by decide +kernel) (by decide +kernel), zT_in 118 (by decide +kernel) (by decide +kernel), zT_in 1528 (by decide +kernel) (by decide +kernel)⟩, ⟨by decide +kernel, by decide +kernel, by decide +kernel⟩, by decide⟩
set_option maxRecDepth 20000 in
theorem pf_X12_153_69 : zFP RX12 153 69 0 none .int := ⟨_, _, _, _, _, _, sh_69, rfl, cl_X12, by decide, zT_in 1276 (by decide +kernel) (by decide +kernel), rfl, by decide +kernel⟩
set_option maxRecDepth 20000 in
theorem gf_X12_170_69 : zFG RX12 170 69 1 none := ⟨_, _, _, _, _, _, sh_69, rfl, cl_X12, by decide, zT_in 1277 (by decide +kernel) (by decide +kernel)⟩
set_option maxRecDepth 20000 in
theorem pf_X12_170_69 : zFP RX12 170 69 1 none .int := ⟨_, _, _, _, _, _, sh_69, rfl, cl_X12, by decide, zT_in 1277 (by decide +kernel) (by decide +kernel), rfl, by decide +kernel⟩
set_option maxRecDepth 20000 in
theorem gf_X12_13_69 : zFG RX12 13 69 8 (some (some 71)) := ⟨_, _, _, _, _, _, sh_69, rfl, cl_X12, by decide, zT_in 1284 (by decide +kernel) (by decide +kernel)⟩
set_option maxRecDepth 20000 in
theorem sh_71 : shp[71]? = some (.inr (0, 8)) := rfl
set_option maxRecDepth 20000 in
theorem gf_X12_16_69 : zFG RX12 16 69 9 (some (some 72)) := ⟨_, _, _, _, _, _, sh_69, rfl, cl_X12, by decide, zT_in 1285 (by decide +kernel) (by decide +kernel)⟩
set_option maxRecDepth 20000 in
theorem sh_72 : shp[72]? = some (.inr (0, 8)) := rfl
set_option maxRecDepth 20000 in
theorem gf_X12_19_69 : zFG RX12 19 69 10 (some (some 73)) := ⟨_, _, _, _, _, _, sh_69, rfl, cl_X12, by decide, zT_in 1286 (by decide +kernel) (by decide +kernel)⟩
set_option maxRecDepth 20000 in
theorem sh_73 : shp[73]? = some (.inr (0, 8)) := rfl
set_option maxRecDepth 20000 in
theorem gf_X12_22_69 : zFG RX12 22 69 11 (some (some 74)) := ⟨_, _, _, _, _, _, sh_69, rfl, cl_X12, by decide, zT_in 1287 (by decide +kernel) (by decide +kernel)⟩
set_option maxRecDepth 20000 in
theorem sh_74 : shp[74]? = some (.inr (0, 8)) := rfl
set_option maxRecDepth 20000 in
theorem lk_X12_167 : zLV RX12 167 yX12_isPlace cX12_isPlace 2 (some .boolean) 1 := ⟨⟨zT_in 1522 (by decide +kernel) (by decide +kernel), zT_in 1524 (by decide +kernel) (by decide +kernel), zT_in 45 (by decide +kernel) (by decide +kernel), zT_in 118 (by decide +kernel) (by decide +kernel), zT_in 1525 (by decide +kernel) (by decide +kernel)⟩, ⟨by decide +kernel, by decide +kernel, by decide +kernel⟩, by decide⟩
set_option maxRecDepth 20000 in
theorem ob_69 : zObj 69 RX12 := ⟨12, _, _, sh_69, rfl, rfl⟩
set_option maxRecDepth 20000 in
theorem gf_X11_120_1 : zFG RX11 120 1 7 none := ⟨_, _, _, _, _, _, sh_1, rfl, cl_X10, by decide, zT_in 159 (by decide +kernel) (by decide +kernel)⟩
set_option maxRecDepth 20000 in
theorem pf_X11_120_1 : zFP RX11 120 1 7 none .int := ⟨_, _, _, _, _, _, sh_1, rfl, cl_X10, by decide, zT_in 159 (by decide +kernel) (by decide +kernel), rfl, by decide +kernel⟩
set_option maxRecDepth 20000 in
theorem gf_X11_124_1 : zFG RX11 124 1 4 (some (some 6)) := ⟨_, _, _, _, _, _, sh_1, rfl, cl_X10, by decide, zT_in 151 (by decide +kernel) (by decide +kernel)⟩
set_option maxRecDepth 20000 in
theorem gf_X11_127_1 : zFG RX11 127 1 5 (some (some 7)) := ⟨_, _, _, _, _, _, sh_1, rfl, cl_X10, by decide, zT_in 154 (by decide +kernel) (by decide +kernel)⟩
set_option maxRecDepth 20000 in
theorem sh_7 : shp[7]? = some (.inr (0, 8)) := rfl
set_option maxRecDepth 20000 in
theorem gf_X12_25_69 : zFG RX12 25 69 12 (some (some 75)) := ⟨_, _, _, _, _, _, sh_69, rfl, cl_X12, by decide, zT_in 1288 (by decide +kernel) (by decide +kernel)⟩
set_option maxRecDepth 20000 in
theorem sh_75 : shp[75]? = some (.inr (0, 8)) := rfl
set_option maxRecDepth 20000 in
theorem pf_X11_130_1 : zFP RX11 130 1 8 none .int := ⟨_, _, _, _, _, _, sh_1, rfl, cl_X10, by decide, zT_in 164 (by decide +kernel) (by decide +kernel), rfl, by decide +kernel⟩
set_option maxRecDepth 20000 in
theorem pf_X12_173_69 : zFP RX12 173 69 2 none .int := ⟨_, _, _, _, _, _, sh_69, rfl, cl_X12, by decide, zT_in 1278 (by decide +kernel) (by decide +kernel), rfl, by decide +kernel⟩
set_option maxRecDepth 20000 in
theorem sh_33 : shp[33]? = some (.inl (8, [some (some 34), none, none])) := rfl
set_option maxRecDepth 20000 in
theorem cl_X8 : zCl 8 RX8 TX8 3 tyX8 := ⟨rfl, inX8, tyX8_ok, nmX8⟩
set_option maxRecDepth 20000 in
theorem gf_X8_15_33 : zFG RX8 15 33 1 none := ⟨_, _, _, _, _, _, sh_33, rfl, cl_X8, by decide, zT_in 357 (by decide +kernel) (by decide +kernel)⟩
set_option maxRecDepth 20000 in
theorem lk_X8_19 : zLV RX8 19 yX8_hasRoom cX8_hasRoom 2 (some .boolean) 1 := ⟨⟨zT_in 600 (by decide +kernel) (by decide +kernel), zT_in 593 (by decide +kernel) (by decide +kernel), zT_in 594 (by decide +kernel) (by decide +kernel), zT_in 111 (by decide +kernel) (by decide +kernel), zT_in 595 (by decide +kernel) (by decide +kernel)⟩, ⟨by decide +kernel, by decide +kernel, by decide +kernel⟩, by decide⟩
set_option maxRecDepth 20000 in
theorem ob_33 : zObj 33 RX8 := ⟨8, _, _, sh_33, rfl, rfl⟩
set_option maxRecDepth 20000 in
theorem gf_X8_11_33 : zFG RX8 11 33 0 (some (some 34)) := ⟨_, _, _, _, _, _, sh_33, rfl, cl_X8, by decide, zT_in 356 (by decide +kernel) (by decide +kernel)⟩
set_option maxRecDepth 20000 in
theorem sh_34 : shp[34]? = some (.inr (0, 260)) := rfl
set_option maxRecDepth 20000 in
theorem pf_X8_15_33 : zFP RX8 15 33 1 none .int := ⟨_, _, _, _, _, _, sh_33, rfl, cl_X8, by decide, zT_in 357 (by decide +kernel) (by decide +kernel), rfl, by decide +kernel⟩
set_option maxRecDepth 20000 in
theorem gf_X11_39_0 : zFG RX11 39 0 3 (some (some 33)) := ⟨_, _, _, _, _, _, sh_0, rfl, cl_X11, by decide, zT_in 516 (by decide +kernel) (by decide +kernel)⟩
set_option maxRecDepth 20000 in
theorem lk_X11_133 : zLV RX11 133 yX8_hasRoom cX8_hasRoom 2 (some .boolean) 1 := ⟨⟨zT_in 592 (by decide +kernel) (by decide +kernel), zT_in 593 (by decide +kernel) (by decide +kernel), zT_in 594 (by decide +kernel) (by decide +kernel), zT_in 111 (by decide +kernel) (by decide +kernel), zT_in 595 (by decide +kernel) (by decide +kernel)⟩, ⟨by decide +kernel, by decide +kernel, by decide +kernel⟩, by decide⟩
set_option maxRecDepth 20000 in
theorem lk_X11_136 : zLV RX11 136 yX8_append cX8_append 3 none 1 := ⟨⟨zT_in 596 (by decide +kernel) (by decide +kernel), zT_in 597 (by decide +kernel) (by decide +kernel), zT_in 598 (by decide +kernel) (by decide +kernel), zT_in 111 (by decide +kernel) (by decide +kernel), zT_in 599 (by decide +kernel) (by decide +kernel)⟩, ⟨by decide +kernel, by decide +kernel, by decide +kernel⟩, by decide⟩
set_option maxRecDepth 20000 in
theorem gf_X11_140_33 : zFG RX11 140 33 1 none := ⟨_, _, _, _, _, _, sh_33, rfl, cl_X8, by decide, zT_in 358 (by decide +kernel) (by decide +kernel)⟩
set_option maxRecDepth 20000 in
theorem gf_X12_28_69 : zFG RX12 28 69 13 (some (some 76)) := ⟨_, _, _, _, _, _, sh_69, rfl, cl_X12, by decide, zT_in 1289 (by decide +kernel) (by decide +kernel)⟩
set_option maxRecDepth 20000 in
theorem gf_X12_186_69 : zFG RX12 186 69 14 none := ⟨_, _, _, _, _, _, sh_69, rfl, cl_X12, by decide, zT_in 1290 (by decide +kernel) (by decide +kernel)⟩
set_option maxRecDepth 20000 in
theorem sh_76 : shp[76]? = some (.inr (1, 260)) := rfl
set_option maxRecDepth 20000 in
theorem pf_X12_186_69 : zFP RX12 186 69 14 none .int := ⟨_, _, _, _, _, _, sh_69, rfl, cl_X12, by decide, zT_in 1290 (by decide +kernel) (by decide +kernel), rfl, by decide +kernel⟩
set_option maxRecDepth 20000 in
theorem lk_X12_189 : zLV RX12 189 yX12_types cX12_types 3 none 1 := ⟨⟨zT_in 1561 (by decide +kernel) (by decide +kernel), zT_in 1563 (by decide +kernel) (by decide +kernel), zT_in 49 (by decide +kernel) (by decide +kernel), zT_in 118 (by decide +kernel) (by decide +kernel), zT_in 1564 (by decide +kernel) (by decide +kernel)⟩, ⟨by decide +kernel, by decide +kernel, by decide +kernel⟩, by decide⟩
set_option maxRecDepth 20000 in
theorem pf_X8_23_33 : zFP RX8 23 33 2 none .int := ⟨_, _, _, _, _, _, sh_33, rfl, cl_X8, by decide, zT_in 362 (by decide +kernel) (by decide +kernel), rfl, by decide +kernel⟩
set_option maxRecDepth 20000 in
theorem sh_35 : shp[35]? = some (.inl (1, [some (some 36), some (some 37), none, some (some 38), some (some 39), some (some 40), some (some 41), none, none, some (some 42), none, none, none, some (some 43)])) := rfl
set_option maxRecDepth 20000 in
theorem cl_X1 : zCl 1 RX1 TX1 14 tyX1 := ⟨rfl, inX1, tyX1_ok, nmX1⟩
set_option maxRecDepth 20000 in
theorem gf_X1_66_35 : zFG RX1 66 35 11 none := ⟨_, _, _, _, _, _, sh_35, rfl, cl_X1, by decide, zT_in 225 (by decide +kernel) (by decide +kernel)⟩
set_option maxRecDepth 20000 in
theorem gf_X1_61_35 : zFG RX1 61 35 10 none := ⟨_, _, _, _, _, _, sh_35, rfl, cl_X1, by decide, zT_in 224 (by decide +kernel) (by decide +kernel)⟩
set_option maxRecDepth 20000 in
theorem gf_X1_30_35 : zFG RX1 30 35 9 (some (some 42)) := ⟨_, _, _, _, _, _, sh_35, rfl, cl_X1, by decide, zT_in 223 (by decide +kernel) (by decide +kernel)⟩
set_option maxRecDepth 20000 in
theorem sh_42 : shp[42]? = some (.inr (0, 240)) := rfl
set_option maxRecDepth 20000 in
theorem st_J0_38 : Cond.fieldLink RJ0 38 "java/lang/String" "COMPACT_STRINGS" "Z" ∈ zT := zT_in 657 (by decide +kernel) (by decide +kernel)
set_option maxRecDepth 20000 in
theorem st_J0_15 : Cond.fieldLink RJ0 15 "java/lang/String" "coder" "B" ∈ zT := zT_in 1926 (by decide +kernel) (by decide +kernel)
set_option maxRecDepth 20000 in
theorem st_J0_9 : Cond.fieldLink RJ0 9 "java/lang/String" "value" "[B" ∈ zT := zT_in 1927 (by decide +kernel) (by decide +kernel)
set_option maxRecDepth 20000 in
theorem lk_J0_335 : zLV RJ0 335 yJ0_coder_7d493 cJ0_coder_7d493 1 (some .byte) 0 := ⟨⟨zT_in 663 (by decide +kernel) (by decide +kernel), zT_in 664 (by decide +kernel) (by decide +kernel), zT_in 665 (by decide +kernel) (by decide +kernel), zT_in 120 (by decide +kernel) (by decide +kernel), zT_in 666 (by decide +kernel) (by decide +kernel)⟩, ⟨by decide +kernel, by decide +kernel, by decide +kernel⟩, by decide⟩
set_option maxRecDepth 20000 in
theorem lk_J1_88 : zLS' RJ1 88 yJ1_canEncode_9a6ad cJ1_canEncode_9a6ad 1 (some .boolean) 1 := ⟨⟨zT_in 670 (by decide +kernel) (by decide +kernel), zT_in 671 (by decide +kernel) (by decide +kernel), zT_in 121 (by decide +kernel) (by decide +kernel), zT_in 672 (by decide +kernel) (by decide +kernel)⟩, ⟨by decide +kernel, by decide +kernel, by decide +kernel⟩, by decide⟩
set_option maxRecDepth 20000 in
theorem mm_J1_92 : (Cond.methodLink RJ1 92 Lib.Math.max.name ∈ zT ∧ Cond.static Lib.Math.max.name ∈ zT) ∧ Cond.initialized "java/lang/Math" ∈ zT ∧ Cond.code Lib.Math.max.name Lib.Math.max.code 2 (some .int) ∈ zT := ⟨⟨zT_in 673 (by decide +kernel) (by decide +kernel), zT_in 674 (by decide +kernel) (by decide +kernel)⟩, zT_in 119 (by decide +kernel) (by decide +kernel), zT_in 675 (by decide +kernel) (by decide +kernel)⟩
set_option maxRecDepth 20000 in
theorem mm_J1_38 : (Cond.methodLink RJ1 38 Lib.Math.min.name ∈ zT ∧ Cond.static Lib.Math.min.name ∈ zT) ∧ Cond.initialized "java/lang/Math" ∈ zT ∧ Cond.code Lib.Math.min.name Lib.Math.min.code 2 (some .int) ∈ zT := ⟨⟨zT_in 676 (by decide +kernel) (by decide +kernel), zT_in 614 (by decide +kernel) (by decide +kernel)⟩, zT_in 119 (by decide +kernel) (by decide +kernel), zT_in 615 (by decide +kernel) (by decide +kernel)⟩
set_option maxRecDepth 20000 in
theorem lk_J1_95 : zLS' RJ1 95 yJ1_indexOfChar_4cfef cJ1_indexOfChar_4cfef 6 (some .int) 4 := ⟨⟨zT_in 677 (by decide +kernel) (by decide +kernel), zT_in 678 (by decide +kernel) (by decide +kernel), zT_in 121 (by decide +kernel) (by decide +kernel), zT_in 679 (by decide +kernel) (by decide +kernel)⟩, ⟨by decide +kernel, by decide +kernel, by decide +kernel⟩, by decide⟩
set_option maxRecDepth 20000 in
theorem lk_J0_492 : zLV RJ0 492 yJ0_isLatin1_aae02 cJ0_isLatin1_aae02 1 (some .boolean) 0 := ⟨⟨zT_in 653 (by decide +kernel) (by decide +kernel), zT_in 654 (by decide +kernel) (by decide +kernel), zT_in 655 (by decide +kernel) (by decide +kernel), zT_in 120 (by decide +kernel) (by decide +kernel), zT_in 656 (by decide +kernel) (by decide +kernel)⟩, ⟨by decide +kernel, by decide +kernel, by decide +kernel⟩, by decide⟩
set_option maxRecDepth 20000 in
theorem lk_J0_505 : zLV RJ0 505 yJ0_length_8abf5 cJ0_length_8abf5 1 (some .int) 0 := ⟨⟨zT_in 659 (by decide +kernel) (by decide +kernel), zT_in 660 (by decide +kernel) (by decide +kernel), zT_in 661 (by decide +kernel) (by decide +kernel), zT_in 120 (by decide +kernel) (by decide +kernel), zT_in 662 (by decide +kernel) (by decide +kernel)⟩, ⟨by decide +kernel, by decide +kernel, by decide +kernel⟩, by decide⟩
set_option maxRecDepth 20000 in
theorem lk_J0_637 : zLS' RJ0 637 yJ1_indexOf_4cfef cJ1_indexOf_4cfef 4 (some .int) 4 := ⟨⟨zT_in 667 (by decide +kernel) (by decide +kernel), zT_in 668 (by decide +kernel) (by decide +kernel), zT_in 121 (by decide +kernel) (by decide +kernel), zT_in 669 (by decide +kernel) (by decide +kernel)⟩, ⟨by decide +kernel, by decide +kernel, by decide +kernel⟩, by decide⟩
set_option maxRecDepth 20000 in
theorem lk_J0_633 : zLV RJ0 633 yJ0_indexOf_7cf53 cJ0_indexOf_7cf53 3 (some .int) 2 := ⟨⟨zT_in 649 (by decide +kernel) (by decide +kernel), zT_in 650 (by decide +kernel) (by decide +kernel), zT_in 651 (by decide +kernel) (by decide +kernel), zT_in 120 (by decide +kernel) (by decide +kernel), zT_in 652 (by decide +kernel) (by decide +kernel)⟩, ⟨by decide +kernel, by decide +kernel, by decide +kernel⟩, by decide⟩
set_option maxRecDepth 20000 in
theorem gf_X1_68_35 : zFG RX1 68 35 2 none := ⟨_, _, _, _, _, _, sh_35, rfl, cl_X1, by decide, zT_in 214 (by decide +kernel) (by decide +kernel)⟩
set_option maxRecDepth 20000 in
theorem gf_X1_11_35 : zFG RX1 11 35 0 (some (some 36)) := ⟨_, _, _, _, _, _, sh_35, rfl, cl_X1, by decide, zT_in 212 (by decide +kernel) (by decide +kernel)⟩
set_option maxRecDepth 20000 in
theorem sh_36 : shp[36]? = some (.inr (0, 240)) := rfl
set_option maxRecDepth 20000 in
theorem gf_X1_15_35 : zFG RX1 15 35 1 (some (some 37)) := ⟨_, _, _, _, _, _, sh_35, rfl, cl_X1, by decide, zT_in 213 (by decide +kernel) (by decide +kernel)⟩
set_option maxRecDepth 20000 in
theorem sh_37 : shp[37]? = some (.inr (0, 240)) := rfl
set_option maxRecDepth 20000 in
theorem pf_X1_68_35 : zFP RX1 68 35 2 none .int := ⟨_, _, _, _, _, _, sh_35, rfl, cl_X1, by decide, zT_in 214 (by decide +kernel) (by decide +kernel), rfl, by decide +kernel⟩
set_option maxRecDepth 20000 in
theorem pf_X1_75_35 : zFP RX1 75 35 12 none .int := ⟨_, _, _, _, _, _, sh_35, rfl, cl_X1, by decide, zT_in 226 (by decide +kernel) (by decide +kernel), rfl, by decide +kernel⟩
set_option maxRecDepth 20000 in
theorem pf_X1_66_35 : zFP RX1 66 35 11 none .int := ⟨_, _, _, _, _, _, sh_35, rfl, cl_X1, by decide, zT_in 225 (by decide +kernel) (by decide +kernel), rfl, by decide +kernel⟩
set_option maxRecDepth 20000 in
theorem lk_X1_82 : zLV RX1 82 yX1_here cX1_here 1 (some .int) 0 := ⟨⟨zT_in 624 (by decide +kernel) (by decide +kernel), zT_in 626 (by decide +kernel) (by decide +kernel), zT_in 1 (by decide +kernel) (by decide +kernel), zT_in 108 (by decide +kernel) (by decide +kernel), zT_in 627 (by decide +kernel) (by decide +kernel)⟩, ⟨by decide +kernel, by decide +kernel, by decide +kernel⟩, by decide⟩
set_option maxRecDepth 20000 in
theorem ob_35 : zObj 35 RX1 := ⟨1, _, _, sh_35, rfl, rfl⟩
set_option maxRecDepth 20000 in
theorem lk_X1_89 : zLV RX1 89 yX1_readSum cX1_readSum 6 (some .boolean) 1 := ⟨⟨zT_in 632 (by decide +kernel) (by decide +kernel), zT_in 634 (by decide +kernel) (by decide +kernel), zT_in 3 (by decide +kernel) (by decide +kernel), zT_in 108 (by decide +kernel) (by decide +kernel), zT_in 635 (by decide +kernel) (by decide +kernel)⟩, ⟨by decide +kernel, by decide +kernel, by decide +kernel⟩, by decide⟩
set_option maxRecDepth 20000 in
theorem lk_X1_78 : zLV RX1 78 yX1_readSign cX1_readSign 3 (some .boolean) 1 := ⟨⟨zT_in 640 (by decide +kernel) (by decide +kernel), zT_in 642 (by decide +kernel) (by decide +kernel), zT_in 5 (by decide +kernel) (by decide +kernel), zT_in 108 (by decide +kernel) (by decide +kernel), zT_in 643 (by decide +kernel) (by decide +kernel)⟩, ⟨by decide +kernel, by decide +kernel, by decide +kernel⟩, by decide⟩
set_option maxRecDepth 20000 in
theorem lk_X1_86 : zLV RX1 86 yX1_wrong cX1_wrong 2 (some .boolean) 1 := ⟨⟨zT_in 628 (by decide +kernel) (by decide +kernel), zT_in 630 (by decide +kernel) (by decide +kernel), zT_in 2 (by decide +kernel) (by decide +kernel), zT_in 108 (by decide +kernel) (by decide +kernel), zT_in 631 (by decide +kernel) (by decide +kernel)⟩, ⟨by decide +kernel, by decide +kernel, by decide +kernel⟩, by decide⟩
set_option maxRecDepth 20000 in
theorem lk_X1_110 : zLV RX1 110 yJ0_indexOf_0f7a4 cJ0_indexOf_0f7a4 2 (some .int) 1 := ⟨⟨zT_in 645 (by decide +kernel) (by decide +kernel), zT_in 646 (by decide +kernel) (by decide +kernel), zT_in 647 (by decide +kernel) (by decide +kernel), zT_in 120 (by decide +kernel) (by decide +kernel), zT_in 648 (by decide +kernel) (by decide +kernel)⟩, ⟨by decide +kernel, by decide +kernel, by decide +kernel⟩, by decide⟩
set_option maxRecDepth 20000 in
theorem lk_X1_98 : zLV RX1 98 yX1_put cX1_put 3 (some .int) 2 := ⟨⟨zT_in 729 (by decide +kernel) (by decide +kernel), zT_in 731 (by decide +kernel) (by decide +kernel), zT_in 6 (by decide +kernel) (by decide +kernel), zT_in 108 (by decide +kernel) (by decide +kernel), zT_in 732 (by decide +kernel) (by decide +kernel)⟩, ⟨by decide +kernel, by decide +kernel, by decide +kernel⟩, by decide⟩
set_option maxRecDepth 20000 in
theorem gf_X1_46_35 : zFG RX1 46 35 8 none := ⟨_, _, _, _, _, _, sh_35, rfl, cl_X1, by decide, zT_in 221 (by decide +kernel) (by decide +kernel)⟩
set_option maxRecDepth 20000 in
theorem pf_X1_46_35 : zFP RX1 46 35 8 none .boolean := ⟨_, _, _, _, _, _, sh_35, rfl, cl_X1, by decide, zT_in 221 (by decide +kernel) (by decide +kernel), rfl, by decide +kernel⟩
set_option maxRecDepth 20000 in
theorem lk_X1_105 : zLV RX1 105 yX1_readFactor cX1_readFactor 6 (some .boolean) 1 := ⟨⟨zT_in 636 (by decide +kernel) (by decide +kernel), zT_in 638 (by decide +kernel) (by decide +kernel), zT_in 4 (by decide +kernel) (by decide +kernel), zT_in 108 (by decide +kernel) (by decide +kernel), zT_in 639 (by decide +kernel) (by decide +kernel)⟩, ⟨by decide +kernel, by decide +kernel, by decide +kernel⟩, by decide⟩
set_option maxRecDepth 20000 in
theorem lk_X1_101 : zLV RX1 101 yX1_leadHere cX1_leadHere 5 none 1 := ⟨⟨zT_in 741 (by decide +kernel) (by decide +kernel), zT_in 743 (by decide +kernel) (by decide +kernel), zT_in 9 (by decide +kernel) (by decide +kernel), zT_in 108 (by decide +kernel) (by decide +kernel), zT_in 744 (by decide +kernel) (by decide +kernel)⟩, ⟨by decide +kernel, by decide +kernel, by decide +kernel⟩, by decide⟩
set_option maxRecDepth 20000 in
theorem lk_X1_95 : zLV RX1 95 yX1_readPiece cX1_readPiece 4 (some .boolean) 1 := ⟨⟨zT_in 737 (by decide +kernel) (by decide +kernel), zT_in 739 (by decide +kernel) (by decide +kernel), zT_in 8 (by decide +kernel) (by decide +kernel), zT_in 108 (by decide +kernel) (by decide +kernel), zT_in 740 (by decide +kernel) (by decide +kernel)⟩, ⟨by decide +kernel, by decide +kernel, by decide +kernel⟩, by decide⟩
set_option maxRecDepth 20000 in
theorem lk_X1_92 : zLV RX1 92 yX1_readCondition cX1_readCondition 6 (some .boolean) 1 := ⟨⟨zT_in 733 (by decide +kernel) (by decide +kernel), zT_in 735 (by decide +kernel) (by decide +kernel), zT_in 7 (by decide +kernel) (by decide +kernel), zT_in 108 (by decide +kernel) (by decide +kernel), zT_in 736 (by decide +kernel) (by decide +kernel)⟩, ⟨by decide +kernel, by decide +kernel, by decide +kernel⟩, by decide⟩
set_option maxRecDepth 20000 in
theorem gf_X1_42_35 : zFG RX1 42 35 7 none := ⟨_, _, _, _, _, _, sh_35, rfl, cl_X1, by decide, zT_in 219 (by decide +kernel) (by decide +kernel)⟩
set_option maxRecDepth 20000 in
theorem gf_X1_18_35 : zFG RX1 18 35 3 (some (some 38)) := ⟨_, _, _, _, _, _, sh_35, rfl, cl_X1, by decide, zT_in 215 (by decide +kernel) (by decide +kernel)⟩
set_option maxRecDepth 20000 in
theorem sh_38 : shp[38]? = some (.inr (0, 16)) := rfl
set_option maxRecDepth 20000 in
theorem gf_X1_21_35 : zFG RX1 21 35 4 (some (some 39)) := ⟨_, _, _, _, _, _, sh_35, rfl, cl_X1, by decide, zT_in 216 (by decide +kernel) (by decide +kernel)⟩
set_option maxRecDepth 20000 in
theorem sh_39 : shp[39]? = some (.inr (0, 16)) := rfl
set_option maxRecDepth 20000 in
theorem gf_X1_24_35 : zFG RX1 24 35 5 (some (some 40)) := ⟨_, _, _, _, _, _, sh_35, rfl, cl_X1, by decide, zT_in 217 (by decide +kernel) (by decide +kernel)⟩
set_option maxRecDepth 20000 in
theorem sh_40 : shp[40]? = some (.inr (0, 16)) := rfl
set_option maxRecDepth 20000 in
theorem gf_X1_27_35 : zFG RX1 27 35 6 (some (some 41)) := ⟨_, _, _, _, _, _, sh_35, rfl, cl_X1, by decide, zT_in 218 (by decide +kernel) (by decide +kernel)⟩
set_option maxRecDepth 20000 in
theorem sh_41 : shp[41]? = some (.inr (0, 16)) := rfl
set_option maxRecDepth 20000 in
theorem pf_X1_42_35 : zFP RX1 42 35 7 none .int := ⟨_, _, _, _, _, _, sh_35, rfl, cl_X1, by decide, zT_in 219 (by decide +kernel) (by decide +kernel), rfl, by decide +kernel⟩
set_option maxRecDepth 20000 in
theorem gf_X8_23_33 : zFG RX8 23 33 2 none := ⟨_, _, _, _, _, _, sh_33, rfl, cl_X8, by decide, zT_in 362 (by decide +kernel) (by decide +kernel)⟩
set_option maxRecDepth 20000 in
theorem gf_X1_50_33 : zFG RX1 50 33 2 none := ⟨_, _, _, _, _, _, sh_33, rfl, cl_X8, by decide, zT_in 361 (by decide +kernel) (by decide +kernel)⟩
set_option maxRecDepth 20000 in
theorem mm_X1_55 : (Cond.methodLink RX1 55 Lib.Math.min.name ∈ zT ∧ Cond.static Lib.Math.min.name ∈ zT) ∧ Cond.initialized "java/lang/Math" ∈ zT ∧ Cond.code Lib.Math.min.name Lib.Math.min.code 2 (some .int) ∈ zT := ⟨⟨zT_in 613 (by decide +kernel) (by decide +kernel), zT_in 614 (by decide +kernel) (by decide +kernel)⟩, zT_in 119 (by decide +kernel) (by decide +kernel), zT_in 615 (by decide +kernel) (by decide +kernel)⟩
set_option maxRecDepth 20000 in
theorem pf_X1_61_35 : zFP RX1 61 35 10 none .int := ⟨_, _, _, _, _, _, sh_35, rfl, cl_X1, by decide, zT_in 224 (by decide +kernel) (by decide +kernel), rfl, by decide +kernel⟩
set_option maxRecDepth 20000 in
theorem gf_X1_75_35 : zFG RX1 75 35 12 none := ⟨_, _, _, _, _, _, sh_35, rfl, cl_X1, by decide, zT_in 226 (by decide +kernel) (by decide +kernel)⟩
set_option maxRecDepth 20000 in
theorem lk_X1_71 : zLV RX1 71 yX1_readClause cX1_readClause 2 (some .boolean) 0 := ⟨⟨zT_in 620 (by decide +kernel) (by decide +kernel), zT_in 622 (by decide +kernel) (by decide +kernel), zT_in 0 (by decide +kernel) (by decide +kernel), zT_in 108 (by decide +kernel) (by decide +kernel), zT_in 623 (by decide +kernel) (by decide +kernel)⟩, ⟨by decide +kernel, by decide +kernel, by decide +kernel⟩, by decide⟩
set_option maxRecDepth 20000 in
theorem lk_X1_62 : zLV RX1 62 yX8_at cX8_at 2 (some .int) 1 := ⟨⟨zT_in 616 (by decide +kernel) (by decide +kernel), zT_in 617 (by decide +kernel) (by decide +kernel), zT_in 618 (by decide +kernel) (by decide +kernel), zT_in 111 (by decide +kernel) (by decide +kernel), zT_in 619 (by decide +kernel) (by decide +kernel)⟩, ⟨by decide +kernel, by decide +kernel, by decide +kernel⟩, by decide⟩
set_option maxRecDepth 20000 in
theorem sh_8 : shp[8]? = some (.inl (1, [some (some 9), some (some 10), none, some (some 11), some (some 12), some (some 13), some (some 14), none, none, some (some 15), none, none, none, some (some 16)])) := rfl
set_option maxRecDepth 20000 in
theorem gf_X1_11_8 : zFG RX1 11 8 0 (some (some 9)) := ⟨_, _, _, _, _, _, sh_8, rfl, cl_X1, by decide, zT_in 212 (by decide +kernel) (by decide +kernel)⟩
set_option maxRecDepth 20000 in
theorem ac_X1_36 : (Cond.methodLink RX1 36 arraycopyName ∈ zT ∧ Cond.native arraycopyName ∈ zT) ∧ Cond.static arraycopyName ∈ zT ∧ Cond.initialized "java/lang/System" ∈ zT := ⟨⟨zT_in 749 (by decide +kernel) (by decide +kernel), zT_in 751 (by decide +kernel) (by decide +kernel)⟩, zT_in 750 (by decide +kernel) (by decide +kernel), zT_in 125 (by decide +kernel) (by decide +kernel)⟩
set_option maxRecDepth 20000 in
theorem sh_9 : shp[9]? = some (.inr (0, 240)) := rfl
set_option maxRecDepth 20000 in
theorem gf_X1_15_8 : zFG RX1 15 8 1 (some (some 10)) := ⟨_, _, _, _, _, _, sh_8, rfl, cl_X1, by decide, zT_in 213 (by decide +kernel) (by decide +kernel)⟩
set_option maxRecDepth 20000 in
theorem sh_10 : shp[10]? = some (.inr (0, 240)) := rfl
set_option maxRecDepth 20000 in
theorem gf_X1_18_8 : zFG RX1 18 8 3 (some (some 11)) := ⟨_, _, _, _, _, _, sh_8, rfl, cl_X1, by decide, zT_in 215 (by decide +kernel) (by decide +kernel)⟩
set_option maxRecDepth 20000 in
theorem sh_11 : shp[11]? = some (.inr (0, 16)) := rfl
set_option maxRecDepth 20000 in
theorem gf_X1_21_8 : zFG RX1 21 8 4 (some (some 12)) := ⟨_, _, _, _, _, _, sh_8, rfl, cl_X1, by decide, zT_in 216 (by decide +kernel) (by decide +kernel)⟩
set_option maxRecDepth 20000 in
theorem sh_12 : shp[12]? = some (.inr (0, 16)) := rfl
set_option maxRecDepth 20000 in
theorem gf_X1_24_8 : zFG RX1 24 8 5 (some (some 13)) := ⟨_, _, _, _, _, _, sh_8, rfl, cl_X1, by decide, zT_in 217 (by decide +kernel) (by decide +kernel)⟩
set_option maxRecDepth 20000 in
theorem sh_13 : shp[13]? = some (.inr (0, 16)) := rfl
set_option maxRecDepth 20000 in
theorem gf_X1_27_8 : zFG RX1 27 8 6 (some (some 14)) := ⟨_, _, _, _, _, _, sh_8, rfl, cl_X1, by decide, zT_in 218 (by decide +kernel) (by decide +kernel)⟩
set_option maxRecDepth 20000 in
theorem sh_14 : shp[14]? = some (.inr (0, 16)) := rfl
set_option maxRecDepth 20000 in
theorem pf_X1_42_8 : zFP RX1 42 8 7 none .int := ⟨_, _, _, _, _, _, sh_8, rfl, cl_X1, by decide, zT_in 219 (by decide +kernel) (by decide +kernel), rfl, by decide +kernel⟩
set_option maxRecDepth 20000 in
theorem pf_X1_46_8 : zFP RX1 46 8 8 none .boolean := ⟨_, _, _, _, _, _, sh_8, rfl, cl_X1, by decide, zT_in 221 (by decide +kernel) (by decide +kernel), rfl, by decide +kernel⟩
set_option maxRecDepth 20000 in
theorem lk_X11_143 : zLV RX11 143 yX8_take cX8_take 2 (some .boolean) 1 := ⟨⟨zT_in 605 (by decide +kernel) (by decide +kernel), zT_in 606 (by decide +kernel) (by decide +kernel), zT_in 607 (by decide +kernel) (by decide +kernel), zT_in 111 (by decide +kernel) (by decide +kernel), zT_in 608 (by decide +kernel) (by decide +kernel)⟩, ⟨by decide +kernel, by decide +kernel, by decide +kernel⟩, by decide⟩
set_option maxRecDepth 20000 in
theorem gf_X11_47_0 : zFG RX11 47 0 5 (some (some 35)) := ⟨_, _, _, _, _, _, sh_0, rfl, cl_X11, by decide, zT_in 518 (by decide +kernel) (by decide +kernel)⟩
set_option maxRecDepth 20000 in
theorem lk_X11_146 : zLV RX11 146 yX1_read cX1_read 3 (some .int) 1 := ⟨⟨zT_in 609 (by decide +kernel) (by decide +kernel), zT_in 610 (by decide +kernel) (by decide +kernel), zT_in 611 (by decide +kernel) (by decide +kernel), zT_in 108 (by decide +kernel) (by decide +kernel), zT_in 612 (by decide +kernel) (by decide +kernel)⟩, ⟨by decide +kernel, by decide +kernel, by decide +kernel⟩, by decide⟩
set_option maxRecDepth 20000 in
theorem gf_X11_43_0 : zFG RX11 43 0 4 (some (some 8)) := ⟨_, _, _, _, _, _, sh_0, rfl, cl_X11, by decide, zT_in 517 (by decide +kernel) (by decide +kernel)⟩
set_option maxRecDepth 20000 in
theorem lk_X11_150 : zLV RX11 150 yX1_takeOver cX1_takeOver 2 none 1 := ⟨⟨zT_in 745 (by decide +kernel) (by decide +kernel), zT_in 746 (by decide +kernel) (by decide +kernel), zT_in 747 (by decide +kernel) (by decide +kernel), zT_in 108 (by decide +kernel) (by decide +kernel), zT_in 748 (by decide +kernel) (by decide +kernel)⟩, ⟨by decide +kernel, by decide +kernel, by decide +kernel⟩, by decide⟩
set_option maxRecDepth 20000 in
theorem ob_8 : zObj 8 RX1 := ⟨1, _, _, sh_8, rfl, rfl⟩
set_option maxRecDepth 20000 in
theorem gf_X12_193_69 : zFG RX12 193 69 15 none := ⟨_, _, _, _, _, _, sh_69, rfl, cl_X12, by decide, zT_in 1291 (by decide +kernel) (by decide +kernel)⟩
set_option maxRecDepth 20000 in
theorem gf_X12_196_69 : zFG RX12 196 69 16 none := ⟨_, _, _, _, _, _, sh_69, rfl, cl_X12, by decide, zT_in 1292 (by decide +kernel) (by decide +kernel)⟩
set_option maxRecDepth 20000 in
theorem lk_X12_199 : zLV RX12 199 yX12_here cX12_here 1 (some .int) 0 := ⟨⟨zT_in 1573 (by decide +kernel) (by decide +kernel), zT_in 1575 (by decide +kernel) (by decide +kernel), zT_in 51 (by decide +kernel) (by decide +kernel), zT_in 118 (by decide +kernel) (by decide +kernel), zT_in 1576 (by decide +kernel) (by decide +kernel)⟩, ⟨by decide +kernel, by decide +kernel, by decide +kernel⟩, by decide⟩
set_option maxRecDepth 20000 in
theorem gf_X12_32_69 : zFG RX12 32 69 24 (some (some 77)) := ⟨_, _, _, _, _, _, sh_69, rfl, cl_X12, by decide, zT_in 1300 (by decide +kernel) (by decide +kernel)⟩
set_option maxRecDepth 20000 in
theorem gf_X12_216_69 : zFG RX12 216 69 20 none := ⟨_, _, _, _, _, _, sh_69, rfl, cl_X12, by decide, zT_in 1296 (by decide +kernel) (by decide +kernel)⟩
set_option maxRecDepth 20000 in
theorem cs_X12_219 : Cond.constant RX12 219 1048576 ∈ zT := zT_in 1593 (by decide +kernel) (by decide +kernel)
set_option maxRecDepth 20000 in
theorem sh_77 : shp[77]? = some (.inr (0, 260)) := rfl
set_option maxRecDepth 20000 in
theorem pf_X12_216_69 : zFP RX12 216 69 20 none .int := ⟨_, _, _, _, _, _, sh_69, rfl, cl_X12, by decide, zT_in 1296 (by decide +kernel) (by decide +kernel), rfl, by decide +kernel⟩
set_option maxRecDepth 20000 in
theorem pf_X12_203_69 : zFP RX12 203 69 17 none .int := ⟨_, _, _, _, _, _, sh_69, rfl, cl_X12, by decide, zT_in 1293 (by decide +kernel) (by decide +kernel), rfl, by decide +kernel⟩
set_option maxRecDepth 20000 in
theorem pf_X12_209_69 : zFP RX12 209 69 18 none .int := ⟨_, _, _, _, _, _, sh_69, rfl, cl_X12, by decide, zT_in 1294 (by decide +kernel) (by decide +kernel), rfl, by decide +kernel⟩
set_option maxRecDepth 20000 in
theorem lk_X12_212 : zLV RX12 212 yX12_isDigit cX12_isDigit 1 (some .boolean) 0 := ⟨⟨zT_in 1594 (by decide +kernel) (by decide +kernel), zT_in 1596 (by decide +kernel) (by decide +kernel), zT_in 56 (by decide +kernel) (by decide +kernel), zT_in 118 (by decide +kernel) (by decide +kernel), zT_in 1597 (by decide +kernel) (by decide +kernel)⟩, ⟨by decide +kernel, by decide +kernel, by decide +kernel⟩, by decide⟩
set_option maxRecDepth 20000 in
theorem lk_X12_206 : zLV RX12 206 yX12_wrongAt cX12_wrongAt 3 (some .boolean) 2 := ⟨⟨zT_in 1577 (by decide +kernel) (by decide +kernel), zT_in 1579 (by decide +kernel) (by decide +kernel), zT_in 52 (by decide +kernel) (by decide +kernel), zT_in 118 (by decide +kernel) (by decide +kernel), zT_in 1580 (by decide +kernel) (by decide +kernel)⟩, ⟨by decide +kernel, by decide +kernel, by decide +kernel⟩, by decide⟩
set_option maxRecDepth 20000 in
theorem gf_X12_209_69 : zFG RX12 209 69 18 none := ⟨_, _, _, _, _, _, sh_69, rfl, cl_X12, by decide, zT_in 1294 (by decide +kernel) (by decide +kernel)⟩
set_option maxRecDepth 20000 in
theorem pf_X12_193_69 : zFP RX12 193 69 15 none .int := ⟨_, _, _, _, _, _, sh_69, rfl, cl_X12, by decide, zT_in 1291 (by decide +kernel) (by decide +kernel), rfl, by decide +kernel⟩
set_option maxRecDepth 20000 in
theorem gf_X12_220_69 : zFG RX12 220 69 19 none := ⟨_, _, _, _, _, _, sh_69, rfl, cl_X12, by decide, zT_in 1295 (by decide +kernel) (by decide +kernel)⟩
set_option maxRecDepth 20000 in
theorem pf_X12_220_69 : zFP RX12 220 69 19 none .int := ⟨_, _, _, _, _, _, sh_69, rfl, cl_X12, by decide, zT_in 1295 (by decide +kernel) (by decide +kernel), rfl, by decide +kernel⟩
set_option maxRecDepth 20000 in
theorem gf_X12_35_69 : zFG RX12 35 69 25 (some (some 78)) := ⟨_, _, _, _, _, _, sh_69, rfl, cl_X12, by decide, zT_in 1301 (by decide +kernel) (by decide +kernel)⟩
set_option maxRecDepth 20000 in
theorem gf_X12_223_69 : zFG RX12 223 69 21 none := ⟨_, _, _, _, _, _, sh_69, rfl, cl_X12, by decide, zT_in 1297 (by decide +kernel) (by decide +kernel)⟩
set_option maxRecDepth 20000 in
theorem sh_78 : shp[78]? = some (.inr (0, 260)) := rfl
set_option maxRecDepth 20000 in
theorem pf_X12_223_69 : zFP RX12 223 69 21 none .int := ⟨_, _, _, _, _, _, sh_69, rfl, cl_X12, by decide, zT_in 1297 (by decide +kernel) (by decide +kernel), rfl, by decide +kernel⟩
set_option maxRecDepth 20000 in
theorem lk_X12_233 : zLV RX12 233 yX12_opens cX12_opens 2 (some .boolean) 1 := ⟨⟨zT_in 1589 (by decide +kernel) (by decide +kernel), zT_in 1591 (by decide +kernel) (by decide +kernel), zT_in 55 (by decide +kernel) (by decide +kernel), zT_in 118 (by decide +kernel) (by decide +kernel), zT_in 1592 (by decide +kernel) (by decide +kernel)⟩, ⟨by decide +kernel, by decide +kernel, by decide +kernel⟩, by decide⟩
set_option maxRecDepth 20000 in
theorem lk_X12_239 : zLS' RX12 239 yX12_factOf cX12_factOf 1 (some .int) 1 := ⟨⟨zT_in 1606 (by decide +kernel) (by decide +kernel), zT_in 1607 (by decide +kernel) (by decide +kernel), zT_in 118 (by decide +kernel) (by decide +kernel), zT_in 1608 (by decide +kernel) (by decide +kernel)⟩, ⟨by decide +kernel, by decide +kernel, by decide +kernel⟩, by decide⟩
set_option maxRecDepth 20000 in
theorem lk_X12_229 : zLV RX12 229 yX12_notes cX12_notes 3 none 2 := ⟨⟨zT_in 1602 (by decide +kernel) (by decide +kernel), zT_in 1604 (by decide +kernel) (by decide +kernel), zT_in 58 (by decide +kernel) (by decide +kernel), zT_in 118 (by decide +kernel) (by decide +kernel), zT_in 1605 (by decide +kernel) (by decide +kernel)⟩, ⟨by decide +kernel, by decide +kernel, by decide +kernel⟩, by decide⟩
set_option maxRecDepth 20000 in
theorem lk_X12_236 : zLV RX12 236 yX12_readsNumber cX12_readsNumber 2 (some .boolean) 0 := ⟨⟨zT_in 1598 (by decide +kernel) (by decide +kernel), zT_in 1600 (by decide +kernel) (by decide +kernel), zT_in 57 (by decide +kernel) (by decide +kernel), zT_in 118 (by decide +kernel) (by decide +kernel), zT_in 1601 (by decide +kernel) (by decide +kernel)⟩, ⟨by decide +kernel, by decide +kernel, by decide +kernel⟩, by decide⟩
set_option maxRecDepth 20000 in
theorem lk_X12_226 : zLV RX12 226 yX12_waitTop cX12_waitTop 1 (some .int) 0 := ⟨⟨zT_in 1616 (by decide +kernel) (by decide +kernel), zT_in 1618 (by decide +kernel) (by decide +kernel), zT_in 60 (by decide +kernel) (by decide +kernel), zT_in 118 (by decide +kernel) (by decide +kernel), zT_in 1619 (by decide +kernel) (by decide +kernel)⟩, ⟨by decide +kernel, by decide +kernel, by decide +kernel⟩, by decide⟩
set_option maxRecDepth 20000 in
theorem lk_X12_242 : zLV RX12 242 yX12_readsFactor cX12_readsFactor 2 (some .boolean) 0 := ⟨⟨zT_in 1585 (by decide +kernel) (by decide +kernel), zT_in 1587 (by decide +kernel) (by decide +kernel), zT_in 54 (by decide +kernel) (by decide +kernel), zT_in 118 (by decide +kernel) (by decide +kernel), zT_in 1588 (by decide +kernel) (by decide +kernel)⟩, ⟨by decide +kernel, by decide +kernel, by decide +kernel⟩, by decide⟩
set_option maxRecDepth 20000 in
theorem lk_X12_245 : zLS' RX12 245 yX12_sumSign cX12_sumSign 1 (some .int) 1 := ⟨⟨zT_in 1609 (by decide +kernel) (by decide +kernel), zT_in 1610 (by decide +kernel) (by decide +kernel), zT_in 118 (by decide +kernel) (by decide +kernel), zT_in 1611 (by decide +kernel) (by decide +kernel)⟩, ⟨by decide +kernel, by decide +kernel, by decide +kernel⟩, by decide⟩
set_option maxRecDepth 20000 in
theorem lk_X12_252 : zLV RX12 252 yX12_hasOpenSum cX12_hasOpenSum 3 (some .boolean) 1 := ⟨⟨zT_in 1620 (by decide +kernel) (by decide +kernel), zT_in 1622 (by decide +kernel) (by decide +kernel), zT_in 61 (by decide +kernel) (by decide +kernel), zT_in 118 (by decide +kernel) (by decide +kernel), zT_in 1623 (by decide +kernel) (by decide +kernel)⟩, ⟨by decide +kernel, by decide +kernel, by decide +kernel⟩, by decide⟩
set_option maxRecDepth 20000 in
theorem lk_X12_248 : zLV RX12 248 yX12_closesSums cX12_closesSums 2 none 1 := ⟨⟨zT_in 1612 (by decide +kernel) (by decide +kernel), zT_in 1614 (by decide +kernel) (by decide +kernel), zT_in 59 (by decide +kernel) (by decide +kernel), zT_in 118 (by decide +kernel) (by decide +kernel), zT_in 1615 (by decide +kernel) (by decide +kernel)⟩, ⟨by decide +kernel, by decide +kernel, by decide +kernel⟩, by decide⟩
set_option maxRecDepth 20000 in
theorem lk_X12_255 : zLV RX12 255 yX12_readsSum cX12_readsSum 3 (some .boolean) 0 := ⟨⟨zT_in 1581 (by decide +kernel) (by decide +kernel), zT_in 1583 (by decide +kernel) (by decide +kernel), zT_in 53 (by decide +kernel) (by decide +kernel), zT_in 118 (by decide +kernel) (by decide +kernel), zT_in 1584 (by decide +kernel) (by decide +kernel)⟩, ⟨by decide +kernel, by decide +kernel, by decide +kernel⟩, by decide⟩
set_option maxRecDepth 20000 in
theorem lk_X12_258 : zLV RX12 258 yX12_endsPiece cX12_endsPiece 1 none 0 := ⟨⟨zT_in 1632 (by decide +kernel) (by decide +kernel), zT_in 1634 (by decide +kernel) (by decide +kernel), zT_in 64 (by decide +kernel) (by decide +kernel), zT_in 118 (by decide +kernel) (by decide +kernel), zT_in 1635 (by decide +kernel) (by decide +kernel)⟩, ⟨by decide +kernel, by decide +kernel, by decide +kernel⟩, by decide⟩
set_option maxRecDepth 20000 in
theorem lk_X12_261 : zLV RX12 261 yX12_readsCompared cX12_readsCompared 2 (some .boolean) 0 := ⟨⟨zT_in 1628 (by decide +kernel) (by decide +kernel), zT_in 1630 (by decide +kernel) (by decide +kernel), zT_in 63 (by decide +kernel) (by decide +kernel), zT_in 118 (by decide +kernel) (by decide +kernel), zT_in 1631 (by decide +kernel) (by decide +kernel)⟩, ⟨by decide +kernel, by decide +kernel, by decide +kernel⟩, by decide⟩
set_option maxRecDepth 20000 in
theorem lk_X12_264 : zLV RX12 264 yX12_lands cX12_lands 3 none 1 := ⟨⟨zT_in 1636 (by decide +kernel) (by decide +kernel), zT_in 1638 (by decide +kernel) (by decide +kernel), zT_in 65 (by decide +kernel) (by decide +kernel), zT_in 118 (by decide +kernel) (by decide +kernel), zT_in 1639 (by decide +kernel) (by decide +kernel)⟩, ⟨by decide +kernel, by decide +kernel, by decide +kernel⟩, by decide⟩
set_option maxRecDepth 20000 in
theorem lk_X12_267 : zLV RX12 267 yX12_jumps cX12_jumps 2 none 1 := ⟨⟨zT_in 1640 (by decide +kernel) (by decide +kernel), zT_in 1642 (by decide +kernel) (by decide +kernel), zT_in 66 (by decide +kernel) (by decide +kernel), zT_in 118 (by decide +kernel) (by decide +kernel), zT_in 1643 (by decide +kernel) (by decide +kernel)⟩, ⟨by decide +kernel, by decide +kernel, by decide +kernel⟩, by decide⟩
set_option maxRecDepth 20000 in
theorem gf_X12_270_69 : zFG RX12 270 69 22 none := ⟨_, _, _, _, _, _, sh_69, rfl, cl_X12, by decide, zT_in 1298 (by decide +kernel) (by decide +kernel)⟩
set_option maxRecDepth 20000 in
theorem gf_X12_38_69 : zFG RX12 38 69 26 (some (some 79)) := ⟨_, _, _, _, _, _, sh_69, rfl, cl_X12, by decide, zT_in 1302 (by decide +kernel) (by decide +kernel)⟩
set_option maxRecDepth 20000 in
theorem sh_79 : shp[79]? = some (.inr (0, 16)) := rfl
set_option maxRecDepth 20000 in
theorem gf_X12_41_69 : zFG RX12 41 69 27 (some (some 80)) := ⟨_, _, _, _, _, _, sh_69, rfl, cl_X12, by decide, zT_in 1303 (by decide +kernel) (by decide +kernel)⟩
set_option maxRecDepth 20000 in
theorem sh_80 : shp[80]? = some (.inr (0, 16)) := rfl
set_option maxRecDepth 20000 in
theorem gf_X12_44_69 : zFG RX12 44 69 28 (some (some 81)) := ⟨_, _, _, _, _, _, sh_69, rfl, cl_X12, by decide, zT_in 1304 (by decide +kernel) (by decide +kernel)⟩
set_option maxRecDepth 20000 in
theorem sh_81 : shp[81]? = some (.inr (0, 16)) := rfl
set_option maxRecDepth 20000 in
theorem lk_X12_273 : zLV RX12 273 yX12_readsCondition cX12_readsCondition 1 (some .boolean) 0 := ⟨⟨zT_in 1624 (by decide +kernel) (by decide +kernel), zT_in 1626 (by decide +kernel) (by decide +kernel), zT_in 62 (by decide +kernel) (by decide +kernel), zT_in 118 (by decide +kernel) (by decide +kernel), zT_in 1627 (by decide +kernel) (by decide +kernel)⟩, ⟨by decide +kernel, by decide +kernel, by decide +kernel⟩, by decide⟩
set_option maxRecDepth 20000 in
theorem gf_X12_47_69 : zFG RX12 47 69 29 (some (some 82)) := ⟨_, _, _, _, _, _, sh_69, rfl, cl_X12, by decide, zT_in 1305 (by decide +kernel) (by decide +kernel)⟩
set_option maxRecDepth 20000 in
theorem sh_82 : shp[82]? = some (.inr (0, 16)) := rfl
set_option maxRecDepth 20000 in
theorem pf_X12_270_69 : zFP RX12 270 69 22 none .int := ⟨_, _, _, _, _, _, sh_69, rfl, cl_X12, by decide, zT_in 1298 (by decide +kernel) (by decide +kernel), rfl, by decide +kernel⟩
set_option maxRecDepth 20000 in
theorem pf_X12_196_69 : zFP RX12 196 69 16 none .int := ⟨_, _, _, _, _, _, sh_69, rfl, cl_X12, by decide, zT_in 1292 (by decide +kernel) (by decide +kernel), rfl, by decide +kernel⟩
set_option maxRecDepth 20000 in
theorem lk_X12_276 : zLV RX12 276 yX12_readsClause cX12_readsClause 2 (some .boolean) 0 := ⟨⟨zT_in 1569 (by decide +kernel) (by decide +kernel), zT_in 1571 (by decide +kernel) (by decide +kernel), zT_in 50 (by decide +kernel) (by decide +kernel), zT_in 118 (by decide +kernel) (by decide +kernel), zT_in 1572 (by decide +kernel) (by decide +kernel)⟩, ⟨by decide +kernel, by decide +kernel, by decide +kernel⟩, by decide⟩
set_option maxRecDepth 20000 in
theorem gf_X12_203_69 : zFG RX12 203 69 17 none := ⟨_, _, _, _, _, _, sh_69, rfl, cl_X12, by decide, zT_in 1293 (by decide +kernel) (by decide +kernel)⟩
set_option maxRecDepth 20000 in
theorem pf_X12_282_69 : zFP RX12 282 69 23 none .int := ⟨_, _, _, _, _, _, sh_69, rfl, cl_X12, by decide, zT_in 1299 (by decide +kernel) (by decide +kernel), rfl, by decide +kernel⟩
set_option maxRecDepth 20000 in
theorem gf_X12_50_69 : zFG RX12 50 69 30 (some (some 83)) := ⟨_, _, _, _, _, _, sh_69, rfl, cl_X12, by decide, zT_in 1306 (by decide +kernel) (by decide +kernel)⟩
set_option maxRecDepth 20000 in
theorem gf_X12_53_69 : zFG RX12 53 69 31 (some (some 84)) := ⟨_, _, _, _, _, _, sh_69, rfl, cl_X12, by decide, zT_in 1307 (by decide +kernel) (by decide +kernel)⟩
set_option maxRecDepth 20000 in
theorem sh_84 : shp[84]? = some (.inr (0, 16)) := rfl
set_option maxRecDepth 20000 in
theorem gf_X12_56_69 : zFG RX12 56 69 32 (some (some 85)) := ⟨_, _, _, _, _, _, sh_69, rfl, cl_X12, by decide, zT_in 1308 (by decide +kernel) (by decide +kernel)⟩
set_option maxRecDepth 20000 in
theorem sh_85 : shp[85]? = some (.inr (0, 16)) := rfl
set_option maxRecDepth 20000 in
theorem gf_X12_59_69 : zFG RX12 59 69 33 (some (some 86)) := ⟨_, _, _, _, _, _, sh_69, rfl, cl_X12, by decide, zT_in 1309 (by decide +kernel) (by decide +kernel)⟩
set_option maxRecDepth 20000 in
theorem sh_86 : shp[86]? = some (.inr (0, 16)) := rfl
set_option maxRecDepth 20000 in
theorem gf_X12_62_69 : zFG RX12 62 69 34 (some (some 87)) := ⟨_, _, _, _, _, _, sh_69, rfl, cl_X12, by decide, zT_in 1310 (by decide +kernel) (by decide +kernel)⟩
set_option maxRecDepth 20000 in
theorem sh_87 : shp[87]? = some (.inr (0, 16)) := rfl
set_option maxRecDepth 20000 in
theorem sh_83 : shp[83]? = some (.inr (0, 260)) := rfl
set_option maxRecDepth 20000 in
theorem lk_X12_279 : zLV RX12 279 yX12_takes cX12_takes 2 (some .boolean) 1 := ⟨⟨zT_in 1644 (by decide +kernel) (by decide +kernel), zT_in 1646 (by decide +kernel) (by decide +kernel), zT_in 67 (by decide +kernel) (by decide +kernel), zT_in 118 (by decide +kernel) (by decide +kernel), zT_in 1647 (by decide +kernel) (by decide +kernel)⟩, ⟨by decide +kernel, by decide +kernel, by decide +kernel⟩, by decide⟩
set_option maxRecDepth 20000 in
theorem lk_X5_34 : zLN RX5 34 yX11_isBelow cX11_isBelow 2 (some .boolean) 2 := ⟨⟨⟨_, List.mem_of_getElem? (i := 3) rfl⟩, zT_in 561 (by decide +kernel) (by decide +kernel), zT_in 106 (by decide +kernel) (by decide +kernel), zT_in 562 (by decide +kernel) (by decide +kernel)⟩, ⟨by decide +kernel, by decide +kernel, by decide +kernel⟩, by decide⟩
set_option maxRecDepth 20000 in
theorem st_X5_38 : Cond.fieldLink RX5 38 "GiantHeart$Seeker" "HIGHEST" "[I" ∈ zT := zT_in 772 (by decide +kernel) (by decide +kernel)
set_option maxRecDepth 20000 in
theorem sh_44 : shp[44]? = some (.inl (7, [some (some 45), some (some 46), none])) := rfl
set_option maxRecDepth 20000 in
theorem cl_X7 : zCl 7 RX7 TX7 3 tyX7 := ⟨rfl, inX7, tyX7_ok, nmX7⟩
set_option maxRecDepth 20000 in
theorem pf_X7_18_44 : zFP RX7 18 44 2 none .int := ⟨_, _, _, _, _, _, sh_44, rfl, cl_X7, by decide, zT_in 378 (by decide +kernel) (by decide +kernel), rfl, by decide +kernel⟩
set_option maxRecDepth 20000 in
theorem lk_X7_35 : zLN RX7 35 yX11_fault cX11_fault 2 (some .int) 2 := ⟨⟨⟨_, List.mem_of_getElem? (i := 1) rfl⟩, zT_in 765 (by decide +kernel) (by decide +kernel), zT_in 106 (by decide +kernel) (by decide +kernel), zT_in 766 (by decide +kernel) (by decide +kernel)⟩, ⟨by decide +kernel, by decide +kernel, by decide +kernel⟩, by decide⟩
set_option maxRecDepth 20000 in
theorem lk_X7_22 : zLV RX7 22 yX8_at cX8_at 2 (some .int) 1 := ⟨⟨zT_in 761 (by decide +kernel) (by decide +kernel), zT_in 617 (by decide +kernel) (by decide +kernel), zT_in 618 (by decide +kernel) (by decide +kernel), zT_in 111 (by decide +kernel) (by decide +kernel), zT_in 619 (by decide +kernel) (by decide +kernel)⟩, ⟨by decide +kernel, by decide +kernel, by decide +kernel⟩, by decide⟩
set_option maxRecDepth 20000 in
theorem lk_X7_30 : zLV RX7 30 yJ0_indexOf_0f7a4 cJ0_indexOf_0f7a4 2 (some .int) 1 := ⟨⟨zT_in 763 (by decide +kernel) (by decide +kernel), zT_in 646 (by decide +kernel) (by decide +kernel), zT_in 647 (by decide +kernel) (by decide +kernel), zT_in 120 (by decide +kernel) (by decide +kernel), zT_in 648 (by decide +kernel) (by decide +kernel)⟩, ⟨by decide +kernel, by decide +kernel, by decide +kernel⟩, by decide⟩
set_option maxRecDepth 20000 in
theorem gf_X7_18_44 : zFG RX7 18 44 2 none := ⟨_, _, _, _, _, _, sh_44, rfl, cl_X7, by decide, zT_in 378 (by decide +kernel) (by decide +kernel)⟩
set_option maxRecDepth 20000 in
theorem lk_X7_39 : zLN RX7 39 yX11_isBelow cX11_isBelow 2 (some .boolean) 2 := ⟨⟨⟨_, List.mem_of_getElem? (i := 2) rfl⟩, zT_in 561 (by decide +kernel) (by decide +kernel), zT_in 106 (by decide +kernel) (by decide +kernel), zT_in 562 (by decide +kernel) (by decide +kernel)⟩, ⟨by decide +kernel, by decide +kernel, by decide +kernel⟩, by decide⟩
set_option maxRecDepth 20000 in
theorem lk_X7_43 : zLS' RX7 43 yX5_highest cX5_highest 1 (some .int) 1 := ⟨⟨zT_in 768 (by decide +kernel) (by decide +kernel), zT_in 769 (by decide +kernel) (by decide +kernel), zT_in 109 (by decide +kernel) (by decide +kernel), zT_in 770 (by decide +kernel) (by decide +kernel)⟩, ⟨by decide +kernel, by decide +kernel, by decide +kernel⟩, by decide⟩
set_option maxRecDepth 20000 in
theorem gf_X7_11_44 : zFG RX7 11 44 0 (some (some 45)) := ⟨_, _, _, _, _, _, sh_44, rfl, cl_X7, by decide, zT_in 376 (by decide +kernel) (by decide +kernel)⟩
set_option maxRecDepth 20000 in
theorem sh_45 : shp[45]? = some (.inr (0, 32)) := rfl
set_option maxRecDepth 20000 in
theorem gf_X7_15_44 : zFG RX7 15 44 1 (some (some 46)) := ⟨_, _, _, _, _, _, sh_44, rfl, cl_X7, by decide, zT_in 377 (by decide +kernel) (by decide +kernel)⟩
set_option maxRecDepth 20000 in
theorem sh_46 : shp[46]? = some (.inr (0, 32)) := rfl
set_option maxRecDepth 20000 in
theorem gf_X7_48_33 : zFG RX7 48 33 2 none := ⟨_, _, _, _, _, _, sh_33, rfl, cl_X8, by decide, zT_in 360 (by decide +kernel) (by decide +kernel)⟩
set_option maxRecDepth 20000 in
theorem sh_17 : shp[17]? = some (.inl (5, [some (some 1), some (some 18), some (some 19), some (some 20), some (some 21), some (some 22), none, none, none, none, none, none, none, none, none, some (some 23)])) := rfl
set_option maxRecDepth 20000 in
theorem cl_X5 : zCl 5 RX5 TX5 16 tyX5 := ⟨rfl, inX5, tyX5_ok, nmX5⟩
set_option maxRecDepth 20000 in
theorem gf_X5_24_17 : zFG RX5 24 17 5 (some (some 22)) := ⟨_, _, _, _, _, _, sh_17, rfl, cl_X5, by decide, zT_in 268 (by decide +kernel) (by decide +kernel)⟩
set_option maxRecDepth 20000 in
theorem sh_22 : shp[22]? = some (.inr (0, 3)) := rfl
set_option maxRecDepth 20000 in
theorem gf_X5_21_17 : zFG RX5 21 17 4 (some (some 21)) := ⟨_, _, _, _, _, _, sh_17, rfl, cl_X5, by decide, zT_in 267 (by decide +kernel) (by decide +kernel)⟩
set_option maxRecDepth 20000 in
theorem sh_21 : shp[21]? = some (.inr (0, 8)) := rfl
set_option maxRecDepth 20000 in
theorem gf_X5_30_17 : zFG RX5 30 17 0 (some (some 1)) := ⟨_, _, _, _, _, _, sh_17, rfl, cl_X5, by decide, zT_in 263 (by decide +kernel) (by decide +kernel)⟩
set_option maxRecDepth 20000 in
theorem gf_X5_133_1 : zFG RX5 133 1 0 (some (some 2)) := ⟨_, _, _, _, _, _, sh_1, rfl, cl_X10, by decide, zT_in 143 (by decide +kernel) (by decide +kernel)⟩
set_option maxRecDepth 20000 in
theorem gf_X5_9_17 : zFG RX5 9 17 1 (some (some 18)) := ⟨_, _, _, _, _, _, sh_17, rfl, cl_X5, by decide, zT_in 264 (by decide +kernel) (by decide +kernel)⟩
set_option maxRecDepth 20000 in
theorem gf_X5_18_17 : zFG RX5 18 17 3 (some (some 20)) := ⟨_, _, _, _, _, _, sh_17, rfl, cl_X5, by decide, zT_in 266 (by decide +kernel) (by decide +kernel)⟩
set_option maxRecDepth 20000 in
theorem gf_X5_57_1 : zFG RX5 57 1 5 (some (some 7)) := ⟨_, _, _, _, _, _, sh_1, rfl, cl_X10, by decide, zT_in 153 (by decide +kernel) (by decide +kernel)⟩
set_option maxRecDepth 20000 in
theorem ac_X5_60 : (Cond.methodLink RX5 60 arraycopyName ∈ zT ∧ Cond.native arraycopyName ∈ zT) ∧ Cond.static arraycopyName ∈ zT ∧ Cond.initialized "java/lang/System" ∈ zT := ⟨⟨zT_in 795 (by decide +kernel) (by decide +kernel), zT_in 751 (by decide +kernel) (by decide +kernel)⟩, zT_in 750 (by decide +kernel) (by decide +kernel), zT_in 125 (by decide +kernel) (by decide +kernel)⟩
set_option maxRecDepth 20000 in
theorem lk_X5_66 : zLV RX5 66 yX5_learnMouths cX5_learnMouths 3 none 0 := ⟨⟨zT_in 796 (by decide +kernel) (by decide +kernel), zT_in 798 (by decide +kernel) (by decide +kernel), zT_in 10 (by decide +kernel) (by decide +kernel), zT_in 109 (by decide +kernel) (by decide +kernel), zT_in 799 (by decide +kernel) (by decide +kernel)⟩, ⟨by decide +kernel, by decide +kernel, by decide +kernel⟩, by decide⟩
set_option maxRecDepth 20000 in
theorem ob_17 : zObj 17 RX5 := ⟨5, _, _, sh_17, rfl, rfl⟩
set_option maxRecDepth 20000 in
theorem pf_X5_69_17 : zFP RX5 69 17 6 none .int := ⟨_, _, _, _, _, _, sh_17, rfl, cl_X5, by decide, zT_in 269 (by decide +kernel) (by decide +kernel), rfl, by decide +kernel⟩
set_option maxRecDepth 20000 in
theorem gf_X5_73_1 : zFG RX5 73 1 8 none := ⟨_, _, _, _, _, _, sh_1, rfl, cl_X10, by decide, zT_in 163 (by decide +kernel) (by decide +kernel)⟩
set_option maxRecDepth 20000 in
theorem gf_X5_69_17 : zFG RX5 69 17 6 none := ⟨_, _, _, _, _, _, sh_17, rfl, cl_X5, by decide, zT_in 269 (by decide +kernel) (by decide +kernel)⟩
set_option maxRecDepth 20000 in
theorem gf_X5_76_1 : zFG RX5 76 1 4 (some (some 6)) := ⟨_, _, _, _, _, _, sh_1, rfl, cl_X10, by decide, zT_in 150 (by decide +kernel) (by decide +kernel)⟩
set_option maxRecDepth 20000 in
theorem lk_X5_55 : zLV RX5 55 yX10_around cX10_around 5 (some .int) 1 := ⟨⟨zT_in 791 (by decide +kernel) (by decide +kernel), zT_in 792 (by decide +kernel) (by decide +kernel), zT_in 793 (by decide +kernel) (by decide +kernel), zT_in 107 (by decide +kernel) (by decide +kernel), zT_in 794 (by decide +kernel) (by decide +kernel)⟩, ⟨by decide +kernel, by decide +kernel, by decide +kernel⟩, by decide⟩
set_option maxRecDepth 20000 in
theorem sh_20 : shp[20]? = some (.inr (0, 8)) := rfl
set_option maxRecDepth 20000 in
theorem sh_18 : shp[18]? = some (.inr (0, 4)) := rfl
set_option maxRecDepth 20000 in
theorem gf_X5_15_17 : zFG RX5 15 17 2 (some (some 19)) := ⟨_, _, _, _, _, _, sh_17, rfl, cl_X5, by decide, zT_in 265 (by decide +kernel) (by decide +kernel)⟩
set_option maxRecDepth 20000 in
theorem sh_19 : shp[19]? = some (.inr (0, 4)) := rfl
set_option maxRecDepth 20000 in
theorem lk_X5_51 : zLV RX5 51 yX5_daysTo cX5_daysTo 3 (some .int) 2 := ⟨⟨zT_in 787 (by decide +kernel) (by decide +kernel), zT_in 788 (by decide +kernel) (by decide +kernel), zT_in 789 (by decide +kernel) (by decide +kernel), zT_in 109 (by decide +kernel) (by decide +kernel), zT_in 790 (by decide +kernel) (by decide +kernel)⟩, ⟨by decide +kernel, by decide +kernel, by decide +kernel⟩, by decide⟩
set_option maxRecDepth 20000 in
theorem lk_X5_41 : zLV RX5 41 yX10_isTold cX10_isTold 2 (some .boolean) 1 := ⟨⟨zT_in 782 (by decide +kernel) (by decide +kernel), zT_in 568 (by decide +kernel) (by decide +kernel), zT_in 569 (by decide +kernel) (by decide +kernel), zT_in 107 (by decide +kernel) (by decide +kernel), zT_in 570 (by decide +kernel) (by decide +kernel)⟩, ⟨by decide +kernel, by decide +kernel, by decide +kernel⟩, by decide⟩
set_option maxRecDepth 20000 in
theorem lk_X5_47 : zLV RX5 47 yX10_islandOf cX10_islandOf 4 (some .int) 1 := ⟨⟨zT_in 783 (by decide +kernel) (by decide +kernel), zT_in 784 (by decide +kernel) (by decide +kernel), zT_in 785 (by decide +kernel) (by decide +kernel), zT_in 107 (by decide +kernel) (by decide +kernel), zT_in 786 (by decide +kernel) (by decide +kernel)⟩, ⟨by decide +kernel, by decide +kernel, by decide +kernel⟩, by decide⟩
set_option maxRecDepth 20000 in
theorem gf_X5_94_17 : zFG RX5 94 17 9 none := ⟨_, _, _, _, _, _, sh_17, rfl, cl_X5, by decide, zT_in 275 (by decide +kernel) (by decide +kernel)⟩
set_option maxRecDepth 20000 in
theorem st_X5_130 : Cond.fieldLink RX5 130 "GiantHeart$Seeker" "POWERS" "[I" ∈ zT := zT_in 817 (by decide +kernel) (by decide +kernel)
set_option maxRecDepth 20000 in
theorem pf_X5_124_17 : zFP RX5 124 17 10 none .int := ⟨_, _, _, _, _, _, sh_17, rfl, cl_X5, by decide, zT_in 277 (by decide +kernel) (by decide +kernel), rfl, by decide +kernel⟩
set_option maxRecDepth 20000 in
theorem gf_X5_97_17 : zFG RX5 97 17 8 none := ⟨_, _, _, _, _, _, sh_17, rfl, cl_X5, by decide, zT_in 273 (by decide +kernel) (by decide +kernel)⟩
set_option maxRecDepth 20000 in
theorem gf_X5_124_17 : zFG RX5 124 17 10 none := ⟨_, _, _, _, _, _, sh_17, rfl, cl_X5, by decide, zT_in 277 (by decide +kernel) (by decide +kernel)⟩
set_option maxRecDepth 20000 in
theorem lk_X5_106 : zLV RX5 106 yX5_done cX5_done 2 (some .int) 1 := ⟨⟨zT_in 813 (by decide +kernel) (by decide +kernel), zT_in 815 (by decide +kernel) (by decide +kernel), zT_in 12 (by decide +kernel) (by decide +kernel), zT_in 109 (by decide +kernel) (by decide +kernel), zT_in 816 (by decide +kernel) (by decide +kernel)⟩, ⟨by decide +kernel, by decide +kernel, by decide +kernel⟩, by decide⟩
set_option maxRecDepth 20000 in
theorem gf_X5_79_1 : zFG RX5 79 1 3 (some (some 5)) := ⟨_, _, _, _, _, _, sh_1, rfl, cl_X10, by decide, zT_in 148 (by decide +kernel) (by decide +kernel)⟩
set_option maxRecDepth 20000 in
theorem pf_X5_115_17 : zFP RX5 115 17 12 none .int := ⟨_, _, _, _, _, _, sh_17, rfl, cl_X5, by decide, zT_in 279 (by decide +kernel) (by decide +kernel), rfl, by decide +kernel⟩
set_option maxRecDepth 20000 in
theorem gf_X5_127_1 : zFG RX5 127 1 7 none := ⟨_, _, _, _, _, _, sh_1, rfl, cl_X10, by decide, zT_in 160 (by decide +kernel) (by decide +kernel)⟩
set_option maxRecDepth 20000 in
theorem pf_X5_118_17 : zFP RX5 118 17 13 none .int := ⟨_, _, _, _, _, _, sh_17, rfl, cl_X5, by decide, zT_in 280 (by decide +kernel) (by decide +kernel), rfl, by decide +kernel⟩
set_option maxRecDepth 20000 in
theorem pf_X5_121_17 : zFP RX5 121 17 14 none .int := ⟨_, _, _, _, _, _, sh_17, rfl, cl_X5, by decide, zT_in 281 (by decide +kernel) (by decide +kernel), rfl, by decide +kernel⟩
set_option maxRecDepth 20000 in
theorem pf_X5_94_17 : zFP RX5 94 17 9 none .int := ⟨_, _, _, _, _, _, sh_17, rfl, cl_X5, by decide, zT_in 275 (by decide +kernel) (by decide +kernel), rfl, by decide +kernel⟩
set_option maxRecDepth 20000 in
theorem pf_X5_97_17 : zFP RX5 97 17 8 none .int := ⟨_, _, _, _, _, _, sh_17, rfl, cl_X5, by decide, zT_in 273 (by decide +kernel) (by decide +kernel), rfl, by decide +kernel⟩
set_option maxRecDepth 20000 in
theorem lk_X5_100 : zLV RX5 100 yX5_gatherKeys cX5_gatherKeys 5 none 0 := ⟨⟨zT_in 809 (by decide +kernel) (by decide +kernel), zT_in 811 (by decide +kernel) (by decide +kernel), zT_in 11 (by decide +kernel) (by decide +kernel), zT_in 109 (by decide +kernel) (by decide +kernel), zT_in 812 (by decide +kernel) (by decide +kernel)⟩, ⟨by decide +kernel, by decide +kernel, by decide +kernel⟩, by decide⟩
set_option maxRecDepth 20000 in
theorem lk_X5_103 : zLV RX5 103 yX5_findOpenable cX5_findOpenable 5 none 0 := ⟨⟨zT_in 819 (by decide +kernel) (by decide +kernel), zT_in 821 (by decide +kernel) (by decide +kernel), zT_in 13 (by decide +kernel) (by decide +kernel), zT_in 109 (by decide +kernel) (by decide +kernel), zT_in 822 (by decide +kernel) (by decide +kernel)⟩, ⟨by decide +kernel, by decide +kernel, by decide +kernel⟩, by decide⟩
set_option maxRecDepth 20000 in
theorem pf_X5_109_17 : zFP RX5 109 17 11 none .int := ⟨_, _, _, _, _, _, sh_17, rfl, cl_X5, by decide, zT_in 278 (by decide +kernel) (by decide +kernel), rfl, by decide +kernel⟩
set_option maxRecDepth 20000 in
theorem gf_X5_27_17 : zFG RX5 27 17 15 (some (some 23)) := ⟨_, _, _, _, _, _, sh_17, rfl, cl_X5, by decide, zT_in 282 (by decide +kernel) (by decide +kernel)⟩
set_option maxRecDepth 20000 in
theorem sh_23 : shp[23]? = some (.inr (0, 6)) := rfl
set_option maxRecDepth 20000 in
theorem pf_X5_112_17 : zFP RX5 112 17 7 none .int := ⟨_, _, _, _, _, _, sh_17, rfl, cl_X5, by decide, zT_in 271 (by decide +kernel) (by decide +kernel), rfl, by decide +kernel⟩
set_option maxRecDepth 20000 in
theorem gf_X5_109_17 : zFG RX5 109 17 11 none := ⟨_, _, _, _, _, _, sh_17, rfl, cl_X5, by decide, zT_in 278 (by decide +kernel) (by decide +kernel)⟩
set_option maxRecDepth 20000 in
theorem gf_X5_115_17 : zFG RX5 115 17 12 none := ⟨_, _, _, _, _, _, sh_17, rfl, cl_X5, by decide, zT_in 279 (by decide +kernel) (by decide +kernel)⟩
set_option maxRecDepth 20000 in
theorem gf_X5_118_17 : zFG RX5 118 17 13 none := ⟨_, _, _, _, _, _, sh_17, rfl, cl_X5, by decide, zT_in 280 (by decide +kernel) (by decide +kernel)⟩
set_option maxRecDepth 20000 in
theorem gf_X5_121_17 : zFG RX5 121 17 14 none := ⟨_, _, _, _, _, _, sh_17, rfl, cl_X5, by decide, zT_in 281 (by decide +kernel) (by decide +kernel)⟩
set_option maxRecDepth 20000 in
theorem mm_X5_82 : (Cond.methodLink RX5 82 Lib.Math.max.name ∈ zT ∧ Cond.static Lib.Math.max.name ∈ zT) ∧ Cond.initialized "java/lang/Math" ∈ zT ∧ Cond.code Lib.Math.max.name Lib.Math.max.code 2 (some .int) ∈ zT := ⟨⟨zT_in 804 (by decide +kernel) (by decide +kernel), zT_in 674 (by decide +kernel) (by decide +kernel)⟩, zT_in 119 (by decide +kernel) (by decide +kernel), zT_in 675 (by decide +kernel) (by decide +kernel)⟩
set_option maxRecDepth 20000 in
theorem lk_X5_87 : zLV RX5 87 yX5_enter cX5_enter 3 none 1 := ⟨⟨zT_in 805 (by decide +kernel) (by decide +kernel), zT_in 806 (by decide +kernel) (by decide +kernel), zT_in 807 (by decide +kernel) (by decide +kernel), zT_in 109 (by decide +kernel) (by decide +kernel), zT_in 808 (by decide +kernel) (by decide +kernel)⟩, ⟨by decide +kernel, by decide +kernel, by decide +kernel⟩, by decide⟩
set_option maxRecDepth 20000 in
theorem lk_X5_91 : zLV RX5 91 yX5_arrive cX5_arrive 2 none 1 := ⟨⟨zT_in 823 (by decide +kernel) (by decide +kernel), zT_in 824 (by decide +kernel) (by decide +kernel), zT_in 825 (by decide +kernel) (by decide +kernel), zT_in 109 (by decide +kernel) (by decide +kernel), zT_in 826 (by decide +kernel) (by decide +kernel)⟩, ⟨by decide +kernel, by decide +kernel, by decide +kernel⟩, by decide⟩
set_option maxRecDepth 20000 in
theorem gf_X5_112_17 : zFG RX5 112 17 7 none := ⟨_, _, _, _, _, _, sh_17, rfl, cl_X5, by decide, zT_in 271 (by decide +kernel) (by decide +kernel)⟩
set_option maxRecDepth 20000 in
theorem lk_X5_136 : zLV RX5 136 yX5_state cX5_state 4 (some .int) 3 := ⟨⟨zT_in 839 (by decide +kernel) (by decide +kernel), zT_in 841 (by decide +kernel) (by decide +kernel), zT_in 14 (by decide +kernel) (by decide +kernel), zT_in 109 (by decide +kernel) (by decide +kernel), zT_in 842 (by decide +kernel) (by decide +kernel)⟩, ⟨by decide +kernel, by decide +kernel, by decide +kernel⟩, by decide⟩
set_option maxRecDepth 20000 in
theorem lk_X7_51 : zLV RX7 51 yX5_learn cX5_learn 3 none 0 := ⟨⟨zT_in 778 (by decide +kernel) (by decide +kernel), zT_in 779 (by decide +kernel) (by decide +kernel), zT_in 780 (by decide +kernel) (by decide +kernel), zT_in 109 (by decide +kernel) (by decide +kernel), zT_in 781 (by decide +kernel) (by decide +kernel)⟩, ⟨by decide +kernel, by decide +kernel, by decide +kernel⟩, by decide⟩
set_option maxRecDepth 20000 in
theorem lk_X7_54 : zLV RX7 54 yX5_stand cX5_stand 2 none 1 := ⟨⟨zT_in 800 (by decide +kernel) (by decide +kernel), zT_in 801 (by decide +kernel) (by decide +kernel), zT_in 802 (by decide +kernel) (by decide +kernel), zT_in 109 (by decide +kernel) (by decide +kernel), zT_in 803 (by decide +kernel) (by decide +kernel)⟩, ⟨by decide +kernel, by decide +kernel, by decide +kernel⟩, by decide⟩
set_option maxRecDepth 20000 in
theorem gf_X7_67_17 : zFG RX7 67 17 8 none := ⟨_, _, _, _, _, _, sh_17, rfl, cl_X5, by decide, zT_in 272 (by decide +kernel) (by decide +kernel)⟩
set_option maxRecDepth 20000 in
theorem gf_X7_70_17 : zFG RX7 70 17 10 none := ⟨_, _, _, _, _, _, sh_17, rfl, cl_X5, by decide, zT_in 276 (by decide +kernel) (by decide +kernel)⟩
set_option maxRecDepth 20000 in
theorem gf_X7_73_17 : zFG RX7 73 17 7 none := ⟨_, _, _, _, _, _, sh_17, rfl, cl_X5, by decide, zT_in 270 (by decide +kernel) (by decide +kernel)⟩
set_option maxRecDepth 20000 in
theorem lk_X7_76 : zLV RX7 76 yX5_isHad cX5_isHad 2 (some .boolean) 1 := ⟨⟨zT_in 843 (by decide +kernel) (by decide +kernel), zT_in 844 (by decide +kernel) (by decide +kernel), zT_in 845 (by decide +kernel) (by decide +kernel), zT_in 109 (by decide +kernel) (by decide +kernel), zT_in 846 (by decide +kernel) (by decide +kernel)⟩, ⟨by decide +kernel, by decide +kernel, by decide +kernel⟩, by decide⟩
set_option maxRecDepth 20000 in
theorem lk_X7_58 : zLV RX7 58 yX5_canBits cX5_canBits 2 (some .int) 1 := ⟨⟨zT_in 827 (by decide +kernel) (by decide +kernel), zT_in 828 (by decide +kernel) (by decide +kernel), zT_in 829 (by decide +kernel) (by decide +kernel), zT_in 109 (by decide +kernel) (by decide +kernel), zT_in 830 (by decide +kernel) (by decide +kernel)⟩, ⟨by decide +kernel, by decide +kernel, by decide +kernel⟩, by decide⟩
set_option maxRecDepth 20000 in
theorem lk_X7_61 : zLV RX7 61 yX5_daysOf cX5_daysOf 3 (some .int) 2 := ⟨⟨zT_in 831 (by decide +kernel) (by decide +kernel), zT_in 832 (by decide +kernel) (by decide +kernel), zT_in 833 (by decide +kernel) (by decide +kernel), zT_in 109 (by decide +kernel) (by decide +kernel), zT_in 834 (by decide +kernel) (by decide +kernel)⟩, ⟨by decide +kernel, by decide +kernel, by decide +kernel⟩, by decide⟩
set_option maxRecDepth 20000 in
theorem lk_X7_64 : zLV RX7 64 yX5_after cX5_after 3 (some .int) 2 := ⟨⟨zT_in 835 (by decide +kernel) (by decide +kernel), zT_in 836 (by decide +kernel) (by decide +kernel), zT_in 837 (by decide +kernel) (by decide +kernel), zT_in 109 (by decide +kernel) (by decide +kernel), zT_in 838 (by decide +kernel) (by decide +kernel)⟩, ⟨by decide +kernel, by decide +kernel, by decide +kernel⟩, by decide⟩
set_option maxRecDepth 20000 in
theorem gf_X11_57_0 : zFG RX11 57 0 7 (some (some 44)) := ⟨_, _, _, _, _, _, sh_0, rfl, cl_X11, by decide, zT_in 520 (by decide +kernel) (by decide +kernel)⟩
set_option maxRecDepth 20000 in
theorem lk_X11_154 : zLV RX11 154 yX7_read cX7_read 7 (some .int) 1 := ⟨⟨zT_in 757 (by decide +kernel) (by decide +kernel), zT_in 758 (by decide +kernel) (by decide +kernel), zT_in 759 (by decide +kernel) (by decide +kernel), zT_in 112 (by decide +kernel) (by decide +kernel), zT_in 760 (by decide +kernel) (by decide +kernel)⟩, ⟨by decide +kernel, by decide +kernel, by decide +kernel⟩, by decide⟩
set_option maxRecDepth 20000 in
theorem ob_44 : zObj 44 RX7 := ⟨7, _, _, sh_44, rfl, rfl⟩
set_option maxRecDepth 20000 in
theorem gf_X11_50_0 : zFG RX11 50 0 6 (some (some 17)) := ⟨_, _, _, _, _, _, sh_0, rfl, cl_X11, by decide, zT_in 519 (by decide +kernel) (by decide +kernel)⟩
set_option maxRecDepth 20000 in
theorem lk_X11_155 : zLV RX11 155 yX7_judged cX7_judged 5 (some .int) 2 := ⟨⟨zT_in 774 (by decide +kernel) (by decide +kernel), zT_in 775 (by decide +kernel) (by decide +kernel), zT_in 776 (by decide +kernel) (by decide +kernel), zT_in 112 (by decide +kernel) (by decide +kernel), zT_in 777 (by decide +kernel) (by decide +kernel)⟩, ⟨by decide +kernel, by decide +kernel, by decide +kernel⟩, by decide⟩
set_option maxRecDepth 20000 in
theorem lk_X12_335 : zLS' RX12 335 yX12_kindOf cX12_kindOf 1 (some .int) 1 := ⟨⟨zT_in 1700 (by decide +kernel) (by decide +kernel), zT_in 1701 (by decide +kernel) (by decide +kernel), zT_in 118 (by decide +kernel) (by decide +kernel), zT_in 1702 (by decide +kernel) (by decide +kernel)⟩, ⟨by decide +kernel, by decide +kernel, by decide +kernel⟩, by decide⟩
set_option maxRecDepth 20000 in
theorem gf_X12_338_69 : zFG RX12 338 69 42 none := ⟨_, _, _, _, _, _, sh_69, rfl, cl_X12, by decide, zT_in 1318 (by decide +kernel) (by decide +kernel)⟩
set_option maxRecDepth 20000 in
theorem lk_X12_341 : zLS' RX12 341 yX12_digitsFor cX12_digitsFor 1 (some .int) 1 := ⟨⟨zT_in 1703 (by decide +kernel) (by decide +kernel), zT_in 1704 (by decide +kernel) (by decide +kernel), zT_in 118 (by decide +kernel) (by decide +kernel), zT_in 1705 (by decide +kernel) (by decide +kernel)⟩, ⟨by decide +kernel, by decide +kernel, by decide +kernel⟩, by decide⟩
set_option maxRecDepth 20000 in
theorem gf_X12_71_69 : zFG RX12 71 69 43 (some (some 90)) := ⟨_, _, _, _, _, _, sh_69, rfl, cl_X12, by decide, zT_in 1319 (by decide +kernel) (by decide +kernel)⟩
set_option maxRecDepth 20000 in
theorem sh_90 : shp[90]? = some (.inr (0, 32)) := rfl
set_option maxRecDepth 20000 in
theorem gf_X12_74_69 : zFG RX12 74 69 44 (some (some 91)) := ⟨_, _, _, _, _, _, sh_69, rfl, cl_X12, by decide, zT_in 1320 (by decide +kernel) (by decide +kernel)⟩
set_option maxRecDepth 20000 in
theorem sh_91 : shp[91]? = some (.inr (0, 32)) := rfl
set_option maxRecDepth 20000 in
theorem pf_X12_338_69 : zFP RX12 338 69 42 none .int := ⟨_, _, _, _, _, _, sh_69, rfl, cl_X12, by decide, zT_in 1318 (by decide +kernel) (by decide +kernel), rfl, by decide +kernel⟩
set_option maxRecDepth 20000 in
theorem pf_X12_320_69 : zFP RX12 320 69 37 none .int := ⟨_, _, _, _, _, _, sh_69, rfl, cl_X12, by decide, zT_in 1313 (by decide +kernel) (by decide +kernel), rfl, by decide +kernel⟩
set_option maxRecDepth 20000 in
theorem pf_X12_323_69 : zFP RX12 323 69 38 none .int := ⟨_, _, _, _, _, _, sh_69, rfl, cl_X12, by decide, zT_in 1314 (by decide +kernel) (by decide +kernel), rfl, by decide +kernel⟩
set_option maxRecDepth 20000 in
theorem pf_X12_326_69 : zFP RX12 326 69 39 none .int := ⟨_, _, _, _, _, _, sh_69, rfl, cl_X12, by decide, zT_in 1315 (by decide +kernel) (by decide +kernel), rfl, by decide +kernel⟩
set_option maxRecDepth 20000 in
theorem pf_X12_329_69 : zFP RX12 329 69 40 none .int := ⟨_, _, _, _, _, _, sh_69, rfl, cl_X12, by decide, zT_in 1316 (by decide +kernel) (by decide +kernel), rfl, by decide +kernel⟩
set_option maxRecDepth 20000 in
theorem pf_X12_332_69 : zFP RX12 332 69 41 none .int := ⟨_, _, _, _, _, _, sh_69, rfl, cl_X12, by decide, zT_in 1317 (by decide +kernel) (by decide +kernel), rfl, by decide +kernel⟩
set_option maxRecDepth 20000 in
theorem gf_X12_173_69 : zFG RX12 173 69 2 none := ⟨_, _, _, _, _, _, sh_69, rfl, cl_X12, by decide, zT_in 1278 (by decide +kernel) (by decide +kernel)⟩
set_option maxRecDepth 20000 in
theorem lk_X12_354 : zLV RX12 354 yX12_aims cX12_aims 3 (some .int) 0 := ⟨⟨zT_in 1729 (by decide +kernel) (by decide +kernel), zT_in 1731 (by decide +kernel) (by decide +kernel), zT_in 82 (by decide +kernel) (by decide +kernel), zT_in 118 (by decide +kernel) (by decide +kernel), zT_in 1732 (by decide +kernel) (by decide +kernel)⟩, ⟨by decide +kernel, by decide +kernel, by decide +kernel⟩, by decide⟩
set_option maxRecDepth 20000 in
theorem lk_X12_176 : zLV RX12 176 yX12_islandBy cX12_islandBy 3 (some .int) 1 := ⟨⟨zT_in 1545 (by decide +kernel) (by decide +kernel), zT_in 1547 (by decide +kernel) (by decide +kernel), zT_in 46 (by decide +kernel) (by decide +kernel), zT_in 118 (by decide +kernel) (by decide +kernel), zT_in 1548 (by decide +kernel) (by decide +kernel)⟩, ⟨by decide +kernel, by decide +kernel, by decide +kernel⟩, by decide⟩
set_option maxRecDepth 20000 in
theorem lk_X12_344 : zLV RX12 344 yX12_isFree cX12_isFree 4 (some .boolean) 2 := ⟨⟨zT_in 1721 (by decide +kernel) (by decide +kernel), zT_in 1723 (by decide +kernel) (by decide +kernel), zT_in 80 (by decide +kernel) (by decide +kernel), zT_in 118 (by decide +kernel) (by decide +kernel), zT_in 1724 (by decide +kernel) (by decide +kernel)⟩, ⟨by decide +kernel, by decide +kernel, by decide +kernel⟩, by decide⟩
set_option maxRecDepth 20000 in
theorem lk_X12_347 : zLS' RX12 347 yX12_beastFor cX12_beastFor 2 (some .int) 2 := ⟨⟨zT_in 1714 (by decide +kernel) (by decide +kernel), zT_in 1715 (by decide +kernel) (by decide +kernel), zT_in 118 (by decide +kernel) (by decide +kernel), zT_in 1716 (by decide +kernel) (by decide +kernel)⟩, ⟨by decide +kernel, by decide +kernel, by decide +kernel⟩, by decide⟩
set_option maxRecDepth 20000 in
theorem gf_X12_320_69 : zFG RX12 320 69 37 none := ⟨_, _, _, _, _, _, sh_69, rfl, cl_X12, by decide, zT_in 1313 (by decide +kernel) (by decide +kernel)⟩
set_option maxRecDepth 20000 in
theorem gf_X12_332_69 : zFG RX12 332 69 41 none := ⟨_, _, _, _, _, _, sh_69, rfl, cl_X12, by decide, zT_in 1317 (by decide +kernel) (by decide +kernel)⟩
set_option maxRecDepth 20000 in
theorem gf_X12_329_69 : zFG RX12 329 69 40 none := ⟨_, _, _, _, _, _, sh_69, rfl, cl_X12, by decide, zT_in 1316 (by decide +kernel) (by decide +kernel)⟩
set_option maxRecDepth 20000 in
theorem lk_X12_180 : zLV RX12 180 yX12_keysAt cX12_keysAt 4 (some .int) 1 := ⟨⟨zT_in 1549 (by decide +kernel) (by decide +kernel), zT_in 1551 (by decide +kernel) (by decide +kernel), zT_in 47 (by decide +kernel) (by decide +kernel), zT_in 118 (by decide +kernel) (by decide +kernel), zT_in 1552 (by decide +kernel) (by decide +kernel)⟩, ⟨by decide +kernel, by decide +kernel, by decide +kernel⟩, by decide⟩
set_option maxRecDepth 20000 in
theorem gf_X12_326_69 : zFG RX12 326 69 39 none := ⟨_, _, _, _, _, _, sh_69, rfl, cl_X12, by decide, zT_in 1315 (by decide +kernel) (by decide +kernel)⟩
set_option maxRecDepth 20000 in
theorem gf_X12_323_69 : zFG RX12 323 69 38 none := ⟨_, _, _, _, _, _, sh_69, rfl, cl_X12, by decide, zT_in 1314 (by decide +kernel) (by decide +kernel)⟩
set_option maxRecDepth 20000 in
theorem lk_X12_350 : zLV RX12 350 yX12_canOpen cX12_canOpen 6 (some .boolean) 5 := ⟨⟨zT_in 1717 (by decide +kernel) (by decide +kernel), zT_in 1719 (by decide +kernel) (by decide +kernel), zT_in 79 (by decide +kernel) (by decide +kernel), zT_in 118 (by decide +kernel) (by decide +kernel), zT_in 1720 (by decide +kernel) (by decide +kernel)⟩, ⟨by decide +kernel, by decide +kernel, by decide +kernel⟩, by decide⟩
set_option maxRecDepth 20000 in
theorem lk_X12_357 : zLV RX12 357 yX12_readsAct cX12_readsAct 3 (some .boolean) 0 := ⟨⟨zT_in 1696 (by decide +kernel) (by decide +kernel), zT_in 1698 (by decide +kernel) (by decide +kernel), zT_in 76 (by decide +kernel) (by decide +kernel), zT_in 118 (by decide +kernel) (by decide +kernel), zT_in 1699 (by decide +kernel) (by decide +kernel)⟩, ⟨by decide +kernel, by decide +kernel, by decide +kernel⟩, by decide⟩
set_option maxRecDepth 20000 in
theorem lk_X12_360 : zLV RX12 360 yX12_begins cX12_begins 1 none 0 := ⟨⟨zT_in 1706 (by decide +kernel) (by decide +kernel), zT_in 1708 (by decide +kernel) (by decide +kernel), zT_in 77 (by decide +kernel) (by decide +kernel), zT_in 118 (by decide +kernel) (by decide +kernel), zT_in 1709 (by decide +kernel) (by decide +kernel)⟩, ⟨by decide +kernel, by decide +kernel, by decide +kernel⟩, by decide⟩
set_option maxRecDepth 20000 in
theorem lk_X12_366 : zLV RX12 366 yX12_isHad cX12_isHad 2 (some .boolean) 1 := ⟨⟨zT_in 1725 (by decide +kernel) (by decide +kernel), zT_in 1727 (by decide +kernel) (by decide +kernel), zT_in 81 (by decide +kernel) (by decide +kernel), zT_in 118 (by decide +kernel) (by decide +kernel), zT_in 1728 (by decide +kernel) (by decide +kernel)⟩, ⟨by decide +kernel, by decide +kernel, by decide +kernel⟩, by decide⟩
set_option maxRecDepth 20000 in
theorem lk_X12_363 : zLV RX12 363 yX12_does cX12_does 4 (some .boolean) 2 := ⟨⟨zT_in 1710 (by decide +kernel) (by decide +kernel), zT_in 1712 (by decide +kernel) (by decide +kernel), zT_in 78 (by decide +kernel) (by decide +kernel), zT_in 118 (by decide +kernel) (by decide +kernel), zT_in 1713 (by decide +kernel) (by decide +kernel)⟩, ⟨by decide +kernel, by decide +kernel, by decide +kernel⟩, by decide⟩
set_option maxRecDepth 20000 in
theorem gf_X11_130_1 : zFG RX11 130 1 8 none := ⟨_, _, _, _, _, _, sh_1, rfl, cl_X10, by decide, zT_in 164 (by decide +kernel) (by decide +kernel)⟩
set_option maxRecDepth 20000 in
theorem sh_47 : shp[47]? = some (.inl (4, [some (some 17), some (some 48), some (some 49), some (some 50), some (some 51), none, none, some (some 52), none, some (some 53), some (some 54), some (some 55), some (some 56), none])) := rfl
set_option maxRecDepth 20000 in
theorem cl_X4 : zCl 4 RX4 TX4 14 tyX4 := ⟨rfl, inX4, tyX4_ok, nmX4⟩
set_option maxRecDepth 20000 in
theorem gf_X4_41_47 : zFG RX4 41 47 0 (some (some 17)) := ⟨_, _, _, _, _, _, sh_47, rfl, cl_X4, by decide, zT_in 392 (by decide +kernel) (by decide +kernel)⟩
set_option maxRecDepth 20000 in
theorem lk_X4_74 : zLV RX4 74 yX5_goalPlaces cX5_goalPlaces 1 (some .int) 0 := ⟨⟨zT_in 865 (by decide +kernel) (by decide +kernel), zT_in 866 (by decide +kernel) (by decide +kernel), zT_in 867 (by decide +kernel) (by decide +kernel), zT_in 109 (by decide +kernel) (by decide +kernel), zT_in 868 (by decide +kernel) (by decide +kernel)⟩, ⟨by decide +kernel, by decide +kernel, by decide +kernel⟩, by decide⟩
set_option maxRecDepth 20000 in
theorem pf_X4_64_47 : zFP RX4 64 47 6 none .int := ⟨_, _, _, _, _, _, sh_47, rfl, cl_X4, by decide, zT_in 398 (by decide +kernel) (by decide +kernel), rfl, by decide +kernel⟩
set_option maxRecDepth 20000 in
theorem gf_X4_26_47 : zFG RX4 26 47 7 (some (some 52)) := ⟨_, _, _, _, _, _, sh_47, rfl, cl_X4, by decide, zT_in 399 (by decide +kernel) (by decide +kernel)⟩
set_option maxRecDepth 20000 in
theorem sh_52 : shp[52]? = some (.inr (0, 6)) := rfl
set_option maxRecDepth 20000 in
theorem gf_X4_64_47 : zFG RX4 64 47 6 none := ⟨_, _, _, _, _, _, sh_47, rfl, cl_X4, by decide, zT_in 398 (by decide +kernel) (by decide +kernel)⟩
set_option maxRecDepth 20000 in
theorem lk_X4_88 : zLV RX4 88 yX5_mouthOf cX5_mouthOf 2 (some .int) 1 := ⟨⟨zT_in 882 (by decide +kernel) (by decide +kernel), zT_in 883 (by decide +kernel) (by decide +kernel), zT_in 884 (by decide +kernel) (by decide +kernel), zT_in 109 (by decide +kernel) (by decide +kernel), zT_in 885 (by decide +kernel) (by decide +kernel)⟩, ⟨by decide +kernel, by decide +kernel, by decide +kernel⟩, by decide⟩
set_option maxRecDepth 20000 in
theorem lk_X4_78 : zLV RX4 78 yX5_lockOf cX5_lockOf 2 (some .int) 1 := ⟨⟨zT_in 869 (by decide +kernel) (by decide +kernel), zT_in 870 (by decide +kernel) (by decide +kernel), zT_in 871 (by decide +kernel) (by decide +kernel), zT_in 109 (by decide +kernel) (by decide +kernel), zT_in 872 (by decide +kernel) (by decide +kernel)⟩, ⟨by decide +kernel, by decide +kernel, by decide +kernel⟩, by decide⟩
set_option maxRecDepth 20000 in
theorem lk_X4_82 : zLV RX4 82 yX5_whereIs cX5_whereIs 2 (some .int) 1 := ⟨⟨zT_in 873 (by decide +kernel) (by decide +kernel), zT_in 874 (by decide +kernel) (by decide +kernel), zT_in 875 (by decide +kernel) (by decide +kernel), zT_in 109 (by decide +kernel) (by decide +kernel), zT_in 876 (by decide +kernel) (by decide +kernel)⟩, ⟨by decide +kernel, by decide +kernel, by decide +kernel⟩, by decide⟩
set_option maxRecDepth 20000 in
theorem lk_X4_49 : zLN RX4 49 yX11_isBelow cX11_isBelow 2 (some .boolean) 2 := ⟨⟨⟨_, List.mem_of_getElem? (i := 4) rfl⟩, zT_in 561 (by decide +kernel) (by decide +kernel), zT_in 106 (by decide +kernel) (by decide +kernel), zT_in 562 (by decide +kernel) (by decide +kernel)⟩, ⟨by decide +kernel, by decide +kernel, by decide +kernel⟩, by decide⟩
set_option maxRecDepth 20000 in
theorem lk_X4_85 : zLV RX4 85 yX5_aroundOf cX5_aroundOf 2 (some .int) 1 := ⟨⟨zT_in 878 (by decide +kernel) (by decide +kernel), zT_in 879 (by decide +kernel) (by decide +kernel), zT_in 880 (by decide +kernel) (by decide +kernel), zT_in 109 (by decide +kernel) (by decide +kernel), zT_in 881 (by decide +kernel) (by decide +kernel)⟩, ⟨by decide +kernel, by decide +kernel, by decide +kernel⟩, by decide⟩
set_option maxRecDepth 20000 in
theorem gf_X4_53_47 : zFG RX4 53 47 5 none := ⟨_, _, _, _, _, _, sh_47, rfl, cl_X4, by decide, zT_in 397 (by decide +kernel) (by decide +kernel)⟩
set_option maxRecDepth 20000 in
theorem gf_X4_17_47 : zFG RX4 17 47 2 (some (some 49)) := ⟨_, _, _, _, _, _, sh_47, rfl, cl_X4, by decide, zT_in 394 (by decide +kernel) (by decide +kernel)⟩
set_option maxRecDepth 20000 in
theorem sh_49 : shp[49]? = some (.inr (0, 16)) := rfl
set_option maxRecDepth 20000 in
theorem mm_X4_98 : (Cond.methodLink RX4 98 Lib.Math.min.name ∈ zT ∧ Cond.static Lib.Math.min.name ∈ zT) ∧ Cond.initialized "java/lang/Math" ∈ zT ∧ Cond.code Lib.Math.min.name Lib.Math.min.code 2 (some .int) ∈ zT := ⟨⟨zT_in 895 (by decide +kernel) (by decide +kernel), zT_in 614 (by decide +kernel) (by decide +kernel)⟩, zT_in 119 (by decide +kernel) (by decide +kernel), zT_in 615 (by decide +kernel) (by decide +kernel)⟩
set_option maxRecDepth 20000 in
theorem lk_X4_91 : zLV RX4 91 yX5_daysTo cX5_daysTo 3 (some .int) 2 := ⟨⟨zT_in 890 (by decide +kernel) (by decide +kernel), zT_in 788 (by decide +kernel) (by decide +kernel), zT_in 789 (by decide +kernel) (by decide +kernel), zT_in 109 (by decide +kernel) (by decide +kernel), zT_in 790 (by decide +kernel) (by decide +kernel)⟩, ⟨by decide +kernel, by decide +kernel, by decide +kernel⟩, by decide⟩
set_option maxRecDepth 20000 in
theorem cs_X4_57 : Cond.constant RX4 57 134217728 ∈ zT := zT_in 860 (by decide +kernel) (by decide +kernel)
set_option maxRecDepth 20000 in
theorem lk_X4_95 : zLV RX4 95 yX4_price cX4_price 4 (some .int) 2 := ⟨⟨zT_in 891 (by decide +kernel) (by decide +kernel), zT_in 893 (by decide +kernel) (by decide +kernel), zT_in 18 (by decide +kernel) (by decide +kernel), zT_in 113 (by decide +kernel) (by decide +kernel), zT_in 894 (by decide +kernel) (by decide +kernel)⟩, ⟨by decide +kernel, by decide +kernel, by decide +kernel⟩, by decide⟩
set_option maxRecDepth 20000 in
theorem ob_47 : zObj 47 RX4 := ⟨4, _, _, sh_47, rfl, rfl⟩
set_option maxRecDepth 20000 in
theorem gf_X4_20_47 : zFG RX4 20 47 3 (some (some 50)) := ⟨_, _, _, _, _, _, sh_47, rfl, cl_X4, by decide, zT_in 395 (by decide +kernel) (by decide +kernel)⟩
set_option maxRecDepth 20000 in
theorem gf_X4_13_47 : zFG RX4 13 47 1 (some (some 48)) := ⟨_, _, _, _, _, _, sh_47, rfl, cl_X4, by decide, zT_in 393 (by decide +kernel) (by decide +kernel)⟩
set_option maxRecDepth 20000 in
theorem sh_48 : shp[48]? = some (.inr (0, 27648)) := rfl
set_option maxRecDepth 20000 in
theorem sh_50 : shp[50]? = some (.inr (0, 4)) := rfl
set_option maxRecDepth 20000 in
theorem lk_X4_125 : zLV RX4 125 yX5_canBits cX5_canBits 2 (some .int) 1 := ⟨⟨zT_in 919 (by decide +kernel) (by decide +kernel), zT_in 828 (by decide +kernel) (by decide +kernel), zT_in 829 (by decide +kernel) (by decide +kernel), zT_in 109 (by decide +kernel) (by decide +kernel), zT_in 830 (by decide +kernel) (by decide +kernel)⟩, ⟨by decide +kernel, by decide +kernel, by decide +kernel⟩, by decide⟩
set_option maxRecDepth 20000 in
theorem lk_X4_116 : zLV RX4 116 yX5_arrive cX5_arrive 2 none 1 := ⟨⟨zT_in 914 (by decide +kernel) (by decide +kernel), zT_in 824 (by decide +kernel) (by decide +kernel), zT_in 825 (by decide +kernel) (by decide +kernel), zT_in 109 (by decide +kernel) (by decide +kernel), zT_in 826 (by decide +kernel) (by decide +kernel)⟩, ⟨by decide +kernel, by decide +kernel, by decide +kernel⟩, by decide⟩
set_option maxRecDepth 20000 in
theorem lk_X4_119 : zLV RX4 119 yX4_helpfulBits cX4_helpfulBits 2 (some .int) 1 := ⟨⟨zT_in 915 (by decide +kernel) (by decide +kernel), zT_in 917 (by decide +kernel) (by decide +kernel), zT_in 23 (by decide +kernel) (by decide +kernel), zT_in 113 (by decide +kernel) (by decide +kernel), zT_in 918 (by decide +kernel) (by decide +kernel)⟩, ⟨by decide +kernel, by decide +kernel, by decide +kernel⟩, by decide⟩
set_option maxRecDepth 20000 in
theorem lk_X4_122 : zLV RX4 122 yX5_after cX5_after 3 (some .int) 2 := ⟨⟨zT_in 920 (by decide +kernel) (by decide +kernel), zT_in 836 (by decide +kernel) (by decide +kernel), zT_in 837 (by decide +kernel) (by decide +kernel), zT_in 109 (by decide +kernel) (by decide +kernel), zT_in 838 (by decide +kernel) (by decide +kernel)⟩, ⟨by decide +kernel, by decide +kernel, by decide +kernel⟩, by decide⟩
set_option maxRecDepth 20000 in
theorem lk_X4_103 : zLV RX4 103 yX5_isHad cX5_isHad 2 (some .boolean) 1 := ⟨⟨zT_in 904 (by decide +kernel) (by decide +kernel), zT_in 844 (by decide +kernel) (by decide +kernel), zT_in 845 (by decide +kernel) (by decide +kernel), zT_in 109 (by decide +kernel) (by decide +kernel), zT_in 846 (by decide +kernel) (by decide +kernel)⟩, ⟨by decide +kernel, by decide +kernel, by decide +kernel⟩, by decide⟩
set_option maxRecDepth 20000 in
theorem lk_X4_107 : zLV RX4 107 yX4_settle cX4_settle 5 (some .boolean) 1 := ⟨⟨zT_in 905 (by decide +kernel) (by decide +kernel), zT_in 907 (by decide +kernel) (by decide +kernel), zT_in 21 (by decide +kernel) (by decide +kernel), zT_in 113 (by decide +kernel) (by decide +kernel), zT_in 908 (by decide +kernel) (by decide +kernel)⟩, ⟨by decide +kernel, by decide +kernel, by decide +kernel⟩, by decide⟩
set_option maxRecDepth 20000 in
theorem lk_X4_110 : zLV RX4 110 yX5_enter cX5_enter 3 none 1 := ⟨⟨zT_in 909 (by decide +kernel) (by decide +kernel), zT_in 806 (by decide +kernel) (by decide +kernel), zT_in 807 (by decide +kernel) (by decide +kernel), zT_in 109 (by decide +kernel) (by decide +kernel), zT_in 808 (by decide +kernel) (by decide +kernel)⟩, ⟨by decide +kernel, by decide +kernel, by decide +kernel⟩, by decide⟩
set_option maxRecDepth 20000 in
theorem gf_X4_45_47 : zFG RX4 45 47 8 none := ⟨_, _, _, _, _, _, sh_47, rfl, cl_X4, by decide, zT_in 400 (by decide +kernel) (by decide +kernel)⟩
set_option maxRecDepth 20000 in
theorem lk_X4_113 : zLV RX4 113 yX4_leave cX4_leave 8 none 1 := ⟨⟨zT_in 910 (by decide +kernel) (by decide +kernel), zT_in 912 (by decide +kernel) (by decide +kernel), zT_in 22 (by decide +kernel) (by decide +kernel), zT_in 113 (by decide +kernel) (by decide +kernel), zT_in 913 (by decide +kernel) (by decide +kernel)⟩, ⟨by decide +kernel, by decide +kernel, by decide +kernel⟩, by decide⟩
set_option maxRecDepth 20000 in
theorem pf_X4_45_47 : zFP RX4 45 47 8 none .int := ⟨_, _, _, _, _, _, sh_47, rfl, cl_X4, by decide, zT_in 400 (by decide +kernel) (by decide +kernel), rfl, by decide +kernel⟩
set_option maxRecDepth 20000 in
theorem pf_X4_53_47 : zFP RX4 53 47 5 none .boolean := ⟨_, _, _, _, _, _, sh_47, rfl, cl_X4, by decide, zT_in 397 (by decide +kernel) (by decide +kernel), rfl, by decide +kernel⟩
set_option maxRecDepth 20000 in
theorem lk_X4_58 : zLV RX4 58 yX4_findUseful cX4_findUseful 6 none 0 := ⟨⟨zT_in 861 (by decide +kernel) (by decide +kernel), zT_in 863 (by decide +kernel) (by decide +kernel), zT_in 16 (by decide +kernel) (by decide +kernel), zT_in 113 (by decide +kernel) (by decide +kernel), zT_in 864 (by decide +kernel) (by decide +kernel)⟩, ⟨by decide +kernel, by decide +kernel, by decide +kernel⟩, by decide⟩
set_option maxRecDepth 20000 in
theorem lk_X4_61 : zLV RX4 61 yX4_findPaths cX4_findPaths 6 none 0 := ⟨⟨zT_in 886 (by decide +kernel) (by decide +kernel), zT_in 888 (by decide +kernel) (by decide +kernel), zT_in 17 (by decide +kernel) (by decide +kernel), zT_in 113 (by decide +kernel) (by decide +kernel), zT_in 889 (by decide +kernel) (by decide +kernel)⟩, ⟨by decide +kernel, by decide +kernel, by decide +kernel⟩, by decide⟩
set_option maxRecDepth 20000 in
theorem lk_X4_71 : zLV RX4 71 yX4_advance cX4_advance 6 none 1 := ⟨⟨zT_in 900 (by decide +kernel) (by decide +kernel), zT_in 902 (by decide +kernel) (by decide +kernel), zT_in 20 (by decide +kernel) (by decide +kernel), zT_in 113 (by decide +kernel) (by decide +kernel), zT_in 903 (by decide +kernel) (by decide +kernel)⟩, ⟨by decide +kernel, by decide +kernel, by decide +kernel⟩, by decide⟩
set_option maxRecDepth 20000 in
theorem lk_X4_67 : zLV RX4 67 yX4_clear cX4_clear 4 none 1 := ⟨⟨zT_in 896 (by decide +kernel) (by decide +kernel), zT_in 898 (by decide +kernel) (by decide +kernel), zT_in 19 (by decide +kernel) (by decide +kernel), zT_in 113 (by decide +kernel) (by decide +kernel), zT_in 899 (by decide +kernel) (by decide +kernel)⟩, ⟨by decide +kernel, by decide +kernel, by decide +kernel⟩, by decide⟩
set_option maxRecDepth 20000 in
theorem lk_X11_159 : zLV RX11 159 yX11_heartIsTold cX11_heartIsTold 1 (some .boolean) 0 := ⟨⟨zT_in 851 (by decide +kernel) (by decide +kernel), zT_in 853 (by decide +kernel) (by decide +kernel), zT_in 15 (by decide +kernel) (by decide +kernel), zT_in 106 (by decide +kernel) (by decide +kernel), zT_in 854 (by decide +kernel) (by decide +kernel)⟩, ⟨by decide +kernel, by decide +kernel, by decide +kernel⟩, by decide⟩
set_option maxRecDepth 20000 in
theorem ob_0 : zObj 0 RX11 := ⟨11, _, _, sh_0, rfl, rfl⟩
set_option maxRecDepth 20000 in
theorem lk_X11_163 : zLV RX11 163 yX5_learn cX5_learn 3 none 0 := ⟨⟨zT_in 855 (by decide +kernel) (by decide +kernel), zT_in 779 (by decide +kernel) (by decide +kernel), zT_in 780 (by decide +kernel) (by decide +kernel), zT_in 109 (by decide +kernel) (by decide +kernel), zT_in 781 (by decide +kernel) (by decide +kernel)⟩, ⟨by decide +kernel, by decide +kernel, by decide +kernel⟩, by decide⟩
set_option maxRecDepth 20000 in
theorem gf_X11_66_0 : zFG RX11 66 0 8 (some (some 47)) := ⟨_, _, _, _, _, _, sh_0, rfl, cl_X11, by decide, zT_in 521 (by decide +kernel) (by decide +kernel)⟩
set_option maxRecDepth 20000 in
theorem lk_X11_166 : zLV RX11 166 yX4_search cX4_search 3 (some .boolean) 1 := ⟨⟨zT_in 856 (by decide +kernel) (by decide +kernel), zT_in 857 (by decide +kernel) (by decide +kernel), zT_in 858 (by decide +kernel) (by decide +kernel), zT_in 113 (by decide +kernel) (by decide +kernel), zT_in 859 (by decide +kernel) (by decide +kernel)⟩, ⟨by decide +kernel, by decide +kernel, by decide +kernel⟩, by decide⟩
set_option maxRecDepth 20000 in
theorem lk_X11_170 : zLV RX11 170 yX4_days cX4_days 1 (some .int) 0 := ⟨⟨zT_in 921 (by decide +kernel) (by decide +kernel), zT_in 922 (by decide +kernel) (by decide +kernel), zT_in 923 (by decide +kernel) (by decide +kernel), zT_in 113 (by decide +kernel) (by decide +kernel), zT_in 924 (by decide +kernel) (by decide +kernel)⟩, ⟨by decide +kernel, by decide +kernel, by decide +kernel⟩, by decide⟩
set_option maxRecDepth 20000 in
theorem lk_X11_174 : zLV RX11 174 yX4_rest cX4_rest 1 (some .int) 0 := ⟨⟨zT_in 925 (by decide +kernel) (by decide +kernel), zT_in 926 (by decide +kernel) (by decide +kernel), zT_in 927 (by decide +kernel) (by decide +kernel), zT_in 113 (by decide +kernel) (by decide +kernel), zT_in 928 (by decide +kernel) (by decide +kernel)⟩, ⟨by decide +kernel, by decide +kernel, by decide +kernel⟩, by decide⟩
set_option maxRecDepth 20000 in
theorem lk_X12_369 : zLS' RX12 369 yX12_standOf cX12_standOf 2 (some .int) 2 := ⟨⟨zT_in 1749 (by decide +kernel) (by decide +kernel), zT_in 1750 (by decide +kernel) (by decide +kernel), zT_in 118 (by decide +kernel) (by decide +kernel), zT_in 1751 (by decide +kernel) (by decide +kernel)⟩, ⟨by decide +kernel, by decide +kernel, by decide +kernel⟩, by decide⟩
set_option maxRecDepth 20000 in
theorem gf_X12_83_69 : zFG RX12 83 69 47 (some (some 94)) := ⟨_, _, _, _, _, _, sh_69, rfl, cl_X12, by decide, zT_in 1323 (by decide +kernel) (by decide +kernel)⟩
set_option maxRecDepth 20000 in
theorem sh_94 : shp[94]? = some (.inr (0, 3)) := rfl
set_option maxRecDepth 20000 in
theorem gf_X12_80_69 : zFG RX12 80 69 46 (some (some 93)) := ⟨_, _, _, _, _, _, sh_69, rfl, cl_X12, by decide, zT_in 1322 (by decide +kernel) (by decide +kernel)⟩
set_option maxRecDepth 20000 in
theorem sh_93 : shp[93]? = some (.inr (0, 8)) := rfl
set_option maxRecDepth 20000 in
theorem lk_X12_375 : zLS' RX12 375 yX12_stateOf cX12_stateOf 3 (some .int) 3 := ⟨⟨zT_in 1752 (by decide +kernel) (by decide +kernel), zT_in 1753 (by decide +kernel) (by decide +kernel), zT_in 118 (by decide +kernel) (by decide +kernel), zT_in 1754 (by decide +kernel) (by decide +kernel)⟩, ⟨by decide +kernel, by decide +kernel, by decide +kernel⟩, by decide⟩
set_option maxRecDepth 20000 in
theorem gf_X12_86_69 : zFG RX12 86 69 48 (some (some 95)) := ⟨_, _, _, _, _, _, sh_69, rfl, cl_X12, by decide, zT_in 1324 (by decide +kernel) (by decide +kernel)⟩
set_option maxRecDepth 20000 in
theorem sh_95 : shp[95]? = some (.inr (0, 8)) := rfl
set_option maxRecDepth 20000 in
theorem lk_X12_372 : zLS' RX12 372 yX12_unitOf cX12_unitOf 1 (some .int) 1 := ⟨⟨zT_in 1764 (by decide +kernel) (by decide +kernel), zT_in 1765 (by decide +kernel) (by decide +kernel), zT_in 118 (by decide +kernel) (by decide +kernel), zT_in 1766 (by decide +kernel) (by decide +kernel)⟩, ⟨by decide +kernel, by decide +kernel, by decide +kernel⟩, by decide⟩
set_option maxRecDepth 20000 in
theorem gf_X12_378_69 : zFG RX12 378 69 49 none := ⟨_, _, _, _, _, _, sh_69, rfl, cl_X12, by decide, zT_in 1325 (by decide +kernel) (by decide +kernel)⟩
set_option maxRecDepth 20000 in
theorem cs_X12_382 : Cond.constant RX12 382 1000000000 ∈ zT := zT_in 1759 (by decide +kernel) (by decide +kernel)
set_option maxRecDepth 20000 in
theorem lk_X12_383 : zLV RX12 383 yX12_behind cX12_behind 9 (some .int) 6 := ⟨⟨zT_in 1760 (by decide +kernel) (by decide +kernel), zT_in 1762 (by decide +kernel) (by decide +kernel), zT_in 87 (by decide +kernel) (by decide +kernel), zT_in 118 (by decide +kernel) (by decide +kernel), zT_in 1763 (by decide +kernel) (by decide +kernel)⟩, ⟨by decide +kernel, by decide +kernel, by decide +kernel⟩, by decide⟩
set_option maxRecDepth 20000 in
theorem gf_X12_77_69 : zFG RX12 77 69 45 (some (some 92)) := ⟨_, _, _, _, _, _, sh_69, rfl, cl_X12, by decide, zT_in 1321 (by decide +kernel) (by decide +kernel)⟩
set_option maxRecDepth 20000 in
theorem sh_92 : shp[92]? = some (.inr (0, 27648)) := rfl
set_option maxRecDepth 20000 in
theorem lk_X12_387 : zLV RX12 387 yX12_costOf cX12_costOf 6 (some .int) 3 := ⟨⟨zT_in 1767 (by decide +kernel) (by decide +kernel), zT_in 1769 (by decide +kernel) (by decide +kernel), zT_in 88 (by decide +kernel) (by decide +kernel), zT_in 118 (by decide +kernel) (by decide +kernel), zT_in 1770 (by decide +kernel) (by decide +kernel)⟩, ⟨by decide +kernel, by decide +kernel, by decide +kernel⟩, by decide⟩
set_option maxRecDepth 20000 in
theorem lk_X12_390 : zLS' RX12 390 yX12_min cX12_min 2 (some .int) 2 := ⟨⟨zT_in 1771 (by decide +kernel) (by decide +kernel), zT_in 1772 (by decide +kernel) (by decide +kernel), zT_in 118 (by decide +kernel) (by decide +kernel), zT_in 1773 (by decide +kernel) (by decide +kernel)⟩, ⟨by decide +kernel, by decide +kernel, by decide +kernel⟩, by decide⟩
set_option maxRecDepth 20000 in
theorem lk_X12_393 : zLV RX12 393 yX12_keysWith cX12_keysWith 5 (some .int) 2 := ⟨⟨zT_in 1745 (by decide +kernel) (by decide +kernel), zT_in 1747 (by decide +kernel) (by decide +kernel), zT_in 85 (by decide +kernel) (by decide +kernel), zT_in 118 (by decide +kernel) (by decide +kernel), zT_in 1748 (by decide +kernel) (by decide +kernel)⟩, ⟨by decide +kernel, by decide +kernel, by decide +kernel⟩, by decide⟩
set_option maxRecDepth 20000 in
theorem lk_X12_396 : zLV RX12 396 yX12_bestBy cX12_bestBy 9 (some .int) 4 := ⟨⟨zT_in 1755 (by decide +kernel) (by decide +kernel), zT_in 1757 (by decide +kernel) (by decide +kernel), zT_in 86 (by decide +kernel) (by decide +kernel), zT_in 118 (by decide +kernel) (by decide +kernel), zT_in 1758 (by decide +kernel) (by decide +kernel)⟩, ⟨by decide +kernel, by decide +kernel, by decide +kernel⟩, by decide⟩
set_option maxRecDepth 20000 in
theorem pf_X12_378_69 : zFP RX12 378 69 49 none .boolean := ⟨_, _, _, _, _, _, sh_69, rfl, cl_X12, by decide, zT_in 1325 (by decide +kernel) (by decide +kernel), rfl, by decide +kernel⟩
set_option maxRecDepth 20000 in
theorem lk_X12_400 : zLV RX12 400 yX12_laysFor cX12_laysFor 9 none 2 := ⟨⟨zT_in 1741 (by decide +kernel) (by decide +kernel), zT_in 1743 (by decide +kernel) (by decide +kernel), zT_in 84 (by decide +kernel) (by decide +kernel), zT_in 118 (by decide +kernel) (by decide +kernel), zT_in 1744 (by decide +kernel) (by decide +kernel)⟩, ⟨by decide +kernel, by decide +kernel, by decide +kernel⟩, by decide⟩
set_option maxRecDepth 20000 in
theorem lk_X12_403 : zLV RX12 403 yX12_solves cX12_solves 6 (some .int) 1 := ⟨⟨zT_in 1737 (by decide +kernel) (by decide +kernel), zT_in 1739 (by decide +kernel) (by decide +kernel), zT_in 83 (by decide +kernel) (by decide +kernel), zT_in 118 (by decide +kernel) (by decide +kernel), zT_in 1740 (by decide +kernel) (by decide +kernel)⟩, ⟨by decide +kernel, by decide +kernel, by decide +kernel⟩, by decide⟩
set_option maxRecDepth 20000 in
theorem lk_X4_131 : zLV RX4 131 yX5_stand cX5_stand 2 none 1 := ⟨⟨zT_in 941 (by decide +kernel) (by decide +kernel), zT_in 801 (by decide +kernel) (by decide +kernel), zT_in 802 (by decide +kernel) (by decide +kernel), zT_in 109 (by decide +kernel) (by decide +kernel), zT_in 803 (by decide +kernel) (by decide +kernel)⟩, ⟨by decide +kernel, by decide +kernel, by decide +kernel⟩, by decide⟩
set_option maxRecDepth 20000 in
theorem gf_X4_134_17 : zFG RX4 134 17 8 none := ⟨_, _, _, _, _, _, sh_17, rfl, cl_X5, by decide, zT_in 274 (by decide +kernel) (by decide +kernel)⟩
set_option maxRecDepth 20000 in
theorem gf_X4_23_47 : zFG RX4 23 47 4 (some (some 51)) := ⟨_, _, _, _, _, _, sh_47, rfl, cl_X4, by decide, zT_in 396 (by decide +kernel) (by decide +kernel)⟩
set_option maxRecDepth 20000 in
theorem sh_51 : shp[51]? = some (.inr (0, 40)) := rfl
set_option maxRecDepth 20000 in
theorem lk_X4_137 : zLV RX4 137 yX5_daysOf cX5_daysOf 3 (some .int) 2 := ⟨⟨zT_in 942 (by decide +kernel) (by decide +kernel), zT_in 832 (by decide +kernel) (by decide +kernel), zT_in 833 (by decide +kernel) (by decide +kernel), zT_in 109 (by decide +kernel) (by decide +kernel), zT_in 834 (by decide +kernel) (by decide +kernel)⟩, ⟨by decide +kernel, by decide +kernel, by decide +kernel⟩, by decide⟩
set_option maxRecDepth 20000 in
theorem lk_X4_128 : zLV RX4 128 yX4_follow cX4_follow 9 (some .boolean) 2 := ⟨⟨zT_in 937 (by decide +kernel) (by decide +kernel), zT_in 939 (by decide +kernel) (by decide +kernel), zT_in 24 (by decide +kernel) (by decide +kernel), zT_in 113 (by decide +kernel) (by decide +kernel), zT_in 940 (by decide +kernel) (by decide +kernel)⟩, ⟨by decide +kernel, by decide +kernel, by decide +kernel⟩, by decide⟩
set_option maxRecDepth 20000 in
theorem lk_X11_177 : zLV RX11 177 yX4_write cX4_write 2 (some .int) 0 := ⟨⟨zT_in 933 (by decide +kernel) (by decide +kernel), zT_in 934 (by decide +kernel) (by decide +kernel), zT_in 935 (by decide +kernel) (by decide +kernel), zT_in 113 (by decide +kernel) (by decide +kernel), zT_in 936 (by decide +kernel) (by decide +kernel)⟩, ⟨by decide +kernel, by decide +kernel, by decide +kernel⟩, by decide⟩
set_option maxRecDepth 20000 in
theorem lk_X11_180 : zLV RX11 180 yX4_actAt cX4_actAt 2 (some .int) 1 := ⟨⟨zT_in 943 (by decide +kernel) (by decide +kernel), zT_in 944 (by decide +kernel) (by decide +kernel), zT_in 945 (by decide +kernel) (by decide +kernel), zT_in 113 (by decide +kernel) (by decide +kernel), zT_in 946 (by decide +kernel) (by decide +kernel)⟩, ⟨by decide +kernel, by decide +kernel, by decide +kernel⟩, by decide⟩
set_option maxRecDepth 20000 in
theorem lk_X12_407 : zLV RX12 407 yX12_firstAct cX12_firstAct 7 (some .int) 1 := ⟨⟨zT_in 1778 (by decide +kernel) (by decide +kernel), zT_in 1780 (by decide +kernel) (by decide +kernel), zT_in 89 (by decide +kernel) (by decide +kernel), zT_in 118 (by decide +kernel) (by decide +kernel), zT_in 1781 (by decide +kernel) (by decide +kernel)⟩, ⟨by decide +kernel, by decide +kernel, by decide +kernel⟩, by decide⟩
set_option maxRecDepth 20000 in
theorem lk_X11_184 : zLV RX11 184 yX5_putKey cX5_putKey 3 none 2 := ⟨⟨zT_in 951 (by decide +kernel) (by decide +kernel), zT_in 952 (by decide +kernel) (by decide +kernel), zT_in 953 (by decide +kernel) (by decide +kernel), zT_in 109 (by decide +kernel) (by decide +kernel), zT_in 954 (by decide +kernel) (by decide +kernel)⟩, ⟨by decide +kernel, by decide +kernel, by decide +kernel⟩, by decide⟩
set_option maxRecDepth 20000 in
theorem cs_J6_265 : Cond.constant RJ6 265 1431655765 ∈ zT := zT_in 966 (by decide +kernel) (by decide +kernel)
set_option maxRecDepth 20000 in
theorem cs_J6_266 : Cond.constant RJ6 266 858993459 ∈ zT := zT_in 967 (by decide +kernel) (by decide +kernel)
set_option maxRecDepth 20000 in
theorem cs_J6_267 : Cond.constant RJ6 267 252645135 ∈ zT := zT_in 968 (by decide +kernel) (by decide +kernel)
set_option maxRecDepth 20000 in
theorem lk_X10_62 : zLS' RX10 62 yJ6_bitCount_0f7a4 cJ6_bitCount_0f7a4 1 (some .int) 1 := ⟨⟨zT_in 963 (by decide +kernel) (by decide +kernel), zT_in 964 (by decide +kernel) (by decide +kernel), zT_in 126 (by decide +kernel) (by decide +kernel), zT_in 965 (by decide +kernel) (by decide +kernel)⟩, ⟨by decide +kernel, by decide +kernel, by decide +kernel⟩, by decide⟩
set_option maxRecDepth 20000 in
theorem gf_X10_27_1 : zFG RX10 27 1 5 (some (some 7)) := ⟨_, _, _, _, _, _, sh_1, rfl, cl_X10, by decide, zT_in 152 (by decide +kernel) (by decide +kernel)⟩
set_option maxRecDepth 20000 in
theorem lk_X10_68 : zLV RX10 68 yX10_isTold cX10_isTold 2 (some .boolean) 1 := ⟨⟨zT_in 969 (by decide +kernel) (by decide +kernel), zT_in 568 (by decide +kernel) (by decide +kernel), zT_in 569 (by decide +kernel) (by decide +kernel), zT_in 107 (by decide +kernel) (by decide +kernel), zT_in 570 (by decide +kernel) (by decide +kernel)⟩, ⟨by decide +kernel, by decide +kernel, by decide +kernel⟩, by decide⟩
set_option maxRecDepth 20000 in
theorem gf_X4_140_47 : zFG RX4 140 47 13 none := ⟨_, _, _, _, _, _, sh_47, rfl, cl_X4, by decide, zT_in 405 (by decide +kernel) (by decide +kernel)⟩
set_option maxRecDepth 20000 in
theorem gf_X4_35_47 : zFG RX4 35 47 11 (some (some 55)) := ⟨_, _, _, _, _, _, sh_47, rfl, cl_X4, by decide, zT_in 403 (by decide +kernel) (by decide +kernel)⟩
set_option maxRecDepth 20000 in
theorem gf_X4_29_47 : zFG RX4 29 47 9 (some (some 53)) := ⟨_, _, _, _, _, _, sh_47, rfl, cl_X4, by decide, zT_in 401 (by decide +kernel) (by decide +kernel)⟩
set_option maxRecDepth 20000 in
theorem sh_53 : shp[53]? = some (.inr (0, 4)) := rfl
set_option maxRecDepth 20000 in
theorem gf_X4_32_47 : zFG RX4 32 47 10 (some (some 54)) := ⟨_, _, _, _, _, _, sh_47, rfl, cl_X4, by decide, zT_in 402 (by decide +kernel) (by decide +kernel)⟩
set_option maxRecDepth 20000 in
theorem sh_55 : shp[55]? = some (.inr (0, 4)) := rfl
set_option maxRecDepth 20000 in
theorem sh_54 : shp[54]? = some (.inr (0, 4)) := rfl
set_option maxRecDepth 20000 in
theorem lk_X4_167 : zLV RX4 167 yX5_putKey cX5_putKey 3 none 2 := ⟨⟨zT_in 979 (by decide +kernel) (by decide +kernel), zT_in 952 (by decide +kernel) (by decide +kernel), zT_in 953 (by decide +kernel) (by decide +kernel), zT_in 109 (by decide +kernel) (by decide +kernel), zT_in 954 (by decide +kernel) (by decide +kernel)⟩, ⟨by decide +kernel, by decide +kernel, by decide +kernel⟩, by decide⟩
set_option maxRecDepth 20000 in
theorem pf_X4_140_47 : zFP RX4 140 47 13 none .int := ⟨_, _, _, _, _, _, sh_47, rfl, cl_X4, by decide, zT_in 405 (by decide +kernel) (by decide +kernel), rfl, by decide +kernel⟩
set_option maxRecDepth 20000 in
theorem lk_X4_148 : zLV RX4 148 yX5_learn cX5_learn 3 none 0 := ⟨⟨zT_in 974 (by decide +kernel) (by decide +kernel), zT_in 779 (by decide +kernel) (by decide +kernel), zT_in 780 (by decide +kernel) (by decide +kernel), zT_in 109 (by decide +kernel) (by decide +kernel), zT_in 781 (by decide +kernel) (by decide +kernel)⟩, ⟨by decide +kernel, by decide +kernel, by decide +kernel⟩, by decide⟩
set_option maxRecDepth 20000 in
theorem lk_X4_151 : zLV RX4 151 yX4_takeRow cX4_takeRow 4 (some .boolean) 1 := ⟨⟨zT_in 975 (by decide +kernel) (by decide +kernel), zT_in 977 (by decide +kernel) (by decide +kernel), zT_in 25 (by decide +kernel) (by decide +kernel), zT_in 113 (by decide +kernel) (by decide +kernel), zT_in 978 (by decide +kernel) (by decide +kernel)⟩, ⟨by decide +kernel, by decide +kernel, by decide +kernel⟩, by decide⟩
set_option maxRecDepth 20000 in
theorem lk_X4_154 : zLV RX4 154 yX4_search cX4_search 3 (some .boolean) 1 := ⟨⟨zT_in 980 (by decide +kernel) (by decide +kernel), zT_in 857 (by decide +kernel) (by decide +kernel), zT_in 858 (by decide +kernel) (by decide +kernel), zT_in 113 (by decide +kernel) (by decide +kernel), zT_in 859 (by decide +kernel) (by decide +kernel)⟩, ⟨by decide +kernel, by decide +kernel, by decide +kernel⟩, by decide⟩
set_option maxRecDepth 20000 in
theorem lk_X4_158 : zLV RX4 158 yX4_days cX4_days 1 (some .int) 0 := ⟨⟨zT_in 981 (by decide +kernel) (by decide +kernel), zT_in 922 (by decide +kernel) (by decide +kernel), zT_in 923 (by decide +kernel) (by decide +kernel), zT_in 113 (by decide +kernel) (by decide +kernel), zT_in 924 (by decide +kernel) (by decide +kernel)⟩, ⟨by decide +kernel, by decide +kernel, by decide +kernel⟩, by decide⟩
set_option maxRecDepth 20000 in
theorem gf_X4_38_47 : zFG RX4 38 47 12 (some (some 56)) := ⟨_, _, _, _, _, _, sh_47, rfl, cl_X4, by decide, zT_in 404 (by decide +kernel) (by decide +kernel)⟩
set_option maxRecDepth 20000 in
theorem ac_X4_161 : (Cond.methodLink RX4 161 arraycopyName ∈ zT ∧ Cond.native arraycopyName ∈ zT) ∧ Cond.static arraycopyName ∈ zT ∧ Cond.initialized "java/lang/System" ∈ zT := ⟨⟨zT_in 982 (by decide +kernel) (by decide +kernel), zT_in 751 (by decide +kernel) (by decide +kernel)⟩, zT_in 750 (by decide +kernel) (by decide +kernel), zT_in 125 (by decide +kernel) (by decide +kernel)⟩
set_option maxRecDepth 20000 in
theorem sh_56 : shp[56]? = some (.inr (0, 4)) := rfl
set_option maxRecDepth 20000 in
theorem gf_X4_143_1 : zFG RX4 143 1 5 (some (some 7)) := ⟨_, _, _, _, _, _, sh_1, rfl, cl_X10, by decide, zT_in 155 (by decide +kernel) (by decide +kernel)⟩
set_option maxRecDepth 20000 in
theorem lk_X11_188 : zLV RX11 188 yX10_areInPlaces cX10_areInPlaces 4 (some .boolean) 1 := ⟨⟨zT_in 959 (by decide +kernel) (by decide +kernel), zT_in 960 (by decide +kernel) (by decide +kernel), zT_in 961 (by decide +kernel) (by decide +kernel), zT_in 107 (by decide +kernel) (by decide +kernel), zT_in 962 (by decide +kernel) (by decide +kernel)⟩, ⟨by decide +kernel, by decide +kernel, by decide +kernel⟩, by decide⟩
set_option maxRecDepth 20000 in
theorem lk_X11_191 : zLV RX11 191 yX4_hide cX4_hide 5 (some .int) 2 := ⟨⟨zT_in 970 (by decide +kernel) (by decide +kernel), zT_in 971 (by decide +kernel) (by decide +kernel), zT_in 972 (by decide +kernel) (by decide +kernel), zT_in 113 (by decide +kernel) (by decide +kernel), zT_in 973 (by decide +kernel) (by decide +kernel)⟩, ⟨by decide +kernel, by decide +kernel, by decide +kernel⟩, by decide⟩
set_option maxRecDepth 20000 in
theorem lk_X11_198 : zLV RX11 198 yX4_putSo cX4_putSo 3 none 1 := ⟨⟨zT_in 987 (by decide +kernel) (by decide +kernel), zT_in 988 (by decide +kernel) (by decide +kernel), zT_in 989 (by decide +kernel) (by decide +kernel), zT_in 113 (by decide +kernel) (by decide +kernel), zT_in 990 (by decide +kernel) (by decide +kernel)⟩, ⟨by decide +kernel, by decide +kernel, by decide +kernel⟩, by decide⟩
set_option maxRecDepth 20000 in
theorem lk_X11_195 : zLV RX11 195 yX4_placeOfWhich cX4_placeOfWhich 3 (some .int) 1 := ⟨⟨zT_in 983 (by decide +kernel) (by decide +kernel), zT_in 984 (by decide +kernel) (by decide +kernel), zT_in 985 (by decide +kernel) (by decide +kernel), zT_in 113 (by decide +kernel) (by decide +kernel), zT_in 986 (by decide +kernel) (by decide +kernel)⟩, ⟨by decide +kernel, by decide +kernel, by decide +kernel⟩, by decide⟩
set_option maxRecDepth 20000 in
theorem gf_X12_410_69 : zFG RX12 410 69 53 none := ⟨_, _, _, _, _, _, sh_69, rfl, cl_X12, by decide, zT_in 1329 (by decide +kernel) (by decide +kernel)⟩
set_option maxRecDepth 20000 in
theorem gf_X12_95_69 : zFG RX12 95 69 52 (some (some 98)) := ⟨_, _, _, _, _, _, sh_69, rfl, cl_X12, by decide, zT_in 1328 (by decide +kernel) (by decide +kernel)⟩
set_option maxRecDepth 20000 in
theorem sh_98 : shp[98]? = some (.inr (0, 4)) := rfl
set_option maxRecDepth 20000 in
theorem gf_X12_89_69 : zFG RX12 89 69 50 (some (some 96)) := ⟨_, _, _, _, _, _, sh_69, rfl, cl_X12, by decide, zT_in 1326 (by decide +kernel) (by decide +kernel)⟩
set_option maxRecDepth 20000 in
theorem sh_96 : shp[96]? = some (.inr (0, 4)) := rfl
set_option maxRecDepth 20000 in
theorem gf_X12_92_69 : zFG RX12 92 69 51 (some (some 97)) := ⟨_, _, _, _, _, _, sh_69, rfl, cl_X12, by decide, zT_in 1327 (by decide +kernel) (by decide +kernel)⟩
set_option maxRecDepth 20000 in
theorem sh_97 : shp[97]? = some (.inr (0, 4)) := rfl
set_option maxRecDepth 20000 in
theorem lk_X12_413 : zLS' RX12 413 yX12_bits cX12_bits 3 (some .int) 1 := ⟨⟨zT_in 1790 (by decide +kernel) (by decide +kernel), zT_in 1791 (by decide +kernel) (by decide +kernel), zT_in 118 (by decide +kernel) (by decide +kernel), zT_in 1792 (by decide +kernel) (by decide +kernel)⟩, ⟨by decide +kernel, by decide +kernel, by decide +kernel⟩, by decide⟩
set_option maxRecDepth 20000 in
theorem pf_X12_410_69 : zFP RX12 410 69 53 none .int := ⟨_, _, _, _, _, _, sh_69, rfl, cl_X12, by decide, zT_in 1329 (by decide +kernel) (by decide +kernel), rfl, by decide +kernel⟩
set_option maxRecDepth 20000 in
theorem lk_X12_416 : zLV RX12 416 yX12_readsRow cX12_readsRow 5 (some .boolean) 1 := ⟨⟨zT_in 1793 (by decide +kernel) (by decide +kernel), zT_in 1795 (by decide +kernel) (by decide +kernel), zT_in 90 (by decide +kernel) (by decide +kernel), zT_in 118 (by decide +kernel) (by decide +kernel), zT_in 1796 (by decide +kernel) (by decide +kernel)⟩, ⟨by decide +kernel, by decide +kernel, by decide +kernel⟩, by decide⟩
set_option maxRecDepth 20000 in
theorem lk_X12_419 : zLV RX12 419 yX12_hides cX12_hides 2 none 0 := ⟨⟨zT_in 1797 (by decide +kernel) (by decide +kernel), zT_in 1799 (by decide +kernel) (by decide +kernel), zT_in 91 (by decide +kernel) (by decide +kernel), zT_in 118 (by decide +kernel) (by decide +kernel), zT_in 1800 (by decide +kernel) (by decide +kernel)⟩, ⟨by decide +kernel, by decide +kernel, by decide +kernel⟩, by decide⟩
set_option maxRecDepth 20000 in
theorem lk_X12_422 : zLV RX12 422 yX12_comesBack cX12_comesBack 2 none 0 := ⟨⟨zT_in 1801 (by decide +kernel) (by decide +kernel), zT_in 1803 (by decide +kernel) (by decide +kernel), zT_in 92 (by decide +kernel) (by decide +kernel), zT_in 118 (by decide +kernel) (by decide +kernel), zT_in 1804 (by decide +kernel) (by decide +kernel)⟩, ⟨by decide +kernel, by decide +kernel, by decide +kernel⟩, by decide⟩
set_option maxRecDepth 20000 in
theorem sh_24 : shp[24]? = some (.inl (3, [some (some 1), some (some 8), some (some 25), none, none, none, none])) := rfl
set_option maxRecDepth 20000 in
theorem cl_X3 : zCl 3 RX3 TX3 7 tyX3 := ⟨rfl, inX3, tyX3_ok, nmX3⟩
set_option maxRecDepth 20000 in
theorem gf_X3_15_24 : zFG RX3 15 24 0 (some (some 1)) := ⟨_, _, _, _, _, _, sh_24, rfl, cl_X3, by decide, zT_in 322 (by decide +kernel) (by decide +kernel)⟩
set_option maxRecDepth 20000 in
theorem gf_X3_23_1 : zFG RX3 23 1 8 none := ⟨_, _, _, _, _, _, sh_1, rfl, cl_X10, by decide, zT_in 161 (by decide +kernel) (by decide +kernel)⟩
set_option maxRecDepth 20000 in
theorem pf_X3_29_24 : zFP RX3 29 24 3 none .int := ⟨_, _, _, _, _, _, sh_24, rfl, cl_X3, by decide, zT_in 325 (by decide +kernel) (by decide +kernel), rfl, by decide +kernel⟩
set_option maxRecDepth 20000 in
theorem gf_X3_30_1 : zFG RX3 30 1 9 none := ⟨_, _, _, _, _, _, sh_1, rfl, cl_X10, by decide, zT_in 165 (by decide +kernel) (by decide +kernel)⟩
set_option maxRecDepth 20000 in
theorem pf_X3_33_24 : zFP RX3 33 24 4 none .int := ⟨_, _, _, _, _, _, sh_24, rfl, cl_X3, by decide, zT_in 328 (by decide +kernel) (by decide +kernel), rfl, by decide +kernel⟩
set_option maxRecDepth 20000 in
theorem gf_X3_34_1 : zFG RX3 34 1 11 none := ⟨_, _, _, _, _, _, sh_1, rfl, cl_X10, by decide, zT_in 172 (by decide +kernel) (by decide +kernel)⟩
set_option maxRecDepth 20000 in
theorem pf_X3_37_24 : zFP RX3 37 24 5 none .int := ⟨_, _, _, _, _, _, sh_24, rfl, cl_X3, by decide, zT_in 330 (by decide +kernel) (by decide +kernel), rfl, by decide +kernel⟩
set_option maxRecDepth 20000 in
theorem gf_X3_38_1 : zFG RX3 38 1 12 none := ⟨_, _, _, _, _, _, sh_1, rfl, cl_X10, by decide, zT_in 176 (by decide +kernel) (by decide +kernel)⟩
set_option maxRecDepth 20000 in
theorem pf_X3_41_24 : zFP RX3 41 24 6 none .int := ⟨_, _, _, _, _, _, sh_24, rfl, cl_X3, by decide, zT_in 333 (by decide +kernel) (by decide +kernel), rfl, by decide +kernel⟩
set_option maxRecDepth 20000 in
theorem gf_X3_9_24 : zFG RX3 9 24 2 (some (some 25)) := ⟨_, _, _, _, _, _, sh_24, rfl, cl_X3, by decide, zT_in 324 (by decide +kernel) (by decide +kernel)⟩
set_option maxRecDepth 20000 in
theorem gf_X3_29_24 : zFG RX3 29 24 3 none := ⟨_, _, _, _, _, _, sh_24, rfl, cl_X3, by decide, zT_in 325 (by decide +kernel) (by decide +kernel)⟩
set_option maxRecDepth 20000 in
theorem sh_25 : shp[25]? = some (.inr (0, 9)) := rfl
set_option maxRecDepth 20000 in
theorem lk_X3_60 : zLV RX3 60 yX10_islandOf cX10_islandOf 4 (some .int) 1 := ⟨⟨zT_in 1012 (by decide +kernel) (by decide +kernel), zT_in 784 (by decide +kernel) (by decide +kernel), zT_in 785 (by decide +kernel) (by decide +kernel), zT_in 107 (by decide +kernel) (by decide +kernel), zT_in 786 (by decide +kernel) (by decide +kernel)⟩, ⟨by decide +kernel, by decide +kernel, by decide +kernel⟩, by decide⟩
set_option maxRecDepth 20000 in
theorem lk_X3_64 : zLV RX3 64 yX10_isWet cX10_isWet 2 (some .boolean) 1 := ⟨⟨zT_in 1013 (by decide +kernel) (by decide +kernel), zT_in 1014 (by decide +kernel) (by decide +kernel), zT_in 1015 (by decide +kernel) (by decide +kernel), zT_in 107 (by decide +kernel) (by decide +kernel), zT_in 1016 (by decide +kernel) (by decide +kernel)⟩, ⟨by decide +kernel, by decide +kernel, by decide +kernel⟩, by decide⟩
set_option maxRecDepth 20000 in
theorem lk_X3_67 : zLN RX3 67 yX11_isBelow cX11_isBelow 2 (some .boolean) 2 := ⟨⟨⟨_, List.mem_of_getElem? (i := 5) rfl⟩, zT_in 561 (by decide +kernel) (by decide +kernel), zT_in 106 (by decide +kernel) (by decide +kernel), zT_in 562 (by decide +kernel) (by decide +kernel)⟩, ⟨by decide +kernel, by decide +kernel, by decide +kernel⟩, by decide⟩
set_option maxRecDepth 20000 in
theorem gf_X3_71_1 : zFG RX3 71 1 3 (some (some 5)) := ⟨_, _, _, _, _, _, sh_1, rfl, cl_X10, by decide, zT_in 147 (by decide +kernel) (by decide +kernel)⟩
set_option maxRecDepth 20000 in
theorem lk_X3_74 : zLV RX3 74 yX10_placesIn cX10_placesIn 4 (some .int) 1 := ⟨⟨zT_in 1018 (by decide +kernel) (by decide +kernel), zT_in 1019 (by decide +kernel) (by decide +kernel), zT_in 1020 (by decide +kernel) (by decide +kernel), zT_in 107 (by decide +kernel) (by decide +kernel), zT_in 1021 (by decide +kernel) (by decide +kernel)⟩, ⟨by decide +kernel, by decide +kernel, by decide +kernel⟩, by decide⟩
set_option maxRecDepth 20000 in
theorem gf_X1_33_8 : zFG RX1 33 8 13 (some (some 16)) := ⟨_, _, _, _, _, _, sh_8, rfl, cl_X1, by decide, zT_in 227 (by decide +kernel) (by decide +kernel)⟩
set_option maxRecDepth 20000 in
theorem sh_16 : shp[16]? = some (.inr (0, 64)) := rfl
set_option maxRecDepth 20000 in
theorem lk_X1_121 : zLS' RX1 121 yX1_reckoned cX1_reckoned 3 (some .int) 3 := ⟨⟨zT_in 1030 (by decide +kernel) (by decide +kernel), zT_in 1031 (by decide +kernel) (by decide +kernel), zT_in 108 (by decide +kernel) (by decide +kernel), zT_in 1032 (by decide +kernel) (by decide +kernel)⟩, ⟨by decide +kernel, by decide +kernel, by decide +kernel⟩, by decide⟩
set_option maxRecDepth 20000 in
theorem gf_X1_42_8 : zFG RX1 42 8 7 none := ⟨_, _, _, _, _, _, sh_8, rfl, cl_X1, by decide, zT_in 219 (by decide +kernel) (by decide +kernel)⟩
set_option maxRecDepth 20000 in
theorem lk_X1_117 : zLV RX1 117 yX1_run cX1_run 11 (some .int) 3 := ⟨⟨zT_in 1026 (by decide +kernel) (by decide +kernel), zT_in 1028 (by decide +kernel) (by decide +kernel), zT_in 27 (by decide +kernel) (by decide +kernel), zT_in 108 (by decide +kernel) (by decide +kernel), zT_in 1029 (by decide +kernel) (by decide +kernel)⟩, ⟨by decide +kernel, by decide +kernel, by decide +kernel⟩, by decide⟩
set_option maxRecDepth 20000 in
theorem gf_X3_33_24 : zFG RX3 33 24 4 none := ⟨_, _, _, _, _, _, sh_24, rfl, cl_X3, by decide, zT_in 328 (by decide +kernel) (by decide +kernel)⟩
set_option maxRecDepth 20000 in
theorem gf_X3_37_24 : zFG RX3 37 24 5 none := ⟨_, _, _, _, _, _, sh_24, rfl, cl_X3, by decide, zT_in 330 (by decide +kernel) (by decide +kernel)⟩
set_option maxRecDepth 20000 in
theorem lk_X3_47 : zLV RX3 47 yX3_look cX3_look 1 none 0 := ⟨⟨zT_in 1008 (by decide +kernel) (by decide +kernel), zT_in 1010 (by decide +kernel) (by decide +kernel), zT_in 26 (by decide +kernel) (by decide +kernel), zT_in 110 (by decide +kernel) (by decide +kernel), zT_in 1011 (by decide +kernel) (by decide +kernel)⟩, ⟨by decide +kernel, by decide +kernel, by decide +kernel⟩, by decide⟩
set_option maxRecDepth 20000 in
theorem ob_24 : zObj 24 RX3 := ⟨3, _, _, sh_24, rfl, rfl⟩
set_option maxRecDepth 20000 in
theorem gf_X3_19_24 : zFG RX3 19 24 1 (some (some 8)) := ⟨_, _, _, _, _, _, sh_24, rfl, cl_X3, by decide, zT_in 323 (by decide +kernel) (by decide +kernel)⟩
set_option maxRecDepth 20000 in
theorem lk_X3_50 : zLV RX3 50 yX1_ask cX1_ask 4 (some .int) 2 := ⟨⟨zT_in 1022 (by decide +kernel) (by decide +kernel), zT_in 1023 (by decide +kernel) (by decide +kernel), zT_in 1024 (by decide +kernel) (by decide +kernel), zT_in 108 (by decide +kernel) (by decide +kernel), zT_in 1025 (by decide +kernel) (by decide +kernel)⟩, ⟨by decide +kernel, by decide +kernel, by decide +kernel⟩, by decide⟩
set_option maxRecDepth 20000 in
theorem lk_X3_56 : zLV RX3 56 yX10_isTold cX10_isTold 2 (some .boolean) 1 := ⟨⟨zT_in 1033 (by decide +kernel) (by decide +kernel), zT_in 568 (by decide +kernel) (by decide +kernel), zT_in 569 (by decide +kernel) (by decide +kernel), zT_in 107 (by decide +kernel) (by decide +kernel), zT_in 570 (by decide +kernel) (by decide +kernel)⟩, ⟨by decide +kernel, by decide +kernel, by decide +kernel⟩, by decide⟩
set_option maxRecDepth 20000 in
theorem gf_X3_41_24 : zFG RX3 41 24 6 none := ⟨_, _, _, _, _, _, sh_24, rfl, cl_X3, by decide, zT_in 333 (by decide +kernel) (by decide +kernel)⟩
set_option maxRecDepth 20000 in
theorem cs_X3_42 : Cond.constant RX3 42 65536 ∈ zT := zT_in 1003 (by decide +kernel) (by decide +kernel)
set_option maxRecDepth 20000 in
theorem lk_X3_43 : zLV RX3 43 yX3_passFrom cX3_passFrom 6 none 3 := ⟨⟨zT_in 1004 (by decide +kernel) (by decide +kernel), zT_in 1005 (by decide +kernel) (by decide +kernel), zT_in 1006 (by decide +kernel) (by decide +kernel), zT_in 110 (by decide +kernel) (by decide +kernel), zT_in 1007 (by decide +kernel) (by decide +kernel)⟩, ⟨by decide +kernel, by decide +kernel, by decide +kernel⟩, by decide⟩
set_option maxRecDepth 20000 in
theorem gf_X11_201_1 : zFG RX11 201 1 9 none := ⟨_, _, _, _, _, _, sh_1, rfl, cl_X10, by decide, zT_in 168 (by decide +kernel) (by decide +kernel)⟩
set_option maxRecDepth 20000 in
theorem gf_X11_70_0 : zFG RX11 70 0 9 (some (some 24)) := ⟨_, _, _, _, _, _, sh_0, rfl, cl_X11, by decide, zT_in 522 (by decide +kernel) (by decide +kernel)⟩
set_option maxRecDepth 20000 in
theorem lk_X11_204 : zLV RX11 204 yX3_begin cX3_begin 1 none 0 := ⟨⟨zT_in 995 (by decide +kernel) (by decide +kernel), zT_in 996 (by decide +kernel) (by decide +kernel), zT_in 997 (by decide +kernel) (by decide +kernel), zT_in 110 (by decide +kernel) (by decide +kernel), zT_in 998 (by decide +kernel) (by decide +kernel)⟩, ⟨by decide +kernel, by decide +kernel, by decide +kernel⟩, by decide⟩
set_option maxRecDepth 20000 in
theorem lk_X11_207 : zLV RX11 207 yX3_pass cX3_pass 2 none 1 := ⟨⟨zT_in 999 (by decide +kernel) (by decide +kernel), zT_in 1000 (by decide +kernel) (by decide +kernel), zT_in 1001 (by decide +kernel) (by decide +kernel), zT_in 110 (by decide +kernel) (by decide +kernel), zT_in 1002 (by decide +kernel) (by decide +kernel)⟩, ⟨by decide +kernel, by decide +kernel, by decide +kernel⟩, by decide⟩
set_option maxRecDepth 20000 in
theorem gf_X11_210_24 : zFG RX11 210 24 3 none := ⟨_, _, _, _, _, _, sh_24, rfl, cl_X3, by decide, zT_in 327 (by decide +kernel) (by decide +kernel)⟩
set_option maxRecDepth 20000 in
theorem gf_X11_211_24 : zFG RX11 211 24 4 none := ⟨_, _, _, _, _, _, sh_24, rfl, cl_X3, by decide, zT_in 329 (by decide +kernel) (by decide +kernel)⟩
set_option maxRecDepth 20000 in
theorem pf_X11_201_1 : zFP RX11 201 1 9 none .int := ⟨_, _, _, _, _, _, sh_1, rfl, cl_X10, by decide, zT_in 168 (by decide +kernel) (by decide +kernel), rfl, by decide +kernel⟩
set_option maxRecDepth 20000 in
theorem pf_X11_212_1 : zFP RX11 212 1 10 none .int := ⟨_, _, _, _, _, _, sh_1, rfl, cl_X10, by decide, zT_in 170 (by decide +kernel) (by decide +kernel), rfl, by decide +kernel⟩
set_option maxRecDepth 20000 in
theorem gf_X11_215_24 : zFG RX11 215 24 5 none := ⟨_, _, _, _, _, _, sh_24, rfl, cl_X3, by decide, zT_in 332 (by decide +kernel) (by decide +kernel)⟩
set_option maxRecDepth 20000 in
theorem pf_X11_218_1 : zFP RX11 218 1 11 none .int := ⟨_, _, _, _, _, _, sh_1, rfl, cl_X10, by decide, zT_in 174 (by decide +kernel) (by decide +kernel), rfl, by decide +kernel⟩
set_option maxRecDepth 20000 in
theorem gf_X11_219_24 : zFG RX11 219 24 6 none := ⟨_, _, _, _, _, _, sh_24, rfl, cl_X3, by decide, zT_in 334 (by decide +kernel) (by decide +kernel)⟩
set_option maxRecDepth 20000 in
theorem pf_X11_222_1 : zFP RX11 222 1 12 none .int := ⟨_, _, _, _, _, _, sh_1, rfl, cl_X10, by decide, zT_in 177 (by decide +kernel) (by decide +kernel), rfl, by decide +kernel⟩
set_option maxRecDepth 20000 in
theorem gf_X11_218_1 : zFG RX11 218 1 11 none := ⟨_, _, _, _, _, _, sh_1, rfl, cl_X10, by decide, zT_in 174 (by decide +kernel) (by decide +kernel)⟩
set_option maxRecDepth 20000 in
theorem gf_X12_135_69 : zFG RX12 135 69 3 none := ⟨_, _, _, _, _, _, sh_69, rfl, cl_X12, by decide, zT_in 1279 (by decide +kernel) (by decide +kernel)⟩
set_option maxRecDepth 20000 in
theorem cs_X12_303 : Cond.constant RX12 303 65536 ∈ zT := zT_in 1660 (by decide +kernel) (by decide +kernel)
set_option maxRecDepth 20000 in
theorem pf_X12_135_69 : zFP RX12 135 69 3 none .int := ⟨_, _, _, _, _, _, sh_69, rfl, cl_X12, by decide, zT_in 1279 (by decide +kernel) (by decide +kernel), rfl, by decide +kernel⟩
set_option maxRecDepth 20000 in
theorem gf_X12_68_69 : zFG RX12 68 69 36 (some (some 89)) := ⟨_, _, _, _, _, _, sh_69, rfl, cl_X12, by decide, zT_in 1312 (by decide +kernel) (by decide +kernel)⟩
set_option maxRecDepth 20000 in
theorem sh_89 : shp[89]? = some (.inr (0, 9)) := rfl
set_option maxRecDepth 20000 in
theorem lk_X12_293 : zLV RX12 293 yX12_nextLevel cX12_nextLevel 4 (some .int) 1 := ⟨⟨zT_in 1669 (by decide +kernel) (by decide +kernel), zT_in 1671 (by decide +kernel) (by decide +kernel), zT_in 72 (by decide +kernel) (by decide +kernel), zT_in 118 (by decide +kernel) (by decide +kernel), zT_in 1672 (by decide +kernel) (by decide +kernel)⟩, ⟨by decide +kernel, by decide +kernel, by decide +kernel⟩, by decide⟩
set_option maxRecDepth 20000 in
theorem gf_X12_65_69 : zFG RX12 65 69 35 (some (some 88)) := ⟨_, _, _, _, _, _, sh_69, rfl, cl_X12, by decide, zT_in 1311 (by decide +kernel) (by decide +kernel)⟩
set_option maxRecDepth 20000 in
theorem sh_88 : shp[88]? = some (.inr (0, 260)) := rfl
set_option maxRecDepth 20000 in
theorem lk_X12_285 : zLS' RX12 285 yX12_reckon cX12_reckon 3 (some .int) 3 := ⟨⟨zT_in 1681 (by decide +kernel) (by decide +kernel), zT_in 1682 (by decide +kernel) (by decide +kernel), zT_in 118 (by decide +kernel) (by decide +kernel), zT_in 1683 (by decide +kernel) (by decide +kernel)⟩, ⟨by decide +kernel, by decide +kernel, by decide +kernel⟩, by decide⟩
set_option maxRecDepth 20000 in
theorem gf_X12_282_69 : zFG RX12 282 69 23 none := ⟨_, _, _, _, _, _, sh_69, rfl, cl_X12, by decide, zT_in 1299 (by decide +kernel) (by decide +kernel)⟩
set_option maxRecDepth 20000 in
theorem lk_X12_289 : zLV RX12 289 yX12_comesTo cX12_comesTo 8 (some .int) 2 := ⟨⟨zT_in 1677 (by decide +kernel) (by decide +kernel), zT_in 1679 (by decide +kernel) (by decide +kernel), zT_in 74 (by decide +kernel) (by decide +kernel), zT_in 118 (by decide +kernel) (by decide +kernel), zT_in 1680 (by decide +kernel) (by decide +kernel)⟩, ⟨by decide +kernel, by decide +kernel, by decide +kernel⟩, by decide⟩
set_option maxRecDepth 20000 in
theorem lk_X12_296 : zLV RX12 296 yX12_feels cX12_feels 6 none 5 := ⟨⟨zT_in 1665 (by decide +kernel) (by decide +kernel), zT_in 1667 (by decide +kernel) (by decide +kernel), zT_in 71 (by decide +kernel) (by decide +kernel), zT_in 118 (by decide +kernel) (by decide +kernel), zT_in 1668 (by decide +kernel) (by decide +kernel)⟩, ⟨by decide +kernel, by decide +kernel, by decide +kernel⟩, by decide⟩
set_option maxRecDepth 20000 in
theorem lk_X12_300 : zLV RX12 300 yX12_byLaw cX12_byLaw 5 (some .int) 2 := ⟨⟨zT_in 1673 (by decide +kernel) (by decide +kernel), zT_in 1675 (by decide +kernel) (by decide +kernel), zT_in 73 (by decide +kernel) (by decide +kernel), zT_in 118 (by decide +kernel) (by decide +kernel), zT_in 1676 (by decide +kernel) (by decide +kernel)⟩, ⟨by decide +kernel, by decide +kernel, by decide +kernel⟩, by decide⟩
set_option maxRecDepth 20000 in
theorem lk_X12_304 : zLV RX12 304 yX12_draws cX12_draws 1 (some .int) 0 := ⟨⟨zT_in 1656 (by decide +kernel) (by decide +kernel), zT_in 1658 (by decide +kernel) (by decide +kernel), zT_in 69 (by decide +kernel) (by decide +kernel), zT_in 118 (by decide +kernel) (by decide +kernel), zT_in 1659 (by decide +kernel) (by decide +kernel)⟩, ⟨by decide +kernel, by decide +kernel, by decide +kernel⟩, by decide⟩
set_option maxRecDepth 20000 in
theorem gf_X12_307_69 : zFG RX12 307 69 4 none := ⟨_, _, _, _, _, _, sh_69, rfl, cl_X12, by decide, zT_in 1280 (by decide +kernel) (by decide +kernel)⟩
set_option maxRecDepth 20000 in
theorem gf_X12_142_69 : zFG RX12 142 69 6 none := ⟨_, _, _, _, _, _, sh_69, rfl, cl_X12, by decide, zT_in 1282 (by decide +kernel) (by decide +kernel)⟩
set_option maxRecDepth 20000 in
theorem lk_X12_310 : zLV RX12 310 yX12_movesTo cX12_movesTo 6 (some .int) 5 := ⟨⟨zT_in 1661 (by decide +kernel) (by decide +kernel), zT_in 1663 (by decide +kernel) (by decide +kernel), zT_in 70 (by decide +kernel) (by decide +kernel), zT_in 118 (by decide +kernel) (by decide +kernel), zT_in 1664 (by decide +kernel) (by decide +kernel)⟩, ⟨by decide +kernel, by decide +kernel, by decide +kernel⟩, by decide⟩
set_option maxRecDepth 20000 in
theorem lk_X12_314 : zLV RX12 314 yX12_saysOf cX12_saysOf 6 (some .int) 5 := ⟨⟨zT_in 1684 (by decide +kernel) (by decide +kernel), zT_in 1686 (by decide +kernel) (by decide +kernel), zT_in 75 (by decide +kernel) (by decide +kernel), zT_in 118 (by decide +kernel) (by decide +kernel), zT_in 1687 (by decide +kernel) (by decide +kernel)⟩, ⟨by decide +kernel, by decide +kernel, by decide +kernel⟩, by decide⟩
set_option maxRecDepth 20000 in
theorem pf_X12_142_69 : zFP RX12 142 69 6 none .int := ⟨_, _, _, _, _, _, sh_69, rfl, cl_X12, by decide, zT_in 1282 (by decide +kernel) (by decide +kernel), rfl, by decide +kernel⟩
set_option maxRecDepth 20000 in
theorem pf_X12_139_69 : zFP RX12 139 69 5 none .int := ⟨_, _, _, _, _, _, sh_69, rfl, cl_X12, by decide, zT_in 1281 (by decide +kernel) (by decide +kernel), rfl, by decide +kernel⟩
set_option maxRecDepth 20000 in
theorem pf_X12_307_69 : zFP RX12 307 69 4 none .int := ⟨_, _, _, _, _, _, sh_69, rfl, cl_X12, by decide, zT_in 1280 (by decide +kernel) (by decide +kernel), rfl, by decide +kernel⟩
set_option maxRecDepth 20000 in
theorem lk_X12_317 : zLV RX12 317 yX12_nightGoes cX12_nightGoes 3 (some .int) 1 := ⟨⟨zT_in 1652 (by decide +kernel) (by decide +kernel), zT_in 1654 (by decide +kernel) (by decide +kernel), zT_in 68 (by decide +kernel) (by decide +kernel), zT_in 118 (by decide +kernel) (by decide +kernel), zT_in 1655 (by decide +kernel) (by decide +kernel)⟩, ⟨by decide +kernel, by decide +kernel, by decide +kernel⟩, by decide⟩
set_option maxRecDepth 20000 in
theorem lk_X3_77 : zLV RX3 77 yX3_begin cX3_begin 1 none 0 := ⟨⟨zT_in 1042 (by decide +kernel) (by decide +kernel), zT_in 996 (by decide +kernel) (by decide +kernel), zT_in 997 (by decide +kernel) (by decide +kernel), zT_in 110 (by decide +kernel) (by decide +kernel), zT_in 998 (by decide +kernel) (by decide +kernel)⟩, ⟨by decide +kernel, by decide +kernel, by decide +kernel⟩, by decide⟩
set_option maxRecDepth 20000 in
theorem lk_X3_80 : zLV RX3 80 yX3_pass cX3_pass 2 none 1 := ⟨⟨zT_in 1043 (by decide +kernel) (by decide +kernel), zT_in 1000 (by decide +kernel) (by decide +kernel), zT_in 1001 (by decide +kernel) (by decide +kernel), zT_in 110 (by decide +kernel) (by decide +kernel), zT_in 1002 (by decide +kernel) (by decide +kernel)⟩, ⟨by decide +kernel, by decide +kernel, by decide +kernel⟩, by decide⟩
set_option maxRecDepth 20000 in
theorem lk_X11_223 : zLV RX11 223 yX3_trial cX3_trial 7 (some .int) 2 := ⟨⟨zT_in 1038 (by decide +kernel) (by decide +kernel), zT_in 1039 (by decide +kernel) (by decide +kernel), zT_in 1040 (by decide +kernel) (by decide +kernel), zT_in 110 (by decide +kernel) (by decide +kernel), zT_in 1041 (by decide +kernel) (by decide +kernel)⟩, ⟨by decide +kernel, by decide +kernel, by decide +kernel⟩, by decide⟩
set_option maxRecDepth 20000 in
theorem gf_X12_139_69 : zFG RX12 139 69 5 none := ⟨_, _, _, _, _, _, sh_69, rfl, cl_X12, by decide, zT_in 1281 (by decide +kernel) (by decide +kernel)⟩
set_option maxRecDepth 20000 in
theorem sh_57 : shp[57]? = some (.inl (6, [some (some 1), some (some 8), some (some 24), some (some 58), some (some 59), none, some (some 60), some (some 61), some (some 62)])) := rfl
set_option maxRecDepth 20000 in
theorem cl_X6 : zCl 6 RX6 TX6 9 tyX6 := ⟨rfl, inX6, tyX6_ok, nmX6⟩
set_option maxRecDepth 20000 in
theorem pf_X6_40_57 : zFP RX6 40 57 5 none .int := ⟨_, _, _, _, _, _, sh_57, rfl, cl_X6, by decide, zT_in 446 (by decide +kernel) (by decide +kernel), rfl, by decide +kernel⟩
set_option maxRecDepth 20000 in
theorem lk_X6_54 : zLN RX6 54 yX11_fault cX11_fault 2 (some .int) 2 := ⟨⟨⟨_, List.mem_of_getElem? (i := 6) rfl⟩, zT_in 765 (by decide +kernel) (by decide +kernel), zT_in 106 (by decide +kernel) (by decide +kernel), zT_in 766 (by decide +kernel) (by decide +kernel)⟩, ⟨by decide +kernel, by decide +kernel, by decide +kernel⟩, by decide⟩
set_option maxRecDepth 20000 in
theorem lk_X6_44 : zLV RX6 44 yX8_at cX8_at 2 (some .int) 1 := ⟨⟨zT_in 1056 (by decide +kernel) (by decide +kernel), zT_in 617 (by decide +kernel) (by decide +kernel), zT_in 618 (by decide +kernel) (by decide +kernel), zT_in 111 (by decide +kernel) (by decide +kernel), zT_in 619 (by decide +kernel) (by decide +kernel)⟩, ⟨by decide +kernel, by decide +kernel, by decide +kernel⟩, by decide⟩
set_option maxRecDepth 20000 in
theorem gf_X6_40_57 : zFG RX6 40 57 5 none := ⟨_, _, _, _, _, _, sh_57, rfl, cl_X6, by decide, zT_in 446 (by decide +kernel) (by decide +kernel)⟩
set_option maxRecDepth 20000 in
theorem lk_X6_50 : zLS' RX6 50 yX6_isPlaceSign cX6_isPlaceSign 1 (some .boolean) 1 := ⟨⟨zT_in 1057 (by decide +kernel) (by decide +kernel), zT_in 1058 (by decide +kernel) (by decide +kernel), zT_in 114 (by decide +kernel) (by decide +kernel), zT_in 1059 (by decide +kernel) (by decide +kernel)⟩, ⟨by decide +kernel, by decide +kernel, by decide +kernel⟩, by decide⟩
set_option maxRecDepth 20000 in
theorem gf_X6_9_57 : zFG RX6 9 57 3 (some (some 58)) := ⟨_, _, _, _, _, _, sh_57, rfl, cl_X6, by decide, zT_in 444 (by decide +kernel) (by decide +kernel)⟩
set_option maxRecDepth 20000 in
theorem sh_58 : shp[58]? = some (.inr (0, 12)) := rfl
set_option maxRecDepth 20000 in
theorem gf_X6_15_57 : zFG RX6 15 57 4 (some (some 59)) := ⟨_, _, _, _, _, _, sh_57, rfl, cl_X6, by decide, zT_in 445 (by decide +kernel) (by decide +kernel)⟩
set_option maxRecDepth 20000 in
theorem sh_59 : shp[59]? = some (.inr (0, 12)) := rfl
set_option maxRecDepth 20000 in
theorem gf_X6_58_33 : zFG RX6 58 33 2 none := ⟨_, _, _, _, _, _, sh_33, rfl, cl_X8, by decide, zT_in 359 (by decide +kernel) (by decide +kernel)⟩
set_option maxRecDepth 20000 in
theorem gf_X11_79_0 : zFG RX11 79 0 10 (some (some 57)) := ⟨_, _, _, _, _, _, sh_0, rfl, cl_X11, by decide, zT_in 523 (by decide +kernel) (by decide +kernel)⟩
set_option maxRecDepth 20000 in
theorem lk_X11_290 : zLV RX11 290 yX6_read cX6_read 6 (some .int) 1 := ⟨⟨zT_in 1052 (by decide +kernel) (by decide +kernel), zT_in 1053 (by decide +kernel) (by decide +kernel), zT_in 1054 (by decide +kernel) (by decide +kernel), zT_in 114 (by decide +kernel) (by decide +kernel), zT_in 1055 (by decide +kernel) (by decide +kernel)⟩, ⟨by decide +kernel, by decide +kernel, by decide +kernel⟩, by decide⟩
set_option maxRecDepth 20000 in
theorem ob_57 : zObj 57 RX6 := ⟨6, _, _, sh_57, rfl, rfl⟩
set_option maxRecDepth 20000 in
theorem gf_X11_272_1 : zFG RX11 272 1 6 none := ⟨_, _, _, _, _, _, sh_1, rfl, cl_X10, by decide, zT_in 157 (by decide +kernel) (by decide +kernel)⟩
set_option maxRecDepth 20000 in
theorem gf_X6_32_57 : zFG RX6 32 57 1 (some (some 8)) := ⟨_, _, _, _, _, _, sh_57, rfl, cl_X6, by decide, zT_in 442 (by decide +kernel) (by decide +kernel)⟩
set_option maxRecDepth 20000 in
theorem gf_X6_81_8 : zFG RX6 81 8 8 none := ⟨_, _, _, _, _, _, sh_8, rfl, cl_X1, by decide, zT_in 222 (by decide +kernel) (by decide +kernel)⟩
set_option maxRecDepth 20000 in
theorem gf_X6_36_57 : zFG RX6 36 57 2 (some (some 24)) := ⟨_, _, _, _, _, _, sh_57, rfl, cl_X6, by decide, zT_in 443 (by decide +kernel) (by decide +kernel)⟩
set_option maxRecDepth 20000 in
theorem gf_X6_28_57 : zFG RX6 28 57 0 (some (some 1)) := ⟨_, _, _, _, _, _, sh_57, rfl, cl_X6, by decide, zT_in 441 (by decide +kernel) (by decide +kernel)⟩
set_option maxRecDepth 20000 in
theorem gf_X6_114_1 : zFG RX6 114 1 9 none := ⟨_, _, _, _, _, _, sh_1, rfl, cl_X10, by decide, zT_in 167 (by decide +kernel) (by decide +kernel)⟩
set_option maxRecDepth 20000 in
theorem gf_X6_119_1 : zFG RX6 119 1 11 none := ⟨_, _, _, _, _, _, sh_1, rfl, cl_X10, by decide, zT_in 173 (by decide +kernel) (by decide +kernel)⟩
set_option maxRecDepth 20000 in
theorem lk_X6_120 : zLV RX6 120 yX3_turnTo cX3_turnTo 3 none 2 := ⟨⟨zT_in 1081 (by decide +kernel) (by decide +kernel), zT_in 1082 (by decide +kernel) (by decide +kernel), zT_in 1083 (by decide +kernel) (by decide +kernel), zT_in 110 (by decide +kernel) (by decide +kernel), zT_in 1084 (by decide +kernel) (by decide +kernel)⟩, ⟨by decide +kernel, by decide +kernel, by decide +kernel⟩, by decide⟩
set_option maxRecDepth 20000 in
theorem gf_X6_22_57 : zFG RX6 22 57 7 (some (some 61)) := ⟨_, _, _, _, _, _, sh_57, rfl, cl_X6, by decide, zT_in 448 (by decide +kernel) (by decide +kernel)⟩
set_option maxRecDepth 20000 in
theorem gf_X6_18_57 : zFG RX6 18 57 6 (some (some 60)) := ⟨_, _, _, _, _, _, sh_57, rfl, cl_X6, by decide, zT_in 447 (by decide +kernel) (by decide +kernel)⟩
set_option maxRecDepth 20000 in
theorem ac_X6_108 : (Cond.methodLink RX6 108 arraycopyName ∈ zT ∧ Cond.native arraycopyName ∈ zT) ∧ Cond.static arraycopyName ∈ zT ∧ Cond.initialized "java/lang/System" ∈ zT := ⟨⟨zT_in 1087 (by decide +kernel) (by decide +kernel), zT_in 751 (by decide +kernel) (by decide +kernel)⟩, zT_in 750 (by decide +kernel) (by decide +kernel), zT_in 125 (by decide +kernel) (by decide +kernel)⟩
set_option maxRecDepth 20000 in
theorem sh_61 : shp[61]? = some (.inr (2, 8)) := rfl
set_option maxRecDepth 20000 in
theorem sh_60 : shp[60]? = some (.inr (2, 8)) := rfl
set_option maxRecDepth 20000 in
theorem lk_X6_91 : zLV RX6 91 yX6_draws cX6_draws 1 (some .int) 0 := ⟨⟨zT_in 1073 (by decide +kernel) (by decide +kernel), zT_in 1075 (by decide +kernel) (by decide +kernel), zT_in 31 (by decide +kernel) (by decide +kernel), zT_in 114 (by decide +kernel) (by decide +kernel), zT_in 1076 (by decide +kernel) (by decide +kernel)⟩, ⟨by decide +kernel, by decide +kernel, by decide +kernel⟩, by decide⟩
set_option maxRecDepth 20000 in
theorem lk_X6_94 : zLV RX6 94 yX6_turnTo cX6_turnTo 2 none 1 := ⟨⟨zT_in 1077 (by decide +kernel) (by decide +kernel), zT_in 1079 (by decide +kernel) (by decide +kernel), zT_in 32 (by decide +kernel) (by decide +kernel), zT_in 114 (by decide +kernel) (by decide +kernel), zT_in 1080 (by decide +kernel) (by decide +kernel)⟩, ⟨by decide +kernel, by decide +kernel, by decide +kernel⟩, by decide⟩
set_option maxRecDepth 20000 in
theorem lk_X6_97 : zLV RX6 97 yX3_passFrom cX3_passFrom 6 none 3 := ⟨⟨zT_in 1085 (by decide +kernel) (by decide +kernel), zT_in 1005 (by decide +kernel) (by decide +kernel), zT_in 1006 (by decide +kernel) (by decide +kernel), zT_in 110 (by decide +kernel) (by decide +kernel), zT_in 1007 (by decide +kernel) (by decide +kernel)⟩, ⟨by decide +kernel, by decide +kernel, by decide +kernel⟩, by decide⟩
set_option maxRecDepth 20000 in
theorem gf_X6_103_24 : zFG RX6 103 24 5 none := ⟨_, _, _, _, _, _, sh_24, rfl, cl_X3, by decide, zT_in 331 (by decide +kernel) (by decide +kernel)⟩
set_option maxRecDepth 20000 in
theorem gf_X6_105_24 : zFG RX6 105 24 3 none := ⟨_, _, _, _, _, _, sh_24, rfl, cl_X3, by decide, zT_in 326 (by decide +kernel) (by decide +kernel)⟩
set_option maxRecDepth 20000 in
theorem lk_X6_71 : zLN RX6 71 yX11_isBelow cX11_isBelow 2 (some .boolean) 2 := ⟨⟨⟨_, List.mem_of_getElem? (i := 7) rfl⟩, zT_in 561 (by decide +kernel) (by decide +kernel), zT_in 106 (by decide +kernel) (by decide +kernel), zT_in 562 (by decide +kernel) (by decide +kernel)⟩, ⟨by decide +kernel, by decide +kernel, by decide +kernel⟩, by decide⟩
set_option maxRecDepth 20000 in
theorem lk_X6_87 : zLV RX6 87 yX6_weighNight cX6_weighNight 4 none 1 := ⟨⟨zT_in 1069 (by decide +kernel) (by decide +kernel), zT_in 1071 (by decide +kernel) (by decide +kernel), zT_in 30 (by decide +kernel) (by decide +kernel), zT_in 114 (by decide +kernel) (by decide +kernel), zT_in 1072 (by decide +kernel) (by decide +kernel)⟩, ⟨by decide +kernel, by decide +kernel, by decide +kernel⟩, by decide⟩
set_option maxRecDepth 20000 in
theorem lk_X6_61 : zLV RX6 61 yX6_weigh cX6_weigh 5 (some .long) 1 := ⟨⟨zT_in 1065 (by decide +kernel) (by decide +kernel), zT_in 1067 (by decide +kernel) (by decide +kernel), zT_in 29 (by decide +kernel) (by decide +kernel), zT_in 114 (by decide +kernel) (by decide +kernel), zT_in 1068 (by decide +kernel) (by decide +kernel)⟩, ⟨by decide +kernel, by decide +kernel, by decide +kernel⟩, by decide⟩
set_option maxRecDepth 20000 in
theorem cs_X6_65 : Cond.constantLong RX6 65 (-2) ∈ zT := zT_in 1088 (by decide +kernel) (by decide +kernel)
set_option maxRecDepth 20000 in
theorem lk_X6_67 : zLV RX6 67 yX6_possible cX6_possible 3 (some .int) 0 := ⟨⟨zT_in 1089 (by decide +kernel) (by decide +kernel), zT_in 1091 (by decide +kernel) (by decide +kernel), zT_in 33 (by decide +kernel) (by decide +kernel), zT_in 114 (by decide +kernel) (by decide +kernel), zT_in 1092 (by decide +kernel) (by decide +kernel)⟩, ⟨by decide +kernel, by decide +kernel, by decide +kernel⟩, by decide⟩
set_option maxRecDepth 20000 in
theorem cs_X6_75 : Cond.constantLong RX6 75 (-1) ∈ zT := zT_in 1093 (by decide +kernel) (by decide +kernel)
set_option maxRecDepth 20000 in
theorem lk_X6_77 : zLN RX6 77 yX11_commonDivisor cX11_commonDivisor 11 (some .long) 2 := ⟨⟨⟨_, List.mem_of_getElem? (i := 8) rfl⟩, zT_in 1095 (by decide +kernel) (by decide +kernel), zT_in 106 (by decide +kernel) (by decide +kernel), zT_in 1096 (by decide +kernel) (by decide +kernel)⟩, ⟨by decide +kernel, by decide +kernel, by decide +kernel⟩, by decide⟩
set_option maxRecDepth 20000 in
theorem lk_X11_227 : zLV RX11 227 yX11_refusedStory cX11_refusedStory 6 (some .int) 3 := ⟨⟨zT_in 1048 (by decide +kernel) (by decide +kernel), zT_in 1050 (by decide +kernel) (by decide +kernel), zT_in 28 (by decide +kernel) (by decide +kernel), zT_in 106 (by decide +kernel) (by decide +kernel), zT_in 1051 (by decide +kernel) (by decide +kernel)⟩, ⟨by decide +kernel, by decide +kernel, by decide +kernel⟩, by decide⟩
set_option maxRecDepth 20000 in
theorem lk_X11_231 : zLV RX11 231 yX6_odds cX6_odds 7 (some .long) 2 := ⟨⟨zT_in 1061 (by decide +kernel) (by decide +kernel), zT_in 1062 (by decide +kernel) (by decide +kernel), zT_in 1063 (by decide +kernel) (by decide +kernel), zT_in 114 (by decide +kernel) (by decide +kernel), zT_in 1064 (by decide +kernel) (by decide +kernel)⟩, ⟨by decide +kernel, by decide +kernel, by decide +kernel⟩, by decide⟩
set_option maxRecDepth 20000 in
theorem gf_X12_425_69 : zFG RX12 425 69 54 none := ⟨_, _, _, _, _, _, sh_69, rfl, cl_X12, by decide, zT_in 1330 (by decide +kernel) (by decide +kernel)⟩
set_option maxRecDepth 20000 in
theorem gf_X12_98_69 : zFG RX12 98 69 55 (some (some 99)) := ⟨_, _, _, _, _, _, sh_69, rfl, cl_X12, by decide, zT_in 1331 (by decide +kernel) (by decide +kernel)⟩
set_option maxRecDepth 20000 in
theorem sh_99 : shp[99]? = some (.inr (0, 12)) := rfl
set_option maxRecDepth 20000 in
theorem gf_X12_101_69 : zFG RX12 101 69 56 (some (some 100)) := ⟨_, _, _, _, _, _, sh_69, rfl, cl_X12, by decide, zT_in 1332 (by decide +kernel) (by decide +kernel)⟩
set_option maxRecDepth 20000 in
theorem sh_100 : shp[100]? = some (.inr (0, 12)) := rfl
set_option maxRecDepth 20000 in
theorem pf_X12_425_69 : zFP RX12 425 69 54 none .int := ⟨_, _, _, _, _, _, sh_69, rfl, cl_X12, by decide, zT_in 1330 (by decide +kernel) (by decide +kernel), rfl, by decide +kernel⟩
set_option maxRecDepth 20000 in
theorem lk_X12_428 : zLV RX12 428 yX12_readsNight cX12_readsNight 2 (some .boolean) 0 := ⟨⟨zT_in 1814 (by decide +kernel) (by decide +kernel), zT_in 1816 (by decide +kernel) (by decide +kernel), zT_in 94 (by decide +kernel) (by decide +kernel), zT_in 118 (by decide +kernel) (by decide +kernel), zT_in 1817 (by decide +kernel) (by decide +kernel)⟩, ⟨by decide +kernel, by decide +kernel, by decide +kernel⟩, by decide⟩
set_option maxRecDepth 20000 in
theorem gf_X12_104_69 : zFG RX12 104 69 57 (some (some 101)) := ⟨_, _, _, _, _, _, sh_69, rfl, cl_X12, by decide, zT_in 1333 (by decide +kernel) (by decide +kernel)⟩
set_option maxRecDepth 20000 in
theorem sh_101 : shp[101]? = some (.inr (2, 8)) := rfl
set_option maxRecDepth 20000 in
theorem gf_X12_108_69 : zFG RX12 108 69 58 (some (some 102)) := ⟨_, _, _, _, _, _, sh_69, rfl, cl_X12, by decide, zT_in 1334 (by decide +kernel) (by decide +kernel)⟩
set_option maxRecDepth 20000 in
theorem sh_102 : shp[102]? = some (.inr (2, 64)) := rfl
set_option maxRecDepth 20000 in
theorem lk_X12_435 : zLV RX12 435 yX12_weights cX12_weights 4 (some .long) 0 := ⟨⟨zT_in 1831 (by decide +kernel) (by decide +kernel), zT_in 1833 (by decide +kernel) (by decide +kernel), zT_in 98 (by decide +kernel) (by decide +kernel), zT_in 118 (by decide +kernel) (by decide +kernel), zT_in 1834 (by decide +kernel) (by decide +kernel)⟩, ⟨by decide +kernel, by decide +kernel, by decide +kernel⟩, by decide⟩
set_option maxRecDepth 20000 in
theorem lk_X12_431 : zLV RX12 431 yX12_spreads cX12_spreads 8 none 3 := ⟨⟨zT_in 1827 (by decide +kernel) (by decide +kernel), zT_in 1829 (by decide +kernel) (by decide +kernel), zT_in 97 (by decide +kernel) (by decide +kernel), zT_in 118 (by decide +kernel) (by decide +kernel), zT_in 1830 (by decide +kernel) (by decide +kernel)⟩, ⟨by decide +kernel, by decide +kernel, by decide +kernel⟩, by decide⟩
set_option maxRecDepth 20000 in
theorem lk_X12_145 : zLS' RX12 145 yX12_gcd cX12_gcd 10 (some .long) 2 := ⟨⟨zT_in 1839 (by decide +kernel) (by decide +kernel), zT_in 1840 (by decide +kernel) (by decide +kernel), zT_in 118 (by decide +kernel) (by decide +kernel), zT_in 1841 (by decide +kernel) (by decide +kernel)⟩, ⟨by decide +kernel, by decide +kernel, by decide +kernel⟩, by decide⟩
set_option maxRecDepth 20000 in
theorem cs_X12_439 : Cond.constantLong RX12 439 (-1) ∈ zT := zT_in 1809 (by decide +kernel) (by decide +kernel)
set_option maxRecDepth 20000 in
theorem lk_X12_441 : zLV RX12 441 yX12_readsStory cX12_readsStory 3 (some .boolean) 1 := ⟨⟨zT_in 1810 (by decide +kernel) (by decide +kernel), zT_in 1812 (by decide +kernel) (by decide +kernel), zT_in 93 (by decide +kernel) (by decide +kernel), zT_in 118 (by decide +kernel) (by decide +kernel), zT_in 1813 (by decide +kernel) (by decide +kernel)⟩, ⟨by decide +kernel, by decide +kernel, by decide +kernel⟩, by decide⟩
set_option maxRecDepth 20000 in
theorem lk_X12_444 : zLV RX12 444 yX12_arePlaces cX12_arePlaces 2 (some .boolean) 1 := ⟨⟨zT_in 1818 (by decide +kernel) (by decide +kernel), zT_in 1820 (by decide +kernel) (by decide +kernel), zT_in 95 (by decide +kernel) (by decide +kernel), zT_in 118 (by decide +kernel) (by decide +kernel), zT_in 1821 (by decide +kernel) (by decide +kernel)⟩, ⟨by decide +kernel, by decide +kernel, by decide +kernel⟩, by decide⟩
set_option maxRecDepth 20000 in
theorem cs_X12_447 : Cond.constantLong RX12 447 (-3) ∈ zT := zT_in 1822 (by decide +kernel) (by decide +kernel)
set_option maxRecDepth 20000 in
theorem lk_X12_449 : zLV RX12 449 yX12_goesThrough cX12_goesThrough 5 (some .long) 1 := ⟨⟨zT_in 1823 (by decide +kernel) (by decide +kernel), zT_in 1825 (by decide +kernel) (by decide +kernel), zT_in 96 (by decide +kernel) (by decide +kernel), zT_in 118 (by decide +kernel) (by decide +kernel), zT_in 1826 (by decide +kernel) (by decide +kernel)⟩, ⟨by decide +kernel, by decide +kernel, by decide +kernel⟩, by decide⟩
set_option maxRecDepth 20000 in
theorem cs_X12_453 : Cond.constantLong RX12 453 (-2) ∈ zT := zT_in 1835 (by decide +kernel) (by decide +kernel)
set_option maxRecDepth 20000 in
theorem lk_X12_455 : zLS' RX12 455 yX12_through cX12_through 7 (some .long) 3 := ⟨⟨zT_in 1836 (by decide +kernel) (by decide +kernel), zT_in 1837 (by decide +kernel) (by decide +kernel), zT_in 118 (by decide +kernel) (by decide +kernel), zT_in 1838 (by decide +kernel) (by decide +kernel)⟩, ⟨by decide +kernel, by decide +kernel, by decide +kernel⟩, by decide⟩
set_option maxRecDepth 20000 in
theorem gf_X6_25_57 : zFG RX6 25 57 8 (some (some 62)) := ⟨_, _, _, _, _, _, sh_57, rfl, cl_X6, by decide, zT_in 449 (by decide +kernel) (by decide +kernel)⟩
set_option maxRecDepth 20000 in
theorem sh_62 : shp[62]? = some (.inr (2, 64)) := rfl
set_option maxRecDepth 20000 in
theorem mm_X6_126 : (Cond.methodLink RX6 126 Lib.MathLoose.max_long.x ∈ zT ∧ Cond.static Lib.MathLoose.max_long.x ∈ zT) ∧ Cond.initialized "java/lang/Math" ∈ zT ∧ Cond.code Lib.MathLoose.max_long.x Lib.MathLoose.max_long.code 4 (some .long) ∈ zT := ⟨⟨zT_in 1109 (by decide +kernel) (by decide +kernel), zT_in 1110 (by decide +kernel) (by decide +kernel)⟩, zT_in 119 (by decide +kernel) (by decide +kernel), zT_in 1111 (by decide +kernel) (by decide +kernel)⟩
set_option maxRecDepth 20000 in
theorem lk_X6_123 : zLV RX6 123 yX6_guessedBy cX6_guessedBy 8 (some .long) 1 := ⟨⟨zT_in 1105 (by decide +kernel) (by decide +kernel), zT_in 1107 (by decide +kernel) (by decide +kernel), zT_in 34 (by decide +kernel) (by decide +kernel), zT_in 114 (by decide +kernel) (by decide +kernel), zT_in 1108 (by decide +kernel) (by decide +kernel)⟩, ⟨by decide +kernel, by decide +kernel, by decide +kernel⟩, by decide⟩
set_option maxRecDepth 20000 in
theorem lk_X11_235 : zLV RX11 235 yX6_bestDust cX6_bestDust 11 (some .long) 2 := ⟨⟨zT_in 1101 (by decide +kernel) (by decide +kernel), zT_in 1102 (by decide +kernel) (by decide +kernel), zT_in 1103 (by decide +kernel) (by decide +kernel), zT_in 114 (by decide +kernel) (by decide +kernel), zT_in 1104 (by decide +kernel) (by decide +kernel)⟩, ⟨by decide +kernel, by decide +kernel, by decide +kernel⟩, by decide⟩
set_option maxRecDepth 20000 in
theorem lk_X12_459 : zLV RX12 459 yX12_guessed cX12_guessed 8 (some .long) 1 := ⟨⟨zT_in 1846 (by decide +kernel) (by decide +kernel), zT_in 1848 (by decide +kernel) (by decide +kernel), zT_in 99 (by decide +kernel) (by decide +kernel), zT_in 118 (by decide +kernel) (by decide +kernel), zT_in 1849 (by decide +kernel) (by decide +kernel)⟩, ⟨by decide +kernel, by decide +kernel, by decide +kernel⟩, by decide⟩
set_option maxRecDepth 20000 in
theorem cs_X12_462 : Cond.constantLong RX12 462 10 ∈ zT := zT_in 1850 (by decide +kernel) (by decide +kernel)
set_option maxRecDepth 20000 in
theorem sh_63 : shp[63]? = some (.inl (2, [some (some 64), none, some none, some none])) := rfl
set_option maxRecDepth 20000 in
theorem cl_X2 : zCl 2 RX2 TX2 4 tyX2 := ⟨rfl, inX2, tyX2_ok, nmX2⟩
set_option maxRecDepth 20000 in
theorem gf_X2_13_63 : zFG RX2 13 63 1 none := ⟨_, _, _, _, _, _, sh_63, rfl, cl_X2, by decide, zT_in 477 (by decide +kernel) (by decide +kernel)⟩
set_option maxRecDepth 20000 in
theorem lk_X2_34 : zLN RX2 34 yX11_isBelow cX11_isBelow 2 (some .boolean) 2 := ⟨⟨⟨_, List.mem_of_getElem? (i := 9) rfl⟩, zT_in 561 (by decide +kernel) (by decide +kernel), zT_in 106 (by decide +kernel) (by decide +kernel), zT_in 562 (by decide +kernel) (by decide +kernel)⟩, ⟨by decide +kernel, by decide +kernel, by decide +kernel⟩, by decide⟩
set_option maxRecDepth 20000 in
theorem gf_X2_9_63 : zFG RX2 9 63 0 (some (some 64)) := ⟨_, _, _, _, _, _, sh_63, rfl, cl_X2, by decide, zT_in 476 (by decide +kernel) (by decide +kernel)⟩
set_option maxRecDepth 20000 in
theorem sh_64 : shp[64]? = some (.inr (0, 6)) := rfl
set_option maxRecDepth 20000 in
theorem gf_X2_17_63 : zFG RX2 17 63 2 (some none) := ⟨_, _, _, _, _, _, sh_63, rfl, cl_X2, by decide, zT_in 478 (by decide +kernel) (by decide +kernel)⟩
set_option maxRecDepth 20000 in
theorem pf_X2_13_63 : zFP RX2 13 63 1 none .int := ⟨_, _, _, _, _, _, sh_63, rfl, cl_X2, by decide, zT_in 477 (by decide +kernel) (by decide +kernel), rfl, by decide +kernel⟩
set_option maxRecDepth 20000 in
theorem pf_X2_17_63 : zFP RX2 17 63 2 (some none) .long := ⟨_, _, _, _, _, _, sh_63, rfl, cl_X2, by decide, zT_in 478 (by decide +kernel) (by decide +kernel), rfl, by decide +kernel⟩
set_option maxRecDepth 20000 in
theorem pf_X2_21_63 : zFP RX2 21 63 3 (some none) .long := ⟨_, _, _, _, _, _, sh_63, rfl, cl_X2, by decide, zT_in 479 (by decide +kernel) (by decide +kernel), rfl, by decide +kernel⟩
set_option maxRecDepth 20000 in
theorem gf_X2_21_63 : zFG RX2 21 63 3 (some none) := ⟨_, _, _, _, _, _, sh_63, rfl, cl_X2, by decide, zT_in 479 (by decide +kernel) (by decide +kernel)⟩
set_option maxRecDepth 20000 in
theorem lk_X2_30 : zLV RX2 30 yX2_othersThan cX2_othersThan 2 (some .long) 1 := ⟨⟨zT_in 1122 (by decide +kernel) (by decide +kernel), zT_in 1124 (by decide +kernel) (by decide +kernel), zT_in 35 (by decide +kernel) (by decide +kernel), zT_in 115 (by decide +kernel) (by decide +kernel), zT_in 1125 (by decide +kernel) (by decide +kernel)⟩, ⟨by decide +kernel, by decide +kernel, by decide +kernel⟩, by decide⟩
set_option maxRecDepth 20000 in
theorem ob_63 : zObj 63 RX2 := ⟨2, _, _, sh_63, rfl, rfl⟩
set_option maxRecDepth 20000 in
theorem lk_X2_24 : zLV RX2 24 yX8_at cX8_at 2 (some .int) 1 := ⟨⟨zT_in 1121 (by decide +kernel) (by decide +kernel), zT_in 617 (by decide +kernel) (by decide +kernel), zT_in 618 (by decide +kernel) (by decide +kernel), zT_in 111 (by decide +kernel) (by decide +kernel), zT_in 619 (by decide +kernel) (by decide +kernel)⟩, ⟨by decide +kernel, by decide +kernel, by decide +kernel⟩, by decide⟩
set_option maxRecDepth 20000 in
theorem lk_X2_40 : zLN RX2 40 yX11_commonDivisor cX11_commonDivisor 11 (some .long) 2 := ⟨⟨⟨_, List.mem_of_getElem? (i := 10) rfl⟩, zT_in 1095 (by decide +kernel) (by decide +kernel), zT_in 106 (by decide +kernel) (by decide +kernel), zT_in 1096 (by decide +kernel) (by decide +kernel)⟩, ⟨by decide +kernel, by decide +kernel, by decide +kernel⟩, by decide⟩
set_option maxRecDepth 20000 in
theorem cs_X11_238 : Cond.constantLong RX11 238 (-1) ∈ zT := zT_in 1116 (by decide +kernel) (by decide +kernel)
set_option maxRecDepth 20000 in
theorem gf_X11_86_0 : zFG RX11 86 0 11 (some (some 63)) := ⟨_, _, _, _, _, _, sh_0, rfl, cl_X11, by decide, zT_in 524 (by decide +kernel) (by decide +kernel)⟩
set_option maxRecDepth 20000 in
theorem lk_X11_240 : zLV RX11 240 yX2_read cX2_read 5 (some .boolean) 2 := ⟨⟨zT_in 1117 (by decide +kernel) (by decide +kernel), zT_in 1118 (by decide +kernel) (by decide +kernel), zT_in 1119 (by decide +kernel) (by decide +kernel), zT_in 115 (by decide +kernel) (by decide +kernel), zT_in 1120 (by decide +kernel) (by decide +kernel)⟩, ⟨by decide +kernel, by decide +kernel, by decide +kernel⟩, by decide⟩
set_option maxRecDepth 20000 in
theorem cs_X11_247 : Cond.constantLong RX11 247 (-2) ∈ zT := zT_in 1132 (by decide +kernel) (by decide +kernel)
set_option maxRecDepth 20000 in
theorem lk_X11_243 : zLV RX11 243 yX2_answer cX2_answer 5 (some .long) 1 := ⟨⟨zT_in 1127 (by decide +kernel) (by decide +kernel), zT_in 1128 (by decide +kernel) (by decide +kernel), zT_in 1129 (by decide +kernel) (by decide +kernel), zT_in 115 (by decide +kernel) (by decide +kernel), zT_in 1130 (by decide +kernel) (by decide +kernel)⟩, ⟨by decide +kernel, by decide +kernel, by decide +kernel⟩, by decide⟩
set_option maxRecDepth 20000 in
theorem lk_X0_15 : zLN RX0 15 yX11_isBelow cX11_isBelow 2 (some .boolean) 2 := ⟨⟨⟨_, List.mem_of_getElem? (i := 11) rfl⟩, zT_in 561 (by decide +kernel) (by decide +kernel), zT_in 106 (by decide +kernel) (by decide +kernel), zT_in 562 (by decide +kernel) (by decide +kernel)⟩, ⟨by decide +kernel, by decide +kernel, by decide +kernel⟩, by decide⟩
set_option maxRecDepth 20000 in
theorem sh_65 : shp[65]? = some (.inl (0, [none, some (some 66)])) := rfl
set_option maxRecDepth 20000 in
theorem cl_X0 : zCl 0 RX0 TX0 2 tyX0 := ⟨rfl, inX0, tyX0_ok, nmX0⟩
set_option maxRecDepth 20000 in
theorem gf_X0_23_65 : zFG RX0 23 65 0 none := ⟨_, _, _, _, _, _, sh_65, rfl, cl_X0, by decide, zT_in 495 (by decide +kernel) (by decide +kernel)⟩
set_option maxRecDepth 20000 in
theorem lk_X0_19 : zLV RX0 19 yX0_isTold cX0_isTold 2 (some .boolean) 1 := ⟨⟨zT_in 1142 (by decide +kernel) (by decide +kernel), zT_in 1144 (by decide +kernel) (by decide +kernel), zT_in 36 (by decide +kernel) (by decide +kernel), zT_in 116 (by decide +kernel) (by decide +kernel), zT_in 1145 (by decide +kernel) (by decide +kernel)⟩, ⟨by decide +kernel, by decide +kernel, by decide +kernel⟩, by decide⟩
set_option maxRecDepth 20000 in
theorem ob_65 : zObj 65 RX0 := ⟨0, _, _, sh_65, rfl, rfl⟩
set_option maxRecDepth 20000 in
theorem pf_X0_23_65 : zFP RX0 23 65 0 none .int := ⟨_, _, _, _, _, _, sh_65, rfl, cl_X0, by decide, zT_in 495 (by decide +kernel) (by decide +kernel), rfl, by decide +kernel⟩
set_option maxRecDepth 20000 in
theorem gf_X11_93_0 : zFG RX11 93 0 12 (some (some 65)) := ⟨_, _, _, _, _, _, sh_0, rfl, cl_X11, by decide, zT_in 525 (by decide +kernel) (by decide +kernel)⟩
set_option maxRecDepth 20000 in
theorem lk_X11_249 : zLV RX11 249 yX0_tell cX0_tell 3 (some .boolean) 2 := ⟨⟨zT_in 1137 (by decide +kernel) (by decide +kernel), zT_in 1138 (by decide +kernel) (by decide +kernel), zT_in 1139 (by decide +kernel) (by decide +kernel), zT_in 116 (by decide +kernel) (by decide +kernel), zT_in 1140 (by decide +kernel) (by decide +kernel)⟩, ⟨by decide +kernel, by decide +kernel, by decide +kernel⟩, by decide⟩
set_option maxRecDepth 20000 in
theorem gf_X12_464_69 : zFG RX12 464 69 59 none := ⟨_, _, _, _, _, _, sh_69, rfl, cl_X12, by decide, zT_in 1335 (by decide +kernel) (by decide +kernel)⟩
set_option maxRecDepth 20000 in
theorem pf_X12_464_69 : zFP RX12 464 69 59 none .int := ⟨_, _, _, _, _, _, sh_69, rfl, cl_X12, by decide, zT_in 1335 (by decide +kernel) (by decide +kernel), rfl, by decide +kernel⟩
set_option maxRecDepth 20000 in
theorem gf_X0_11_65 : zFG RX0 11 65 1 (some (some 66)) := ⟨_, _, _, _, _, _, sh_65, rfl, cl_X0, by decide, zT_in 497 (by decide +kernel) (by decide +kernel)⟩
set_option maxRecDepth 20000 in
theorem sh_66 : shp[66]? = some (.inr (0, 6)) := rfl
set_option maxRecDepth 20000 in
theorem lk_X11_252 : zLV RX11 252 yX0_show cX0_show 3 (some .boolean) 2 := ⟨⟨zT_in 1150 (by decide +kernel) (by decide +kernel), zT_in 1151 (by decide +kernel) (by decide +kernel), zT_in 1152 (by decide +kernel) (by decide +kernel), zT_in 116 (by decide +kernel) (by decide +kernel), zT_in 1153 (by decide +kernel) (by decide +kernel)⟩, ⟨by decide +kernel, by decide +kernel, by decide +kernel⟩, by decide⟩
set_option maxRecDepth 20000 in
theorem gf_X12_111_69 : zFG RX12 111 69 60 (some (some 103)) := ⟨_, _, _, _, _, _, sh_69, rfl, cl_X12, by decide, zT_in 1336 (by decide +kernel) (by decide +kernel)⟩
set_option maxRecDepth 20000 in
theorem sh_103 : shp[103]? = some (.inr (0, 6)) := rfl
set_option maxRecDepth 20000 in
theorem lk_X0_27 : zLV RX0 27 yX0_isShownAlike cX0_isShownAlike 5 (some .boolean) 3 := ⟨⟨zT_in 1171 (by decide +kernel) (by decide +kernel), zT_in 1173 (by decide +kernel) (by decide +kernel), zT_in 38 (by decide +kernel) (by decide +kernel), zT_in 116 (by decide +kernel) (by decide +kernel), zT_in 1174 (by decide +kernel) (by decide +kernel)⟩, ⟨by decide +kernel, by decide +kernel, by decide +kernel⟩, by decide⟩
set_option maxRecDepth 20000 in
theorem lk_X0_31 : zLV RX0 31 yX0_sameAs cX0_sameAs 5 (some .int) 2 := ⟨⟨zT_in 1167 (by decide +kernel) (by decide +kernel), zT_in 1168 (by decide +kernel) (by decide +kernel), zT_in 1169 (by decide +kernel) (by decide +kernel), zT_in 116 (by decide +kernel) (by decide +kernel), zT_in 1170 (by decide +kernel) (by decide +kernel)⟩, ⟨by decide +kernel, by decide +kernel, by decide +kernel⟩, by decide⟩
set_option maxRecDepth 20000 in
theorem lk_X0_35 : zLS' RX0 35 yJ6_bitCount_0f7a4 cJ6_bitCount_0f7a4 1 (some .int) 1 := ⟨⟨zT_in 1162 (by decide +kernel) (by decide +kernel), zT_in 964 (by decide +kernel) (by decide +kernel), zT_in 126 (by decide +kernel) (by decide +kernel), zT_in 965 (by decide +kernel) (by decide +kernel)⟩, ⟨by decide +kernel, by decide +kernel, by decide +kernel⟩, by decide⟩
set_option maxRecDepth 20000 in
theorem lk_X0_41 : zLV RX0 41 yX0_areApart cX0_areApart 3 (some .boolean) 1 := ⟨⟨zT_in 1163 (by decide +kernel) (by decide +kernel), zT_in 1165 (by decide +kernel) (by decide +kernel), zT_in 37 (by decide +kernel) (by decide +kernel), zT_in 116 (by decide +kernel) (by decide +kernel), zT_in 1166 (by decide +kernel) (by decide +kernel)⟩, ⟨by decide +kernel, by decide +kernel, by decide +kernel⟩, by decide⟩
set_option maxRecDepth 20000 in
theorem lk_X11_255 : zLV RX11 255 yX0_fewestTests cX0_fewestTests 5 (some .int) 1 := ⟨⟨zT_in 1158 (by decide +kernel) (by decide +kernel), zT_in 1159 (by decide +kernel) (by decide +kernel), zT_in 1160 (by decide +kernel) (by decide +kernel), zT_in 116 (by decide +kernel) (by decide +kernel), zT_in 1161 (by decide +kernel) (by decide +kernel)⟩, ⟨by decide +kernel, by decide +kernel, by decide +kernel⟩, by decide⟩
set_option maxRecDepth 20000 in
theorem lk_X12_467 : zLV RX12 467 yX12_areAlike cX12_areAlike 5 (some .boolean) 3 := ⟨⟨zT_in 1871 (by decide +kernel) (by decide +kernel), zT_in 1873 (by decide +kernel) (by decide +kernel), zT_in 101 (by decide +kernel) (by decide +kernel), zT_in 118 (by decide +kernel) (by decide +kernel), zT_in 1874 (by decide +kernel) (by decide +kernel)⟩, ⟨by decide +kernel, by decide +kernel, by decide +kernel⟩, by decide⟩
set_option maxRecDepth 20000 in
theorem lk_X12_470 : zLV RX12 470 yX12_tellsAll cX12_tellsAll 4 (some .boolean) 1 := ⟨⟨zT_in 1867 (by decide +kernel) (by decide +kernel), zT_in 1869 (by decide +kernel) (by decide +kernel), zT_in 100 (by decide +kernel) (by decide +kernel), zT_in 118 (by decide +kernel) (by decide +kernel), zT_in 1870 (by decide +kernel) (by decide +kernel)⟩, ⟨by decide +kernel, by decide +kernel, by decide +kernel⟩, by decide⟩
set_option maxRecDepth 20000 in
theorem lk_X11_258 : zLV RX11 258 yX0_sameAs cX0_sameAs 5 (some .int) 2 := ⟨⟨zT_in 1179 (by decide +kernel) (by decide +kernel), zT_in 1168 (by decide +kernel) (by decide +kernel), zT_in 1169 (by decide +kernel) (by decide +kernel), zT_in 116 (by decide +kernel) (by decide +kernel), zT_in 1170 (by decide +kernel) (by decide +kernel)⟩, ⟨by decide +kernel, by decide +kernel, by decide +kernel⟩, by decide⟩
set_option maxRecDepth 20000 in
theorem lk_X9_15 : zLN RX9 15 yX11_isBelow cX11_isBelow 2 (some .boolean) 2 := ⟨⟨⟨_, List.mem_of_getElem? (i := 12) rfl⟩, zT_in 561 (by decide +kernel) (by decide +kernel), zT_in 106 (by decide +kernel) (by decide +kernel), zT_in 562 (by decide +kernel) (by decide +kernel)⟩, ⟨by decide +kernel, by decide +kernel, by decide +kernel⟩, by decide⟩
set_option maxRecDepth 20000 in
theorem sh_67 : shp[67]? = some (.inl (9, [some (some 68)])) := rfl
set_option maxRecDepth 20000 in
theorem cl_X9 : zCl 9 RX9 TX9 1 tyX9 := ⟨rfl, inX9, tyX9_ok, nmX9⟩
set_option maxRecDepth 20000 in
theorem gf_X9_11_67 : zFG RX9 11 67 0 (some (some 68)) := ⟨_, _, _, _, _, _, sh_67, rfl, cl_X9, by decide, zT_in 509 (by decide +kernel) (by decide +kernel)⟩
set_option maxRecDepth 20000 in
theorem sh_68 : shp[68]? = some (.inr (0, 12)) := rfl
set_option maxRecDepth 20000 in
theorem gf_X11_100_0 : zFG RX11 100 0 13 (some (some 67)) := ⟨_, _, _, _, _, _, sh_0, rfl, cl_X11, by decide, zT_in 526 (by decide +kernel) (by decide +kernel)⟩
set_option maxRecDepth 20000 in
theorem lk_X11_261 : zLV RX11 261 yX9_owe cX9_owe 3 (some .boolean) 2 := ⟨⟨zT_in 1184 (by decide +kernel) (by decide +kernel), zT_in 1185 (by decide +kernel) (by decide +kernel), zT_in 1186 (by decide +kernel) (by decide +kernel), zT_in 117 (by decide +kernel) (by decide +kernel), zT_in 1187 (by decide +kernel) (by decide +kernel)⟩, ⟨by decide +kernel, by decide +kernel, by decide +kernel⟩, by decide⟩
set_option maxRecDepth 20000 in
theorem ob_67 : zObj 67 RX9 := ⟨9, _, _, sh_67, rfl, rfl⟩
set_option maxRecDepth 20000 in
theorem gf_X12_114_69 : zFG RX12 114 69 61 (some (some 104)) := ⟨_, _, _, _, _, _, sh_69, rfl, cl_X12, by decide, zT_in 1337 (by decide +kernel) (by decide +kernel)⟩
set_option maxRecDepth 20000 in
theorem sh_104 : shp[104]? = some (.inr (0, 12)) := rfl
set_option maxRecDepth 20000 in
theorem lk_X9_19 : zLV RX9 19 yX9_ringOf cX9_ringOf 4 (some .int) 1 := ⟨⟨zT_in 1205 (by decide +kernel) (by decide +kernel), zT_in 1207 (by decide +kernel) (by decide +kernel), zT_in 41 (by decide +kernel) (by decide +kernel), zT_in 117 (by decide +kernel) (by decide +kernel), zT_in 1208 (by decide +kernel) (by decide +kernel)⟩, ⟨by decide +kernel, by decide +kernel, by decide +kernel⟩, by decide⟩
set_option maxRecDepth 20000 in
theorem mm_X9_27 : (Cond.methodLink RX9 27 Lib.Math.max.name ∈ zT ∧ Cond.static Lib.Math.max.name ∈ zT) ∧ Cond.initialized "java/lang/Math" ∈ zT ∧ Cond.code Lib.Math.max.name Lib.Math.max.code 2 (some .int) ∈ zT := ⟨⟨zT_in 1217 (by decide +kernel) (by decide +kernel), zT_in 674 (by decide +kernel) (by decide +kernel)⟩, zT_in 119 (by decide +kernel) (by decide +kernel), zT_in 675 (by decide +kernel) (by decide +kernel)⟩
set_option maxRecDepth 20000 in
theorem lk_X9_23 : zLV RX9 23 yX9_isLeastOfRing cX9_isLeastOfRing 4 (some .boolean) 1 := ⟨⟨zT_in 1201 (by decide +kernel) (by decide +kernel), zT_in 1203 (by decide +kernel) (by decide +kernel), zT_in 40 (by decide +kernel) (by decide +kernel), zT_in 117 (by decide +kernel) (by decide +kernel), zT_in 1204 (by decide +kernel) (by decide +kernel)⟩, ⟨by decide +kernel, by decide +kernel, by decide +kernel⟩, by decide⟩
set_option maxRecDepth 20000 in
theorem lk_X9_33 : zLV RX9 33 yX9_howMany cX9_howMany 3 (some .int) 0 := ⟨⟨zT_in 1197 (by decide +kernel) (by decide +kernel), zT_in 1199 (by decide +kernel) (by decide +kernel), zT_in 39 (by decide +kernel) (by decide +kernel), zT_in 117 (by decide +kernel) (by decide +kernel), zT_in 1200 (by decide +kernel) (by decide +kernel)⟩, ⟨by decide +kernel, by decide +kernel, by decide +kernel⟩, by decide⟩
set_option maxRecDepth 20000 in
theorem lk_X9_37 : zLV RX9 37 yX9_inRings cX9_inRings 3 (some .int) 0 := ⟨⟨zT_in 1209 (by decide +kernel) (by decide +kernel), zT_in 1211 (by decide +kernel) (by decide +kernel), zT_in 42 (by decide +kernel) (by decide +kernel), zT_in 117 (by decide +kernel) (by decide +kernel), zT_in 1212 (by decide +kernel) (by decide +kernel)⟩, ⟨by decide +kernel, by decide +kernel, by decide +kernel⟩, by decide⟩
set_option maxRecDepth 20000 in
theorem lk_X9_40 : zLV RX9 40 yX9_longest cX9_longest 3 (some .int) 0 := ⟨⟨zT_in 1213 (by decide +kernel) (by decide +kernel), zT_in 1215 (by decide +kernel) (by decide +kernel), zT_in 43 (by decide +kernel) (by decide +kernel), zT_in 117 (by decide +kernel) (by decide +kernel), zT_in 1216 (by decide +kernel) (by decide +kernel)⟩, ⟨by decide +kernel, by decide +kernel, by decide +kernel⟩, by decide⟩
set_option maxRecDepth 20000 in
theorem lk_X9_43 : zLV RX9 43 yX9_walk cX9_walk 6 (some .int) 2 := ⟨⟨zT_in 1218 (by decide +kernel) (by decide +kernel), zT_in 1220 (by decide +kernel) (by decide +kernel), zT_in 44 (by decide +kernel) (by decide +kernel), zT_in 117 (by decide +kernel) (by decide +kernel), zT_in 1221 (by decide +kernel) (by decide +kernel)⟩, ⟨by decide +kernel, by decide +kernel, by decide +kernel⟩, by decide⟩
set_option maxRecDepth 20000 in
theorem lk_X11_264 : zLV RX11 264 yX9_answer cX9_answer 3 (some .int) 2 := ⟨⟨zT_in 1193 (by decide +kernel) (by decide +kernel), zT_in 1194 (by decide +kernel) (by decide +kernel), zT_in 1195 (by decide +kernel) (by decide +kernel), zT_in 117 (by decide +kernel) (by decide +kernel), zT_in 1196 (by decide +kernel) (by decide +kernel)⟩, ⟨by decide +kernel, by decide +kernel, by decide +kernel⟩, by decide⟩
set_option maxRecDepth 20000 in
theorem lk_X12_473 : zLV RX12 473 yX12_ringOf cX12_ringOf 4 (some .int) 1 := ⟨⟨zT_in 1887 (by decide +kernel) (by decide +kernel), zT_in 1889 (by decide +kernel) (by decide +kernel), zT_in 102 (by decide +kernel) (by decide +kernel), zT_in 118 (by decide +kernel) (by decide +kernel), zT_in 1890 (by decide +kernel) (by decide +kernel)⟩, ⟨by decide +kernel, by decide +kernel, by decide +kernel⟩, by decide⟩
set_option maxRecDepth 20000 in
theorem lk_X12_476 : zLS' RX12 476 yX12_max cX12_max 2 (some .int) 2 := ⟨⟨zT_in 1891 (by decide +kernel) (by decide +kernel), zT_in 1892 (by decide +kernel) (by decide +kernel), zT_in 118 (by decide +kernel) (by decide +kernel), zT_in 1893 (by decide +kernel) (by decide +kernel)⟩, ⟨by decide +kernel, by decide +kernel, by decide +kernel⟩, by decide⟩
set_option maxRecDepth 20000 in
theorem lk_X12_479 : zLV RX12 479 yX12_isLowest cX12_isLowest 3 (some .boolean) 1 := ⟨⟨zT_in 1894 (by decide +kernel) (by decide +kernel), zT_in 1896 (by decide +kernel) (by decide +kernel), zT_in 103 (by decide +kernel) (by decide +kernel), zT_in 118 (by decide +kernel) (by decide +kernel), zT_in 1897 (by decide +kernel) (by decide +kernel)⟩, ⟨by decide +kernel, by decide +kernel, by decide +kernel⟩, by decide⟩
set_option maxRecDepth 20000 in
theorem lk_X10_72 : zLV RX10 72 yX10_islandOf cX10_islandOf 4 (some .int) 1 := ⟨⟨zT_in 1230 (by decide +kernel) (by decide +kernel), zT_in 784 (by decide +kernel) (by decide +kernel), zT_in 785 (by decide +kernel) (by decide +kernel), zT_in 107 (by decide +kernel) (by decide +kernel), zT_in 786 (by decide +kernel) (by decide +kernel)⟩, ⟨by decide +kernel, by decide +kernel, by decide +kernel⟩, by decide⟩
set_option maxRecDepth 20000 in
theorem lk_X10_75 : zLV RX10 75 yX10_isWet cX10_isWet 2 (some .boolean) 1 := ⟨⟨zT_in 1231 (by decide +kernel) (by decide +kernel), zT_in 1014 (by decide +kernel) (by decide +kernel), zT_in 1015 (by decide +kernel) (by decide +kernel), zT_in 107 (by decide +kernel) (by decide +kernel), zT_in 1016 (by decide +kernel) (by decide +kernel)⟩, ⟨by decide +kernel, by decide +kernel, by decide +kernel⟩, by decide⟩
set_option maxRecDepth 20000 in
theorem lk_X10_78 : zLV RX10 78 yX10_keysIn cX10_keysIn 4 (some .int) 1 := ⟨⟨zT_in 1232 (by decide +kernel) (by decide +kernel), zT_in 1233 (by decide +kernel) (by decide +kernel), zT_in 1234 (by decide +kernel) (by decide +kernel), zT_in 107 (by decide +kernel) (by decide +kernel), zT_in 1235 (by decide +kernel) (by decide +kernel)⟩, ⟨by decide +kernel, by decide +kernel, by decide +kernel⟩, by decide⟩
set_option maxRecDepth 20000 in
theorem lk_X10_81 : zLV RX10 81 yX10_around cX10_around 5 (some .int) 1 := ⟨⟨zT_in 1236 (by decide +kernel) (by decide +kernel), zT_in 792 (by decide +kernel) (by decide +kernel), zT_in 793 (by decide +kernel) (by decide +kernel), zT_in 107 (by decide +kernel) (by decide +kernel), zT_in 794 (by decide +kernel) (by decide +kernel)⟩, ⟨by decide +kernel, by decide +kernel, by decide +kernel⟩, by decide⟩
set_option maxRecDepth 20000 in
theorem lk_X11_266 : zLV RX11 266 yX10_ofPlace cX10_ofPlace 3 (some .int) 2 := ⟨⟨zT_in 1226 (by decide +kernel) (by decide +kernel), zT_in 1227 (by decide +kernel) (by decide +kernel), zT_in 1228 (by decide +kernel) (by decide +kernel), zT_in 107 (by decide +kernel) (by decide +kernel), zT_in 1229 (by decide +kernel) (by decide +kernel)⟩, ⟨by decide +kernel, by decide +kernel, by decide +kernel⟩, by decide⟩
set_option maxRecDepth 20000 in
theorem lk_X12_183 : zLV RX12 183 yX12_levels cX12_levels 4 (some .int) 1 := ⟨⟨zT_in 1553 (by decide +kernel) (by decide +kernel), zT_in 1555 (by decide +kernel) (by decide +kernel), zT_in 48 (by decide +kernel) (by decide +kernel), zT_in 118 (by decide +kernel) (by decide +kernel), zT_in 1556 (by decide +kernel) (by decide +kernel)⟩, ⟨by decide +kernel, by decide +kernel, by decide +kernel⟩, by decide⟩
set_option maxRecDepth 20000 in
theorem cs_X11_269 : Cond.constant RX11 269 65536 ∈ zT := zT_in 1241 (by decide +kernel) (by decide +kernel)
set_option maxRecDepth 20000 in
theorem cs_X12_482 : Cond.constant RX12 482 65535 ∈ zT := zT_in 1902 (by decide +kernel) (by decide +kernel)
set_option maxRecDepth 20000 in
theorem gf_X10_9_1 : zFG RX10 9 1 0 (some (some 2)) := ⟨_, _, _, _, _, _, sh_1, rfl, cl_X10, by decide, zT_in 141 (by decide +kernel) (by decide +kernel)⟩
set_option maxRecDepth 20000 in
theorem sh_26 : shp[26]? = some (.inl (10, [some (some 27), some (some 28), some (some 29), some (some 30), some (some 31), some (some 32), none, none, none, none, none, none, none])) := rfl
set_option maxRecDepth 20000 in
theorem gf_X10_9_26 : zFG RX10 9 26 0 (some (some 27)) := ⟨_, _, _, _, _, _, sh_26, rfl, cl_X10, by decide, zT_in 141 (by decide +kernel) (by decide +kernel)⟩
set_option maxRecDepth 20000 in
theorem ac_X10_40 : (Cond.methodLink RX10 40 arraycopyName ∈ zT ∧ Cond.native arraycopyName ∈ zT) ∧ Cond.static arraycopyName ∈ zT ∧ Cond.initialized "java/lang/System" ∈ zT := ⟨⟨zT_in 1250 (by decide +kernel) (by decide +kernel), zT_in 751 (by decide +kernel) (by decide +kernel)⟩, zT_in 750 (by decide +kernel) (by decide +kernel), zT_in 125 (by decide +kernel) (by decide +kernel)⟩
set_option maxRecDepth 20000 in
theorem sh_27 : shp[27]? = some (.inr (0, 16)) := rfl
set_option maxRecDepth 20000 in
theorem gf_X10_15_26 : zFG RX10 15 26 1 (some (some 28)) := ⟨_, _, _, _, _, _, sh_26, rfl, cl_X10, by decide, zT_in 144 (by decide +kernel) (by decide +kernel)⟩
set_option maxRecDepth 20000 in
theorem sh_28 : shp[28]? = some (.inr (0, 8)) := rfl
set_option maxRecDepth 20000 in
theorem gf_X10_18_26 : zFG RX10 18 26 2 (some (some 29)) := ⟨_, _, _, _, _, _, sh_26, rfl, cl_X10, by decide, zT_in 145 (by decide +kernel) (by decide +kernel)⟩
set_option maxRecDepth 20000 in
theorem sh_29 : shp[29]? = some (.inr (0, 8)) := rfl
set_option maxRecDepth 20000 in
theorem gf_X10_21_26 : zFG RX10 21 26 3 (some (some 30)) := ⟨_, _, _, _, _, _, sh_26, rfl, cl_X10, by decide, zT_in 146 (by decide +kernel) (by decide +kernel)⟩
set_option maxRecDepth 20000 in
theorem sh_30 : shp[30]? = some (.inr (0, 8)) := rfl
set_option maxRecDepth 20000 in
theorem gf_X10_24_26 : zFG RX10 24 26 4 (some (some 31)) := ⟨_, _, _, _, _, _, sh_26, rfl, cl_X10, by decide, zT_in 149 (by decide +kernel) (by decide +kernel)⟩
set_option maxRecDepth 20000 in
theorem sh_31 : shp[31]? = some (.inr (0, 8)) := rfl
set_option maxRecDepth 20000 in
theorem gf_X10_27_26 : zFG RX10 27 26 5 (some (some 32)) := ⟨_, _, _, _, _, _, sh_26, rfl, cl_X10, by decide, zT_in 152 (by decide +kernel) (by decide +kernel)⟩
set_option maxRecDepth 20000 in
theorem sh_32 : shp[32]? = some (.inr (0, 8)) := rfl
set_option maxRecDepth 20000 in
theorem pf_X10_46_26 : zFP RX10 46 26 6 none .int := ⟨_, _, _, _, _, _, sh_26, rfl, cl_X10, by decide, zT_in 156 (by decide +kernel) (by decide +kernel), rfl, by decide +kernel⟩
set_option maxRecDepth 20000 in
theorem pf_X10_49_26 : zFP RX10 49 26 7 none .int := ⟨_, _, _, _, _, _, sh_26, rfl, cl_X10, by decide, zT_in 158 (by decide +kernel) (by decide +kernel), rfl, by decide +kernel⟩
set_option maxRecDepth 20000 in
theorem gf_X10_52_1 : zFG RX10 52 1 8 none := ⟨_, _, _, _, _, _, sh_1, rfl, cl_X10, by decide, zT_in 162 (by decide +kernel) (by decide +kernel)⟩
set_option maxRecDepth 20000 in
theorem pf_X10_52_26 : zFP RX10 52 26 8 none .int := ⟨_, _, _, _, _, _, sh_26, rfl, cl_X10, by decide, zT_in 162 (by decide +kernel) (by decide +kernel), rfl, by decide +kernel⟩
set_option maxRecDepth 20000 in
theorem gf_X10_55_1 : zFG RX10 55 1 9 none := ⟨_, _, _, _, _, _, sh_1, rfl, cl_X10, by decide, zT_in 166 (by decide +kernel) (by decide +kernel)⟩
set_option maxRecDepth 20000 in
theorem pf_X10_55_26 : zFP RX10 55 26 9 none .int := ⟨_, _, _, _, _, _, sh_26, rfl, cl_X10, by decide, zT_in 166 (by decide +kernel) (by decide +kernel), rfl, by decide +kernel⟩
set_option maxRecDepth 20000 in
theorem gf_X10_30_1 : zFG RX10 30 1 10 none := ⟨_, _, _, _, _, _, sh_1, rfl, cl_X10, by decide, zT_in 169 (by decide +kernel) (by decide +kernel)⟩
set_option maxRecDepth 20000 in
theorem pf_X10_30_26 : zFP RX10 30 26 10 none .int := ⟨_, _, _, _, _, _, sh_26, rfl, cl_X10, by decide, zT_in 169 (by decide +kernel) (by decide +kernel), rfl, by decide +kernel⟩
set_option maxRecDepth 20000 in
theorem gf_X10_34_1 : zFG RX10 34 1 11 none := ⟨_, _, _, _, _, _, sh_1, rfl, cl_X10, by decide, zT_in 171 (by decide +kernel) (by decide +kernel)⟩
set_option maxRecDepth 20000 in
theorem pf_X10_34_26 : zFP RX10 34 26 11 none .int := ⟨_, _, _, _, _, _, sh_26, rfl, cl_X10, by decide, zT_in 171 (by decide +kernel) (by decide +kernel), rfl, by decide +kernel⟩
set_option maxRecDepth 20000 in
theorem gf_X10_37_1 : zFG RX10 37 1 12 none := ⟨_, _, _, _, _, _, sh_1, rfl, cl_X10, by decide, zT_in 175 (by decide +kernel) (by decide +kernel)⟩
set_option maxRecDepth 20000 in
theorem pf_X10_37_26 : zFP RX10 37 26 12 none .int := ⟨_, _, _, _, _, _, sh_26, rfl, cl_X10, by decide, zT_in 175 (by decide +kernel) (by decide +kernel), rfl, by decide +kernel⟩
set_option maxRecDepth 20000 in
theorem gf_X11_29_0 : zFG RX11 29 0 1 (some (some 26)) := ⟨_, _, _, _, _, _, sh_0, rfl, cl_X11, by decide, zT_in 514 (by decide +kernel) (by decide +kernel)⟩
set_option maxRecDepth 20000 in
theorem lk_X11_270 : zLV RX11 270 yX10_takeOver cX10_takeOver 2 none 1 := ⟨⟨zT_in 1246 (by decide +kernel) (by decide +kernel), zT_in 1247 (by decide +kernel) (by decide +kernel), zT_in 1248 (by decide +kernel) (by decide +kernel), zT_in 107 (by decide +kernel) (by decide +kernel), zT_in 1249 (by decide +kernel) (by decide +kernel)⟩, ⟨by decide +kernel, by decide +kernel, by decide +kernel⟩, by decide⟩
set_option maxRecDepth 20000 in
theorem ob_26 : zObj 26 RX10 := ⟨10, _, _, sh_26, rfl, rfl⟩
set_option maxRecDepth 20000 in
theorem pf_X11_32_0 : zFP RX11 32 0 2 none .boolean := ⟨_, _, _, _, _, _, sh_0, rfl, cl_X11, by decide, zT_in 515 (by decide +kernel) (by decide +kernel), rfl, by decide +kernel⟩
set_option maxRecDepth 20000 in
theorem lk_X11_275 : zLS' RX11 275 yJ6_bitCount_0f7a4 cJ6_bitCount_0f7a4 1 (some .int) 1 := ⟨⟨zT_in 1251 (by decide +kernel) (by decide +kernel), zT_in 964 (by decide +kernel) (by decide +kernel), zT_in 126 (by decide +kernel) (by decide +kernel), zT_in 965 (by decide +kernel) (by decide +kernel)⟩, ⟨by decide +kernel, by decide +kernel, by decide +kernel⟩, by decide⟩
set_option maxRecDepth 20000 in
theorem sh_105 : shp[105]? = some (.inr (0, 16)) := rfl
set_option maxRecDepth 20000 in
theorem sh_106 : shp[106]? = some (.inr (0, 8)) := rfl
set_option maxRecDepth 20000 in
theorem sh_107 : shp[107]? = some (.inr (0, 8)) := rfl
set_option maxRecDepth 20000 in
theorem sh_108 : shp[108]? = some (.inr (0, 8)) := rfl
set_option maxRecDepth 20000 in
theorem sh_109 : shp[109]? = some (.inr (0, 8)) := rfl
set_option maxRecDepth 20000 in
theorem sh_110 : shp[110]? = some (.inr (0, 8)) := rfl
set_option maxRecDepth 20000 in
theorem pf_X12_483_69 : zFP RX12 483 69 62 none .boolean := ⟨_, _, _, _, _, _, sh_69, rfl, cl_X12, by decide, zT_in 1338 (by decide +kernel) (by decide +kernel), rfl, by decide +kernel⟩
set_option maxRecDepth 20000 in
theorem pf_X12_486_69 : zFP RX12 486 69 63 none .int := ⟨_, _, _, _, _, _, sh_69, rfl, cl_X12, by decide, zT_in 1339 (by decide +kernel) (by decide +kernel), rfl, by decide +kernel⟩
set_option maxRecDepth 20000 in
theorem pf_X12_489_69 : zFP RX12 489 69 64 none .int := ⟨_, _, _, _, _, _, sh_69, rfl, cl_X12, by decide, zT_in 1340 (by decide +kernel) (by decide +kernel), rfl, by decide +kernel⟩
set_option maxRecDepth 20000 in
theorem pf_X12_492_69 : zFP RX12 492 69 65 none .int := ⟨_, _, _, _, _, _, sh_69, rfl, cl_X12, by decide, zT_in 1341 (by decide +kernel) (by decide +kernel), rfl, by decide +kernel⟩
set_option maxRecDepth 20000 in
theorem pf_X12_495_69 : zFP RX12 495 69 66 none .int := ⟨_, _, _, _, _, _, sh_69, rfl, cl_X12, by decide, zT_in 1342 (by decide +kernel) (by decide +kernel), rfl, by decide +kernel⟩
set_option maxRecDepth 20000 in
theorem pf_X12_498_69 : zFP RX12 498 69 67 none .int := ⟨_, _, _, _, _, _, sh_69, rfl, cl_X12, by decide, zT_in 1343 (by decide +kernel) (by decide +kernel), rfl, by decide +kernel⟩
set_option maxRecDepth 20000 in
theorem pf_X12_501_69 : zFP RX12 501 69 68 none .int := ⟨_, _, _, _, _, _, sh_69, rfl, cl_X12, by decide, zT_in 1344 (by decide +kernel) (by decide +kernel), rfl, by decide +kernel⟩
set_option maxRecDepth 20000 in
theorem pf_X12_504_69 : zFP RX12 504 69 69 none .int := ⟨_, _, _, _, _, _, sh_69, rfl, cl_X12, by decide, zT_in 1345 (by decide +kernel) (by decide +kernel), rfl, by decide +kernel⟩
set_option maxRecDepth 20000 in
theorem gf_X12_117_69 : zFG RX12 117 69 70 (some (some 105)) := ⟨_, _, _, _, _, _, sh_69, rfl, cl_X12, by decide, zT_in 1346 (by decide +kernel) (by decide +kernel)⟩
set_option maxRecDepth 20000 in
theorem lk_X12_507 : zLS' RX12 507 yX12_copies cX12_copies 4 none 3 := ⟨⟨zT_in 1907 (by decide +kernel) (by decide +kernel), zT_in 1908 (by decide +kernel) (by decide +kernel), zT_in 118 (by decide +kernel) (by decide +kernel), zT_in 1909 (by decide +kernel) (by decide +kernel)⟩, ⟨by decide +kernel, by decide +kernel, by decide +kernel⟩, by decide⟩
set_option maxRecDepth 20000 in
theorem gf_X12_120_69 : zFG RX12 120 69 71 (some (some 106)) := ⟨_, _, _, _, _, _, sh_69, rfl, cl_X12, by decide, zT_in 1347 (by decide +kernel) (by decide +kernel)⟩
set_option maxRecDepth 20000 in
theorem gf_X12_123_69 : zFG RX12 123 69 72 (some (some 107)) := ⟨_, _, _, _, _, _, sh_69, rfl, cl_X12, by decide, zT_in 1348 (by decide +kernel) (by decide +kernel)⟩
set_option maxRecDepth 20000 in
theorem gf_X12_126_69 : zFG RX12 126 69 73 (some (some 108)) := ⟨_, _, _, _, _, _, sh_69, rfl, cl_X12, by decide, zT_in 1349 (by decide +kernel) (by decide +kernel)⟩
set_option maxRecDepth 20000 in
theorem gf_X12_129_69 : zFG RX12 129 69 74 (some (some 109)) := ⟨_, _, _, _, _, _, sh_69, rfl, cl_X12, by decide, zT_in 1350 (by decide +kernel) (by decide +kernel)⟩
set_option maxRecDepth 20000 in
theorem gf_X12_132_69 : zFG RX12 132 69 75 (some (some 110)) := ⟨_, _, _, _, _, _, sh_69, rfl, cl_X12, by decide, zT_in 1351 (by decide +kernel) (by decide +kernel)⟩
set_option maxRecDepth 20000 in
theorem gf_X10_46_26 : zFG RX10 46 26 6 none := ⟨_, _, _, _, _, _, sh_26, rfl, cl_X10, by decide, zT_in 156 (by decide +kernel) (by decide +kernel)⟩
set_option maxRecDepth 20000 in
theorem gf_X10_49_26 : zFG RX10 49 26 7 none := ⟨_, _, _, _, _, _, sh_26, rfl, cl_X10, by decide, zT_in 158 (by decide +kernel) (by decide +kernel)⟩
set_option maxRecDepth 20000 in
theorem gf_X10_52_26 : zFG RX10 52 26 8 none := ⟨_, _, _, _, _, _, sh_26, rfl, cl_X10, by decide, zT_in 162 (by decide +kernel) (by decide +kernel)⟩
set_option maxRecDepth 20000 in
theorem pf_X10_52_1 : zFP RX10 52 1 8 none .int := ⟨_, _, _, _, _, _, sh_1, rfl, cl_X10, by decide, zT_in 162 (by decide +kernel) (by decide +kernel), rfl, by decide +kernel⟩
set_option maxRecDepth 20000 in
theorem gf_X10_55_26 : zFG RX10 55 26 9 none := ⟨_, _, _, _, _, _, sh_26, rfl, cl_X10, by decide, zT_in 166 (by decide +kernel) (by decide +kernel)⟩
set_option maxRecDepth 20000 in
theorem pf_X10_55_1 : zFP RX10 55 1 9 none .int := ⟨_, _, _, _, _, _, sh_1, rfl, cl_X10, by decide, zT_in 166 (by decide +kernel) (by decide +kernel), rfl, by decide +kernel⟩
set_option maxRecDepth 20000 in
theorem gf_X10_30_26 : zFG RX10 30 26 10 none := ⟨_, _, _, _, _, _, sh_26, rfl, cl_X10, by decide, zT_in 169 (by decide +kernel) (by decide +kernel)⟩
set_option maxRecDepth 20000 in
theorem pf_X10_30_1 : zFP RX10 30 1 10 none .int := ⟨_, _, _, _, _, _, sh_1, rfl, cl_X10, by decide, zT_in 169 (by decide +kernel) (by decide +kernel), rfl, by decide +kernel⟩
set_option maxRecDepth 20000 in
theorem gf_X10_34_26 : zFG RX10 34 26 11 none := ⟨_, _, _, _, _, _, sh_26, rfl, cl_X10, by decide, zT_in 171 (by decide +kernel) (by decide +kernel)⟩
set_option maxRecDepth 20000 in
theorem pf_X10_34_1 : zFP RX10 34 1 11 none .int := ⟨_, _, _, _, _, _, sh_1, rfl, cl_X10, by decide, zT_in 171 (by decide +kernel) (by decide +kernel), rfl, by decide +kernel⟩
set_option maxRecDepth 20000 in
theorem gf_X10_37_26 : zFG RX10 37 26 12 none := ⟨_, _, _, _, _, _, sh_26, rfl, cl_X10, by decide, zT_in 175 (by decide +kernel) (by decide +kernel)⟩
set_option maxRecDepth 20000 in
theorem pf_X10_37_1 : zFP RX10 37 1 12 none .int := ⟨_, _, _, _, _, _, sh_1, rfl, cl_X10, by decide, zT_in 175 (by decide +kernel) (by decide +kernel), rfl, by decide +kernel⟩
set_option maxRecDepth 20000 in
theorem gf_X11_32_0 : zFG RX11 32 0 2 none := ⟨_, _, _, _, _, _, sh_0, rfl, cl_X11, by decide, zT_in 515 (by decide +kernel) (by decide +kernel)⟩
set_option maxRecDepth 20000 in
theorem gf_X12_483_69 : zFG RX12 483 69 62 none := ⟨_, _, _, _, _, _, sh_69, rfl, cl_X12, by decide, zT_in 1338 (by decide +kernel) (by decide +kernel)⟩
set_option maxRecDepth 20000 in
theorem gf_X12_486_69 : zFG RX12 486 69 63 none := ⟨_, _, _, _, _, _, sh_69, rfl, cl_X12, by decide, zT_in 1339 (by decide +kernel) (by decide +kernel)⟩
set_option maxRecDepth 20000 in
theorem gf_X12_489_69 : zFG RX12 489 69 64 none := ⟨_, _, _, _, _, _, sh_69, rfl, cl_X12, by decide, zT_in 1340 (by decide +kernel) (by decide +kernel)⟩
set_option maxRecDepth 20000 in
theorem gf_X12_492_69 : zFG RX12 492 69 65 none := ⟨_, _, _, _, _, _, sh_69, rfl, cl_X12, by decide, zT_in 1341 (by decide +kernel) (by decide +kernel)⟩
set_option maxRecDepth 20000 in
theorem gf_X12_495_69 : zFG RX12 495 69 66 none := ⟨_, _, _, _, _, _, sh_69, rfl, cl_X12, by decide, zT_in 1342 (by decide +kernel) (by decide +kernel)⟩
set_option maxRecDepth 20000 in
theorem gf_X12_498_69 : zFG RX12 498 69 67 none := ⟨_, _, _, _, _, _, sh_69, rfl, cl_X12, by decide, zT_in 1343 (by decide +kernel) (by decide +kernel)⟩
set_option maxRecDepth 20000 in
theorem gf_X12_501_69 : zFG RX12 501 69 68 none := ⟨_, _, _, _, _, _, sh_69, rfl, cl_X12, by decide, zT_in 1344 (by decide +kernel) (by decide +kernel)⟩
set_option maxRecDepth 20000 in
theorem gf_X12_504_69 : zFG RX12 504 69 69 none := ⟨_, _, _, _, _, _, sh_69, rfl, cl_X12, by decide, zT_in 1345 (by decide +kernel) (by decide +kernel)⟩
set_option maxRecDepth 20000 in
theorem lk_X8_26 : zLV RX8 26 yX8_at cX8_at 2 (some .int) 1 := ⟨⟨zT_in 1265 (by decide +kernel) (by decide +kernel), zT_in 617 (by decide +kernel) (by decide +kernel), zT_in 618 (by decide +kernel) (by decide +kernel), zT_in 111 (by decide +kernel) (by decide +kernel), zT_in 619 (by decide +kernel) (by decide +kernel)⟩, ⟨by decide +kernel, by decide +kernel, by decide +kernel⟩, by decide⟩
set_option maxRecDepth 20000 in
theorem lk_X11_283 : zLV RX11 283 yX8_number cX8_number 2 (some .int) 1 := ⟨⟨zT_in 1261 (by decide +kernel) (by decide +kernel), zT_in 1262 (by decide +kernel) (by decide +kernel), zT_in 1263 (by decide +kernel) (by decide +kernel), zT_in 111 (by decide +kernel) (by decide +kernel), zT_in 1264 (by decide +kernel) (by decide +kernel)⟩, ⟨by decide +kernel, by decide +kernel, by decide +kernel⟩, by decide⟩
set_option maxRecDepth 20000 in
theorem lk_X11_280 : zLV RX11 280 yX10_islandOf cX10_islandOf 4 (some .int) 1 := ⟨⟨zT_in 1260 (by decide +kernel) (by decide +kernel), zT_in 784 (by decide +kernel) (by decide +kernel), zT_in 785 (by decide +kernel) (by decide +kernel), zT_in 107 (by decide +kernel) (by decide +kernel), zT_in 786 (by decide +kernel) (by decide +kernel)⟩, ⟨by decide +kernel, by decide +kernel, by decide +kernel⟩, by decide⟩
set_option maxRecDepth 20000 in
theorem lk_X12_511 : zLV RX12 511 yX12_tapeNumber cX12_tapeNumber 4 (some .int) 1 := ⟨⟨zT_in 1918 (by decide +kernel) (by decide +kernel), zT_in 1920 (by decide +kernel) (by decide +kernel), zT_in 104 (by decide +kernel) (by decide +kernel), zT_in 118 (by decide +kernel) (by decide +kernel), zT_in 1921 (by decide +kernel) (by decide +kernel)⟩, ⟨by decide +kernel, by decide +kernel, by decide +kernel⟩, by decide⟩
set_option maxRecDepth 20000 in
theorem gf_X11_286_8 : zFG RX11 286 8 7 none := ⟨_, _, _, _, _, _, sh_8, rfl, cl_X1, by decide, zT_in 220 (by decide +kernel) (by decide +kernel)⟩
set_option maxRecDepth 20000 in
theorem gf_X11_222_1 : zFG RX11 222 1 12 none := ⟨_, _, _, _, _, _, sh_1, rfl, cl_X10, by decide, zT_in 177 (by decide +kernel) (by decide +kernel)⟩
set_option maxRecDepth 20000 in
theorem gf_X11_212_1 : zFG RX11 212 1 10 none := ⟨_, _, _, _, _, _, sh_1, rfl, cl_X10, by decide, zT_in 170 (by decide +kernel) (by decide +kernel)⟩
set_option maxRecDepth 20000 in
theorem gf_X11_289_65 : zFG RX11 289 65 0 none := ⟨_, _, _, _, _, _, sh_65, rfl, cl_X0, by decide, zT_in 496 (by decide +kernel) (by decide +kernel)⟩
