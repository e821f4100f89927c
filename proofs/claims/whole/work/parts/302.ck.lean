theorem e_L_law_0 : zD cL_law 0 (.new 7) 3 3 := ⟨by decide +kernel, rfl⟩
theorem e_L_law_3 : zD cL_law 3 (.dup) 1 4 := ⟨by decide +kernel, rfl⟩
theorem e_L_law_4 : zD cL_law 4 (.invokespecial 9) 3 7 := ⟨by decide +kernel, rfl⟩
theorem e_X11_init_0 : zAL cX11_init 0 0 1 := .inl ⟨0, by decide +kernel, rfl, rfl⟩
theorem e_X11_init_1 : zD cX11_init 1 (.invokespecial 1) 3 4 := ⟨by decide +kernel, rfl⟩
theorem e_X11_init_4 : zD cX11_init 4 (.new 7) 3 7 := ⟨by decide +kernel, rfl⟩
theorem e_X11_init_7 : zD cX11_init 7 (.dup) 1 8 := ⟨by decide +kernel, rfl⟩
theorem e_X11_init_8 : zD cX11_init 8 (.invokespecial 9) 3 11 := ⟨by decide +kernel, rfl⟩
theorem e_X10_init_0 : zAL cX10_init 0 0 1 := .inl ⟨0, by decide +kernel, rfl, rfl⟩
theorem e_X10_init_1 : zD cX10_init 1 (.invokespecial 3) 3 4 := ⟨by decide +kernel, rfl⟩
theorem e_X10_init_4 : zAL cX10_init 4 0 5 := .inl ⟨0, by decide +kernel, rfl, rfl⟩
theorem e_X10_init_5 : zK cX10_init 5 16 7 := .inr (.inl ⟨16, by decide +kernel, by decide +kernel, rfl⟩)
theorem e_X10_init_7 : zD cX10_init 7 (.newarray .int) 2 9 := ⟨by decide +kernel, rfl⟩
theorem e_X10_init_9 : zD cX10_init 9 (.putfield 9) 3 12 := ⟨by decide +kernel, rfl⟩
theorem e_X10_init_12 : zAL cX10_init 12 0 13 := .inl ⟨0, by decide +kernel, rfl, rfl⟩
theorem e_X10_init_13 : zK cX10_init 13 8 15 := .inr (.inl ⟨8, by decide +kernel, by decide +kernel, rfl⟩)
theorem e_X10_init_15 : zD cX10_init 15 (.newarray .int) 2 17 := ⟨by decide +kernel, rfl⟩
theorem e_X10_init_17 : zD cX10_init 17 (.putfield 15) 3 20 := ⟨by decide +kernel, rfl⟩
theorem e_X10_init_20 : zAL cX10_init 20 0 21 := .inl ⟨0, by decide +kernel, rfl, rfl⟩
theorem e_X10_init_21 : zK cX10_init 21 8 23 := .inr (.inl ⟨8, by decide +kernel, by decide +kernel, rfl⟩)
theorem e_X10_init_23 : zD cX10_init 23 (.newarray .int) 2 25 := ⟨by decide +kernel, rfl⟩
theorem e_X10_init_25 : zD cX10_init 25 (.putfield 18) 3 28 := ⟨by decide +kernel, rfl⟩
theorem e_X10_init_28 : zAL cX10_init 28 0 29 := .inl ⟨0, by decide +kernel, rfl, rfl⟩
theorem e_X10_init_29 : zK cX10_init 29 8 31 := .inr (.inl ⟨8, by decide +kernel, by decide +kernel, rfl⟩)
theorem e_X10_init_31 : zD cX10_init 31 (.newarray .int) 2 33 := ⟨by decide +kernel, rfl⟩
theorem e_X10_init_33 : zD cX10_init 33 (.putfield 21) 3 36 := ⟨by decide +kernel, rfl⟩
theorem e_X10_init_36 : zAL cX10_init 36 0 37 := .inl ⟨0, by decide +kernel, rfl, rfl⟩
theorem e_X10_init_37 : zK cX10_init 37 8 39 := .inr (.inl ⟨8, by decide +kernel, by decide +kernel, rfl⟩)
theorem e_X10_init_39 : zD cX10_init 39 (.newarray .int) 2 41 := ⟨by decide +kernel, rfl⟩
theorem e_X10_init_41 : zD cX10_init 41 (.putfield 24) 3 44 := ⟨by decide +kernel, rfl⟩
theorem e_X10_init_44 : zAL cX10_init 44 0 45 := .inl ⟨0, by decide +kernel, rfl, rfl⟩
theorem e_X10_init_45 : zK cX10_init 45 8 47 := .inr (.inl ⟨8, by decide +kernel, by decide +kernel, rfl⟩)
theorem e_X10_init_47 : zD cX10_init 47 (.newarray .int) 2 49 := ⟨by decide +kernel, rfl⟩
theorem e_X10_init_49 : zD cX10_init 49 (.putfield 27) 3 52 := ⟨by decide +kernel, rfl⟩
theorem e_X10_init_52 : zAL cX10_init 52 0 53 := .inl ⟨0, by decide +kernel, rfl, rfl⟩
theorem e_X10_init_53 : zK cX10_init 53 8 55 := .inr (.inl ⟨8, by decide +kernel, by decide +kernel, rfl⟩)
theorem e_X10_init_55 : zD cX10_init 55 (.putfield 30) 3 58 := ⟨by decide +kernel, rfl⟩
theorem e_X10_init_58 : zAL cX10_init 58 0 59 := .inl ⟨0, by decide +kernel, rfl, rfl⟩
theorem e_X10_init_59 : zK cX10_init 59 8 61 := .inr (.inl ⟨8, by decide +kernel, by decide +kernel, rfl⟩)
theorem e_X10_init_61 : zD cX10_init 61 (.putfield 34) 3 64 := ⟨by decide +kernel, rfl⟩
theorem e_X10_init_64 : zAL cX10_init 64 0 65 := .inl ⟨0, by decide +kernel, rfl, rfl⟩
theorem e_X10_init_65 : zK cX10_init 65 1 66 := .inl ⟨1, by decide +kernel, by decide +kernel, rfl⟩
theorem e_X10_init_66 : zD cX10_init 66 (.putfield 37) 3 69 := ⟨by decide +kernel, rfl⟩
theorem e_X10_init_69 : zK cX10_init 69 0 70 := .inl ⟨0, by decide +kernel, by decide +kernel, rfl⟩
theorem e_X10_init_70 : zIS cX10_init 70 1 71 := .inl ⟨1, by decide +kernel, rfl, rfl⟩
theorem e_X10_init_71 : zIL cX10_init 71 1 72 := .inl ⟨1, by decide +kernel, rfl, rfl⟩
theorem e_X10_init_72 : zK cX10_init 72 8 74 := .inr (.inl ⟨8, by decide +kernel, by decide +kernel, rfl⟩)
theorem e_X10_init_74 : zB cX10_init 74 (.if_icmp .ge 30) 30 104 77 := ⟨by decide +kernel, by decide, rfl⟩
theorem e_X10_init_77 : zAL cX10_init 77 0 78 := .inl ⟨0, by decide +kernel, rfl, rfl⟩
theorem e_X10_init_78 : zD cX10_init 78 (.getfield 18) 3 81 := ⟨by decide +kernel, rfl⟩
theorem e_X10_init_81 : zIL cX10_init 81 1 82 := .inl ⟨1, by decide +kernel, rfl, rfl⟩
theorem e_X10_init_82 : zK cX10_init 82 (-1) 83 := .inl ⟨(-1), by decide +kernel, by decide +kernel, rfl⟩
theorem e_X10_init_83 : zD cX10_init 83 (.iastore) 1 84 := ⟨by decide +kernel, rfl⟩
theorem e_X10_init_84 : zAL cX10_init 84 0 85 := .inl ⟨0, by decide +kernel, rfl, rfl⟩
theorem e_X10_init_85 : zD cX10_init 85 (.getfield 21) 3 88 := ⟨by decide +kernel, rfl⟩
theorem e_X10_init_88 : zIL cX10_init 88 1 89 := .inl ⟨1, by decide +kernel, rfl, rfl⟩
theorem e_X10_init_89 : zK cX10_init 89 (-1) 90 := .inl ⟨(-1), by decide +kernel, by decide +kernel, rfl⟩
theorem e_X10_init_90 : zD cX10_init 90 (.iastore) 1 91 := ⟨by decide +kernel, rfl⟩
theorem e_X10_init_91 : zAL cX10_init 91 0 92 := .inl ⟨0, by decide +kernel, rfl, rfl⟩
theorem e_X10_init_92 : zD cX10_init 92 (.getfield 24) 3 95 := ⟨by decide +kernel, rfl⟩
theorem e_X10_init_95 : zIL cX10_init 95 1 96 := .inl ⟨1, by decide +kernel, rfl, rfl⟩
theorem e_X10_init_96 : zK cX10_init 96 (-1) 97 := .inl ⟨(-1), by decide +kernel, by decide +kernel, rfl⟩
theorem e_X10_init_97 : zD cX10_init 97 (.iastore) 1 98 := ⟨by decide +kernel, rfl⟩
theorem e_X10_init_98 : zD cX10_init 98 (.iinc 1 1) 3 101 := ⟨by decide +kernel, rfl⟩
theorem e_X10_init_101 : zB cX10_init 101 (.goto (-30)) (-30) 71 104 := ⟨by decide +kernel, by decide, rfl⟩
theorem e_X10_init_104 : zK cX10_init 104 0 105 := .inl ⟨0, by decide +kernel, by decide +kernel, rfl⟩
theorem e_X10_init_105 : zIS cX10_init 105 1 106 := .inl ⟨1, by decide +kernel, rfl, rfl⟩
theorem e_X10_init_106 : zIL cX10_init 106 1 107 := .inl ⟨1, by decide +kernel, rfl, rfl⟩
theorem e_X10_init_107 : zK cX10_init 107 8 109 := .inr (.inl ⟨8, by decide +kernel, by decide +kernel, rfl⟩)
theorem e_X10_init_109 : zB cX10_init 109 (.if_icmp .ge 16) 16 125 112 := ⟨by decide +kernel, by decide, rfl⟩
theorem e_X10_init_112 : zAL cX10_init 112 0 113 := .inl ⟨0, by decide +kernel, rfl, rfl⟩
theorem e_X10_init_113 : zD cX10_init 113 (.getfield 27) 3 116 := ⟨by decide +kernel, rfl⟩
theorem e_X10_init_116 : zIL cX10_init 116 1 117 := .inl ⟨1, by decide +kernel, rfl, rfl⟩
theorem e_X10_init_117 : zK cX10_init 117 (-1) 118 := .inl ⟨(-1), by decide +kernel, by decide +kernel, rfl⟩
theorem e_X10_init_118 : zD cX10_init 118 (.iastore) 1 119 := ⟨by decide +kernel, rfl⟩
theorem e_X10_init_119 : zD cX10_init 119 (.iinc 1 1) 3 122 := ⟨by decide +kernel, rfl⟩
theorem e_X10_init_122 : zB cX10_init 122 (.goto (-16)) (-16) 106 125 := ⟨by decide +kernel, by decide, rfl⟩
theorem e_X10_init_125 : decode cX10_init 125 = .ok (.return_, 1) := by decide +kernel
theorem e_X11_init_11 : zAS cX11_init 11 1 12 := .inl ⟨1, by decide +kernel, rfl, rfl⟩
theorem e_X11_init_12 : zD cX11_init 12 (.new 10) 3 15 := ⟨by decide +kernel, rfl⟩
theorem e_X11_init_15 : zD cX11_init 15 (.dup) 1 16 := ⟨by decide +kernel, rfl⟩
theorem e_X11_init_16 : zD cX11_init 16 (.invokespecial 12) 3 19 := ⟨by decide +kernel, rfl⟩
theorem e_X1_init_0 : zAL cX1_init 0 0 1 := .inl ⟨0, by decide +kernel, rfl, rfl⟩
theorem e_X1_init_1 : zD cX1_init 1 (.invokespecial 3) 3 4 := ⟨by decide +kernel, rfl⟩
theorem e_X1_init_4 : zAL cX1_init 4 0 5 := .inl ⟨0, by decide +kernel, rfl, rfl⟩
theorem e_X1_init_5 : zK cX1_init 5 240 8 := .inr (.inr ⟨240, by decide +kernel, by decide +kernel, rfl⟩)
theorem e_X1_init_8 : zD cX1_init 8 (.newarray .int) 2 10 := ⟨by decide +kernel, rfl⟩
theorem e_X1_init_10 : zD cX1_init 10 (.putfield 11) 3 13 := ⟨by decide +kernel, rfl⟩
theorem e_X1_init_13 : zAL cX1_init 13 0 14 := .inl ⟨0, by decide +kernel, rfl, rfl⟩
theorem e_X1_init_14 : zK cX1_init 14 240 17 := .inr (.inr ⟨240, by decide +kernel, by decide +kernel, rfl⟩)
theorem e_X1_init_17 : zD cX1_init 17 (.newarray .int) 2 19 := ⟨by decide +kernel, rfl⟩
theorem e_X1_init_19 : zD cX1_init 19 (.putfield 15) 3 22 := ⟨by decide +kernel, rfl⟩
theorem e_X1_init_22 : zAL cX1_init 22 0 23 := .inl ⟨0, by decide +kernel, rfl, rfl⟩
theorem e_X1_init_23 : zK cX1_init 23 16 25 := .inr (.inl ⟨16, by decide +kernel, by decide +kernel, rfl⟩)
theorem e_X1_init_25 : zD cX1_init 25 (.newarray .int) 2 27 := ⟨by decide +kernel, rfl⟩
theorem e_X1_init_27 : zD cX1_init 27 (.putfield 18) 3 30 := ⟨by decide +kernel, rfl⟩
theorem e_X1_init_30 : zAL cX1_init 30 0 31 := .inl ⟨0, by decide +kernel, rfl, rfl⟩
theorem e_X1_init_31 : zK cX1_init 31 16 33 := .inr (.inl ⟨16, by decide +kernel, by decide +kernel, rfl⟩)
theorem e_X1_init_33 : zD cX1_init 33 (.newarray .int) 2 35 := ⟨by decide +kernel, rfl⟩
theorem e_X1_init_35 : zD cX1_init 35 (.putfield 21) 3 38 := ⟨by decide +kernel, rfl⟩
theorem e_X1_init_38 : zAL cX1_init 38 0 39 := .inl ⟨0, by decide +kernel, rfl, rfl⟩
theorem e_X1_init_39 : zK cX1_init 39 16 41 := .inr (.inl ⟨16, by decide +kernel, by decide +kernel, rfl⟩)
theorem e_X1_init_41 : zD cX1_init 41 (.newarray .int) 2 43 := ⟨by decide +kernel, rfl⟩
theorem e_X1_init_43 : zD cX1_init 43 (.putfield 24) 3 46 := ⟨by decide +kernel, rfl⟩
theorem e_X1_init_46 : zAL cX1_init 46 0 47 := .inl ⟨0, by decide +kernel, rfl, rfl⟩
theorem e_X1_init_47 : zK cX1_init 47 16 49 := .inr (.inl ⟨16, by decide +kernel, by decide +kernel, rfl⟩)
theorem e_X1_init_49 : zD cX1_init 49 (.newarray .int) 2 51 := ⟨by decide +kernel, rfl⟩
theorem e_X1_init_51 : zD cX1_init 51 (.putfield 27) 3 54 := ⟨by decide +kernel, rfl⟩
theorem e_X1_init_54 : zAL cX1_init 54 0 55 := .inl ⟨0, by decide +kernel, rfl, rfl⟩
theorem e_X1_init_55 : zK cX1_init 55 240 58 := .inr (.inr ⟨240, by decide +kernel, by decide +kernel, rfl⟩)
theorem e_X1_init_58 : zD cX1_init 58 (.newarray .int) 2 60 := ⟨by decide +kernel, rfl⟩
theorem e_X1_init_60 : zD cX1_init 60 (.putfield 30) 3 63 := ⟨by decide +kernel, rfl⟩
theorem e_X1_init_63 : zAL cX1_init 63 0 64 := .inl ⟨0, by decide +kernel, rfl, rfl⟩
theorem e_X1_init_64 : zK cX1_init 64 64 66 := .inr (.inl ⟨64, by decide +kernel, by decide +kernel, rfl⟩)
theorem e_X1_init_66 : zD cX1_init 66 (.newarray .int) 2 68 := ⟨by decide +kernel, rfl⟩
theorem e_X1_init_68 : zD cX1_init 68 (.putfield 33) 3 71 := ⟨by decide +kernel, rfl⟩
theorem e_X1_init_71 : decode cX1_init 71 = .ok (.return_, 1) := by decide +kernel
theorem e_X11_init_19 : zAS cX11_init 19 2 20 := .inl ⟨2, by decide +kernel, rfl, rfl⟩
theorem e_X11_init_20 : zD cX11_init 20 (.new 13) 3 23 := ⟨by decide +kernel, rfl⟩
theorem e_X11_init_23 : zD cX11_init 23 (.dup) 1 24 := ⟨by decide +kernel, rfl⟩
theorem e_X11_init_24 : zAL cX11_init 24 1 25 := .inl ⟨1, by decide +kernel, rfl, rfl⟩
theorem e_X11_init_25 : zD cX11_init 25 (.invokespecial 15) 3 28 := ⟨by decide +kernel, rfl⟩
theorem e_X5_init_0 : zAL cX5_init 0 0 1 := .inl ⟨0, by decide +kernel, rfl, rfl⟩
theorem e_X5_init_1 : zD cX5_init 1 (.invokespecial 3) 3 4 := ⟨by decide +kernel, rfl⟩
theorem e_X5_init_4 : zAL cX5_init 4 0 5 := .inl ⟨0, by decide +kernel, rfl, rfl⟩
theorem e_X5_init_5 : zK cX5_init 5 4 6 := .inl ⟨4, by decide +kernel, by decide +kernel, rfl⟩
theorem e_X5_init_6 : zD cX5_init 6 (.newarray .int) 2 8 := ⟨by decide +kernel, rfl⟩
theorem e_X5_init_8 : zD cX5_init 8 (.putfield 9) 3 11 := ⟨by decide +kernel, rfl⟩
theorem e_X5_init_11 : zAL cX5_init 11 0 12 := .inl ⟨0, by decide +kernel, rfl, rfl⟩
theorem e_X5_init_12 : zK cX5_init 12 4 13 := .inl ⟨4, by decide +kernel, by decide +kernel, rfl⟩
theorem e_X5_init_13 : zD cX5_init 13 (.newarray .int) 2 15 := ⟨by decide +kernel, rfl⟩
theorem e_X5_init_15 : zD cX5_init 15 (.putfield 15) 3 18 := ⟨by decide +kernel, rfl⟩
theorem e_X5_init_18 : zAL cX5_init 18 0 19 := .inl ⟨0, by decide +kernel, rfl, rfl⟩
theorem e_X5_init_19 : zK cX5_init 19 8 21 := .inr (.inl ⟨8, by decide +kernel, by decide +kernel, rfl⟩)
theorem e_X5_init_21 : zD cX5_init 21 (.newarray .int) 2 23 := ⟨by decide +kernel, rfl⟩
theorem e_X5_init_23 : zD cX5_init 23 (.putfield 18) 3 26 := ⟨by decide +kernel, rfl⟩
theorem e_X5_init_26 : zAL cX5_init 26 0 27 := .inl ⟨0, by decide +kernel, rfl, rfl⟩
theorem e_X5_init_27 : zK cX5_init 27 8 29 := .inr (.inl ⟨8, by decide +kernel, by decide +kernel, rfl⟩)
theorem e_X5_init_29 : zD cX5_init 29 (.newarray .int) 2 31 := ⟨by decide +kernel, rfl⟩
theorem e_X5_init_31 : zD cX5_init 31 (.putfield 21) 3 34 := ⟨by decide +kernel, rfl⟩
theorem e_X5_init_34 : zAL cX5_init 34 0 35 := .inl ⟨0, by decide +kernel, rfl, rfl⟩
theorem e_X5_init_35 : zK cX5_init 35 3 36 := .inl ⟨3, by decide +kernel, by decide +kernel, rfl⟩
theorem e_X5_init_36 : zD cX5_init 36 (.newarray .int) 2 38 := ⟨by decide +kernel, rfl⟩
theorem e_X5_init_38 : zD cX5_init 38 (.putfield 24) 3 41 := ⟨by decide +kernel, rfl⟩
theorem e_X5_init_41 : zAL cX5_init 41 0 42 := .inl ⟨0, by decide +kernel, rfl, rfl⟩
theorem e_X5_init_42 : zK cX5_init 42 6 44 := .inr (.inl ⟨6, by decide +kernel, by decide +kernel, rfl⟩)
theorem e_X5_init_44 : zD cX5_init 44 (.newarray .int) 2 46 := ⟨by decide +kernel, rfl⟩
theorem e_X5_init_46 : zD cX5_init 46 (.putfield 27) 3 49 := ⟨by decide +kernel, rfl⟩
theorem e_X5_init_49 : zAL cX5_init 49 0 50 := .inl ⟨0, by decide +kernel, rfl, rfl⟩
theorem e_X5_init_50 : zAL cX5_init 50 1 51 := .inl ⟨1, by decide +kernel, rfl, rfl⟩
theorem e_X5_init_51 : zD cX5_init 51 (.putfield 30) 3 54 := ⟨by decide +kernel, rfl⟩
theorem e_X5_init_54 : decode cX5_init 54 = .ok (.return_, 1) := by decide +kernel
theorem e_X11_init_28 : zAS cX11_init 28 3 29 := .inl ⟨3, by decide +kernel, rfl, rfl⟩
theorem e_X11_init_29 : zD cX11_init 29 (.new 18) 3 32 := ⟨by decide +kernel, rfl⟩
theorem e_X11_init_32 : zD cX11_init 32 (.dup) 1 33 := ⟨by decide +kernel, rfl⟩
theorem e_X11_init_33 : zAL cX11_init 33 1 34 := .inl ⟨1, by decide +kernel, rfl, rfl⟩
theorem e_X11_init_34 : zAL cX11_init 34 2 35 := .inl ⟨2, by decide +kernel, rfl, rfl⟩
theorem e_X11_init_35 : zD cX11_init 35 (.invokespecial 20) 3 38 := ⟨by decide +kernel, rfl⟩
theorem e_X3_init_0 : zAL cX3_init 0 0 1 := .inl ⟨0, by decide +kernel, rfl, rfl⟩
theorem e_X3_init_1 : zD cX3_init 1 (.invokespecial 3) 3 4 := ⟨by decide +kernel, rfl⟩
theorem e_X3_init_4 : zAL cX3_init 4 0 5 := .inl ⟨0, by decide +kernel, rfl, rfl⟩
theorem e_X3_init_5 : zK cX3_init 5 9 7 := .inr (.inl ⟨9, by decide +kernel, by decide +kernel, rfl⟩)
theorem e_X3_init_7 : zD cX3_init 7 (.newarray .int) 2 9 := ⟨by decide +kernel, rfl⟩
theorem e_X3_init_9 : zD cX3_init 9 (.putfield 9) 3 12 := ⟨by decide +kernel, rfl⟩
theorem e_X3_init_12 : zAL cX3_init 12 0 13 := .inl ⟨0, by decide +kernel, rfl, rfl⟩
theorem e_X3_init_13 : zAL cX3_init 13 1 14 := .inl ⟨1, by decide +kernel, rfl, rfl⟩
theorem e_X3_init_14 : zD cX3_init 14 (.putfield 15) 3 17 := ⟨by decide +kernel, rfl⟩
theorem e_X3_init_17 : zAL cX3_init 17 0 18 := .inl ⟨0, by decide +kernel, rfl, rfl⟩
theorem e_X3_init_18 : zAL cX3_init 18 2 19 := .inl ⟨2, by decide +kernel, rfl, rfl⟩
theorem e_X3_init_19 : zD cX3_init 19 (.putfield 19) 3 22 := ⟨by decide +kernel, rfl⟩
theorem e_X3_init_22 : decode cX3_init 22 = .ok (.return_, 1) := by decide +kernel
theorem e_X11_init_38 : zAS cX11_init 38 4 40 := .inr ⟨by decide +kernel, rfl⟩
theorem e_X11_init_40 : zAL cX11_init 40 0 41 := .inl ⟨0, by decide +kernel, rfl, rfl⟩
theorem e_X11_init_41 : zAL cX11_init 41 1 42 := .inl ⟨1, by decide +kernel, rfl, rfl⟩
theorem e_X11_init_42 : zD cX11_init 42 (.putfield 23) 3 45 := ⟨by decide +kernel, rfl⟩
theorem e_X11_init_45 : zAL cX11_init 45 0 46 := .inl ⟨0, by decide +kernel, rfl, rfl⟩
theorem e_X11_init_46 : zD cX11_init 46 (.new 7) 3 49 := ⟨by decide +kernel, rfl⟩
theorem e_X11_init_49 : zD cX11_init 49 (.dup) 1 50 := ⟨by decide +kernel, rfl⟩
theorem e_X11_init_50 : zD cX11_init 50 (.invokespecial 9) 3 53 := ⟨by decide +kernel, rfl⟩
theorem e_X11_init_53 : zD cX11_init 53 (.putfield 29) 3 56 := ⟨by decide +kernel, rfl⟩
theorem e_X11_init_56 : zAL cX11_init 56 0 57 := .inl ⟨0, by decide +kernel, rfl, rfl⟩
theorem e_X11_init_57 : zK cX11_init 57 0 58 := .inl ⟨0, by decide +kernel, by decide +kernel, rfl⟩
theorem e_X11_init_58 : zD cX11_init 58 (.putfield 32) 3 61 := ⟨by decide +kernel, rfl⟩
theorem e_X11_init_61 : zAL cX11_init 61 0 62 := .inl ⟨0, by decide +kernel, rfl, rfl⟩
theorem e_X11_init_62 : zD cX11_init 62 (.new 36) 3 65 := ⟨by decide +kernel, rfl⟩
theorem e_X11_init_65 : zD cX11_init 65 (.dup) 1 66 := ⟨by decide +kernel, rfl⟩
theorem e_X11_init_66 : zD cX11_init 66 (.invokespecial 38) 3 69 := ⟨by decide +kernel, rfl⟩
theorem e_X8_init_0 : zAL cX8_init 0 0 1 := .inl ⟨0, by decide +kernel, rfl, rfl⟩
theorem e_X8_init_1 : zD cX8_init 1 (.invokespecial 3) 3 4 := ⟨by decide +kernel, rfl⟩
theorem e_X8_init_4 : zAL cX8_init 4 0 5 := .inl ⟨0, by decide +kernel, rfl, rfl⟩
theorem e_X8_init_5 : zK cX8_init 5 260 8 := .inr (.inr ⟨260, by decide +kernel, by decide +kernel, rfl⟩)
theorem e_X8_init_8 : zD cX8_init 8 (.newarray .int) 2 10 := ⟨by decide +kernel, rfl⟩
theorem e_X8_init_10 : zD cX8_init 10 (.putfield 11) 3 13 := ⟨by decide +kernel, rfl⟩
theorem e_X8_init_13 : decode cX8_init 13 = .ok (.return_, 1) := by decide +kernel
theorem e_X11_init_69 : zD cX11_init 69 (.putfield 39) 3 72 := ⟨by decide +kernel, rfl⟩
theorem e_X11_init_72 : zAL cX11_init 72 0 73 := .inl ⟨0, by decide +kernel, rfl, rfl⟩
theorem e_X11_init_73 : zAL cX11_init 73 2 74 := .inl ⟨2, by decide +kernel, rfl, rfl⟩
theorem e_X11_init_74 : zD cX11_init 74 (.putfield 43) 3 77 := ⟨by decide +kernel, rfl⟩
theorem e_X11_init_77 : zAL cX11_init 77 0 78 := .inl ⟨0, by decide +kernel, rfl, rfl⟩
theorem e_X11_init_78 : zD cX11_init 78 (.new 10) 3 81 := ⟨by decide +kernel, rfl⟩
theorem e_X11_init_81 : zD cX11_init 81 (.dup) 1 82 := ⟨by decide +kernel, rfl⟩
theorem e_X11_init_82 : zD cX11_init 82 (.invokespecial 12) 3 85 := ⟨by decide +kernel, rfl⟩
theorem e_X11_init_85 : zD cX11_init 85 (.putfield 47) 3 88 := ⟨by decide +kernel, rfl⟩
theorem e_X11_init_88 : zAL cX11_init 88 0 89 := .inl ⟨0, by decide +kernel, rfl, rfl⟩
theorem e_X11_init_89 : zAL cX11_init 89 3 90 := .inl ⟨3, by decide +kernel, rfl, rfl⟩
theorem e_X11_init_90 : zD cX11_init 90 (.putfield 50) 3 93 := ⟨by decide +kernel, rfl⟩
theorem e_X11_init_93 : zAL cX11_init 93 0 94 := .inl ⟨0, by decide +kernel, rfl, rfl⟩
theorem e_X11_init_94 : zD cX11_init 94 (.new 54) 3 97 := ⟨by decide +kernel, rfl⟩
theorem e_X11_init_97 : zD cX11_init 97 (.dup) 1 98 := ⟨by decide +kernel, rfl⟩
theorem e_X11_init_98 : zD cX11_init 98 (.invokespecial 56) 3 101 := ⟨by decide +kernel, rfl⟩
theorem e_X7_init_0 : zAL cX7_init 0 0 1 := .inl ⟨0, by decide +kernel, rfl, rfl⟩
theorem e_X7_init_1 : zD cX7_init 1 (.invokespecial 3) 3 4 := ⟨by decide +kernel, rfl⟩
theorem e_X7_init_4 : zAL cX7_init 4 0 5 := .inl ⟨0, by decide +kernel, rfl, rfl⟩
theorem e_X7_init_5 : zK cX7_init 5 32 7 := .inr (.inl ⟨32, by decide +kernel, by decide +kernel, rfl⟩)
theorem e_X7_init_7 : zD cX7_init 7 (.newarray .int) 2 9 := ⟨by decide +kernel, rfl⟩
theorem e_X7_init_9 : zD cX7_init 9 (.putfield 11) 3 12 := ⟨by decide +kernel, rfl⟩
theorem e_X7_init_12 : zAL cX7_init 12 0 13 := .inl ⟨0, by decide +kernel, rfl, rfl⟩
theorem e_X7_init_13 : zK cX7_init 13 32 15 := .inr (.inl ⟨32, by decide +kernel, by decide +kernel, rfl⟩)
theorem e_X7_init_15 : zD cX7_init 15 (.newarray .int) 2 17 := ⟨by decide +kernel, rfl⟩
theorem e_X7_init_17 : zD cX7_init 17 (.putfield 15) 3 20 := ⟨by decide +kernel, rfl⟩
theorem e_X7_init_20 : decode cX7_init 20 = .ok (.return_, 1) := by decide +kernel
theorem e_X11_init_101 : zD cX11_init 101 (.putfield 57) 3 104 := ⟨by decide +kernel, rfl⟩
theorem e_X11_init_104 : zAL cX11_init 104 0 105 := .inl ⟨0, by decide +kernel, rfl, rfl⟩
theorem e_X11_init_105 : zD cX11_init 105 (.new 61) 3 108 := ⟨by decide +kernel, rfl⟩
theorem e_X11_init_108 : zD cX11_init 108 (.dup) 1 109 := ⟨by decide +kernel, rfl⟩
theorem e_X11_init_109 : zAL cX11_init 109 3 110 := .inl ⟨3, by decide +kernel, rfl, rfl⟩
theorem e_X11_init_110 : zD cX11_init 110 (.invokespecial 63) 3 113 := ⟨by decide +kernel, rfl⟩
theorem e_X4_init_0 : zAL cX4_init 0 0 1 := .inl ⟨0, by decide +kernel, rfl, rfl⟩
theorem e_X4_init_1 : zD cX4_init 1 (.invokespecial 7) 3 4 := ⟨by decide +kernel, rfl⟩
theorem e_X4_init_4 : zAL cX4_init 4 0 5 := .inl ⟨0, by decide +kernel, rfl, rfl⟩
theorem e_X4_init_5 : zK cX4_init 5 27648 8 := .inr (.inr ⟨27648, by decide +kernel, by decide +kernel, rfl⟩)
theorem e_X4_init_8 : zD cX4_init 8 (.newarray .int) 2 10 := ⟨by decide +kernel, rfl⟩
theorem e_X4_init_10 : zD cX4_init 10 (.putfield 13) 3 13 := ⟨by decide +kernel, rfl⟩
theorem e_X4_init_13 : zAL cX4_init 13 0 14 := .inl ⟨0, by decide +kernel, rfl, rfl⟩
theorem e_X4_init_14 : zK cX4_init 14 16 16 := .inr (.inl ⟨16, by decide +kernel, by decide +kernel, rfl⟩)
theorem e_X4_init_16 : zD cX4_init 16 (.newarray .int) 2 18 := ⟨by decide +kernel, rfl⟩
theorem e_X4_init_18 : zD cX4_init 18 (.putfield 17) 3 21 := ⟨by decide +kernel, rfl⟩
theorem e_X4_init_21 : zAL cX4_init 21 0 22 := .inl ⟨0, by decide +kernel, rfl, rfl⟩
theorem e_X4_init_22 : zK cX4_init 22 4 23 := .inl ⟨4, by decide +kernel, by decide +kernel, rfl⟩
theorem e_X4_init_23 : zD cX4_init 23 (.newarray .int) 2 25 := ⟨by decide +kernel, rfl⟩
theorem e_X4_init_25 : zD cX4_init 25 (.putfield 20) 3 28 := ⟨by decide +kernel, rfl⟩
theorem e_X4_init_28 : zAL cX4_init 28 0 29 := .inl ⟨0, by decide +kernel, rfl, rfl⟩
theorem e_X4_init_29 : zK cX4_init 29 40 31 := .inr (.inl ⟨40, by decide +kernel, by decide +kernel, rfl⟩)
theorem e_X4_init_31 : zD cX4_init 31 (.newarray .int) 2 33 := ⟨by decide +kernel, rfl⟩
theorem e_X4_init_33 : zD cX4_init 33 (.putfield 23) 3 36 := ⟨by decide +kernel, rfl⟩
theorem e_X4_init_36 : zAL cX4_init 36 0 37 := .inl ⟨0, by decide +kernel, rfl, rfl⟩
theorem e_X4_init_37 : zK cX4_init 37 6 39 := .inr (.inl ⟨6, by decide +kernel, by decide +kernel, rfl⟩)
theorem e_X4_init_39 : zD cX4_init 39 (.newarray .int) 2 41 := ⟨by decide +kernel, rfl⟩
theorem e_X4_init_41 : zD cX4_init 41 (.putfield 26) 3 44 := ⟨by decide +kernel, rfl⟩
theorem e_X4_init_44 : zAL cX4_init 44 0 45 := .inl ⟨0, by decide +kernel, rfl, rfl⟩
theorem e_X4_init_45 : zK cX4_init 45 4 46 := .inl ⟨4, by decide +kernel, by decide +kernel, rfl⟩
theorem e_X4_init_46 : zD cX4_init 46 (.newarray .int) 2 48 := ⟨by decide +kernel, rfl⟩
theorem e_X4_init_48 : zD cX4_init 48 (.putfield 29) 3 51 := ⟨by decide +kernel, rfl⟩
theorem e_X4_init_51 : zAL cX4_init 51 0 52 := .inl ⟨0, by decide +kernel, rfl, rfl⟩
theorem e_X4_init_52 : zK cX4_init 52 4 53 := .inl ⟨4, by decide +kernel, by decide +kernel, rfl⟩
theorem e_X4_init_53 : zD cX4_init 53 (.newarray .int) 2 55 := ⟨by decide +kernel, rfl⟩
theorem e_X4_init_55 : zD cX4_init 55 (.putfield 32) 3 58 := ⟨by decide +kernel, rfl⟩
theorem e_X4_init_58 : zAL cX4_init 58 0 59 := .inl ⟨0, by decide +kernel, rfl, rfl⟩
theorem e_X4_init_59 : zK cX4_init 59 4 60 := .inl ⟨4, by decide +kernel, by decide +kernel, rfl⟩
theorem e_X4_init_60 : zD cX4_init 60 (.newarray .int) 2 62 := ⟨by decide +kernel, rfl⟩
theorem e_X4_init_62 : zD cX4_init 62 (.putfield 35) 3 65 := ⟨by decide +kernel, rfl⟩
theorem e_X4_init_65 : zAL cX4_init 65 0 66 := .inl ⟨0, by decide +kernel, rfl, rfl⟩
theorem e_X4_init_66 : zK cX4_init 66 4 67 := .inl ⟨4, by decide +kernel, by decide +kernel, rfl⟩
theorem e_X4_init_67 : zD cX4_init 67 (.newarray .int) 2 69 := ⟨by decide +kernel, rfl⟩
theorem e_X4_init_69 : zD cX4_init 69 (.putfield 38) 3 72 := ⟨by decide +kernel, rfl⟩
theorem e_X4_init_72 : zAL cX4_init 72 0 73 := .inl ⟨0, by decide +kernel, rfl, rfl⟩
theorem e_X4_init_73 : zAL cX4_init 73 1 74 := .inl ⟨1, by decide +kernel, rfl, rfl⟩
theorem e_X4_init_74 : zD cX4_init 74 (.putfield 41) 3 77 := ⟨by decide +kernel, rfl⟩
theorem e_X4_init_77 : decode cX4_init 77 = .ok (.return_, 1) := by decide +kernel
theorem e_X11_init_113 : zD cX11_init 113 (.putfield 66) 3 116 := ⟨by decide +kernel, rfl⟩
theorem e_X11_init_116 : zAL cX11_init 116 0 117 := .inl ⟨0, by decide +kernel, rfl, rfl⟩
theorem e_X11_init_117 : zAL cX11_init 117 4 119 := .inr ⟨by decide +kernel, rfl⟩
theorem e_X11_init_119 : zD cX11_init 119 (.putfield 70) 3 122 := ⟨by decide +kernel, rfl⟩
theorem e_X11_init_122 : zAL cX11_init 122 0 123 := .inl ⟨0, by decide +kernel, rfl, rfl⟩
theorem e_X11_init_123 : zD cX11_init 123 (.new 74) 3 126 := ⟨by decide +kernel, rfl⟩
theorem e_X11_init_126 : zD cX11_init 126 (.dup) 1 127 := ⟨by decide +kernel, rfl⟩
theorem e_X11_init_127 : zAL cX11_init 127 1 128 := .inl ⟨1, by decide +kernel, rfl, rfl⟩
theorem e_X11_init_128 : zAL cX11_init 128 2 129 := .inl ⟨2, by decide +kernel, rfl, rfl⟩
theorem e_X11_init_129 : zAL cX11_init 129 4 131 := .inr ⟨by decide +kernel, rfl⟩
theorem e_X11_init_131 : zD cX11_init 131 (.invokespecial 76) 3 134 := ⟨by decide +kernel, rfl⟩
theorem e_X6_init_0 : zAL cX6_init 0 0 1 := .inl ⟨0, by decide +kernel, rfl, rfl⟩
theorem e_X6_init_1 : zD cX6_init 1 (.invokespecial 3) 3 4 := ⟨by decide +kernel, rfl⟩
theorem e_X6_init_4 : zAL cX6_init 4 0 5 := .inl ⟨0, by decide +kernel, rfl, rfl⟩
theorem e_X6_init_5 : zK cX6_init 5 12 7 := .inr (.inl ⟨12, by decide +kernel, by decide +kernel, rfl⟩)
theorem e_X6_init_7 : zD cX6_init 7 (.newarray .int) 2 9 := ⟨by decide +kernel, rfl⟩
theorem e_X6_init_9 : zD cX6_init 9 (.putfield 9) 3 12 := ⟨by decide +kernel, rfl⟩
theorem e_X6_init_12 : zAL cX6_init 12 0 13 := .inl ⟨0, by decide +kernel, rfl, rfl⟩
theorem e_X6_init_13 : zK cX6_init 13 12 15 := .inr (.inl ⟨12, by decide +kernel, by decide +kernel, rfl⟩)
theorem e_X6_init_15 : zD cX6_init 15 (.newarray .int) 2 17 := ⟨by decide +kernel, rfl⟩
theorem e_X6_init_17 : zD cX6_init 17 (.putfield 15) 3 20 := ⟨by decide +kernel, rfl⟩
theorem e_X6_init_20 : zAL cX6_init 20 0 21 := .inl ⟨0, by decide +kernel, rfl, rfl⟩
theorem e_X6_init_21 : zK cX6_init 21 8 23 := .inr (.inl ⟨8, by decide +kernel, by decide +kernel, rfl⟩)
theorem e_X6_init_23 : zD cX6_init 23 (.newarray .long) 2 25 := ⟨by decide +kernel, rfl⟩
theorem e_X6_init_25 : zD cX6_init 25 (.putfield 18) 3 28 := ⟨by decide +kernel, rfl⟩
theorem e_X6_init_28 : zAL cX6_init 28 0 29 := .inl ⟨0, by decide +kernel, rfl, rfl⟩
theorem e_X6_init_29 : zK cX6_init 29 8 31 := .inr (.inl ⟨8, by decide +kernel, by decide +kernel, rfl⟩)
theorem e_X6_init_31 : zD cX6_init 31 (.newarray .long) 2 33 := ⟨by decide +kernel, rfl⟩
theorem e_X6_init_33 : zD cX6_init 33 (.putfield 22) 3 36 := ⟨by decide +kernel, rfl⟩
theorem e_X6_init_36 : zAL cX6_init 36 0 37 := .inl ⟨0, by decide +kernel, rfl, rfl⟩
theorem e_X6_init_37 : zK cX6_init 37 64 39 := .inr (.inl ⟨64, by decide +kernel, by decide +kernel, rfl⟩)
theorem e_X6_init_39 : zD cX6_init 39 (.newarray .long) 2 41 := ⟨by decide +kernel, rfl⟩
theorem e_X6_init_41 : zD cX6_init 41 (.putfield 25) 3 44 := ⟨by decide +kernel, rfl⟩
theorem e_X6_init_44 : zAL cX6_init 44 0 45 := .inl ⟨0, by decide +kernel, rfl, rfl⟩
theorem e_X6_init_45 : zAL cX6_init 45 1 46 := .inl ⟨1, by decide +kernel, rfl, rfl⟩
theorem e_X6_init_46 : zD cX6_init 46 (.putfield 28) 3 49 := ⟨by decide +kernel, rfl⟩
theorem e_X6_init_49 : zAL cX6_init 49 0 50 := .inl ⟨0, by decide +kernel, rfl, rfl⟩
theorem e_X6_init_50 : zAL cX6_init 50 2 51 := .inl ⟨2, by decide +kernel, rfl, rfl⟩
theorem e_X6_init_51 : zD cX6_init 51 (.putfield 32) 3 54 := ⟨by decide +kernel, rfl⟩
theorem e_X6_init_54 : zAL cX6_init 54 0 55 := .inl ⟨0, by decide +kernel, rfl, rfl⟩
theorem e_X6_init_55 : zAL cX6_init 55 3 56 := .inl ⟨3, by decide +kernel, rfl, rfl⟩
theorem e_X6_init_56 : zD cX6_init 56 (.putfield 36) 3 59 := ⟨by decide +kernel, rfl⟩
theorem e_X6_init_59 : decode cX6_init 59 = .ok (.return_, 1) := by decide +kernel
theorem e_X11_init_134 : zD cX11_init 134 (.putfield 79) 3 137 := ⟨by decide +kernel, rfl⟩
theorem e_X11_init_137 : zAL cX11_init 137 0 138 := .inl ⟨0, by decide +kernel, rfl, rfl⟩
theorem e_X11_init_138 : zD cX11_init 138 (.new 83) 3 141 := ⟨by decide +kernel, rfl⟩
theorem e_X11_init_141 : zD cX11_init 141 (.dup) 1 142 := ⟨by decide +kernel, rfl⟩
theorem e_X11_init_142 : zD cX11_init 142 (.invokespecial 85) 3 145 := ⟨by decide +kernel, rfl⟩
theorem e_X2_init_0 : zAL cX2_init 0 0 1 := .inl ⟨0, by decide +kernel, rfl, rfl⟩
theorem e_X2_init_1 : zD cX2_init 1 (.invokespecial 1) 3 4 := ⟨by decide +kernel, rfl⟩
theorem e_X2_init_4 : zAL cX2_init 4 0 5 := .inl ⟨0, by decide +kernel, rfl, rfl⟩
theorem e_X2_init_5 : zK cX2_init 5 6 7 := .inr (.inl ⟨6, by decide +kernel, by decide +kernel, rfl⟩)
theorem e_X2_init_7 : zD cX2_init 7 (.newarray .int) 2 9 := ⟨by decide +kernel, rfl⟩
theorem e_X2_init_9 : zD cX2_init 9 (.putfield 9) 3 12 := ⟨by decide +kernel, rfl⟩
theorem e_X2_init_12 : decode cX2_init 12 = .ok (.return_, 1) := by decide +kernel
theorem e_X11_init_145 : zD cX11_init 145 (.putfield 86) 3 148 := ⟨by decide +kernel, rfl⟩
theorem e_X11_init_148 : zAL cX11_init 148 0 149 := .inl ⟨0, by decide +kernel, rfl, rfl⟩
theorem e_X11_init_149 : zD cX11_init 149 (.new 90) 3 152 := ⟨by decide +kernel, rfl⟩
theorem e_X11_init_152 : zD cX11_init 152 (.dup) 1 153 := ⟨by decide +kernel, rfl⟩
theorem e_X11_init_153 : zD cX11_init 153 (.invokespecial 92) 3 156 := ⟨by decide +kernel, rfl⟩
theorem e_X0_init_0 : zAL cX0_init 0 0 1 := .inl ⟨0, by decide +kernel, rfl, rfl⟩
theorem e_X0_init_1 : zD cX0_init 1 (.invokespecial 3) 3 4 := ⟨by decide +kernel, rfl⟩
theorem e_X0_init_4 : zAL cX0_init 4 0 5 := .inl ⟨0, by decide +kernel, rfl, rfl⟩
theorem e_X0_init_5 : zK cX0_init 5 6 7 := .inr (.inl ⟨6, by decide +kernel, by decide +kernel, rfl⟩)
theorem e_X0_init_7 : zD cX0_init 7 (.newarray .int) 2 9 := ⟨by decide +kernel, rfl⟩
theorem e_X0_init_9 : zD cX0_init 9 (.putfield 11) 3 12 := ⟨by decide +kernel, rfl⟩
theorem e_X0_init_12 : decode cX0_init 12 = .ok (.return_, 1) := by decide +kernel
theorem e_X11_init_156 : zD cX11_init 156 (.putfield 93) 3 159 := ⟨by decide +kernel, rfl⟩
theorem e_X11_init_159 : zAL cX11_init 159 0 160 := .inl ⟨0, by decide +kernel, rfl, rfl⟩
theorem e_X11_init_160 : zD cX11_init 160 (.new 97) 3 163 := ⟨by decide +kernel, rfl⟩
theorem e_X11_init_163 : zD cX11_init 163 (.dup) 1 164 := ⟨by decide +kernel, rfl⟩
theorem e_X11_init_164 : zD cX11_init 164 (.invokespecial 99) 3 167 := ⟨by decide +kernel, rfl⟩
theorem e_X9_init_0 : zAL cX9_init 0 0 1 := .inl ⟨0, by decide +kernel, rfl, rfl⟩
theorem e_X9_init_1 : zD cX9_init 1 (.invokespecial 3) 3 4 := ⟨by decide +kernel, rfl⟩
theorem e_X9_init_4 : zAL cX9_init 4 0 5 := .inl ⟨0, by decide +kernel, rfl, rfl⟩
theorem e_X9_init_5 : zK cX9_init 5 12 7 := .inr (.inl ⟨12, by decide +kernel, by decide +kernel, rfl⟩)
theorem e_X9_init_7 : zD cX9_init 7 (.newarray .int) 2 9 := ⟨by decide +kernel, rfl⟩
theorem e_X9_init_9 : zD cX9_init 9 (.putfield 11) 3 12 := ⟨by decide +kernel, rfl⟩
theorem e_X9_init_12 : zK cX9_init 12 0 13 := .inl ⟨0, by decide +kernel, by decide +kernel, rfl⟩
theorem e_X9_init_13 : zIS cX9_init 13 1 14 := .inl ⟨1, by decide +kernel, rfl, rfl⟩
theorem e_X9_init_14 : zIL cX9_init 14 1 15 := .inl ⟨1, by decide +kernel, rfl, rfl⟩
theorem e_X9_init_15 : zK cX9_init 15 12 17 := .inr (.inl ⟨12, by decide +kernel, by decide +kernel, rfl⟩)
theorem e_X9_init_17 : zB cX9_init 17 (.if_icmp .ge 16) 16 33 20 := ⟨by decide +kernel, by decide, rfl⟩
theorem e_X9_init_20 : zAL cX9_init 20 0 21 := .inl ⟨0, by decide +kernel, rfl, rfl⟩
theorem e_X9_init_21 : zD cX9_init 21 (.getfield 11) 3 24 := ⟨by decide +kernel, rfl⟩
theorem e_X9_init_24 : zIL cX9_init 24 1 25 := .inl ⟨1, by decide +kernel, rfl, rfl⟩
theorem e_X9_init_25 : zK cX9_init 25 (-1) 26 := .inl ⟨(-1), by decide +kernel, by decide +kernel, rfl⟩
theorem e_X9_init_26 : zD cX9_init 26 (.iastore) 1 27 := ⟨by decide +kernel, rfl⟩
theorem e_X9_init_27 : zD cX9_init 27 (.iinc 1 1) 3 30 := ⟨by decide +kernel, rfl⟩
theorem e_X9_init_30 : zB cX9_init 30 (.goto (-16)) (-16) 14 33 := ⟨by decide +kernel, by decide, rfl⟩
theorem e_X9_init_33 : decode cX9_init 33 = .ok (.return_, 1) := by decide +kernel
theorem e_X11_init_167 : zD cX11_init 167 (.putfield 100) 3 170 := ⟨by decide +kernel, rfl⟩
theorem e_X11_init_170 : decode cX11_init 170 = .ok (.return_, 1) := by decide +kernel
theorem e_L_law_7 : zAS cL_law 7 1 8 := .inl ⟨1, by decide +kernel, rfl, rfl⟩
theorem e_L_law_8 : zD cL_law 8 (.new 10) 3 11 := ⟨by decide +kernel, rfl⟩
theorem e_L_law_11 : zD cL_law 11 (.dup) 1 12 := ⟨by decide +kernel, rfl⟩
theorem e_L_law_12 : zD cL_law 12 (.invokespecial 12) 3 15 := ⟨by decide +kernel, rfl⟩
theorem e_X12_init_0 : zAL cX12_init 0 0 1 := .inl ⟨0, by decide +kernel, rfl, rfl⟩
theorem e_X12_init_1 : zD cX12_init 1 (.invokespecial 1) 3 4 := ⟨by decide +kernel, rfl⟩
theorem e_X12_init_4 : zAL cX12_init 4 0 5 := .inl ⟨0, by decide +kernel, rfl, rfl⟩
theorem e_X12_init_5 : zK cX12_init 5 16 7 := .inr (.inl ⟨16, by decide +kernel, by decide +kernel, rfl⟩)
theorem e_X12_init_7 : zD cX12_init 7 (.newarray .int) 2 9 := ⟨by decide +kernel, rfl⟩
theorem e_X12_init_9 : zD cX12_init 9 (.putfield 7) 3 12 := ⟨by decide +kernel, rfl⟩
theorem e_X12_init_12 : zAL cX12_init 12 0 13 := .inl ⟨0, by decide +kernel, rfl, rfl⟩
theorem e_X12_init_13 : zK cX12_init 13 8 15 := .inr (.inl ⟨8, by decide +kernel, by decide +kernel, rfl⟩)
theorem e_X12_init_15 : zD cX12_init 15 (.newarray .int) 2 17 := ⟨by decide +kernel, rfl⟩
theorem e_X12_init_17 : zD cX12_init 17 (.putfield 13) 3 20 := ⟨by decide +kernel, rfl⟩
theorem e_X12_init_20 : zAL cX12_init 20 0 21 := .inl ⟨0, by decide +kernel, rfl, rfl⟩
theorem e_X12_init_21 : zK cX12_init 21 8 23 := .inr (.inl ⟨8, by decide +kernel, by decide +kernel, rfl⟩)
theorem e_X12_init_23 : zD cX12_init 23 (.newarray .int) 2 25 := ⟨by decide +kernel, rfl⟩
theorem e_X12_init_25 : zD cX12_init 25 (.putfield 16) 3 28 := ⟨by decide +kernel, rfl⟩
theorem e_X12_init_28 : zAL cX12_init 28 0 29 := .inl ⟨0, by decide +kernel, rfl, rfl⟩
theorem e_X12_init_29 : zK cX12_init 29 8 31 := .inr (.inl ⟨8, by decide +kernel, by decide +kernel, rfl⟩)
theorem e_X12_init_31 : zD cX12_init 31 (.newarray .int) 2 33 := ⟨by decide +kernel, rfl⟩
theorem e_X12_init_33 : zD cX12_init 33 (.putfield 19) 3 36 := ⟨by decide +kernel, rfl⟩
theorem e_X12_init_36 : zAL cX12_init 36 0 37 := .inl ⟨0, by decide +kernel, rfl, rfl⟩
theorem e_X12_init_37 : zK cX12_init 37 8 39 := .inr (.inl ⟨8, by decide +kernel, by decide +kernel, rfl⟩)
theorem e_X12_init_39 : zD cX12_init 39 (.newarray .int) 2 41 := ⟨by decide +kernel, rfl⟩
theorem e_X12_init_41 : zD cX12_init 41 (.putfield 22) 3 44 := ⟨by decide +kernel, rfl⟩
theorem e_X12_init_44 : zAL cX12_init 44 0 45 := .inl ⟨0, by decide +kernel, rfl, rfl⟩
theorem e_X12_init_45 : zK cX12_init 45 8 47 := .inr (.inl ⟨8, by decide +kernel, by decide +kernel, rfl⟩)
theorem e_X12_init_47 : zD cX12_init 47 (.newarray .int) 2 49 := ⟨by decide +kernel, rfl⟩
theorem e_X12_init_49 : zD cX12_init 49 (.putfield 25) 3 52 := ⟨by decide +kernel, rfl⟩
theorem e_X12_init_52 : zAL cX12_init 52 0 53 := .inl ⟨0, by decide +kernel, rfl, rfl⟩
theorem e_X12_init_53 : zK cX12_init 53 260 56 := .inr (.inr ⟨260, by decide +kernel, by decide +kernel, rfl⟩)
theorem e_X12_init_56 : zD cX12_init 56 (.newarray .byte) 2 58 := ⟨by decide +kernel, rfl⟩
theorem e_X12_init_58 : zD cX12_init 58 (.putfield 28) 3 61 := ⟨by decide +kernel, rfl⟩
theorem e_X12_init_61 : zAL cX12_init 61 0 62 := .inl ⟨0, by decide +kernel, rfl, rfl⟩
theorem e_X12_init_62 : zK cX12_init 62 260 65 := .inr (.inr ⟨260, by decide +kernel, by decide +kernel, rfl⟩)
theorem e_X12_init_65 : zD cX12_init 65 (.newarray .int) 2 67 := ⟨by decide +kernel, rfl⟩
theorem e_X12_init_67 : zD cX12_init 67 (.putfield 32) 3 70 := ⟨by decide +kernel, rfl⟩
theorem e_X12_init_70 : zAL cX12_init 70 0 71 := .inl ⟨0, by decide +kernel, rfl, rfl⟩
theorem e_X12_init_71 : zK cX12_init 71 260 74 := .inr (.inr ⟨260, by decide +kernel, by decide +kernel, rfl⟩)
theorem e_X12_init_74 : zD cX12_init 74 (.newarray .int) 2 76 := ⟨by decide +kernel, rfl⟩
theorem e_X12_init_76 : zD cX12_init 76 (.putfield 35) 3 79 := ⟨by decide +kernel, rfl⟩
theorem e_X12_init_79 : zAL cX12_init 79 0 80 := .inl ⟨0, by decide +kernel, rfl, rfl⟩
theorem e_X12_init_80 : zK cX12_init 80 16 82 := .inr (.inl ⟨16, by decide +kernel, by decide +kernel, rfl⟩)
theorem e_X12_init_82 : zD cX12_init 82 (.newarray .int) 2 84 := ⟨by decide +kernel, rfl⟩
theorem e_X12_init_84 : zD cX12_init 84 (.putfield 38) 3 87 := ⟨by decide +kernel, rfl⟩
theorem e_X12_init_87 : zAL cX12_init 87 0 88 := .inl ⟨0, by decide +kernel, rfl, rfl⟩
theorem e_X12_init_88 : zK cX12_init 88 16 90 := .inr (.inl ⟨16, by decide +kernel, by decide +kernel, rfl⟩)
theorem e_X12_init_90 : zD cX12_init 90 (.newarray .int) 2 92 := ⟨by decide +kernel, rfl⟩
theorem e_X12_init_92 : zD cX12_init 92 (.putfield 41) 3 95 := ⟨by decide +kernel, rfl⟩
theorem e_X12_init_95 : zAL cX12_init 95 0 96 := .inl ⟨0, by decide +kernel, rfl, rfl⟩
theorem e_X12_init_96 : zK cX12_init 96 16 98 := .inr (.inl ⟨16, by decide +kernel, by decide +kernel, rfl⟩)
theorem e_X12_init_98 : zD cX12_init 98 (.newarray .int) 2 100 := ⟨by decide +kernel, rfl⟩
theorem e_X12_init_100 : zD cX12_init 100 (.putfield 44) 3 103 := ⟨by decide +kernel, rfl⟩
theorem e_X12_init_103 : zAL cX12_init 103 0 104 := .inl ⟨0, by decide +kernel, rfl, rfl⟩
theorem e_X12_init_104 : zK cX12_init 104 16 106 := .inr (.inl ⟨16, by decide +kernel, by decide +kernel, rfl⟩)
theorem e_X12_init_106 : zD cX12_init 106 (.newarray .int) 2 108 := ⟨by decide +kernel, rfl⟩
theorem e_X12_init_108 : zD cX12_init 108 (.putfield 47) 3 111 := ⟨by decide +kernel, rfl⟩
theorem e_X12_init_111 : zAL cX12_init 111 0 112 := .inl ⟨0, by decide +kernel, rfl, rfl⟩
theorem e_X12_init_112 : zK cX12_init 112 260 115 := .inr (.inr ⟨260, by decide +kernel, by decide +kernel, rfl⟩)
theorem e_X12_init_115 : zD cX12_init 115 (.newarray .int) 2 117 := ⟨by decide +kernel, rfl⟩
theorem e_X12_init_117 : zD cX12_init 117 (.putfield 50) 3 120 := ⟨by decide +kernel, rfl⟩
theorem e_X12_init_120 : zAL cX12_init 120 0 121 := .inl ⟨0, by decide +kernel, rfl, rfl⟩
theorem e_X12_init_121 : zK cX12_init 121 16 123 := .inr (.inl ⟨16, by decide +kernel, by decide +kernel, rfl⟩)
theorem e_X12_init_123 : zD cX12_init 123 (.newarray .int) 2 125 := ⟨by decide +kernel, rfl⟩
theorem e_X12_init_125 : zD cX12_init 125 (.putfield 53) 3 128 := ⟨by decide +kernel, rfl⟩
theorem e_X12_init_128 : zAL cX12_init 128 0 129 := .inl ⟨0, by decide +kernel, rfl, rfl⟩
theorem e_X12_init_129 : zK cX12_init 129 16 131 := .inr (.inl ⟨16, by decide +kernel, by decide +kernel, rfl⟩)
theorem e_X12_init_131 : zD cX12_init 131 (.newarray .int) 2 133 := ⟨by decide +kernel, rfl⟩
theorem e_X12_init_133 : zD cX12_init 133 (.putfield 56) 3 136 := ⟨by decide +kernel, rfl⟩
theorem e_X12_init_136 : zAL cX12_init 136 0 137 := .inl ⟨0, by decide +kernel, rfl, rfl⟩
theorem e_X12_init_137 : zK cX12_init 137 16 139 := .inr (.inl ⟨16, by decide +kernel, by decide +kernel, rfl⟩)
theorem e_X12_init_139 : zD cX12_init 139 (.newarray .int) 2 141 := ⟨by decide +kernel, rfl⟩
theorem e_X12_init_141 : zD cX12_init 141 (.putfield 59) 3 144 := ⟨by decide +kernel, rfl⟩
theorem e_X12_init_144 : zAL cX12_init 144 0 145 := .inl ⟨0, by decide +kernel, rfl, rfl⟩
theorem e_X12_init_145 : zK cX12_init 145 16 147 := .inr (.inl ⟨16, by decide +kernel, by decide +kernel, rfl⟩)
theorem e_X12_init_147 : zD cX12_init 147 (.newarray .int) 2 149 := ⟨by decide +kernel, rfl⟩
theorem e_X12_init_149 : zD cX12_init 149 (.putfield 62) 3 152 := ⟨by decide +kernel, rfl⟩
theorem e_X12_init_152 : zAL cX12_init 152 0 153 := .inl ⟨0, by decide +kernel, rfl, rfl⟩
theorem e_X12_init_153 : zK cX12_init 153 260 156 := .inr (.inr ⟨260, by decide +kernel, by decide +kernel, rfl⟩)
theorem e_X12_init_156 : zD cX12_init 156 (.newarray .int) 2 158 := ⟨by decide +kernel, rfl⟩
theorem e_X12_init_158 : zD cX12_init 158 (.putfield 65) 3 161 := ⟨by decide +kernel, rfl⟩
theorem e_X12_init_161 : zAL cX12_init 161 0 162 := .inl ⟨0, by decide +kernel, rfl, rfl⟩
theorem e_X12_init_162 : zK cX12_init 162 9 164 := .inr (.inl ⟨9, by decide +kernel, by decide +kernel, rfl⟩)
theorem e_X12_init_164 : zD cX12_init 164 (.newarray .int) 2 166 := ⟨by decide +kernel, rfl⟩
theorem e_X12_init_166 : zD cX12_init 166 (.putfield 68) 3 169 := ⟨by decide +kernel, rfl⟩
theorem e_X12_init_169 : zAL cX12_init 169 0 170 := .inl ⟨0, by decide +kernel, rfl, rfl⟩
theorem e_X12_init_170 : zK cX12_init 170 32 172 := .inr (.inl ⟨32, by decide +kernel, by decide +kernel, rfl⟩)
theorem e_X12_init_172 : zD cX12_init 172 (.newarray .int) 2 174 := ⟨by decide +kernel, rfl⟩
theorem e_X12_init_174 : zD cX12_init 174 (.putfield 71) 3 177 := ⟨by decide +kernel, rfl⟩
theorem e_X12_init_177 : zAL cX12_init 177 0 178 := .inl ⟨0, by decide +kernel, rfl, rfl⟩
theorem e_X12_init_178 : zK cX12_init 178 32 180 := .inr (.inl ⟨32, by decide +kernel, by decide +kernel, rfl⟩)
theorem e_X12_init_180 : zD cX12_init 180 (.newarray .int) 2 182 := ⟨by decide +kernel, rfl⟩
theorem e_X12_init_182 : zD cX12_init 182 (.putfield 74) 3 185 := ⟨by decide +kernel, rfl⟩
theorem e_X12_init_185 : zAL cX12_init 185 0 186 := .inl ⟨0, by decide +kernel, rfl, rfl⟩
theorem e_X12_init_186 : zK cX12_init 186 27648 189 := .inr (.inr ⟨27648, by decide +kernel, by decide +kernel, rfl⟩)
theorem e_X12_init_189 : zD cX12_init 189 (.newarray .int) 2 191 := ⟨by decide +kernel, rfl⟩
theorem e_X12_init_191 : zD cX12_init 191 (.putfield 77) 3 194 := ⟨by decide +kernel, rfl⟩
theorem e_X12_init_194 : zAL cX12_init 194 0 195 := .inl ⟨0, by decide +kernel, rfl, rfl⟩
theorem e_X12_init_195 : zK cX12_init 195 8 197 := .inr (.inl ⟨8, by decide +kernel, by decide +kernel, rfl⟩)
theorem e_X12_init_197 : zD cX12_init 197 (.newarray .int) 2 199 := ⟨by decide +kernel, rfl⟩
theorem e_X12_init_199 : zD cX12_init 199 (.putfield 80) 3 202 := ⟨by decide +kernel, rfl⟩
theorem e_X12_init_202 : zAL cX12_init 202 0 203 := .inl ⟨0, by decide +kernel, rfl, rfl⟩
theorem e_X12_init_203 : zK cX12_init 203 3 204 := .inl ⟨3, by decide +kernel, by decide +kernel, rfl⟩
theorem e_X12_init_204 : zD cX12_init 204 (.newarray .int) 2 206 := ⟨by decide +kernel, rfl⟩
theorem e_X12_init_206 : zD cX12_init 206 (.putfield 83) 3 209 := ⟨by decide +kernel, rfl⟩
theorem e_X12_init_209 : zAL cX12_init 209 0 210 := .inl ⟨0, by decide +kernel, rfl, rfl⟩
theorem e_X12_init_210 : zK cX12_init 210 8 212 := .inr (.inl ⟨8, by decide +kernel, by decide +kernel, rfl⟩)
theorem e_X12_init_212 : zD cX12_init 212 (.newarray .int) 2 214 := ⟨by decide +kernel, rfl⟩
theorem e_X12_init_214 : zD cX12_init 214 (.putfield 86) 3 217 := ⟨by decide +kernel, rfl⟩
theorem e_X12_init_217 : zAL cX12_init 217 0 218 := .inl ⟨0, by decide +kernel, rfl, rfl⟩
theorem e_X12_init_218 : zK cX12_init 218 4 219 := .inl ⟨4, by decide +kernel, by decide +kernel, rfl⟩
theorem e_X12_init_219 : zD cX12_init 219 (.newarray .int) 2 221 := ⟨by decide +kernel, rfl⟩
theorem e_X12_init_221 : zD cX12_init 221 (.putfield 89) 3 224 := ⟨by decide +kernel, rfl⟩
theorem e_X12_init_224 : zAL cX12_init 224 0 225 := .inl ⟨0, by decide +kernel, rfl, rfl⟩
theorem e_X12_init_225 : zK cX12_init 225 4 226 := .inl ⟨4, by decide +kernel, by decide +kernel, rfl⟩
theorem e_X12_init_226 : zD cX12_init 226 (.newarray .int) 2 228 := ⟨by decide +kernel, rfl⟩
theorem e_X12_init_228 : zD cX12_init 228 (.putfield 92) 3 231 := ⟨by decide +kernel, rfl⟩
theorem e_X12_init_231 : zAL cX12_init 231 0 232 := .inl ⟨0, by decide +kernel, rfl, rfl⟩
theorem e_X12_init_232 : zK cX12_init 232 4 233 := .inl ⟨4, by decide +kernel, by decide +kernel, rfl⟩
theorem e_X12_init_233 : zD cX12_init 233 (.newarray .int) 2 235 := ⟨by decide +kernel, rfl⟩
theorem e_X12_init_235 : zD cX12_init 235 (.putfield 95) 3 238 := ⟨by decide +kernel, rfl⟩
theorem e_X12_init_238 : zAL cX12_init 238 0 239 := .inl ⟨0, by decide +kernel, rfl, rfl⟩
theorem e_X12_init_239 : zK cX12_init 239 12 241 := .inr (.inl ⟨12, by decide +kernel, by decide +kernel, rfl⟩)
theorem e_X12_init_241 : zD cX12_init 241 (.newarray .int) 2 243 := ⟨by decide +kernel, rfl⟩
theorem e_X12_init_243 : zD cX12_init 243 (.putfield 98) 3 246 := ⟨by decide +kernel, rfl⟩
theorem e_X12_init_246 : zAL cX12_init 246 0 247 := .inl ⟨0, by decide +kernel, rfl, rfl⟩
theorem e_X12_init_247 : zK cX12_init 247 12 249 := .inr (.inl ⟨12, by decide +kernel, by decide +kernel, rfl⟩)
theorem e_X12_init_249 : zD cX12_init 249 (.newarray .int) 2 251 := ⟨by decide +kernel, rfl⟩
theorem e_X12_init_251 : zD cX12_init 251 (.putfield 101) 3 254 := ⟨by decide +kernel, rfl⟩
theorem e_X12_init_254 : zAL cX12_init 254 0 255 := .inl ⟨0, by decide +kernel, rfl, rfl⟩
theorem e_X12_init_255 : zK cX12_init 255 8 257 := .inr (.inl ⟨8, by decide +kernel, by decide +kernel, rfl⟩)
theorem e_X12_init_257 : zD cX12_init 257 (.newarray .long) 2 259 := ⟨by decide +kernel, rfl⟩
theorem e_X12_init_259 : zD cX12_init 259 (.putfield 104) 3 262 := ⟨by decide +kernel, rfl⟩
theorem e_X12_init_262 : zAL cX12_init 262 0 263 := .inl ⟨0, by decide +kernel, rfl, rfl⟩
theorem e_X12_init_263 : zK cX12_init 263 64 265 := .inr (.inl ⟨64, by decide +kernel, by decide +kernel, rfl⟩)
theorem e_X12_init_265 : zD cX12_init 265 (.newarray .long) 2 267 := ⟨by decide +kernel, rfl⟩
theorem e_X12_init_267 : zD cX12_init 267 (.putfield 108) 3 270 := ⟨by decide +kernel, rfl⟩
theorem e_X12_init_270 : zAL cX12_init 270 0 271 := .inl ⟨0, by decide +kernel, rfl, rfl⟩
theorem e_X12_init_271 : zK cX12_init 271 6 273 := .inr (.inl ⟨6, by decide +kernel, by decide +kernel, rfl⟩)
theorem e_X12_init_273 : zD cX12_init 273 (.newarray .int) 2 275 := ⟨by decide +kernel, rfl⟩
theorem e_X12_init_275 : zD cX12_init 275 (.putfield 111) 3 278 := ⟨by decide +kernel, rfl⟩
theorem e_X12_init_278 : zAL cX12_init 278 0 279 := .inl ⟨0, by decide +kernel, rfl, rfl⟩
theorem e_X12_init_279 : zK cX12_init 279 12 281 := .inr (.inl ⟨12, by decide +kernel, by decide +kernel, rfl⟩)
theorem e_X12_init_281 : zD cX12_init 281 (.newarray .int) 2 283 := ⟨by decide +kernel, rfl⟩
theorem e_X12_init_283 : zD cX12_init 283 (.putfield 114) 3 286 := ⟨by decide +kernel, rfl⟩
theorem e_X12_init_286 : zAL cX12_init 286 0 287 := .inl ⟨0, by decide +kernel, rfl, rfl⟩
theorem e_X12_init_287 : zK cX12_init 287 16 289 := .inr (.inl ⟨16, by decide +kernel, by decide +kernel, rfl⟩)
theorem e_X12_init_289 : zD cX12_init 289 (.newarray .int) 2 291 := ⟨by decide +kernel, rfl⟩
theorem e_X12_init_291 : zD cX12_init 291 (.putfield 117) 3 294 := ⟨by decide +kernel, rfl⟩
theorem e_X12_init_294 : zAL cX12_init 294 0 295 := .inl ⟨0, by decide +kernel, rfl, rfl⟩
theorem e_X12_init_295 : zK cX12_init 295 8 297 := .inr (.inl ⟨8, by decide +kernel, by decide +kernel, rfl⟩)
theorem e_X12_init_297 : zD cX12_init 297 (.newarray .int) 2 299 := ⟨by decide +kernel, rfl⟩
theorem e_X12_init_299 : zD cX12_init 299 (.putfield 120) 3 302 := ⟨by decide +kernel, rfl⟩
theorem e_X12_init_302 : zAL cX12_init 302 0 303 := .inl ⟨0, by decide +kernel, rfl, rfl⟩
theorem e_X12_init_303 : zK cX12_init 303 8 305 := .inr (.inl ⟨8, by decide +kernel, by decide +kernel, rfl⟩)
theorem e_X12_init_305 : zD cX12_init 305 (.newarray .int) 2 307 := ⟨by decide +kernel, rfl⟩
theorem e_X12_init_307 : zD cX12_init 307 (.putfield 123) 3 310 := ⟨by decide +kernel, rfl⟩
theorem e_X12_init_310 : zAL cX12_init 310 0 311 := .inl ⟨0, by decide +kernel, rfl, rfl⟩
theorem e_X12_init_311 : zK cX12_init 311 8 313 := .inr (.inl ⟨8, by decide +kernel, by decide +kernel, rfl⟩)
theorem e_X12_init_313 : zD cX12_init 313 (.newarray .int) 2 315 := ⟨by decide +kernel, rfl⟩
theorem e_X12_init_315 : zD cX12_init 315 (.putfield 126) 3 318 := ⟨by decide +kernel, rfl⟩
theorem e_X12_init_318 : zAL cX12_init 318 0 319 := .inl ⟨0, by decide +kernel, rfl, rfl⟩
theorem e_X12_init_319 : zK cX12_init 319 8 321 := .inr (.inl ⟨8, by decide +kernel, by decide +kernel, rfl⟩)
theorem e_X12_init_321 : zD cX12_init 321 (.newarray .int) 2 323 := ⟨by decide +kernel, rfl⟩
theorem e_X12_init_323 : zD cX12_init 323 (.putfield 129) 3 326 := ⟨by decide +kernel, rfl⟩
theorem e_X12_init_326 : zAL cX12_init 326 0 327 := .inl ⟨0, by decide +kernel, rfl, rfl⟩
theorem e_X12_init_327 : zK cX12_init 327 8 329 := .inr (.inl ⟨8, by decide +kernel, by decide +kernel, rfl⟩)
theorem e_X12_init_329 : zD cX12_init 329 (.newarray .int) 2 331 := ⟨by decide +kernel, rfl⟩
theorem e_X12_init_331 : zD cX12_init 331 (.putfield 132) 3 334 := ⟨by decide +kernel, rfl⟩
theorem e_X12_init_334 : zAL cX12_init 334 0 335 := .inl ⟨0, by decide +kernel, rfl, rfl⟩
theorem e_X12_init_335 : zK cX12_init 335 1 336 := .inl ⟨1, by decide +kernel, by decide +kernel, rfl⟩
theorem e_X12_init_336 : zD cX12_init 336 (.putfield 135) 3 339 := ⟨by decide +kernel, rfl⟩
theorem e_X12_init_339 : zAL cX12_init 339 0 340 := .inl ⟨0, by decide +kernel, rfl, rfl⟩
theorem e_X12_init_340 : zK cX12_init 340 8 342 := .inr (.inl ⟨8, by decide +kernel, by decide +kernel, rfl⟩)
theorem e_X12_init_342 : zD cX12_init 342 (.putfield 139) 3 345 := ⟨by decide +kernel, rfl⟩
theorem e_X12_init_345 : zAL cX12_init 345 0 346 := .inl ⟨0, by decide +kernel, rfl, rfl⟩
theorem e_X12_init_346 : zK cX12_init 346 8 348 := .inr (.inl ⟨8, by decide +kernel, by decide +kernel, rfl⟩)
theorem e_X12_init_348 : zD cX12_init 348 (.putfield 142) 3 351 := ⟨by decide +kernel, rfl⟩
theorem e_X12_init_351 : zK cX12_init 351 0 352 := .inl ⟨0, by decide +kernel, by decide +kernel, rfl⟩
theorem e_X12_init_352 : zIS cX12_init 352 1 353 := .inl ⟨1, by decide +kernel, rfl, rfl⟩
theorem e_X12_init_353 : zIL cX12_init 353 1 354 := .inl ⟨1, by decide +kernel, rfl, rfl⟩
theorem e_X12_init_354 : zK cX12_init 354 8 356 := .inr (.inl ⟨8, by decide +kernel, by decide +kernel, rfl⟩)
theorem e_X12_init_356 : zB cX12_init 356 (.if_icmp .ge 41) 41 397 359 := ⟨by decide +kernel, by decide, rfl⟩
theorem e_X12_init_359 : zAL cX12_init 359 0 360 := .inl ⟨0, by decide +kernel, rfl, rfl⟩
theorem e_X12_init_360 : zD cX12_init 360 (.getfield 16) 3 363 := ⟨by decide +kernel, rfl⟩
theorem e_X12_init_363 : zIL cX12_init 363 1 364 := .inl ⟨1, by decide +kernel, rfl, rfl⟩
theorem e_X12_init_364 : zK cX12_init 364 (-2) 366 := .inr (.inl ⟨(-2), by decide +kernel, by decide +kernel, rfl⟩)
theorem e_X12_init_366 : zD cX12_init 366 (.iastore) 1 367 := ⟨by decide +kernel, rfl⟩
theorem e_X12_init_367 : zAL cX12_init 367 0 368 := .inl ⟨0, by decide +kernel, rfl, rfl⟩
theorem e_X12_init_368 : zD cX12_init 368 (.getfield 19) 3 371 := ⟨by decide +kernel, rfl⟩
theorem e_X12_init_371 : zIL cX12_init 371 1 372 := .inl ⟨1, by decide +kernel, rfl, rfl⟩
theorem e_X12_init_372 : zK cX12_init 372 (-2) 374 := .inr (.inl ⟨(-2), by decide +kernel, by decide +kernel, rfl⟩)
theorem e_X12_init_374 : zD cX12_init 374 (.iastore) 1 375 := ⟨by decide +kernel, rfl⟩
theorem e_X12_init_375 : zAL cX12_init 375 0 376 := .inl ⟨0, by decide +kernel, rfl, rfl⟩
theorem e_X12_init_376 : zD cX12_init 376 (.getfield 22) 3 379 := ⟨by decide +kernel, rfl⟩
theorem e_X12_init_379 : zIL cX12_init 379 1 380 := .inl ⟨1, by decide +kernel, rfl, rfl⟩
theorem e_X12_init_380 : zK cX12_init 380 (-2) 382 := .inr (.inl ⟨(-2), by decide +kernel, by decide +kernel, rfl⟩)
theorem e_X12_init_382 : zD cX12_init 382 (.iastore) 1 383 := ⟨by decide +kernel, rfl⟩
theorem e_X12_init_383 : zAL cX12_init 383 0 384 := .inl ⟨0, by decide +kernel, rfl, rfl⟩
theorem e_X12_init_384 : zD cX12_init 384 (.getfield 25) 3 387 := ⟨by decide +kernel, rfl⟩
theorem e_X12_init_387 : zIL cX12_init 387 1 388 := .inl ⟨1, by decide +kernel, rfl, rfl⟩
theorem e_X12_init_388 : zK cX12_init 388 (-2) 390 := .inr (.inl ⟨(-2), by decide +kernel, by decide +kernel, rfl⟩)
theorem e_X12_init_390 : zD cX12_init 390 (.iastore) 1 391 := ⟨by decide +kernel, rfl⟩
theorem e_X12_init_391 : zD cX12_init 391 (.iinc 1 1) 3 394 := ⟨by decide +kernel, rfl⟩
theorem e_X12_init_394 : zB cX12_init 394 (.goto (-41)) (-41) 353 397 := ⟨by decide +kernel, by decide, rfl⟩
theorem e_X12_init_397 : zK cX12_init 397 0 398 := .inl ⟨0, by decide +kernel, by decide +kernel, rfl⟩
theorem e_X12_init_398 : zIS cX12_init 398 1 399 := .inl ⟨1, by decide +kernel, rfl, rfl⟩
theorem e_X12_init_399 : zIL cX12_init 399 1 400 := .inl ⟨1, by decide +kernel, rfl, rfl⟩
theorem e_X12_init_400 : zK cX12_init 400 12 402 := .inr (.inl ⟨12, by decide +kernel, by decide +kernel, rfl⟩)
theorem e_X12_init_402 : zB cX12_init 402 (.if_icmp .ge 16) 16 418 405 := ⟨by decide +kernel, by decide, rfl⟩
theorem e_X12_init_405 : zAL cX12_init 405 0 406 := .inl ⟨0, by decide +kernel, rfl, rfl⟩
theorem e_X12_init_406 : zD cX12_init 406 (.getfield 114) 3 409 := ⟨by decide +kernel, rfl⟩
theorem e_X12_init_409 : zIL cX12_init 409 1 410 := .inl ⟨1, by decide +kernel, rfl, rfl⟩
theorem e_X12_init_410 : zK cX12_init 410 (-1) 411 := .inl ⟨(-1), by decide +kernel, by decide +kernel, rfl⟩
theorem e_X12_init_411 : zD cX12_init 411 (.iastore) 1 412 := ⟨by decide +kernel, rfl⟩
theorem e_X12_init_412 : zD cX12_init 412 (.iinc 1 1) 3 415 := ⟨by decide +kernel, rfl⟩
theorem e_X12_init_415 : zB cX12_init 415 (.goto (-16)) (-16) 399 418 := ⟨by decide +kernel, by decide, rfl⟩
theorem e_X12_init_418 : decode cX12_init 418 = .ok (.return_, 1) := by decide +kernel
theorem e_L_law_15 : zAS cL_law 15 2 16 := .inl ⟨2, by decide +kernel, rfl, rfl⟩
theorem e_L_law_16 : zK cL_law 16 0 17 := .inl ⟨0, by decide +kernel, by decide +kernel, rfl⟩
theorem e_L_law_17 : zIS cL_law 17 3 18 := .inl ⟨3, by decide +kernel, rfl, rfl⟩
set_option maxRecDepth 20000 in
theorem nw_L_7 : Cond.classLink RL 7 RX11 ∈ zT ∧ Cond.instantiable RX11 14 ∈ zT ∧ Cond.initialized RX11 ∈ zT := ⟨zT_in 127 (by decide +kernel) (by decide +kernel), zT_in 128 (by decide +kernel) (by decide +kernel), zT_in 106 (by decide +kernel) (by decide +kernel)⟩
set_option maxRecDepth 20000 in
theorem oj_X11_1 : (Cond.methodLink RX11 1 objectInit ∈ zT ∧ Cond.instanceMethod objectInit ∈ zT) ∧ Cond.code objectInit ⟨#[0xb1]⟩ 1 none ∈ zT := ⟨⟨zT_in 132 (by decide +kernel) (by decide +kernel), zT_in 133 (by decide +kernel) (by decide +kernel)⟩, zT_in 134 (by decide +kernel) (by decide +kernel)⟩
set_option maxRecDepth 20000 in
theorem nw_X11_7 : Cond.classLink RX11 7 RX10 ∈ zT ∧ Cond.instantiable RX10 13 ∈ zT ∧ Cond.initialized RX10 ∈ zT := ⟨zT_in 135 (by decide +kernel) (by decide +kernel), zT_in 136 (by decide +kernel) (by decide +kernel), zT_in 107 (by decide +kernel) (by decide +kernel)⟩
set_option maxRecDepth 20000 in
theorem oj_X10_3 : (Cond.methodLink RX10 3 objectInit ∈ zT ∧ Cond.instanceMethod objectInit ∈ zT) ∧ Cond.code objectInit ⟨#[0xb1]⟩ 1 none ∈ zT := ⟨⟨zT_in 140 (by decide +kernel) (by decide +kernel), zT_in 133 (by decide +kernel) (by decide +kernel)⟩, zT_in 134 (by decide +kernel) (by decide +kernel)⟩
set_option maxRecDepth 20000 in
theorem aw_I : Cond.arrayClass .int ∈ zT := zT_in 205 (by decide +kernel) (by decide +kernel)
set_option maxRecDepth 20000 in
theorem cf_X10_9 : Cond.fieldLink RX10 9 (TX10 0).1 (TX10 0).2.1 (TX10 0).2.2.1 ∈ zT := zT_in 141 (by decide +kernel) (by decide +kernel)
set_option maxRecDepth 20000 in
theorem cf_X10_15 : Cond.fieldLink RX10 15 (TX10 1).1 (TX10 1).2.1 (TX10 1).2.2.1 ∈ zT := zT_in 144 (by decide +kernel) (by decide +kernel)
set_option maxRecDepth 20000 in
theorem cf_X10_18 : Cond.fieldLink RX10 18 (TX10 2).1 (TX10 2).2.1 (TX10 2).2.2.1 ∈ zT := zT_in 145 (by decide +kernel) (by decide +kernel)
set_option maxRecDepth 20000 in
theorem cf_X10_21 : Cond.fieldLink RX10 21 (TX10 3).1 (TX10 3).2.1 (TX10 3).2.2.1 ∈ zT := zT_in 146 (by decide +kernel) (by decide +kernel)
set_option maxRecDepth 20000 in
theorem cf_X10_24 : Cond.fieldLink RX10 24 (TX10 4).1 (TX10 4).2.1 (TX10 4).2.2.1 ∈ zT := zT_in 149 (by decide +kernel) (by decide +kernel)
set_option maxRecDepth 20000 in
theorem cf_X10_27 : Cond.fieldLink RX10 27 (TX10 5).1 (TX10 5).2.1 (TX10 5).2.2.1 ∈ zT := zT_in 152 (by decide +kernel) (by decide +kernel)
set_option maxRecDepth 20000 in
theorem cf_X10_30 : Cond.fieldLink RX10 30 (TX10 10).1 (TX10 10).2.1 (TX10 10).2.2.1 ∈ zT := zT_in 169 (by decide +kernel) (by decide +kernel)
set_option maxRecDepth 20000 in
theorem cf_X10_34 : Cond.fieldLink RX10 34 (TX10 11).1 (TX10 11).2.1 (TX10 11).2.2.1 ∈ zT := zT_in 171 (by decide +kernel) (by decide +kernel)
set_option maxRecDepth 20000 in
theorem cf_X10_37 : Cond.fieldLink RX10 37 (TX10 12).1 (TX10 12).2.1 (TX10 12).2.2.1 ∈ zT := zT_in 175 (by decide +kernel) (by decide +kernel)
set_option maxRecDepth 20000 in
theorem li_X11_9 : cLI RX11 9 yX10_init cX10_init 2 0 := ⟨⟨zT_in 137 (by decide +kernel) (by decide +kernel), zT_in 138 (by decide +kernel) (by decide +kernel), zT_in 107 (by decide +kernel) (by decide +kernel), zT_in 139 (by decide +kernel) (by decide +kernel)⟩, ⟨by decide +kernel, by decide +kernel, by decide +kernel⟩, by decide, rfl⟩
set_option maxRecDepth 20000 in
theorem nw_X11_10 : Cond.classLink RX11 10 RX1 ∈ zT ∧ Cond.instantiable RX1 14 ∈ zT ∧ Cond.initialized RX1 ∈ zT := ⟨zT_in 206 (by decide +kernel) (by decide +kernel), zT_in 207 (by decide +kernel) (by decide +kernel), zT_in 108 (by decide +kernel) (by decide +kernel)⟩
set_option maxRecDepth 20000 in
theorem oj_X1_3 : (Cond.methodLink RX1 3 objectInit ∈ zT ∧ Cond.instanceMethod objectInit ∈ zT) ∧ Cond.code objectInit ⟨#[0xb1]⟩ 1 none ∈ zT := ⟨⟨zT_in 211 (by decide +kernel) (by decide +kernel), zT_in 133 (by decide +kernel) (by decide +kernel)⟩, zT_in 134 (by decide +kernel) (by decide +kernel)⟩
set_option maxRecDepth 20000 in
theorem cf_X1_11 : Cond.fieldLink RX1 11 (TX1 0).1 (TX1 0).2.1 (TX1 0).2.2.1 ∈ zT := zT_in 212 (by decide +kernel) (by decide +kernel)
set_option maxRecDepth 20000 in
theorem cf_X1_15 : Cond.fieldLink RX1 15 (TX1 1).1 (TX1 1).2.1 (TX1 1).2.2.1 ∈ zT := zT_in 213 (by decide +kernel) (by decide +kernel)
set_option maxRecDepth 20000 in
theorem cf_X1_18 : Cond.fieldLink RX1 18 (TX1 3).1 (TX1 3).2.1 (TX1 3).2.2.1 ∈ zT := zT_in 215 (by decide +kernel) (by decide +kernel)
set_option maxRecDepth 20000 in
theorem cf_X1_21 : Cond.fieldLink RX1 21 (TX1 4).1 (TX1 4).2.1 (TX1 4).2.2.1 ∈ zT := zT_in 216 (by decide +kernel) (by decide +kernel)
set_option maxRecDepth 20000 in
theorem cf_X1_24 : Cond.fieldLink RX1 24 (TX1 5).1 (TX1 5).2.1 (TX1 5).2.2.1 ∈ zT := zT_in 217 (by decide +kernel) (by decide +kernel)
set_option maxRecDepth 20000 in
theorem cf_X1_27 : Cond.fieldLink RX1 27 (TX1 6).1 (TX1 6).2.1 (TX1 6).2.2.1 ∈ zT := zT_in 218 (by decide +kernel) (by decide +kernel)
set_option maxRecDepth 20000 in
theorem cf_X1_30 : Cond.fieldLink RX1 30 (TX1 9).1 (TX1 9).2.1 (TX1 9).2.2.1 ∈ zT := zT_in 223 (by decide +kernel) (by decide +kernel)
set_option maxRecDepth 20000 in
theorem cf_X1_33 : Cond.fieldLink RX1 33 (TX1 13).1 (TX1 13).2.1 (TX1 13).2.2.1 ∈ zT := zT_in 227 (by decide +kernel) (by decide +kernel)
set_option maxRecDepth 20000 in
theorem li_X11_12 : cLI RX11 12 yX1_init cX1_init 1 0 := ⟨⟨zT_in 208 (by decide +kernel) (by decide +kernel), zT_in 209 (by decide +kernel) (by decide +kernel), zT_in 108 (by decide +kernel) (by decide +kernel), zT_in 210 (by decide +kernel) (by decide +kernel)⟩, ⟨by decide +kernel, by decide +kernel, by decide +kernel⟩, by decide, rfl⟩
set_option maxRecDepth 20000 in
theorem nw_X11_13 : Cond.classLink RX11 13 RX5 ∈ zT ∧ Cond.instantiable RX5 16 ∈ zT ∧ Cond.initialized RX5 ∈ zT := ⟨zT_in 257 (by decide +kernel) (by decide +kernel), zT_in 258 (by decide +kernel) (by decide +kernel), zT_in 109 (by decide +kernel) (by decide +kernel)⟩
set_option maxRecDepth 20000 in
theorem oj_X5_3 : (Cond.methodLink RX5 3 objectInit ∈ zT ∧ Cond.instanceMethod objectInit ∈ zT) ∧ Cond.code objectInit ⟨#[0xb1]⟩ 1 none ∈ zT := ⟨⟨zT_in 262 (by decide +kernel) (by decide +kernel), zT_in 133 (by decide +kernel) (by decide +kernel)⟩, zT_in 134 (by decide +kernel) (by decide +kernel)⟩
set_option maxRecDepth 20000 in
theorem cf_X5_9 : Cond.fieldLink RX5 9 (TX5 1).1 (TX5 1).2.1 (TX5 1).2.2.1 ∈ zT := zT_in 264 (by decide +kernel) (by decide +kernel)
set_option maxRecDepth 20000 in
theorem cf_X5_15 : Cond.fieldLink RX5 15 (TX5 2).1 (TX5 2).2.1 (TX5 2).2.2.1 ∈ zT := zT_in 265 (by decide +kernel) (by decide +kernel)
set_option maxRecDepth 20000 in
theorem cf_X5_18 : Cond.fieldLink RX5 18 (TX5 3).1 (TX5 3).2.1 (TX5 3).2.2.1 ∈ zT := zT_in 266 (by decide +kernel) (by decide +kernel)
set_option maxRecDepth 20000 in
theorem cf_X5_21 : Cond.fieldLink RX5 21 (TX5 4).1 (TX5 4).2.1 (TX5 4).2.2.1 ∈ zT := zT_in 267 (by decide +kernel) (by decide +kernel)
set_option maxRecDepth 20000 in
theorem cf_X5_24 : Cond.fieldLink RX5 24 (TX5 5).1 (TX5 5).2.1 (TX5 5).2.2.1 ∈ zT := zT_in 268 (by decide +kernel) (by decide +kernel)
set_option maxRecDepth 20000 in
theorem cf_X5_27 : Cond.fieldLink RX5 27 (TX5 15).1 (TX5 15).2.1 (TX5 15).2.2.1 ∈ zT := zT_in 282 (by decide +kernel) (by decide +kernel)
set_option maxRecDepth 20000 in
theorem cf_X5_30 : Cond.fieldLink RX5 30 (TX5 0).1 (TX5 0).2.1 (TX5 0).2.2.1 ∈ zT := zT_in 263 (by decide +kernel) (by decide +kernel)
set_option maxRecDepth 20000 in
theorem li_X11_15 : cLI RX11 15 yX5_init cX5_init 2 1 := ⟨⟨zT_in 259 (by decide +kernel) (by decide +kernel), zT_in 260 (by decide +kernel) (by decide +kernel), zT_in 109 (by decide +kernel) (by decide +kernel), zT_in 261 (by decide +kernel) (by decide +kernel)⟩, ⟨by decide +kernel, by decide +kernel, by decide +kernel⟩, by decide, rfl⟩
set_option maxRecDepth 20000 in
theorem nw_X11_18 : Cond.classLink RX11 18 RX3 ∈ zT ∧ Cond.instantiable RX3 7 ∈ zT ∧ Cond.initialized RX3 ∈ zT := ⟨zT_in 316 (by decide +kernel) (by decide +kernel), zT_in 317 (by decide +kernel) (by decide +kernel), zT_in 110 (by decide +kernel) (by decide +kernel)⟩
set_option maxRecDepth 20000 in
theorem oj_X3_3 : (Cond.methodLink RX3 3 objectInit ∈ zT ∧ Cond.instanceMethod objectInit ∈ zT) ∧ Cond.code objectInit ⟨#[0xb1]⟩ 1 none ∈ zT := ⟨⟨zT_in 321 (by decide +kernel) (by decide +kernel), zT_in 133 (by decide +kernel) (by decide +kernel)⟩, zT_in 134 (by decide +kernel) (by decide +kernel)⟩
set_option maxRecDepth 20000 in
theorem cf_X3_9 : Cond.fieldLink RX3 9 (TX3 2).1 (TX3 2).2.1 (TX3 2).2.2.1 ∈ zT := zT_in 324 (by decide +kernel) (by decide +kernel)
set_option maxRecDepth 20000 in
theorem cf_X3_15 : Cond.fieldLink RX3 15 (TX3 0).1 (TX3 0).2.1 (TX3 0).2.2.1 ∈ zT := zT_in 322 (by decide +kernel) (by decide +kernel)
set_option maxRecDepth 20000 in
theorem cf_X3_19 : Cond.fieldLink RX3 19 (TX3 1).1 (TX3 1).2.1 (TX3 1).2.2.1 ∈ zT := zT_in 323 (by decide +kernel) (by decide +kernel)
set_option maxRecDepth 20000 in
theorem li_X11_20 : cLI RX11 20 yX3_init cX3_init 3 2 := ⟨⟨zT_in 318 (by decide +kernel) (by decide +kernel), zT_in 319 (by decide +kernel) (by decide +kernel), zT_in 110 (by decide +kernel) (by decide +kernel), zT_in 320 (by decide +kernel) (by decide +kernel)⟩, ⟨by decide +kernel, by decide +kernel, by decide +kernel⟩, by decide, rfl⟩
set_option maxRecDepth 20000 in
theorem cf_X11_23 : Cond.fieldLink RX11 23 (TX11 0).1 (TX11 0).2.1 (TX11 0).2.2.1 ∈ zT := zT_in 513 (by decide +kernel) (by decide +kernel)
set_option maxRecDepth 20000 in
theorem cf_X11_29 : Cond.fieldLink RX11 29 (TX11 1).1 (TX11 1).2.1 (TX11 1).2.2.1 ∈ zT := zT_in 514 (by decide +kernel) (by decide +kernel)
set_option maxRecDepth 20000 in
theorem cf_X11_32 : Cond.fieldLink RX11 32 (TX11 2).1 (TX11 2).2.1 (TX11 2).2.2.1 ∈ zT := zT_in 515 (by decide +kernel) (by decide +kernel)
set_option maxRecDepth 20000 in
theorem nw_X11_36 : Cond.classLink RX11 36 RX8 ∈ zT ∧ Cond.instantiable RX8 3 ∈ zT ∧ Cond.initialized RX8 ∈ zT := ⟨zT_in 350 (by decide +kernel) (by decide +kernel), zT_in 351 (by decide +kernel) (by decide +kernel), zT_in 111 (by decide +kernel) (by decide +kernel)⟩
set_option maxRecDepth 20000 in
theorem oj_X8_3 : (Cond.methodLink RX8 3 objectInit ∈ zT ∧ Cond.instanceMethod objectInit ∈ zT) ∧ Cond.code objectInit ⟨#[0xb1]⟩ 1 none ∈ zT := ⟨⟨zT_in 355 (by decide +kernel) (by decide +kernel), zT_in 133 (by decide +kernel) (by decide +kernel)⟩, zT_in 134 (by decide +kernel) (by decide +kernel)⟩
set_option maxRecDepth 20000 in
theorem cf_X8_11 : Cond.fieldLink RX8 11 (TX8 0).1 (TX8 0).2.1 (TX8 0).2.2.1 ∈ zT := zT_in 356 (by decide +kernel) (by decide +kernel)
set_option maxRecDepth 20000 in
theorem li_X11_38 : cLI RX11 38 yX8_init cX8_init 1 0 := ⟨⟨zT_in 352 (by decide +kernel) (by decide +kernel), zT_in 353 (by decide +kernel) (by decide +kernel), zT_in 111 (by decide +kernel) (by decide +kernel), zT_in 354 (by decide +kernel) (by decide +kernel)⟩, ⟨by decide +kernel, by decide +kernel, by decide +kernel⟩, by decide, rfl⟩
set_option maxRecDepth 20000 in
theorem cf_X11_39 : Cond.fieldLink RX11 39 (TX11 3).1 (TX11 3).2.1 (TX11 3).2.2.1 ∈ zT := zT_in 516 (by decide +kernel) (by decide +kernel)
set_option maxRecDepth 20000 in
theorem cf_X11_43 : Cond.fieldLink RX11 43 (TX11 4).1 (TX11 4).2.1 (TX11 4).2.2.1 ∈ zT := zT_in 517 (by decide +kernel) (by decide +kernel)
set_option maxRecDepth 20000 in
theorem cf_X11_47 : Cond.fieldLink RX11 47 (TX11 5).1 (TX11 5).2.1 (TX11 5).2.2.1 ∈ zT := zT_in 518 (by decide +kernel) (by decide +kernel)
set_option maxRecDepth 20000 in
theorem cf_X11_50 : Cond.fieldLink RX11 50 (TX11 6).1 (TX11 6).2.1 (TX11 6).2.2.1 ∈ zT := zT_in 519 (by decide +kernel) (by decide +kernel)
set_option maxRecDepth 20000 in
theorem nw_X11_54 : Cond.classLink RX11 54 RX7 ∈ zT ∧ Cond.instantiable RX7 3 ∈ zT ∧ Cond.initialized RX7 ∈ zT := ⟨zT_in 370 (by decide +kernel) (by decide +kernel), zT_in 371 (by decide +kernel) (by decide +kernel), zT_in 112 (by decide +kernel) (by decide +kernel)⟩
set_option maxRecDepth 20000 in
theorem oj_X7_3 : (Cond.methodLink RX7 3 objectInit ∈ zT ∧ Cond.instanceMethod objectInit ∈ zT) ∧ Cond.code objectInit ⟨#[0xb1]⟩ 1 none ∈ zT := ⟨⟨zT_in 375 (by decide +kernel) (by decide +kernel), zT_in 133 (by decide +kernel) (by decide +kernel)⟩, zT_in 134 (by decide +kernel) (by decide +kernel)⟩
set_option maxRecDepth 20000 in
theorem cf_X7_11 : Cond.fieldLink RX7 11 (TX7 0).1 (TX7 0).2.1 (TX7 0).2.2.1 ∈ zT := zT_in 376 (by decide +kernel) (by decide +kernel)
set_option maxRecDepth 20000 in
theorem cf_X7_15 : Cond.fieldLink RX7 15 (TX7 1).1 (TX7 1).2.1 (TX7 1).2.2.1 ∈ zT := zT_in 377 (by decide +kernel) (by decide +kernel)
set_option maxRecDepth 20000 in
theorem li_X11_56 : cLI RX11 56 yX7_init cX7_init 1 0 := ⟨⟨zT_in 372 (by decide +kernel) (by decide +kernel), zT_in 373 (by decide +kernel) (by decide +kernel), zT_in 112 (by decide +kernel) (by decide +kernel), zT_in 374 (by decide +kernel) (by decide +kernel)⟩, ⟨by decide +kernel, by decide +kernel, by decide +kernel⟩, by decide, rfl⟩
set_option maxRecDepth 20000 in
theorem cf_X11_57 : Cond.fieldLink RX11 57 (TX11 7).1 (TX11 7).2.1 (TX11 7).2.2.1 ∈ zT := zT_in 520 (by decide +kernel) (by decide +kernel)
set_option maxRecDepth 20000 in
theorem nw_X11_61 : Cond.classLink RX11 61 RX4 ∈ zT ∧ Cond.instantiable RX4 14 ∈ zT ∧ Cond.initialized RX4 ∈ zT := ⟨zT_in 386 (by decide +kernel) (by decide +kernel), zT_in 387 (by decide +kernel) (by decide +kernel), zT_in 113 (by decide +kernel) (by decide +kernel)⟩
set_option maxRecDepth 20000 in
theorem oj_X4_7 : (Cond.methodLink RX4 7 objectInit ∈ zT ∧ Cond.instanceMethod objectInit ∈ zT) ∧ Cond.code objectInit ⟨#[0xb1]⟩ 1 none ∈ zT := ⟨⟨zT_in 391 (by decide +kernel) (by decide +kernel), zT_in 133 (by decide +kernel) (by decide +kernel)⟩, zT_in 134 (by decide +kernel) (by decide +kernel)⟩
set_option maxRecDepth 20000 in
theorem cf_X4_13 : Cond.fieldLink RX4 13 (TX4 1).1 (TX4 1).2.1 (TX4 1).2.2.1 ∈ zT := zT_in 393 (by decide +kernel) (by decide +kernel)
set_option maxRecDepth 20000 in
theorem cf_X4_17 : Cond.fieldLink RX4 17 (TX4 2).1 (TX4 2).2.1 (TX4 2).2.2.1 ∈ zT := zT_in 394 (by decide +kernel) (by decide +kernel)
set_option maxRecDepth 20000 in
theorem cf_X4_20 : Cond.fieldLink RX4 20 (TX4 3).1 (TX4 3).2.1 (TX4 3).2.2.1 ∈ zT := zT_in 395 (by decide +kernel) (by decide +kernel)
set_option maxRecDepth 20000 in
theorem cf_X4_23 : Cond.fieldLink RX4 23 (TX4 4).1 (TX4 4).2.1 (TX4 4).2.2.1 ∈ zT := zT_in 396 (by decide +kernel) (by decide +kernel)
set_option maxRecDepth 20000 in
theorem cf_X4_26 : Cond.fieldLink RX4 26 (TX4 7).1 (TX4 7).2.1 (TX4 7).2.2.1 ∈ zT := zT_in 399 (by decide +kernel) (by decide +kernel)
set_option maxRecDepth 20000 in
theorem cf_X4_29 : Cond.fieldLink RX4 29 (TX4 9).1 (TX4 9).2.1 (TX4 9).2.2.1 ∈ zT := zT_in 401 (by decide +kernel) (by decide +kernel)
set_option maxRecDepth 20000 in
theorem cf_X4_32 : Cond.fieldLink RX4 32 (TX4 10).1 (TX4 10).2.1 (TX4 10).2.2.1 ∈ zT := zT_in 402 (by decide +kernel) (by decide +kernel)
set_option maxRecDepth 20000 in
theorem cf_X4_35 : Cond.fieldLink RX4 35 (TX4 11).1 (TX4 11).2.1 (TX4 11).2.2.1 ∈ zT := zT_in 403 (by decide +kernel) (by decide +kernel)
set_option maxRecDepth 20000 in
theorem cf_X4_38 : Cond.fieldLink RX4 38 (TX4 12).1 (TX4 12).2.1 (TX4 12).2.2.1 ∈ zT := zT_in 404 (by decide +kernel) (by decide +kernel)
set_option maxRecDepth 20000 in
theorem cf_X4_41 : Cond.fieldLink RX4 41 (TX4 0).1 (TX4 0).2.1 (TX4 0).2.2.1 ∈ zT := zT_in 392 (by decide +kernel) (by decide +kernel)
set_option maxRecDepth 20000 in
theorem li_X11_63 : cLI RX11 63 yX4_init cX4_init 2 1 := ⟨⟨zT_in 388 (by decide +kernel) (by decide +kernel), zT_in 389 (by decide +kernel) (by decide +kernel), zT_in 113 (by decide +kernel) (by decide +kernel), zT_in 390 (by decide +kernel) (by decide +kernel)⟩, ⟨by decide +kernel, by decide +kernel, by decide +kernel⟩, by decide, rfl⟩
set_option maxRecDepth 20000 in
theorem cf_X11_66 : Cond.fieldLink RX11 66 (TX11 8).1 (TX11 8).2.1 (TX11 8).2.2.1 ∈ zT := zT_in 521 (by decide +kernel) (by decide +kernel)
set_option maxRecDepth 20000 in
theorem cf_X11_70 : Cond.fieldLink RX11 70 (TX11 9).1 (TX11 9).2.1 (TX11 9).2.2.1 ∈ zT := zT_in 522 (by decide +kernel) (by decide +kernel)
set_option maxRecDepth 20000 in
theorem nw_X11_74 : Cond.classLink RX11 74 RX6 ∈ zT ∧ Cond.instantiable RX6 9 ∈ zT ∧ Cond.initialized RX6 ∈ zT := ⟨zT_in 435 (by decide +kernel) (by decide +kernel), zT_in 436 (by decide +kernel) (by decide +kernel), zT_in 114 (by decide +kernel) (by decide +kernel)⟩
set_option maxRecDepth 20000 in
theorem oj_X6_3 : (Cond.methodLink RX6 3 objectInit ∈ zT ∧ Cond.instanceMethod objectInit ∈ zT) ∧ Cond.code objectInit ⟨#[0xb1]⟩ 1 none ∈ zT := ⟨⟨zT_in 440 (by decide +kernel) (by decide +kernel), zT_in 133 (by decide +kernel) (by decide +kernel)⟩, zT_in 134 (by decide +kernel) (by decide +kernel)⟩
set_option maxRecDepth 20000 in
theorem cf_X6_9 : Cond.fieldLink RX6 9 (TX6 3).1 (TX6 3).2.1 (TX6 3).2.2.1 ∈ zT := zT_in 444 (by decide +kernel) (by decide +kernel)
set_option maxRecDepth 20000 in
theorem cf_X6_15 : Cond.fieldLink RX6 15 (TX6 4).1 (TX6 4).2.1 (TX6 4).2.2.1 ∈ zT := zT_in 445 (by decide +kernel) (by decide +kernel)
set_option maxRecDepth 20000 in
theorem aw_J : Cond.arrayClass .long ∈ zT := zT_in 469 (by decide +kernel) (by decide +kernel)
set_option maxRecDepth 20000 in
theorem cf_X6_18 : Cond.fieldLink RX6 18 (TX6 6).1 (TX6 6).2.1 (TX6 6).2.2.1 ∈ zT := zT_in 447 (by decide +kernel) (by decide +kernel)
set_option maxRecDepth 20000 in
theorem cf_X6_22 : Cond.fieldLink RX6 22 (TX6 7).1 (TX6 7).2.1 (TX6 7).2.2.1 ∈ zT := zT_in 448 (by decide +kernel) (by decide +kernel)
set_option maxRecDepth 20000 in
theorem cf_X6_25 : Cond.fieldLink RX6 25 (TX6 8).1 (TX6 8).2.1 (TX6 8).2.2.1 ∈ zT := zT_in 449 (by decide +kernel) (by decide +kernel)
set_option maxRecDepth 20000 in
theorem cf_X6_28 : Cond.fieldLink RX6 28 (TX6 0).1 (TX6 0).2.1 (TX6 0).2.2.1 ∈ zT := zT_in 441 (by decide +kernel) (by decide +kernel)
set_option maxRecDepth 20000 in
theorem cf_X6_32 : Cond.fieldLink RX6 32 (TX6 1).1 (TX6 1).2.1 (TX6 1).2.2.1 ∈ zT := zT_in 442 (by decide +kernel) (by decide +kernel)
set_option maxRecDepth 20000 in
theorem cf_X6_36 : Cond.fieldLink RX6 36 (TX6 2).1 (TX6 2).2.1 (TX6 2).2.2.1 ∈ zT := zT_in 443 (by decide +kernel) (by decide +kernel)
set_option maxRecDepth 20000 in
theorem li_X11_76 : cLI RX11 76 yX6_init cX6_init 4 3 := ⟨⟨zT_in 437 (by decide +kernel) (by decide +kernel), zT_in 438 (by decide +kernel) (by decide +kernel), zT_in 114 (by decide +kernel) (by decide +kernel), zT_in 439 (by decide +kernel) (by decide +kernel)⟩, ⟨by decide +kernel, by decide +kernel, by decide +kernel⟩, by decide, rfl⟩
set_option maxRecDepth 20000 in
theorem cf_X11_79 : Cond.fieldLink RX11 79 (TX11 10).1 (TX11 10).2.1 (TX11 10).2.2.1 ∈ zT := zT_in 523 (by decide +kernel) (by decide +kernel)
set_option maxRecDepth 20000 in
theorem nw_X11_83 : Cond.classLink RX11 83 RX2 ∈ zT ∧ Cond.instantiable RX2 4 ∈ zT ∧ Cond.initialized RX2 ∈ zT := ⟨zT_in 470 (by decide +kernel) (by decide +kernel), zT_in 471 (by decide +kernel) (by decide +kernel), zT_in 115 (by decide +kernel) (by decide +kernel)⟩
set_option maxRecDepth 20000 in
theorem oj_X2_1 : (Cond.methodLink RX2 1 objectInit ∈ zT ∧ Cond.instanceMethod objectInit ∈ zT) ∧ Cond.code objectInit ⟨#[0xb1]⟩ 1 none ∈ zT := ⟨⟨zT_in 475 (by decide +kernel) (by decide +kernel), zT_in 133 (by decide +kernel) (by decide +kernel)⟩, zT_in 134 (by decide +kernel) (by decide +kernel)⟩
set_option maxRecDepth 20000 in
theorem cf_X2_9 : Cond.fieldLink RX2 9 (TX2 0).1 (TX2 0).2.1 (TX2 0).2.2.1 ∈ zT := zT_in 476 (by decide +kernel) (by decide +kernel)
set_option maxRecDepth 20000 in
theorem li_X11_85 : cLI RX11 85 yX2_init cX2_init 1 0 := ⟨⟨zT_in 472 (by decide +kernel) (by decide +kernel), zT_in 473 (by decide +kernel) (by decide +kernel), zT_in 115 (by decide +kernel) (by decide +kernel), zT_in 474 (by decide +kernel) (by decide +kernel)⟩, ⟨by decide +kernel, by decide +kernel, by decide +kernel⟩, by decide, rfl⟩
set_option maxRecDepth 20000 in
theorem cf_X11_86 : Cond.fieldLink RX11 86 (TX11 11).1 (TX11 11).2.1 (TX11 11).2.2.1 ∈ zT := zT_in 524 (by decide +kernel) (by decide +kernel)
set_option maxRecDepth 20000 in
theorem nw_X11_90 : Cond.classLink RX11 90 RX0 ∈ zT ∧ Cond.instantiable RX0 2 ∈ zT ∧ Cond.initialized RX0 ∈ zT := ⟨zT_in 489 (by decide +kernel) (by decide +kernel), zT_in 490 (by decide +kernel) (by decide +kernel), zT_in 116 (by decide +kernel) (by decide +kernel)⟩
set_option maxRecDepth 20000 in
theorem oj_X0_3 : (Cond.methodLink RX0 3 objectInit ∈ zT ∧ Cond.instanceMethod objectInit ∈ zT) ∧ Cond.code objectInit ⟨#[0xb1]⟩ 1 none ∈ zT := ⟨⟨zT_in 494 (by decide +kernel) (by decide +kernel), zT_in 133 (by decide +kernel) (by decide +kernel)⟩, zT_in 134 (by decide +kernel) (by decide +kernel)⟩
set_option maxRecDepth 20000 in
theorem cf_X0_11 : Cond.fieldLink RX0 11 (TX0 1).1 (TX0 1).2.1 (TX0 1).2.2.1 ∈ zT := zT_in 497 (by decide +kernel) (by decide +kernel)
set_option maxRecDepth 20000 in
theorem li_X11_92 : cLI RX11 92 yX0_init cX0_init 1 0 := ⟨⟨zT_in 491 (by decide +kernel) (by decide +kernel), zT_in 492 (by decide +kernel) (by decide +kernel), zT_in 116 (by decide +kernel) (by decide +kernel), zT_in 493 (by decide +kernel) (by decide +kernel)⟩, ⟨by decide +kernel, by decide +kernel, by decide +kernel⟩, by decide, rfl⟩
set_option maxRecDepth 20000 in
theorem cf_X11_93 : Cond.fieldLink RX11 93 (TX11 12).1 (TX11 12).2.1 (TX11 12).2.2.1 ∈ zT := zT_in 525 (by decide +kernel) (by decide +kernel)
set_option maxRecDepth 20000 in
theorem nw_X11_97 : Cond.classLink RX11 97 RX9 ∈ zT ∧ Cond.instantiable RX9 1 ∈ zT ∧ Cond.initialized RX9 ∈ zT := ⟨zT_in 503 (by decide +kernel) (by decide +kernel), zT_in 504 (by decide +kernel) (by decide +kernel), zT_in 117 (by decide +kernel) (by decide +kernel)⟩
set_option maxRecDepth 20000 in
theorem oj_X9_3 : (Cond.methodLink RX9 3 objectInit ∈ zT ∧ Cond.instanceMethod objectInit ∈ zT) ∧ Cond.code objectInit ⟨#[0xb1]⟩ 1 none ∈ zT := ⟨⟨zT_in 508 (by decide +kernel) (by decide +kernel), zT_in 133 (by decide +kernel) (by decide +kernel)⟩, zT_in 134 (by decide +kernel) (by decide +kernel)⟩
set_option maxRecDepth 20000 in
theorem cf_X9_11 : Cond.fieldLink RX9 11 (TX9 0).1 (TX9 0).2.1 (TX9 0).2.2.1 ∈ zT := zT_in 509 (by decide +kernel) (by decide +kernel)
set_option maxRecDepth 20000 in
theorem li_X11_99 : cLI RX11 99 yX9_init cX9_init 2 0 := ⟨⟨zT_in 505 (by decide +kernel) (by decide +kernel), zT_in 506 (by decide +kernel) (by decide +kernel), zT_in 117 (by decide +kernel) (by decide +kernel), zT_in 507 (by decide +kernel) (by decide +kernel)⟩, ⟨by decide +kernel, by decide +kernel, by decide +kernel⟩, by decide, rfl⟩
set_option maxRecDepth 20000 in
theorem cf_X11_100 : Cond.fieldLink RX11 100 (TX11 13).1 (TX11 13).2.1 (TX11 13).2.2.1 ∈ zT := zT_in 526 (by decide +kernel) (by decide +kernel)
set_option maxRecDepth 20000 in
theorem li_L_9 : cLI RL 9 yX11_init cX11_init 5 0 := ⟨⟨zT_in 129 (by decide +kernel) (by decide +kernel), zT_in 130 (by decide +kernel) (by decide +kernel), zT_in 106 (by decide +kernel) (by decide +kernel), zT_in 131 (by decide +kernel) (by decide +kernel)⟩, ⟨by decide +kernel, by decide +kernel, by decide +kernel⟩, by decide, rfl⟩
set_option maxRecDepth 20000 in
theorem nw_L_10 : Cond.classLink RL 10 RX12 ∈ zT ∧ Cond.instantiable RX12 76 ∈ zT ∧ Cond.initialized RX12 ∈ zT := ⟨zT_in 1270 (by decide +kernel) (by decide +kernel), zT_in 1271 (by decide +kernel) (by decide +kernel), zT_in 118 (by decide +kernel) (by decide +kernel)⟩
set_option maxRecDepth 20000 in
theorem oj_X12_1 : (Cond.methodLink RX12 1 objectInit ∈ zT ∧ Cond.instanceMethod objectInit ∈ zT) ∧ Cond.code objectInit ⟨#[0xb1]⟩ 1 none ∈ zT := ⟨⟨zT_in 1275 (by decide +kernel) (by decide +kernel), zT_in 133 (by decide +kernel) (by decide +kernel)⟩, zT_in 134 (by decide +kernel) (by decide +kernel)⟩
set_option maxRecDepth 20000 in
theorem cf_X12_7 : Cond.fieldLink RX12 7 (TX12 7).1 (TX12 7).2.1 (TX12 7).2.2.1 ∈ zT := zT_in 1283 (by decide +kernel) (by decide +kernel)
set_option maxRecDepth 20000 in
theorem cf_X12_13 : Cond.fieldLink RX12 13 (TX12 8).1 (TX12 8).2.1 (TX12 8).2.2.1 ∈ zT := zT_in 1284 (by decide +kernel) (by decide +kernel)
set_option maxRecDepth 20000 in
theorem cf_X12_16 : Cond.fieldLink RX12 16 (TX12 9).1 (TX12 9).2.1 (TX12 9).2.2.1 ∈ zT := zT_in 1285 (by decide +kernel) (by decide +kernel)
set_option maxRecDepth 20000 in
theorem cf_X12_19 : Cond.fieldLink RX12 19 (TX12 10).1 (TX12 10).2.1 (TX12 10).2.2.1 ∈ zT := zT_in 1286 (by decide +kernel) (by decide +kernel)
set_option maxRecDepth 20000 in
theorem cf_X12_22 : Cond.fieldLink RX12 22 (TX12 11).1 (TX12 11).2.1 (TX12 11).2.2.1 ∈ zT := zT_in 1287 (by decide +kernel) (by decide +kernel)
set_option maxRecDepth 20000 in
theorem cf_X12_25 : Cond.fieldLink RX12 25 (TX12 12).1 (TX12 12).2.1 (TX12 12).2.2.1 ∈ zT := zT_in 1288 (by decide +kernel) (by decide +kernel)
set_option maxRecDepth 20000 in
theorem aw_B : Cond.arrayClass .byte ∈ zT := zT_in 752 (by decide +kernel) (by decide +kernel)
set_option maxRecDepth 20000 in
theorem cf_X12_28 : Cond.fieldLink RX12 28 (TX12 13).1 (TX12 13).2.1 (TX12 13).2.2.1 ∈ zT := zT_in 1289 (by decide +kernel) (by decide +kernel)
set_option maxRecDepth 20000 in
theorem cf_X12_32 : Cond.fieldLink RX12 32 (TX12 24).1 (TX12 24).2.1 (TX12 24).2.2.1 ∈ zT := zT_in 1300 (by decide +kernel) (by decide +kernel)
set_option maxRecDepth 20000 in
theorem cf_X12_35 : Cond.fieldLink RX12 35 (TX12 25).1 (TX12 25).2.1 (TX12 25).2.2.1 ∈ zT := zT_in 1301 (by decide +kernel) (by decide +kernel)
set_option maxRecDepth 20000 in
theorem cf_X12_38 : Cond.fieldLink RX12 38 (TX12 26).1 (TX12 26).2.1 (TX12 26).2.2.1 ∈ zT := zT_in 1302 (by decide +kernel) (by decide +kernel)
set_option maxRecDepth 20000 in
theorem cf_X12_41 : Cond.fieldLink RX12 41 (TX12 27).1 (TX12 27).2.1 (TX12 27).2.2.1 ∈ zT := zT_in 1303 (by decide +kernel) (by decide +kernel)
set_option maxRecDepth 20000 in
theorem cf_X12_44 : Cond.fieldLink RX12 44 (TX12 28).1 (TX12 28).2.1 (TX12 28).2.2.1 ∈ zT := zT_in 1304 (by decide +kernel) (by decide +kernel)
set_option maxRecDepth 20000 in
theorem cf_X12_47 : Cond.fieldLink RX12 47 (TX12 29).1 (TX12 29).2.1 (TX12 29).2.2.1 ∈ zT := zT_in 1305 (by decide +kernel) (by decide +kernel)
set_option maxRecDepth 20000 in
theorem cf_X12_50 : Cond.fieldLink RX12 50 (TX12 30).1 (TX12 30).2.1 (TX12 30).2.2.1 ∈ zT := zT_in 1306 (by decide +kernel) (by decide +kernel)
set_option maxRecDepth 20000 in
theorem cf_X12_53 : Cond.fieldLink RX12 53 (TX12 31).1 (TX12 31).2.1 (TX12 31).2.2.1 ∈ zT := zT_in 1307 (by decide +kernel) (by decide +kernel)
set_option maxRecDepth 20000 in
theorem cf_X12_56 : Cond.fieldLink RX12 56 (TX12 32).1 (TX12 32).2.1 (TX12 32).2.2.1 ∈ zT := zT_in 1308 (by decide +kernel) (by decide +kernel)
set_option maxRecDepth 20000 in
theorem cf_X12_59 : Cond.fieldLink RX12 59 (TX12 33).1 (TX12 33).2.1 (TX12 33).2.2.1 ∈ zT := zT_in 1309 (by decide +kernel) (by decide +kernel)
set_option maxRecDepth 20000 in
theorem cf_X12_62 : Cond.fieldLink RX12 62 (TX12 34).1 (TX12 34).2.1 (TX12 34).2.2.1 ∈ zT := zT_in 1310 (by decide +kernel) (by decide +kernel)
set_option maxRecDepth 20000 in
theorem cf_X12_65 : Cond.fieldLink RX12 65 (TX12 35).1 (TX12 35).2.1 (TX12 35).2.2.1 ∈ zT := zT_in 1311 (by decide +kernel) (by decide +kernel)
set_option maxRecDepth 20000 in
theorem cf_X12_68 : Cond.fieldLink RX12 68 (TX12 36).1 (TX12 36).2.1 (TX12 36).2.2.1 ∈ zT := zT_in 1312 (by decide +kernel) (by decide +kernel)
set_option maxRecDepth 20000 in
theorem cf_X12_71 : Cond.fieldLink RX12 71 (TX12 43).1 (TX12 43).2.1 (TX12 43).2.2.1 ∈ zT := zT_in 1319 (by decide +kernel) (by decide +kernel)
set_option maxRecDepth 20000 in
theorem cf_X12_74 : Cond.fieldLink RX12 74 (TX12 44).1 (TX12 44).2.1 (TX12 44).2.2.1 ∈ zT := zT_in 1320 (by decide +kernel) (by decide +kernel)
set_option maxRecDepth 20000 in
theorem cf_X12_77 : Cond.fieldLink RX12 77 (TX12 45).1 (TX12 45).2.1 (TX12 45).2.2.1 ∈ zT := zT_in 1321 (by decide +kernel) (by decide +kernel)
set_option maxRecDepth 20000 in
theorem cf_X12_80 : Cond.fieldLink RX12 80 (TX12 46).1 (TX12 46).2.1 (TX12 46).2.2.1 ∈ zT := zT_in 1322 (by decide +kernel) (by decide +kernel)
set_option maxRecDepth 20000 in
theorem cf_X12_83 : Cond.fieldLink RX12 83 (TX12 47).1 (TX12 47).2.1 (TX12 47).2.2.1 ∈ zT := zT_in 1323 (by decide +kernel) (by decide +kernel)
set_option maxRecDepth 20000 in
theorem cf_X12_86 : Cond.fieldLink RX12 86 (TX12 48).1 (TX12 48).2.1 (TX12 48).2.2.1 ∈ zT := zT_in 1324 (by decide +kernel) (by decide +kernel)
set_option maxRecDepth 20000 in
theorem cf_X12_89 : Cond.fieldLink RX12 89 (TX12 50).1 (TX12 50).2.1 (TX12 50).2.2.1 ∈ zT := zT_in 1326 (by decide +kernel) (by decide +kernel)
set_option maxRecDepth 20000 in
theorem cf_X12_92 : Cond.fieldLink RX12 92 (TX12 51).1 (TX12 51).2.1 (TX12 51).2.2.1 ∈ zT := zT_in 1327 (by decide +kernel) (by decide +kernel)
set_option maxRecDepth 20000 in
theorem cf_X12_95 : Cond.fieldLink RX12 95 (TX12 52).1 (TX12 52).2.1 (TX12 52).2.2.1 ∈ zT := zT_in 1328 (by decide +kernel) (by decide +kernel)
set_option maxRecDepth 20000 in
theorem cf_X12_98 : Cond.fieldLink RX12 98 (TX12 55).1 (TX12 55).2.1 (TX12 55).2.2.1 ∈ zT := zT_in 1331 (by decide +kernel) (by decide +kernel)
set_option maxRecDepth 20000 in
theorem cf_X12_101 : Cond.fieldLink RX12 101 (TX12 56).1 (TX12 56).2.1 (TX12 56).2.2.1 ∈ zT := zT_in 1332 (by decide +kernel) (by decide +kernel)
set_option maxRecDepth 20000 in
theorem cf_X12_104 : Cond.fieldLink RX12 104 (TX12 57).1 (TX12 57).2.1 (TX12 57).2.2.1 ∈ zT := zT_in 1333 (by decide +kernel) (by decide +kernel)
set_option maxRecDepth 20000 in
theorem cf_X12_108 : Cond.fieldLink RX12 108 (TX12 58).1 (TX12 58).2.1 (TX12 58).2.2.1 ∈ zT := zT_in 1334 (by decide +kernel) (by decide +kernel)
set_option maxRecDepth 20000 in
theorem cf_X12_111 : Cond.fieldLink RX12 111 (TX12 60).1 (TX12 60).2.1 (TX12 60).2.2.1 ∈ zT := zT_in 1336 (by decide +kernel) (by decide +kernel)
set_option maxRecDepth 20000 in
theorem cf_X12_114 : Cond.fieldLink RX12 114 (TX12 61).1 (TX12 61).2.1 (TX12 61).2.2.1 ∈ zT := zT_in 1337 (by decide +kernel) (by decide +kernel)
set_option maxRecDepth 20000 in
theorem cf_X12_117 : Cond.fieldLink RX12 117 (TX12 70).1 (TX12 70).2.1 (TX12 70).2.2.1 ∈ zT := zT_in 1346 (by decide +kernel) (by decide +kernel)
set_option maxRecDepth 20000 in
theorem cf_X12_120 : Cond.fieldLink RX12 120 (TX12 71).1 (TX12 71).2.1 (TX12 71).2.2.1 ∈ zT := zT_in 1347 (by decide +kernel) (by decide +kernel)
set_option maxRecDepth 20000 in
theorem cf_X12_123 : Cond.fieldLink RX12 123 (TX12 72).1 (TX12 72).2.1 (TX12 72).2.2.1 ∈ zT := zT_in 1348 (by decide +kernel) (by decide +kernel)
set_option maxRecDepth 20000 in
theorem cf_X12_126 : Cond.fieldLink RX12 126 (TX12 73).1 (TX12 73).2.1 (TX12 73).2.2.1 ∈ zT := zT_in 1349 (by decide +kernel) (by decide +kernel)
set_option maxRecDepth 20000 in
theorem cf_X12_129 : Cond.fieldLink RX12 129 (TX12 74).1 (TX12 74).2.1 (TX12 74).2.2.1 ∈ zT := zT_in 1350 (by decide +kernel) (by decide +kernel)
set_option maxRecDepth 20000 in
theorem cf_X12_132 : Cond.fieldLink RX12 132 (TX12 75).1 (TX12 75).2.1 (TX12 75).2.2.1 ∈ zT := zT_in 1351 (by decide +kernel) (by decide +kernel)
set_option maxRecDepth 20000 in
theorem cf_X12_135 : Cond.fieldLink RX12 135 (TX12 3).1 (TX12 3).2.1 (TX12 3).2.2.1 ∈ zT := zT_in 1279 (by decide +kernel) (by decide +kernel)
set_option maxRecDepth 20000 in
theorem cf_X12_139 : Cond.fieldLink RX12 139 (TX12 5).1 (TX12 5).2.1 (TX12 5).2.2.1 ∈ zT := zT_in 1281 (by decide +kernel) (by decide +kernel)
set_option maxRecDepth 20000 in
theorem cf_X12_142 : Cond.fieldLink RX12 142 (TX12 6).1 (TX12 6).2.1 (TX12 6).2.2.1 ∈ zT := zT_in 1282 (by decide +kernel) (by decide +kernel)
set_option maxRecDepth 20000 in
theorem li_L_12 : cLI RL 12 yX12_init cX12_init 2 0 := ⟨⟨zT_in 1272 (by decide +kernel) (by decide +kernel), zT_in 1273 (by decide +kernel) (by decide +kernel), zT_in 118 (by decide +kernel) (by decide +kernel), zT_in 1274 (by decide +kernel) (by decide +kernel)⟩, ⟨by decide +kernel, by decide +kernel, by decide +kernel⟩, by decide, rfl⟩
def zh_0 : List zShc := []
def zh_1 : List zShc := zh_0 ++ [.inl (11, [some (some none), some (some none), none, some (some none), some (some none), some (some none), some (some none), some (some none), some (some none), some (some none), some (some none), some (some none), some (some none), some (some none)])]
def zh_2 : List zShc := zh_1 ++ [.inl (10, [some (some none), some (some none), some (some none), some (some none), some (some none), some (some none), none, none, none, none, none, none, none])]
def zh_3 : List zShc := zh_2 ++ [.inr (0, 16)]
def zh_4 : List zShc := zh_3.set 1 (.inl (10, [some (some (some 2)), some (some none), some (some none), some (some none), some (some none), some (some none), none, none, none, none, none, none, none]))
def zh_5 : List zShc := zh_4 ++ [.inr (0, 8)]
def zh_6 : List zShc := zh_5.set 1 (.inl (10, [some (some (some 2)), some (some (some 3)), some (some none), some (some none), some (some none), some (some none), none, none, none, none, none, none, none]))
def zh_7 : List zShc := zh_6 ++ [.inr (0, 8)]
def zh_8 : List zShc := zh_7.set 1 (.inl (10, [some (some (some 2)), some (some (some 3)), some (some (some 4)), some (some none), some (some none), some (some none), none, none, none, none, none, none, none]))
def zh_9 : List zShc := zh_8 ++ [.inr (0, 8)]
def zh_10 : List zShc := zh_9.set 1 (.inl (10, [some (some (some 2)), some (some (some 3)), some (some (some 4)), some (some (some 5)), some (some none), some (some none), none, none, none, none, none, none, none]))
def zh_11 : List zShc := zh_10 ++ [.inr (0, 8)]
def zh_12 : List zShc := zh_11.set 1 (.inl (10, [some (some (some 2)), some (some (some 3)), some (some (some 4)), some (some (some 5)), some (some (some 6)), some (some none), none, none, none, none, none, none, none]))
def zh_13 : List zShc := zh_12 ++ [.inr (0, 8)]
def zh_14 : List zShc := zh_13.set 1 (.inl (10, [some (some (some 2)), some (some (some 3)), some (some (some 4)), some (some (some 5)), some (some (some 6)), some (some (some 7)), none, none, none, none, none, none, none]))
def zh_15 : List zShc := zh_14 ++ [.inl (1, [some (some none), some (some none), none, some (some none), some (some none), some (some none), some (some none), none, none, some (some none), none, none, none, some (some none)])]
def zh_16 : List zShc := zh_15 ++ [.inr (0, 240)]
def zh_17 : List zShc := zh_16.set 8 (.inl (1, [some (some (some 9)), some (some none), none, some (some none), some (some none), some (some none), some (some none), none, none, some (some none), none, none, none, some (some none)]))
def zh_18 : List zShc := zh_17 ++ [.inr (0, 240)]
def zh_19 : List zShc := zh_18.set 8 (.inl (1, [some (some (some 9)), some (some (some 10)), none, some (some none), some (some none), some (some none), some (some none), none, none, some (some none), none, none, none, some (some none)]))
def zh_20 : List zShc := zh_19 ++ [.inr (0, 16)]
def zh_21 : List zShc := zh_20.set 8 (.inl (1, [some (some (some 9)), some (some (some 10)), none, some (some (some 11)), some (some none), some (some none), some (some none), none, none, some (some none), none, none, none, some (some none)]))
def zh_22 : List zShc := zh_21 ++ [.inr (0, 16)]
def zh_23 : List zShc := zh_22.set 8 (.inl (1, [some (some (some 9)), some (some (some 10)), none, some (some (some 11)), some (some (some 12)), some (some none), some (some none), none, none, some (some none), none, none, none, some (some none)]))
def zh_24 : List zShc := zh_23 ++ [.inr (0, 16)]
def zh_25 : List zShc := zh_24.set 8 (.inl (1, [some (some (some 9)), some (some (some 10)), none, some (some (some 11)), some (some (some 12)), some (some (some 13)), some (some none), none, none, some (some none), none, none, none, some (some none)]))
def zh_26 : List zShc := zh_25 ++ [.inr (0, 16)]
def zh_27 : List zShc := zh_26.set 8 (.inl (1, [some (some (some 9)), some (some (some 10)), none, some (some (some 11)), some (some (some 12)), some (some (some 13)), some (some (some 14)), none, none, some (some none), none, none, none, some (some none)]))
def zh_28 : List zShc := zh_27 ++ [.inr (0, 240)]
def zh_29 : List zShc := zh_28.set 8 (.inl (1, [some (some (some 9)), some (some (some 10)), none, some (some (some 11)), some (some (some 12)), some (some (some 13)), some (some (some 14)), none, none, some (some (some 15)), none, none, none, some (some none)]))
def zh_30 : List zShc := zh_29 ++ [.inr (0, 64)]
def zh_31 : List zShc := zh_30.set 8 (.inl (1, [some (some (some 9)), some (some (some 10)), none, some (some (some 11)), some (some (some 12)), some (some (some 13)), some (some (some 14)), none, none, some (some (some 15)), none, none, none, some (some (some 16))]))
def zh_32 : List zShc := zh_31 ++ [.inl (5, [some (some none), some (some none), some (some none), some (some none), some (some none), some (some none), none, none, none, none, none, none, none, none, none, some (some none)])]
def zh_33 : List zShc := zh_32 ++ [.inr (0, 4)]
def zh_34 : List zShc := zh_33.set 17 (.inl (5, [some (some none), some (some (some 18)), some (some none), some (some none), some (some none), some (some none), none, none, none, none, none, none, none, none, none, some (some none)]))
def zh_35 : List zShc := zh_34 ++ [.inr (0, 4)]
def zh_36 : List zShc := zh_35.set 17 (.inl (5, [some (some none), some (some (some 18)), some (some (some 19)), some (some none), some (some none), some (some none), none, none, none, none, none, none, none, none, none, some (some none)]))
def zh_37 : List zShc := zh_36 ++ [.inr (0, 8)]
def zh_38 : List zShc := zh_37.set 17 (.inl (5, [some (some none), some (some (some 18)), some (some (some 19)), some (some (some 20)), some (some none), some (some none), none, none, none, none, none, none, none, none, none, some (some none)]))
def zh_39 : List zShc := zh_38 ++ [.inr (0, 8)]
def zh_40 : List zShc := zh_39.set 17 (.inl (5, [some (some none), some (some (some 18)), some (some (some 19)), some (some (some 20)), some (some (some 21)), some (some none), none, none, none, none, none, none, none, none, none, some (some none)]))
def zh_41 : List zShc := zh_40 ++ [.inr (0, 3)]
def zh_42 : List zShc := zh_41.set 17 (.inl (5, [some (some none), some (some (some 18)), some (some (some 19)), some (some (some 20)), some (some (some 21)), some (some (some 22)), none, none, none, none, none, none, none, none, none, some (some none)]))
def zh_43 : List zShc := zh_42 ++ [.inr (0, 6)]
def zh_44 : List zShc := zh_43.set 17 (.inl (5, [some (some none), some (some (some 18)), some (some (some 19)), some (some (some 20)), some (some (some 21)), some (some (some 22)), none, none, none, none, none, none, none, none, none, some (some (some 23))]))
def zh_45 : List zShc := zh_44.set 17 (.inl (5, [some (some (some 1)), some (some (some 18)), some (some (some 19)), some (some (some 20)), some (some (some 21)), some (some (some 22)), none, none, none, none, none, none, none, none, none, some (some (some 23))]))
def zh_46 : List zShc := zh_45 ++ [.inl (3, [some (some none), some (some none), some (some none), none, none, none, none])]
def zh_47 : List zShc := zh_46 ++ [.inr (0, 9)]
def zh_48 : List zShc := zh_47.set 24 (.inl (3, [some (some none), some (some none), some (some (some 25)), none, none, none, none]))
def zh_49 : List zShc := zh_48.set 24 (.inl (3, [some (some (some 1)), some (some none), some (some (some 25)), none, none, none, none]))
def zh_50 : List zShc := zh_49.set 24 (.inl (3, [some (some (some 1)), some (some (some 8)), some (some (some 25)), none, none, none, none]))
def zh_51 : List zShc := zh_50.set 0 (.inl (11, [some (some (some 1)), some (some none), none, some (some none), some (some none), some (some none), some (some none), some (some none), some (some none), some (some none), some (some none), some (some none), some (some none), some (some none)]))
def zh_52 : List zShc := zh_51 ++ [.inl (10, [some (some none), some (some none), some (some none), some (some none), some (some none), some (some none), none, none, none, none, none, none, none])]
def zh_53 : List zShc := zh_52 ++ [.inr (0, 16)]
def zh_54 : List zShc := zh_53.set 26 (.inl (10, [some (some (some 27)), some (some none), some (some none), some (some none), some (some none), some (some none), none, none, none, none, none, none, none]))
def zh_55 : List zShc := zh_54 ++ [.inr (0, 8)]
def zh_56 : List zShc := zh_55.set 26 (.inl (10, [some (some (some 27)), some (some (some 28)), some (some none), some (some none), some (some none), some (some none), none, none, none, none, none, none, none]))
def zh_57 : List zShc := zh_56 ++ [.inr (0, 8)]
def zh_58 : List zShc := zh_57.set 26 (.inl (10, [some (some (some 27)), some (some (some 28)), some (some (some 29)), some (some none), some (some none), some (some none), none, none, none, none, none, none, none]))
def zh_59 : List zShc := zh_58 ++ [.inr (0, 8)]
def zh_60 : List zShc := zh_59.set 26 (.inl (10, [some (some (some 27)), some (some (some 28)), some (some (some 29)), some (some (some 30)), some (some none), some (some none), none, none, none, none, none, none, none]))
def zh_61 : List zShc := zh_60 ++ [.inr (0, 8)]
def zh_62 : List zShc := zh_61.set 26 (.inl (10, [some (some (some 27)), some (some (some 28)), some (some (some 29)), some (some (some 30)), some (some (some 31)), some (some none), none, none, none, none, none, none, none]))
def zh_63 : List zShc := zh_62 ++ [.inr (0, 8)]
def zh_64 : List zShc := zh_63.set 26 (.inl (10, [some (some (some 27)), some (some (some 28)), some (some (some 29)), some (some (some 30)), some (some (some 31)), some (some (some 32)), none, none, none, none, none, none, none]))
def zh_65 : List zShc := zh_64.set 0 (.inl (11, [some (some (some 1)), some (some (some 26)), none, some (some none), some (some none), some (some none), some (some none), some (some none), some (some none), some (some none), some (some none), some (some none), some (some none), some (some none)]))
def zh_66 : List zShc := zh_65 ++ [.inl (8, [some (some none), none, none])]
def zh_67 : List zShc := zh_66 ++ [.inr (0, 260)]
def zh_68 : List zShc := zh_67.set 33 (.inl (8, [some (some (some 34)), none, none]))
def zh_69 : List zShc := zh_68.set 0 (.inl (11, [some (some (some 1)), some (some (some 26)), none, some (some (some 33)), some (some none), some (some none), some (some none), some (some none), some (some none), some (some none), some (some none), some (some none), some (some none), some (some none)]))
def zh_70 : List zShc := zh_69.set 0 (.inl (11, [some (some (some 1)), some (some (some 26)), none, some (some (some 33)), some (some (some 8)), some (some none), some (some none), some (some none), some (some none), some (some none), some (some none), some (some none), some (some none), some (some none)]))
def zh_71 : List zShc := zh_70 ++ [.inl (1, [some (some none), some (some none), none, some (some none), some (some none), some (some none), some (some none), none, none, some (some none), none, none, none, some (some none)])]
def zh_72 : List zShc := zh_71 ++ [.inr (0, 240)]
def zh_73 : List zShc := zh_72.set 35 (.inl (1, [some (some (some 36)), some (some none), none, some (some none), some (some none), some (some none), some (some none), none, none, some (some none), none, none, none, some (some none)]))
def zh_74 : List zShc := zh_73 ++ [.inr (0, 240)]
def zh_75 : List zShc := zh_74.set 35 (.inl (1, [some (some (some 36)), some (some (some 37)), none, some (some none), some (some none), some (some none), some (some none), none, none, some (some none), none, none, none, some (some none)]))
def zh_76 : List zShc := zh_75 ++ [.inr (0, 16)]
def zh_77 : List zShc := zh_76.set 35 (.inl (1, [some (some (some 36)), some (some (some 37)), none, some (some (some 38)), some (some none), some (some none), some (some none), none, none, some (some none), none, none, none, some (some none)]))
def zh_78 : List zShc := zh_77 ++ [.inr (0, 16)]
def zh_79 : List zShc := zh_78.set 35 (.inl (1, [some (some (some 36)), some (some (some 37)), none, some (some (some 38)), some (some (some 39)), some (some none), some (some none), none, none, some (some none), none, none, none, some (some none)]))
def zh_80 : List zShc := zh_79 ++ [.inr (0, 16)]
def zh_81 : List zShc := zh_80.set 35 (.inl (1, [some (some (some 36)), some (some (some 37)), none, some (some (some 38)), some (some (some 39)), some (some (some 40)), some (some none), none, none, some (some none), none, none, none, some (some none)]))
def zh_82 : List zShc := zh_81 ++ [.inr (0, 16)]
def zh_83 : List zShc := zh_82.set 35 (.inl (1, [some (some (some 36)), some (some (some 37)), none, some (some (some 38)), some (some (some 39)), some (some (some 40)), some (some (some 41)), none, none, some (some none), none, none, none, some (some none)]))
def zh_84 : List zShc := zh_83 ++ [.inr (0, 240)]
def zh_85 : List zShc := zh_84.set 35 (.inl (1, [some (some (some 36)), some (some (some 37)), none, some (some (some 38)), some (some (some 39)), some (some (some 40)), some (some (some 41)), none, none, some (some (some 42)), none, none, none, some (some none)]))
def zh_86 : List zShc := zh_85 ++ [.inr (0, 64)]
def zh_87 : List zShc := zh_86.set 35 (.inl (1, [some (some (some 36)), some (some (some 37)), none, some (some (some 38)), some (some (some 39)), some (some (some 40)), some (some (some 41)), none, none, some (some (some 42)), none, none, none, some (some (some 43))]))
def zh_88 : List zShc := zh_87.set 0 (.inl (11, [some (some (some 1)), some (some (some 26)), none, some (some (some 33)), some (some (some 8)), some (some (some 35)), some (some none), some (some none), some (some none), some (some none), some (some none), some (some none), some (some none), some (some none)]))
def zh_89 : List zShc := zh_88.set 0 (.inl (11, [some (some (some 1)), some (some (some 26)), none, some (some (some 33)), some (some (some 8)), some (some (some 35)), some (some (some 17)), some (some none), some (some none), some (some none), some (some none), some (some none), some (some none), some (some none)]))
def zh_90 : List zShc := zh_89 ++ [.inl (7, [some (some none), some (some none), none])]
def zh_91 : List zShc := zh_90 ++ [.inr (0, 32)]
def zh_92 : List zShc := zh_91.set 44 (.inl (7, [some (some (some 45)), some (some none), none]))
def zh_93 : List zShc := zh_92 ++ [.inr (0, 32)]
def zh_94 : List zShc := zh_93.set 44 (.inl (7, [some (some (some 45)), some (some (some 46)), none]))
def zh_95 : List zShc := zh_94.set 0 (.inl (11, [some (some (some 1)), some (some (some 26)), none, some (some (some 33)), some (some (some 8)), some (some (some 35)), some (some (some 17)), some (some (some 44)), some (some none), some (some none), some (some none), some (some none), some (some none), some (some none)]))
def zh_96 : List zShc := zh_95 ++ [.inl (4, [some (some none), some (some none), some (some none), some (some none), some (some none), none, none, some (some none), none, some (some none), some (some none), some (some none), some (some none), none])]
def zh_97 : List zShc := zh_96 ++ [.inr (0, 27648)]
def zh_98 : List zShc := zh_97.set 47 (.inl (4, [some (some none), some (some (some 48)), some (some none), some (some none), some (some none), none, none, some (some none), none, some (some none), some (some none), some (some none), some (some none), none]))
def zh_99 : List zShc := zh_98 ++ [.inr (0, 16)]
def zh_100 : List zShc := zh_99.set 47 (.inl (4, [some (some none), some (some (some 48)), some (some (some 49)), some (some none), some (some none), none, none, some (some none), none, some (some none), some (some none), some (some none), some (some none), none]))
def zh_101 : List zShc := zh_100 ++ [.inr (0, 4)]
def zh_102 : List zShc := zh_101.set 47 (.inl (4, [some (some none), some (some (some 48)), some (some (some 49)), some (some (some 50)), some (some none), none, none, some (some none), none, some (some none), some (some none), some (some none), some (some none), none]))
def zh_103 : List zShc := zh_102 ++ [.inr (0, 40)]
def zh_104 : List zShc := zh_103.set 47 (.inl (4, [some (some none), some (some (some 48)), some (some (some 49)), some (some (some 50)), some (some (some 51)), none, none, some (some none), none, some (some none), some (some none), some (some none), some (some none), none]))
def zh_105 : List zShc := zh_104 ++ [.inr (0, 6)]
def zh_106 : List zShc := zh_105.set 47 (.inl (4, [some (some none), some (some (some 48)), some (some (some 49)), some (some (some 50)), some (some (some 51)), none, none, some (some (some 52)), none, some (some none), some (some none), some (some none), some (some none), none]))
def zh_107 : List zShc := zh_106 ++ [.inr (0, 4)]
def zh_108 : List zShc := zh_107.set 47 (.inl (4, [some (some none), some (some (some 48)), some (some (some 49)), some (some (some 50)), some (some (some 51)), none, none, some (some (some 52)), none, some (some (some 53)), some (some none), some (some none), some (some none), none]))
def zh_109 : List zShc := zh_108 ++ [.inr (0, 4)]
def zh_110 : List zShc := zh_109.set 47 (.inl (4, [some (some none), some (some (some 48)), some (some (some 49)), some (some (some 50)), some (some (some 51)), none, none, some (some (some 52)), none, some (some (some 53)), some (some (some 54)), some (some none), some (some none), none]))
def zh_111 : List zShc := zh_110 ++ [.inr (0, 4)]
def zh_112 : List zShc := zh_111.set 47 (.inl (4, [some (some none), some (some (some 48)), some (some (some 49)), some (some (some 50)), some (some (some 51)), none, none, some (some (some 52)), none, some (some (some 53)), some (some (some 54)), some (some (some 55)), some (some none), none]))
def zh_113 : List zShc := zh_112 ++ [.inr (0, 4)]
def zh_114 : List zShc := zh_113.set 47 (.inl (4, [some (some none), some (some (some 48)), some (some (some 49)), some (some (some 50)), some (some (some 51)), none, none, some (some (some 52)), none, some (some (some 53)), some (some (some 54)), some (some (some 55)), some (some (some 56)), none]))
def zh_115 : List zShc := zh_114.set 47 (.inl (4, [some (some (some 17)), some (some (some 48)), some (some (some 49)), some (some (some 50)), some (some (some 51)), none, none, some (some (some 52)), none, some (some (some 53)), some (some (some 54)), some (some (some 55)), some (some (some 56)), none]))
def zh_116 : List zShc := zh_115.set 0 (.inl (11, [some (some (some 1)), some (some (some 26)), none, some (some (some 33)), some (some (some 8)), some (some (some 35)), some (some (some 17)), some (some (some 44)), some (some (some 47)), some (some none), some (some none), some (some none), some (some none), some (some none)]))
def zh_117 : List zShc := zh_116.set 0 (.inl (11, [some (some (some 1)), some (some (some 26)), none, some (some (some 33)), some (some (some 8)), some (some (some 35)), some (some (some 17)), some (some (some 44)), some (some (some 47)), some (some (some 24)), some (some none), some (some none), some (some none), some (some none)]))
def zh_118 : List zShc := zh_117 ++ [.inl (6, [some (some none), some (some none), some (some none), some (some none), some (some none), none, some (some none), some (some none), some (some none)])]
def zh_119 : List zShc := zh_118 ++ [.inr (0, 12)]
def zh_120 : List zShc := zh_119.set 57 (.inl (6, [some (some none), some (some none), some (some none), some (some (some 58)), some (some none), none, some (some none), some (some none), some (some none)]))
def zh_121 : List zShc := zh_120 ++ [.inr (0, 12)]
def zh_122 : List zShc := zh_121.set 57 (.inl (6, [some (some none), some (some none), some (some none), some (some (some 58)), some (some (some 59)), none, some (some none), some (some none), some (some none)]))
def zh_123 : List zShc := zh_122 ++ [.inr (2, 8)]
def zh_124 : List zShc := zh_123.set 57 (.inl (6, [some (some none), some (some none), some (some none), some (some (some 58)), some (some (some 59)), none, some (some (some 60)), some (some none), some (some none)]))
def zh_125 : List zShc := zh_124 ++ [.inr (2, 8)]
def zh_126 : List zShc := zh_125.set 57 (.inl (6, [some (some none), some (some none), some (some none), some (some (some 58)), some (some (some 59)), none, some (some (some 60)), some (some (some 61)), some (some none)]))
def zh_127 : List zShc := zh_126 ++ [.inr (2, 64)]
def zh_128 : List zShc := zh_127.set 57 (.inl (6, [some (some none), some (some none), some (some none), some (some (some 58)), some (some (some 59)), none, some (some (some 60)), some (some (some 61)), some (some (some 62))]))
def zh_129 : List zShc := zh_128.set 57 (.inl (6, [some (some (some 1)), some (some none), some (some none), some (some (some 58)), some (some (some 59)), none, some (some (some 60)), some (some (some 61)), some (some (some 62))]))
def zh_130 : List zShc := zh_129.set 57 (.inl (6, [some (some (some 1)), some (some (some 8)), some (some none), some (some (some 58)), some (some (some 59)), none, some (some (some 60)), some (some (some 61)), some (some (some 62))]))
def zh_131 : List zShc := zh_130.set 57 (.inl (6, [some (some (some 1)), some (some (some 8)), some (some (some 24)), some (some (some 58)), some (some (some 59)), none, some (some (some 60)), some (some (some 61)), some (some (some 62))]))
def zh_132 : List zShc := zh_131.set 0 (.inl (11, [some (some (some 1)), some (some (some 26)), none, some (some (some 33)), some (some (some 8)), some (some (some 35)), some (some (some 17)), some (some (some 44)), some (some (some 47)), some (some (some 24)), some (some (some 57)), some (some none), some (some none), some (some none)]))
def zh_133 : List zShc := zh_132 ++ [.inl (2, [some (some none), none, some none, some none])]
def zh_134 : List zShc := zh_133 ++ [.inr (0, 6)]
def zh_135 : List zShc := zh_134.set 63 (.inl (2, [some (some (some 64)), none, some none, some none]))
def zh_136 : List zShc := zh_135.set 0 (.inl (11, [some (some (some 1)), some (some (some 26)), none, some (some (some 33)), some (some (some 8)), some (some (some 35)), some (some (some 17)), some (some (some 44)), some (some (some 47)), some (some (some 24)), some (some (some 57)), some (some (some 63)), some (some none), some (some none)]))
def zh_137 : List zShc := zh_136 ++ [.inl (0, [none, some (some none)])]
def zh_138 : List zShc := zh_137 ++ [.inr (0, 6)]
def zh_139 : List zShc := zh_138.set 65 (.inl (0, [none, some (some (some 66))]))
def zh_140 : List zShc := zh_139.set 0 (.inl (11, [some (some (some 1)), some (some (some 26)), none, some (some (some 33)), some (some (some 8)), some (some (some 35)), some (some (some 17)), some (some (some 44)), some (some (some 47)), some (some (some 24)), some (some (some 57)), some (some (some 63)), some (some (some 65)), some (some none)]))
def zh_141 : List zShc := zh_140 ++ [.inl (9, [some (some none)])]
def zh_142 : List zShc := zh_141 ++ [.inr (0, 12)]
def zh_143 : List zShc := zh_142.set 67 (.inl (9, [some (some (some 68))]))
def zh_144 : List zShc := zh_143.set 0 (.inl (11, [some (some (some 1)), some (some (some 26)), none, some (some (some 33)), some (some (some 8)), some (some (some 35)), some (some (some 17)), some (some (some 44)), some (some (some 47)), some (some (some 24)), some (some (some 57)), some (some (some 63)), some (some (some 65)), some (some (some 67))]))
def zh_145 : List zShc := zh_144 ++ [.inl (12, [none, none, none, none, none, none, none, some (some none), some (some none), some (some none), some (some none), some (some none), some (some none), some (some none), none, none, none, none, none, none, none, none, none, none, some (some none), some (some none), some (some none), some (some none), some (some none), some (some none), some (some none), some (some none), some (some none), some (some none), some (some none), some (some none), some (some none), none, none, none, none, none, none, some (some none), some (some none), some (some none), some (some none), some (some none), some (some none), none, some (some none), some (some none), some (some none), none, none, some (some none), some (some none), some (some none), some (some none), none, some (some none), some (some none), none, none, none, none, none, none, none, none, some (some none), some (some none), some (some none), some (some none), some (some none), some (some none)])]
def zh_146 : List zShc := zh_145 ++ [.inr (0, 16)]
def zh_147 : List zShc := zh_146.set 69 (.inl (12, [none, none, none, none, none, none, none, some (some (some 70)), some (some none), some (some none), some (some none), some (some none), some (some none), some (some none), none, none, none, none, none, none, none, none, none, none, some (some none), some (some none), some (some none), some (some none), some (some none), some (some none), some (some none), some (some none), some (some none), some (some none), some (some none), some (some none), some (some none), none, none, none, none, none, none, some (some none), some (some none), some (some none), some (some none), some (some none), some (some none), none, some (some none), some (some none), some (some none), none, none, some (some none), some (some none), some (some none), some (some none), none, some (some none), some (some none), none, none, none, none, none, none, none, none, some (some none), some (some none), some (some none), some (some none), some (some none), some (some none)]))
def zh_148 : List zShc := zh_147 ++ [.inr (0, 8)]
def zh_149 : List zShc := zh_148.set 69 (.inl (12, [none, none, none, none, none, none, none, some (some (some 70)), some (some (some 71)), some (some none), some (some none), some (some none), some (some none), some (some none), none, none, none, none, none, none, none, none, none, none, some (some none), some (some none), some (some none), some (some none), some (some none), some (some none), some (some none), some (some none), some (some none), some (some none), some (some none), some (some none), some (some none), none, none, none, none, none, none, some (some none), some (some none), some (some none), some (some none), some (some none), some (some none), none, some (some none), some (some none), some (some none), none, none, some (some none), some (some none), some (some none), some (some none), none, some (some none), some (some none), none, none, none, none, none, none, none, none, some (some none), some (some none), some (some none), some (some none), some (some none), some (some none)]))
def zh_150 : List zShc := zh_149 ++ [.inr (0, 8)]
def zh_151 : List zShc := zh_150.set 69 (.inl (12, [none, none, none, none, none, none, none, some (some (some 70)), some (some (some 71)), some (some (some 72)), some (some none), some (some none), some (some none), some (some none), none, none, none, none, none, none, none, none, none, none, some (some none), some (some none), some (some none), some (some none), some (some none), some (some none), some (some none), some (some none), some (some none), some (some none), some (some none), some (some none), some (some none), none, none, none, none, none, none, some (some none), some (some none), some (some none), some (some none), some (some none), some (some none), none, some (some none), some (some none), some (some none), none, none, some (some none), some (some none), some (some none), some (some none), none, some (some none), some (some none), none, none, none, none, none, none, none, none, some (some none), some (some none), some (some none), some (some none), some (some none), some (some none)]))
def zh_152 : List zShc := zh_151 ++ [.inr (0, 8)]
def zh_153 : List zShc := zh_152.set 69 (.inl (12, [none, none, none, none, none, none, none, some (some (some 70)), some (some (some 71)), some (some (some 72)), some (some (some 73)), some (some none), some (some none), some (some none), none, none, none, none, none, none, none, none, none, none, some (some none), some (some none), some (some none), some (some none), some (some none), some (some none), some (some none), some (some none), some (some none), some (some none), some (some none), some (some none), some (some none), none, none, none, none, none, none, some (some none), some (some none), some (some none), some (some none), some (some none), some (some none), none, some (some none), some (some none), some (some none), none, none, some (some none), some (some none), some (some none), some (some none), none, some (some none), some (some none), none, none, none, none, none, none, none, none, some (some none), some (some none), some (some none), some (some none), some (some none), some (some none)]))
def zh_154 : List zShc := zh_153 ++ [.inr (0, 8)]
def zh_155 : List zShc := zh_154.set 69 (.inl (12, [none, none, none, none, none, none, none, some (some (some 70)), some (some (some 71)), some (some (some 72)), some (some (some 73)), some (some (some 74)), some (some none), some (some none), none, none, none, none, none, none, none, none, none, none, some (some none), some (some none), some (some none), some (some none), some (some none), some (some none), some (some none), some (some none), some (some none), some (some none), some (some none), some (some none), some (some none), none, none, none, none, none, none, some (some none), some (some none), some (some none), some (some none), some (some none), some (some none), none, some (some none), some (some none), some (some none), none, none, some (some none), some (some none), some (some none), some (some none), none, some (some none), some (some none), none, none, none, none, none, none, none, none, some (some none), some (some none), some (some none), some (some none), some (some none), some (some none)]))
def zh_156 : List zShc := zh_155 ++ [.inr (0, 8)]
def zh_157 : List zShc := zh_156.set 69 (.inl (12, [none, none, none, none, none, none, none, some (some (some 70)), some (some (some 71)), some (some (some 72)), some (some (some 73)), some (some (some 74)), some (some (some 75)), some (some none), none, none, none, none, none, none, none, none, none, none, some (some none), some (some none), some (some none), some (some none), some (some none), some (some none), some (some none), some (some none), some (some none), some (some none), some (some none), some (some none), some (some none), none, none, none, none, none, none, some (some none), some (some none), some (some none), some (some none), some (some none), some (some none), none, some (some none), some (some none), some (some none), none, none, some (some none), some (some none), some (some none), some (some none), none, some (some none), some (some none), none, none, none, none, none, none, none, none, some (some none), some (some none), some (some none), some (some none), some (some none), some (some none)]))
def zh_158 : List zShc := zh_157 ++ [.inr (1, 260)]
def zh_159 : List zShc := zh_158.set 69 (.inl (12, [none, none, none, none, none, none, none, some (some (some 70)), some (some (some 71)), some (some (some 72)), some (some (some 73)), some (some (some 74)), some (some (some 75)), some (some (some 76)), none, none, none, none, none, none, none, none, none, none, some (some none), some (some none), some (some none), some (some none), some (some none), some (some none), some (some none), some (some none), some (some none), some (some none), some (some none), some (some none), some (some none), none, none, none, none, none, none, some (some none), some (some none), some (some none), some (some none), some (some none), some (some none), none, some (some none), some (some none), some (some none), none, none, some (some none), some (some none), some (some none), some (some none), none, some (some none), some (some none), none, none, none, none, none, none, none, none, some (some none), some (some none), some (some none), some (some none), some (some none), some (some none)]))
def zh_160 : List zShc := zh_159 ++ [.inr (0, 260)]
def zh_161 : List zShc := zh_160.set 69 (.inl (12, [none, none, none, none, none, none, none, some (some (some 70)), some (some (some 71)), some (some (some 72)), some (some (some 73)), some (some (some 74)), some (some (some 75)), some (some (some 76)), none, none, none, none, none, none, none, none, none, none, some (some (some 77)), some (some none), some (some none), some (some none), some (some none), some (some none), some (some none), some (some none), some (some none), some (some none), some (some none), some (some none), some (some none), none, none, none, none, none, none, some (some none), some (some none), some (some none), some (some none), some (some none), some (some none), none, some (some none), some (some none), some (some none), none, none, some (some none), some (some none), some (some none), some (some none), none, some (some none), some (some none), none, none, none, none, none, none, none, none, some (some none), some (some none), some (some none), some (some none), some (some none), some (some none)]))
def zh_162 : List zShc := zh_161 ++ [.inr (0, 260)]
def zh_163 : List zShc := zh_162.set 69 (.inl (12, [none, none, none, none, none, none, none, some (some (some 70)), some (some (some 71)), some (some (some 72)), some (some (some 73)), some (some (some 74)), some (some (some 75)), some (some (some 76)), none, none, none, none, none, none, none, none, none, none, some (some (some 77)), some (some (some 78)), some (some none), some (some none), some (some none), some (some none), some (some none), some (some none), some (some none), some (some none), some (some none), some (some none), some (some none), none, none, none, none, none, none, some (some none), some (some none), some (some none), some (some none), some (some none), some (some none), none, some (some none), some (some none), some (some none), none, none, some (some none), some (some none), some (some none), some (some none), none, some (some none), some (some none), none, none, none, none, none, none, none, none, some (some none), some (some none), some (some none), some (some none), some (some none), some (some none)]))
def zh_164 : List zShc := zh_163 ++ [.inr (0, 16)]
def zh_165 : List zShc := zh_164.set 69 (.inl (12, [none, none, none, none, none, none, none, some (some (some 70)), some (some (some 71)), some (some (some 72)), some (some (some 73)), some (some (some 74)), some (some (some 75)), some (some (some 76)), none, none, none, none, none, none, none, none, none, none, some (some (some 77)), some (some (some 78)), some (some (some 79)), some (some none), some (some none), some (some none), some (some none), some (some none), some (some none), some (some none), some (some none), some (some none), some (some none), none, none, none, none, none, none, some (some none), some (some none), some (some none), some (some none), some (some none), some (some none), none, some (some none), some (some none), some (some none), none, none, some (some none), some (some none), some (some none), some (some none), none, some (some none), some (some none), none, none, none, none, none, none, none, none, some (some none), some (some none), some (some none), some (some none), some (some none), some (some none)]))
def zh_166 : List zShc := zh_165 ++ [.inr (0, 16)]
def zh_167 : List zShc := zh_166.set 69 (.inl (12, [none, none, none, none, none, none, none, some (some (some 70)), some (some (some 71)), some (some (some 72)), some (some (some 73)), some (some (some 74)), some (some (some 75)), some (some (some 76)), none, none, none, none, none, none, none, none, none, none, some (some (some 77)), some (some (some 78)), some (some (some 79)), some (some (some 80)), some (some none), some (some none), some (some none), some (some none), some (some none), some (some none), some (some none), some (some none), some (some none), none, none, none, none, none, none, some (some none), some (some none), some (some none), some (some none), some (some none), some (some none), none, some (some none), some (some none), some (some none), none, none, some (some none), some (some none), some (some none), some (some none), none, some (some none), some (some none), none, none, none, none, none, none, none, none, some (some none), some (some none), some (some none), some (some none), some (some none), some (some none)]))
def zh_168 : List zShc := zh_167 ++ [.inr (0, 16)]
def zh_169 : List zShc := zh_168.set 69 (.inl (12, [none, none, none, none, none, none, none, some (some (some 70)), some (some (some 71)), some (some (some 72)), some (some (some 73)), some (some (some 74)), some (some (some 75)), some (some (some 76)), none, none, none, none, none, none, none, none, none, none, some (some (some 77)), some (some (some 78)), some (some (some 79)), some (some (some 80)), some (some (some 81)), some (some none), some (some none), some (some none), some (some none), some (some none), some (some none), some (some none), some (some none), none, none, none, none, none, none, some (some none), some (some none), some (some none), some (some none), some (some none), some (some none), none, some (some none), some (some none), some (some none), none, none, some (some none), some (some none), some (some none), some (some none), none, some (some none), some (some none), none, none, none, none, none, none, none, none, some (some none), some (some none), some (some none), some (some none), some (some none), some (some none)]))
def zh_170 : List zShc := zh_169 ++ [.inr (0, 16)]
def zh_171 : List zShc := zh_170.set 69 (.inl (12, [none, none, none, none, none, none, none, some (some (some 70)), some (some (some 71)), some (some (some 72)), some (some (some 73)), some (some (some 74)), some (some (some 75)), some (some (some 76)), none, none, none, none, none, none, none, none, none, none, some (some (some 77)), some (some (some 78)), some (some (some 79)), some (some (some 80)), some (some (some 81)), some (some (some 82)), some (some none), some (some none), some (some none), some (some none), some (some none), some (some none), some (some none), none, none, none, none, none, none, some (some none), some (some none), some (some none), some (some none), some (some none), some (some none), none, some (some none), some (some none), some (some none), none, none, some (some none), some (some none), some (some none), some (some none), none, some (some none), some (some none), none, none, none, none, none, none, none, none, some (some none), some (some none), some (some none), some (some none), some (some none), some (some none)]))
def zh_172 : List zShc := zh_171 ++ [.inr (0, 260)]
def zh_173 : List zShc := zh_172.set 69 (.inl (12, [none, none, none, none, none, none, none, some (some (some 70)), some (some (some 71)), some (some (some 72)), some (some (some 73)), some (some (some 74)), some (some (some 75)), some (some (some 76)), none, none, none, none, none, none, none, none, none, none, some (some (some 77)), some (some (some 78)), some (some (some 79)), some (some (some 80)), some (some (some 81)), some (some (some 82)), some (some (some 83)), some (some none), some (some none), some (some none), some (some none), some (some none), some (some none), none, none, none, none, none, none, some (some none), some (some none), some (some none), some (some none), some (some none), some (some none), none, some (some none), some (some none), some (some none), none, none, some (some none), some (some none), some (some none), some (some none), none, some (some none), some (some none), none, none, none, none, none, none, none, none, some (some none), some (some none), some (some none), some (some none), some (some none), some (some none)]))
def zh_174 : List zShc := zh_173 ++ [.inr (0, 16)]
def zh_175 : List zShc := zh_174.set 69 (.inl (12, [none, none, none, none, none, none, none, some (some (some 70)), some (some (some 71)), some (some (some 72)), some (some (some 73)), some (some (some 74)), some (some (some 75)), some (some (some 76)), none, none, none, none, none, none, none, none, none, none, some (some (some 77)), some (some (some 78)), some (some (some 79)), some (some (some 80)), some (some (some 81)), some (some (some 82)), some (some (some 83)), some (some (some 84)), some (some none), some (some none), some (some none), some (some none), some (some none), none, none, none, none, none, none, some (some none), some (some none), some (some none), some (some none), some (some none), some (some none), none, some (some none), some (some none), some (some none), none, none, some (some none), some (some none), some (some none), some (some none), none, some (some none), some (some none), none, none, none, none, none, none, none, none, some (some none), some (some none), some (some none), some (some none), some (some none), some (some none)]))
def zh_176 : List zShc := zh_175 ++ [.inr (0, 16)]
def zh_177 : List zShc := zh_176.set 69 (.inl (12, [none, none, none, none, none, none, none, some (some (some 70)), some (some (some 71)), some (some (some 72)), some (some (some 73)), some (some (some 74)), some (some (some 75)), some (some (some 76)), none, none, none, none, none, none, none, none, none, none, some (some (some 77)), some (some (some 78)), some (some (some 79)), some (some (some 80)), some (some (some 81)), some (some (some 82)), some (some (some 83)), some (some (some 84)), some (some (some 85)), some (some none), some (some none), some (some none), some (some none), none, none, none, none, none, none, some (some none), some (some none), some (some none), some (some none), some (some none), some (some none), none, some (some none), some (some none), some (some none), none, none, some (some none), some (some none), some (some none), some (some none), none, some (some none), some (some none), none, none, none, none, none, none, none, none, some (some none), some (some none), some (some none), some (some none), some (some none), some (some none)]))
def zh_178 : List zShc := zh_177 ++ [.inr (0, 16)]
def zh_179 : List zShc := zh_178.set 69 (.inl (12, [none, none, none, none, none, none, none, some (some (some 70)), some (some (some 71)), some (some (some 72)), some (some (some 73)), some (some (some 74)), some (some (some 75)), some (some (some 76)), none, none, none, none, none, none, none, none, none, none, some (some (some 77)), some (some (some 78)), some (some (some 79)), some (some (some 80)), some (some (some 81)), some (some (some 82)), some (some (some 83)), some (some (some 84)), some (some (some 85)), some (some (some 86)), some (some none), some (some none), some (some none), none, none, none, none, none, none, some (some none), some (some none), some (some none), some (some none), some (some none), some (some none), none, some (some none), some (some none), some (some none), none, none, some (some none), some (some none), some (some none), some (some none), none, some (some none), some (some none), none, none, none, none, none, none, none, none, some (some none), some (some none), some (some none), some (some none), some (some none), some (some none)]))
def zh_180 : List zShc := zh_179 ++ [.inr (0, 16)]
def zh_181 : List zShc := zh_180.set 69 (.inl (12, [none, none, none, none, none, none, none, some (some (some 70)), some (some (some 71)), some (some (some 72)), some (some (some 73)), some (some (some 74)), some (some (some 75)), some (some (some 76)), none, none, none, none, none, none, none, none, none, none, some (some (some 77)), some (some (some 78)), some (some (some 79)), some (some (some 80)), some (some (some 81)), some (some (some 82)), some (some (some 83)), some (some (some 84)), some (some (some 85)), some (some (some 86)), some (some (some 87)), some (some none), some (some none), none, none, none, none, none, none, some (some none), some (some none), some (some none), some (some none), some (some none), some (some none), none, some (some none), some (some none), some (some none), none, none, some (some none), some (some none), some (some none), some (some none), none, some (some none), some (some none), none, none, none, none, none, none, none, none, some (some none), some (some none), some (some none), some (some none), some (some none), some (some none)]))
def zh_182 : List zShc := zh_181 ++ [.inr (0, 260)]
def zh_183 : List zShc := zh_182.set 69 (.inl (12, [none, none, none, none, none, none, none, some (some (some 70)), some (some (some 71)), some (some (some 72)), some (some (some 73)), some (some (some 74)), some (some (some 75)), some (some (some 76)), none, none, none, none, none, none, none, none, none, none, some (some (some 77)), some (some (some 78)), some (some (some 79)), some (some (some 80)), some (some (some 81)), some (some (some 82)), some (some (some 83)), some (some (some 84)), some (some (some 85)), some (some (some 86)), some (some (some 87)), some (some (some 88)), some (some none), none, none, none, none, none, none, some (some none), some (some none), some (some none), some (some none), some (some none), some (some none), none, some (some none), some (some none), some (some none), none, none, some (some none), some (some none), some (some none), some (some none), none, some (some none), some (some none), none, none, none, none, none, none, none, none, some (some none), some (some none), some (some none), some (some none), some (some none), some (some none)]))
def zh_184 : List zShc := zh_183 ++ [.inr (0, 9)]
def zh_185 : List zShc := zh_184.set 69 (.inl (12, [none, none, none, none, none, none, none, some (some (some 70)), some (some (some 71)), some (some (some 72)), some (some (some 73)), some (some (some 74)), some (some (some 75)), some (some (some 76)), none, none, none, none, none, none, none, none, none, none, some (some (some 77)), some (some (some 78)), some (some (some 79)), some (some (some 80)), some (some (some 81)), some (some (some 82)), some (some (some 83)), some (some (some 84)), some (some (some 85)), some (some (some 86)), some (some (some 87)), some (some (some 88)), some (some (some 89)), none, none, none, none, none, none, some (some none), some (some none), some (some none), some (some none), some (some none), some (some none), none, some (some none), some (some none), some (some none), none, none, some (some none), some (some none), some (some none), some (some none), none, some (some none), some (some none), none, none, none, none, none, none, none, none, some (some none), some (some none), some (some none), some (some none), some (some none), some (some none)]))
def zh_186 : List zShc := zh_185 ++ [.inr (0, 32)]
def zh_187 : List zShc := zh_186.set 69 (.inl (12, [none, none, none, none, none, none, none, some (some (some 70)), some (some (some 71)), some (some (some 72)), some (some (some 73)), some (some (some 74)), some (some (some 75)), some (some (some 76)), none, none, none, none, none, none, none, none, none, none, some (some (some 77)), some (some (some 78)), some (some (some 79)), some (some (some 80)), some (some (some 81)), some (some (some 82)), some (some (some 83)), some (some (some 84)), some (some (some 85)), some (some (some 86)), some (some (some 87)), some (some (some 88)), some (some (some 89)), none, none, none, none, none, none, some (some (some 90)), some (some none), some (some none), some (some none), some (some none), some (some none), none, some (some none), some (some none), some (some none), none, none, some (some none), some (some none), some (some none), some (some none), none, some (some none), some (some none), none, none, none, none, none, none, none, none, some (some none), some (some none), some (some none), some (some none), some (some none), some (some none)]))
def zh_188 : List zShc := zh_187 ++ [.inr (0, 32)]
def zh_189 : List zShc := zh_188.set 69 (.inl (12, [none, none, none, none, none, none, none, some (some (some 70)), some (some (some 71)), some (some (some 72)), some (some (some 73)), some (some (some 74)), some (some (some 75)), some (some (some 76)), none, none, none, none, none, none, none, none, none, none, some (some (some 77)), some (some (some 78)), some (some (some 79)), some (some (some 80)), some (some (some 81)), some (some (some 82)), some (some (some 83)), some (some (some 84)), some (some (some 85)), some (some (some 86)), some (some (some 87)), some (some (some 88)), some (some (some 89)), none, none, none, none, none, none, some (some (some 90)), some (some (some 91)), some (some none), some (some none), some (some none), some (some none), none, some (some none), some (some none), some (some none), none, none, some (some none), some (some none), some (some none), some (some none), none, some (some none), some (some none), none, none, none, none, none, none, none, none, some (some none), some (some none), some (some none), some (some none), some (some none), some (some none)]))
def zh_190 : List zShc := zh_189 ++ [.inr (0, 27648)]
def zh_191 : List zShc := zh_190.set 69 (.inl (12, [none, none, none, none, none, none, none, some (some (some 70)), some (some (some 71)), some (some (some 72)), some (some (some 73)), some (some (some 74)), some (some (some 75)), some (some (some 76)), none, none, none, none, none, none, none, none, none, none, some (some (some 77)), some (some (some 78)), some (some (some 79)), some (some (some 80)), some (some (some 81)), some (some (some 82)), some (some (some 83)), some (some (some 84)), some (some (some 85)), some (some (some 86)), some (some (some 87)), some (some (some 88)), some (some (some 89)), none, none, none, none, none, none, some (some (some 90)), some (some (some 91)), some (some (some 92)), some (some none), some (some none), some (some none), none, some (some none), some (some none), some (some none), none, none, some (some none), some (some none), some (some none), some (some none), none, some (some none), some (some none), none, none, none, none, none, none, none, none, some (some none), some (some none), some (some none), some (some none), some (some none), some (some none)]))
def zh_192 : List zShc := zh_191 ++ [.inr (0, 8)]
def zh_193 : List zShc := zh_192.set 69 (.inl (12, [none, none, none, none, none, none, none, some (some (some 70)), some (some (some 71)), some (some (some 72)), some (some (some 73)), some (some (some 74)), some (some (some 75)), some (some (some 76)), none, none, none, none, none, none, none, none, none, none, some (some (some 77)), some (some (some 78)), some (some (some 79)), some (some (some 80)), some (some (some 81)), some (some (some 82)), some (some (some 83)), some (some (some 84)), some (some (some 85)), some (some (some 86)), some (some (some 87)), some (some (some 88)), some (some (some 89)), none, none, none, none, none, none, some (some (some 90)), some (some (some 91)), some (some (some 92)), some (some (some 93)), some (some none), some (some none), none, some (some none), some (some none), some (some none), none, none, some (some none), some (some none), some (some none), some (some none), none, some (some none), some (some none), none, none, none, none, none, none, none, none, some (some none), some (some none), some (some none), some (some none), some (some none), some (some none)]))
def zh_194 : List zShc := zh_193 ++ [.inr (0, 3)]
def zh_195 : List zShc := zh_194.set 69 (.inl (12, [none, none, none, none, none, none, none, some (some (some 70)), some (some (some 71)), some (some (some 72)), some (some (some 73)), some (some (some 74)), some (some (some 75)), some (some (some 76)), none, none, none, none, none, none, none, none, none, none, some (some (some 77)), some (some (some 78)), some (some (some 79)), some (some (some 80)), some (some (some 81)), some (some (some 82)), some (some (some 83)), some (some (some 84)), some (some (some 85)), some (some (some 86)), some (some (some 87)), some (some (some 88)), some (some (some 89)), none, none, none, none, none, none, some (some (some 90)), some (some (some 91)), some (some (some 92)), some (some (some 93)), some (some (some 94)), some (some none), none, some (some none), some (some none), some (some none), none, none, some (some none), some (some none), some (some none), some (some none), none, some (some none), some (some none), none, none, none, none, none, none, none, none, some (some none), some (some none), some (some none), some (some none), some (some none), some (some none)]))
def zh_196 : List zShc := zh_195 ++ [.inr (0, 8)]
def zh_197 : List zShc := zh_196.set 69 (.inl (12, [none, none, none, none, none, none, none, some (some (some 70)), some (some (some 71)), some (some (some 72)), some (some (some 73)), some (some (some 74)), some (some (some 75)), some (some (some 76)), none, none, none, none, none, none, none, none, none, none, some (some (some 77)), some (some (some 78)), some (some (some 79)), some (some (some 80)), some (some (some 81)), some (some (some 82)), some (some (some 83)), some (some (some 84)), some (some (some 85)), some (some (some 86)), some (some (some 87)), some (some (some 88)), some (some (some 89)), none, none, none, none, none, none, some (some (some 90)), some (some (some 91)), some (some (some 92)), some (some (some 93)), some (some (some 94)), some (some (some 95)), none, some (some none), some (some none), some (some none), none, none, some (some none), some (some none), some (some none), some (some none), none, some (some none), some (some none), none, none, none, none, none, none, none, none, some (some none), some (some none), some (some none), some (some none), some (some none), some (some none)]))
def zh_198 : List zShc := zh_197 ++ [.inr (0, 4)]
def zh_199 : List zShc := zh_198.set 69 (.inl (12, [none, none, none, none, none, none, none, some (some (some 70)), some (some (some 71)), some (some (some 72)), some (some (some 73)), some (some (some 74)), some (some (some 75)), some (some (some 76)), none, none, none, none, none, none, none, none, none, none, some (some (some 77)), some (some (some 78)), some (some (some 79)), some (some (some 80)), some (some (some 81)), some (some (some 82)), some (some (some 83)), some (some (some 84)), some (some (some 85)), some (some (some 86)), some (some (some 87)), some (some (some 88)), some (some (some 89)), none, none, none, none, none, none, some (some (some 90)), some (some (some 91)), some (some (some 92)), some (some (some 93)), some (some (some 94)), some (some (some 95)), none, some (some (some 96)), some (some none), some (some none), none, none, some (some none), some (some none), some (some none), some (some none), none, some (some none), some (some none), none, none, none, none, none, none, none, none, some (some none), some (some none), some (some none), some (some none), some (some none), some (some none)]))
def zh_200 : List zShc := zh_199 ++ [.inr (0, 4)]
def zh_201 : List zShc := zh_200.set 69 (.inl (12, [none, none, none, none, none, none, none, some (some (some 70)), some (some (some 71)), some (some (some 72)), some (some (some 73)), some (some (some 74)), some (some (some 75)), some (some (some 76)), none, none, none, none, none, none, none, none, none, none, some (some (some 77)), some (some (some 78)), some (some (some 79)), some (some (some 80)), some (some (some 81)), some (some (some 82)), some (some (some 83)), some (some (some 84)), some (some (some 85)), some (some (some 86)), some (some (some 87)), some (some (some 88)), some (some (some 89)), none, none, none, none, none, none, some (some (some 90)), some (some (some 91)), some (some (some 92)), some (some (some 93)), some (some (some 94)), some (some (some 95)), none, some (some (some 96)), some (some (some 97)), some (some none), none, none, some (some none), some (some none), some (some none), some (some none), none, some (some none), some (some none), none, none, none, none, none, none, none, none, some (some none), some (some none), some (some none), some (some none), some (some none), some (some none)]))
def zh_202 : List zShc := zh_201 ++ [.inr (0, 4)]
def zh_203 : List zShc := zh_202.set 69 (.inl (12, [none, none, none, none, none, none, none, some (some (some 70)), some (some (some 71)), some (some (some 72)), some (some (some 73)), some (some (some 74)), some (some (some 75)), some (some (some 76)), none, none, none, none, none, none, none, none, none, none, some (some (some 77)), some (some (some 78)), some (some (some 79)), some (some (some 80)), some (some (some 81)), some (some (some 82)), some (some (some 83)), some (some (some 84)), some (some (some 85)), some (some (some 86)), some (some (some 87)), some (some (some 88)), some (some (some 89)), none, none, none, none, none, none, some (some (some 90)), some (some (some 91)), some (some (some 92)), some (some (some 93)), some (some (some 94)), some (some (some 95)), none, some (some (some 96)), some (some (some 97)), some (some (some 98)), none, none, some (some none), some (some none), some (some none), some (some none), none, some (some none), some (some none), none, none, none, none, none, none, none, none, some (some none), some (some none), some (some none), some (some none), some (some none), some (some none)]))
def zh_204 : List zShc := zh_203 ++ [.inr (0, 12)]
def zh_205 : List zShc := zh_204.set 69 (.inl (12, [none, none, none, none, none, none, none, some (some (some 70)), some (some (some 71)), some (some (some 72)), some (some (some 73)), some (some (some 74)), some (some (some 75)), some (some (some 76)), none, none, none, none, none, none, none, none, none, none, some (some (some 77)), some (some (some 78)), some (some (some 79)), some (some (some 80)), some (some (some 81)), some (some (some 82)), some (some (some 83)), some (some (some 84)), some (some (some 85)), some (some (some 86)), some (some (some 87)), some (some (some 88)), some (some (some 89)), none, none, none, none, none, none, some (some (some 90)), some (some (some 91)), some (some (some 92)), some (some (some 93)), some (some (some 94)), some (some (some 95)), none, some (some (some 96)), some (some (some 97)), some (some (some 98)), none, none, some (some (some 99)), some (some none), some (some none), some (some none), none, some (some none), some (some none), none, none, none, none, none, none, none, none, some (some none), some (some none), some (some none), some (some none), some (some none), some (some none)]))
def zh_206 : List zShc := zh_205 ++ [.inr (0, 12)]
def zh_207 : List zShc := zh_206.set 69 (.inl (12, [none, none, none, none, none, none, none, some (some (some 70)), some (some (some 71)), some (some (some 72)), some (some (some 73)), some (some (some 74)), some (some (some 75)), some (some (some 76)), none, none, none, none, none, none, none, none, none, none, some (some (some 77)), some (some (some 78)), some (some (some 79)), some (some (some 80)), some (some (some 81)), some (some (some 82)), some (some (some 83)), some (some (some 84)), some (some (some 85)), some (some (some 86)), some (some (some 87)), some (some (some 88)), some (some (some 89)), none, none, none, none, none, none, some (some (some 90)), some (some (some 91)), some (some (some 92)), some (some (some 93)), some (some (some 94)), some (some (some 95)), none, some (some (some 96)), some (some (some 97)), some (some (some 98)), none, none, some (some (some 99)), some (some (some 100)), some (some none), some (some none), none, some (some none), some (some none), none, none, none, none, none, none, none, none, some (some none), some (some none), some (some none), some (some none), some (some none), some (some none)]))
def zh_208 : List zShc := zh_207 ++ [.inr (2, 8)]
def zh_209 : List zShc := zh_208.set 69 (.inl (12, [none, none, none, none, none, none, none, some (some (some 70)), some (some (some 71)), some (some (some 72)), some (some (some 73)), some (some (some 74)), some (some (some 75)), some (some (some 76)), none, none, none, none, none, none, none, none, none, none, some (some (some 77)), some (some (some 78)), some (some (some 79)), some (some (some 80)), some (some (some 81)), some (some (some 82)), some (some (some 83)), some (some (some 84)), some (some (some 85)), some (some (some 86)), some (some (some 87)), some (some (some 88)), some (some (some 89)), none, none, none, none, none, none, some (some (some 90)), some (some (some 91)), some (some (some 92)), some (some (some 93)), some (some (some 94)), some (some (some 95)), none, some (some (some 96)), some (some (some 97)), some (some (some 98)), none, none, some (some (some 99)), some (some (some 100)), some (some (some 101)), some (some none), none, some (some none), some (some none), none, none, none, none, none, none, none, none, some (some none), some (some none), some (some none), some (some none), some (some none), some (some none)]))
def zh_210 : List zShc := zh_209 ++ [.inr (2, 64)]
def zh_211 : List zShc := zh_210.set 69 (.inl (12, [none, none, none, none, none, none, none, some (some (some 70)), some (some (some 71)), some (some (some 72)), some (some (some 73)), some (some (some 74)), some (some (some 75)), some (some (some 76)), none, none, none, none, none, none, none, none, none, none, some (some (some 77)), some (some (some 78)), some (some (some 79)), some (some (some 80)), some (some (some 81)), some (some (some 82)), some (some (some 83)), some (some (some 84)), some (some (some 85)), some (some (some 86)), some (some (some 87)), some (some (some 88)), some (some (some 89)), none, none, none, none, none, none, some (some (some 90)), some (some (some 91)), some (some (some 92)), some (some (some 93)), some (some (some 94)), some (some (some 95)), none, some (some (some 96)), some (some (some 97)), some (some (some 98)), none, none, some (some (some 99)), some (some (some 100)), some (some (some 101)), some (some (some 102)), none, some (some none), some (some none), none, none, none, none, none, none, none, none, some (some none), some (some none), some (some none), some (some none), some (some none), some (some none)]))
def zh_212 : List zShc := zh_211 ++ [.inr (0, 6)]
def zh_213 : List zShc := zh_212.set 69 (.inl (12, [none, none, none, none, none, none, none, some (some (some 70)), some (some (some 71)), some (some (some 72)), some (some (some 73)), some (some (some 74)), some (some (some 75)), some (some (some 76)), none, none, none, none, none, none, none, none, none, none, some (some (some 77)), some (some (some 78)), some (some (some 79)), some (some (some 80)), some (some (some 81)), some (some (some 82)), some (some (some 83)), some (some (some 84)), some (some (some 85)), some (some (some 86)), some (some (some 87)), some (some (some 88)), some (some (some 89)), none, none, none, none, none, none, some (some (some 90)), some (some (some 91)), some (some (some 92)), some (some (some 93)), some (some (some 94)), some (some (some 95)), none, some (some (some 96)), some (some (some 97)), some (some (some 98)), none, none, some (some (some 99)), some (some (some 100)), some (some (some 101)), some (some (some 102)), none, some (some (some 103)), some (some none), none, none, none, none, none, none, none, none, some (some none), some (some none), some (some none), some (some none), some (some none), some (some none)]))
def zh_214 : List zShc := zh_213 ++ [.inr (0, 12)]
def zh_215 : List zShc := zh_214.set 69 (.inl (12, [none, none, none, none, none, none, none, some (some (some 70)), some (some (some 71)), some (some (some 72)), some (some (some 73)), some (some (some 74)), some (some (some 75)), some (some (some 76)), none, none, none, none, none, none, none, none, none, none, some (some (some 77)), some (some (some 78)), some (some (some 79)), some (some (some 80)), some (some (some 81)), some (some (some 82)), some (some (some 83)), some (some (some 84)), some (some (some 85)), some (some (some 86)), some (some (some 87)), some (some (some 88)), some (some (some 89)), none, none, none, none, none, none, some (some (some 90)), some (some (some 91)), some (some (some 92)), some (some (some 93)), some (some (some 94)), some (some (some 95)), none, some (some (some 96)), some (some (some 97)), some (some (some 98)), none, none, some (some (some 99)), some (some (some 100)), some (some (some 101)), some (some (some 102)), none, some (some (some 103)), some (some (some 104)), none, none, none, none, none, none, none, none, some (some none), some (some none), some (some none), some (some none), some (some none), some (some none)]))
def zh_216 : List zShc := zh_215 ++ [.inr (0, 16)]
def zh_217 : List zShc := zh_216.set 69 (.inl (12, [none, none, none, none, none, none, none, some (some (some 70)), some (some (some 71)), some (some (some 72)), some (some (some 73)), some (some (some 74)), some (some (some 75)), some (some (some 76)), none, none, none, none, none, none, none, none, none, none, some (some (some 77)), some (some (some 78)), some (some (some 79)), some (some (some 80)), some (some (some 81)), some (some (some 82)), some (some (some 83)), some (some (some 84)), some (some (some 85)), some (some (some 86)), some (some (some 87)), some (some (some 88)), some (some (some 89)), none, none, none, none, none, none, some (some (some 90)), some (some (some 91)), some (some (some 92)), some (some (some 93)), some (some (some 94)), some (some (some 95)), none, some (some (some 96)), some (some (some 97)), some (some (some 98)), none, none, some (some (some 99)), some (some (some 100)), some (some (some 101)), some (some (some 102)), none, some (some (some 103)), some (some (some 104)), none, none, none, none, none, none, none, none, some (some (some 105)), some (some none), some (some none), some (some none), some (some none), some (some none)]))
def zh_218 : List zShc := zh_217 ++ [.inr (0, 8)]
def zh_219 : List zShc := zh_218.set 69 (.inl (12, [none, none, none, none, none, none, none, some (some (some 70)), some (some (some 71)), some (some (some 72)), some (some (some 73)), some (some (some 74)), some (some (some 75)), some (some (some 76)), none, none, none, none, none, none, none, none, none, none, some (some (some 77)), some (some (some 78)), some (some (some 79)), some (some (some 80)), some (some (some 81)), some (some (some 82)), some (some (some 83)), some (some (some 84)), some (some (some 85)), some (some (some 86)), some (some (some 87)), some (some (some 88)), some (some (some 89)), none, none, none, none, none, none, some (some (some 90)), some (some (some 91)), some (some (some 92)), some (some (some 93)), some (some (some 94)), some (some (some 95)), none, some (some (some 96)), some (some (some 97)), some (some (some 98)), none, none, some (some (some 99)), some (some (some 100)), some (some (some 101)), some (some (some 102)), none, some (some (some 103)), some (some (some 104)), none, none, none, none, none, none, none, none, some (some (some 105)), some (some (some 106)), some (some none), some (some none), some (some none), some (some none)]))
def zh_220 : List zShc := zh_219 ++ [.inr (0, 8)]
def zh_221 : List zShc := zh_220.set 69 (.inl (12, [none, none, none, none, none, none, none, some (some (some 70)), some (some (some 71)), some (some (some 72)), some (some (some 73)), some (some (some 74)), some (some (some 75)), some (some (some 76)), none, none, none, none, none, none, none, none, none, none, some (some (some 77)), some (some (some 78)), some (some (some 79)), some (some (some 80)), some (some (some 81)), some (some (some 82)), some (some (some 83)), some (some (some 84)), some (some (some 85)), some (some (some 86)), some (some (some 87)), some (some (some 88)), some (some (some 89)), none, none, none, none, none, none, some (some (some 90)), some (some (some 91)), some (some (some 92)), some (some (some 93)), some (some (some 94)), some (some (some 95)), none, some (some (some 96)), some (some (some 97)), some (some (some 98)), none, none, some (some (some 99)), some (some (some 100)), some (some (some 101)), some (some (some 102)), none, some (some (some 103)), some (some (some 104)), none, none, none, none, none, none, none, none, some (some (some 105)), some (some (some 106)), some (some (some 107)), some (some none), some (some none), some (some none)]))
def zh_222 : List zShc := zh_221 ++ [.inr (0, 8)]
def zh_223 : List zShc := zh_222.set 69 (.inl (12, [none, none, none, none, none, none, none, some (some (some 70)), some (some (some 71)), some (some (some 72)), some (some (some 73)), some (some (some 74)), some (some (some 75)), some (some (some 76)), none, none, none, none, none, none, none, none, none, none, some (some (some 77)), some (some (some 78)), some (some (some 79)), some (some (some 80)), some (some (some 81)), some (some (some 82)), some (some (some 83)), some (some (some 84)), some (some (some 85)), some (some (some 86)), some (some (some 87)), some (some (some 88)), some (some (some 89)), none, none, none, none, none, none, some (some (some 90)), some (some (some 91)), some (some (some 92)), some (some (some 93)), some (some (some 94)), some (some (some 95)), none, some (some (some 96)), some (some (some 97)), some (some (some 98)), none, none, some (some (some 99)), some (some (some 100)), some (some (some 101)), some (some (some 102)), none, some (some (some 103)), some (some (some 104)), none, none, none, none, none, none, none, none, some (some (some 105)), some (some (some 106)), some (some (some 107)), some (some (some 108)), some (some none), some (some none)]))
def zh_224 : List zShc := zh_223 ++ [.inr (0, 8)]
def zh_225 : List zShc := zh_224.set 69 (.inl (12, [none, none, none, none, none, none, none, some (some (some 70)), some (some (some 71)), some (some (some 72)), some (some (some 73)), some (some (some 74)), some (some (some 75)), some (some (some 76)), none, none, none, none, none, none, none, none, none, none, some (some (some 77)), some (some (some 78)), some (some (some 79)), some (some (some 80)), some (some (some 81)), some (some (some 82)), some (some (some 83)), some (some (some 84)), some (some (some 85)), some (some (some 86)), some (some (some 87)), some (some (some 88)), some (some (some 89)), none, none, none, none, none, none, some (some (some 90)), some (some (some 91)), some (some (some 92)), some (some (some 93)), some (some (some 94)), some (some (some 95)), none, some (some (some 96)), some (some (some 97)), some (some (some 98)), none, none, some (some (some 99)), some (some (some 100)), some (some (some 101)), some (some (some 102)), none, some (some (some 103)), some (some (some 104)), none, none, none, none, none, none, none, none, some (some (some 105)), some (some (some 106)), some (some (some 107)), some (some (some 108)), some (some (some 109)), some (some none)]))
def zh_226 : List zShc := zh_225 ++ [.inr (0, 8)]
def zh_227 : List zShc := zh_226.set 69 (.inl (12, [none, none, none, none, none, none, none, some (some (some 70)), some (some (some 71)), some (some (some 72)), some (some (some 73)), some (some (some 74)), some (some (some 75)), some (some (some 76)), none, none, none, none, none, none, none, none, none, none, some (some (some 77)), some (some (some 78)), some (some (some 79)), some (some (some 80)), some (some (some 81)), some (some (some 82)), some (some (some 83)), some (some (some 84)), some (some (some 85)), some (some (some 86)), some (some (some 87)), some (some (some 88)), some (some (some 89)), none, none, none, none, none, none, some (some (some 90)), some (some (some 91)), some (some (some 92)), some (some (some 93)), some (some (some 94)), some (some (some 95)), none, some (some (some 96)), some (some (some 97)), some (some (some 98)), none, none, some (some (some 99)), some (some (some 100)), some (some (some 101)), some (some (some 102)), none, some (some (some 103)), some (some (some 104)), none, none, none, none, none, none, none, none, some (some (some 105)), some (some (some 106)), some (some (some 107)), some (some (some 108)), some (some (some 109)), some (some (some 110))]))
def zs_0 : zSt := (fun _ _ => 0, fun _ _ => 0)
def zs_1 : zSt := zwr zs_0 1 10 (8 : Int32)
def zs_2 : zSt := zwr zs_1 1 11 (8 : Int32)
def zs_3 : zSt := zwr zs_2 1 12 (1 : Int32)
def zs_4 : zSt := zwr zs_3 4 0 (-1 : Int32)
def zs_5 : zSt := zwr zs_4 5 0 (-1 : Int32)
def zs_6 : zSt := zwr zs_5 6 0 (-1 : Int32)
def zs_7 : zSt := zwr zs_6 4 1 (-1 : Int32)
def zs_8 : zSt := zwr zs_7 5 1 (-1 : Int32)
def zs_9 : zSt := zwr zs_8 6 1 (-1 : Int32)
def zs_10 : zSt := zwr zs_9 4 2 (-1 : Int32)
def zs_11 : zSt := zwr zs_10 5 2 (-1 : Int32)
def zs_12 : zSt := zwr zs_11 6 2 (-1 : Int32)
def zs_13 : zSt := zwr zs_12 4 3 (-1 : Int32)
def zs_14 : zSt := zwr zs_13 5 3 (-1 : Int32)
def zs_15 : zSt := zwr zs_14 6 3 (-1 : Int32)
def zs_16 : zSt := zwr zs_15 4 4 (-1 : Int32)
def zs_17 : zSt := zwr zs_16 5 4 (-1 : Int32)
def zs_18 : zSt := zwr zs_17 6 4 (-1 : Int32)
def zs_19 : zSt := zwr zs_18 4 5 (-1 : Int32)
def zs_20 : zSt := zwr zs_19 5 5 (-1 : Int32)
def zs_21 : zSt := zwr zs_20 6 5 (-1 : Int32)
def zs_22 : zSt := zwr zs_21 4 6 (-1 : Int32)
def zs_23 : zSt := zwr zs_22 5 6 (-1 : Int32)
def zs_24 : zSt := zwr zs_23 6 6 (-1 : Int32)
def zs_25 : zSt := zwr zs_24 4 7 (-1 : Int32)
def zs_26 : zSt := zwr zs_25 5 7 (-1 : Int32)
def zs_27 : zSt := zwr zs_26 6 7 (-1 : Int32)
def zs_28 : zSt := zwr zs_27 7 0 (-1 : Int32)
def zs_29 : zSt := zwr zs_28 7 1 (-1 : Int32)
def zs_30 : zSt := zwr zs_29 7 2 (-1 : Int32)
def zs_31 : zSt := zwr zs_30 7 3 (-1 : Int32)
def zs_32 : zSt := zwr zs_31 7 4 (-1 : Int32)
def zs_33 : zSt := zwr zs_32 7 5 (-1 : Int32)
def zs_34 : zSt := zwr zs_33 7 6 (-1 : Int32)
def zs_35 : zSt := zwr zs_34 7 7 (-1 : Int32)
def zs_36 : zSt := zwr zs_35 26 10 (8 : Int32)
def zs_37 : zSt := zwr zs_36 26 11 (8 : Int32)
def zs_38 : zSt := zwr zs_37 26 12 (1 : Int32)
def zs_39 : zSt := zwr zs_38 29 0 (-1 : Int32)
def zs_40 : zSt := zwr zs_39 30 0 (-1 : Int32)
def zs_41 : zSt := zwr zs_40 31 0 (-1 : Int32)
def zs_42 : zSt := zwr zs_41 29 1 (-1 : Int32)
def zs_43 : zSt := zwr zs_42 30 1 (-1 : Int32)
def zs_44 : zSt := zwr zs_43 31 1 (-1 : Int32)
def zs_45 : zSt := zwr zs_44 29 2 (-1 : Int32)
def zs_46 : zSt := zwr zs_45 30 2 (-1 : Int32)
def zs_47 : zSt := zwr zs_46 31 2 (-1 : Int32)
def zs_48 : zSt := zwr zs_47 29 3 (-1 : Int32)
def zs_49 : zSt := zwr zs_48 30 3 (-1 : Int32)
def zs_50 : zSt := zwr zs_49 31 3 (-1 : Int32)
def zs_51 : zSt := zwr zs_50 29 4 (-1 : Int32)
def zs_52 : zSt := zwr zs_51 30 4 (-1 : Int32)
def zs_53 : zSt := zwr zs_52 31 4 (-1 : Int32)
def zs_54 : zSt := zwr zs_53 29 5 (-1 : Int32)
def zs_55 : zSt := zwr zs_54 30 5 (-1 : Int32)
def zs_56 : zSt := zwr zs_55 31 5 (-1 : Int32)
def zs_57 : zSt := zwr zs_56 29 6 (-1 : Int32)
def zs_58 : zSt := zwr zs_57 30 6 (-1 : Int32)
def zs_59 : zSt := zwr zs_58 31 6 (-1 : Int32)
def zs_60 : zSt := zwr zs_59 29 7 (-1 : Int32)
def zs_61 : zSt := zwr zs_60 30 7 (-1 : Int32)
def zs_62 : zSt := zwr zs_61 31 7 (-1 : Int32)
def zs_63 : zSt := zwr zs_62 32 0 (-1 : Int32)
def zs_64 : zSt := zwr zs_63 32 1 (-1 : Int32)
def zs_65 : zSt := zwr zs_64 32 2 (-1 : Int32)
def zs_66 : zSt := zwr zs_65 32 3 (-1 : Int32)
def zs_67 : zSt := zwr zs_66 32 4 (-1 : Int32)
def zs_68 : zSt := zwr zs_67 32 5 (-1 : Int32)
def zs_69 : zSt := zwr zs_68 32 6 (-1 : Int32)
def zs_70 : zSt := zwr zs_69 32 7 (-1 : Int32)
def zs_71 : zSt := zwr zs_70 0 2 (0 : Int32)
def zs_72 : zSt := zwr zs_71 68 0 (-1 : Int32)
def zs_73 : zSt := zwr zs_72 68 1 (-1 : Int32)
def zs_74 : zSt := zwr zs_73 68 2 (-1 : Int32)
def zs_75 : zSt := zwr zs_74 68 3 (-1 : Int32)
def zs_76 : zSt := zwr zs_75 68 4 (-1 : Int32)
def zs_77 : zSt := zwr zs_76 68 5 (-1 : Int32)
def zs_78 : zSt := zwr zs_77 68 6 (-1 : Int32)
def zs_79 : zSt := zwr zs_78 68 7 (-1 : Int32)
def zs_80 : zSt := zwr zs_79 68 8 (-1 : Int32)
def zs_81 : zSt := zwr zs_80 68 9 (-1 : Int32)
def zs_82 : zSt := zwr zs_81 68 10 (-1 : Int32)
def zs_83 : zSt := zwr zs_82 68 11 (-1 : Int32)
def zs_84 : zSt := zwr zs_83 69 3 (1 : Int32)
def zs_85 : zSt := zwr zs_84 69 5 (8 : Int32)
def zs_86 : zSt := zwr zs_85 69 6 (8 : Int32)
def zs_87 : zSt := zwr zs_86 72 0 (-2 : Int32)
def zs_88 : zSt := zwr zs_87 73 0 (-2 : Int32)
def zs_89 : zSt := zwr zs_88 74 0 (-2 : Int32)
def zs_90 : zSt := zwr zs_89 75 0 (-2 : Int32)
def zs_91 : zSt := zwr zs_90 72 1 (-2 : Int32)
def zs_92 : zSt := zwr zs_91 73 1 (-2 : Int32)
def zs_93 : zSt := zwr zs_92 74 1 (-2 : Int32)
def zs_94 : zSt := zwr zs_93 75 1 (-2 : Int32)
def zs_95 : zSt := zwr zs_94 72 2 (-2 : Int32)
def zs_96 : zSt := zwr zs_95 73 2 (-2 : Int32)
def zs_97 : zSt := zwr zs_96 74 2 (-2 : Int32)
def zs_98 : zSt := zwr zs_97 75 2 (-2 : Int32)
def zs_99 : zSt := zwr zs_98 72 3 (-2 : Int32)
def zs_100 : zSt := zwr zs_99 73 3 (-2 : Int32)
def zs_101 : zSt := zwr zs_100 74 3 (-2 : Int32)
def zs_102 : zSt := zwr zs_101 75 3 (-2 : Int32)
def zs_103 : zSt := zwr zs_102 72 4 (-2 : Int32)
def zs_104 : zSt := zwr zs_103 73 4 (-2 : Int32)
def zs_105 : zSt := zwr zs_104 74 4 (-2 : Int32)
def zs_106 : zSt := zwr zs_105 75 4 (-2 : Int32)
def zs_107 : zSt := zwr zs_106 72 5 (-2 : Int32)
def zs_108 : zSt := zwr zs_107 73 5 (-2 : Int32)
def zs_109 : zSt := zwr zs_108 74 5 (-2 : Int32)
def zs_110 : zSt := zwr zs_109 75 5 (-2 : Int32)
def zs_111 : zSt := zwr zs_110 72 6 (-2 : Int32)
def zs_112 : zSt := zwr zs_111 73 6 (-2 : Int32)
def zs_113 : zSt := zwr zs_112 74 6 (-2 : Int32)
def zs_114 : zSt := zwr zs_113 75 6 (-2 : Int32)
def zs_115 : zSt := zwr zs_114 72 7 (-2 : Int32)
def zs_116 : zSt := zwr zs_115 73 7 (-2 : Int32)
def zs_117 : zSt := zwr zs_116 74 7 (-2 : Int32)
def zs_118 : zSt := zwr zs_117 75 7 (-2 : Int32)
def zs_119 : zSt := zwr zs_118 104 0 (-1 : Int32)
def zs_120 : zSt := zwr zs_119 104 1 (-1 : Int32)
def zs_121 : zSt := zwr zs_120 104 2 (-1 : Int32)
def zs_122 : zSt := zwr zs_121 104 3 (-1 : Int32)
def zs_123 : zSt := zwr zs_122 104 4 (-1 : Int32)
def zs_124 : zSt := zwr zs_123 104 5 (-1 : Int32)
def zs_125 : zSt := zwr zs_124 104 6 (-1 : Int32)
def zs_126 : zSt := zwr zs_125 104 7 (-1 : Int32)
def zs_127 : zSt := zwr zs_126 104 8 (-1 : Int32)
def zs_128 : zSt := zwr zs_127 104 9 (-1 : Int32)
def zs_129 : zSt := zwr zs_128 104 10 (-1 : Int32)
def zs_130 : zSt := zwr zs_129 104 11 (-1 : Int32)
