set_option maxHeartbeats 8000000 in
set_option maxRecDepth 100000 in
theorem kc_X10_init_1 (G : zG) (bs : Nat) : cM G bs 1 6 56 yX10_init cX10_init 2 [.ref (zad G 1)] zh_2 zs_0 zh_14 zs_35 := by
  refine cM.of (own := RX10) (by decide +kernel) rfl rfl (Nat.le_of_ble_eq_true rfl) (fun C hC hR => ?_)
  refine c_aload e_X10_init_0 0 rfl ?_
  refine c_obj oj_X10_3 (by decide) (Nat.le_of_ble_eq_true rfl) e_X10_init_1 ?_
  refine c_aload e_X10_init_4 0 rfl ?_
  refine c_ic e_X10_init_5 ?_
  refine c_newaI (N := 16) (n := 2) aw_I (by decide) rfl (by decide) (by decide +kernel) (by decide) rfl rfl (by decide) (by decide) e_X10_init_7 zh_3 rfl 1 16 rfl rfl ?_
  refine c_putr (k := 0) hC (show zh_3[1]? = some (.inl (10, [some (some none), some (some none), some (some none), some (some none), some (some none), some (some none), none, none, none, none, none, none, none])) by decide +kernel) (by decide) (by decide +kernel) cl_X10 (by decide) cf_X10_9 rfl rfl (.array .int) (by decide +kernel) (fun _ => ⟨rfl, rfl⟩) e_X10_init_9 zh_4 rfl ?_
  refine c_aload e_X10_init_12 0 rfl ?_
  refine c_ic e_X10_init_13 ?_
  refine c_newaI (N := 8) (n := 3) aw_I (by decide) rfl (by decide) (by decide +kernel) (by decide) rfl rfl (by decide) (by decide) e_X10_init_15 zh_5 rfl 2 24 rfl rfl ?_
  refine c_putr (k := 1) hC (show zh_5[1]? = some (.inl (10, [some (some (some 2)), some (some none), some (some none), some (some none), some (some none), some (some none), none, none, none, none, none, none, none])) by decide +kernel) (by decide) (by decide +kernel) cl_X10 (by decide) cf_X10_15 rfl rfl (.array .int) (by decide +kernel) (fun _ => ⟨rfl, rfl⟩) e_X10_init_17 zh_6 rfl ?_
  refine c_aload e_X10_init_20 0 rfl ?_
  refine c_ic e_X10_init_21 ?_
  refine c_newaI (N := 8) (n := 4) aw_I (by decide) rfl (by decide) (by decide +kernel) (by decide) rfl rfl (by decide) (by decide) e_X10_init_23 zh_7 rfl 3 32 rfl rfl ?_
  refine c_putr (k := 2) hC (show zh_7[1]? = some (.inl (10, [some (some (some 2)), some (some (some 3)), some (some none), some (some none), some (some none), some (some none), none, none, none, none, none, none, none])) by decide +kernel) (by decide) (by decide +kernel) cl_X10 (by decide) cf_X10_18 rfl rfl (.array .int) (by decide +kernel) (fun _ => ⟨rfl, rfl⟩) e_X10_init_25 zh_8 rfl ?_
  refine c_aload e_X10_init_28 0 rfl ?_
  refine c_ic e_X10_init_29 ?_
  refine c_newaI (N := 8) (n := 5) aw_I (by decide) rfl (by decide) (by decide +kernel) (by decide) rfl rfl (by decide) (by decide) e_X10_init_31 zh_9 rfl 4 40 rfl rfl ?_
  refine c_putr (k := 3) hC (show zh_9[1]? = some (.inl (10, [some (some (some 2)), some (some (some 3)), some (some (some 4)), some (some none), some (some none), some (some none), none, none, none, none, none, none, none])) by decide +kernel) (by decide) (by decide +kernel) cl_X10 (by decide) cf_X10_21 rfl rfl (.array .int) (by decide +kernel) (fun _ => ⟨rfl, rfl⟩) e_X10_init_33 zh_10 rfl ?_
  refine c_aload e_X10_init_36 0 rfl ?_
  refine c_ic e_X10_init_37 ?_
  refine c_newaI (N := 8) (n := 6) aw_I (by decide) rfl (by decide) (by decide +kernel) (by decide) rfl rfl (by decide) (by decide) e_X10_init_39 zh_11 rfl 5 48 rfl rfl ?_
  refine c_putr (k := 4) hC (show zh_11[1]? = some (.inl (10, [some (some (some 2)), some (some (some 3)), some (some (some 4)), some (some (some 5)), some (some none), some (some none), none, none, none, none, none, none, none])) by decide +kernel) (by decide) (by decide +kernel) cl_X10 (by decide) cf_X10_24 rfl rfl (.array .int) (by decide +kernel) (fun _ => ⟨rfl, rfl⟩) e_X10_init_41 zh_12 rfl ?_
  refine c_aload e_X10_init_44 0 rfl ?_
  refine c_ic e_X10_init_45 ?_
  refine c_newaI (N := 8) (n := 7) aw_I (by decide) rfl (by decide) (by decide +kernel) (by decide) rfl rfl (by decide) (by decide) e_X10_init_47 zh_13 rfl 6 56 rfl rfl ?_
  refine c_putr (k := 5) hC (show zh_13[1]? = some (.inl (10, [some (some (some 2)), some (some (some 3)), some (some (some 4)), some (some (some 5)), some (some (some 6)), some (some none), none, none, none, none, none, none, none])) by decide +kernel) (by decide) (by decide +kernel) cl_X10 (by decide) cf_X10_27 rfl rfl (.array .int) (by decide +kernel) (fun _ => ⟨rfl, rfl⟩) e_X10_init_49 zh_14 rfl ?_
  refine c_aload e_X10_init_52 0 rfl ?_
  refine c_ic e_X10_init_53 ?_
  refine c_puti (k := 10) (show zh_14[1]? = some (.inl (10, [some (some (some 2)), some (some (some 3)), some (some (some 4)), some (some (some 5)), some (some (some 6)), some (some (some 7)), none, none, none, none, none, none, none])) by decide +kernel) rfl (by decide +kernel) cl_X10 (by decide) cf_X10_30 rfl (.int) (by decide +kernel) ⟨by decide, by decide⟩ e_X10_init_55 zs_1 rfl ?_
  refine c_aload e_X10_init_58 0 rfl ?_
  refine c_ic e_X10_init_59 ?_
  refine c_puti (k := 11) (show zh_14[1]? = some (.inl (10, [some (some (some 2)), some (some (some 3)), some (some (some 4)), some (some (some 5)), some (some (some 6)), some (some (some 7)), none, none, none, none, none, none, none])) by decide +kernel) rfl (by decide +kernel) cl_X10 (by decide) cf_X10_34 rfl (.int) (by decide +kernel) ⟨by decide, by decide⟩ e_X10_init_61 zs_2 rfl ?_
  refine c_aload e_X10_init_64 0 rfl ?_
  refine c_ic e_X10_init_65 ?_
  refine c_puti (k := 12) (show zh_14[1]? = some (.inl (10, [some (some (some 2)), some (some (some 3)), some (some (some 4)), some (some (some 5)), some (some (some 6)), some (some (some 7)), none, none, none, none, none, none, none])) by decide +kernel) rfl (by decide +kernel) cl_X10 (by decide) cf_X10_37 rfl (.int) (by decide +kernel) ⟨by decide, by decide⟩ e_X10_init_66 zs_3 rfl ?_
  refine c_ic e_X10_init_69 ?_
  refine c_istore e_X10_init_70 (by decide) [(1, .int (0 : Int32)), (0, .ref (zad G 1))] rfl ?_
  refine c_iload e_X10_init_71 0 rfl ?_
  refine c_ic e_X10_init_72 ?_
  refine c_icmp_ge e_X10_init_74 (fun q => absurd q (by decide)) (fun _ => ?_)
  refine c_aload e_X10_init_77 1 rfl ?_
  refine c_getr (k := 2) (show zh_14[1]? = some (.inl (10, [some (some (some 2)), some (some (some 3)), some (some (some 4)), some (some (some 5)), some (some (some 6)), some (some (some 7)), none, none, none, none, none, none, none])) by decide +kernel) rfl cl_X10 (by decide) cf_X10_18 e_X10_init_78 ?_
  refine c_iload e_X10_init_81 0 rfl ?_
  refine c_ic e_X10_init_82 ?_
  refine c_iast (n := 8) (j := 0) (by decide +kernel) (by decide +kernel) e_X10_init_83 (by unfold vp_in; decide) rfl zs_4 rfl ?_
  refine c_aload e_X10_init_84 1 rfl ?_
  refine c_getr (k := 3) (show zh_14[1]? = some (.inl (10, [some (some (some 2)), some (some (some 3)), some (some (some 4)), some (some (some 5)), some (some (some 6)), some (some (some 7)), none, none, none, none, none, none, none])) by decide +kernel) rfl cl_X10 (by decide) cf_X10_21 e_X10_init_85 ?_
  refine c_iload e_X10_init_88 0 rfl ?_
  refine c_ic e_X10_init_89 ?_
  refine c_iast (n := 8) (j := 0) (by decide +kernel) (by decide +kernel) e_X10_init_90 (by unfold vp_in; decide) rfl zs_5 rfl ?_
  refine c_aload e_X10_init_91 1 rfl ?_
  refine c_getr (k := 4) (show zh_14[1]? = some (.inl (10, [some (some (some 2)), some (some (some 3)), some (some (some 4)), some (some (some 5)), some (some (some 6)), some (some (some 7)), none, none, none, none, none, none, none])) by decide +kernel) rfl cl_X10 (by decide) cf_X10_24 e_X10_init_92 ?_
  refine c_iload e_X10_init_95 0 rfl ?_
  refine c_ic e_X10_init_96 ?_
  refine c_iast (n := 8) (j := 0) (by decide +kernel) (by decide +kernel) e_X10_init_97 (by unfold vp_in; decide) rfl zs_6 rfl ?_
  refine c_iinc e_X10_init_98 0 rfl 1 (by decide) (by decide) [(1, .int (1 : Int32)), (0, .ref (zad G 1))] rfl ?_
  refine c_goto e_X10_init_101 ?_
  refine c_iload e_X10_init_71 0 rfl ?_
  refine c_ic e_X10_init_72 ?_
  refine c_icmp_ge e_X10_init_74 (fun q => absurd q (by decide)) (fun _ => ?_)
  refine c_aload e_X10_init_77 1 rfl ?_
  refine c_getr (k := 2) (show zh_14[1]? = some (.inl (10, [some (some (some 2)), some (some (some 3)), some (some (some 4)), some (some (some 5)), some (some (some 6)), some (some (some 7)), none, none, none, none, none, none, none])) by decide +kernel) rfl cl_X10 (by decide) cf_X10_18 e_X10_init_78 ?_
  refine c_iload e_X10_init_81 0 rfl ?_
  refine c_ic e_X10_init_82 ?_
  refine c_iast (n := 8) (j := 1) (by decide +kernel) (by decide +kernel) e_X10_init_83 (by unfold vp_in; decide) rfl zs_7 rfl ?_
  refine c_aload e_X10_init_84 1 rfl ?_
  refine c_getr (k := 3) (show zh_14[1]? = some (.inl (10, [some (some (some 2)), some (some (some 3)), some (some (some 4)), some (some (some 5)), some (some (some 6)), some (some (some 7)), none, none, none, none, none, none, none])) by decide +kernel) rfl cl_X10 (by decide) cf_X10_21 e_X10_init_85 ?_
  refine c_iload e_X10_init_88 0 rfl ?_
  refine c_ic e_X10_init_89 ?_
  refine c_iast (n := 8) (j := 1) (by decide +kernel) (by decide +kernel) e_X10_init_90 (by unfold vp_in; decide) rfl zs_8 rfl ?_
  refine c_aload e_X10_init_91 1 rfl ?_
  refine c_getr (k := 4) (show zh_14[1]? = some (.inl (10, [some (some (some 2)), some (some (some 3)), some (some (some 4)), some (some (some 5)), some (some (some 6)), some (some (some 7)), none, none, none, none, none, none, none])) by decide +kernel) rfl cl_X10 (by decide) cf_X10_24 e_X10_init_92 ?_
  refine c_iload e_X10_init_95 0 rfl ?_
  refine c_ic e_X10_init_96 ?_
  refine c_iast (n := 8) (j := 1) (by decide +kernel) (by decide +kernel) e_X10_init_97 (by unfold vp_in; decide) rfl zs_9 rfl ?_
  refine c_iinc e_X10_init_98 0 rfl 2 (by decide) (by decide) [(1, .int (2 : Int32)), (0, .ref (zad G 1))] rfl ?_
  refine c_goto e_X10_init_101 ?_
  refine c_iload e_X10_init_71 0 rfl ?_
  refine c_ic e_X10_init_72 ?_
  refine c_icmp_ge e_X10_init_74 (fun q => absurd q (by decide)) (fun _ => ?_)
  refine c_aload e_X10_init_77 1 rfl ?_
  refine c_getr (k := 2) (show zh_14[1]? = some (.inl (10, [some (some (some 2)), some (some (some 3)), some (some (some 4)), some (some (some 5)), some (some (some 6)), some (some (some 7)), none, none, none, none, none, none, none])) by decide +kernel) rfl cl_X10 (by decide) cf_X10_18 e_X10_init_78 ?_
  refine c_iload e_X10_init_81 0 rfl ?_
  refine c_ic e_X10_init_82 ?_
  refine c_iast (n := 8) (j := 2) (by decide +kernel) (by decide +kernel) e_X10_init_83 (by unfold vp_in; decide) rfl zs_10 rfl ?_
  refine c_aload e_X10_init_84 1 rfl ?_
  refine c_getr (k := 3) (show zh_14[1]? = some (.inl (10, [some (some (some 2)), some (some (some 3)), some (some (some 4)), some (some (some 5)), some (some (some 6)), some (some (some 7)), none, none, none, none, none, none, none])) by decide +kernel) rfl cl_X10 (by decide) cf_X10_21 e_X10_init_85 ?_
  refine c_iload e_X10_init_88 0 rfl ?_
  refine c_ic e_X10_init_89 ?_
  refine c_iast (n := 8) (j := 2) (by decide +kernel) (by decide +kernel) e_X10_init_90 (by unfold vp_in; decide) rfl zs_11 rfl ?_
  refine c_aload e_X10_init_91 1 rfl ?_
  refine c_getr (k := 4) (show zh_14[1]? = some (.inl (10, [some (some (some 2)), some (some (some 3)), some (some (some 4)), some (some (some 5)), some (some (some 6)), some (some (some 7)), none, none, none, none, none, none, none])) by decide +kernel) rfl cl_X10 (by decide) cf_X10_24 e_X10_init_92 ?_
  refine c_iload e_X10_init_95 0 rfl ?_
  refine c_ic e_X10_init_96 ?_
  refine c_iast (n := 8) (j := 2) (by decide +kernel) (by decide +kernel) e_X10_init_97 (by unfold vp_in; decide) rfl zs_12 rfl ?_
  refine c_iinc e_X10_init_98 0 rfl 3 (by decide) (by decide) [(1, .int (3 : Int32)), (0, .ref (zad G 1))] rfl ?_
  refine c_goto e_X10_init_101 ?_
  refine c_iload e_X10_init_71 0 rfl ?_
  refine c_ic e_X10_init_72 ?_
  refine c_icmp_ge e_X10_init_74 (fun q => absurd q (by decide)) (fun _ => ?_)
  refine c_aload e_X10_init_77 1 rfl ?_
  refine c_getr (k := 2) (show zh_14[1]? = some (.inl (10, [some (some (some 2)), some (some (some 3)), some (some (some 4)), some (some (some 5)), some (some (some 6)), some (some (some 7)), none, none, none, none, none, none, none])) by decide +kernel) rfl cl_X10 (by decide) cf_X10_18 e_X10_init_78 ?_
  refine c_iload e_X10_init_81 0 rfl ?_
  refine c_ic e_X10_init_82 ?_
  refine c_iast (n := 8) (j := 3) (by decide +kernel) (by decide +kernel) e_X10_init_83 (by unfold vp_in; decide) rfl zs_13 rfl ?_
  refine c_aload e_X10_init_84 1 rfl ?_
  refine c_getr (k := 3) (show zh_14[1]? = some (.inl (10, [some (some (some 2)), some (some (some 3)), some (some (some 4)), some (some (some 5)), some (some (some 6)), some (some (some 7)), none, none, none, none, none, none, none])) by decide +kernel) rfl cl_X10 (by decide) cf_X10_21 e_X10_init_85 ?_
  refine c_iload e_X10_init_88 0 rfl ?_
  refine c_ic e_X10_init_89 ?_
  refine c_iast (n := 8) (j := 3) (by decide +kernel) (by decide +kernel) e_X10_init_90 (by unfold vp_in; decide) rfl zs_14 rfl ?_
  refine c_aload e_X10_init_91 1 rfl ?_
  refine c_getr (k := 4) (show zh_14[1]? = some (.inl (10, [some (some (some 2)), some (some (some 3)), some (some (some 4)), some (some (some 5)), some (some (some 6)), some (some (some 7)), none, none, none, none, none, none, none])) by decide +kernel) rfl cl_X10 (by decide) cf_X10_24 e_X10_init_92 ?_
  refine c_iload e_X10_init_95 0 rfl ?_
  refine c_ic e_X10_init_96 ?_
  refine c_iast (n := 8) (j := 3) (by decide +kernel) (by decide +kernel) e_X10_init_97 (by unfold vp_in; decide) rfl zs_15 rfl ?_
  refine c_iinc e_X10_init_98 0 rfl 4 (by decide) (by decide) [(1, .int (4 : Int32)), (0, .ref (zad G 1))] rfl ?_
  refine c_goto e_X10_init_101 ?_
  refine c_iload e_X10_init_71 0 rfl ?_
  refine c_ic e_X10_init_72 ?_
  refine c_icmp_ge e_X10_init_74 (fun q => absurd q (by decide)) (fun _ => ?_)
  refine c_aload e_X10_init_77 1 rfl ?_
  refine c_getr (k := 2) (show zh_14[1]? = some (.inl (10, [some (some (some 2)), some (some (some 3)), some (some (some 4)), some (some (some 5)), some (some (some 6)), some (some (some 7)), none, none, none, none, none, none, none])) by decide +kernel) rfl cl_X10 (by decide) cf_X10_18 e_X10_init_78 ?_
  refine c_iload e_X10_init_81 0 rfl ?_
  refine c_ic e_X10_init_82 ?_
  refine c_iast (n := 8) (j := 4) (by decide +kernel) (by decide +kernel) e_X10_init_83 (by unfold vp_in; decide) rfl zs_16 rfl ?_
  refine c_aload e_X10_init_84 1 rfl ?_
  refine c_getr (k := 3) (show zh_14[1]? = some (.inl (10, [some (some (some 2)), some (some (some 3)), some (some (some 4)), some (some (some 5)), some (some (some 6)), some (some (some 7)), none, none, none, none, none, none, none])) by decide +kernel) rfl cl_X10 (by decide) cf_X10_21 e_X10_init_85 ?_
  refine c_iload e_X10_init_88 0 rfl ?_
  refine c_ic e_X10_init_89 ?_
  refine c_iast (n := 8) (j := 4) (by decide +kernel) (by decide +kernel) e_X10_init_90 (by unfold vp_in; decide) rfl zs_17 rfl ?_
  refine c_aload e_X10_init_91 1 rfl ?_
  refine c_getr (k := 4) (show zh_14[1]? = some (.inl (10, [some (some (some 2)), some (some (some 3)), some (some (some 4)), some (some (some 5)), some (some (some 6)), some (some (some 7)), none, none, none, none, none, none, none])) by decide +kernel) rfl cl_X10 (by decide) cf_X10_24 e_X10_init_92 ?_
  refine c_iload e_X10_init_95 0 rfl ?_
  refine c_ic e_X10_init_96 ?_
  refine c_iast (n := 8) (j := 4) (by decide +kernel) (by decide +kernel) e_X10_init_97 (by unfold vp_in; decide) rfl zs_18 rfl ?_
  refine c_iinc e_X10_init_98 0 rfl 5 (by decide) (by decide) [(1, .int (5 : Int32)), (0, .ref (zad G 1))] rfl ?_
  refine c_goto e_X10_init_101 ?_
  refine c_iload e_X10_init_71 0 rfl ?_
  refine c_ic e_X10_init_72 ?_
  refine c_icmp_ge e_X10_init_74 (fun q => absurd q (by decide)) (fun _ => ?_)
  refine c_aload e_X10_init_77 1 rfl ?_
  refine c_getr (k := 2) (show zh_14[1]? = some (.inl (10, [some (some (some 2)), some (some (some 3)), some (some (some 4)), some (some (some 5)), some (some (some 6)), some (some (some 7)), none, none, none, none, none, none, none])) by decide +kernel) rfl cl_X10 (by decide) cf_X10_18 e_X10_init_78 ?_
  refine c_iload e_X10_init_81 0 rfl ?_
  refine c_ic e_X10_init_82 ?_
  refine c_iast (n := 8) (j := 5) (by decide +kernel) (by decide +kernel) e_X10_init_83 (by unfold vp_in; decide) rfl zs_19 rfl ?_
  refine c_aload e_X10_init_84 1 rfl ?_
  refine c_getr (k := 3) (show zh_14[1]? = some (.inl (10, [some (some (some 2)), some (some (some 3)), some (some (some 4)), some (some (some 5)), some (some (some 6)), some (some (some 7)), none, none, none, none, none, none, none])) by decide +kernel) rfl cl_X10 (by decide) cf_X10_21 e_X10_init_85 ?_
  refine c_iload e_X10_init_88 0 rfl ?_
  refine c_ic e_X10_init_89 ?_
  refine c_iast (n := 8) (j := 5) (by decide +kernel) (by decide +kernel) e_X10_init_90 (by unfold vp_in; decide) rfl zs_20 rfl ?_
  refine c_aload e_X10_init_91 1 rfl ?_
  refine c_getr (k := 4) (show zh_14[1]? = some (.inl (10, [some (some (some 2)), some (some (some 3)), some (some (some 4)), some (some (some 5)), some (some (some 6)), some (some (some 7)), none, none, none, none, none, none, none])) by decide +kernel) rfl cl_X10 (by decide) cf_X10_24 e_X10_init_92 ?_
  refine c_iload e_X10_init_95 0 rfl ?_
  refine c_ic e_X10_init_96 ?_
  refine c_iast (n := 8) (j := 5) (by decide +kernel) (by decide +kernel) e_X10_init_97 (by unfold vp_in; decide) rfl zs_21 rfl ?_
  refine c_iinc e_X10_init_98 0 rfl 6 (by decide) (by decide) [(1, .int (6 : Int32)), (0, .ref (zad G 1))] rfl ?_
  refine c_goto e_X10_init_101 ?_
  refine c_iload e_X10_init_71 0 rfl ?_
  refine c_ic e_X10_init_72 ?_
  refine c_icmp_ge e_X10_init_74 (fun q => absurd q (by decide)) (fun _ => ?_)
  refine c_aload e_X10_init_77 1 rfl ?_
  refine c_getr (k := 2) (show zh_14[1]? = some (.inl (10, [some (some (some 2)), some (some (some 3)), some (some (some 4)), some (some (some 5)), some (some (some 6)), some (some (some 7)), none, none, none, none, none, none, none])) by decide +kernel) rfl cl_X10 (by decide) cf_X10_18 e_X10_init_78 ?_
  refine c_iload e_X10_init_81 0 rfl ?_
  refine c_ic e_X10_init_82 ?_
  refine c_iast (n := 8) (j := 6) (by decide +kernel) (by decide +kernel) e_X10_init_83 (by unfold vp_in; decide) rfl zs_22 rfl ?_
  refine c_aload e_X10_init_84 1 rfl ?_
  refine c_getr (k := 3) (show zh_14[1]? = some (.inl (10, [some (some (some 2)), some (some (some 3)), some (some (some 4)), some (some (some 5)), some (some (some 6)), some (some (some 7)), none, none, none, none, none, none, none])) by decide +kernel) rfl cl_X10 (by decide) cf_X10_21 e_X10_init_85 ?_
  refine c_iload e_X10_init_88 0 rfl ?_
  refine c_ic e_X10_init_89 ?_
  refine c_iast (n := 8) (j := 6) (by decide +kernel) (by decide +kernel) e_X10_init_90 (by unfold vp_in; decide) rfl zs_23 rfl ?_
  refine c_aload e_X10_init_91 1 rfl ?_
  refine c_getr (k := 4) (show zh_14[1]? = some (.inl (10, [some (some (some 2)), some (some (some 3)), some (some (some 4)), some (some (some 5)), some (some (some 6)), some (some (some 7)), none, none, none, none, none, none, none])) by decide +kernel) rfl cl_X10 (by decide) cf_X10_24 e_X10_init_92 ?_
  refine c_iload e_X10_init_95 0 rfl ?_
  refine c_ic e_X10_init_96 ?_
  refine c_iast (n := 8) (j := 6) (by decide +kernel) (by decide +kernel) e_X10_init_97 (by unfold vp_in; decide) rfl zs_24 rfl ?_
  refine c_iinc e_X10_init_98 0 rfl 7 (by decide) (by decide) [(1, .int (7 : Int32)), (0, .ref (zad G 1))] rfl ?_
  refine c_goto e_X10_init_101 ?_
  refine c_iload e_X10_init_71 0 rfl ?_
  refine c_ic e_X10_init_72 ?_
  refine c_icmp_ge e_X10_init_74 (fun q => absurd q (by decide)) (fun _ => ?_)
  refine c_aload e_X10_init_77 1 rfl ?_
  refine c_getr (k := 2) (show zh_14[1]? = some (.inl (10, [some (some (some 2)), some (some (some 3)), some (some (some 4)), some (some (some 5)), some (some (some 6)), some (some (some 7)), none, none, none, none, none, none, none])) by decide +kernel) rfl cl_X10 (by decide) cf_X10_18 e_X10_init_78 ?_
  refine c_iload e_X10_init_81 0 rfl ?_
  refine c_ic e_X10_init_82 ?_
  refine c_iast (n := 8) (j := 7) (by decide +kernel) (by decide +kernel) e_X10_init_83 (by unfold vp_in; decide) rfl zs_25 rfl ?_
  refine c_aload e_X10_init_84 1 rfl ?_
  refine c_getr (k := 3) (show zh_14[1]? = some (.inl (10, [some (some (some 2)), some (some (some 3)), some (some (some 4)), some (some (some 5)), some (some (some 6)), some (some (some 7)), none, none, none, none, none, none, none])) by decide +kernel) rfl cl_X10 (by decide) cf_X10_21 e_X10_init_85 ?_
  refine c_iload e_X10_init_88 0 rfl ?_
  refine c_ic e_X10_init_89 ?_
  refine c_iast (n := 8) (j := 7) (by decide +kernel) (by decide +kernel) e_X10_init_90 (by unfold vp_in; decide) rfl zs_26 rfl ?_
  refine c_aload e_X10_init_91 1 rfl ?_
  refine c_getr (k := 4) (show zh_14[1]? = some (.inl (10, [some (some (some 2)), some (some (some 3)), some (some (some 4)), some (some (some 5)), some (some (some 6)), some (some (some 7)), none, none, none, none, none, none, none])) by decide +kernel) rfl cl_X10 (by decide) cf_X10_24 e_X10_init_92 ?_
  refine c_iload e_X10_init_95 0 rfl ?_
  refine c_ic e_X10_init_96 ?_
  refine c_iast (n := 8) (j := 7) (by decide +kernel) (by decide +kernel) e_X10_init_97 (by unfold vp_in; decide) rfl zs_27 rfl ?_
  refine c_iinc e_X10_init_98 0 rfl 8 (by decide) (by decide) [(1, .int (8 : Int32)), (0, .ref (zad G 1))] rfl ?_
  refine c_goto e_X10_init_101 ?_
  refine c_iload e_X10_init_71 0 rfl ?_
  refine c_ic e_X10_init_72 ?_
  refine c_icmp_ge e_X10_init_74 (fun _ => ?_) (fun q => absurd (by decide) q)
  refine c_ic e_X10_init_104 ?_
  refine c_istore e_X10_init_105 (by decide) [(1, .int (0 : Int32)), (0, .ref (zad G 1))] rfl ?_
  refine c_iload e_X10_init_106 0 rfl ?_
  refine c_ic e_X10_init_107 ?_
  refine c_icmp_ge e_X10_init_109 (fun q => absurd q (by decide)) (fun _ => ?_)
  refine c_aload e_X10_init_112 1 rfl ?_
  refine c_getr (k := 5) (show zh_14[1]? = some (.inl (10, [some (some (some 2)), some (some (some 3)), some (some (some 4)), some (some (some 5)), some (some (some 6)), some (some (some 7)), none, none, none, none, none, none, none])) by decide +kernel) rfl cl_X10 (by decide) cf_X10_27 e_X10_init_113 ?_
  refine c_iload e_X10_init_116 0 rfl ?_
  refine c_ic e_X10_init_117 ?_
  refine c_iast (n := 8) (j := 0) (by decide +kernel) (by decide +kernel) e_X10_init_118 (by unfold vp_in; decide) rfl zs_28 rfl ?_
  refine c_iinc e_X10_init_119 0 rfl 1 (by decide) (by decide) [(1, .int (1 : Int32)), (0, .ref (zad G 1))] rfl ?_
  refine c_goto e_X10_init_122 ?_
  refine c_iload e_X10_init_106 0 rfl ?_
  refine c_ic e_X10_init_107 ?_
  refine c_icmp_ge e_X10_init_109 (fun q => absurd q (by decide)) (fun _ => ?_)
  refine c_aload e_X10_init_112 1 rfl ?_
  refine c_getr (k := 5) (show zh_14[1]? = some (.inl (10, [some (some (some 2)), some (some (some 3)), some (some (some 4)), some (some (some 5)), some (some (some 6)), some (some (some 7)), none, none, none, none, none, none, none])) by decide +kernel) rfl cl_X10 (by decide) cf_X10_27 e_X10_init_113 ?_
  refine c_iload e_X10_init_116 0 rfl ?_
  refine c_ic e_X10_init_117 ?_
  refine c_iast (n := 8) (j := 1) (by decide +kernel) (by decide +kernel) e_X10_init_118 (by unfold vp_in; decide) rfl zs_29 rfl ?_
  refine c_iinc e_X10_init_119 0 rfl 2 (by decide) (by decide) [(1, .int (2 : Int32)), (0, .ref (zad G 1))] rfl ?_
  refine c_goto e_X10_init_122 ?_
  refine c_iload e_X10_init_106 0 rfl ?_
  refine c_ic e_X10_init_107 ?_
  refine c_icmp_ge e_X10_init_109 (fun q => absurd q (by decide)) (fun _ => ?_)
  refine c_aload e_X10_init_112 1 rfl ?_
  refine c_getr (k := 5) (show zh_14[1]? = some (.inl (10, [some (some (some 2)), some (some (some 3)), some (some (some 4)), some (some (some 5)), some (some (some 6)), some (some (some 7)), none, none, none, none, none, none, none])) by decide +kernel) rfl cl_X10 (by decide) cf_X10_27 e_X10_init_113 ?_
  refine c_iload e_X10_init_116 0 rfl ?_
  refine c_ic e_X10_init_117 ?_
  refine c_iast (n := 8) (j := 2) (by decide +kernel) (by decide +kernel) e_X10_init_118 (by unfold vp_in; decide) rfl zs_30 rfl ?_
  refine c_iinc e_X10_init_119 0 rfl 3 (by decide) (by decide) [(1, .int (3 : Int32)), (0, .ref (zad G 1))] rfl ?_
  refine c_goto e_X10_init_122 ?_
  refine c_iload e_X10_init_106 0 rfl ?_
  refine c_ic e_X10_init_107 ?_
  refine c_icmp_ge e_X10_init_109 (fun q => absurd q (by decide)) (fun _ => ?_)
  refine c_aload e_X10_init_112 1 rfl ?_
  refine c_getr (k := 5) (show zh_14[1]? = some (.inl (10, [some (some (some 2)), some (some (some 3)), some (some (some 4)), some (some (some 5)), some (some (some 6)), some (some (some 7)), none, none, none, none, none, none, none])) by decide +kernel) rfl cl_X10 (by decide) cf_X10_27 e_X10_init_113 ?_
  refine c_iload e_X10_init_116 0 rfl ?_
  refine c_ic e_X10_init_117 ?_
  refine c_iast (n := 8) (j := 3) (by decide +kernel) (by decide +kernel) e_X10_init_118 (by unfold vp_in; decide) rfl zs_31 rfl ?_
  refine c_iinc e_X10_init_119 0 rfl 4 (by decide) (by decide) [(1, .int (4 : Int32)), (0, .ref (zad G 1))] rfl ?_
  refine c_goto e_X10_init_122 ?_
  refine c_iload e_X10_init_106 0 rfl ?_
  refine c_ic e_X10_init_107 ?_
  refine c_icmp_ge e_X10_init_109 (fun q => absurd q (by decide)) (fun _ => ?_)
  refine c_aload e_X10_init_112 1 rfl ?_
  refine c_getr (k := 5) (show zh_14[1]? = some (.inl (10, [some (some (some 2)), some (some (some 3)), some (some (some 4)), some (some (some 5)), some (some (some 6)), some (some (some 7)), none, none, none, none, none, none, none])) by decide +kernel) rfl cl_X10 (by decide) cf_X10_27 e_X10_init_113 ?_
  refine c_iload e_X10_init_116 0 rfl ?_
  refine c_ic e_X10_init_117 ?_
  refine c_iast (n := 8) (j := 4) (by decide +kernel) (by decide +kernel) e_X10_init_118 (by unfold vp_in; decide) rfl zs_32 rfl ?_
  refine c_iinc e_X10_init_119 0 rfl 5 (by decide) (by decide) [(1, .int (5 : Int32)), (0, .ref (zad G 1))] rfl ?_
  refine c_goto e_X10_init_122 ?_
  refine c_iload e_X10_init_106 0 rfl ?_
  refine c_ic e_X10_init_107 ?_
  refine c_icmp_ge e_X10_init_109 (fun q => absurd q (by decide)) (fun _ => ?_)
  refine c_aload e_X10_init_112 1 rfl ?_
  refine c_getr (k := 5) (show zh_14[1]? = some (.inl (10, [some (some (some 2)), some (some (some 3)), some (some (some 4)), some (some (some 5)), some (some (some 6)), some (some (some 7)), none, none, none, none, none, none, none])) by decide +kernel) rfl cl_X10 (by decide) cf_X10_27 e_X10_init_113 ?_
  refine c_iload e_X10_init_116 0 rfl ?_
  refine c_ic e_X10_init_117 ?_
  refine c_iast (n := 8) (j := 5) (by decide +kernel) (by decide +kernel) e_X10_init_118 (by unfold vp_in; decide) rfl zs_33 rfl ?_
  refine c_iinc e_X10_init_119 0 rfl 6 (by decide) (by decide) [(1, .int (6 : Int32)), (0, .ref (zad G 1))] rfl ?_
  refine c_goto e_X10_init_122 ?_
  refine c_iload e_X10_init_106 0 rfl ?_
  refine c_ic e_X10_init_107 ?_
  refine c_icmp_ge e_X10_init_109 (fun q => absurd q (by decide)) (fun _ => ?_)
  refine c_aload e_X10_init_112 1 rfl ?_
  refine c_getr (k := 5) (show zh_14[1]? = some (.inl (10, [some (some (some 2)), some (some (some 3)), some (some (some 4)), some (some (some 5)), some (some (some 6)), some (some (some 7)), none, none, none, none, none, none, none])) by decide +kernel) rfl cl_X10 (by decide) cf_X10_27 e_X10_init_113 ?_
  refine c_iload e_X10_init_116 0 rfl ?_
  refine c_ic e_X10_init_117 ?_
  refine c_iast (n := 8) (j := 6) (by decide +kernel) (by decide +kernel) e_X10_init_118 (by unfold vp_in; decide) rfl zs_34 rfl ?_
  refine c_iinc e_X10_init_119 0 rfl 7 (by decide) (by decide) [(1, .int (7 : Int32)), (0, .ref (zad G 1))] rfl ?_
  refine c_goto e_X10_init_122 ?_
  refine c_iload e_X10_init_106 0 rfl ?_
  refine c_ic e_X10_init_107 ?_
  refine c_icmp_ge e_X10_init_109 (fun q => absurd q (by decide)) (fun _ => ?_)
  refine c_aload e_X10_init_112 1 rfl ?_
  refine c_getr (k := 5) (show zh_14[1]? = some (.inl (10, [some (some (some 2)), some (some (some 3)), some (some (some 4)), some (some (some 5)), some (some (some 6)), some (some (some 7)), none, none, none, none, none, none, none])) by decide +kernel) rfl cl_X10 (by decide) cf_X10_27 e_X10_init_113 ?_
  refine c_iload e_X10_init_116 0 rfl ?_
  refine c_ic e_X10_init_117 ?_
  refine c_iast (n := 8) (j := 7) (by decide +kernel) (by decide +kernel) e_X10_init_118 (by unfold vp_in; decide) rfl zs_35 rfl ?_
  refine c_iinc e_X10_init_119 0 rfl 8 (by decide) (by decide) [(1, .int (8 : Int32)), (0, .ref (zad G 1))] rfl ?_
  refine c_goto e_X10_init_122 ?_
  refine c_iload e_X10_init_106 0 rfl ?_
  refine c_ic e_X10_init_107 ?_
  refine c_icmp_ge e_X10_init_109 (fun _ => ?_) (fun q => absurd (by decide) q)
  exact c_ret hR e_X10_init_125
set_option maxHeartbeats 8000000 in
set_option maxRecDepth 100000 in
theorem kc_X1_init_8 (G : zG) (bs : Nat) : cM G bs 1 8 848 yX1_init cX1_init 1 [.ref (zad G 8)] zh_15 zs_35 zh_31 zs_35 := by
  refine cM.of (own := RX1) (by decide +kernel) rfl rfl (Nat.le_of_ble_eq_true rfl) (fun C hC hR => ?_)
  refine c_aload e_X1_init_0 0 rfl ?_
  refine c_obj oj_X1_3 (by decide) (Nat.le_of_ble_eq_true rfl) e_X1_init_1 ?_
  refine c_aload e_X1_init_4 0 rfl ?_
  refine c_ic e_X1_init_5 ?_
  refine c_newaI (N := 240) (n := 9) aw_I (by decide) rfl (by decide) (by decide +kernel) (by decide) rfl rfl (by decide) (by decide) e_X1_init_8 zh_16 rfl 1 240 rfl rfl ?_
  refine c_putr (k := 0) hC (show zh_16[8]? = some (.inl (1, [some (some none), some (some none), none, some (some none), some (some none), some (some none), some (some none), none, none, some (some none), none, none, none, some (some none)])) by decide +kernel) (by decide) (by decide +kernel) cl_X1 (by decide) cf_X1_11 rfl rfl (.array .int) (by decide +kernel) (fun _ => ⟨rfl, rfl⟩) e_X1_init_10 zh_17 rfl ?_
  refine c_aload e_X1_init_13 0 rfl ?_
  refine c_ic e_X1_init_14 ?_
  refine c_newaI (N := 240) (n := 10) aw_I (by decide) rfl (by decide) (by decide +kernel) (by decide) rfl rfl (by decide) (by decide) e_X1_init_17 zh_18 rfl 2 480 rfl rfl ?_
  refine c_putr (k := 1) hC (show zh_18[8]? = some (.inl (1, [some (some (some 9)), some (some none), none, some (some none), some (some none), some (some none), some (some none), none, none, some (some none), none, none, none, some (some none)])) by decide +kernel) (by decide) (by decide +kernel) cl_X1 (by decide) cf_X1_15 rfl rfl (.array .int) (by decide +kernel) (fun _ => ⟨rfl, rfl⟩) e_X1_init_19 zh_19 rfl ?_
  refine c_aload e_X1_init_22 0 rfl ?_
  refine c_ic e_X1_init_23 ?_
  refine c_newaI (N := 16) (n := 11) aw_I (by decide) rfl (by decide) (by decide +kernel) (by decide) rfl rfl (by decide) (by decide) e_X1_init_25 zh_20 rfl 3 496 rfl rfl ?_
  refine c_putr (k := 3) hC (show zh_20[8]? = some (.inl (1, [some (some (some 9)), some (some (some 10)), none, some (some none), some (some none), some (some none), some (some none), none, none, some (some none), none, none, none, some (some none)])) by decide +kernel) (by decide) (by decide +kernel) cl_X1 (by decide) cf_X1_18 rfl rfl (.array .int) (by decide +kernel) (fun _ => ⟨rfl, rfl⟩) e_X1_init_27 zh_21 rfl ?_
  refine c_aload e_X1_init_30 0 rfl ?_
  refine c_ic e_X1_init_31 ?_
  refine c_newaI (N := 16) (n := 12) aw_I (by decide) rfl (by decide) (by decide +kernel) (by decide) rfl rfl (by decide) (by decide) e_X1_init_33 zh_22 rfl 4 512 rfl rfl ?_
  refine c_putr (k := 4) hC (show zh_22[8]? = some (.inl (1, [some (some (some 9)), some (some (some 10)), none, some (some (some 11)), some (some none), some (some none), some (some none), none, none, some (some none), none, none, none, some (some none)])) by decide +kernel) (by decide) (by decide +kernel) cl_X1 (by decide) cf_X1_21 rfl rfl (.array .int) (by decide +kernel) (fun _ => ⟨rfl, rfl⟩) e_X1_init_35 zh_23 rfl ?_
  refine c_aload e_X1_init_38 0 rfl ?_
  refine c_ic e_X1_init_39 ?_
  refine c_newaI (N := 16) (n := 13) aw_I (by decide) rfl (by decide) (by decide +kernel) (by decide) rfl rfl (by decide) (by decide) e_X1_init_41 zh_24 rfl 5 528 rfl rfl ?_
  refine c_putr (k := 5) hC (show zh_24[8]? = some (.inl (1, [some (some (some 9)), some (some (some 10)), none, some (some (some 11)), some (some (some 12)), some (some none), some (some none), none, none, some (some none), none, none, none, some (some none)])) by decide +kernel) (by decide) (by decide +kernel) cl_X1 (by decide) cf_X1_24 rfl rfl (.array .int) (by decide +kernel) (fun _ => ⟨rfl, rfl⟩) e_X1_init_43 zh_25 rfl ?_
  refine c_aload e_X1_init_46 0 rfl ?_
  refine c_ic e_X1_init_47 ?_
  refine c_newaI (N := 16) (n := 14) aw_I (by decide) rfl (by decide) (by decide +kernel) (by decide) rfl rfl (by decide) (by decide) e_X1_init_49 zh_26 rfl 6 544 rfl rfl ?_
  refine c_putr (k := 6) hC (show zh_26[8]? = some (.inl (1, [some (some (some 9)), some (some (some 10)), none, some (some (some 11)), some (some (some 12)), some (some (some 13)), some (some none), none, none, some (some none), none, none, none, some (some none)])) by decide +kernel) (by decide) (by decide +kernel) cl_X1 (by decide) cf_X1_27 rfl rfl (.array .int) (by decide +kernel) (fun _ => ⟨rfl, rfl⟩) e_X1_init_51 zh_27 rfl ?_
  refine c_aload e_X1_init_54 0 rfl ?_
  refine c_ic e_X1_init_55 ?_
  refine c_newaI (N := 240) (n := 15) aw_I (by decide) rfl (by decide) (by decide +kernel) (by decide) rfl rfl (by decide) (by decide) e_X1_init_58 zh_28 rfl 7 784 rfl rfl ?_
  refine c_putr (k := 9) hC (show zh_28[8]? = some (.inl (1, [some (some (some 9)), some (some (some 10)), none, some (some (some 11)), some (some (some 12)), some (some (some 13)), some (some (some 14)), none, none, some (some none), none, none, none, some (some none)])) by decide +kernel) (by decide) (by decide +kernel) cl_X1 (by decide) cf_X1_30 rfl rfl (.array .int) (by decide +kernel) (fun _ => ⟨rfl, rfl⟩) e_X1_init_60 zh_29 rfl ?_
  refine c_aload e_X1_init_63 0 rfl ?_
  refine c_ic e_X1_init_64 ?_
  refine c_newaI (N := 64) (n := 16) aw_I (by decide) rfl (by decide) (by decide +kernel) (by decide) rfl rfl (by decide) (by decide) e_X1_init_66 zh_30 rfl 8 848 rfl rfl ?_
  refine c_putr (k := 13) hC (show zh_30[8]? = some (.inl (1, [some (some (some 9)), some (some (some 10)), none, some (some (some 11)), some (some (some 12)), some (some (some 13)), some (some (some 14)), none, none, some (some (some 15)), none, none, none, some (some none)])) by decide +kernel) (by decide) (by decide +kernel) cl_X1 (by decide) cf_X1_33 rfl rfl (.array .int) (by decide +kernel) (fun _ => ⟨rfl, rfl⟩) e_X1_init_68 zh_31 rfl ?_
  exact c_ret hR e_X1_init_71
set_option maxHeartbeats 8000000 in
set_option maxRecDepth 100000 in
theorem kc_X5_init_17 (G : zG) (bs : Nat) : cM G bs 1 6 33 yX5_init cX5_init 2 [.ref (zad G 17), .ref (zad G 1)] zh_32 zs_35 zh_45 zs_35 := by
  refine cM.of (own := RX5) (by decide +kernel) rfl rfl (Nat.le_of_ble_eq_true rfl) (fun C hC hR => ?_)
  refine c_aload e_X5_init_0 0 rfl ?_
  refine c_obj oj_X5_3 (by decide) (Nat.le_of_ble_eq_true rfl) e_X5_init_1 ?_
  refine c_aload e_X5_init_4 0 rfl ?_
  refine c_ic e_X5_init_5 ?_
  refine c_newaI (N := 4) (n := 18) aw_I (by decide) rfl (by decide) (by decide +kernel) (by decide) rfl rfl (by decide) (by decide) e_X5_init_6 zh_33 rfl 1 4 rfl rfl ?_
  refine c_putr (k := 1) hC (show zh_33[17]? = some (.inl (5, [some (some none), some (some none), some (some none), some (some none), some (some none), some (some none), none, none, none, none, none, none, none, none, none, some (some none)])) by decide +kernel) (by decide) (by decide +kernel) cl_X5 (by decide) cf_X5_9 rfl rfl (.array .int) (by decide +kernel) (fun _ => ⟨rfl, rfl⟩) e_X5_init_8 zh_34 rfl ?_
  refine c_aload e_X5_init_11 0 rfl ?_
  refine c_ic e_X5_init_12 ?_
  refine c_newaI (N := 4) (n := 19) aw_I (by decide) rfl (by decide) (by decide +kernel) (by decide) rfl rfl (by decide) (by decide) e_X5_init_13 zh_35 rfl 2 8 rfl rfl ?_
  refine c_putr (k := 2) hC (show zh_35[17]? = some (.inl (5, [some (some none), some (some (some 18)), some (some none), some (some none), some (some none), some (some none), none, none, none, none, none, none, none, none, none, some (some none)])) by decide +kernel) (by decide) (by decide +kernel) cl_X5 (by decide) cf_X5_15 rfl rfl (.array .int) (by decide +kernel) (fun _ => ⟨rfl, rfl⟩) e_X5_init_15 zh_36 rfl ?_
  refine c_aload e_X5_init_18 0 rfl ?_
  refine c_ic e_X5_init_19 ?_
  refine c_newaI (N := 8) (n := 20) aw_I (by decide) rfl (by decide) (by decide +kernel) (by decide) rfl rfl (by decide) (by decide) e_X5_init_21 zh_37 rfl 3 16 rfl rfl ?_
  refine c_putr (k := 3) hC (show zh_37[17]? = some (.inl (5, [some (some none), some (some (some 18)), some (some (some 19)), some (some none), some (some none), some (some none), none, none, none, none, none, none, none, none, none, some (some none)])) by decide +kernel) (by decide) (by decide +kernel) cl_X5 (by decide) cf_X5_18 rfl rfl (.array .int) (by decide +kernel) (fun _ => ⟨rfl, rfl⟩) e_X5_init_23 zh_38 rfl ?_
  refine c_aload e_X5_init_26 0 rfl ?_
  refine c_ic e_X5_init_27 ?_
  refine c_newaI (N := 8) (n := 21) aw_I (by decide) rfl (by decide) (by decide +kernel) (by decide) rfl rfl (by decide) (by decide) e_X5_init_29 zh_39 rfl 4 24 rfl rfl ?_
  refine c_putr (k := 4) hC (show zh_39[17]? = some (.inl (5, [some (some none), some (some (some 18)), some (some (some 19)), some (some (some 20)), some (some none), some (some none), none, none, none, none, none, none, none, none, none, some (some none)])) by decide +kernel) (by decide) (by decide +kernel) cl_X5 (by decide) cf_X5_21 rfl rfl (.array .int) (by decide +kernel) (fun _ => ⟨rfl, rfl⟩) e_X5_init_31 zh_40 rfl ?_
  refine c_aload e_X5_init_34 0 rfl ?_
  refine c_ic e_X5_init_35 ?_
  refine c_newaI (N := 3) (n := 22) aw_I (by decide) rfl (by decide) (by decide +kernel) (by decide) rfl rfl (by decide) (by decide) e_X5_init_36 zh_41 rfl 5 27 rfl rfl ?_
  refine c_putr (k := 5) hC (show zh_41[17]? = some (.inl (5, [some (some none), some (some (some 18)), some (some (some 19)), some (some (some 20)), some (some (some 21)), some (some none), none, none, none, none, none, none, none, none, none, some (some none)])) by decide +kernel) (by decide) (by decide +kernel) cl_X5 (by decide) cf_X5_24 rfl rfl (.array .int) (by decide +kernel) (fun _ => ⟨rfl, rfl⟩) e_X5_init_38 zh_42 rfl ?_
  refine c_aload e_X5_init_41 0 rfl ?_
  refine c_ic e_X5_init_42 ?_
  refine c_newaI (N := 6) (n := 23) aw_I (by decide) rfl (by decide) (by decide +kernel) (by decide) rfl rfl (by decide) (by decide) e_X5_init_44 zh_43 rfl 6 33 rfl rfl ?_
  refine c_putr (k := 15) hC (show zh_43[17]? = some (.inl (5, [some (some none), some (some (some 18)), some (some (some 19)), some (some (some 20)), some (some (some 21)), some (some (some 22)), none, none, none, none, none, none, none, none, none, some (some none)])) by decide +kernel) (by decide) (by decide +kernel) cl_X5 (by decide) cf_X5_27 rfl rfl (.array .int) (by decide +kernel) (fun _ => ⟨rfl, rfl⟩) e_X5_init_46 zh_44 rfl ?_
  refine c_aload e_X5_init_49 0 rfl ?_
  refine c_aload e_X5_init_50 1 rfl ?_
  refine c_putr (k := 0) hC (show zh_44[17]? = some (.inl (5, [some (some none), some (some (some 18)), some (some (some 19)), some (some (some 20)), some (some (some 21)), some (some (some 22)), none, none, none, none, none, none, none, none, none, some (some (some 23))])) by decide +kernel) (by decide) (by decide +kernel) cl_X5 (by decide) cf_X5_30 rfl rfl (.object "GiantHeart$World") (by decide +kernel) (fun _ => ⟨rfl, rfl⟩) e_X5_init_51 zh_45 rfl ?_
  exact c_ret hR e_X5_init_54
set_option maxHeartbeats 8000000 in
set_option maxRecDepth 100000 in
theorem kc_X3_init_24 (G : zG) (bs : Nat) : cM G bs 1 1 9 yX3_init cX3_init 3 [.ref (zad G 24), .ref (zad G 1), .ref (zad G 8)] zh_46 zs_35 zh_50 zs_35 := by
  refine cM.of (own := RX3) (by decide +kernel) rfl rfl (Nat.le_of_ble_eq_true rfl) (fun C hC hR => ?_)
  refine c_aload e_X3_init_0 0 rfl ?_
  refine c_obj oj_X3_3 (by decide) (Nat.le_of_ble_eq_true rfl) e_X3_init_1 ?_
  refine c_aload e_X3_init_4 0 rfl ?_
  refine c_ic e_X3_init_5 ?_
  refine c_newaI (N := 9) (n := 25) aw_I (by decide) rfl (by decide) (by decide +kernel) (by decide) rfl rfl (by decide) (by decide) e_X3_init_7 zh_47 rfl 1 9 rfl rfl ?_
  refine c_putr (k := 2) hC (show zh_47[24]? = some (.inl (3, [some (some none), some (some none), some (some none), none, none, none, none])) by decide +kernel) (by decide) (by decide +kernel) cl_X3 (by decide) cf_X3_9 rfl rfl (.array .int) (by decide +kernel) (fun _ => ⟨rfl, rfl⟩) e_X3_init_9 zh_48 rfl ?_
  refine c_aload e_X3_init_12 0 rfl ?_
  refine c_aload e_X3_init_13 1 rfl ?_
  refine c_putr (k := 0) hC (show zh_48[24]? = some (.inl (3, [some (some none), some (some none), some (some (some 25)), none, none, none, none])) by decide +kernel) (by decide) (by decide +kernel) cl_X3 (by decide) cf_X3_15 rfl rfl (.object "GiantHeart$World") (by decide +kernel) (fun _ => ⟨rfl, rfl⟩) e_X3_init_14 zh_49 rfl ?_
  refine c_aload e_X3_init_17 0 rfl ?_
  refine c_aload e_X3_init_18 2 rfl ?_
  refine c_putr (k := 1) hC (show zh_49[24]? = some (.inl (3, [some (some (some 1)), some (some none), some (some (some 25)), none, none, none, none])) by decide +kernel) (by decide) (by decide +kernel) cl_X3 (by decide) cf_X3_19 rfl rfl (.object "GiantHeart$Law") (by decide +kernel) (fun _ => ⟨rfl, rfl⟩) e_X3_init_19 zh_50 rfl ?_
  exact c_ret hR e_X3_init_22
set_option maxHeartbeats 8000000 in
set_option maxRecDepth 100000 in
theorem kc_X10_init_26 (G : zG) (bs : Nat) : cM G bs 1 6 56 yX10_init cX10_init 2 [.ref (zad G 26)] zh_52 zs_35 zh_64 zs_70 := by
  refine cM.of (own := RX10) (by decide +kernel) rfl rfl (Nat.le_of_ble_eq_true rfl) (fun C hC hR => ?_)
  refine c_aload e_X10_init_0 0 rfl ?_
  refine c_obj oj_X10_3 (by decide) (Nat.le_of_ble_eq_true rfl) e_X10_init_1 ?_
  refine c_aload e_X10_init_4 0 rfl ?_
  refine c_ic e_X10_init_5 ?_
  refine c_newaI (N := 16) (n := 27) aw_I (by decide) rfl (by decide) (by decide +kernel) (by decide) rfl rfl (by decide) (by decide) e_X10_init_7 zh_53 rfl 1 16 rfl rfl ?_
  refine c_putr (k := 0) hC (show zh_53[26]? = some (.inl (10, [some (some none), some (some none), some (some none), some (some none), some (some none), some (some none), none, none, none, none, none, none, none])) by decide +kernel) (by decide) (by decide +kernel) cl_X10 (by decide) cf_X10_9 rfl rfl (.array .int) (by decide +kernel) (fun _ => ⟨rfl, rfl⟩) e_X10_init_9 zh_54 rfl ?_
  refine c_aload e_X10_init_12 0 rfl ?_
  refine c_ic e_X10_init_13 ?_
  refine c_newaI (N := 8) (n := 28) aw_I (by decide) rfl (by decide) (by decide +kernel) (by decide) rfl rfl (by decide) (by decide) e_X10_init_15 zh_55 rfl 2 24 rfl rfl ?_
  refine c_putr (k := 1) hC (show zh_55[26]? = some (.inl (10, [some (some (some 27)), some (some none), some (some none), some (some none), some (some none), some (some none), none, none, none, none, none, none, none])) by decide +kernel) (by decide) (by decide +kernel) cl_X10 (by decide) cf_X10_15 rfl rfl (.array .int) (by decide +kernel) (fun _ => ⟨rfl, rfl⟩) e_X10_init_17 zh_56 rfl ?_
  refine c_aload e_X10_init_20 0 rfl ?_
  refine c_ic e_X10_init_21 ?_
  refine c_newaI (N := 8) (n := 29) aw_I (by decide) rfl (by decide) (by decide +kernel) (by decide) rfl rfl (by decide) (by decide) e_X10_init_23 zh_57 rfl 3 32 rfl rfl ?_
  refine c_putr (k := 2) hC (show zh_57[26]? = some (.inl (10, [some (some (some 27)), some (some (some 28)), some (some none), some (some none), some (some none), some (some none), none, none, none, none, none, none, none])) by decide +kernel) (by decide) (by decide +kernel) cl_X10 (by decide) cf_X10_18 rfl rfl (.array .int) (by decide +kernel) (fun _ => ⟨rfl, rfl⟩) e_X10_init_25 zh_58 rfl ?_
  refine c_aload e_X10_init_28 0 rfl ?_
  refine c_ic e_X10_init_29 ?_
  refine c_newaI (N := 8) (n := 30) aw_I (by decide) rfl (by decide) (by decide +kernel) (by decide) rfl rfl (by decide) (by decide) e_X10_init_31 zh_59 rfl 4 40 rfl rfl ?_
  refine c_putr (k := 3) hC (show zh_59[26]? = some (.inl (10, [some (some (some 27)), some (some (some 28)), some (some (some 29)), some (some none), some (some none), some (some none), none, none, none, none, none, none, none])) by decide +kernel) (by decide) (by decide +kernel) cl_X10 (by decide) cf_X10_21 rfl rfl (.array .int) (by decide +kernel) (fun _ => ⟨rfl, rfl⟩) e_X10_init_33 zh_60 rfl ?_
  refine c_aload e_X10_init_36 0 rfl ?_
  refine c_ic e_X10_init_37 ?_
  refine c_newaI (N := 8) (n := 31) aw_I (by decide) rfl (by decide) (by decide +kernel) (by decide) rfl rfl (by decide) (by decide) e_X10_init_39 zh_61 rfl 5 48 rfl rfl ?_
  refine c_putr (k := 4) hC (show zh_61[26]? = some (.inl (10, [some (some (some 27)), some (some (some 28)), some (some (some 29)), some (some (some 30)), some (some none), some (some none), none, none, none, none, none, none, none])) by decide +kernel) (by decide) (by decide +kernel) cl_X10 (by decide) cf_X10_24 rfl rfl (.array .int) (by decide +kernel) (fun _ => ⟨rfl, rfl⟩) e_X10_init_41 zh_62 rfl ?_
  refine c_aload e_X10_init_44 0 rfl ?_
  refine c_ic e_X10_init_45 ?_
  refine c_newaI (N := 8) (n := 32) aw_I (by decide) rfl (by decide) (by decide +kernel) (by decide) rfl rfl (by decide) (by decide) e_X10_init_47 zh_63 rfl 6 56 rfl rfl ?_
  refine c_putr (k := 5) hC (show zh_63[26]? = some (.inl (10, [some (some (some 27)), some (some (some 28)), some (some (some 29)), some (some (some 30)), some (some (some 31)), some (some none), none, none, none, none, none, none, none])) by decide +kernel) (by decide) (by decide +kernel) cl_X10 (by decide) cf_X10_27 rfl rfl (.array .int) (by decide +kernel) (fun _ => ⟨rfl, rfl⟩) e_X10_init_49 zh_64 rfl ?_
  refine c_aload e_X10_init_52 0 rfl ?_
  refine c_ic e_X10_init_53 ?_
  refine c_puti (k := 10) (show zh_64[26]? = some (.inl (10, [some (some (some 27)), some (some (some 28)), some (some (some 29)), some (some (some 30)), some (some (some 31)), some (some (some 32)), none, none, none, none, none, none, none])) by decide +kernel) rfl (by decide +kernel) cl_X10 (by decide) cf_X10_30 rfl (.int) (by decide +kernel) ⟨by decide, by decide⟩ e_X10_init_55 zs_36 rfl ?_
  refine c_aload e_X10_init_58 0 rfl ?_
  refine c_ic e_X10_init_59 ?_
  refine c_puti (k := 11) (show zh_64[26]? = some (.inl (10, [some (some (some 27)), some (some (some 28)), some (some (some 29)), some (some (some 30)), some (some (some 31)), some (some (some 32)), none, none, none, none, none, none, none])) by decide +kernel) rfl (by decide +kernel) cl_X10 (by decide) cf_X10_34 rfl (.int) (by decide +kernel) ⟨by decide, by decide⟩ e_X10_init_61 zs_37 rfl ?_
  refine c_aload e_X10_init_64 0 rfl ?_
  refine c_ic e_X10_init_65 ?_
  refine c_puti (k := 12) (show zh_64[26]? = some (.inl (10, [some (some (some 27)), some (some (some 28)), some (some (some 29)), some (some (some 30)), some (some (some 31)), some (some (some 32)), none, none, none, none, none, none, none])) by decide +kernel) rfl (by decide +kernel) cl_X10 (by decide) cf_X10_37 rfl (.int) (by decide +kernel) ⟨by decide, by decide⟩ e_X10_init_66 zs_38 rfl ?_
  refine c_ic e_X10_init_69 ?_
  refine c_istore e_X10_init_70 (by decide) [(1, .int (0 : Int32)), (0, .ref (zad G 26))] rfl ?_
  refine c_iload e_X10_init_71 0 rfl ?_
  refine c_ic e_X10_init_72 ?_
  refine c_icmp_ge e_X10_init_74 (fun q => absurd q (by decide)) (fun _ => ?_)
  refine c_aload e_X10_init_77 1 rfl ?_
  refine c_getr (k := 2) (show zh_64[26]? = some (.inl (10, [some (some (some 27)), some (some (some 28)), some (some (some 29)), some (some (some 30)), some (some (some 31)), some (some (some 32)), none, none, none, none, none, none, none])) by decide +kernel) rfl cl_X10 (by decide) cf_X10_18 e_X10_init_78 ?_
  refine c_iload e_X10_init_81 0 rfl ?_
  refine c_ic e_X10_init_82 ?_
  refine c_iast (n := 8) (j := 0) (by decide +kernel) (by decide +kernel) e_X10_init_83 (by unfold vp_in; decide) rfl zs_39 rfl ?_
  refine c_aload e_X10_init_84 1 rfl ?_
  refine c_getr (k := 3) (show zh_64[26]? = some (.inl (10, [some (some (some 27)), some (some (some 28)), some (some (some 29)), some (some (some 30)), some (some (some 31)), some (some (some 32)), none, none, none, none, none, none, none])) by decide +kernel) rfl cl_X10 (by decide) cf_X10_21 e_X10_init_85 ?_
  refine c_iload e_X10_init_88 0 rfl ?_
  refine c_ic e_X10_init_89 ?_
  refine c_iast (n := 8) (j := 0) (by decide +kernel) (by decide +kernel) e_X10_init_90 (by unfold vp_in; decide) rfl zs_40 rfl ?_
  refine c_aload e_X10_init_91 1 rfl ?_
  refine c_getr (k := 4) (show zh_64[26]? = some (.inl (10, [some (some (some 27)), some (some (some 28)), some (some (some 29)), some (some (some 30)), some (some (some 31)), some (some (some 32)), none, none, none, none, none, none, none])) by decide +kernel) rfl cl_X10 (by decide) cf_X10_24 e_X10_init_92 ?_
  refine c_iload e_X10_init_95 0 rfl ?_
  refine c_ic e_X10_init_96 ?_
  refine c_iast (n := 8) (j := 0) (by decide +kernel) (by decide +kernel) e_X10_init_97 (by unfold vp_in; decide) rfl zs_41 rfl ?_
  refine c_iinc e_X10_init_98 0 rfl 1 (by decide) (by decide) [(1, .int (1 : Int32)), (0, .ref (zad G 26))] rfl ?_
  refine c_goto e_X10_init_101 ?_
  refine c_iload e_X10_init_71 0 rfl ?_
  refine c_ic e_X10_init_72 ?_
  refine c_icmp_ge e_X10_init_74 (fun q => absurd q (by decide)) (fun _ => ?_)
  refine c_aload e_X10_init_77 1 rfl ?_
  refine c_getr (k := 2) (show zh_64[26]? = some (.inl (10, [some (some (some 27)), some (some (some 28)), some (some (some 29)), some (some (some 30)), some (some (some 31)), some (some (some 32)), none, none, none, none, none, none, none])) by decide +kernel) rfl cl_X10 (by decide) cf_X10_18 e_X10_init_78 ?_
  refine c_iload e_X10_init_81 0 rfl ?_
  refine c_ic e_X10_init_82 ?_
  refine c_iast (n := 8) (j := 1) (by decide +kernel) (by decide +kernel) e_X10_init_83 (by unfold vp_in; decide) rfl zs_42 rfl ?_
  refine c_aload e_X10_init_84 1 rfl ?_
  refine c_getr (k := 3) (show zh_64[26]? = some (.inl (10, [some (some (some 27)), some (some (some 28)), some (some (some 29)), some (some (some 30)), some (some (some 31)), some (some (some 32)), none, none, none, none, none, none, none])) by decide +kernel) rfl cl_X10 (by decide) cf_X10_21 e_X10_init_85 ?_
  refine c_iload e_X10_init_88 0 rfl ?_
  refine c_ic e_X10_init_89 ?_
  refine c_iast (n := 8) (j := 1) (by decide +kernel) (by decide +kernel) e_X10_init_90 (by unfold vp_in; decide) rfl zs_43 rfl ?_
  refine c_aload e_X10_init_91 1 rfl ?_
  refine c_getr (k := 4) (show zh_64[26]? = some (.inl (10, [some (some (some 27)), some (some (some 28)), some (some (some 29)), some (some (some 30)), some (some (some 31)), some (some (some 32)), none, none, none, none, none, none, none])) by decide +kernel) rfl cl_X10 (by decide) cf_X10_24 e_X10_init_92 ?_
  refine c_iload e_X10_init_95 0 rfl ?_
  refine c_ic e_X10_init_96 ?_
  refine c_iast (n := 8) (j := 1) (by decide +kernel) (by decide +kernel) e_X10_init_97 (by unfold vp_in; decide) rfl zs_44 rfl ?_
  refine c_iinc e_X10_init_98 0 rfl 2 (by decide) (by decide) [(1, .int (2 : Int32)), (0, .ref (zad G 26))] rfl ?_
  refine c_goto e_X10_init_101 ?_
  refine c_iload e_X10_init_71 0 rfl ?_
  refine c_ic e_X10_init_72 ?_
  refine c_icmp_ge e_X10_init_74 (fun q => absurd q (by decide)) (fun _ => ?_)
  refine c_aload e_X10_init_77 1 rfl ?_
  refine c_getr (k := 2) (show zh_64[26]? = some (.inl (10, [some (some (some 27)), some (some (some 28)), some (some (some 29)), some (some (some 30)), some (some (some 31)), some (some (some 32)), none, none, none, none, none, none, none])) by decide +kernel) rfl cl_X10 (by decide) cf_X10_18 e_X10_init_78 ?_
  refine c_iload e_X10_init_81 0 rfl ?_
  refine c_ic e_X10_init_82 ?_
  refine c_iast (n := 8) (j := 2) (by decide +kernel) (by decide +kernel) e_X10_init_83 (by unfold vp_in; decide) rfl zs_45 rfl ?_
  refine c_aload e_X10_init_84 1 rfl ?_
  refine c_getr (k := 3) (show zh_64[26]? = some (.inl (10, [some (some (some 27)), some (some (some 28)), some (some (some 29)), some (some (some 30)), some (some (some 31)), some (some (some 32)), none, none, none, none, none, none, none])) by decide +kernel) rfl cl_X10 (by decide) cf_X10_21 e_X10_init_85 ?_
  refine c_iload e_X10_init_88 0 rfl ?_
  refine c_ic e_X10_init_89 ?_
  refine c_iast (n := 8) (j := 2) (by decide +kernel) (by decide +kernel) e_X10_init_90 (by unfold vp_in; decide) rfl zs_46 rfl ?_
  refine c_aload e_X10_init_91 1 rfl ?_
  refine c_getr (k := 4) (show zh_64[26]? = some (.inl (10, [some (some (some 27)), some (some (some 28)), some (some (some 29)), some (some (some 30)), some (some (some 31)), some (some (some 32)), none, none, none, none, none, none, none])) by decide +kernel) rfl cl_X10 (by decide) cf_X10_24 e_X10_init_92 ?_
  refine c_iload e_X10_init_95 0 rfl ?_
  refine c_ic e_X10_init_96 ?_
  refine c_iast (n := 8) (j := 2) (by decide +kernel) (by decide +kernel) e_X10_init_97 (by unfold vp_in; decide) rfl zs_47 rfl ?_
  refine c_iinc e_X10_init_98 0 rfl 3 (by decide) (by decide) [(1, .int (3 : Int32)), (0, .ref (zad G 26))] rfl ?_
  refine c_goto e_X10_init_101 ?_
  refine c_iload e_X10_init_71 0 rfl ?_
  refine c_ic e_X10_init_72 ?_
  refine c_icmp_ge e_X10_init_74 (fun q => absurd q (by decide)) (fun _ => ?_)
  refine c_aload e_X10_init_77 1 rfl ?_
  refine c_getr (k := 2) (show zh_64[26]? = some (.inl (10, [some (some (some 27)), some (some (some 28)), some (some (some 29)), some (some (some 30)), some (some (some 31)), some (some (some 32)), none, none, none, none, none, none, none])) by decide +kernel) rfl cl_X10 (by decide) cf_X10_18 e_X10_init_78 ?_
  refine c_iload e_X10_init_81 0 rfl ?_
  refine c_ic e_X10_init_82 ?_
  refine c_iast (n := 8) (j := 3) (by decide +kernel) (by decide +kernel) e_X10_init_83 (by unfold vp_in; decide) rfl zs_48 rfl ?_
  refine c_aload e_X10_init_84 1 rfl ?_
  refine c_getr (k := 3) (show zh_64[26]? = some (.inl (10, [some (some (some 27)), some (some (some 28)), some (some (some 29)), some (some (some 30)), some (some (some 31)), some (some (some 32)), none, none, none, none, none, none, none])) by decide +kernel) rfl cl_X10 (by decide) cf_X10_21 e_X10_init_85 ?_
  refine c_iload e_X10_init_88 0 rfl ?_
  refine c_ic e_X10_init_89 ?_
  refine c_iast (n := 8) (j := 3) (by decide +kernel) (by decide +kernel) e_X10_init_90 (by unfold vp_in; decide) rfl zs_49 rfl ?_
  refine c_aload e_X10_init_91 1 rfl ?_
  refine c_getr (k := 4) (show zh_64[26]? = some (.inl (10, [some (some (some 27)), some (some (some 28)), some (some (some 29)), some (some (some 30)), some (some (some 31)), some (some (some 32)), none, none, none, none, none, none, none])) by decide +kernel) rfl cl_X10 (by decide) cf_X10_24 e_X10_init_92 ?_
  refine c_iload e_X10_init_95 0 rfl ?_
  refine c_ic e_X10_init_96 ?_
  refine c_iast (n := 8) (j := 3) (by decide +kernel) (by decide +kernel) e_X10_init_97 (by unfold vp_in; decide) rfl zs_50 rfl ?_
  refine c_iinc e_X10_init_98 0 rfl 4 (by decide) (by decide) [(1, .int (4 : Int32)), (0, .ref (zad G 26))] rfl ?_
  refine c_goto e_X10_init_101 ?_
  refine c_iload e_X10_init_71 0 rfl ?_
  refine c_ic e_X10_init_72 ?_
  refine c_icmp_ge e_X10_init_74 (fun q => absurd q (by decide)) (fun _ => ?_)
  refine c_aload e_X10_init_77 1 rfl ?_
  refine c_getr (k := 2) (show zh_64[26]? = some (.inl (10, [some (some (some 27)), some (some (some 28)), some (some (some 29)), some (some (some 30)), some (some (some 31)), some (some (some 32)), none, none, none, none, none, none, none])) by decide +kernel) rfl cl_X10 (by decide) cf_X10_18 e_X10_init_78 ?_
  refine c_iload e_X10_init_81 0 rfl ?_
  refine c_ic e_X10_init_82 ?_
  refine c_iast (n := 8) (j := 4) (by decide +kernel) (by decide +kernel) e_X10_init_83 (by unfold vp_in; decide) rfl zs_51 rfl ?_
  refine c_aload e_X10_init_84 1 rfl ?_
  refine c_getr (k := 3) (show zh_64[26]? = some (.inl (10, [some (some (some 27)), some (some (some 28)), some (some (some 29)), some (some (some 30)), some (some (some 31)), some (some (some 32)), none, none, none, none, none, none, none])) by decide +kernel) rfl cl_X10 (by decide) cf_X10_21 e_X10_init_85 ?_
  refine c_iload e_X10_init_88 0 rfl ?_
  refine c_ic e_X10_init_89 ?_
  refine c_iast (n := 8) (j := 4) (by decide +kernel) (by decide +kernel) e_X10_init_90 (by unfold vp_in; decide) rfl zs_52 rfl ?_
  refine c_aload e_X10_init_91 1 rfl ?_
  refine c_getr (k := 4) (show zh_64[26]? = some (.inl (10, [some (some (some 27)), some (some (some 28)), some (some (some 29)), some (some (some 30)), some (some (some 31)), some (some (some 32)), none, none, none, none, none, none, none])) by decide +kernel) rfl cl_X10 (by decide) cf_X10_24 e_X10_init_92 ?_
  refine c_iload e_X10_init_95 0 rfl ?_
  refine c_ic e_X10_init_96 ?_
  refine c_iast (n := 8) (j := 4) (by decide +kernel) (by decide +kernel) e_X10_init_97 (by unfold vp_in; decide) rfl zs_53 rfl ?_
  refine c_iinc e_X10_init_98 0 rfl 5 (by decide) (by decide) [(1, .int (5 : Int32)), (0, .ref (zad G 26))] rfl ?_
  refine c_goto e_X10_init_101 ?_
  refine c_iload e_X10_init_71 0 rfl ?_
  refine c_ic e_X10_init_72 ?_
  refine c_icmp_ge e_X10_init_74 (fun q => absurd q (by decide)) (fun _ => ?_)
  refine c_aload e_X10_init_77 1 rfl ?_
  refine c_getr (k := 2) (show zh_64[26]? = some (.inl (10, [some (some (some 27)), some (some (some 28)), some (some (some 29)), some (some (some 30)), some (some (some 31)), some (some (some 32)), none, none, none, none, none, none, none])) by decide +kernel) rfl cl_X10 (by decide) cf_X10_18 e_X10_init_78 ?_
  refine c_iload e_X10_init_81 0 rfl ?_
  refine c_ic e_X10_init_82 ?_
  refine c_iast (n := 8) (j := 5) (by decide +kernel) (by decide +kernel) e_X10_init_83 (by unfold vp_in; decide) rfl zs_54 rfl ?_
  refine c_aload e_X10_init_84 1 rfl ?_
  refine c_getr (k := 3) (show zh_64[26]? = some (.inl (10, [some (some (some 27)), some (some (some 28)), some (some (some 29)), some (some (some 30)), some (some (some 31)), some (some (some 32)), none, none, none, none, none, none, none])) by decide +kernel) rfl cl_X10 (by decide) cf_X10_21 e_X10_init_85 ?_
  refine c_iload e_X10_init_88 0 rfl ?_
  refine c_ic e_X10_init_89 ?_
  refine c_iast (n := 8) (j := 5) (by decide +kernel) (by decide +kernel) e_X10_init_90 (by unfold vp_in; decide) rfl zs_55 rfl ?_
  refine c_aload e_X10_init_91 1 rfl ?_
  refine c_getr (k := 4) (show zh_64[26]? = some (.inl (10, [some (some (some 27)), some (some (some 28)), some (some (some 29)), some (some (some 30)), some (some (some 31)), some (some (some 32)), none, none, none, none, none, none, none])) by decide +kernel) rfl cl_X10 (by decide) cf_X10_24 e_X10_init_92 ?_
  refine c_iload e_X10_init_95 0 rfl ?_
  refine c_ic e_X10_init_96 ?_
  refine c_iast (n := 8) (j := 5) (by decide +kernel) (by decide +kernel) e_X10_init_97 (by unfold vp_in; decide) rfl zs_56 rfl ?_
  refine c_iinc e_X10_init_98 0 rfl 6 (by decide) (by decide) [(1, .int (6 : Int32)), (0, .ref (zad G 26))] rfl ?_
  refine c_goto e_X10_init_101 ?_
  refine c_iload e_X10_init_71 0 rfl ?_
  refine c_ic e_X10_init_72 ?_
  refine c_icmp_ge e_X10_init_74 (fun q => absurd q (by decide)) (fun _ => ?_)
  refine c_aload e_X10_init_77 1 rfl ?_
  refine c_getr (k := 2) (show zh_64[26]? = some (.inl (10, [some (some (some 27)), some (some (some 28)), some (some (some 29)), some (some (some 30)), some (some (some 31)), some (some (some 32)), none, none, none, none, none, none, none])) by decide +kernel) rfl cl_X10 (by decide) cf_X10_18 e_X10_init_78 ?_
  refine c_iload e_X10_init_81 0 rfl ?_
  refine c_ic e_X10_init_82 ?_
  refine c_iast (n := 8) (j := 6) (by decide +kernel) (by decide +kernel) e_X10_init_83 (by unfold vp_in; decide) rfl zs_57 rfl ?_
  refine c_aload e_X10_init_84 1 rfl ?_
  refine c_getr (k := 3) (show zh_64[26]? = some (.inl (10, [some (some (some 27)), some (some (some 28)), some (some (some 29)), some (some (some 30)), some (some (some 31)), some (some (some 32)), none, none, none, none, none, none, none])) by decide +kernel) rfl cl_X10 (by decide) cf_X10_21 e_X10_init_85 ?_
  refine c_iload e_X10_init_88 0 rfl ?_
  refine c_ic e_X10_init_89 ?_
  refine c_iast (n := 8) (j := 6) (by decide +kernel) (by decide +kernel) e_X10_init_90 (by unfold vp_in; decide) rfl zs_58 rfl ?_
  refine c_aload e_X10_init_91 1 rfl ?_
  refine c_getr (k := 4) (show zh_64[26]? = some (.inl (10, [some (some (some 27)), some (some (some 28)), some (some (some 29)), some (some (some 30)), some (some (some 31)), some (some (some 32)), none, none, none, none, none, none, none])) by decide +kernel) rfl cl_X10 (by decide) cf_X10_24 e_X10_init_92 ?_
  refine c_iload e_X10_init_95 0 rfl ?_
  refine c_ic e_X10_init_96 ?_
  refine c_iast (n := 8) (j := 6) (by decide +kernel) (by decide +kernel) e_X10_init_97 (by unfold vp_in; decide) rfl zs_59 rfl ?_
  refine c_iinc e_X10_init_98 0 rfl 7 (by decide) (by decide) [(1, .int (7 : Int32)), (0, .ref (zad G 26))] rfl ?_
  refine c_goto e_X10_init_101 ?_
  refine c_iload e_X10_init_71 0 rfl ?_
  refine c_ic e_X10_init_72 ?_
  refine c_icmp_ge e_X10_init_74 (fun q => absurd q (by decide)) (fun _ => ?_)
  refine c_aload e_X10_init_77 1 rfl ?_
  refine c_getr (k := 2) (show zh_64[26]? = some (.inl (10, [some (some (some 27)), some (some (some 28)), some (some (some 29)), some (some (some 30)), some (some (some 31)), some (some (some 32)), none, none, none, none, none, none, none])) by decide +kernel) rfl cl_X10 (by decide) cf_X10_18 e_X10_init_78 ?_
  refine c_iload e_X10_init_81 0 rfl ?_
  refine c_ic e_X10_init_82 ?_
  refine c_iast (n := 8) (j := 7) (by decide +kernel) (by decide +kernel) e_X10_init_83 (by unfold vp_in; decide) rfl zs_60 rfl ?_
  refine c_aload e_X10_init_84 1 rfl ?_
  refine c_getr (k := 3) (show zh_64[26]? = some (.inl (10, [some (some (some 27)), some (some (some 28)), some (some (some 29)), some (some (some 30)), some (some (some 31)), some (some (some 32)), none, none, none, none, none, none, none])) by decide +kernel) rfl cl_X10 (by decide) cf_X10_21 e_X10_init_85 ?_
  refine c_iload e_X10_init_88 0 rfl ?_
  refine c_ic e_X10_init_89 ?_
  refine c_iast (n := 8) (j := 7) (by decide +kernel) (by decide +kernel) e_X10_init_90 (by unfold vp_in; decide) rfl zs_61 rfl ?_
  refine c_aload e_X10_init_91 1 rfl ?_
  refine c_getr (k := 4) (show zh_64[26]? = some (.inl (10, [some (some (some 27)), some (some (some 28)), some (some (some 29)), some (some (some 30)), some (some (some 31)), some (some (some 32)), none, none, none, none, none, none, none])) by decide +kernel) rfl cl_X10 (by decide) cf_X10_24 e_X10_init_92 ?_
  refine c_iload e_X10_init_95 0 rfl ?_
  refine c_ic e_X10_init_96 ?_
  refine c_iast (n := 8) (j := 7) (by decide +kernel) (by decide +kernel) e_X10_init_97 (by unfold vp_in; decide) rfl zs_62 rfl ?_
  refine c_iinc e_X10_init_98 0 rfl 8 (by decide) (by decide) [(1, .int (8 : Int32)), (0, .ref (zad G 26))] rfl ?_
  refine c_goto e_X10_init_101 ?_
  refine c_iload e_X10_init_71 0 rfl ?_
  refine c_ic e_X10_init_72 ?_
  refine c_icmp_ge e_X10_init_74 (fun _ => ?_) (fun q => absurd (by decide) q)
  refine c_ic e_X10_init_104 ?_
  refine c_istore e_X10_init_105 (by decide) [(1, .int (0 : Int32)), (0, .ref (zad G 26))] rfl ?_
  refine c_iload e_X10_init_106 0 rfl ?_
  refine c_ic e_X10_init_107 ?_
  refine c_icmp_ge e_X10_init_109 (fun q => absurd q (by decide)) (fun _ => ?_)
  refine c_aload e_X10_init_112 1 rfl ?_
  refine c_getr (k := 5) (show zh_64[26]? = some (.inl (10, [some (some (some 27)), some (some (some 28)), some (some (some 29)), some (some (some 30)), some (some (some 31)), some (some (some 32)), none, none, none, none, none, none, none])) by decide +kernel) rfl cl_X10 (by decide) cf_X10_27 e_X10_init_113 ?_
  refine c_iload e_X10_init_116 0 rfl ?_
  refine c_ic e_X10_init_117 ?_
  refine c_iast (n := 8) (j := 0) (by decide +kernel) (by decide +kernel) e_X10_init_118 (by unfold vp_in; decide) rfl zs_63 rfl ?_
  refine c_iinc e_X10_init_119 0 rfl 1 (by decide) (by decide) [(1, .int (1 : Int32)), (0, .ref (zad G 26))] rfl ?_
  refine c_goto e_X10_init_122 ?_
  refine c_iload e_X10_init_106 0 rfl ?_
  refine c_ic e_X10_init_107 ?_
  refine c_icmp_ge e_X10_init_109 (fun q => absurd q (by decide)) (fun _ => ?_)
  refine c_aload e_X10_init_112 1 rfl ?_
  refine c_getr (k := 5) (show zh_64[26]? = some (.inl (10, [some (some (some 27)), some (some (some 28)), some (some (some 29)), some (some (some 30)), some (some (some 31)), some (some (some 32)), none, none, none, none, none, none, none])) by decide +kernel) rfl cl_X10 (by decide) cf_X10_27 e_X10_init_113 ?_
  refine c_iload e_X10_init_116 0 rfl ?_
  refine c_ic e_X10_init_117 ?_
  refine c_iast (n := 8) (j := 1) (by decide +kernel) (by decide +kernel) e_X10_init_118 (by unfold vp_in; decide) rfl zs_64 rfl ?_
  refine c_iinc e_X10_init_119 0 rfl 2 (by decide) (by decide) [(1, .int (2 : Int32)), (0, .ref (zad G 26))] rfl ?_
  refine c_goto e_X10_init_122 ?_
  refine c_iload e_X10_init_106 0 rfl ?_
  refine c_ic e_X10_init_107 ?_
  refine c_icmp_ge e_X10_init_109 (fun q => absurd q (by decide)) (fun _ => ?_)
  refine c_aload e_X10_init_112 1 rfl ?_
  refine c_getr (k := 5) (show zh_64[26]? = some (.inl (10, [some (some (some 27)), some (some (some 28)), some (some (some 29)), some (some (some 30)), some (some (some 31)), some (some (some 32)), none, none, none, none, none, none, none])) by decide +kernel) rfl cl_X10 (by decide) cf_X10_27 e_X10_init_113 ?_
  refine c_iload e_X10_init_116 0 rfl ?_
  refine c_ic e_X10_init_117 ?_
  refine c_iast (n := 8) (j := 2) (by decide +kernel) (by decide +kernel) e_X10_init_118 (by unfold vp_in; decide) rfl zs_65 rfl ?_
  refine c_iinc e_X10_init_119 0 rfl 3 (by decide) (by decide) [(1, .int (3 : Int32)), (0, .ref (zad G 26))] rfl ?_
  refine c_goto e_X10_init_122 ?_
  refine c_iload e_X10_init_106 0 rfl ?_
  refine c_ic e_X10_init_107 ?_
  refine c_icmp_ge e_X10_init_109 (fun q => absurd q (by decide)) (fun _ => ?_)
  refine c_aload e_X10_init_112 1 rfl ?_
  refine c_getr (k := 5) (show zh_64[26]? = some (.inl (10, [some (some (some 27)), some (some (some 28)), some (some (some 29)), some (some (some 30)), some (some (some 31)), some (some (some 32)), none, none, none, none, none, none, none])) by decide +kernel) rfl cl_X10 (by decide) cf_X10_27 e_X10_init_113 ?_
  refine c_iload e_X10_init_116 0 rfl ?_
  refine c_ic e_X10_init_117 ?_
  refine c_iast (n := 8) (j := 3) (by decide +kernel) (by decide +kernel) e_X10_init_118 (by unfold vp_in; decide) rfl zs_66 rfl ?_
  refine c_iinc e_X10_init_119 0 rfl 4 (by decide) (by decide) [(1, .int (4 : Int32)), (0, .ref (zad G 26))] rfl ?_
  refine c_goto e_X10_init_122 ?_
  refine c_iload e_X10_init_106 0 rfl ?_
  refine c_ic e_X10_init_107 ?_
  refine c_icmp_ge e_X10_init_109 (fun q => absurd q (by decide)) (fun _ => ?_)
  refine c_aload e_X10_init_112 1 rfl ?_
  refine c_getr (k := 5) (show zh_64[26]? = some (.inl (10, [some (some (some 27)), some (some (some 28)), some (some (some 29)), some (some (some 30)), some (some (some 31)), some (some (some 32)), none, none, none, none, none, none, none])) by decide +kernel) rfl cl_X10 (by decide) cf_X10_27 e_X10_init_113 ?_
  refine c_iload e_X10_init_116 0 rfl ?_
  refine c_ic e_X10_init_117 ?_
  refine c_iast (n := 8) (j := 4) (by decide +kernel) (by decide +kernel) e_X10_init_118 (by unfold vp_in; decide) rfl zs_67 rfl ?_
  refine c_iinc e_X10_init_119 0 rfl 5 (by decide) (by decide) [(1, .int (5 : Int32)), (0, .ref (zad G 26))] rfl ?_
  refine c_goto e_X10_init_122 ?_
  refine c_iload e_X10_init_106 0 rfl ?_
  refine c_ic e_X10_init_107 ?_
  refine c_icmp_ge e_X10_init_109 (fun q => absurd q (by decide)) (fun _ => ?_)
  refine c_aload e_X10_init_112 1 rfl ?_
  refine c_getr (k := 5) (show zh_64[26]? = some (.inl (10, [some (some (some 27)), some (some (some 28)), some (some (some 29)), some (some (some 30)), some (some (some 31)), some (some (some 32)), none, none, none, none, none, none, none])) by decide +kernel) rfl cl_X10 (by decide) cf_X10_27 e_X10_init_113 ?_
  refine c_iload e_X10_init_116 0 rfl ?_
  refine c_ic e_X10_init_117 ?_
  refine c_iast (n := 8) (j := 5) (by decide +kernel) (by decide +kernel) e_X10_init_118 (by unfold vp_in; decide) rfl zs_68 rfl ?_
  refine c_iinc e_X10_init_119 0 rfl 6 (by decide) (by decide) [(1, .int (6 : Int32)), (0, .ref (zad G 26))] rfl ?_
  refine c_goto e_X10_init_122 ?_
  refine c_iload e_X10_init_106 0 rfl ?_
  refine c_ic e_X10_init_107 ?_
  refine c_icmp_ge e_X10_init_109 (fun q => absurd q (by decide)) (fun _ => ?_)
  refine c_aload e_X10_init_112 1 rfl ?_
  refine c_getr (k := 5) (show zh_64[26]? = some (.inl (10, [some (some (some 27)), some (some (some 28)), some (some (some 29)), some (some (some 30)), some (some (some 31)), some (some (some 32)), none, none, none, none, none, none, none])) by decide +kernel) rfl cl_X10 (by decide) cf_X10_27 e_X10_init_113 ?_
  refine c_iload e_X10_init_116 0 rfl ?_
  refine c_ic e_X10_init_117 ?_
  refine c_iast (n := 8) (j := 6) (by decide +kernel) (by decide +kernel) e_X10_init_118 (by unfold vp_in; decide) rfl zs_69 rfl ?_
  refine c_iinc e_X10_init_119 0 rfl 7 (by decide) (by decide) [(1, .int (7 : Int32)), (0, .ref (zad G 26))] rfl ?_
  refine c_goto e_X10_init_122 ?_
  refine c_iload e_X10_init_106 0 rfl ?_
  refine c_ic e_X10_init_107 ?_
  refine c_icmp_ge e_X10_init_109 (fun q => absurd q (by decide)) (fun _ => ?_)
  refine c_aload e_X10_init_112 1 rfl ?_
  refine c_getr (k := 5) (show zh_64[26]? = some (.inl (10, [some (some (some 27)), some (some (some 28)), some (some (some 29)), some (some (some 30)), some (some (some 31)), some (some (some 32)), none, none, none, none, none, none, none])) by decide +kernel) rfl cl_X10 (by decide) cf_X10_27 e_X10_init_113 ?_
  refine c_iload e_X10_init_116 0 rfl ?_
  refine c_ic e_X10_init_117 ?_
  refine c_iast (n := 8) (j := 7) (by decide +kernel) (by decide +kernel) e_X10_init_118 (by unfold vp_in; decide) rfl zs_70 rfl ?_
  refine c_iinc e_X10_init_119 0 rfl 8 (by decide) (by decide) [(1, .int (8 : Int32)), (0, .ref (zad G 26))] rfl ?_
  refine c_goto e_X10_init_122 ?_
  refine c_iload e_X10_init_106 0 rfl ?_
  refine c_ic e_X10_init_107 ?_
  refine c_icmp_ge e_X10_init_109 (fun _ => ?_) (fun q => absurd (by decide) q)
  exact c_ret hR e_X10_init_125
set_option maxHeartbeats 8000000 in
set_option maxRecDepth 100000 in
theorem kc_X8_init_33 (G : zG) (bs : Nat) : cM G bs 1 1 260 yX8_init cX8_init 1 [.ref (zad G 33)] zh_66 zs_71 zh_68 zs_71 := by
  refine cM.of (own := RX8) (by decide +kernel) rfl rfl (Nat.le_of_ble_eq_true rfl) (fun C hC hR => ?_)
  refine c_aload e_X8_init_0 0 rfl ?_
  refine c_obj oj_X8_3 (by decide) (Nat.le_of_ble_eq_true rfl) e_X8_init_1 ?_
  refine c_aload e_X8_init_4 0 rfl ?_
  refine c_ic e_X8_init_5 ?_
  refine c_newaI (N := 260) (n := 34) aw_I (by decide) rfl (by decide) (by decide +kernel) (by decide) rfl rfl (by decide) (by decide) e_X8_init_8 zh_67 rfl 1 260 rfl rfl ?_
  refine c_putr (k := 0) hC (show zh_67[33]? = some (.inl (8, [some (some none), none, none])) by decide +kernel) (by decide) (by decide +kernel) cl_X8 (by decide) cf_X8_11 rfl rfl (.array .int) (by decide +kernel) (fun _ => ⟨rfl, rfl⟩) e_X8_init_10 zh_68 rfl ?_
  exact c_ret hR e_X8_init_13
set_option maxHeartbeats 8000000 in
set_option maxRecDepth 100000 in
theorem kc_X1_init_35 (G : zG) (bs : Nat) : cM G bs 1 8 848 yX1_init cX1_init 1 [.ref (zad G 35)] zh_71 zs_71 zh_87 zs_71 := by
  refine cM.of (own := RX1) (by decide +kernel) rfl rfl (Nat.le_of_ble_eq_true rfl) (fun C hC hR => ?_)
  refine c_aload e_X1_init_0 0 rfl ?_
  refine c_obj oj_X1_3 (by decide) (Nat.le_of_ble_eq_true rfl) e_X1_init_1 ?_
  refine c_aload e_X1_init_4 0 rfl ?_
  refine c_ic e_X1_init_5 ?_
  refine c_newaI (N := 240) (n := 36) aw_I (by decide) rfl (by decide) (by decide +kernel) (by decide) rfl rfl (by decide) (by decide) e_X1_init_8 zh_72 rfl 1 240 rfl rfl ?_
  refine c_putr (k := 0) hC (show zh_72[35]? = some (.inl (1, [some (some none), some (some none), none, some (some none), some (some none), some (some none), some (some none), none, none, some (some none), none, none, none, some (some none)])) by decide +kernel) (by decide) (by decide +kernel) cl_X1 (by decide) cf_X1_11 rfl rfl (.array .int) (by decide +kernel) (fun _ => ⟨rfl, rfl⟩) e_X1_init_10 zh_73 rfl ?_
  refine c_aload e_X1_init_13 0 rfl ?_
  refine c_ic e_X1_init_14 ?_
  refine c_newaI (N := 240) (n := 37) aw_I (by decide) rfl (by decide) (by decide +kernel) (by decide) rfl rfl (by decide) (by decide) e_X1_init_17 zh_74 rfl 2 480 rfl rfl ?_
  refine c_putr (k := 1) hC (show zh_74[35]? = some (.inl (1, [some (some (some 36)), some (some none), none, some (some none), some (some none), some (some none), some (some none), none, none, some (some none), none, none, none, some (some none)])) by decide +kernel) (by decide) (by decide +kernel) cl_X1 (by decide) cf_X1_15 rfl rfl (.array .int) (by decide +kernel) (fun _ => ⟨rfl, rfl⟩) e_X1_init_19 zh_75 rfl ?_
  refine c_aload e_X1_init_22 0 rfl ?_
  refine c_ic e_X1_init_23 ?_
  refine c_newaI (N := 16) (n := 38) aw_I (by decide) rfl (by decide) (by decide +kernel) (by decide) rfl rfl (by decide) (by decide) e_X1_init_25 zh_76 rfl 3 496 rfl rfl ?_
  refine c_putr (k := 3) hC (show zh_76[35]? = some (.inl (1, [some (some (some 36)), some (some (some 37)), none, some (some none), some (some none), some (some none), some (some none), none, none, some (some none), none, none, none, some (some none)])) by decide +kernel) (by decide) (by decide +kernel) cl_X1 (by decide) cf_X1_18 rfl rfl (.array .int) (by decide +kernel) (fun _ => ⟨rfl, rfl⟩) e_X1_init_27 zh_77 rfl ?_
  refine c_aload e_X1_init_30 0 rfl ?_
  refine c_ic e_X1_init_31 ?_
  refine c_newaI (N := 16) (n := 39) aw_I (by decide) rfl (by decide) (by decide +kernel) (by decide) rfl rfl (by decide) (by decide) e_X1_init_33 zh_78 rfl 4 512 rfl rfl ?_
  refine c_putr (k := 4) hC (show zh_78[35]? = some (.inl (1, [some (some (some 36)), some (some (some 37)), none, some (some (some 38)), some (some none), some (some none), some (some none), none, none, some (some none), none, none, none, some (some none)])) by decide +kernel) (by decide) (by decide +kernel) cl_X1 (by decide) cf_X1_21 rfl rfl (.array .int) (by decide +kernel) (fun _ => ⟨rfl, rfl⟩) e_X1_init_35 zh_79 rfl ?_
  refine c_aload e_X1_init_38 0 rfl ?_
  refine c_ic e_X1_init_39 ?_
  refine c_newaI (N := 16) (n := 40) aw_I (by decide) rfl (by decide) (by decide +kernel) (by decide) rfl rfl (by decide) (by decide) e_X1_init_41 zh_80 rfl 5 528 rfl rfl ?_
  refine c_putr (k := 5) hC (show zh_80[35]? = some (.inl (1, [some (some (some 36)), some (some (some 37)), none, some (some (some 38)), some (some (some 39)), some (some none), some (some none), none, none, some (some none), none, none, none, some (some none)])) by decide +kernel) (by decide) (by decide +kernel) cl_X1 (by decide) cf_X1_24 rfl rfl (.array .int) (by decide +kernel) (fun _ => ⟨rfl, rfl⟩) e_X1_init_43 zh_81 rfl ?_
  refine c_aload e_X1_init_46 0 rfl ?_
  refine c_ic e_X1_init_47 ?_
  refine c_newaI (N := 16) (n := 41) aw_I (by decide) rfl (by decide) (by decide +kernel) (by decide) rfl rfl (by decide) (by decide) e_X1_init_49 zh_82 rfl 6 544 rfl rfl ?_
  refine c_putr (k := 6) hC (show zh_82[35]? = some (.inl (1, [some (some (some 36)), some (some (some 37)), none, some (some (some 38)), some (some (some 39)), some (some (some 40)), some (some none), none, none, some (some none), none, none, none, some (some none)])) by decide +kernel) (by decide) (by decide +kernel) cl_X1 (by decide) cf_X1_27 rfl rfl (.array .int) (by decide +kernel) (fun _ => ⟨rfl, rfl⟩) e_X1_init_51 zh_83 rfl ?_
  refine c_aload e_X1_init_54 0 rfl ?_
  refine c_ic e_X1_init_55 ?_
  refine c_newaI (N := 240) (n := 42) aw_I (by decide) rfl (by decide) (by decide +kernel) (by decide) rfl rfl (by decide) (by decide) e_X1_init_58 zh_84 rfl 7 784 rfl rfl ?_
  refine c_putr (k := 9) hC (show zh_84[35]? = some (.inl (1, [some (some (some 36)), some (some (some 37)), none, some (some (some 38)), some (some (some 39)), some (some (some 40)), some (some (some 41)), none, none, some (some none), none, none, none, some (some none)])) by decide +kernel) (by decide) (by decide +kernel) cl_X1 (by decide) cf_X1_30 rfl rfl (.array .int) (by decide +kernel) (fun _ => ⟨rfl, rfl⟩) e_X1_init_60 zh_85 rfl ?_
  refine c_aload e_X1_init_63 0 rfl ?_
  refine c_ic e_X1_init_64 ?_
  refine c_newaI (N := 64) (n := 43) aw_I (by decide) rfl (by decide) (by decide +kernel) (by decide) rfl rfl (by decide) (by decide) e_X1_init_66 zh_86 rfl 8 848 rfl rfl ?_
  refine c_putr (k := 13) hC (show zh_86[35]? = some (.inl (1, [some (some (some 36)), some (some (some 37)), none, some (some (some 38)), some (some (some 39)), some (some (some 40)), some (some (some 41)), none, none, some (some (some 42)), none, none, none, some (some none)])) by decide +kernel) (by decide) (by decide +kernel) cl_X1 (by decide) cf_X1_33 rfl rfl (.array .int) (by decide +kernel) (fun _ => ⟨rfl, rfl⟩) e_X1_init_68 zh_87 rfl ?_
  exact c_ret hR e_X1_init_71
set_option maxHeartbeats 8000000 in
set_option maxRecDepth 100000 in
theorem kc_X7_init_44 (G : zG) (bs : Nat) : cM G bs 1 2 64 yX7_init cX7_init 1 [.ref (zad G 44)] zh_90 zs_71 zh_94 zs_71 := by
  refine cM.of (own := RX7) (by decide +kernel) rfl rfl (Nat.le_of_ble_eq_true rfl) (fun C hC hR => ?_)
  refine c_aload e_X7_init_0 0 rfl ?_
  refine c_obj oj_X7_3 (by decide) (Nat.le_of_ble_eq_true rfl) e_X7_init_1 ?_
  refine c_aload e_X7_init_4 0 rfl ?_
  refine c_ic e_X7_init_5 ?_
  refine c_newaI (N := 32) (n := 45) aw_I (by decide) rfl (by decide) (by decide +kernel) (by decide) rfl rfl (by decide) (by decide) e_X7_init_7 zh_91 rfl 1 32 rfl rfl ?_
  refine c_putr (k := 0) hC (show zh_91[44]? = some (.inl (7, [some (some none), some (some none), none])) by decide +kernel) (by decide) (by decide +kernel) cl_X7 (by decide) cf_X7_11 rfl rfl (.array .int) (by decide +kernel) (fun _ => ⟨rfl, rfl⟩) e_X7_init_9 zh_92 rfl ?_
  refine c_aload e_X7_init_12 0 rfl ?_
  refine c_ic e_X7_init_13 ?_
  refine c_newaI (N := 32) (n := 46) aw_I (by decide) rfl (by decide) (by decide +kernel) (by decide) rfl rfl (by decide) (by decide) e_X7_init_15 zh_93 rfl 2 64 rfl rfl ?_
  refine c_putr (k := 1) hC (show zh_93[44]? = some (.inl (7, [some (some (some 45)), some (some none), none])) by decide +kernel) (by decide) (by decide +kernel) cl_X7 (by decide) cf_X7_15 rfl rfl (.array .int) (by decide +kernel) (fun _ => ⟨rfl, rfl⟩) e_X7_init_17 zh_94 rfl ?_
  exact c_ret hR e_X7_init_20
set_option maxHeartbeats 8000000 in
set_option maxRecDepth 100000 in
theorem kc_X4_init_47 (G : zG) (bs : Nat) : cM G bs 1 9 27730 yX4_init cX4_init 2 [.ref (zad G 47), .ref (zad G 17)] zh_96 zs_71 zh_115 zs_71 := by
  refine cM.of (own := RX4) (by decide +kernel) rfl rfl (Nat.le_of_ble_eq_true rfl) (fun C hC hR => ?_)
  refine c_aload e_X4_init_0 0 rfl ?_
  refine c_obj oj_X4_7 (by decide) (Nat.le_of_ble_eq_true rfl) e_X4_init_1 ?_
  refine c_aload e_X4_init_4 0 rfl ?_
  refine c_ic e_X4_init_5 ?_
  refine c_newaI (N := 27648) (n := 48) aw_I (by decide) rfl (by decide) (by decide +kernel) (by decide) rfl rfl (by decide) (by decide) e_X4_init_8 zh_97 rfl 1 27648 rfl rfl ?_
  refine c_putr (k := 1) hC (show zh_97[47]? = some (.inl (4, [some (some none), some (some none), some (some none), some (some none), some (some none), none, none, some (some none), none, some (some none), some (some none), some (some none), some (some none), none])) by decide +kernel) (by decide) (by decide +kernel) cl_X4 (by decide) cf_X4_13 rfl rfl (.array .int) (by decide +kernel) (fun _ => ⟨rfl, rfl⟩) e_X4_init_10 zh_98 rfl ?_
  refine c_aload e_X4_init_13 0 rfl ?_
  refine c_ic e_X4_init_14 ?_
  refine c_newaI (N := 16) (n := 49) aw_I (by decide) rfl (by decide) (by decide +kernel) (by decide) rfl rfl (by decide) (by decide) e_X4_init_16 zh_99 rfl 2 27664 rfl rfl ?_
  refine c_putr (k := 2) hC (show zh_99[47]? = some (.inl (4, [some (some none), some (some (some 48)), some (some none), some (some none), some (some none), none, none, some (some none), none, some (some none), some (some none), some (some none), some (some none), none])) by decide +kernel) (by decide) (by decide +kernel) cl_X4 (by decide) cf_X4_17 rfl rfl (.array .int) (by decide +kernel) (fun _ => ⟨rfl, rfl⟩) e_X4_init_18 zh_100 rfl ?_
  refine c_aload e_X4_init_21 0 rfl ?_
  refine c_ic e_X4_init_22 ?_
  refine c_newaI (N := 4) (n := 50) aw_I (by decide) rfl (by decide) (by decide +kernel) (by decide) rfl rfl (by decide) (by decide) e_X4_init_23 zh_101 rfl 3 27668 rfl rfl ?_
  refine c_putr (k := 3) hC (show zh_101[47]? = some (.inl (4, [some (some none), some (some (some 48)), some (some (some 49)), some (some none), some (some none), none, none, some (some none), none, some (some none), some (some none), some (some none), some (some none), none])) by decide +kernel) (by decide) (by decide +kernel) cl_X4 (by decide) cf_X4_20 rfl rfl (.array .int) (by decide +kernel) (fun _ => ⟨rfl, rfl⟩) e_X4_init_25 zh_102 rfl ?_
  refine c_aload e_X4_init_28 0 rfl ?_
  refine c_ic e_X4_init_29 ?_
  refine c_newaI (N := 40) (n := 51) aw_I (by decide) rfl (by decide) (by decide +kernel) (by decide) rfl rfl (by decide) (by decide) e_X4_init_31 zh_103 rfl 4 27708 rfl rfl ?_
  refine c_putr (k := 4) hC (show zh_103[47]? = some (.inl (4, [some (some none), some (some (some 48)), some (some (some 49)), some (some (some 50)), some (some none), none, none, some (some none), none, some (some none), some (some none), some (some none), some (some none), none])) by decide +kernel) (by decide) (by decide +kernel) cl_X4 (by decide) cf_X4_23 rfl rfl (.array .int) (by decide +kernel) (fun _ => ⟨rfl, rfl⟩) e_X4_init_33 zh_104 rfl ?_
  refine c_aload e_X4_init_36 0 rfl ?_
  refine c_ic e_X4_init_37 ?_
  refine c_newaI (N := 6) (n := 52) aw_I (by decide) rfl (by decide) (by decide +kernel) (by decide) rfl rfl (by decide) (by decide) e_X4_init_39 zh_105 rfl 5 27714 rfl rfl ?_
  refine c_putr (k := 7) hC (show zh_105[47]? = some (.inl (4, [some (some none), some (some (some 48)), some (some (some 49)), some (some (some 50)), some (some (some 51)), none, none, some (some none), none, some (some none), some (some none), some (some none), some (some none), none])) by decide +kernel) (by decide) (by decide +kernel) cl_X4 (by decide) cf_X4_26 rfl rfl (.array .int) (by decide +kernel) (fun _ => ⟨rfl, rfl⟩) e_X4_init_41 zh_106 rfl ?_
  refine c_aload e_X4_init_44 0 rfl ?_
  refine c_ic e_X4_init_45 ?_
  refine c_newaI (N := 4) (n := 53) aw_I (by decide) rfl (by decide) (by decide +kernel) (by decide) rfl rfl (by decide) (by decide) e_X4_init_46 zh_107 rfl 6 27718 rfl rfl ?_
  refine c_putr (k := 9) hC (show zh_107[47]? = some (.inl (4, [some (some none), some (some (some 48)), some (some (some 49)), some (some (some 50)), some (some (some 51)), none, none, some (some (some 52)), none, some (some none), some (some none), some (some none), some (some none), none])) by decide +kernel) (by decide) (by decide +kernel) cl_X4 (by decide) cf_X4_29 rfl rfl (.array .int) (by decide +kernel) (fun _ => ⟨rfl, rfl⟩) e_X4_init_48 zh_108 rfl ?_
  refine c_aload e_X4_init_51 0 rfl ?_
  refine c_ic e_X4_init_52 ?_
  refine c_newaI (N := 4) (n := 54) aw_I (by decide) rfl (by decide) (by decide +kernel) (by decide) rfl rfl (by decide) (by decide) e_X4_init_53 zh_109 rfl 7 27722 rfl rfl ?_
  refine c_putr (k := 10) hC (show zh_109[47]? = some (.inl (4, [some (some none), some (some (some 48)), some (some (some 49)), some (some (some 50)), some (some (some 51)), none, none, some (some (some 52)), none, some (some (some 53)), some (some none), some (some none), some (some none), none])) by decide +kernel) (by decide) (by decide +kernel) cl_X4 (by decide) cf_X4_32 rfl rfl (.array .int) (by decide +kernel) (fun _ => ⟨rfl, rfl⟩) e_X4_init_55 zh_110 rfl ?_
  refine c_aload e_X4_init_58 0 rfl ?_
  refine c_ic e_X4_init_59 ?_
  refine c_newaI (N := 4) (n := 55) aw_I (by decide) rfl (by decide) (by decide +kernel) (by decide) rfl rfl (by decide) (by decide) e_X4_init_60 zh_111 rfl 8 27726 rfl rfl ?_
  refine c_putr (k := 11) hC (show zh_111[47]? = some (.inl (4, [some (some none), some (some (some 48)), some (some (some 49)), some (some (some 50)), some (some (some 51)), none, none, some (some (some 52)), none, some (some (some 53)), some (some (some 54)), some (some none), some (some none), none])) by decide +kernel) (by decide) (by decide +kernel) cl_X4 (by decide) cf_X4_35 rfl rfl (.array .int) (by decide +kernel) (fun _ => ⟨rfl, rfl⟩) e_X4_init_62 zh_112 rfl ?_
  refine c_aload e_X4_init_65 0 rfl ?_
  refine c_ic e_X4_init_66 ?_
  refine c_newaI (N := 4) (n := 56) aw_I (by decide) rfl (by decide) (by decide +kernel) (by decide) rfl rfl (by decide) (by decide) e_X4_init_67 zh_113 rfl 9 27730 rfl rfl ?_
  refine c_putr (k := 12) hC (show zh_113[47]? = some (.inl (4, [some (some none), some (some (some 48)), some (some (some 49)), some (some (some 50)), some (some (some 51)), none, none, some (some (some 52)), none, some (some (some 53)), some (some (some 54)), some (some (some 55)), some (some none), none])) by decide +kernel) (by decide) (by decide +kernel) cl_X4 (by decide) cf_X4_38 rfl rfl (.array .int) (by decide +kernel) (fun _ => ⟨rfl, rfl⟩) e_X4_init_69 zh_114 rfl ?_
  refine c_aload e_X4_init_72 0 rfl ?_
  refine c_aload e_X4_init_73 1 rfl ?_
  refine c_putr (k := 0) hC (show zh_114[47]? = some (.inl (4, [some (some none), some (some (some 48)), some (some (some 49)), some (some (some 50)), some (some (some 51)), none, none, some (some (some 52)), none, some (some (some 53)), some (some (some 54)), some (some (some 55)), some (some (some 56)), none])) by decide +kernel) (by decide) (by decide +kernel) cl_X4 (by decide) cf_X4_41 rfl rfl (.object "GiantHeart$Seeker") (by decide +kernel) (fun _ => ⟨rfl, rfl⟩) e_X4_init_74 zh_115 rfl ?_
  exact c_ret hR e_X4_init_77
set_option maxHeartbeats 8000000 in
set_option maxRecDepth 100000 in
theorem kc_X6_init_57 (G : zG) (bs : Nat) : cM G bs 1 5 104 yX6_init cX6_init 4 [.ref (zad G 57), .ref (zad G 1), .ref (zad G 8), .ref (zad G 24)] zh_118 zs_71 zh_131 zs_71 := by
  refine cM.of (own := RX6) (by decide +kernel) rfl rfl (Nat.le_of_ble_eq_true rfl) (fun C hC hR => ?_)
  refine c_aload e_X6_init_0 0 rfl ?_
  refine c_obj oj_X6_3 (by decide) (Nat.le_of_ble_eq_true rfl) e_X6_init_1 ?_
  refine c_aload e_X6_init_4 0 rfl ?_
  refine c_ic e_X6_init_5 ?_
  refine c_newaI (N := 12) (n := 58) aw_I (by decide) rfl (by decide) (by decide +kernel) (by decide) rfl rfl (by decide) (by decide) e_X6_init_7 zh_119 rfl 1 12 rfl rfl ?_
  refine c_putr (k := 3) hC (show zh_119[57]? = some (.inl (6, [some (some none), some (some none), some (some none), some (some none), some (some none), none, some (some none), some (some none), some (some none)])) by decide +kernel) (by decide) (by decide +kernel) cl_X6 (by decide) cf_X6_9 rfl rfl (.array .int) (by decide +kernel) (fun _ => ⟨rfl, rfl⟩) e_X6_init_9 zh_120 rfl ?_
  refine c_aload e_X6_init_12 0 rfl ?_
  refine c_ic e_X6_init_13 ?_
  refine c_newaI (N := 12) (n := 59) aw_I (by decide) rfl (by decide) (by decide +kernel) (by decide) rfl rfl (by decide) (by decide) e_X6_init_15 zh_121 rfl 2 24 rfl rfl ?_
  refine c_putr (k := 4) hC (show zh_121[57]? = some (.inl (6, [some (some none), some (some none), some (some none), some (some (some 58)), some (some none), none, some (some none), some (some none), some (some none)])) by decide +kernel) (by decide) (by decide +kernel) cl_X6 (by decide) cf_X6_15 rfl rfl (.array .int) (by decide +kernel) (fun _ => ⟨rfl, rfl⟩) e_X6_init_17 zh_122 rfl ?_
  refine c_aload e_X6_init_20 0 rfl ?_
  refine c_ic e_X6_init_21 ?_
  refine c_newaJ (N := 8) (n := 60) aw_J (by decide) rfl (by decide) (by decide +kernel) (by decide) rfl rfl (by decide) (by decide) e_X6_init_23 zh_123 rfl 3 32 rfl rfl ?_
  refine c_putr (k := 6) hC (show zh_123[57]? = some (.inl (6, [some (some none), some (some none), some (some none), some (some (some 58)), some (some (some 59)), none, some (some none), some (some none), some (some none)])) by decide +kernel) (by decide) (by decide +kernel) cl_X6 (by decide) cf_X6_18 rfl rfl (.array .long) (by decide +kernel) (fun _ => ⟨rfl, rfl⟩) e_X6_init_25 zh_124 rfl ?_
  refine c_aload e_X6_init_28 0 rfl ?_
  refine c_ic e_X6_init_29 ?_
  refine c_newaJ (N := 8) (n := 61) aw_J (by decide) rfl (by decide) (by decide +kernel) (by decide) rfl rfl (by decide) (by decide) e_X6_init_31 zh_125 rfl 4 40 rfl rfl ?_
  refine c_putr (k := 7) hC (show zh_125[57]? = some (.inl (6, [some (some none), some (some none), some (some none), some (some (some 58)), some (some (some 59)), none, some (some (some 60)), some (some none), some (some none)])) by decide +kernel) (by decide) (by decide +kernel) cl_X6 (by decide) cf_X6_22 rfl rfl (.array .long) (by decide +kernel) (fun _ => ⟨rfl, rfl⟩) e_X6_init_33 zh_126 rfl ?_
  refine c_aload e_X6_init_36 0 rfl ?_
  refine c_ic e_X6_init_37 ?_
  refine c_newaJ (N := 64) (n := 62) aw_J (by decide) rfl (by decide) (by decide +kernel) (by decide) rfl rfl (by decide) (by decide) e_X6_init_39 zh_127 rfl 5 104 rfl rfl ?_
  refine c_putr (k := 8) hC (show zh_127[57]? = some (.inl (6, [some (some none), some (some none), some (some none), some (some (some 58)), some (some (some 59)), none, some (some (some 60)), some (some (some 61)), some (some none)])) by decide +kernel) (by decide) (by decide +kernel) cl_X6 (by decide) cf_X6_25 rfl rfl (.array .long) (by decide +kernel) (fun _ => ⟨rfl, rfl⟩) e_X6_init_41 zh_128 rfl ?_
  refine c_aload e_X6_init_44 0 rfl ?_
  refine c_aload e_X6_init_45 1 rfl ?_
  refine c_putr (k := 0) hC (show zh_128[57]? = some (.inl (6, [some (some none), some (some none), some (some none), some (some (some 58)), some (some (some 59)), none, some (some (some 60)), some (some (some 61)), some (some (some 62))])) by decide +kernel) (by decide) (by decide +kernel) cl_X6 (by decide) cf_X6_28 rfl rfl (.object "GiantHeart$World") (by decide +kernel) (fun _ => ⟨rfl, rfl⟩) e_X6_init_46 zh_129 rfl ?_
  refine c_aload e_X6_init_49 0 rfl ?_
  refine c_aload e_X6_init_50 2 rfl ?_
  refine c_putr (k := 1) hC (show zh_129[57]? = some (.inl (6, [some (some (some 1)), some (some none), some (some none), some (some (some 58)), some (some (some 59)), none, some (some (some 60)), some (some (some 61)), some (some (some 62))])) by decide +kernel) (by decide) (by decide +kernel) cl_X6 (by decide) cf_X6_32 rfl rfl (.object "GiantHeart$Law") (by decide +kernel) (fun _ => ⟨rfl, rfl⟩) e_X6_init_51 zh_130 rfl ?_
  refine c_aload e_X6_init_54 0 rfl ?_
  refine c_aload e_X6_init_55 3 rfl ?_
  refine c_putr (k := 2) hC (show zh_130[57]? = some (.inl (6, [some (some (some 1)), some (some (some 8)), some (some none), some (some (some 58)), some (some (some 59)), none, some (some (some 60)), some (some (some 61)), some (some (some 62))])) by decide +kernel) (by decide) (by decide +kernel) cl_X6 (by decide) cf_X6_36 rfl rfl (.object "GiantHeart$Nights") (by decide +kernel) (fun _ => ⟨rfl, rfl⟩) e_X6_init_56 zh_131 rfl ?_
  exact c_ret hR e_X6_init_59
set_option maxHeartbeats 8000000 in
set_option maxRecDepth 100000 in
theorem kc_X2_init_63 (G : zG) (bs : Nat) : cM G bs 1 1 6 yX2_init cX2_init 1 [.ref (zad G 63)] zh_133 zs_71 zh_135 zs_71 := by
  refine cM.of (own := RX2) (by decide +kernel) rfl rfl (Nat.le_of_ble_eq_true rfl) (fun C hC hR => ?_)
  refine c_aload e_X2_init_0 0 rfl ?_
  refine c_obj oj_X2_1 (by decide) (Nat.le_of_ble_eq_true rfl) e_X2_init_1 ?_
  refine c_aload e_X2_init_4 0 rfl ?_
  refine c_ic e_X2_init_5 ?_
  refine c_newaI (N := 6) (n := 64) aw_I (by decide) rfl (by decide) (by decide +kernel) (by decide) rfl rfl (by decide) (by decide) e_X2_init_7 zh_134 rfl 1 6 rfl rfl ?_
  refine c_putr (k := 0) hC (show zh_134[63]? = some (.inl (2, [some (some none), none, some none, some none])) by decide +kernel) (by decide) (by decide +kernel) cl_X2 (by decide) cf_X2_9 rfl rfl (.array .int) (by decide +kernel) (fun _ => ⟨rfl, rfl⟩) e_X2_init_9 zh_135 rfl ?_
  exact c_ret hR e_X2_init_12
set_option maxHeartbeats 8000000 in
set_option maxRecDepth 100000 in
theorem kc_X0_init_65 (G : zG) (bs : Nat) : cM G bs 1 1 6 yX0_init cX0_init 1 [.ref (zad G 65)] zh_137 zs_71 zh_139 zs_71 := by
  refine cM.of (own := RX0) (by decide +kernel) rfl rfl (Nat.le_of_ble_eq_true rfl) (fun C hC hR => ?_)
  refine c_aload e_X0_init_0 0 rfl ?_
  refine c_obj oj_X0_3 (by decide) (Nat.le_of_ble_eq_true rfl) e_X0_init_1 ?_
  refine c_aload e_X0_init_4 0 rfl ?_
  refine c_ic e_X0_init_5 ?_
  refine c_newaI (N := 6) (n := 66) aw_I (by decide) rfl (by decide) (by decide +kernel) (by decide) rfl rfl (by decide) (by decide) e_X0_init_7 zh_138 rfl 1 6 rfl rfl ?_
  refine c_putr (k := 1) hC (show zh_138[65]? = some (.inl (0, [none, some (some none)])) by decide +kernel) (by decide) (by decide +kernel) cl_X0 (by decide) cf_X0_11 rfl rfl (.array .int) (by decide +kernel) (fun _ => ⟨rfl, rfl⟩) e_X0_init_9 zh_139 rfl ?_
  exact c_ret hR e_X0_init_12
set_option maxHeartbeats 8000000 in
set_option maxRecDepth 100000 in
theorem kc_X9_init_67 (G : zG) (bs : Nat) : cM G bs 1 1 12 yX9_init cX9_init 2 [.ref (zad G 67)] zh_141 zs_71 zh_143 zs_83 := by
  refine cM.of (own := RX9) (by decide +kernel) rfl rfl (Nat.le_of_ble_eq_true rfl) (fun C hC hR => ?_)
  refine c_aload e_X9_init_0 0 rfl ?_
  refine c_obj oj_X9_3 (by decide) (Nat.le_of_ble_eq_true rfl) e_X9_init_1 ?_
  refine c_aload e_X9_init_4 0 rfl ?_
  refine c_ic e_X9_init_5 ?_
  refine c_newaI (N := 12) (n := 68) aw_I (by decide) rfl (by decide) (by decide +kernel) (by decide) rfl rfl (by decide) (by decide) e_X9_init_7 zh_142 rfl 1 12 rfl rfl ?_
  refine c_putr (k := 0) hC (show zh_142[67]? = some (.inl (9, [some (some none)])) by decide +kernel) (by decide) (by decide +kernel) cl_X9 (by decide) cf_X9_11 rfl rfl (.array .int) (by decide +kernel) (fun _ => ⟨rfl, rfl⟩) e_X9_init_9 zh_143 rfl ?_
  refine c_ic e_X9_init_12 ?_
  refine c_istore e_X9_init_13 (by decide) [(1, .int (0 : Int32)), (0, .ref (zad G 67))] rfl ?_
  refine c_iload e_X9_init_14 0 rfl ?_
  refine c_ic e_X9_init_15 ?_
  refine c_icmp_ge e_X9_init_17 (fun q => absurd q (by decide)) (fun _ => ?_)
  refine c_aload e_X9_init_20 1 rfl ?_
  refine c_getr (k := 0) (show zh_143[67]? = some (.inl (9, [some (some (some 68))])) by decide +kernel) rfl cl_X9 (by decide) cf_X9_11 e_X9_init_21 ?_
  refine c_iload e_X9_init_24 0 rfl ?_
  refine c_ic e_X9_init_25 ?_
  refine c_iast (n := 12) (j := 0) (by decide +kernel) (by decide +kernel) e_X9_init_26 (by unfold vp_in; decide) rfl zs_72 rfl ?_
  refine c_iinc e_X9_init_27 0 rfl 1 (by decide) (by decide) [(1, .int (1 : Int32)), (0, .ref (zad G 67))] rfl ?_
  refine c_goto e_X9_init_30 ?_
  refine c_iload e_X9_init_14 0 rfl ?_
  refine c_ic e_X9_init_15 ?_
  refine c_icmp_ge e_X9_init_17 (fun q => absurd q (by decide)) (fun _ => ?_)
  refine c_aload e_X9_init_20 1 rfl ?_
  refine c_getr (k := 0) (show zh_143[67]? = some (.inl (9, [some (some (some 68))])) by decide +kernel) rfl cl_X9 (by decide) cf_X9_11 e_X9_init_21 ?_
  refine c_iload e_X9_init_24 0 rfl ?_
  refine c_ic e_X9_init_25 ?_
  refine c_iast (n := 12) (j := 1) (by decide +kernel) (by decide +kernel) e_X9_init_26 (by unfold vp_in; decide) rfl zs_73 rfl ?_
  refine c_iinc e_X9_init_27 0 rfl 2 (by decide) (by decide) [(1, .int (2 : Int32)), (0, .ref (zad G 67))] rfl ?_
  refine c_goto e_X9_init_30 ?_
  refine c_iload e_X9_init_14 0 rfl ?_
  refine c_ic e_X9_init_15 ?_
  refine c_icmp_ge e_X9_init_17 (fun q => absurd q (by decide)) (fun _ => ?_)
  refine c_aload e_X9_init_20 1 rfl ?_
  refine c_getr (k := 0) (show zh_143[67]? = some (.inl (9, [some (some (some 68))])) by decide +kernel) rfl cl_X9 (by decide) cf_X9_11 e_X9_init_21 ?_
  refine c_iload e_X9_init_24 0 rfl ?_
  refine c_ic e_X9_init_25 ?_
  refine c_iast (n := 12) (j := 2) (by decide +kernel) (by decide +kernel) e_X9_init_26 (by unfold vp_in; decide) rfl zs_74 rfl ?_
  refine c_iinc e_X9_init_27 0 rfl 3 (by decide) (by decide) [(1, .int (3 : Int32)), (0, .ref (zad G 67))] rfl ?_
  refine c_goto e_X9_init_30 ?_
  refine c_iload e_X9_init_14 0 rfl ?_
  refine c_ic e_X9_init_15 ?_
  refine c_icmp_ge e_X9_init_17 (fun q => absurd q (by decide)) (fun _ => ?_)
  refine c_aload e_X9_init_20 1 rfl ?_
  refine c_getr (k := 0) (show zh_143[67]? = some (.inl (9, [some (some (some 68))])) by decide +kernel) rfl cl_X9 (by decide) cf_X9_11 e_X9_init_21 ?_
  refine c_iload e_X9_init_24 0 rfl ?_
  refine c_ic e_X9_init_25 ?_
  refine c_iast (n := 12) (j := 3) (by decide +kernel) (by decide +kernel) e_X9_init_26 (by unfold vp_in; decide) rfl zs_75 rfl ?_
  refine c_iinc e_X9_init_27 0 rfl 4 (by decide) (by decide) [(1, .int (4 : Int32)), (0, .ref (zad G 67))] rfl ?_
  refine c_goto e_X9_init_30 ?_
  refine c_iload e_X9_init_14 0 rfl ?_
  refine c_ic e_X9_init_15 ?_
  refine c_icmp_ge e_X9_init_17 (fun q => absurd q (by decide)) (fun _ => ?_)
  refine c_aload e_X9_init_20 1 rfl ?_
  refine c_getr (k := 0) (show zh_143[67]? = some (.inl (9, [some (some (some 68))])) by decide +kernel) rfl cl_X9 (by decide) cf_X9_11 e_X9_init_21 ?_
  refine c_iload e_X9_init_24 0 rfl ?_
  refine c_ic e_X9_init_25 ?_
  refine c_iast (n := 12) (j := 4) (by decide +kernel) (by decide +kernel) e_X9_init_26 (by unfold vp_in; decide) rfl zs_76 rfl ?_
  refine c_iinc e_X9_init_27 0 rfl 5 (by decide) (by decide) [(1, .int (5 : Int32)), (0, .ref (zad G 67))] rfl ?_
  refine c_goto e_X9_init_30 ?_
  refine c_iload e_X9_init_14 0 rfl ?_
  refine c_ic e_X9_init_15 ?_
  refine c_icmp_ge e_X9_init_17 (fun q => absurd q (by decide)) (fun _ => ?_)
  refine c_aload e_X9_init_20 1 rfl ?_
  refine c_getr (k := 0) (show zh_143[67]? = some (.inl (9, [some (some (some 68))])) by decide +kernel) rfl cl_X9 (by decide) cf_X9_11 e_X9_init_21 ?_
  refine c_iload e_X9_init_24 0 rfl ?_
  refine c_ic e_X9_init_25 ?_
  refine c_iast (n := 12) (j := 5) (by decide +kernel) (by decide +kernel) e_X9_init_26 (by unfold vp_in; decide) rfl zs_77 rfl ?_
  refine c_iinc e_X9_init_27 0 rfl 6 (by decide) (by decide) [(1, .int (6 : Int32)), (0, .ref (zad G 67))] rfl ?_
  refine c_goto e_X9_init_30 ?_
  refine c_iload e_X9_init_14 0 rfl ?_
  refine c_ic e_X9_init_15 ?_
  refine c_icmp_ge e_X9_init_17 (fun q => absurd q (by decide)) (fun _ => ?_)
  refine c_aload e_X9_init_20 1 rfl ?_
  refine c_getr (k := 0) (show zh_143[67]? = some (.inl (9, [some (some (some 68))])) by decide +kernel) rfl cl_X9 (by decide) cf_X9_11 e_X9_init_21 ?_
  refine c_iload e_X9_init_24 0 rfl ?_
  refine c_ic e_X9_init_25 ?_
  refine c_iast (n := 12) (j := 6) (by decide +kernel) (by decide +kernel) e_X9_init_26 (by unfold vp_in; decide) rfl zs_78 rfl ?_
  refine c_iinc e_X9_init_27 0 rfl 7 (by decide) (by decide) [(1, .int (7 : Int32)), (0, .ref (zad G 67))] rfl ?_
  refine c_goto e_X9_init_30 ?_
  refine c_iload e_X9_init_14 0 rfl ?_
  refine c_ic e_X9_init_15 ?_
  refine c_icmp_ge e_X9_init_17 (fun q => absurd q (by decide)) (fun _ => ?_)
  refine c_aload e_X9_init_20 1 rfl ?_
  refine c_getr (k := 0) (show zh_143[67]? = some (.inl (9, [some (some (some 68))])) by decide +kernel) rfl cl_X9 (by decide) cf_X9_11 e_X9_init_21 ?_
  refine c_iload e_X9_init_24 0 rfl ?_
  refine c_ic e_X9_init_25 ?_
  refine c_iast (n := 12) (j := 7) (by decide +kernel) (by decide +kernel) e_X9_init_26 (by unfold vp_in; decide) rfl zs_79 rfl ?_
  refine c_iinc e_X9_init_27 0 rfl 8 (by decide) (by decide) [(1, .int (8 : Int32)), (0, .ref (zad G 67))] rfl ?_
  refine c_goto e_X9_init_30 ?_
  refine c_iload e_X9_init_14 0 rfl ?_
  refine c_ic e_X9_init_15 ?_
  refine c_icmp_ge e_X9_init_17 (fun q => absurd q (by decide)) (fun _ => ?_)
  refine c_aload e_X9_init_20 1 rfl ?_
  refine c_getr (k := 0) (show zh_143[67]? = some (.inl (9, [some (some (some 68))])) by decide +kernel) rfl cl_X9 (by decide) cf_X9_11 e_X9_init_21 ?_
  refine c_iload e_X9_init_24 0 rfl ?_
  refine c_ic e_X9_init_25 ?_
  refine c_iast (n := 12) (j := 8) (by decide +kernel) (by decide +kernel) e_X9_init_26 (by unfold vp_in; decide) rfl zs_80 rfl ?_
  refine c_iinc e_X9_init_27 0 rfl 9 (by decide) (by decide) [(1, .int (9 : Int32)), (0, .ref (zad G 67))] rfl ?_
  refine c_goto e_X9_init_30 ?_
  refine c_iload e_X9_init_14 0 rfl ?_
  refine c_ic e_X9_init_15 ?_
  refine c_icmp_ge e_X9_init_17 (fun q => absurd q (by decide)) (fun _ => ?_)
  refine c_aload e_X9_init_20 1 rfl ?_
  refine c_getr (k := 0) (show zh_143[67]? = some (.inl (9, [some (some (some 68))])) by decide +kernel) rfl cl_X9 (by decide) cf_X9_11 e_X9_init_21 ?_
  refine c_iload e_X9_init_24 0 rfl ?_
  refine c_ic e_X9_init_25 ?_
  refine c_iast (n := 12) (j := 9) (by decide +kernel) (by decide +kernel) e_X9_init_26 (by unfold vp_in; decide) rfl zs_81 rfl ?_
  refine c_iinc e_X9_init_27 0 rfl 10 (by decide) (by decide) [(1, .int (10 : Int32)), (0, .ref (zad G 67))] rfl ?_
  refine c_goto e_X9_init_30 ?_
  refine c_iload e_X9_init_14 0 rfl ?_
  refine c_ic e_X9_init_15 ?_
  refine c_icmp_ge e_X9_init_17 (fun q => absurd q (by decide)) (fun _ => ?_)
  refine c_aload e_X9_init_20 1 rfl ?_
  refine c_getr (k := 0) (show zh_143[67]? = some (.inl (9, [some (some (some 68))])) by decide +kernel) rfl cl_X9 (by decide) cf_X9_11 e_X9_init_21 ?_
  refine c_iload e_X9_init_24 0 rfl ?_
  refine c_ic e_X9_init_25 ?_
  refine c_iast (n := 12) (j := 10) (by decide +kernel) (by decide +kernel) e_X9_init_26 (by unfold vp_in; decide) rfl zs_82 rfl ?_
  refine c_iinc e_X9_init_27 0 rfl 11 (by decide) (by decide) [(1, .int (11 : Int32)), (0, .ref (zad G 67))] rfl ?_
  refine c_goto e_X9_init_30 ?_
  refine c_iload e_X9_init_14 0 rfl ?_
  refine c_ic e_X9_init_15 ?_
  refine c_icmp_ge e_X9_init_17 (fun q => absurd q (by decide)) (fun _ => ?_)
  refine c_aload e_X9_init_20 1 rfl ?_
  refine c_getr (k := 0) (show zh_143[67]? = some (.inl (9, [some (some (some 68))])) by decide +kernel) rfl cl_X9 (by decide) cf_X9_11 e_X9_init_21 ?_
  refine c_iload e_X9_init_24 0 rfl ?_
  refine c_ic e_X9_init_25 ?_
  refine c_iast (n := 12) (j := 11) (by decide +kernel) (by decide +kernel) e_X9_init_26 (by unfold vp_in; decide) rfl zs_83 rfl ?_
  refine c_iinc e_X9_init_27 0 rfl 12 (by decide) (by decide) [(1, .int (12 : Int32)), (0, .ref (zad G 67))] rfl ?_
  refine c_goto e_X9_init_30 ?_
  refine c_iload e_X9_init_14 0 rfl ?_
  refine c_ic e_X9_init_15 ?_
  refine c_icmp_ge e_X9_init_17 (fun _ => ?_) (fun q => absurd (by decide) q)
  exact c_ret hR e_X9_init_33
set_option maxHeartbeats 8000000 in
set_option maxRecDepth 100000 in
theorem kc_X11_init_0 (G : zG) (bs : Nat) : cM G bs 2 68 30145 yX11_init cX11_init 5 [.ref (zad G 0)] zh_1 zs_0 zh_144 zs_83 := by
  refine cM.of (own := RX11) (by decide +kernel) rfl rfl (Nat.le_of_ble_eq_true rfl) (fun C hC hR => ?_)
  refine c_aload e_X11_init_0 0 rfl ?_
  refine c_obj oj_X11_1 (by decide) (Nat.le_of_ble_eq_true rfl) e_X11_init_1 ?_
  refine c_new (n := 1) [some (some none), some (some none), some (some none), some (some none), some (some none), some (some none), none, none, none, none, none, none, none] cl_X10 nw_X11_7 (by decide +kernel) (by decide) (by decide +kernel) rfl rfl (by decide) (by decide) e_X11_init_4 zh_2 rfl 1 13 rfl rfl ?_
  refine c_dup e_X11_init_7 rfl ?_
  refine c_call (c0 := 1) (As := []) (rest := [.ref (zad G 1)]) li_X11_9 e_X11_init_8 (kc_X10_init_1 G bs) (by decide) rfl (Nat.le_of_ble_eq_true rfl) (by decide) (by decide) 7 69 rfl rfl ?_
  refine c_astore e_X11_init_11 (by decide) [(1, .ref (zad G 1)), (0, .ref (zad G 0))] rfl ?_
  refine c_new (n := 8) [some (some none), some (some none), none, some (some none), some (some none), some (some none), some (some none), none, none, some (some none), none, none, none, some (some none)] cl_X1 nw_X11_10 (by decide +kernel) (by decide) (by decide +kernel) rfl rfl (by decide) (by decide) e_X11_init_12 zh_15 rfl 8 83 rfl rfl ?_
  refine c_dup e_X11_init_15 rfl ?_
  refine c_call (c0 := 8) (As := []) (rest := [.ref (zad G 8)]) li_X11_12 e_X11_init_16 (kc_X1_init_8 G bs) (by decide) rfl (Nat.le_of_ble_eq_true rfl) (by decide) (by decide) 16 931 rfl rfl ?_
  refine c_astore e_X11_init_19 (by decide) [(2, .ref (zad G 8)), (1, .ref (zad G 1)), (0, .ref (zad G 0))] rfl ?_
  refine c_new (n := 17) [some (some none), some (some none), some (some none), some (some none), some (some none), some (some none), none, none, none, none, none, none, none, none, none, some (some none)] cl_X5 nw_X11_13 (by decide +kernel) (by decide) (by decide +kernel) rfl rfl (by decide) (by decide) e_X11_init_20 zh_32 rfl 17 947 rfl rfl ?_
  refine c_dup e_X11_init_23 rfl ?_
  refine c_aload e_X11_init_24 1 rfl ?_
  refine c_call (c0 := 17) (As := [.ref (zad G 1)]) (rest := [.ref (zad G 17)]) li_X11_15 e_X11_init_25 (kc_X5_init_17 G bs) (by decide) rfl (Nat.le_of_ble_eq_true rfl) (by decide) (by decide) 23 980 rfl rfl ?_
  refine c_astore e_X11_init_28 (by decide) [(3, .ref (zad G 17)), (2, .ref (zad G 8)), (1, .ref (zad G 1)), (0, .ref (zad G 0))] rfl ?_
  refine c_new (n := 24) [some (some none), some (some none), some (some none), none, none, none, none] cl_X3 nw_X11_18 (by decide +kernel) (by decide) (by decide +kernel) rfl rfl (by decide) (by decide) e_X11_init_29 zh_46 rfl 24 987 rfl rfl ?_
  refine c_dup e_X11_init_32 rfl ?_
  refine c_aload e_X11_init_33 2 rfl ?_
  refine c_aload e_X11_init_34 1 rfl ?_
  refine c_call (c0 := 24) (As := [.ref (zad G 1), .ref (zad G 8)]) (rest := [.ref (zad G 24)]) li_X11_20 e_X11_init_35 (kc_X3_init_24 G bs) (by decide) rfl (Nat.le_of_ble_eq_true rfl) (by decide) (by decide) 25 996 rfl rfl ?_
  refine c_astore e_X11_init_38 (by decide) [(4, .ref (zad G 24)), (3, .ref (zad G 17)), (2, .ref (zad G 8)), (1, .ref (zad G 1)), (0, .ref (zad G 0))] rfl ?_
  refine c_aload e_X11_init_40 4 rfl ?_
  refine c_aload e_X11_init_41 3 rfl ?_
  refine c_putr (k := 0) hC (show zh_50[0]? = some (.inl (11, [some (some none), some (some none), none, some (some none), some (some none), some (some none), some (some none), some (some none), some (some none), some (some none), some (some none), some (some none), some (some none), some (some none)])) by decide +kernel) (by decide) (by decide +kernel) cl_X11 (by decide) cf_X11_23 rfl rfl (.object "GiantHeart$World") (by decide +kernel) (fun _ => ⟨rfl, rfl⟩) e_X11_init_42 zh_51 rfl ?_
  refine c_aload e_X11_init_45 4 rfl ?_
  refine c_new (n := 26) [some (some none), some (some none), some (some none), some (some none), some (some none), some (some none), none, none, none, none, none, none, none] cl_X10 nw_X11_7 (by decide +kernel) (by decide) (by decide +kernel) rfl rfl (by decide) (by decide) e_X11_init_46 zh_52 rfl 26 1009 rfl rfl ?_
  refine c_dup e_X11_init_49 rfl ?_
  refine c_call (c0 := 26) (As := []) (rest := [.ref (zad G 26), .ref (zad G 0)]) li_X11_9 e_X11_init_50 (kc_X10_init_26 G bs) (by decide) rfl (Nat.le_of_ble_eq_true rfl) (by decide) (by decide) 32 1065 rfl rfl ?_
  refine c_putr (k := 1) hC (show zh_64[0]? = some (.inl (11, [some (some (some 1)), some (some none), none, some (some none), some (some none), some (some none), some (some none), some (some none), some (some none), some (some none), some (some none), some (some none), some (some none), some (some none)])) by decide +kernel) (by decide) (by decide +kernel) cl_X11 (by decide) cf_X11_29 rfl rfl (.object "GiantHeart$World") (by decide +kernel) (fun _ => ⟨rfl, rfl⟩) e_X11_init_53 zh_65 rfl ?_
  refine c_aload e_X11_init_56 4 rfl ?_
  refine c_ic e_X11_init_57 ?_
  refine c_puti (k := 2) (show zh_65[0]? = some (.inl (11, [some (some (some 1)), some (some (some 26)), none, some (some none), some (some none), some (some none), some (some none), some (some none), some (some none), some (some none), some (some none), some (some none), some (some none), some (some none)])) by decide +kernel) rfl (by decide +kernel) cl_X11 (by decide) cf_X11_32 rfl (.boolean) (by decide +kernel) ⟨by decide, by decide⟩ e_X11_init_58 zs_71 rfl ?_
  refine c_aload e_X11_init_61 4 rfl ?_
  refine c_new (n := 33) [some (some none), none, none] cl_X8 nw_X11_36 (by decide +kernel) (by decide) (by decide +kernel) rfl rfl (by decide) (by decide) e_X11_init_62 zh_66 rfl 33 1068 rfl rfl ?_
  refine c_dup e_X11_init_65 rfl ?_
  refine c_call (c0 := 33) (As := []) (rest := [.ref (zad G 33), .ref (zad G 0)]) li_X11_38 e_X11_init_66 (kc_X8_init_33 G bs) (by decide) rfl (Nat.le_of_ble_eq_true rfl) (by decide) (by decide) 34 1328 rfl rfl ?_
  refine c_putr (k := 3) hC (show zh_68[0]? = some (.inl (11, [some (some (some 1)), some (some (some 26)), none, some (some none), some (some none), some (some none), some (some none), some (some none), some (some none), some (some none), some (some none), some (some none), some (some none), some (some none)])) by decide +kernel) (by decide) (by decide +kernel) cl_X11 (by decide) cf_X11_39 rfl rfl (.object "GiantHeart$Tape") (by decide +kernel) (fun _ => ⟨rfl, rfl⟩) e_X11_init_69 zh_69 rfl ?_
  refine c_aload e_X11_init_72 4 rfl ?_
  refine c_aload e_X11_init_73 2 rfl ?_
  refine c_putr (k := 4) hC (show zh_69[0]? = some (.inl (11, [some (some (some 1)), some (some (some 26)), none, some (some (some 33)), some (some none), some (some none), some (some none), some (some none), some (some none), some (some none), some (some none), some (some none), some (some none), some (some none)])) by decide +kernel) (by decide) (by decide +kernel) cl_X11 (by decide) cf_X11_43 rfl rfl (.object "GiantHeart$Law") (by decide +kernel) (fun _ => ⟨rfl, rfl⟩) e_X11_init_74 zh_70 rfl ?_
  refine c_aload e_X11_init_77 4 rfl ?_
  refine c_new (n := 35) [some (some none), some (some none), none, some (some none), some (some none), some (some none), some (some none), none, none, some (some none), none, none, none, some (some none)] cl_X1 nw_X11_10 (by decide +kernel) (by decide) (by decide +kernel) rfl rfl (by decide) (by decide) e_X11_init_78 zh_71 rfl 35 1342 rfl rfl ?_
  refine c_dup e_X11_init_81 rfl ?_
  refine c_call (c0 := 35) (As := []) (rest := [.ref (zad G 35), .ref (zad G 0)]) li_X11_12 e_X11_init_82 (kc_X1_init_35 G bs) (by decide) rfl (Nat.le_of_ble_eq_true rfl) (by decide) (by decide) 43 2190 rfl rfl ?_
  refine c_putr (k := 5) hC (show zh_87[0]? = some (.inl (11, [some (some (some 1)), some (some (some 26)), none, some (some (some 33)), some (some (some 8)), some (some none), some (some none), some (some none), some (some none), some (some none), some (some none), some (some none), some (some none), some (some none)])) by decide +kernel) (by decide) (by decide +kernel) cl_X11 (by decide) cf_X11_47 rfl rfl (.object "GiantHeart$Law") (by decide +kernel) (fun _ => ⟨rfl, rfl⟩) e_X11_init_85 zh_88 rfl ?_
  refine c_aload e_X11_init_88 4 rfl ?_
  refine c_aload e_X11_init_89 1 rfl ?_
  refine c_putr (k := 6) hC (show zh_88[0]? = some (.inl (11, [some (some (some 1)), some (some (some 26)), none, some (some (some 33)), some (some (some 8)), some (some (some 35)), some (some none), some (some none), some (some none), some (some none), some (some none), some (some none), some (some none), some (some none)])) by decide +kernel) (by decide) (by decide +kernel) cl_X11 (by decide) cf_X11_50 rfl rfl (.object "GiantHeart$Seeker") (by decide +kernel) (fun _ => ⟨rfl, rfl⟩) e_X11_init_90 zh_89 rfl ?_
  refine c_aload e_X11_init_93 4 rfl ?_
  refine c_new (n := 44) [some (some none), some (some none), none] cl_X7 nw_X11_54 (by decide +kernel) (by decide) (by decide +kernel) rfl rfl (by decide) (by decide) e_X11_init_94 zh_90 rfl 44 2193 rfl rfl ?_
  refine c_dup e_X11_init_97 rfl ?_
  refine c_call (c0 := 44) (As := []) (rest := [.ref (zad G 44), .ref (zad G 0)]) li_X11_56 e_X11_init_98 (kc_X7_init_44 G bs) (by decide) rfl (Nat.le_of_ble_eq_true rfl) (by decide) (by decide) 46 2257 rfl rfl ?_
  refine c_putr (k := 7) hC (show zh_94[0]? = some (.inl (11, [some (some (some 1)), some (some (some 26)), none, some (some (some 33)), some (some (some 8)), some (some (some 35)), some (some (some 17)), some (some none), some (some none), some (some none), some (some none), some (some none), some (some none), some (some none)])) by decide +kernel) (by decide) (by decide +kernel) cl_X11 (by decide) cf_X11_57 rfl rfl (.object "GiantHeart$Tale") (by decide +kernel) (fun _ => ⟨rfl, rfl⟩) e_X11_init_101 zh_95 rfl ?_
  refine c_aload e_X11_init_104 4 rfl ?_
  refine c_new (n := 47) [some (some none), some (some none), some (some none), some (some none), some (some none), none, none, some (some none), none, some (some none), some (some none), some (some none), some (some none), none] cl_X4 nw_X11_61 (by decide +kernel) (by decide) (by decide +kernel) rfl rfl (by decide) (by decide) e_X11_init_105 zh_96 rfl 47 2271 rfl rfl ?_
  refine c_dup e_X11_init_108 rfl ?_
  refine c_aload e_X11_init_109 1 rfl ?_
  refine c_call (c0 := 47) (As := [.ref (zad G 17)]) (rest := [.ref (zad G 47), .ref (zad G 0)]) li_X11_63 e_X11_init_110 (kc_X4_init_47 G bs) (by decide) rfl (Nat.le_of_ble_eq_true rfl) (by decide) (by decide) 56 30001 rfl rfl ?_
  refine c_putr (k := 8) hC (show zh_115[0]? = some (.inl (11, [some (some (some 1)), some (some (some 26)), none, some (some (some 33)), some (some (some 8)), some (some (some 35)), some (some (some 17)), some (some (some 44)), some (some none), some (some none), some (some none), some (some none), some (some none), some (some none)])) by decide +kernel) (by decide) (by decide +kernel) cl_X11 (by decide) cf_X11_66 rfl rfl (.object "GiantHeart$Planner") (by decide +kernel) (fun _ => ⟨rfl, rfl⟩) e_X11_init_113 zh_116 rfl ?_
  refine c_aload e_X11_init_116 4 rfl ?_
  refine c_aload e_X11_init_117 0 rfl ?_
  refine c_putr (k := 9) hC (show zh_116[0]? = some (.inl (11, [some (some (some 1)), some (some (some 26)), none, some (some (some 33)), some (some (some 8)), some (some (some 35)), some (some (some 17)), some (some (some 44)), some (some (some 47)), some (some none), some (some none), some (some none), some (some none), some (some none)])) by decide +kernel) (by decide) (by decide +kernel) cl_X11 (by decide) cf_X11_70 rfl rfl (.object "GiantHeart$Nights") (by decide +kernel) (fun _ => ⟨rfl, rfl⟩) e_X11_init_119 zh_117 rfl ?_
  refine c_aload e_X11_init_122 4 rfl ?_
  refine c_new (n := 57) [some (some none), some (some none), some (some none), some (some none), some (some none), none, some (some none), some (some none), some (some none)] cl_X6 nw_X11_74 (by decide +kernel) (by decide) (by decide +kernel) rfl rfl (by decide) (by decide) e_X11_init_123 zh_118 rfl 57 30010 rfl rfl ?_
  refine c_dup e_X11_init_126 rfl ?_
  refine c_aload e_X11_init_127 3 rfl ?_
  refine c_aload e_X11_init_128 2 rfl ?_
  refine c_aload e_X11_init_129 0 rfl ?_
  refine c_call (c0 := 57) (As := [.ref (zad G 1), .ref (zad G 8), .ref (zad G 24)]) (rest := [.ref (zad G 57), .ref (zad G 0)]) li_X11_76 e_X11_init_131 (kc_X6_init_57 G bs) (by decide) rfl (Nat.le_of_ble_eq_true rfl) (by decide) (by decide) 62 30114 rfl rfl ?_
  refine c_putr (k := 10) hC (show zh_131[0]? = some (.inl (11, [some (some (some 1)), some (some (some 26)), none, some (some (some 33)), some (some (some 8)), some (some (some 35)), some (some (some 17)), some (some (some 44)), some (some (some 47)), some (some (some 24)), some (some none), some (some none), some (some none), some (some none)])) by decide +kernel) (by decide) (by decide +kernel) cl_X11 (by decide) cf_X11_79 rfl rfl (.object "GiantHeart$Stories") (by decide +kernel) (fun _ => ⟨rfl, rfl⟩) e_X11_init_134 zh_132 rfl ?_
  refine c_aload e_X11_init_137 4 rfl ?_
  refine c_new (n := 63) [some (some none), none, some none, some none] cl_X2 nw_X11_83 (by decide +kernel) (by decide) (by decide +kernel) rfl rfl (by decide) (by decide) e_X11_init_138 zh_133 rfl 63 30118 rfl rfl ?_
  refine c_dup e_X11_init_141 rfl ?_
  refine c_call (c0 := 63) (As := []) (rest := [.ref (zad G 63), .ref (zad G 0)]) li_X11_85 e_X11_init_142 (kc_X2_init_63 G bs) (by decide) rfl (Nat.le_of_ble_eq_true rfl) (by decide) (by decide) 64 30124 rfl rfl ?_
  refine c_putr (k := 11) hC (show zh_135[0]? = some (.inl (11, [some (some (some 1)), some (some (some 26)), none, some (some (some 33)), some (some (some 8)), some (some (some 35)), some (some (some 17)), some (some (some 44)), some (some (some 47)), some (some (some 24)), some (some (some 57)), some (some none), some (some none), some (some none)])) by decide +kernel) (by decide) (by decide +kernel) cl_X11 (by decide) cf_X11_86 rfl rfl (.object "GiantHeart$Lots") (by decide +kernel) (fun _ => ⟨rfl, rfl⟩) e_X11_init_145 zh_136 rfl ?_
  refine c_aload e_X11_init_148 4 rfl ?_
  refine c_new (n := 65) [none, some (some none)] cl_X0 nw_X11_90 (by decide +kernel) (by decide) (by decide +kernel) rfl rfl (by decide) (by decide) e_X11_init_149 zh_137 rfl 65 30126 rfl rfl ?_
  refine c_dup e_X11_init_152 rfl ?_
  refine c_call (c0 := 65) (As := []) (rest := [.ref (zad G 65), .ref (zad G 0)]) li_X11_92 e_X11_init_153 (kc_X0_init_65 G bs) (by decide) rfl (Nat.le_of_ble_eq_true rfl) (by decide) (by decide) 66 30132 rfl rfl ?_
  refine c_putr (k := 12) hC (show zh_139[0]? = some (.inl (11, [some (some (some 1)), some (some (some 26)), none, some (some (some 33)), some (some (some 8)), some (some (some 35)), some (some (some 17)), some (some (some 44)), some (some (some 47)), some (some (some 24)), some (some (some 57)), some (some (some 63)), some (some none), some (some none)])) by decide +kernel) (by decide) (by decide +kernel) cl_X11 (by decide) cf_X11_93 rfl rfl (.object "GiantHeart$Eggs") (by decide +kernel) (fun _ => ⟨rfl, rfl⟩) e_X11_init_156 zh_140 rfl ?_
  refine c_aload e_X11_init_159 4 rfl ?_
  refine c_new (n := 67) [some (some none)] cl_X9 nw_X11_97 (by decide +kernel) (by decide) (by decide +kernel) rfl rfl (by decide) (by decide) e_X11_init_160 zh_141 rfl 67 30133 rfl rfl ?_
  refine c_dup e_X11_init_163 rfl ?_
  refine c_call (c0 := 67) (As := []) (rest := [.ref (zad G 67), .ref (zad G 0)]) li_X11_99 e_X11_init_164 (kc_X9_init_67 G bs) (by decide) rfl (Nat.le_of_ble_eq_true rfl) (by decide) (by decide) 68 30145 rfl rfl ?_
  refine c_putr (k := 13) hC (show zh_143[0]? = some (.inl (11, [some (some (some 1)), some (some (some 26)), none, some (some (some 33)), some (some (some 8)), some (some (some 35)), some (some (some 17)), some (some (some 44)), some (some (some 47)), some (some (some 24)), some (some (some 57)), some (some (some 63)), some (some (some 65)), some (some none)])) by decide +kernel) (by decide) (by decide +kernel) cl_X11 (by decide) cf_X11_100 rfl rfl (.object "GiantHeart$Wood") (by decide +kernel) (fun _ => ⟨rfl, rfl⟩) e_X11_init_167 zh_144 rfl ?_
  exact c_ret hR e_X11_init_170
set_option maxHeartbeats 8000000 in
set_option maxRecDepth 100000 in
theorem kc_X12_init_69 (G : zG) (bs : Nat) : cM G bs 1 41 29406 yX12_init cX12_init 2 [.ref (zad G 69)] zh_145 zs_83 zh_227 zs_130 := by
  refine cM.of (own := RX12) (by decide +kernel) rfl rfl (Nat.le_of_ble_eq_true rfl) (fun C hC hR => ?_)
  refine c_aload e_X12_init_0 0 rfl ?_
  refine c_obj oj_X12_1 (by decide) (Nat.le_of_ble_eq_true rfl) e_X12_init_1 ?_
  refine c_aload e_X12_init_4 0 rfl ?_
  refine c_ic e_X12_init_5 ?_
  refine c_newaI (N := 16) (n := 70) aw_I (by decide) rfl (by decide) (by decide +kernel) (by decide) rfl rfl (by decide) (by decide) e_X12_init_7 zh_146 rfl 1 16 rfl rfl ?_
  refine c_putr (k := 7) hC (show zh_146[69]? = some (.inl (12, [none, none, none, none, none, none, none, some (some none), some (some none), some (some none), some (some none), some (some none), some (some none), some (some none), none, none, none, none, none, none, none, none, none, none, some (some none), some (some none), some (some none), some (some none), some (some none), some (some none), some (some none), some (some none), some (some none), some (some none), some (some none), some (some none), some (some none), none, none, none, none, none, none, some (some none), some (some none), some (some none), some (some none), some (some none), some (some none), none, some (some none), some (some none), some (some none), none, none, some (some none), some (some none), some (some none), some (some none), none, some (some none), some (some none), none, none, none, none, none, none, none, none, some (some none), some (some none), some (some none), some (some none), some (some none), some (some none)])) by decide +kernel) (by decide) (by decide +kernel) cl_X12 (by decide) cf_X12_7 rfl rfl (.array .int) (by decide +kernel) (fun _ => ⟨rfl, rfl⟩) e_X12_init_9 zh_147 rfl ?_
  refine c_aload e_X12_init_12 0 rfl ?_
  refine c_ic e_X12_init_13 ?_
  refine c_newaI (N := 8) (n := 71) aw_I (by decide) rfl (by decide) (by decide +kernel) (by decide) rfl rfl (by decide) (by decide) e_X12_init_15 zh_148 rfl 2 24 rfl rfl ?_
  refine c_putr (k := 8) hC (show zh_148[69]? = some (.inl (12, [none, none, none, none, none, none, none, some (some (some 70)), some (some none), some (some none), some (some none), some (some none), some (some none), some (some none), none, none, none, none, none, none, none, none, none, none, some (some none), some (some none), some (some none), some (some none), some (some none), some (some none), some (some none), some (some none), some (some none), some (some none), some (some none), some (some none), some (some none), none, none, none, none, none, none, some (some none), some (some none), some (some none), some (some none), some (some none), some (some none), none, some (some none), some (some none), some (some none), none, none, some (some none), some (some none), some (some none), some (some none), none, some (some none), some (some none), none, none, none, none, none, none, none, none, some (some none), some (some none), some (some none), some (some none), some (some none), some (some none)])) by decide +kernel) (by decide) (by decide +kernel) cl_X12 (by decide) cf_X12_13 rfl rfl (.array .int) (by decide +kernel) (fun _ => ⟨rfl, rfl⟩) e_X12_init_17 zh_149 rfl ?_
  refine c_aload e_X12_init_20 0 rfl ?_
  refine c_ic e_X12_init_21 ?_
  refine c_newaI (N := 8) (n := 72) aw_I (by decide) rfl (by decide) (by decide +kernel) (by decide) rfl rfl (by decide) (by decide) e_X12_init_23 zh_150 rfl 3 32 rfl rfl ?_
  refine c_putr (k := 9) hC (show zh_150[69]? = some (.inl (12, [none, none, none, none, none, none, none, some (some (some 70)), some (some (some 71)), some (some none), some (some none), some (some none), some (some none), some (some none), none, none, none, none, none, none, none, none, none, none, some (some none), some (some none), some (some none), some (some none), some (some none), some (some none), some (some none), some (some none), some (some none), some (some none), some (some none), some (some none), some (some none), none, none, none, none, none, none, some (some none), some (some none), some (some none), some (some none), some (some none), some (some none), none, some (some none), some (some none), some (some none), none, none, some (some none), some (some none), some (some none), some (some none), none, some (some none), some (some none), none, none, none, none, none, none, none, none, some (some none), some (some none), some (some none), some (some none), some (some none), some (some none)])) by decide +kernel) (by decide) (by decide +kernel) cl_X12 (by decide) cf_X12_16 rfl rfl (.array .int) (by decide +kernel) (fun _ => ⟨rfl, rfl⟩) e_X12_init_25 zh_151 rfl ?_
  refine c_aload e_X12_init_28 0 rfl ?_
  refine c_ic e_X12_init_29 ?_
  refine c_newaI (N := 8) (n := 73) aw_I (by decide) rfl (by decide) (by decide +kernel) (by decide) rfl rfl (by decide) (by decide) e_X12_init_31 zh_152 rfl 4 40 rfl rfl ?_
  refine c_putr (k := 10) hC (show zh_152[69]? = some (.inl (12, [none, none, none, none, none, none, none, some (some (some 70)), some (some (some 71)), some (some (some 72)), some (some none), some (some none), some (some none), some (some none), none, none, none, none, none, none, none, none, none, none, some (some none), some (some none), some (some none), some (some none), some (some none), some (some none), some (some none), some (some none), some (some none), some (some none), some (some none), some (some none), some (some none), none, none, none, none, none, none, some (some none), some (some none), some (some none), some (some none), some (some none), some (some none), none, some (some none), some (some none), some (some none), none, none, some (some none), some (some none), some (some none), some (some none), none, some (some none), some (some none), none, none, none, none, none, none, none, none, some (some none), some (some none), some (some none), some (some none), some (some none), some (some none)])) by decide +kernel) (by decide) (by decide +kernel) cl_X12 (by decide) cf_X12_19 rfl rfl (.array .int) (by decide +kernel) (fun _ => ⟨rfl, rfl⟩) e_X12_init_33 zh_153 rfl ?_
  refine c_aload e_X12_init_36 0 rfl ?_
  refine c_ic e_X12_init_37 ?_
  refine c_newaI (N := 8) (n := 74) aw_I (by decide) rfl (by decide) (by decide +kernel) (by decide) rfl rfl (by decide) (by decide) e_X12_init_39 zh_154 rfl 5 48 rfl rfl ?_
  refine c_putr (k := 11) hC (show zh_154[69]? = some (.inl (12, [none, none, none, none, none, none, none, some (some (some 70)), some (some (some 71)), some (some (some 72)), some (some (some 73)), some (some none), some (some none), some (some none), none, none, none, none, none, none, none, none, none, none, some (some none), some (some none), some (some none), some (some none), some (some none), some (some none), some (some none), some (some none), some (some none), some (some none), some (some none), some (some none), some (some none), none, none, none, none, none, none, some (some none), some (some none), some (some none), some (some none), some (some none), some (some none), none, some (some none), some (some none), some (some none), none, none, some (some none), some (some none), some (some none), some (some none), none, some (some none), some (some none), none, none, none, none, none, none, none, none, some (some none), some (some none), some (some none), some (some none), some (some none), some (some none)])) by decide +kernel) (by decide) (by decide +kernel) cl_X12 (by decide) cf_X12_22 rfl rfl (.array .int) (by decide +kernel) (fun _ => ⟨rfl, rfl⟩) e_X12_init_41 zh_155 rfl ?_
  refine c_aload e_X12_init_44 0 rfl ?_
  refine c_ic e_X12_init_45 ?_
  refine c_newaI (N := 8) (n := 75) aw_I (by decide) rfl (by decide) (by decide +kernel) (by decide) rfl rfl (by decide) (by decide) e_X12_init_47 zh_156 rfl 6 56 rfl rfl ?_
  refine c_putr (k := 12) hC (show zh_156[69]? = some (.inl (12, [none, none, none, none, none, none, none, some (some (some 70)), some (some (some 71)), some (some (some 72)), some (some (some 73)), some (some (some 74)), some (some none), some (some none), none, none, none, none, none, none, none, none, none, none, some (some none), some (some none), some (some none), some (some none), some (some none), some (some none), some (some none), some (some none), some (some none), some (some none), some (some none), some (some none), some (some none), none, none, none, none, none, none, some (some none), some (some none), some (some none), some (some none), some (some none), some (some none), none, some (some none), some (some none), some (some none), none, none, some (some none), some (some none), some (some none), some (some none), none, some (some none), some (some none), none, none, none, none, none, none, none, none, some (some none), some (some none), some (some none), some (some none), some (some none), some (some none)])) by decide +kernel) (by decide) (by decide +kernel) cl_X12 (by decide) cf_X12_25 rfl rfl (.array .int) (by decide +kernel) (fun _ => ⟨rfl, rfl⟩) e_X12_init_49 zh_157 rfl ?_
  refine c_aload e_X12_init_52 0 rfl ?_
  refine c_ic e_X12_init_53 ?_
  refine c_newaB (N := 260) (n := 76) aw_B (by decide) rfl (by decide) (by decide +kernel) (by decide) rfl rfl (by decide) (by decide) e_X12_init_56 zh_158 rfl 7 316 rfl rfl ?_
  refine c_putr (k := 13) hC (show zh_158[69]? = some (.inl (12, [none, none, none, none, none, none, none, some (some (some 70)), some (some (some 71)), some (some (some 72)), some (some (some 73)), some (some (some 74)), some (some (some 75)), some (some none), none, none, none, none, none, none, none, none, none, none, some (some none), some (some none), some (some none), some (some none), some (some none), some (some none), some (some none), some (some none), some (some none), some (some none), some (some none), some (some none), some (some none), none, none, none, none, none, none, some (some none), some (some none), some (some none), some (some none), some (some none), some (some none), none, some (some none), some (some none), some (some none), none, none, some (some none), some (some none), some (some none), some (some none), none, some (some none), some (some none), none, none, none, none, none, none, none, none, some (some none), some (some none), some (some none), some (some none), some (some none), some (some none)])) by decide +kernel) (by decide) (by decide +kernel) cl_X12 (by decide) cf_X12_28 rfl rfl (.array .byte) (by decide +kernel) (fun _ => ⟨rfl, rfl⟩) e_X12_init_58 zh_159 rfl ?_
  refine c_aload e_X12_init_61 0 rfl ?_
  refine c_ic e_X12_init_62 ?_
  refine c_newaI (N := 260) (n := 77) aw_I (by decide) rfl (by decide) (by decide +kernel) (by decide) rfl rfl (by decide) (by decide) e_X12_init_65 zh_160 rfl 8 576 rfl rfl ?_
  refine c_putr (k := 24) hC (show zh_160[69]? = some (.inl (12, [none, none, none, none, none, none, none, some (some (some 70)), some (some (some 71)), some (some (some 72)), some (some (some 73)), some (some (some 74)), some (some (some 75)), some (some (some 76)), none, none, none, none, none, none, none, none, none, none, some (some none), some (some none), some (some none), some (some none), some (some none), some (some none), some (some none), some (some none), some (some none), some (some none), some (some none), some (some none), some (some none), none, none, none, none, none, none, some (some none), some (some none), some (some none), some (some none), some (some none), some (some none), none, some (some none), some (some none), some (some none), none, none, some (some none), some (some none), some (some none), some (some none), none, some (some none), some (some none), none, none, none, none, none, none, none, none, some (some none), some (some none), some (some none), some (some none), some (some none), some (some none)])) by decide +kernel) (by decide) (by decide +kernel) cl_X12 (by decide) cf_X12_32 rfl rfl (.array .int) (by decide +kernel) (fun _ => ⟨rfl, rfl⟩) e_X12_init_67 zh_161 rfl ?_
  refine c_aload e_X12_init_70 0 rfl ?_
  refine c_ic e_X12_init_71 ?_
  refine c_newaI (N := 260) (n := 78) aw_I (by decide) rfl (by decide) (by decide +kernel) (by decide) rfl rfl (by decide) (by decide) e_X12_init_74 zh_162 rfl 9 836 rfl rfl ?_
  refine c_putr (k := 25) hC (show zh_162[69]? = some (.inl (12, [none, none, none, none, none, none, none, some (some (some 70)), some (some (some 71)), some (some (some 72)), some (some (some 73)), some (some (some 74)), some (some (some 75)), some (some (some 76)), none, none, none, none, none, none, none, none, none, none, some (some (some 77)), some (some none), some (some none), some (some none), some (some none), some (some none), some (some none), some (some none), some (some none), some (some none), some (some none), some (some none), some (some none), none, none, none, none, none, none, some (some none), some (some none), some (some none), some (some none), some (some none), some (some none), none, some (some none), some (some none), some (some none), none, none, some (some none), some (some none), some (some none), some (some none), none, some (some none), some (some none), none, none, none, none, none, none, none, none, some (some none), some (some none), some (some none), some (some none), some (some none), some (some none)])) by decide +kernel) (by decide) (by decide +kernel) cl_X12 (by decide) cf_X12_35 rfl rfl (.array .int) (by decide +kernel) (fun _ => ⟨rfl, rfl⟩) e_X12_init_76 zh_163 rfl ?_
  refine c_aload e_X12_init_79 0 rfl ?_
  refine c_ic e_X12_init_80 ?_
  refine c_newaI (N := 16) (n := 79) aw_I (by decide) rfl (by decide) (by decide +kernel) (by decide) rfl rfl (by decide) (by decide) e_X12_init_82 zh_164 rfl 10 852 rfl rfl ?_
  refine c_putr (k := 26) hC (show zh_164[69]? = some (.inl (12, [none, none, none, none, none, none, none, some (some (some 70)), some (some (some 71)), some (some (some 72)), some (some (some 73)), some (some (some 74)), some (some (some 75)), some (some (some 76)), none, none, none, none, none, none, none, none, none, none, some (some (some 77)), some (some (some 78)), some (some none), some (some none), some (some none), some (some none), some (some none), some (some none), some (some none), some (some none), some (some none), some (some none), some (some none), none, none, none, none, none, none, some (some none), some (some none), some (some none), some (some none), some (some none), some (some none), none, some (some none), some (some none), some (some none), none, none, some (some none), some (some none), some (some none), some (some none), none, some (some none), some (some none), none, none, none, none, none, none, none, none, some (some none), some (some none), some (some none), some (some none), some (some none), some (some none)])) by decide +kernel) (by decide) (by decide +kernel) cl_X12 (by decide) cf_X12_38 rfl rfl (.array .int) (by decide +kernel) (fun _ => ⟨rfl, rfl⟩) e_X12_init_84 zh_165 rfl ?_
  refine c_aload e_X12_init_87 0 rfl ?_
  refine c_ic e_X12_init_88 ?_
  refine c_newaI (N := 16) (n := 80) aw_I (by decide) rfl (by decide) (by decide +kernel) (by decide) rfl rfl (by decide) (by decide) e_X12_init_90 zh_166 rfl 11 868 rfl rfl ?_
  refine c_putr (k := 27) hC (show zh_166[69]? = some (.inl (12, [none, none, none, none, none, none, none, some (some (some 70)), some (some (some 71)), some (some (some 72)), some (some (some 73)), some (some (some 74)), some (some (some 75)), some (some (some 76)), none, none, none, none, none, none, none, none, none, none, some (some (some 77)), some (some (some 78)), some (some (some 79)), some (some none), some (some none), some (some none), some (some none), some (some none), some (some none), some (some none), some (some none), some (some none), some (some none), none, none, none, none, none, none, some (some none), some (some none), some (some none), some (some none), some (some none), some (some none), none, some (some none), some (some none), some (some none), none, none, some (some none), some (some none), some (some none), some (some none), none, some (some none), some (some none), none, none, none, none, none, none, none, none, some (some none), some (some none), some (some none), some (some none), some (some none), some (some none)])) by decide +kernel) (by decide) (by decide +kernel) cl_X12 (by decide) cf_X12_41 rfl rfl (.array .int) (by decide +kernel) (fun _ => ⟨rfl, rfl⟩) e_X12_init_92 zh_167 rfl ?_
  refine c_aload e_X12_init_95 0 rfl ?_
  refine c_ic e_X12_init_96 ?_
  refine c_newaI (N := 16) (n := 81) aw_I (by decide) rfl (by decide) (by decide +kernel) (by decide) rfl rfl (by decide) (by decide) e_X12_init_98 zh_168 rfl 12 884 rfl rfl ?_
  refine c_putr (k := 28) hC (show zh_168[69]? = some (.inl (12, [none, none, none, none, none, none, none, some (some (some 70)), some (some (some 71)), some (some (some 72)), some (some (some 73)), some (some (some 74)), some (some (some 75)), some (some (some 76)), none, none, none, none, none, none, none, none, none, none, some (some (some 77)), some (some (some 78)), some (some (some 79)), some (some (some 80)), some (some none), some (some none), some (some none), some (some none), some (some none), some (some none), some (some none), some (some none), some (some none), none, none, none, none, none, none, some (some none), some (some none), some (some none), some (some none), some (some none), some (some none), none, some (some none), some (some none), some (some none), none, none, some (some none), some (some none), some (some none), some (some none), none, some (some none), some (some none), none, none, none, none, none, none, none, none, some (some none), some (some none), some (some none), some (some none), some (some none), some (some none)])) by decide +kernel) (by decide) (by decide +kernel) cl_X12 (by decide) cf_X12_44 rfl rfl (.array .int) (by decide +kernel) (fun _ => ⟨rfl, rfl⟩) e_X12_init_100 zh_169 rfl ?_
  refine c_aload e_X12_init_103 0 rfl ?_
  refine c_ic e_X12_init_104 ?_
  refine c_newaI (N := 16) (n := 82) aw_I (by decide) rfl (by decide) (by decide +kernel) (by decide) rfl rfl (by decide) (by decide) e_X12_init_106 zh_170 rfl 13 900 rfl rfl ?_
  refine c_putr (k := 29) hC (show zh_170[69]? = some (.inl (12, [none, none, none, none, none, none, none, some (some (some 70)), some (some (some 71)), some (some (some 72)), some (some (some 73)), some (some (some 74)), some (some (some 75)), some (some (some 76)), none, none, none, none, none, none, none, none, none, none, some (some (some 77)), some (some (some 78)), some (some (some 79)), some (some (some 80)), some (some (some 81)), some (some none), some (some none), some (some none), some (some none), some (some none), some (some none), some (some none), some (some none), none, none, none, none, none, none, some (some none), some (some none), some (some none), some (some none), some (some none), some (some none), none, some (some none), some (some none), some (some none), none, none, some (some none), some (some none), some (some none), some (some none), none, some (some none), some (some none), none, none, none, none, none, none, none, none, some (some none), some (some none), some (some none), some (some none), some (some none), some (some none)])) by decide +kernel) (by decide) (by decide +kernel) cl_X12 (by decide) cf_X12_47 rfl rfl (.array .int) (by decide +kernel) (fun _ => ⟨rfl, rfl⟩) e_X12_init_108 zh_171 rfl ?_
  refine c_aload e_X12_init_111 0 rfl ?_
  refine c_ic e_X12_init_112 ?_
  refine c_newaI (N := 260) (n := 83) aw_I (by decide) rfl (by decide) (by decide +kernel) (by decide) rfl rfl (by decide) (by decide) e_X12_init_115 zh_172 rfl 14 1160 rfl rfl ?_
  refine c_putr (k := 30) hC (show zh_172[69]? = some (.inl (12, [none, none, none, none, none, none, none, some (some (some 70)), some (some (some 71)), some (some (some 72)), some (some (some 73)), some (some (some 74)), some (some (some 75)), some (some (some 76)), none, none, none, none, none, none, none, none, none, none, some (some (some 77)), some (some (some 78)), some (some (some 79)), some (some (some 80)), some (some (some 81)), some (some (some 82)), some (some none), some (some none), some (some none), some (some none), some (some none), some (some none), some (some none), none, none, none, none, none, none, some (some none), some (some none), some (some none), some (some none), some (some none), some (some none), none, some (some none), some (some none), some (some none), none, none, some (some none), some (some none), some (some none), some (some none), none, some (some none), some (some none), none, none, none, none, none, none, none, none, some (some none), some (some none), some (some none), some (some none), some (some none), some (some none)])) by decide +kernel) (by decide) (by decide +kernel) cl_X12 (by decide) cf_X12_50 rfl rfl (.array .int) (by decide +kernel) (fun _ => ⟨rfl, rfl⟩) e_X12_init_117 zh_173 rfl ?_
  refine c_aload e_X12_init_120 0 rfl ?_
  refine c_ic e_X12_init_121 ?_
  refine c_newaI (N := 16) (n := 84) aw_I (by decide) rfl (by decide) (by decide +kernel) (by decide) rfl rfl (by decide) (by decide) e_X12_init_123 zh_174 rfl 15 1176 rfl rfl ?_
  refine c_putr (k := 31) hC (show zh_174[69]? = some (.inl (12, [none, none, none, none, none, none, none, some (some (some 70)), some (some (some 71)), some (some (some 72)), some (some (some 73)), some (some (some 74)), some (some (some 75)), some (some (some 76)), none, none, none, none, none, none, none, none, none, none, some (some (some 77)), some (some (some 78)), some (some (some 79)), some (some (some 80)), some (some (some 81)), some (some (some 82)), some (some (some 83)), some (some none), some (some none), some (some none), some (some none), some (some none), some (some none), none, none, none, none, none, none, some (some none), some (some none), some (some none), some (some none), some (some none), some (some none), none, some (some none), some (some none), some (some none), none, none, some (some none), some (some none), some (some none), some (some none), none, some (some none), some (some none), none, none, none, none, none, none, none, none, some (some none), some (some none), some (some none), some (some none), some (some none), some (some none)])) by decide +kernel) (by decide) (by decide +kernel) cl_X12 (by decide) cf_X12_53 rfl rfl (.array .int) (by decide +kernel) (fun _ => ⟨rfl, rfl⟩) e_X12_init_125 zh_175 rfl ?_
  refine c_aload e_X12_init_128 0 rfl ?_
  refine c_ic e_X12_init_129 ?_
  refine c_newaI (N := 16) (n := 85) aw_I (by decide) rfl (by decide) (by decide +kernel) (by decide) rfl rfl (by decide) (by decide) e_X12_init_131 zh_176 rfl 16 1192 rfl rfl ?_
  refine c_putr (k := 32) hC (show zh_176[69]? = some (.inl (12, [none, none, none, none, none, none, none, some (some (some 70)), some (some (some 71)), some (some (some 72)), some (some (some 73)), some (some (some 74)), some (some (some 75)), some (some (some 76)), none, none, none, none, none, none, none, none, none, none, some (some (some 77)), some (some (some 78)), some (some (some 79)), some (some (some 80)), some (some (some 81)), some (some (some 82)), some (some (some 83)), some (some (some 84)), some (some none), some (some none), some (some none), some (some none), some (some none), none, none, none, none, none, none, some (some none), some (some none), some (some none), some (some none), some (some none), some (some none), none, some (some none), some (some none), some (some none), none, none, some (some none), some (some none), some (some none), some (some none), none, some (some none), some (some none), none, none, none, none, none, none, none, none, some (some none), some (some none), some (some none), some (some none), some (some none), some (some none)])) by decide +kernel) (by decide) (by decide +kernel) cl_X12 (by decide) cf_X12_56 rfl rfl (.array .int) (by decide +kernel) (fun _ => ⟨rfl, rfl⟩) e_X12_init_133 zh_177 rfl ?_
  refine c_aload e_X12_init_136 0 rfl ?_
  refine c_ic e_X12_init_137 ?_
  refine c_newaI (N := 16) (n := 86) aw_I (by decide) rfl (by decide) (by decide +kernel) (by decide) rfl rfl (by decide) (by decide) e_X12_init_139 zh_178 rfl 17 1208 rfl rfl ?_
  refine c_putr (k := 33) hC (show zh_178[69]? = some (.inl (12, [none, none, none, none, none, none, none, some (some (some 70)), some (some (some 71)), some (some (some 72)), some (some (some 73)), some (some (some 74)), some (some (some 75)), some (some (some 76)), none, none, none, none, none, none, none, none, none, none, some (some (some 77)), some (some (some 78)), some (some (some 79)), some (some (some 80)), some (some (some 81)), some (some (some 82)), some (some (some 83)), some (some (some 84)), some (some (some 85)), some (some none), some (some none), some (some none), some (some none), none, none, none, none, none, none, some (some none), some (some none), some (some none), some (some none), some (some none), some (some none), none, some (some none), some (some none), some (some none), none, none, some (some none), some (some none), some (some none), some (some none), none, some (some none), some (some none), none, none, none, none, none, none, none, none, some (some none), some (some none), some (some none), some (some none), some (some none), some (some none)])) by decide +kernel) (by decide) (by decide +kernel) cl_X12 (by decide) cf_X12_59 rfl rfl (.array .int) (by decide +kernel) (fun _ => ⟨rfl, rfl⟩) e_X12_init_141 zh_179 rfl ?_
  refine c_aload e_X12_init_144 0 rfl ?_
  refine c_ic e_X12_init_145 ?_
  refine c_newaI (N := 16) (n := 87) aw_I (by decide) rfl (by decide) (by decide +kernel) (by decide) rfl rfl (by decide) (by decide) e_X12_init_147 zh_180 rfl 18 1224 rfl rfl ?_
  refine c_putr (k := 34) hC (show zh_180[69]? = some (.inl (12, [none, none, none, none, none, none, none, some (some (some 70)), some (some (some 71)), some (some (some 72)), some (some (some 73)), some (some (some 74)), some (some (some 75)), some (some (some 76)), none, none, none, none, none, none, none, none, none, none, some (some (some 77)), some (some (some 78)), some (some (some 79)), some (some (some 80)), some (some (some 81)), some (some (some 82)), some (some (some 83)), some (some (some 84)), some (some (some 85)), some (some (some 86)), some (some none), some (some none), some (some none), none, none, none, none, none, none, some (some none), some (some none), some (some none), some (some none), some (some none), some (some none), none, some (some none), some (some none), some (some none), none, none, some (some none), some (some none), some (some none), some (some none), none, some (some none), some (some none), none, none, none, none, none, none, none, none, some (some none), some (some none), some (some none), some (some none), some (some none), some (some none)])) by decide +kernel) (by decide) (by decide +kernel) cl_X12 (by decide) cf_X12_62 rfl rfl (.array .int) (by decide +kernel) (fun _ => ⟨rfl, rfl⟩) e_X12_init_149 zh_181 rfl ?_
  refine c_aload e_X12_init_152 0 rfl ?_
  refine c_ic e_X12_init_153 ?_
  refine c_newaI (N := 260) (n := 88) aw_I (by decide) rfl (by decide) (by decide +kernel) (by decide) rfl rfl (by decide) (by decide) e_X12_init_156 zh_182 rfl 19 1484 rfl rfl ?_
  refine c_putr (k := 35) hC (show zh_182[69]? = some (.inl (12, [none, none, none, none, none, none, none, some (some (some 70)), some (some (some 71)), some (some (some 72)), some (some (some 73)), some (some (some 74)), some (some (some 75)), some (some (some 76)), none, none, none, none, none, none, none, none, none, none, some (some (some 77)), some (some (some 78)), some (some (some 79)), some (some (some 80)), some (some (some 81)), some (some (some 82)), some (some (some 83)), some (some (some 84)), some (some (some 85)), some (some (some 86)), some (some (some 87)), some (some none), some (some none), none, none, none, none, none, none, some (some none), some (some none), some (some none), some (some none), some (some none), some (some none), none, some (some none), some (some none), some (some none), none, none, some (some none), some (some none), some (some none), some (some none), none, some (some none), some (some none), none, none, none, none, none, none, none, none, some (some none), some (some none), some (some none), some (some none), some (some none), some (some none)])) by decide +kernel) (by decide) (by decide +kernel) cl_X12 (by decide) cf_X12_65 rfl rfl (.array .int) (by decide +kernel) (fun _ => ⟨rfl, rfl⟩) e_X12_init_158 zh_183 rfl ?_
  refine c_aload e_X12_init_161 0 rfl ?_
  refine c_ic e_X12_init_162 ?_
  refine c_newaI (N := 9) (n := 89) aw_I (by decide) rfl (by decide) (by decide +kernel) (by decide) rfl rfl (by decide) (by decide) e_X12_init_164 zh_184 rfl 20 1493 rfl rfl ?_
  refine c_putr (k := 36) hC (show zh_184[69]? = some (.inl (12, [none, none, none, none, none, none, none, some (some (some 70)), some (some (some 71)), some (some (some 72)), some (some (some 73)), some (some (some 74)), some (some (some 75)), some (some (some 76)), none, none, none, none, none, none, none, none, none, none, some (some (some 77)), some (some (some 78)), some (some (some 79)), some (some (some 80)), some (some (some 81)), some (some (some 82)), some (some (some 83)), some (some (some 84)), some (some (some 85)), some (some (some 86)), some (some (some 87)), some (some (some 88)), some (some none), none, none, none, none, none, none, some (some none), some (some none), some (some none), some (some none), some (some none), some (some none), none, some (some none), some (some none), some (some none), none, none, some (some none), some (some none), some (some none), some (some none), none, some (some none), some (some none), none, none, none, none, none, none, none, none, some (some none), some (some none), some (some none), some (some none), some (some none), some (some none)])) by decide +kernel) (by decide) (by decide +kernel) cl_X12 (by decide) cf_X12_68 rfl rfl (.array .int) (by decide +kernel) (fun _ => ⟨rfl, rfl⟩) e_X12_init_166 zh_185 rfl ?_
  refine c_aload e_X12_init_169 0 rfl ?_
  refine c_ic e_X12_init_170 ?_
  refine c_newaI (N := 32) (n := 90) aw_I (by decide) rfl (by decide) (by decide +kernel) (by decide) rfl rfl (by decide) (by decide) e_X12_init_172 zh_186 rfl 21 1525 rfl rfl ?_
  refine c_putr (k := 43) hC (show zh_186[69]? = some (.inl (12, [none, none, none, none, none, none, none, some (some (some 70)), some (some (some 71)), some (some (some 72)), some (some (some 73)), some (some (some 74)), some (some (some 75)), some (some (some 76)), none, none, none, none, none, none, none, none, none, none, some (some (some 77)), some (some (some 78)), some (some (some 79)), some (some (some 80)), some (some (some 81)), some (some (some 82)), some (some (some 83)), some (some (some 84)), some (some (some 85)), some (some (some 86)), some (some (some 87)), some (some (some 88)), some (some (some 89)), none, none, none, none, none, none, some (some none), some (some none), some (some none), some (some none), some (some none), some (some none), none, some (some none), some (some none), some (some none), none, none, some (some none), some (some none), some (some none), some (some none), none, some (some none), some (some none), none, none, none, none, none, none, none, none, some (some none), some (some none), some (some none), some (some none), some (some none), some (some none)])) by decide +kernel) (by decide) (by decide +kernel) cl_X12 (by decide) cf_X12_71 rfl rfl (.array .int) (by decide +kernel) (fun _ => ⟨rfl, rfl⟩) e_X12_init_174 zh_187 rfl ?_
  refine c_aload e_X12_init_177 0 rfl ?_
  refine c_ic e_X12_init_178 ?_
  refine c_newaI (N := 32) (n := 91) aw_I (by decide) rfl (by decide) (by decide +kernel) (by decide) rfl rfl (by decide) (by decide) e_X12_init_180 zh_188 rfl 22 1557 rfl rfl ?_
  refine c_putr (k := 44) hC (show zh_188[69]? = some (.inl (12, [none, none, none, none, none, none, none, some (some (some 70)), some (some (some 71)), some (some (some 72)), some (some (some 73)), some (some (some 74)), some (some (some 75)), some (some (some 76)), none, none, none, none, none, none, none, none, none, none, some (some (some 77)), some (some (some 78)), some (some (some 79)), some (some (some 80)), some (some (some 81)), some (some (some 82)), some (some (some 83)), some (some (some 84)), some (some (some 85)), some (some (some 86)), some (some (some 87)), some (some (some 88)), some (some (some 89)), none, none, none, none, none, none, some (some (some 90)), some (some none), some (some none), some (some none), some (some none), some (some none), none, some (some none), some (some none), some (some none), none, none, some (some none), some (some none), some (some none), some (some none), none, some (some none), some (some none), none, none, none, none, none, none, none, none, some (some none), some (some none), some (some none), some (some none), some (some none), some (some none)])) by decide +kernel) (by decide) (by decide +kernel) cl_X12 (by decide) cf_X12_74 rfl rfl (.array .int) (by decide +kernel) (fun _ => ⟨rfl, rfl⟩) e_X12_init_182 zh_189 rfl ?_
  refine c_aload e_X12_init_185 0 rfl ?_
  refine c_ic e_X12_init_186 ?_
  refine c_newaI (N := 27648) (n := 92) aw_I (by decide) rfl (by decide) (by decide +kernel) (by decide) rfl rfl (by decide) (by decide) e_X12_init_189 zh_190 rfl 23 29205 rfl rfl ?_
  refine c_putr (k := 45) hC (show zh_190[69]? = some (.inl (12, [none, none, none, none, none, none, none, some (some (some 70)), some (some (some 71)), some (some (some 72)), some (some (some 73)), some (some (some 74)), some (some (some 75)), some (some (some 76)), none, none, none, none, none, none, none, none, none, none, some (some (some 77)), some (some (some 78)), some (some (some 79)), some (some (some 80)), some (some (some 81)), some (some (some 82)), some (some (some 83)), some (some (some 84)), some (some (some 85)), some (some (some 86)), some (some (some 87)), some (some (some 88)), some (some (some 89)), none, none, none, none, none, none, some (some (some 90)), some (some (some 91)), some (some none), some (some none), some (some none), some (some none), none, some (some none), some (some none), some (some none), none, none, some (some none), some (some none), some (some none), some (some none), none, some (some none), some (some none), none, none, none, none, none, none, none, none, some (some none), some (some none), some (some none), some (some none), some (some none), some (some none)])) by decide +kernel) (by decide) (by decide +kernel) cl_X12 (by decide) cf_X12_77 rfl rfl (.array .int) (by decide +kernel) (fun _ => ⟨rfl, rfl⟩) e_X12_init_191 zh_191 rfl ?_
  refine c_aload e_X12_init_194 0 rfl ?_
  refine c_ic e_X12_init_195 ?_
  refine c_newaI (N := 8) (n := 93) aw_I (by decide) rfl (by decide) (by decide +kernel) (by decide) rfl rfl (by decide) (by decide) e_X12_init_197 zh_192 rfl 24 29213 rfl rfl ?_
  refine c_putr (k := 46) hC (show zh_192[69]? = some (.inl (12, [none, none, none, none, none, none, none, some (some (some 70)), some (some (some 71)), some (some (some 72)), some (some (some 73)), some (some (some 74)), some (some (some 75)), some (some (some 76)), none, none, none, none, none, none, none, none, none, none, some (some (some 77)), some (some (some 78)), some (some (some 79)), some (some (some 80)), some (some (some 81)), some (some (some 82)), some (some (some 83)), some (some (some 84)), some (some (some 85)), some (some (some 86)), some (some (some 87)), some (some (some 88)), some (some (some 89)), none, none, none, none, none, none, some (some (some 90)), some (some (some 91)), some (some (some 92)), some (some none), some (some none), some (some none), none, some (some none), some (some none), some (some none), none, none, some (some none), some (some none), some (some none), some (some none), none, some (some none), some (some none), none, none, none, none, none, none, none, none, some (some none), some (some none), some (some none), some (some none), some (some none), some (some none)])) by decide +kernel) (by decide) (by decide +kernel) cl_X12 (by decide) cf_X12_80 rfl rfl (.array .int) (by decide +kernel) (fun _ => ⟨rfl, rfl⟩) e_X12_init_199 zh_193 rfl ?_
  refine c_aload e_X12_init_202 0 rfl ?_
  refine c_ic e_X12_init_203 ?_
  refine c_newaI (N := 3) (n := 94) aw_I (by decide) rfl (by decide) (by decide +kernel) (by decide) rfl rfl (by decide) (by decide) e_X12_init_204 zh_194 rfl 25 29216 rfl rfl ?_
  refine c_putr (k := 47) hC (show zh_194[69]? = some (.inl (12, [none, none, none, none, none, none, none, some (some (some 70)), some (some (some 71)), some (some (some 72)), some (some (some 73)), some (some (some 74)), some (some (some 75)), some (some (some 76)), none, none, none, none, none, none, none, none, none, none, some (some (some 77)), some (some (some 78)), some (some (some 79)), some (some (some 80)), some (some (some 81)), some (some (some 82)), some (some (some 83)), some (some (some 84)), some (some (some 85)), some (some (some 86)), some (some (some 87)), some (some (some 88)), some (some (some 89)), none, none, none, none, none, none, some (some (some 90)), some (some (some 91)), some (some (some 92)), some (some (some 93)), some (some none), some (some none), none, some (some none), some (some none), some (some none), none, none, some (some none), some (some none), some (some none), some (some none), none, some (some none), some (some none), none, none, none, none, none, none, none, none, some (some none), some (some none), some (some none), some (some none), some (some none), some (some none)])) by decide +kernel) (by decide) (by decide +kernel) cl_X12 (by decide) cf_X12_83 rfl rfl (.array .int) (by decide +kernel) (fun _ => ⟨rfl, rfl⟩) e_X12_init_206 zh_195 rfl ?_
  refine c_aload e_X12_init_209 0 rfl ?_
  refine c_ic e_X12_init_210 ?_
  refine c_newaI (N := 8) (n := 95) aw_I (by decide) rfl (by decide) (by decide +kernel) (by decide) rfl rfl (by decide) (by decide) e_X12_init_212 zh_196 rfl 26 29224 rfl rfl ?_
  refine c_putr (k := 48) hC (show zh_196[69]? = some (.inl (12, [none, none, none, none, none, none, none, some (some (some 70)), some (some (some 71)), some (some (some 72)), some (some (some 73)), some (some (some 74)), some (some (some 75)), some (some (some 76)), none, none, none, none, none, none, none, none, none, none, some (some (some 77)), some (some (some 78)), some (some (some 79)), some (some (some 80)), some (some (some 81)), some (some (some 82)), some (some (some 83)), some (some (some 84)), some (some (some 85)), some (some (some 86)), some (some (some 87)), some (some (some 88)), some (some (some 89)), none, none, none, none, none, none, some (some (some 90)), some (some (some 91)), some (some (some 92)), some (some (some 93)), some (some (some 94)), some (some none), none, some (some none), some (some none), some (some none), none, none, some (some none), some (some none), some (some none), some (some none), none, some (some none), some (some none), none, none, none, none, none, none, none, none, some (some none), some (some none), some (some none), some (some none), some (some none), some (some none)])) by decide +kernel) (by decide) (by decide +kernel) cl_X12 (by decide) cf_X12_86 rfl rfl (.array .int) (by decide +kernel) (fun _ => ⟨rfl, rfl⟩) e_X12_init_214 zh_197 rfl ?_
  refine c_aload e_X12_init_217 0 rfl ?_
  refine c_ic e_X12_init_218 ?_
  refine c_newaI (N := 4) (n := 96) aw_I (by decide) rfl (by decide) (by decide +kernel) (by decide) rfl rfl (by decide) (by decide) e_X12_init_219 zh_198 rfl 27 29228 rfl rfl ?_
  refine c_putr (k := 50) hC (show zh_198[69]? = some (.inl (12, [none, none, none, none, none, none, none, some (some (some 70)), some (some (some 71)), some (some (some 72)), some (some (some 73)), some (some (some 74)), some (some (some 75)), some (some (some 76)), none, none, none, none, none, none, none, none, none, none, some (some (some 77)), some (some (some 78)), some (some (some 79)), some (some (some 80)), some (some (some 81)), some (some (some 82)), some (some (some 83)), some (some (some 84)), some (some (some 85)), some (some (some 86)), some (some (some 87)), some (some (some 88)), some (some (some 89)), none, none, none, none, none, none, some (some (some 90)), some (some (some 91)), some (some (some 92)), some (some (some 93)), some (some (some 94)), some (some (some 95)), none, some (some none), some (some none), some (some none), none, none, some (some none), some (some none), some (some none), some (some none), none, some (some none), some (some none), none, none, none, none, none, none, none, none, some (some none), some (some none), some (some none), some (some none), some (some none), some (some none)])) by decide +kernel) (by decide) (by decide +kernel) cl_X12 (by decide) cf_X12_89 rfl rfl (.array .int) (by decide +kernel) (fun _ => ⟨rfl, rfl⟩) e_X12_init_221 zh_199 rfl ?_
  refine c_aload e_X12_init_224 0 rfl ?_
  refine c_ic e_X12_init_225 ?_
  refine c_newaI (N := 4) (n := 97) aw_I (by decide) rfl (by decide) (by decide +kernel) (by decide) rfl rfl (by decide) (by decide) e_X12_init_226 zh_200 rfl 28 29232 rfl rfl ?_
  refine c_putr (k := 51) hC (show zh_200[69]? = some (.inl (12, [none, none, none, none, none, none, none, some (some (some 70)), some (some (some 71)), some (some (some 72)), some (some (some 73)), some (some (some 74)), some (some (some 75)), some (some (some 76)), none, none, none, none, none, none, none, none, none, none, some (some (some 77)), some (some (some 78)), some (some (some 79)), some (some (some 80)), some (some (some 81)), some (some (some 82)), some (some (some 83)), some (some (some 84)), some (some (some 85)), some (some (some 86)), some (some (some 87)), some (some (some 88)), some (some (some 89)), none, none, none, none, none, none, some (some (some 90)), some (some (some 91)), some (some (some 92)), some (some (some 93)), some (some (some 94)), some (some (some 95)), none, some (some (some 96)), some (some none), some (some none), none, none, some (some none), some (some none), some (some none), some (some none), none, some (some none), some (some none), none, none, none, none, none, none, none, none, some (some none), some (some none), some (some none), some (some none), some (some none), some (some none)])) by decide +kernel) (by decide) (by decide +kernel) cl_X12 (by decide) cf_X12_92 rfl rfl (.array .int) (by decide +kernel) (fun _ => ⟨rfl, rfl⟩) e_X12_init_228 zh_201 rfl ?_
  refine c_aload e_X12_init_231 0 rfl ?_
  refine c_ic e_X12_init_232 ?_
  refine c_newaI (N := 4) (n := 98) aw_I (by decide) rfl (by decide) (by decide +kernel) (by decide) rfl rfl (by decide) (by decide) e_X12_init_233 zh_202 rfl 29 29236 rfl rfl ?_
  refine c_putr (k := 52) hC (show zh_202[69]? = some (.inl (12, [none, none, none, none, none, none, none, some (some (some 70)), some (some (some 71)), some (some (some 72)), some (some (some 73)), some (some (some 74)), some (some (some 75)), some (some (some 76)), none, none, none, none, none, none, none, none, none, none, some (some (some 77)), some (some (some 78)), some (some (some 79)), some (some (some 80)), some (some (some 81)), some (some (some 82)), some (some (some 83)), some (some (some 84)), some (some (some 85)), some (some (some 86)), some (some (some 87)), some (some (some 88)), some (some (some 89)), none, none, none, none, none, none, some (some (some 90)), some (some (some 91)), some (some (some 92)), some (some (some 93)), some (some (some 94)), some (some (some 95)), none, some (some (some 96)), some (some (some 97)), some (some none), none, none, some (some none), some (some none), some (some none), some (some none), none, some (some none), some (some none), none, none, none, none, none, none, none, none, some (some none), some (some none), some (some none), some (some none), some (some none), some (some none)])) by decide +kernel) (by decide) (by decide +kernel) cl_X12 (by decide) cf_X12_95 rfl rfl (.array .int) (by decide +kernel) (fun _ => ⟨rfl, rfl⟩) e_X12_init_235 zh_203 rfl ?_
  refine c_aload e_X12_init_238 0 rfl ?_
  refine c_ic e_X12_init_239 ?_
  refine c_newaI (N := 12) (n := 99) aw_I (by decide) rfl (by decide) (by decide +kernel) (by decide) rfl rfl (by decide) (by decide) e_X12_init_241 zh_204 rfl 30 29248 rfl rfl ?_
  refine c_putr (k := 55) hC (show zh_204[69]? = some (.inl (12, [none, none, none, none, none, none, none, some (some (some 70)), some (some (some 71)), some (some (some 72)), some (some (some 73)), some (some (some 74)), some (some (some 75)), some (some (some 76)), none, none, none, none, none, none, none, none, none, none, some (some (some 77)), some (some (some 78)), some (some (some 79)), some (some (some 80)), some (some (some 81)), some (some (some 82)), some (some (some 83)), some (some (some 84)), some (some (some 85)), some (some (some 86)), some (some (some 87)), some (some (some 88)), some (some (some 89)), none, none, none, none, none, none, some (some (some 90)), some (some (some 91)), some (some (some 92)), some (some (some 93)), some (some (some 94)), some (some (some 95)), none, some (some (some 96)), some (some (some 97)), some (some (some 98)), none, none, some (some none), some (some none), some (some none), some (some none), none, some (some none), some (some none), none, none, none, none, none, none, none, none, some (some none), some (some none), some (some none), some (some none), some (some none), some (some none)])) by decide +kernel) (by decide) (by decide +kernel) cl_X12 (by decide) cf_X12_98 rfl rfl (.array .int) (by decide +kernel) (fun _ => ⟨rfl, rfl⟩) e_X12_init_243 zh_205 rfl ?_
  refine c_aload e_X12_init_246 0 rfl ?_
  refine c_ic e_X12_init_247 ?_
  refine c_newaI (N := 12) (n := 100) aw_I (by decide) rfl (by decide) (by decide +kernel) (by decide) rfl rfl (by decide) (by decide) e_X12_init_249 zh_206 rfl 31 29260 rfl rfl ?_
  refine c_putr (k := 56) hC (show zh_206[69]? = some (.inl (12, [none, none, none, none, none, none, none, some (some (some 70)), some (some (some 71)), some (some (some 72)), some (some (some 73)), some (some (some 74)), some (some (some 75)), some (some (some 76)), none, none, none, none, none, none, none, none, none, none, some (some (some 77)), some (some (some 78)), some (some (some 79)), some (some (some 80)), some (some (some 81)), some (some (some 82)), some (some (some 83)), some (some (some 84)), some (some (some 85)), some (some (some 86)), some (some (some 87)), some (some (some 88)), some (some (some 89)), none, none, none, none, none, none, some (some (some 90)), some (some (some 91)), some (some (some 92)), some (some (some 93)), some (some (some 94)), some (some (some 95)), none, some (some (some 96)), some (some (some 97)), some (some (some 98)), none, none, some (some (some 99)), some (some none), some (some none), some (some none), none, some (some none), some (some none), none, none, none, none, none, none, none, none, some (some none), some (some none), some (some none), some (some none), some (some none), some (some none)])) by decide +kernel) (by decide) (by decide +kernel) cl_X12 (by decide) cf_X12_101 rfl rfl (.array .int) (by decide +kernel) (fun _ => ⟨rfl, rfl⟩) e_X12_init_251 zh_207 rfl ?_
  refine c_aload e_X12_init_254 0 rfl ?_
  refine c_ic e_X12_init_255 ?_
  refine c_newaJ (N := 8) (n := 101) aw_J (by decide) rfl (by decide) (by decide +kernel) (by decide) rfl rfl (by decide) (by decide) e_X12_init_257 zh_208 rfl 32 29268 rfl rfl ?_
  refine c_putr (k := 57) hC (show zh_208[69]? = some (.inl (12, [none, none, none, none, none, none, none, some (some (some 70)), some (some (some 71)), some (some (some 72)), some (some (some 73)), some (some (some 74)), some (some (some 75)), some (some (some 76)), none, none, none, none, none, none, none, none, none, none, some (some (some 77)), some (some (some 78)), some (some (some 79)), some (some (some 80)), some (some (some 81)), some (some (some 82)), some (some (some 83)), some (some (some 84)), some (some (some 85)), some (some (some 86)), some (some (some 87)), some (some (some 88)), some (some (some 89)), none, none, none, none, none, none, some (some (some 90)), some (some (some 91)), some (some (some 92)), some (some (some 93)), some (some (some 94)), some (some (some 95)), none, some (some (some 96)), some (some (some 97)), some (some (some 98)), none, none, some (some (some 99)), some (some (some 100)), some (some none), some (some none), none, some (some none), some (some none), none, none, none, none, none, none, none, none, some (some none), some (some none), some (some none), some (some none), some (some none), some (some none)])) by decide +kernel) (by decide) (by decide +kernel) cl_X12 (by decide) cf_X12_104 rfl rfl (.array .long) (by decide +kernel) (fun _ => ⟨rfl, rfl⟩) e_X12_init_259 zh_209 rfl ?_
  refine c_aload e_X12_init_262 0 rfl ?_
  refine c_ic e_X12_init_263 ?_
  refine c_newaJ (N := 64) (n := 102) aw_J (by decide) rfl (by decide) (by decide +kernel) (by decide) rfl rfl (by decide) (by decide) e_X12_init_265 zh_210 rfl 33 29332 rfl rfl ?_
  refine c_putr (k := 58) hC (show zh_210[69]? = some (.inl (12, [none, none, none, none, none, none, none, some (some (some 70)), some (some (some 71)), some (some (some 72)), some (some (some 73)), some (some (some 74)), some (some (some 75)), some (some (some 76)), none, none, none, none, none, none, none, none, none, none, some (some (some 77)), some (some (some 78)), some (some (some 79)), some (some (some 80)), some (some (some 81)), some (some (some 82)), some (some (some 83)), some (some (some 84)), some (some (some 85)), some (some (some 86)), some (some (some 87)), some (some (some 88)), some (some (some 89)), none, none, none, none, none, none, some (some (some 90)), some (some (some 91)), some (some (some 92)), some (some (some 93)), some (some (some 94)), some (some (some 95)), none, some (some (some 96)), some (some (some 97)), some (some (some 98)), none, none, some (some (some 99)), some (some (some 100)), some (some (some 101)), some (some none), none, some (some none), some (some none), none, none, none, none, none, none, none, none, some (some none), some (some none), some (some none), some (some none), some (some none), some (some none)])) by decide +kernel) (by decide) (by decide +kernel) cl_X12 (by decide) cf_X12_108 rfl rfl (.array .long) (by decide +kernel) (fun _ => ⟨rfl, rfl⟩) e_X12_init_267 zh_211 rfl ?_
  refine c_aload e_X12_init_270 0 rfl ?_
  refine c_ic e_X12_init_271 ?_
  refine c_newaI (N := 6) (n := 103) aw_I (by decide) rfl (by decide) (by decide +kernel) (by decide) rfl rfl (by decide) (by decide) e_X12_init_273 zh_212 rfl 34 29338 rfl rfl ?_
  refine c_putr (k := 60) hC (show zh_212[69]? = some (.inl (12, [none, none, none, none, none, none, none, some (some (some 70)), some (some (some 71)), some (some (some 72)), some (some (some 73)), some (some (some 74)), some (some (some 75)), some (some (some 76)), none, none, none, none, none, none, none, none, none, none, some (some (some 77)), some (some (some 78)), some (some (some 79)), some (some (some 80)), some (some (some 81)), some (some (some 82)), some (some (some 83)), some (some (some 84)), some (some (some 85)), some (some (some 86)), some (some (some 87)), some (some (some 88)), some (some (some 89)), none, none, none, none, none, none, some (some (some 90)), some (some (some 91)), some (some (some 92)), some (some (some 93)), some (some (some 94)), some (some (some 95)), none, some (some (some 96)), some (some (some 97)), some (some (some 98)), none, none, some (some (some 99)), some (some (some 100)), some (some (some 101)), some (some (some 102)), none, some (some none), some (some none), none, none, none, none, none, none, none, none, some (some none), some (some none), some (some none), some (some none), some (some none), some (some none)])) by decide +kernel) (by decide) (by decide +kernel) cl_X12 (by decide) cf_X12_111 rfl rfl (.array .int) (by decide +kernel) (fun _ => ⟨rfl, rfl⟩) e_X12_init_275 zh_213 rfl ?_
  refine c_aload e_X12_init_278 0 rfl ?_
  refine c_ic e_X12_init_279 ?_
  refine c_newaI (N := 12) (n := 104) aw_I (by decide) rfl (by decide) (by decide +kernel) (by decide) rfl rfl (by decide) (by decide) e_X12_init_281 zh_214 rfl 35 29350 rfl rfl ?_
  refine c_putr (k := 61) hC (show zh_214[69]? = some (.inl (12, [none, none, none, none, none, none, none, some (some (some 70)), some (some (some 71)), some (some (some 72)), some (some (some 73)), some (some (some 74)), some (some (some 75)), some (some (some 76)), none, none, none, none, none, none, none, none, none, none, some (some (some 77)), some (some (some 78)), some (some (some 79)), some (some (some 80)), some (some (some 81)), some (some (some 82)), some (some (some 83)), some (some (some 84)), some (some (some 85)), some (some (some 86)), some (some (some 87)), some (some (some 88)), some (some (some 89)), none, none, none, none, none, none, some (some (some 90)), some (some (some 91)), some (some (some 92)), some (some (some 93)), some (some (some 94)), some (some (some 95)), none, some (some (some 96)), some (some (some 97)), some (some (some 98)), none, none, some (some (some 99)), some (some (some 100)), some (some (some 101)), some (some (some 102)), none, some (some (some 103)), some (some none), none, none, none, none, none, none, none, none, some (some none), some (some none), some (some none), some (some none), some (some none), some (some none)])) by decide +kernel) (by decide) (by decide +kernel) cl_X12 (by decide) cf_X12_114 rfl rfl (.array .int) (by decide +kernel) (fun _ => ⟨rfl, rfl⟩) e_X12_init_283 zh_215 rfl ?_
  refine c_aload e_X12_init_286 0 rfl ?_
  refine c_ic e_X12_init_287 ?_
  refine c_newaI (N := 16) (n := 105) aw_I (by decide) rfl (by decide) (by decide +kernel) (by decide) rfl rfl (by decide) (by decide) e_X12_init_289 zh_216 rfl 36 29366 rfl rfl ?_
  refine c_putr (k := 70) hC (show zh_216[69]? = some (.inl (12, [none, none, none, none, none, none, none, some (some (some 70)), some (some (some 71)), some (some (some 72)), some (some (some 73)), some (some (some 74)), some (some (some 75)), some (some (some 76)), none, none, none, none, none, none, none, none, none, none, some (some (some 77)), some (some (some 78)), some (some (some 79)), some (some (some 80)), some (some (some 81)), some (some (some 82)), some (some (some 83)), some (some (some 84)), some (some (some 85)), some (some (some 86)), some (some (some 87)), some (some (some 88)), some (some (some 89)), none, none, none, none, none, none, some (some (some 90)), some (some (some 91)), some (some (some 92)), some (some (some 93)), some (some (some 94)), some (some (some 95)), none, some (some (some 96)), some (some (some 97)), some (some (some 98)), none, none, some (some (some 99)), some (some (some 100)), some (some (some 101)), some (some (some 102)), none, some (some (some 103)), some (some (some 104)), none, none, none, none, none, none, none, none, some (some none), some (some none), some (some none), some (some none), some (some none), some (some none)])) by decide +kernel) (by decide) (by decide +kernel) cl_X12 (by decide) cf_X12_117 rfl rfl (.array .int) (by decide +kernel) (fun _ => ⟨rfl, rfl⟩) e_X12_init_291 zh_217 rfl ?_
  refine c_aload e_X12_init_294 0 rfl ?_
  refine c_ic e_X12_init_295 ?_
  refine c_newaI (N := 8) (n := 106) aw_I (by decide) rfl (by decide) (by decide +kernel) (by decide) rfl rfl (by decide) (by decide) e_X12_init_297 zh_218 rfl 37 29374 rfl rfl ?_
  refine c_putr (k := 71) hC (show zh_218[69]? = some (.inl (12, [none, none, none, none, none, none, none, some (some (some 70)), some (some (some 71)), some (some (some 72)), some (some (some 73)), some (some (some 74)), some (some (some 75)), some (some (some 76)), none, none, none, none, none, none, none, none, none, none, some (some (some 77)), some (some (some 78)), some (some (some 79)), some (some (some 80)), some (some (some 81)), some (some (some 82)), some (some (some 83)), some (some (some 84)), some (some (some 85)), some (some (some 86)), some (some (some 87)), some (some (some 88)), some (some (some 89)), none, none, none, none, none, none, some (some (some 90)), some (some (some 91)), some (some (some 92)), some (some (some 93)), some (some (some 94)), some (some (some 95)), none, some (some (some 96)), some (some (some 97)), some (some (some 98)), none, none, some (some (some 99)), some (some (some 100)), some (some (some 101)), some (some (some 102)), none, some (some (some 103)), some (some (some 104)), none, none, none, none, none, none, none, none, some (some (some 105)), some (some none), some (some none), some (some none), some (some none), some (some none)])) by decide +kernel) (by decide) (by decide +kernel) cl_X12 (by decide) cf_X12_120 rfl rfl (.array .int) (by decide +kernel) (fun _ => ⟨rfl, rfl⟩) e_X12_init_299 zh_219 rfl ?_
  refine c_aload e_X12_init_302 0 rfl ?_
  refine c_ic e_X12_init_303 ?_
  refine c_newaI (N := 8) (n := 107) aw_I (by decide) rfl (by decide) (by decide +kernel) (by decide) rfl rfl (by decide) (by decide) e_X12_init_305 zh_220 rfl 38 29382 rfl rfl ?_
  refine c_putr (k := 72) hC (show zh_220[69]? = some (.inl (12, [none, none, none, none, none, none, none, some (some (some 70)), some (some (some 71)), some (some (some 72)), some (some (some 73)), some (some (some 74)), some (some (some 75)), some (some (some 76)), none, none, none, none, none, none, none, none, none, none, some (some (some 77)), some (some (some 78)), some (some (some 79)), some (some (some 80)), some (some (some 81)), some (some (some 82)), some (some (some 83)), some (some (some 84)), some (some (some 85)), some (some (some 86)), some (some (some 87)), some (some (some 88)), some (some (some 89)), none, none, none, none, none, none, some (some (some 90)), some (some (some 91)), some (some (some 92)), some (some (some 93)), some (some (some 94)), some (some (some 95)), none, some (some (some 96)), some (some (some 97)), some (some (some 98)), none, none, some (some (some 99)), some (some (some 100)), some (some (some 101)), some (some (some 102)), none, some (some (some 103)), some (some (some 104)), none, none, none, none, none, none, none, none, some (some (some 105)), some (some (some 106)), some (some none), some (some none), some (some none), some (some none)])) by decide +kernel) (by decide) (by decide +kernel) cl_X12 (by decide) cf_X12_123 rfl rfl (.array .int) (by decide +kernel) (fun _ => ⟨rfl, rfl⟩) e_X12_init_307 zh_221 rfl ?_
  refine c_aload e_X12_init_310 0 rfl ?_
  refine c_ic e_X12_init_311 ?_
  refine c_newaI (N := 8) (n := 108) aw_I (by decide) rfl (by decide) (by decide +kernel) (by decide) rfl rfl (by decide) (by decide) e_X12_init_313 zh_222 rfl 39 29390 rfl rfl ?_
  refine c_putr (k := 73) hC (show zh_222[69]? = some (.inl (12, [none, none, none, none, none, none, none, some (some (some 70)), some (some (some 71)), some (some (some 72)), some (some (some 73)), some (some (some 74)), some (some (some 75)), some (some (some 76)), none, none, none, none, none, none, none, none, none, none, some (some (some 77)), some (some (some 78)), some (some (some 79)), some (some (some 80)), some (some (some 81)), some (some (some 82)), some (some (some 83)), some (some (some 84)), some (some (some 85)), some (some (some 86)), some (some (some 87)), some (some (some 88)), some (some (some 89)), none, none, none, none, none, none, some (some (some 90)), some (some (some 91)), some (some (some 92)), some (some (some 93)), some (some (some 94)), some (some (some 95)), none, some (some (some 96)), some (some (some 97)), some (some (some 98)), none, none, some (some (some 99)), some (some (some 100)), some (some (some 101)), some (some (some 102)), none, some (some (some 103)), some (some (some 104)), none, none, none, none, none, none, none, none, some (some (some 105)), some (some (some 106)), some (some (some 107)), some (some none), some (some none), some (some none)])) by decide +kernel) (by decide) (by decide +kernel) cl_X12 (by decide) cf_X12_126 rfl rfl (.array .int) (by decide +kernel) (fun _ => ⟨rfl, rfl⟩) e_X12_init_315 zh_223 rfl ?_
  refine c_aload e_X12_init_318 0 rfl ?_
  refine c_ic e_X12_init_319 ?_
  refine c_newaI (N := 8) (n := 109) aw_I (by decide) rfl (by decide) (by decide +kernel) (by decide) rfl rfl (by decide) (by decide) e_X12_init_321 zh_224 rfl 40 29398 rfl rfl ?_
  refine c_putr (k := 74) hC (show zh_224[69]? = some (.inl (12, [none, none, none, none, none, none, none, some (some (some 70)), some (some (some 71)), some (some (some 72)), some (some (some 73)), some (some (some 74)), some (some (some 75)), some (some (some 76)), none, none, none, none, none, none, none, none, none, none, some (some (some 77)), some (some (some 78)), some (some (some 79)), some (some (some 80)), some (some (some 81)), some (some (some 82)), some (some (some 83)), some (some (some 84)), some (some (some 85)), some (some (some 86)), some (some (some 87)), some (some (some 88)), some (some (some 89)), none, none, none, none, none, none, some (some (some 90)), some (some (some 91)), some (some (some 92)), some (some (some 93)), some (some (some 94)), some (some (some 95)), none, some (some (some 96)), some (some (some 97)), some (some (some 98)), none, none, some (some (some 99)), some (some (some 100)), some (some (some 101)), some (some (some 102)), none, some (some (some 103)), some (some (some 104)), none, none, none, none, none, none, none, none, some (some (some 105)), some (some (some 106)), some (some (some 107)), some (some (some 108)), some (some none), some (some none)])) by decide +kernel) (by decide) (by decide +kernel) cl_X12 (by decide) cf_X12_129 rfl rfl (.array .int) (by decide +kernel) (fun _ => ⟨rfl, rfl⟩) e_X12_init_323 zh_225 rfl ?_
  refine c_aload e_X12_init_326 0 rfl ?_
  refine c_ic e_X12_init_327 ?_
  refine c_newaI (N := 8) (n := 110) aw_I (by decide) rfl (by decide) (by decide +kernel) (by decide) rfl rfl (by decide) (by decide) e_X12_init_329 zh_226 rfl 41 29406 rfl rfl ?_
  refine c_putr (k := 75) hC (show zh_226[69]? = some (.inl (12, [none, none, none, none, none, none, none, some (some (some 70)), some (some (some 71)), some (some (some 72)), some (some (some 73)), some (some (some 74)), some (some (some 75)), some (some (some 76)), none, none, none, none, none, none, none, none, none, none, some (some (some 77)), some (some (some 78)), some (some (some 79)), some (some (some 80)), some (some (some 81)), some (some (some 82)), some (some (some 83)), some (some (some 84)), some (some (some 85)), some (some (some 86)), some (some (some 87)), some (some (some 88)), some (some (some 89)), none, none, none, none, none, none, some (some (some 90)), some (some (some 91)), some (some (some 92)), some (some (some 93)), some (some (some 94)), some (some (some 95)), none, some (some (some 96)), some (some (some 97)), some (some (some 98)), none, none, some (some (some 99)), some (some (some 100)), some (some (some 101)), some (some (some 102)), none, some (some (some 103)), some (some (some 104)), none, none, none, none, none, none, none, none, some (some (some 105)), some (some (some 106)), some (some (some 107)), some (some (some 108)), some (some (some 109)), some (some none)])) by decide +kernel) (by decide) (by decide +kernel) cl_X12 (by decide) cf_X12_132 rfl rfl (.array .int) (by decide +kernel) (fun _ => ⟨rfl, rfl⟩) e_X12_init_331 zh_227 rfl ?_
  refine c_aload e_X12_init_334 0 rfl ?_
  refine c_ic e_X12_init_335 ?_
  refine c_puti (k := 3) (show zh_227[69]? = some (.inl (12, [none, none, none, none, none, none, none, some (some (some 70)), some (some (some 71)), some (some (some 72)), some (some (some 73)), some (some (some 74)), some (some (some 75)), some (some (some 76)), none, none, none, none, none, none, none, none, none, none, some (some (some 77)), some (some (some 78)), some (some (some 79)), some (some (some 80)), some (some (some 81)), some (some (some 82)), some (some (some 83)), some (some (some 84)), some (some (some 85)), some (some (some 86)), some (some (some 87)), some (some (some 88)), some (some (some 89)), none, none, none, none, none, none, some (some (some 90)), some (some (some 91)), some (some (some 92)), some (some (some 93)), some (some (some 94)), some (some (some 95)), none, some (some (some 96)), some (some (some 97)), some (some (some 98)), none, none, some (some (some 99)), some (some (some 100)), some (some (some 101)), some (some (some 102)), none, some (some (some 103)), some (some (some 104)), none, none, none, none, none, none, none, none, some (some (some 105)), some (some (some 106)), some (some (some 107)), some (some (some 108)), some (some (some 109)), some (some (some 110))])) by decide +kernel) rfl (by decide +kernel) cl_X12 (by decide) cf_X12_135 rfl (.int) (by decide +kernel) ⟨by decide, by decide⟩ e_X12_init_336 zs_84 rfl ?_
  refine c_aload e_X12_init_339 0 rfl ?_
  refine c_ic e_X12_init_340 ?_
  refine c_puti (k := 5) (show zh_227[69]? = some (.inl (12, [none, none, none, none, none, none, none, some (some (some 70)), some (some (some 71)), some (some (some 72)), some (some (some 73)), some (some (some 74)), some (some (some 75)), some (some (some 76)), none, none, none, none, none, none, none, none, none, none, some (some (some 77)), some (some (some 78)), some (some (some 79)), some (some (some 80)), some (some (some 81)), some (some (some 82)), some (some (some 83)), some (some (some 84)), some (some (some 85)), some (some (some 86)), some (some (some 87)), some (some (some 88)), some (some (some 89)), none, none, none, none, none, none, some (some (some 90)), some (some (some 91)), some (some (some 92)), some (some (some 93)), some (some (some 94)), some (some (some 95)), none, some (some (some 96)), some (some (some 97)), some (some (some 98)), none, none, some (some (some 99)), some (some (some 100)), some (some (some 101)), some (some (some 102)), none, some (some (some 103)), some (some (some 104)), none, none, none, none, none, none, none, none, some (some (some 105)), some (some (some 106)), some (some (some 107)), some (some (some 108)), some (some (some 109)), some (some (some 110))])) by decide +kernel) rfl (by decide +kernel) cl_X12 (by decide) cf_X12_139 rfl (.int) (by decide +kernel) ⟨by decide, by decide⟩ e_X12_init_342 zs_85 rfl ?_
  refine c_aload e_X12_init_345 0 rfl ?_
  refine c_ic e_X12_init_346 ?_
  refine c_puti (k := 6) (show zh_227[69]? = some (.inl (12, [none, none, none, none, none, none, none, some (some (some 70)), some (some (some 71)), some (some (some 72)), some (some (some 73)), some (some (some 74)), some (some (some 75)), some (some (some 76)), none, none, none, none, none, none, none, none, none, none, some (some (some 77)), some (some (some 78)), some (some (some 79)), some (some (some 80)), some (some (some 81)), some (some (some 82)), some (some (some 83)), some (some (some 84)), some (some (some 85)), some (some (some 86)), some (some (some 87)), some (some (some 88)), some (some (some 89)), none, none, none, none, none, none, some (some (some 90)), some (some (some 91)), some (some (some 92)), some (some (some 93)), some (some (some 94)), some (some (some 95)), none, some (some (some 96)), some (some (some 97)), some (some (some 98)), none, none, some (some (some 99)), some (some (some 100)), some (some (some 101)), some (some (some 102)), none, some (some (some 103)), some (some (some 104)), none, none, none, none, none, none, none, none, some (some (some 105)), some (some (some 106)), some (some (some 107)), some (some (some 108)), some (some (some 109)), some (some (some 110))])) by decide +kernel) rfl (by decide +kernel) cl_X12 (by decide) cf_X12_142 rfl (.int) (by decide +kernel) ⟨by decide, by decide⟩ e_X12_init_348 zs_86 rfl ?_
  refine c_ic e_X12_init_351 ?_
  refine c_istore e_X12_init_352 (by decide) [(1, .int (0 : Int32)), (0, .ref (zad G 69))] rfl ?_
  refine c_iload e_X12_init_353 0 rfl ?_
  refine c_ic e_X12_init_354 ?_
  refine c_icmp_ge e_X12_init_356 (fun q => absurd q (by decide)) (fun _ => ?_)
  refine c_aload e_X12_init_359 1 rfl ?_
  refine c_getr (k := 9) (show zh_227[69]? = some (.inl (12, [none, none, none, none, none, none, none, some (some (some 70)), some (some (some 71)), some (some (some 72)), some (some (some 73)), some (some (some 74)), some (some (some 75)), some (some (some 76)), none, none, none, none, none, none, none, none, none, none, some (some (some 77)), some (some (some 78)), some (some (some 79)), some (some (some 80)), some (some (some 81)), some (some (some 82)), some (some (some 83)), some (some (some 84)), some (some (some 85)), some (some (some 86)), some (some (some 87)), some (some (some 88)), some (some (some 89)), none, none, none, none, none, none, some (some (some 90)), some (some (some 91)), some (some (some 92)), some (some (some 93)), some (some (some 94)), some (some (some 95)), none, some (some (some 96)), some (some (some 97)), some (some (some 98)), none, none, some (some (some 99)), some (some (some 100)), some (some (some 101)), some (some (some 102)), none, some (some (some 103)), some (some (some 104)), none, none, none, none, none, none, none, none, some (some (some 105)), some (some (some 106)), some (some (some 107)), some (some (some 108)), some (some (some 109)), some (some (some 110))])) by decide +kernel) rfl cl_X12 (by decide) cf_X12_16 e_X12_init_360 ?_
  refine c_iload e_X12_init_363 0 rfl ?_
  refine c_ic e_X12_init_364 ?_
  refine c_iast (n := 8) (j := 0) (by decide +kernel) (by decide +kernel) e_X12_init_366 (by unfold vp_in; decide) rfl zs_87 rfl ?_
  refine c_aload e_X12_init_367 1 rfl ?_
  refine c_getr (k := 10) (show zh_227[69]? = some (.inl (12, [none, none, none, none, none, none, none, some (some (some 70)), some (some (some 71)), some (some (some 72)), some (some (some 73)), some (some (some 74)), some (some (some 75)), some (some (some 76)), none, none, none, none, none, none, none, none, none, none, some (some (some 77)), some (some (some 78)), some (some (some 79)), some (some (some 80)), some (some (some 81)), some (some (some 82)), some (some (some 83)), some (some (some 84)), some (some (some 85)), some (some (some 86)), some (some (some 87)), some (some (some 88)), some (some (some 89)), none, none, none, none, none, none, some (some (some 90)), some (some (some 91)), some (some (some 92)), some (some (some 93)), some (some (some 94)), some (some (some 95)), none, some (some (some 96)), some (some (some 97)), some (some (some 98)), none, none, some (some (some 99)), some (some (some 100)), some (some (some 101)), some (some (some 102)), none, some (some (some 103)), some (some (some 104)), none, none, none, none, none, none, none, none, some (some (some 105)), some (some (some 106)), some (some (some 107)), some (some (some 108)), some (some (some 109)), some (some (some 110))])) by decide +kernel) rfl cl_X12 (by decide) cf_X12_19 e_X12_init_368 ?_
  refine c_iload e_X12_init_371 0 rfl ?_
  refine c_ic e_X12_init_372 ?_
  refine c_iast (n := 8) (j := 0) (by decide +kernel) (by decide +kernel) e_X12_init_374 (by unfold vp_in; decide) rfl zs_88 rfl ?_
  refine c_aload e_X12_init_375 1 rfl ?_
  refine c_getr (k := 11) (show zh_227[69]? = some (.inl (12, [none, none, none, none, none, none, none, some (some (some 70)), some (some (some 71)), some (some (some 72)), some (some (some 73)), some (some (some 74)), some (some (some 75)), some (some (some 76)), none, none, none, none, none, none, none, none, none, none, some (some (some 77)), some (some (some 78)), some (some (some 79)), some (some (some 80)), some (some (some 81)), some (some (some 82)), some (some (some 83)), some (some (some 84)), some (some (some 85)), some (some (some 86)), some (some (some 87)), some (some (some 88)), some (some (some 89)), none, none, none, none, none, none, some (some (some 90)), some (some (some 91)), some (some (some 92)), some (some (some 93)), some (some (some 94)), some (some (some 95)), none, some (some (some 96)), some (some (some 97)), some (some (some 98)), none, none, some (some (some 99)), some (some (some 100)), some (some (some 101)), some (some (some 102)), none, some (some (some 103)), some (some (some 104)), none, none, none, none, none, none, none, none, some (some (some 105)), some (some (some 106)), some (some (some 107)), some (some (some 108)), some (some (some 109)), some (some (some 110))])) by decide +kernel) rfl cl_X12 (by decide) cf_X12_22 e_X12_init_376 ?_
  refine c_iload e_X12_init_379 0 rfl ?_
  refine c_ic e_X12_init_380 ?_
  refine c_iast (n := 8) (j := 0) (by decide +kernel) (by decide +kernel) e_X12_init_382 (by unfold vp_in; decide) rfl zs_89 rfl ?_
  refine c_aload e_X12_init_383 1 rfl ?_
  refine c_getr (k := 12) (show zh_227[69]? = some (.inl (12, [none, none, none, none, none, none, none, some (some (some 70)), some (some (some 71)), some (some (some 72)), some (some (some 73)), some (some (some 74)), some (some (some 75)), some (some (some 76)), none, none, none, none, none, none, none, none, none, none, some (some (some 77)), some (some (some 78)), some (some (some 79)), some (some (some 80)), some (some (some 81)), some (some (some 82)), some (some (some 83)), some (some (some 84)), some (some (some 85)), some (some (some 86)), some (some (some 87)), some (some (some 88)), some (some (some 89)), none, none, none, none, none, none, some (some (some 90)), some (some (some 91)), some (some (some 92)), some (some (some 93)), some (some (some 94)), some (some (some 95)), none, some (some (some 96)), some (some (some 97)), some (some (some 98)), none, none, some (some (some 99)), some (some (some 100)), some (some (some 101)), some (some (some 102)), none, some (some (some 103)), some (some (some 104)), none, none, none, none, none, none, none, none, some (some (some 105)), some (some (some 106)), some (some (some 107)), some (some (some 108)), some (some (some 109)), some (some (some 110))])) by decide +kernel) rfl cl_X12 (by decide) cf_X12_25 e_X12_init_384 ?_
  refine c_iload e_X12_init_387 0 rfl ?_
  refine c_ic e_X12_init_388 ?_
  refine c_iast (n := 8) (j := 0) (by decide +kernel) (by decide +kernel) e_X12_init_390 (by unfold vp_in; decide) rfl zs_90 rfl ?_
  refine c_iinc e_X12_init_391 0 rfl 1 (by decide) (by decide) [(1, .int (1 : Int32)), (0, .ref (zad G 69))] rfl ?_
  refine c_goto e_X12_init_394 ?_
  refine c_iload e_X12_init_353 0 rfl ?_
  refine c_ic e_X12_init_354 ?_
  refine c_icmp_ge e_X12_init_356 (fun q => absurd q (by decide)) (fun _ => ?_)
  refine c_aload e_X12_init_359 1 rfl ?_
  refine c_getr (k := 9) (show zh_227[69]? = some (.inl (12, [none, none, none, none, none, none, none, some (some (some 70)), some (some (some 71)), some (some (some 72)), some (some (some 73)), some (some (some 74)), some (some (some 75)), some (some (some 76)), none, none, none, none, none, none, none, none, none, none, some (some (some 77)), some (some (some 78)), some (some (some 79)), some (some (some 80)), some (some (some 81)), some (some (some 82)), some (some (some 83)), some (some (some 84)), some (some (some 85)), some (some (some 86)), some (some (some 87)), some (some (some 88)), some (some (some 89)), none, none, none, none, none, none, some (some (some 90)), some (some (some 91)), some (some (some 92)), some (some (some 93)), some (some (some 94)), some (some (some 95)), none, some (some (some 96)), some (some (some 97)), some (some (some 98)), none, none, some (some (some 99)), some (some (some 100)), some (some (some 101)), some (some (some 102)), none, some (some (some 103)), some (some (some 104)), none, none, none, none, none, none, none, none, some (some (some 105)), some (some (some 106)), some (some (some 107)), some (some (some 108)), some (some (some 109)), some (some (some 110))])) by decide +kernel) rfl cl_X12 (by decide) cf_X12_16 e_X12_init_360 ?_
  refine c_iload e_X12_init_363 0 rfl ?_
  refine c_ic e_X12_init_364 ?_
  refine c_iast (n := 8) (j := 1) (by decide +kernel) (by decide +kernel) e_X12_init_366 (by unfold vp_in; decide) rfl zs_91 rfl ?_
  refine c_aload e_X12_init_367 1 rfl ?_
  refine c_getr (k := 10) (show zh_227[69]? = some (.inl (12, [none, none, none, none, none, none, none, some (some (some 70)), some (some (some 71)), some (some (some 72)), some (some (some 73)), some (some (some 74)), some (some (some 75)), some (some (some 76)), none, none, none, none, none, none, none, none, none, none, some (some (some 77)), some (some (some 78)), some (some (some 79)), some (some (some 80)), some (some (some 81)), some (some (some 82)), some (some (some 83)), some (some (some 84)), some (some (some 85)), some (some (some 86)), some (some (some 87)), some (some (some 88)), some (some (some 89)), none, none, none, none, none, none, some (some (some 90)), some (some (some 91)), some (some (some 92)), some (some (some 93)), some (some (some 94)), some (some (some 95)), none, some (some (some 96)), some (some (some 97)), some (some (some 98)), none, none, some (some (some 99)), some (some (some 100)), some (some (some 101)), some (some (some 102)), none, some (some (some 103)), some (some (some 104)), none, none, none, none, none, none, none, none, some (some (some 105)), some (some (some 106)), some (some (some 107)), some (some (some 108)), some (some (some 109)), some (some (some 110))])) by decide +kernel) rfl cl_X12 (by decide) cf_X12_19 e_X12_init_368 ?_
  refine c_iload e_X12_init_371 0 rfl ?_
  refine c_ic e_X12_init_372 ?_
  refine c_iast (n := 8) (j := 1) (by decide +kernel) (by decide +kernel) e_X12_init_374 (by unfold vp_in; decide) rfl zs_92 rfl ?_
  refine c_aload e_X12_init_375 1 rfl ?_
  refine c_getr (k := 11) (show zh_227[69]? = some (.inl (12, [none, none, none, none, none, none, none, some (some (some 70)), some (some (some 71)), some (some (some 72)), some (some (some 73)), some (some (some 74)), some (some (some 75)), some (some (some 76)), none, none, none, none, none, none, none, none, none, none, some (some (some 77)), some (some (some 78)), some (some (some 79)), some (some (some 80)), some (some (some 81)), some (some (some 82)), some (some (some 83)), some (some (some 84)), some (some (some 85)), some (some (some 86)), some (some (some 87)), some (some (some 88)), some (some (some 89)), none, none, none, none, none, none, some (some (some 90)), some (some (some 91)), some (some (some 92)), some (some (some 93)), some (some (some 94)), some (some (some 95)), none, some (some (some 96)), some (some (some 97)), some (some (some 98)), none, none, some (some (some 99)), some (some (some 100)), some (some (some 101)), some (some (some 102)), none, some (some (some 103)), some (some (some 104)), none, none, none, none, none, none, none, none, some (some (some 105)), some (some (some 106)), some (some (some 107)), some (some (some 108)), some (some (some 109)), some (some (some 110))])) by decide +kernel) rfl cl_X12 (by decide) cf_X12_22 e_X12_init_376 ?_
  refine c_iload e_X12_init_379 0 rfl ?_
  refine c_ic e_X12_init_380 ?_
  refine c_iast (n := 8) (j := 1) (by decide +kernel) (by decide +kernel) e_X12_init_382 (by unfold vp_in; decide) rfl zs_93 rfl ?_
  refine c_aload e_X12_init_383 1 rfl ?_
  refine c_getr (k := 12) (show zh_227[69]? = some (.inl (12, [none, none, none, none, none, none, none, some (some (some 70)), some (some (some 71)), some (some (some 72)), some (some (some 73)), some (some (some 74)), some (some (some 75)), some (some (some 76)), none, none, none, none, none, none, none, none, none, none, some (some (some 77)), some (some (some 78)), some (some (some 79)), some (some (some 80)), some (some (some 81)), some (some (some 82)), some (some (some 83)), some (some (some 84)), some (some (some 85)), some (some (some 86)), some (some (some 87)), some (some (some 88)), some (some (some 89)), none, none, none, none, none, none, some (some (some 90)), some (some (some 91)), some (some (some 92)), some (some (some 93)), some (some (some 94)), some (some (some 95)), none, some (some (some 96)), some (some (some 97)), some (some (some 98)), none, none, some (some (some 99)), some (some (some 100)), some (some (some 101)), some (some (some 102)), none, some (some (some 103)), some (some (some 104)), none, none, none, none, none, none, none, none, some (some (some 105)), some (some (some 106)), some (some (some 107)), some (some (some 108)), some (some (some 109)), some (some (some 110))])) by decide +kernel) rfl cl_X12 (by decide) cf_X12_25 e_X12_init_384 ?_
  refine c_iload e_X12_init_387 0 rfl ?_
  refine c_ic e_X12_init_388 ?_
  refine c_iast (n := 8) (j := 1) (by decide +kernel) (by decide +kernel) e_X12_init_390 (by unfold vp_in; decide) rfl zs_94 rfl ?_
  refine c_iinc e_X12_init_391 0 rfl 2 (by decide) (by decide) [(1, .int (2 : Int32)), (0, .ref (zad G 69))] rfl ?_
  refine c_goto e_X12_init_394 ?_
  refine c_iload e_X12_init_353 0 rfl ?_
  refine c_ic e_X12_init_354 ?_
  refine c_icmp_ge e_X12_init_356 (fun q => absurd q (by decide)) (fun _ => ?_)
  refine c_aload e_X12_init_359 1 rfl ?_
  refine c_getr (k := 9) (show zh_227[69]? = some (.inl (12, [none, none, none, none, none, none, none, some (some (some 70)), some (some (some 71)), some (some (some 72)), some (some (some 73)), some (some (some 74)), some (some (some 75)), some (some (some 76)), none, none, none, none, none, none, none, none, none, none, some (some (some 77)), some (some (some 78)), some (some (some 79)), some (some (some 80)), some (some (some 81)), some (some (some 82)), some (some (some 83)), some (some (some 84)), some (some (some 85)), some (some (some 86)), some (some (some 87)), some (some (some 88)), some (some (some 89)), none, none, none, none, none, none, some (some (some 90)), some (some (some 91)), some (some (some 92)), some (some (some 93)), some (some (some 94)), some (some (some 95)), none, some (some (some 96)), some (some (some 97)), some (some (some 98)), none, none, some (some (some 99)), some (some (some 100)), some (some (some 101)), some (some (some 102)), none, some (some (some 103)), some (some (some 104)), none, none, none, none, none, none, none, none, some (some (some 105)), some (some (some 106)), some (some (some 107)), some (some (some 108)), some (some (some 109)), some (some (some 110))])) by decide +kernel) rfl cl_X12 (by decide) cf_X12_16 e_X12_init_360 ?_
  refine c_iload e_X12_init_363 0 rfl ?_
  refine c_ic e_X12_init_364 ?_
  refine c_iast (n := 8) (j := 2) (by decide +kernel) (by decide +kernel) e_X12_init_366 (by unfold vp_in; decide) rfl zs_95 rfl ?_
  refine c_aload e_X12_init_367 1 rfl ?_
  refine c_getr (k := 10) (show zh_227[69]? = some (.inl (12, [none, none, none, none, none, none, none, some (some (some 70)), some (some (some 71)), some (some (some 72)), some (some (some 73)), some (some (some 74)), some (some (some 75)), some (some (some 76)), none, none, none, none, none, none, none, none, none, none, some (some (some 77)), some (some (some 78)), some (some (some 79)), some (some (some 80)), some (some (some 81)), some (some (some 82)), some (some (some 83)), some (some (some 84)), some (some (some 85)), some (some (some 86)), some (some (some 87)), some (some (some 88)), some (some (some 89)), none, none, none, none, none, none, some (some (some 90)), some (some (some 91)), some (some (some 92)), some (some (some 93)), some (some (some 94)), some (some (some 95)), none, some (some (some 96)), some (some (some 97)), some (some (some 98)), none, none, some (some (some 99)), some (some (some 100)), some (some (some 101)), some (some (some 102)), none, some (some (some 103)), some (some (some 104)), none, none, none, none, none, none, none, none, some (some (some 105)), some (some (some 106)), some (some (some 107)), some (some (some 108)), some (some (some 109)), some (some (some 110))])) by decide +kernel) rfl cl_X12 (by decide) cf_X12_19 e_X12_init_368 ?_
  refine c_iload e_X12_init_371 0 rfl ?_
  refine c_ic e_X12_init_372 ?_
  refine c_iast (n := 8) (j := 2) (by decide +kernel) (by decide +kernel) e_X12_init_374 (by unfold vp_in; decide) rfl zs_96 rfl ?_
  refine c_aload e_X12_init_375 1 rfl ?_
  refine c_getr (k := 11) (show zh_227[69]? = some (.inl (12, [none, none, none, none, none, none, none, some (some (some 70)), some (some (some 71)), some (some (some 72)), some (some (some 73)), some (some (some 74)), some (some (some 75)), some (some (some 76)), none, none, none, none, none, none, none, none, none, none, some (some (some 77)), some (some (some 78)), some (some (some 79)), some (some (some 80)), some (some (some 81)), some (some (some 82)), some (some (some 83)), some (some (some 84)), some (some (some 85)), some (some (some 86)), some (some (some 87)), some (some (some 88)), some (some (some 89)), none, none, none, none, none, none, some (some (some 90)), some (some (some 91)), some (some (some 92)), some (some (some 93)), some (some (some 94)), some (some (some 95)), none, some (some (some 96)), some (some (some 97)), some (some (some 98)), none, none, some (some (some 99)), some (some (some 100)), some (some (some 101)), some (some (some 102)), none, some (some (some 103)), some (some (some 104)), none, none, none, none, none, none, none, none, some (some (some 105)), some (some (some 106)), some (some (some 107)), some (some (some 108)), some (some (some 109)), some (some (some 110))])) by decide +kernel) rfl cl_X12 (by decide) cf_X12_22 e_X12_init_376 ?_
  refine c_iload e_X12_init_379 0 rfl ?_
  refine c_ic e_X12_init_380 ?_
  refine c_iast (n := 8) (j := 2) (by decide +kernel) (by decide +kernel) e_X12_init_382 (by unfold vp_in; decide) rfl zs_97 rfl ?_
  refine c_aload e_X12_init_383 1 rfl ?_
  refine c_getr (k := 12) (show zh_227[69]? = some (.inl (12, [none, none, none, none, none, none, none, some (some (some 70)), some (some (some 71)), some (some (some 72)), some (some (some 73)), some (some (some 74)), some (some (some 75)), some (some (some 76)), none, none, none, none, none, none, none, none, none, none, some (some (some 77)), some (some (some 78)), some (some (some 79)), some (some (some 80)), some (some (some 81)), some (some (some 82)), some (some (some 83)), some (some (some 84)), some (some (some 85)), some (some (some 86)), some (some (some 87)), some (some (some 88)), some (some (some 89)), none, none, none, none, none, none, some (some (some 90)), some (some (some 91)), some (some (some 92)), some (some (some 93)), some (some (some 94)), some (some (some 95)), none, some (some (some 96)), some (some (some 97)), some (some (some 98)), none, none, some (some (some 99)), some (some (some 100)), some (some (some 101)), some (some (some 102)), none, some (some (some 103)), some (some (some 104)), none, none, none, none, none, none, none, none, some (some (some 105)), some (some (some 106)), some (some (some 107)), some (some (some 108)), some (some (some 109)), some (some (some 110))])) by decide +kernel) rfl cl_X12 (by decide) cf_X12_25 e_X12_init_384 ?_
  refine c_iload e_X12_init_387 0 rfl ?_
  refine c_ic e_X12_init_388 ?_
  refine c_iast (n := 8) (j := 2) (by decide +kernel) (by decide +kernel) e_X12_init_390 (by unfold vp_in; decide) rfl zs_98 rfl ?_
  refine c_iinc e_X12_init_391 0 rfl 3 (by decide) (by decide) [(1, .int (3 : Int32)), (0, .ref (zad G 69))] rfl ?_
  refine c_goto e_X12_init_394 ?_
  refine c_iload e_X12_init_353 0 rfl ?_
  refine c_ic e_X12_init_354 ?_
  refine c_icmp_ge e_X12_init_356 (fun q => absurd q (by decide)) (fun _ => ?_)
  refine c_aload e_X12_init_359 1 rfl ?_
  refine c_getr (k := 9) (show zh_227[69]? = some (.inl (12, [none, none, none, none, none, none, none, some (some (some 70)), some (some (some 71)), some (some (some 72)), some (some (some 73)), some (some (some 74)), some (some (some 75)), some (some (some 76)), none, none, none, none, none, none, none, none, none, none, some (some (some 77)), some (some (some 78)), some (some (some 79)), some (some (some 80)), some (some (some 81)), some (some (some 82)), some (some (some 83)), some (some (some 84)), some (some (some 85)), some (some (some 86)), some (some (some 87)), some (some (some 88)), some (some (some 89)), none, none, none, none, none, none, some (some (some 90)), some (some (some 91)), some (some (some 92)), some (some (some 93)), some (some (some 94)), some (some (some 95)), none, some (some (some 96)), some (some (some 97)), some (some (some 98)), none, none, some (some (some 99)), some (some (some 100)), some (some (some 101)), some (some (some 102)), none, some (some (some 103)), some (some (some 104)), none, none, none, none, none, none, none, none, some (some (some 105)), some (some (some 106)), some (some (some 107)), some (some (some 108)), some (some (some 109)), some (some (some 110))])) by decide +kernel) rfl cl_X12 (by decide) cf_X12_16 e_X12_init_360 ?_
  refine c_iload e_X12_init_363 0 rfl ?_
  refine c_ic e_X12_init_364 ?_
  refine c_iast (n := 8) (j := 3) (by decide +kernel) (by decide +kernel) e_X12_init_366 (by unfold vp_in; decide) rfl zs_99 rfl ?_
  refine c_aload e_X12_init_367 1 rfl ?_
  refine c_getr (k := 10) (show zh_227[69]? = some (.inl (12, [none, none, none, none, none, none, none, some (some (some 70)), some (some (some 71)), some (some (some 72)), some (some (some 73)), some (some (some 74)), some (some (some 75)), some (some (some 76)), none, none, none, none, none, none, none, none, none, none, some (some (some 77)), some (some (some 78)), some (some (some 79)), some (some (some 80)), some (some (some 81)), some (some (some 82)), some (some (some 83)), some (some (some 84)), some (some (some 85)), some (some (some 86)), some (some (some 87)), some (some (some 88)), some (some (some 89)), none, none, none, none, none, none, some (some (some 90)), some (some (some 91)), some (some (some 92)), some (some (some 93)), some (some (some 94)), some (some (some 95)), none, some (some (some 96)), some (some (some 97)), some (some (some 98)), none, none, some (some (some 99)), some (some (some 100)), some (some (some 101)), some (some (some 102)), none, some (some (some 103)), some (some (some 104)), none, none, none, none, none, none, none, none, some (some (some 105)), some (some (some 106)), some (some (some 107)), some (some (some 108)), some (some (some 109)), some (some (some 110))])) by decide +kernel) rfl cl_X12 (by decide) cf_X12_19 e_X12_init_368 ?_
  refine c_iload e_X12_init_371 0 rfl ?_
  refine c_ic e_X12_init_372 ?_
  refine c_iast (n := 8) (j := 3) (by decide +kernel) (by decide +kernel) e_X12_init_374 (by unfold vp_in; decide) rfl zs_100 rfl ?_
  refine c_aload e_X12_init_375 1 rfl ?_
  refine c_getr (k := 11) (show zh_227[69]? = some (.inl (12, [none, none, none, none, none, none, none, some (some (some 70)), some (some (some 71)), some (some (some 72)), some (some (some 73)), some (some (some 74)), some (some (some 75)), some (some (some 76)), none, none, none, none, none, none, none, none, none, none, some (some (some 77)), some (some (some 78)), some (some (some 79)), some (some (some 80)), some (some (some 81)), some (some (some 82)), some (some (some 83)), some (some (some 84)), some (some (some 85)), some (some (some 86)), some (some (some 87)), some (some (some 88)), some (some (some 89)), none, none, none, none, none, none, some (some (some 90)), some (some (some 91)), some (some (some 92)), some (some (some 93)), some (some (some 94)), some (some (some 95)), none, some (some (some 96)), some (some (some 97)), some (some (some 98)), none, none, some (some (some 99)), some (some (some 100)), some (some (some 101)), some (some (some 102)), none, some (some (some 103)), some (some (some 104)), none, none, none, none, none, none, none, none, some (some (some 105)), some (some (some 106)), some (some (some 107)), some (some (some 108)), some (some (some 109)), some (some (some 110))])) by decide +kernel) rfl cl_X12 (by decide) cf_X12_22 e_X12_init_376 ?_
  refine c_iload e_X12_init_379 0 rfl ?_
  refine c_ic e_X12_init_380 ?_
  refine c_iast (n := 8) (j := 3) (by decide +kernel) (by decide +kernel) e_X12_init_382 (by unfold vp_in; decide) rfl zs_101 rfl ?_
  refine c_aload e_X12_init_383 1 rfl ?_
  refine c_getr (k := 12) (show zh_227[69]? = some (.inl (12, [none, none, none, none, none, none, none, some (some (some 70)), some (some (some 71)), some (some (some 72)), some (some (some 73)), some (some (some 74)), some (some (some 75)), some (some (some 76)), none, none, none, none, none, none, none, none, none, none, some (some (some 77)), some (some (some 78)), some (some (some 79)), some (some (some 80)), some (some (some 81)), some (some (some 82)), some (some (some 83)), some (some (some 84)), some (some (some 85)), some (some (some 86)), some (some (some 87)), some (some (some 88)), some (some (some 89)), none, none, none, none, none, none, some (some (some 90)), some (some (some 91)), some (some (some 92)), some (some (some 93)), some (some (some 94)), some (some (some 95)), none, some (some (some 96)), some (some (some 97)), some (some (some 98)), none, none, some (some (some 99)), some (some (some 100)), some (some (some 101)), some (some (some 102)), none, some (some (some 103)), some (some (some 104)), none, none, none, none, none, none, none, none, some (some (some 105)), some (some (some 106)), some (some (some 107)), some (some (some 108)), some (some (some 109)), some (some (some 110))])) by decide +kernel) rfl cl_X12 (by decide) cf_X12_25 e_X12_init_384 ?_
  refine c_iload e_X12_init_387 0 rfl ?_
  refine c_ic e_X12_init_388 ?_
  refine c_iast (n := 8) (j := 3) (by decide +kernel) (by decide +kernel) e_X12_init_390 (by unfold vp_in; decide) rfl zs_102 rfl ?_
  refine c_iinc e_X12_init_391 0 rfl 4 (by decide) (by decide) [(1, .int (4 : Int32)), (0, .ref (zad G 69))] rfl ?_
  refine c_goto e_X12_init_394 ?_
  refine c_iload e_X12_init_353 0 rfl ?_
  refine c_ic e_X12_init_354 ?_
  refine c_icmp_ge e_X12_init_356 (fun q => absurd q (by decide)) (fun _ => ?_)
  refine c_aload e_X12_init_359 1 rfl ?_
  refine c_getr (k := 9) (show zh_227[69]? = some (.inl (12, [none, none, none, none, none, none, none, some (some (some 70)), some (some (some 71)), some (some (some 72)), some (some (some 73)), some (some (some 74)), some (some (some 75)), some (some (some 76)), none, none, none, none, none, none, none, none, none, none, some (some (some 77)), some (some (some 78)), some (some (some 79)), some (some (some 80)), some (some (some 81)), some (some (some 82)), some (some (some 83)), some (some (some 84)), some (some (some 85)), some (some (some 86)), some (some (some 87)), some (some (some 88)), some (some (some 89)), none, none, none, none, none, none, some (some (some 90)), some (some (some 91)), some (some (some 92)), some (some (some 93)), some (some (some 94)), some (some (some 95)), none, some (some (some 96)), some (some (some 97)), some (some (some 98)), none, none, some (some (some 99)), some (some (some 100)), some (some (some 101)), some (some (some 102)), none, some (some (some 103)), some (some (some 104)), none, none, none, none, none, none, none, none, some (some (some 105)), some (some (some 106)), some (some (some 107)), some (some (some 108)), some (some (some 109)), some (some (some 110))])) by decide +kernel) rfl cl_X12 (by decide) cf_X12_16 e_X12_init_360 ?_
  refine c_iload e_X12_init_363 0 rfl ?_
  refine c_ic e_X12_init_364 ?_
  refine c_iast (n := 8) (j := 4) (by decide +kernel) (by decide +kernel) e_X12_init_366 (by unfold vp_in; decide) rfl zs_103 rfl ?_
  refine c_aload e_X12_init_367 1 rfl ?_
  refine c_getr (k := 10) (show zh_227[69]? = some (.inl (12, [none, none, none, none, none, none, none, some (some (some 70)), some (some (some 71)), some (some (some 72)), some (some (some 73)), some (some (some 74)), some (some (some 75)), some (some (some 76)), none, none, none, none, none, none, none, none, none, none, some (some (some 77)), some (some (some 78)), some (some (some 79)), some (some (some 80)), some (some (some 81)), some (some (some 82)), some (some (some 83)), some (some (some 84)), some (some (some 85)), some (some (some 86)), some (some (some 87)), some (some (some 88)), some (some (some 89)), none, none, none, none, none, none, some (some (some 90)), some (some (some 91)), some (some (some 92)), some (some (some 93)), some (some (some 94)), some (some (some 95)), none, some (some (some 96)), some (some (some 97)), some (some (some 98)), none, none, some (some (some 99)), some (some (some 100)), some (some (some 101)), some (some (some 102)), none, some (some (some 103)), some (some (some 104)), none, none, none, none, none, none, none, none, some (some (some 105)), some (some (some 106)), some (some (some 107)), some (some (some 108)), some (some (some 109)), some (some (some 110))])) by decide +kernel) rfl cl_X12 (by decide) cf_X12_19 e_X12_init_368 ?_
  refine c_iload e_X12_init_371 0 rfl ?_
  refine c_ic e_X12_init_372 ?_
  refine c_iast (n := 8) (j := 4) (by decide +kernel) (by decide +kernel) e_X12_init_374 (by unfold vp_in; decide) rfl zs_104 rfl ?_
  refine c_aload e_X12_init_375 1 rfl ?_
  refine c_getr (k := 11) (show zh_227[69]? = some (.inl (12, [none, none, none, none, none, none, none, some (some (some 70)), some (some (some 71)), some (some (some 72)), some (some (some 73)), some (some (some 74)), some (some (some 75)), some (some (some 76)), none, none, none, none, none, none, none, none, none, none, some (some (some 77)), some (some (some 78)), some (some (some 79)), some (some (some 80)), some (some (some 81)), some (some (some 82)), some (some (some 83)), some (some (some 84)), some (some (some 85)), some (some (some 86)), some (some (some 87)), some (some (some 88)), some (some (some 89)), none, none, none, none, none, none, some (some (some 90)), some (some (some 91)), some (some (some 92)), some (some (some 93)), some (some (some 94)), some (some (some 95)), none, some (some (some 96)), some (some (some 97)), some (some (some 98)), none, none, some (some (some 99)), some (some (some 100)), some (some (some 101)), some (some (some 102)), none, some (some (some 103)), some (some (some 104)), none, none, none, none, none, none, none, none, some (some (some 105)), some (some (some 106)), some (some (some 107)), some (some (some 108)), some (some (some 109)), some (some (some 110))])) by decide +kernel) rfl cl_X12 (by decide) cf_X12_22 e_X12_init_376 ?_
  refine c_iload e_X12_init_379 0 rfl ?_
  refine c_ic e_X12_init_380 ?_
  refine c_iast (n := 8) (j := 4) (by decide +kernel) (by decide +kernel) e_X12_init_382 (by unfold vp_in; decide) rfl zs_105 rfl ?_
  refine c_aload e_X12_init_383 1 rfl ?_
  refine c_getr (k := 12) (show zh_227[69]? = some (.inl (12, [none, none, none, none, none, none, none, some (some (some 70)), some (some (some 71)), some (some (some 72)), some (some (some 73)), some (some (some 74)), some (some (some 75)), some (some (some 76)), none, none, none, none, none, none, none, none, none, none, some (some (some 77)), some (some (some 78)), some (some (some 79)), some (some (some 80)), some (some (some 81)), some (some (some 82)), some (some (some 83)), some (some (some 84)), some (some (some 85)), some (some (some 86)), some (some (some 87)), some (some (some 88)), some (some (some 89)), none, none, none, none, none, none, some (some (some 90)), some (some (some 91)), some (some (some 92)), some (some (some 93)), some (some (some 94)), some (some (some 95)), none, some (some (some 96)), some (some (some 97)), some (some (some 98)), none, none, some (some (some 99)), some (some (some 100)), some (some (some 101)), some (some (some 102)), none, some (some (some 103)), some (some (some 104)), none, none, none, none, none, none, none, none, some (some (some 105)), some (some (some 106)), some (some (some 107)), some (some (some 108)), some (some (some 109)), some (some (some 110))])) by decide +kernel) rfl cl_X12 (by decide) cf_X12_25 e_X12_init_384 ?_
  refine c_iload e_X12_init_387 0 rfl ?_
  refine c_ic e_X12_init_388 ?_
  refine c_iast (n := 8) (j := 4) (by decide +kernel) (by decide +kernel) e_X12_init_390 (by unfold vp_in; decide) rfl zs_106 rfl ?_
  refine c_iinc e_X12_init_391 0 rfl 5 (by decide) (by decide) [(1, .int (5 : Int32)), (0, .ref (zad G 69))] rfl ?_
  refine c_goto e_X12_init_394 ?_
  refine c_iload e_X12_init_353 0 rfl ?_
  refine c_ic e_X12_init_354 ?_
  refine c_icmp_ge e_X12_init_356 (fun q => absurd q (by decide)) (fun _ => ?_)
  refine c_aload e_X12_init_359 1 rfl ?_
  refine c_getr (k := 9) (show zh_227[69]? = some (.inl (12, [none, none, none, none, none, none, none, some (some (some 70)), some (some (some 71)), some (some (some 72)), some (some (some 73)), some (some (some 74)), some (some (some 75)), some (some (some 76)), none, none, none, none, none, none, none, none, none, none, some (some (some 77)), some (some (some 78)), some (some (some 79)), some (some (some 80)), some (some (some 81)), some (some (some 82)), some (some (some 83)), some (some (some 84)), some (some (some 85)), some (some (some 86)), some (some (some 87)), some (some (some 88)), some (some (some 89)), none, none, none, none, none, none, some (some (some 90)), some (some (some 91)), some (some (some 92)), some (some (some 93)), some (some (some 94)), some (some (some 95)), none, some (some (some 96)), some (some (some 97)), some (some (some 98)), none, none, some (some (some 99)), some (some (some 100)), some (some (some 101)), some (some (some 102)), none, some (some (some 103)), some (some (some 104)), none, none, none, none, none, none, none, none, some (some (some 105)), some (some (some 106)), some (some (some 107)), some (some (some 108)), some (some (some 109)), some (some (some 110))])) by decide +kernel) rfl cl_X12 (by decide) cf_X12_16 e_X12_init_360 ?_
  refine c_iload e_X12_init_363 0 rfl ?_
  refine c_ic e_X12_init_364 ?_
  refine c_iast (n := 8) (j := 5) (by decide +kernel) (by decide +kernel) e_X12_init_366 (by unfold vp_in; decide) rfl zs_107 rfl ?_
  refine c_aload e_X12_init_367 1 rfl ?_
  refine c_getr (k := 10) (show zh_227[69]? = some (.inl (12, [none, none, none, none, none, none, none, some (some (some 70)), some (some (some 71)), some (some (some 72)), some (some (some 73)), some (some (some 74)), some (some (some 75)), some (some (some 76)), none, none, none, none, none, none, none, none, none, none, some (some (some 77)), some (some (some 78)), some (some (some 79)), some (some (some 80)), some (some (some 81)), some (some (some 82)), some (some (some 83)), some (some (some 84)), some (some (some 85)), some (some (some 86)), some (some (some 87)), some (some (some 88)), some (some (some 89)), none, none, none, none, none, none, some (some (some 90)), some (some (some 91)), some (some (some 92)), some (some (some 93)), some (some (some 94)), some (some (some 95)), none, some (some (some 96)), some (some (some 97)), some (some (some 98)), none, none, some (some (some 99)), some (some (some 100)), some (some (some 101)), some (some (some 102)), none, some (some (some 103)), some (some (some 104)), none, none, none, none, none, none, none, none, some (some (some 105)), some (some (some 106)), some (some (some 107)), some (some (some 108)), some (some (some 109)), some (some (some 110))])) by decide +kernel) rfl cl_X12 (by decide) cf_X12_19 e_X12_init_368 ?_
  refine c_iload e_X12_init_371 0 rfl ?_
  refine c_ic e_X12_init_372 ?_
  refine c_iast (n := 8) (j := 5) (by decide +kernel) (by decide +kernel) e_X12_init_374 (by unfold vp_in; decide) rfl zs_108 rfl ?_
  refine c_aload e_X12_init_375 1 rfl ?_
  refine c_getr (k := 11) (show zh_227[69]? = some (.inl (12, [none, none, none, none, none, none, none, some (some (some 70)), some (some (some 71)), some (some (some 72)), some (some (some 73)), some (some (some 74)), some (some (some 75)), some (some (some 76)), none, none, none, none, none, none, none, none, none, none, some (some (some 77)), some (some (some 78)), some (some (some 79)), some (some (some 80)), some (some (some 81)), some (some (some 82)), some (some (some 83)), some (some (some 84)), some (some (some 85)), some (some (some 86)), some (some (some 87)), some (some (some 88)), some (some (some 89)), none, none, none, none, none, none, some (some (some 90)), some (some (some 91)), some (some (some 92)), some (some (some 93)), some (some (some 94)), some (some (some 95)), none, some (some (some 96)), some (some (some 97)), some (some (some 98)), none, none, some (some (some 99)), some (some (some 100)), some (some (some 101)), some (some (some 102)), none, some (some (some 103)), some (some (some 104)), none, none, none, none, none, none, none, none, some (some (some 105)), some (some (some 106)), some (some (some 107)), some (some (some 108)), some (some (some 109)), some (some (some 110))])) by decide +kernel) rfl cl_X12 (by decide) cf_X12_22 e_X12_init_376 ?_
  refine c_iload e_X12_init_379 0 rfl ?_
  refine c_ic e_X12_init_380 ?_
  refine c_iast (n := 8) (j := 5) (by decide +kernel) (by decide +kernel) e_X12_init_382 (by unfold vp_in; decide) rfl zs_109 rfl ?_
  refine c_aload e_X12_init_383 1 rfl ?_
  refine c_getr (k := 12) (show zh_227[69]? = some (.inl (12, [none, none, none, none, none, none, none, some (some (some 70)), some (some (some 71)), some (some (some 72)), some (some (some 73)), some (some (some 74)), some (some (some 75)), some (some (some 76)), none, none, none, none, none, none, none, none, none, none, some (some (some 77)), some (some (some 78)), some (some (some 79)), some (some (some 80)), some (some (some 81)), some (some (some 82)), some (some (some 83)), some (some (some 84)), some (some (some 85)), some (some (some 86)), some (some (some 87)), some (some (some 88)), some (some (some 89)), none, none, none, none, none, none, some (some (some 90)), some (some (some 91)), some (some (some 92)), some (some (some 93)), some (some (some 94)), some (some (some 95)), none, some (some (some 96)), some (some (some 97)), some (some (some 98)), none, none, some (some (some 99)), some (some (some 100)), some (some (some 101)), some (some (some 102)), none, some (some (some 103)), some (some (some 104)), none, none, none, none, none, none, none, none, some (some (some 105)), some (some (some 106)), some (some (some 107)), some (some (some 108)), some (some (some 109)), some (some (some 110))])) by decide +kernel) rfl cl_X12 (by decide) cf_X12_25 e_X12_init_384 ?_
  refine c_iload e_X12_init_387 0 rfl ?_
  refine c_ic e_X12_init_388 ?_
  refine c_iast (n := 8) (j := 5) (by decide +kernel) (by decide +kernel) e_X12_init_390 (by unfold vp_in; decide) rfl zs_110 rfl ?_
  refine c_iinc e_X12_init_391 0 rfl 6 (by decide) (by decide) [(1, .int (6 : Int32)), (0, .ref (zad G 69))] rfl ?_
  refine c_goto e_X12_init_394 ?_
  refine c_iload e_X12_init_353 0 rfl ?_
  refine c_ic e_X12_init_354 ?_
  refine c_icmp_ge e_X12_init_356 (fun q => absurd q (by decide)) (fun _ => ?_)
  refine c_aload e_X12_init_359 1 rfl ?_
  refine c_getr (k := 9) (show zh_227[69]? = some (.inl (12, [none, none, none, none, none, none, none, some (some (some 70)), some (some (some 71)), some (some (some 72)), some (some (some 73)), some (some (some 74)), some (some (some 75)), some (some (some 76)), none, none, none, none, none, none, none, none, none, none, some (some (some 77)), some (some (some 78)), some (some (some 79)), some (some (some 80)), some (some (some 81)), some (some (some 82)), some (some (some 83)), some (some (some 84)), some (some (some 85)), some (some (some 86)), some (some (some 87)), some (some (some 88)), some (some (some 89)), none, none, none, none, none, none, some (some (some 90)), some (some (some 91)), some (some (some 92)), some (some (some 93)), some (some (some 94)), some (some (some 95)), none, some (some (some 96)), some (some (some 97)), some (some (some 98)), none, none, some (some (some 99)), some (some (some 100)), some (some (some 101)), some (some (some 102)), none, some (some (some 103)), some (some (some 104)), none, none, none, none, none, none, none, none, some (some (some 105)), some (some (some 106)), some (some (some 107)), some (some (some 108)), some (some (some 109)), some (some (some 110))])) by decide +kernel) rfl cl_X12 (by decide) cf_X12_16 e_X12_init_360 ?_
  refine c_iload e_X12_init_363 0 rfl ?_
  refine c_ic e_X12_init_364 ?_
  refine c_iast (n := 8) (j := 6) (by decide +kernel) (by decide +kernel) e_X12_init_366 (by unfold vp_in; decide) rfl zs_111 rfl ?_
  refine c_aload e_X12_init_367 1 rfl ?_
  refine c_getr (k := 10) (show zh_227[69]? = some (.inl (12, [none, none, none, none, none, none, none, some (some (some 70)), some (some (some 71)), some (some (some 72)), some (some (some 73)), some (some (some 74)), some (some (some 75)), some (some (some 76)), none, none, none, none, none, none, none, none, none, none, some (some (some 77)), some (some (some 78)), some (some (some 79)), some (some (some 80)), some (some (some 81)), some (some (some 82)), some (some (some 83)), some (some (some 84)), some (some (some 85)), some (some (some 86)), some (some (some 87)), some (some (some 88)), some (some (some 89)), none, none, none, none, none, none, some (some (some 90)), some (some (some 91)), some (some (some 92)), some (some (some 93)), some (some (some 94)), some (some (some 95)), none, some (some (some 96)), some (some (some 97)), some (some (some 98)), none, none, some (some (some 99)), some (some (some 100)), some (some (some 101)), some (some (some 102)), none, some (some (some 103)), some (some (some 104)), none, none, none, none, none, none, none, none, some (some (some 105)), some (some (some 106)), some (some (some 107)), some (some (some 108)), some (some (some 109)), some (some (some 110))])) by decide +kernel) rfl cl_X12 (by decide) cf_X12_19 e_X12_init_368 ?_
  refine c_iload e_X12_init_371 0 rfl ?_
  refine c_ic e_X12_init_372 ?_
  refine c_iast (n := 8) (j := 6) (by decide +kernel) (by decide +kernel) e_X12_init_374 (by unfold vp_in; decide) rfl zs_112 rfl ?_
  refine c_aload e_X12_init_375 1 rfl ?_
  refine c_getr (k := 11) (show zh_227[69]? = some (.inl (12, [none, none, none, none, none, none, none, some (some (some 70)), some (some (some 71)), some (some (some 72)), some (some (some 73)), some (some (some 74)), some (some (some 75)), some (some (some 76)), none, none, none, none, none, none, none, none, none, none, some (some (some 77)), some (some (some 78)), some (some (some 79)), some (some (some 80)), some (some (some 81)), some (some (some 82)), some (some (some 83)), some (some (some 84)), some (some (some 85)), some (some (some 86)), some (some (some 87)), some (some (some 88)), some (some (some 89)), none, none, none, none, none, none, some (some (some 90)), some (some (some 91)), some (some (some 92)), some (some (some 93)), some (some (some 94)), some (some (some 95)), none, some (some (some 96)), some (some (some 97)), some (some (some 98)), none, none, some (some (some 99)), some (some (some 100)), some (some (some 101)), some (some (some 102)), none, some (some (some 103)), some (some (some 104)), none, none, none, none, none, none, none, none, some (some (some 105)), some (some (some 106)), some (some (some 107)), some (some (some 108)), some (some (some 109)), some (some (some 110))])) by decide +kernel) rfl cl_X12 (by decide) cf_X12_22 e_X12_init_376 ?_
  refine c_iload e_X12_init_379 0 rfl ?_
  refine c_ic e_X12_init_380 ?_
  refine c_iast (n := 8) (j := 6) (by decide +kernel) (by decide +kernel) e_X12_init_382 (by unfold vp_in; decide) rfl zs_113 rfl ?_
  refine c_aload e_X12_init_383 1 rfl ?_
  refine c_getr (k := 12) (show zh_227[69]? = some (.inl (12, [none, none, none, none, none, none, none, some (some (some 70)), some (some (some 71)), some (some (some 72)), some (some (some 73)), some (some (some 74)), some (some (some 75)), some (some (some 76)), none, none, none, none, none, none, none, none, none, none, some (some (some 77)), some (some (some 78)), some (some (some 79)), some (some (some 80)), some (some (some 81)), some (some (some 82)), some (some (some 83)), some (some (some 84)), some (some (some 85)), some (some (some 86)), some (some (some 87)), some (some (some 88)), some (some (some 89)), none, none, none, none, none, none, some (some (some 90)), some (some (some 91)), some (some (some 92)), some (some (some 93)), some (some (some 94)), some (some (some 95)), none, some (some (some 96)), some (some (some 97)), some (some (some 98)), none, none, some (some (some 99)), some (some (some 100)), some (some (some 101)), some (some (some 102)), none, some (some (some 103)), some (some (some 104)), none, none, none, none, none, none, none, none, some (some (some 105)), some (some (some 106)), some (some (some 107)), some (some (some 108)), some (some (some 109)), some (some (some 110))])) by decide +kernel) rfl cl_X12 (by decide) cf_X12_25 e_X12_init_384 ?_
  refine c_iload e_X12_init_387 0 rfl ?_
  refine c_ic e_X12_init_388 ?_
  refine c_iast (n := 8) (j := 6) (by decide +kernel) (by decide +kernel) e_X12_init_390 (by unfold vp_in; decide) rfl zs_114 rfl ?_
  refine c_iinc e_X12_init_391 0 rfl 7 (by decide) (by decide) [(1, .int (7 : Int32)), (0, .ref (zad G 69))] rfl ?_
  refine c_goto e_X12_init_394 ?_
  refine c_iload e_X12_init_353 0 rfl ?_
  refine c_ic e_X12_init_354 ?_
  refine c_icmp_ge e_X12_init_356 (fun q => absurd q (by decide)) (fun _ => ?_)
  refine c_aload e_X12_init_359 1 rfl ?_
  refine c_getr (k := 9) (show zh_227[69]? = some (.inl (12, [none, none, none, none, none, none, none, some (some (some 70)), some (some (some 71)), some (some (some 72)), some (some (some 73)), some (some (some 74)), some (some (some 75)), some (some (some 76)), none, none, none, none, none, none, none, none, none, none, some (some (some 77)), some (some (some 78)), some (some (some 79)), some (some (some 80)), some (some (some 81)), some (some (some 82)), some (some (some 83)), some (some (some 84)), some (some (some 85)), some (some (some 86)), some (some (some 87)), some (some (some 88)), some (some (some 89)), none, none, none, none, none, none, some (some (some 90)), some (some (some 91)), some (some (some 92)), some (some (some 93)), some (some (some 94)), some (some (some 95)), none, some (some (some 96)), some (some (some 97)), some (some (some 98)), none, none, some (some (some 99)), some (some (some 100)), some (some (some 101)), some (some (some 102)), none, some (some (some 103)), some (some (some 104)), none, none, none, none, none, none, none, none, some (some (some 105)), some (some (some 106)), some (some (some 107)), some (some (some 108)), some (some (some 109)), some (some (some 110))])) by decide +kernel) rfl cl_X12 (by decide) cf_X12_16 e_X12_init_360 ?_
  refine c_iload e_X12_init_363 0 rfl ?_
  refine c_ic e_X12_init_364 ?_
  refine c_iast (n := 8) (j := 7) (by decide +kernel) (by decide +kernel) e_X12_init_366 (by unfold vp_in; decide) rfl zs_115 rfl ?_
  refine c_aload e_X12_init_367 1 rfl ?_
  refine c_getr (k := 10) (show zh_227[69]? = some (.inl (12, [none, none, none, none, none, none, none, some (some (some 70)), some (some (some 71)), some (some (some 72)), some (some (some 73)), some (some (some 74)), some (some (some 75)), some (some (some 76)), none, none, none, none, none, none, none, none, none, none, some (some (some 77)), some (some (some 78)), some (some (some 79)), some (some (some 80)), some (some (some 81)), some (some (some 82)), some (some (some 83)), some (some (some 84)), some (some (some 85)), some (some (some 86)), some (some (some 87)), some (some (some 88)), some (some (some 89)), none, none, none, none, none, none, some (some (some 90)), some (some (some 91)), some (some (some 92)), some (some (some 93)), some (some (some 94)), some (some (some 95)), none, some (some (some 96)), some (some (some 97)), some (some (some 98)), none, none, some (some (some 99)), some (some (some 100)), some (some (some 101)), some (some (some 102)), none, some (some (some 103)), some (some (some 104)), none, none, none, none, none, none, none, none, some (some (some 105)), some (some (some 106)), some (some (some 107)), some (some (some 108)), some (some (some 109)), some (some (some 110))])) by decide +kernel) rfl cl_X12 (by decide) cf_X12_19 e_X12_init_368 ?_
  refine c_iload e_X12_init_371 0 rfl ?_
  refine c_ic e_X12_init_372 ?_
  refine c_iast (n := 8) (j := 7) (by decide +kernel) (by decide +kernel) e_X12_init_374 (by unfold vp_in; decide) rfl zs_116 rfl ?_
  refine c_aload e_X12_init_375 1 rfl ?_
  refine c_getr (k := 11) (show zh_227[69]? = some (.inl (12, [none, none, none, none, none, none, none, some (some (some 70)), some (some (some 71)), some (some (some 72)), some (some (some 73)), some (some (some 74)), some (some (some 75)), some (some (some 76)), none, none, none, none, none, none, none, none, none, none, some (some (some 77)), some (some (some 78)), some (some (some 79)), some (some (some 80)), some (some (some 81)), some (some (some 82)), some (some (some 83)), some (some (some 84)), some (some (some 85)), some (some (some 86)), some (some (some 87)), some (some (some 88)), some (some (some 89)), none, none, none, none, none, none, some (some (some 90)), some (some (some 91)), some (some (some 92)), some (some (some 93)), some (some (some 94)), some (some (some 95)), none, some (some (some 96)), some (some (some 97)), some (some (some 98)), none, none, some (some (some 99)), some (some (some 100)), some (some (some 101)), some (some (some 102)), none, some (some (some 103)), some (some (some 104)), none, none, none, none, none, none, none, none, some (some (some 105)), some (some (some 106)), some (some (some 107)), some (some (some 108)), some (some (some 109)), some (some (some 110))])) by decide +kernel) rfl cl_X12 (by decide) cf_X12_22 e_X12_init_376 ?_
  refine c_iload e_X12_init_379 0 rfl ?_
  refine c_ic e_X12_init_380 ?_
  refine c_iast (n := 8) (j := 7) (by decide +kernel) (by decide +kernel) e_X12_init_382 (by unfold vp_in; decide) rfl zs_117 rfl ?_
  refine c_aload e_X12_init_383 1 rfl ?_
  refine c_getr (k := 12) (show zh_227[69]? = some (.inl (12, [none, none, none, none, none, none, none, some (some (some 70)), some (some (some 71)), some (some (some 72)), some (some (some 73)), some (some (some 74)), some (some (some 75)), some (some (some 76)), none, none, none, none, none, none, none, none, none, none, some (some (some 77)), some (some (some 78)), some (some (some 79)), some (some (some 80)), some (some (some 81)), some (some (some 82)), some (some (some 83)), some (some (some 84)), some (some (some 85)), some (some (some 86)), some (some (some 87)), some (some (some 88)), some (some (some 89)), none, none, none, none, none, none, some (some (some 90)), some (some (some 91)), some (some (some 92)), some (some (some 93)), some (some (some 94)), some (some (some 95)), none, some (some (some 96)), some (some (some 97)), some (some (some 98)), none, none, some (some (some 99)), some (some (some 100)), some (some (some 101)), some (some (some 102)), none, some (some (some 103)), some (some (some 104)), none, none, none, none, none, none, none, none, some (some (some 105)), some (some (some 106)), some (some (some 107)), some (some (some 108)), some (some (some 109)), some (some (some 110))])) by decide +kernel) rfl cl_X12 (by decide) cf_X12_25 e_X12_init_384 ?_
  refine c_iload e_X12_init_387 0 rfl ?_
  refine c_ic e_X12_init_388 ?_
  refine c_iast (n := 8) (j := 7) (by decide +kernel) (by decide +kernel) e_X12_init_390 (by unfold vp_in; decide) rfl zs_118 rfl ?_
  refine c_iinc e_X12_init_391 0 rfl 8 (by decide) (by decide) [(1, .int (8 : Int32)), (0, .ref (zad G 69))] rfl ?_
  refine c_goto e_X12_init_394 ?_
  refine c_iload e_X12_init_353 0 rfl ?_
  refine c_ic e_X12_init_354 ?_
  refine c_icmp_ge e_X12_init_356 (fun _ => ?_) (fun q => absurd (by decide) q)
  refine c_ic e_X12_init_397 ?_
  refine c_istore e_X12_init_398 (by decide) [(1, .int (0 : Int32)), (0, .ref (zad G 69))] rfl ?_
  refine c_iload e_X12_init_399 0 rfl ?_
  refine c_ic e_X12_init_400 ?_
  refine c_icmp_ge e_X12_init_402 (fun q => absurd q (by decide)) (fun _ => ?_)
  refine c_aload e_X12_init_405 1 rfl ?_
  refine c_getr (k := 61) (show zh_227[69]? = some (.inl (12, [none, none, none, none, none, none, none, some (some (some 70)), some (some (some 71)), some (some (some 72)), some (some (some 73)), some (some (some 74)), some (some (some 75)), some (some (some 76)), none, none, none, none, none, none, none, none, none, none, some (some (some 77)), some (some (some 78)), some (some (some 79)), some (some (some 80)), some (some (some 81)), some (some (some 82)), some (some (some 83)), some (some (some 84)), some (some (some 85)), some (some (some 86)), some (some (some 87)), some (some (some 88)), some (some (some 89)), none, none, none, none, none, none, some (some (some 90)), some (some (some 91)), some (some (some 92)), some (some (some 93)), some (some (some 94)), some (some (some 95)), none, some (some (some 96)), some (some (some 97)), some (some (some 98)), none, none, some (some (some 99)), some (some (some 100)), some (some (some 101)), some (some (some 102)), none, some (some (some 103)), some (some (some 104)), none, none, none, none, none, none, none, none, some (some (some 105)), some (some (some 106)), some (some (some 107)), some (some (some 108)), some (some (some 109)), some (some (some 110))])) by decide +kernel) rfl cl_X12 (by decide) cf_X12_114 e_X12_init_406 ?_
  refine c_iload e_X12_init_409 0 rfl ?_
  refine c_ic e_X12_init_410 ?_
  refine c_iast (n := 12) (j := 0) (by decide +kernel) (by decide +kernel) e_X12_init_411 (by unfold vp_in; decide) rfl zs_119 rfl ?_
  refine c_iinc e_X12_init_412 0 rfl 1 (by decide) (by decide) [(1, .int (1 : Int32)), (0, .ref (zad G 69))] rfl ?_
  refine c_goto e_X12_init_415 ?_
  refine c_iload e_X12_init_399 0 rfl ?_
  refine c_ic e_X12_init_400 ?_
  refine c_icmp_ge e_X12_init_402 (fun q => absurd q (by decide)) (fun _ => ?_)
  refine c_aload e_X12_init_405 1 rfl ?_
  refine c_getr (k := 61) (show zh_227[69]? = some (.inl (12, [none, none, none, none, none, none, none, some (some (some 70)), some (some (some 71)), some (some (some 72)), some (some (some 73)), some (some (some 74)), some (some (some 75)), some (some (some 76)), none, none, none, none, none, none, none, none, none, none, some (some (some 77)), some (some (some 78)), some (some (some 79)), some (some (some 80)), some (some (some 81)), some (some (some 82)), some (some (some 83)), some (some (some 84)), some (some (some 85)), some (some (some 86)), some (some (some 87)), some (some (some 88)), some (some (some 89)), none, none, none, none, none, none, some (some (some 90)), some (some (some 91)), some (some (some 92)), some (some (some 93)), some (some (some 94)), some (some (some 95)), none, some (some (some 96)), some (some (some 97)), some (some (some 98)), none, none, some (some (some 99)), some (some (some 100)), some (some (some 101)), some (some (some 102)), none, some (some (some 103)), some (some (some 104)), none, none, none, none, none, none, none, none, some (some (some 105)), some (some (some 106)), some (some (some 107)), some (some (some 108)), some (some (some 109)), some (some (some 110))])) by decide +kernel) rfl cl_X12 (by decide) cf_X12_114 e_X12_init_406 ?_
  refine c_iload e_X12_init_409 0 rfl ?_
  refine c_ic e_X12_init_410 ?_
  refine c_iast (n := 12) (j := 1) (by decide +kernel) (by decide +kernel) e_X12_init_411 (by unfold vp_in; decide) rfl zs_120 rfl ?_
  refine c_iinc e_X12_init_412 0 rfl 2 (by decide) (by decide) [(1, .int (2 : Int32)), (0, .ref (zad G 69))] rfl ?_
  refine c_goto e_X12_init_415 ?_
  refine c_iload e_X12_init_399 0 rfl ?_
  refine c_ic e_X12_init_400 ?_
  refine c_icmp_ge e_X12_init_402 (fun q => absurd q (by decide)) (fun _ => ?_)
  refine c_aload e_X12_init_405 1 rfl ?_
  refine c_getr (k := 61) (show zh_227[69]? = some (.inl (12, [none, none, none, none, none, none, none, some (some (some 70)), some (some (some 71)), some (some (some 72)), some (some (some 73)), some (some (some 74)), some (some (some 75)), some (some (some 76)), none, none, none, none, none, none, none, none, none, none, some (some (some 77)), some (some (some 78)), some (some (some 79)), some (some (some 80)), some (some (some 81)), some (some (some 82)), some (some (some 83)), some (some (some 84)), some (some (some 85)), some (some (some 86)), some (some (some 87)), some (some (some 88)), some (some (some 89)), none, none, none, none, none, none, some (some (some 90)), some (some (some 91)), some (some (some 92)), some (some (some 93)), some (some (some 94)), some (some (some 95)), none, some (some (some 96)), some (some (some 97)), some (some (some 98)), none, none, some (some (some 99)), some (some (some 100)), some (some (some 101)), some (some (some 102)), none, some (some (some 103)), some (some (some 104)), none, none, none, none, none, none, none, none, some (some (some 105)), some (some (some 106)), some (some (some 107)), some (some (some 108)), some (some (some 109)), some (some (some 110))])) by decide +kernel) rfl cl_X12 (by decide) cf_X12_114 e_X12_init_406 ?_
  refine c_iload e_X12_init_409 0 rfl ?_
  refine c_ic e_X12_init_410 ?_
  refine c_iast (n := 12) (j := 2) (by decide +kernel) (by decide +kernel) e_X12_init_411 (by unfold vp_in; decide) rfl zs_121 rfl ?_
  refine c_iinc e_X12_init_412 0 rfl 3 (by decide) (by decide) [(1, .int (3 : Int32)), (0, .ref (zad G 69))] rfl ?_
  refine c_goto e_X12_init_415 ?_
  refine c_iload e_X12_init_399 0 rfl ?_
  refine c_ic e_X12_init_400 ?_
  refine c_icmp_ge e_X12_init_402 (fun q => absurd q (by decide)) (fun _ => ?_)
  refine c_aload e_X12_init_405 1 rfl ?_
  refine c_getr (k := 61) (show zh_227[69]? = some (.inl (12, [none, none, none, none, none, none, none, some (some (some 70)), some (some (some 71)), some (some (some 72)), some (some (some 73)), some (some (some 74)), some (some (some 75)), some (some (some 76)), none, none, none, none, none, none, none, none, none, none, some (some (some 77)), some (some (some 78)), some (some (some 79)), some (some (some 80)), some (some (some 81)), some (some (some 82)), some (some (some 83)), some (some (some 84)), some (some (some 85)), some (some (some 86)), some (some (some 87)), some (some (some 88)), some (some (some 89)), none, none, none, none, none, none, some (some (some 90)), some (some (some 91)), some (some (some 92)), some (some (some 93)), some (some (some 94)), some (some (some 95)), none, some (some (some 96)), some (some (some 97)), some (some (some 98)), none, none, some (some (some 99)), some (some (some 100)), some (some (some 101)), some (some (some 102)), none, some (some (some 103)), some (some (some 104)), none, none, none, none, none, none, none, none, some (some (some 105)), some (some (some 106)), some (some (some 107)), some (some (some 108)), some (some (some 109)), some (some (some 110))])) by decide +kernel) rfl cl_X12 (by decide) cf_X12_114 e_X12_init_406 ?_
  refine c_iload e_X12_init_409 0 rfl ?_
  refine c_ic e_X12_init_410 ?_
  refine c_iast (n := 12) (j := 3) (by decide +kernel) (by decide +kernel) e_X12_init_411 (by unfold vp_in; decide) rfl zs_122 rfl ?_
  refine c_iinc e_X12_init_412 0 rfl 4 (by decide) (by decide) [(1, .int (4 : Int32)), (0, .ref (zad G 69))] rfl ?_
  refine c_goto e_X12_init_415 ?_
  refine c_iload e_X12_init_399 0 rfl ?_
  refine c_ic e_X12_init_400 ?_
  refine c_icmp_ge e_X12_init_402 (fun q => absurd q (by decide)) (fun _ => ?_)
  refine c_aload e_X12_init_405 1 rfl ?_
  refine c_getr (k := 61) (show zh_227[69]? = some (.inl (12, [none, none, none, none, none, none, none, some (some (some 70)), some (some (some 71)), some (some (some 72)), some (some (some 73)), some (some (some 74)), some (some (some 75)), some (some (some 76)), none, none, none, none, none, none, none, none, none, none, some (some (some 77)), some (some (some 78)), some (some (some 79)), some (some (some 80)), some (some (some 81)), some (some (some 82)), some (some (some 83)), some (some (some 84)), some (some (some 85)), some (some (some 86)), some (some (some 87)), some (some (some 88)), some (some (some 89)), none, none, none, none, none, none, some (some (some 90)), some (some (some 91)), some (some (some 92)), some (some (some 93)), some (some (some 94)), some (some (some 95)), none, some (some (some 96)), some (some (some 97)), some (some (some 98)), none, none, some (some (some 99)), some (some (some 100)), some (some (some 101)), some (some (some 102)), none, some (some (some 103)), some (some (some 104)), none, none, none, none, none, none, none, none, some (some (some 105)), some (some (some 106)), some (some (some 107)), some (some (some 108)), some (some (some 109)), some (some (some 110))])) by decide +kernel) rfl cl_X12 (by decide) cf_X12_114 e_X12_init_406 ?_
  refine c_iload e_X12_init_409 0 rfl ?_
  refine c_ic e_X12_init_410 ?_
  refine c_iast (n := 12) (j := 4) (by decide +kernel) (by decide +kernel) e_X12_init_411 (by unfold vp_in; decide) rfl zs_123 rfl ?_
  refine c_iinc e_X12_init_412 0 rfl 5 (by decide) (by decide) [(1, .int (5 : Int32)), (0, .ref (zad G 69))] rfl ?_
  refine c_goto e_X12_init_415 ?_
  refine c_iload e_X12_init_399 0 rfl ?_
  refine c_ic e_X12_init_400 ?_
  refine c_icmp_ge e_X12_init_402 (fun q => absurd q (by decide)) (fun _ => ?_)
  refine c_aload e_X12_init_405 1 rfl ?_
  refine c_getr (k := 61) (show zh_227[69]? = some (.inl (12, [none, none, none, none, none, none, none, some (some (some 70)), some (some (some 71)), some (some (some 72)), some (some (some 73)), some (some (some 74)), some (some (some 75)), some (some (some 76)), none, none, none, none, none, none, none, none, none, none, some (some (some 77)), some (some (some 78)), some (some (some 79)), some (some (some 80)), some (some (some 81)), some (some (some 82)), some (some (some 83)), some (some (some 84)), some (some (some 85)), some (some (some 86)), some (some (some 87)), some (some (some 88)), some (some (some 89)), none, none, none, none, none, none, some (some (some 90)), some (some (some 91)), some (some (some 92)), some (some (some 93)), some (some (some 94)), some (some (some 95)), none, some (some (some 96)), some (some (some 97)), some (some (some 98)), none, none, some (some (some 99)), some (some (some 100)), some (some (some 101)), some (some (some 102)), none, some (some (some 103)), some (some (some 104)), none, none, none, none, none, none, none, none, some (some (some 105)), some (some (some 106)), some (some (some 107)), some (some (some 108)), some (some (some 109)), some (some (some 110))])) by decide +kernel) rfl cl_X12 (by decide) cf_X12_114 e_X12_init_406 ?_
  refine c_iload e_X12_init_409 0 rfl ?_
  refine c_ic e_X12_init_410 ?_
  refine c_iast (n := 12) (j := 5) (by decide +kernel) (by decide +kernel) e_X12_init_411 (by unfold vp_in; decide) rfl zs_124 rfl ?_
  refine c_iinc e_X12_init_412 0 rfl 6 (by decide) (by decide) [(1, .int (6 : Int32)), (0, .ref (zad G 69))] rfl ?_
  refine c_goto e_X12_init_415 ?_
  refine c_iload e_X12_init_399 0 rfl ?_
  refine c_ic e_X12_init_400 ?_
  refine c_icmp_ge e_X12_init_402 (fun q => absurd q (by decide)) (fun _ => ?_)
  refine c_aload e_X12_init_405 1 rfl ?_
  refine c_getr (k := 61) (show zh_227[69]? = some (.inl (12, [none, none, none, none, none, none, none, some (some (some 70)), some (some (some 71)), some (some (some 72)), some (some (some 73)), some (some (some 74)), some (some (some 75)), some (some (some 76)), none, none, none, none, none, none, none, none, none, none, some (some (some 77)), some (some (some 78)), some (some (some 79)), some (some (some 80)), some (some (some 81)), some (some (some 82)), some (some (some 83)), some (some (some 84)), some (some (some 85)), some (some (some 86)), some (some (some 87)), some (some (some 88)), some (some (some 89)), none, none, none, none, none, none, some (some (some 90)), some (some (some 91)), some (some (some 92)), some (some (some 93)), some (some (some 94)), some (some (some 95)), none, some (some (some 96)), some (some (some 97)), some (some (some 98)), none, none, some (some (some 99)), some (some (some 100)), some (some (some 101)), some (some (some 102)), none, some (some (some 103)), some (some (some 104)), none, none, none, none, none, none, none, none, some (some (some 105)), some (some (some 106)), some (some (some 107)), some (some (some 108)), some (some (some 109)), some (some (some 110))])) by decide +kernel) rfl cl_X12 (by decide) cf_X12_114 e_X12_init_406 ?_
  refine c_iload e_X12_init_409 0 rfl ?_
  refine c_ic e_X12_init_410 ?_
  refine c_iast (n := 12) (j := 6) (by decide +kernel) (by decide +kernel) e_X12_init_411 (by unfold vp_in; decide) rfl zs_125 rfl ?_
  refine c_iinc e_X12_init_412 0 rfl 7 (by decide) (by decide) [(1, .int (7 : Int32)), (0, .ref (zad G 69))] rfl ?_
  refine c_goto e_X12_init_415 ?_
  refine c_iload e_X12_init_399 0 rfl ?_
  refine c_ic e_X12_init_400 ?_
  refine c_icmp_ge e_X12_init_402 (fun q => absurd q (by decide)) (fun _ => ?_)
  refine c_aload e_X12_init_405 1 rfl ?_
  refine c_getr (k := 61) (show zh_227[69]? = some (.inl (12, [none, none, none, none, none, none, none, some (some (some 70)), some (some (some 71)), some (some (some 72)), some (some (some 73)), some (some (some 74)), some (some (some 75)), some (some (some 76)), none, none, none, none, none, none, none, none, none, none, some (some (some 77)), some (some (some 78)), some (some (some 79)), some (some (some 80)), some (some (some 81)), some (some (some 82)), some (some (some 83)), some (some (some 84)), some (some (some 85)), some (some (some 86)), some (some (some 87)), some (some (some 88)), some (some (some 89)), none, none, none, none, none, none, some (some (some 90)), some (some (some 91)), some (some (some 92)), some (some (some 93)), some (some (some 94)), some (some (some 95)), none, some (some (some 96)), some (some (some 97)), some (some (some 98)), none, none, some (some (some 99)), some (some (some 100)), some (some (some 101)), some (some (some 102)), none, some (some (some 103)), some (some (some 104)), none, none, none, none, none, none, none, none, some (some (some 105)), some (some (some 106)), some (some (some 107)), some (some (some 108)), some (some (some 109)), some (some (some 110))])) by decide +kernel) rfl cl_X12 (by decide) cf_X12_114 e_X12_init_406 ?_
  refine c_iload e_X12_init_409 0 rfl ?_
  refine c_ic e_X12_init_410 ?_
  refine c_iast (n := 12) (j := 7) (by decide +kernel) (by decide +kernel) e_X12_init_411 (by unfold vp_in; decide) rfl zs_126 rfl ?_
  refine c_iinc e_X12_init_412 0 rfl 8 (by decide) (by decide) [(1, .int (8 : Int32)), (0, .ref (zad G 69))] rfl ?_
  refine c_goto e_X12_init_415 ?_
  refine c_iload e_X12_init_399 0 rfl ?_
  refine c_ic e_X12_init_400 ?_
  refine c_icmp_ge e_X12_init_402 (fun q => absurd q (by decide)) (fun _ => ?_)
  refine c_aload e_X12_init_405 1 rfl ?_
  refine c_getr (k := 61) (show zh_227[69]? = some (.inl (12, [none, none, none, none, none, none, none, some (some (some 70)), some (some (some 71)), some (some (some 72)), some (some (some 73)), some (some (some 74)), some (some (some 75)), some (some (some 76)), none, none, none, none, none, none, none, none, none, none, some (some (some 77)), some (some (some 78)), some (some (some 79)), some (some (some 80)), some (some (some 81)), some (some (some 82)), some (some (some 83)), some (some (some 84)), some (some (some 85)), some (some (some 86)), some (some (some 87)), some (some (some 88)), some (some (some 89)), none, none, none, none, none, none, some (some (some 90)), some (some (some 91)), some (some (some 92)), some (some (some 93)), some (some (some 94)), some (some (some 95)), none, some (some (some 96)), some (some (some 97)), some (some (some 98)), none, none, some (some (some 99)), some (some (some 100)), some (some (some 101)), some (some (some 102)), none, some (some (some 103)), some (some (some 104)), none, none, none, none, none, none, none, none, some (some (some 105)), some (some (some 106)), some (some (some 107)), some (some (some 108)), some (some (some 109)), some (some (some 110))])) by decide +kernel) rfl cl_X12 (by decide) cf_X12_114 e_X12_init_406 ?_
  refine c_iload e_X12_init_409 0 rfl ?_
  refine c_ic e_X12_init_410 ?_
  refine c_iast (n := 12) (j := 8) (by decide +kernel) (by decide +kernel) e_X12_init_411 (by unfold vp_in; decide) rfl zs_127 rfl ?_
  refine c_iinc e_X12_init_412 0 rfl 9 (by decide) (by decide) [(1, .int (9 : Int32)), (0, .ref (zad G 69))] rfl ?_
  refine c_goto e_X12_init_415 ?_
  refine c_iload e_X12_init_399 0 rfl ?_
  refine c_ic e_X12_init_400 ?_
  refine c_icmp_ge e_X12_init_402 (fun q => absurd q (by decide)) (fun _ => ?_)
  refine c_aload e_X12_init_405 1 rfl ?_
  refine c_getr (k := 61) (show zh_227[69]? = some (.inl (12, [none, none, none, none, none, none, none, some (some (some 70)), some (some (some 71)), some (some (some 72)), some (some (some 73)), some (some (some 74)), some (some (some 75)), some (some (some 76)), none, none, none, none, none, none, none, none, none, none, some (some (some 77)), some (some (some 78)), some (some (some 79)), some (some (some 80)), some (some (some 81)), some (some (some 82)), some (some (some 83)), some (some (some 84)), some (some (some 85)), some (some (some 86)), some (some (some 87)), some (some (some 88)), some (some (some 89)), none, none, none, none, none, none, some (some (some 90)), some (some (some 91)), some (some (some 92)), some (some (some 93)), some (some (some 94)), some (some (some 95)), none, some (some (some 96)), some (some (some 97)), some (some (some 98)), none, none, some (some (some 99)), some (some (some 100)), some (some (some 101)), some (some (some 102)), none, some (some (some 103)), some (some (some 104)), none, none, none, none, none, none, none, none, some (some (some 105)), some (some (some 106)), some (some (some 107)), some (some (some 108)), some (some (some 109)), some (some (some 110))])) by decide +kernel) rfl cl_X12 (by decide) cf_X12_114 e_X12_init_406 ?_
  refine c_iload e_X12_init_409 0 rfl ?_
  refine c_ic e_X12_init_410 ?_
  refine c_iast (n := 12) (j := 9) (by decide +kernel) (by decide +kernel) e_X12_init_411 (by unfold vp_in; decide) rfl zs_128 rfl ?_
  refine c_iinc e_X12_init_412 0 rfl 10 (by decide) (by decide) [(1, .int (10 : Int32)), (0, .ref (zad G 69))] rfl ?_
  refine c_goto e_X12_init_415 ?_
  refine c_iload e_X12_init_399 0 rfl ?_
  refine c_ic e_X12_init_400 ?_
  refine c_icmp_ge e_X12_init_402 (fun q => absurd q (by decide)) (fun _ => ?_)
  refine c_aload e_X12_init_405 1 rfl ?_
  refine c_getr (k := 61) (show zh_227[69]? = some (.inl (12, [none, none, none, none, none, none, none, some (some (some 70)), some (some (some 71)), some (some (some 72)), some (some (some 73)), some (some (some 74)), some (some (some 75)), some (some (some 76)), none, none, none, none, none, none, none, none, none, none, some (some (some 77)), some (some (some 78)), some (some (some 79)), some (some (some 80)), some (some (some 81)), some (some (some 82)), some (some (some 83)), some (some (some 84)), some (some (some 85)), some (some (some 86)), some (some (some 87)), some (some (some 88)), some (some (some 89)), none, none, none, none, none, none, some (some (some 90)), some (some (some 91)), some (some (some 92)), some (some (some 93)), some (some (some 94)), some (some (some 95)), none, some (some (some 96)), some (some (some 97)), some (some (some 98)), none, none, some (some (some 99)), some (some (some 100)), some (some (some 101)), some (some (some 102)), none, some (some (some 103)), some (some (some 104)), none, none, none, none, none, none, none, none, some (some (some 105)), some (some (some 106)), some (some (some 107)), some (some (some 108)), some (some (some 109)), some (some (some 110))])) by decide +kernel) rfl cl_X12 (by decide) cf_X12_114 e_X12_init_406 ?_
  refine c_iload e_X12_init_409 0 rfl ?_
  refine c_ic e_X12_init_410 ?_
  refine c_iast (n := 12) (j := 10) (by decide +kernel) (by decide +kernel) e_X12_init_411 (by unfold vp_in; decide) rfl zs_129 rfl ?_
  refine c_iinc e_X12_init_412 0 rfl 11 (by decide) (by decide) [(1, .int (11 : Int32)), (0, .ref (zad G 69))] rfl ?_
  refine c_goto e_X12_init_415 ?_
  refine c_iload e_X12_init_399 0 rfl ?_
  refine c_ic e_X12_init_400 ?_
  refine c_icmp_ge e_X12_init_402 (fun q => absurd q (by decide)) (fun _ => ?_)
  refine c_aload e_X12_init_405 1 rfl ?_
  refine c_getr (k := 61) (show zh_227[69]? = some (.inl (12, [none, none, none, none, none, none, none, some (some (some 70)), some (some (some 71)), some (some (some 72)), some (some (some 73)), some (some (some 74)), some (some (some 75)), some (some (some 76)), none, none, none, none, none, none, none, none, none, none, some (some (some 77)), some (some (some 78)), some (some (some 79)), some (some (some 80)), some (some (some 81)), some (some (some 82)), some (some (some 83)), some (some (some 84)), some (some (some 85)), some (some (some 86)), some (some (some 87)), some (some (some 88)), some (some (some 89)), none, none, none, none, none, none, some (some (some 90)), some (some (some 91)), some (some (some 92)), some (some (some 93)), some (some (some 94)), some (some (some 95)), none, some (some (some 96)), some (some (some 97)), some (some (some 98)), none, none, some (some (some 99)), some (some (some 100)), some (some (some 101)), some (some (some 102)), none, some (some (some 103)), some (some (some 104)), none, none, none, none, none, none, none, none, some (some (some 105)), some (some (some 106)), some (some (some 107)), some (some (some 108)), some (some (some 109)), some (some (some 110))])) by decide +kernel) rfl cl_X12 (by decide) cf_X12_114 e_X12_init_406 ?_
  refine c_iload e_X12_init_409 0 rfl ?_
  refine c_ic e_X12_init_410 ?_
  refine c_iast (n := 12) (j := 11) (by decide +kernel) (by decide +kernel) e_X12_init_411 (by unfold vp_in; decide) rfl zs_130 rfl ?_
  refine c_iinc e_X12_init_412 0 rfl 12 (by decide) (by decide) [(1, .int (12 : Int32)), (0, .ref (zad G 69))] rfl ?_
  refine c_goto e_X12_init_415 ?_
  refine c_iload e_X12_init_399 0 rfl ?_
  refine c_ic e_X12_init_400 ?_
  refine c_icmp_ge e_X12_init_402 (fun _ => ?_) (fun q => absurd (by decide) q)
  exact c_ret hR e_X12_init_418
