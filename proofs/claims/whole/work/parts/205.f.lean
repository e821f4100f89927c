noncomputable def F_X4_hide_140 (w83 : (Int32 × Int32 × zSt) → Option (Int32 × zSt)) (x3 : Int32) (x4 : Int32) (σ : zSt) : Option (Int32 × zSt) :=
  nm (x4 + (1 : Int32)) (fun v11 =>
    w83 (x3, v11, σ))
set_option maxHeartbeats 4000000 in
set_option maxRecDepth 100000 in
theorem p_X4_hide_140 {G : zG} {C : zC} {r : Int32} {τ : zSt} (hR : zR G C (some .int) (some (.int r)) τ) (w83 : (Int32 × Int32 × zSt) → Option (Int32 × zSt)) (x3 : Int32) (x4 : Int32) (hw83 : ∀ (x3 : Int32) (x4 : Int32) (σ : zSt), w83 (x3, x4, σ) = some (r, τ) → zAW G 7 RX4 cX4_hide 5 C 83 [(0, .ref (zad G 47)), (3, .int x3), (4, .int x4)] [] σ) (σ : zSt) (h : F_X4_hide_140 w83 x3 x4 σ = some (r, τ)) : zAW G 7 RX4 cX4_hide 5 C 140 [(0, .ref (zad G 47)), (3, .int x3), (4, .int x4)] [] σ := by
  unfold F_X4_hide_140 at h
  refine z_iinc e_X4_hide_140 2 rfl (by decide) (by decide) h (fun y => [(4, .int y), (0, .ref (zad G 47)), (3, .int x3)]) (fun _ => rfl) (fun v11 h => ?_)
  refine z_goto e_X4_hide_143 ?_
  exact z_sub [1, 2, 0] rfl (hw83 x3 v11 σ h)
noncomputable def F_X4_hide_83 (w83 : (Int32 × Int32 × zSt) → Option (Int32 × zSt)) (x3 : Int32) (x4 : Int32) (σ : zSt) : Option (Int32 × zSt) :=
  if ((1 : Int32) <<< (((2 : Int32) * (σ.1 47 13)) &&& 31)) ≤ x4 then (
    some (x3, σ))
  else (
    bd (F_X4_takeRow x4 σ) (fun q8 s7 =>
      if q8 = 0 then (
        F_X4_hide_140 w83 x3 x4 s7)
      else (
        bd (F_X4_search (0 : Int32) s7) (fun q13 s12 =>
          if q13 = 0 then (
            F_X4_hide_140 w83 x3 x4 s12)
          else (
            bd (F_X4_days s12) (fun q17 s16 =>
              if q17 ≤ x3 then (
                F_X4_hide_140 w83 x3 x4 s16)
              else (
                bd (F_X4_days s16) (fun q21 s20 =>
                  nm (zrow s20 56 (va_cpy (s20.1 55) (s20.1 56) 0 0 4)) (fun s23 =>
                    F_X4_hide_140 w83 q21 x4 s23)))))))))
set_option maxHeartbeats 4000000 in
set_option maxRecDepth 100000 in
theorem b_X4_hide_83 {G : zG} {C : zC} {r : Int32} {τ : zSt} (hR : zR G C (some .int) (some (.int r)) τ) (w83 : (Int32 × Int32 × zSt) → Option (Int32 × zSt)) (hw83 : ∀ (x3 : Int32) (x4 : Int32) (σ : zSt), w83 (x3, x4, σ) = some (r, τ) → zAW G 7 RX4 cX4_hide 5 C 83 [(0, .ref (zad G 47)), (3, .int x3), (4, .int x4)] [] σ) (x3 : Int32) (x4 : Int32) (σ : zSt) (h : F_X4_hide_83 w83 x3 x4 σ = some (r, τ)) : zAW G 7 RX4 cX4_hide 5 C 83 [(0, .ref (zad G 47)), (3, .int x3), (4, .int x4)] [] σ := by
  unfold F_X4_hide_83 at h
  refine z_iload e_X4_hide_83 2 rfl ?_
  refine z_ic e_X4_hide_85 ?_
  refine z_ic e_X4_hide_86 ?_
  refine z_aload e_X4_hide_87 0 rfl ?_
  refine z_geti gf_X4_140_47 e_X4_hide_88 ?_
  refine z_imul e_X4_hide_91 ?_
  refine z_ishl e_X4_hide_92 ?_
  refine z_icmp_ge e_X4_hide_93 h (fun c6 h => ?_) (fun c6 h => ?_)
  · refine z_iload e_X4_hide_146 1 rfl ?_
    cases h
    exact z_ireturn hR e_X4_hide_147
  · refine z_aload e_X4_hide_96 0 rfl ?_
    refine z_iload e_X4_hide_97 2 rfl ?_
    obtain ⟨q8, s7, e9, h⟩ := bd_e h
    refine z_callVi (c0 := 47) (As := [.int x4]) (rest := []) lk_X4_151 ob_47 e_X4_hide_99 (m_X4_takeRow G x4 σ _ _ e9) (by decide) rfl (Nat.le_of_ble_eq_true rfl) ?_
    refine z_if_eq e_X4_hide_102 h (fun c10 h => ?_) (fun c10 h => ?_)
    · exact z_sub [0, 1, 2] rfl (p_X4_hide_140 hR w83 x3 x4 hw83 s7 h)
    · refine z_aload e_X4_hide_105 0 rfl ?_
      refine z_ic e_X4_hide_106 ?_
      obtain ⟨q13, s12, e14, h⟩ := bd_e h
      refine z_callVi (c0 := 47) (As := [.int (0 : Int32)]) (rest := []) lk_X4_154 ob_47 e_X4_hide_107 (m_X4_search G (0 : Int32) s7 _ _ e14) (by decide) rfl (Nat.le_of_ble_eq_true rfl) ?_
      refine z_if_eq e_X4_hide_110 h (fun c15 h => ?_) (fun c15 h => ?_)
      · exact z_sub [0, 1, 2] rfl (p_X4_hide_140 hR w83 x3 x4 hw83 s12 h)
      · refine z_aload e_X4_hide_113 0 rfl ?_
        obtain ⟨q17, s16, e18, h⟩ := bd_e h
        refine z_callVi (c0 := 47) (As := []) (rest := []) lk_X4_158 ob_47 e_X4_hide_114 (m_X4_days G s12 _ _ e18) (by decide) rfl (Nat.le_of_ble_eq_true rfl) ?_
        refine z_iload e_X4_hide_117 1 rfl ?_
        refine z_icmp_le e_X4_hide_118 h (fun c19 h => ?_) (fun c19 h => ?_)
        · exact z_sub [0, 1, 2] rfl (p_X4_hide_140 hR w83 x3 x4 hw83 s16 h)
        · refine z_aload e_X4_hide_121 0 rfl ?_
          obtain ⟨q21, s20, e22, h⟩ := bd_e h
          refine z_callVi (c0 := 47) (As := []) (rest := []) lk_X4_158 ob_47 e_X4_hide_122 (m_X4_days G s16 _ _ e22) (by decide) rfl (Nat.le_of_ble_eq_true rfl) ?_
          refine z_istore e_X4_hide_125 (by decide) [(3, .int q21), (0, .ref (zad G 47)), (4, .int x4)] rfl ?_
          refine z_aload e_X4_hide_126 1 rfl ?_
          refine z_getr gf_X4_35_47 e_X4_hide_127 ?_
          refine z_ic e_X4_hide_130 ?_
          refine z_aload e_X4_hide_131 1 rfl ?_
          refine z_getr gf_X4_38_47 e_X4_hide_132 ?_
          refine z_ic e_X4_hide_135 ?_
          refine z_ic e_X4_hide_136 ?_
          refine z_copyi ac_X4_161 sh_55 sh_56 ⟨by decide, rfl⟩ ⟨by decide, by decide⟩ (by decide) e_X4_hide_137 h (fun s23 h => ?_)
          exact z_sub [1, 0, 2] rfl (p_X4_hide_140 hR w83 q21 x4 hw83 s23 h)
noncomputable def F_X4_hide_83L  : ((Int32 × Int32 × zSt) → Option (Int32 × zSt)) → (Int32 × Int32 × zSt) → Option (Int32 × zSt) := fun w s => F_X4_hide_83 w s.1 s.2.1 s.2.2
set_option maxRecDepth 100000 in
theorem l_X4_hide_83 {G : zG} {C : zC} {r : Int32} {τ : zSt} (hR : zR G C (some .int) (some (.int r)) τ)  : ∀ (N : Nat) (x3 : Int32) (x4 : Int32) (σ : zSt), zfix (F_X4_hide_83L ) N (x3, x4, σ) = some (r, τ) → zAW G 7 RX4 cX4_hide 5 C 83 [(0, .ref (zad G 47)), (3, .int x3), (4, .int x4)] [] σ := by
  intro N
  induction N with
  | zero =>
    intro x3 x4 σ h
    exact nomatch (show (none : Option (Int32 × zSt)) = some (r, τ) from h)
  | succ N ih =>
    intro x3 x4 σ h
    exact b_X4_hide_83 hR (zfix (F_X4_hide_83L ) N) ih x3 x4 σ h
noncomputable def F_X4_hide_71 (σ : zSt) : Option (Int32 × zSt) :=
  bd (F_X5_learn σ) (fun _ s3 =>
    zfix (F_X4_hide_83L ) zlim ((-1 : Int32), (0 : Int32), s3))
set_option maxHeartbeats 4000000 in
set_option maxRecDepth 100000 in
theorem p_X4_hide_71 {G : zG} {C : zC} {r : Int32} {τ : zSt} (hR : zR G C (some .int) (some (.int r)) τ)  (σ : zSt) (h : F_X4_hide_71 σ = some (r, τ)) : zAW G 7 RX4 cX4_hide 5 C 71 [(0, .ref (zad G 47))] [] σ := by
  unfold F_X4_hide_71 at h
  refine z_aload e_X4_hide_71 0 rfl ?_
  refine z_getr gf_X4_41_47 e_X4_hide_72 ?_
  obtain ⟨q4, s3, e5, h⟩ := bd_e h
  refine z_callVv (c0 := 17) (As := []) (rest := []) lk_X4_148 ob_17 e_X4_hide_75 (m_X5_learn G σ _ _ e5) (by decide) rfl (Nat.le_of_ble_eq_true rfl) ?_
  refine z_ic e_X4_hide_78 ?_
  refine z_istore e_X4_hide_79 (by decide) [(3, .int (-1 : Int32)), (0, .ref (zad G 47))] rfl ?_
  refine z_ic e_X4_hide_80 ?_
  refine z_istore e_X4_hide_81 (by decide) [(4, .int (0 : Int32)), (3, .int (-1 : Int32)), (0, .ref (zad G 47))] rfl ?_
  exact z_sub [2, 1, 0] rfl (l_X4_hide_83 hR  zlim (-1 : Int32) (0 : Int32) s3 h)
noncomputable def F_X4_hide_65 (w7 : (Int32 × zSt) → Option (Int32 × zSt)) (x2 : Int32) (x3 : Int32) (σ : zSt) : Option (Int32 × zSt) :=
  nm (x3 + (1 : Int32)) (fun v29 =>
    w7 (v29, σ))
set_option maxHeartbeats 4000000 in
set_option maxRecDepth 100000 in
theorem p_X4_hide_65 {G : zG} {C : zC} {r : Int32} {τ : zSt} (hR : zR G C (some .int) (some (.int r)) τ) (w7 : (Int32 × zSt) → Option (Int32 × zSt)) (x2 : Int32) (x3 : Int32) (hw7 : ∀ (x3 : Int32) (σ : zSt), w7 (x3, σ) = some (r, τ) → zAW G 7 RX4 cX4_hide 5 C 7 [(0, .ref (zad G 47)), (1, .ref (zad G 1)), (2, .int x2), (3, .int x3)] [] σ) (σ : zSt) (h : F_X4_hide_65 w7 x2 x3 σ = some (r, τ)) : zAW G 7 RX4 cX4_hide 5 C 65 [(0, .ref (zad G 47)), (1, .ref (zad G 1)), (2, .int x2), (3, .int x3)] [] σ := by
  unfold F_X4_hide_65 at h
  refine z_iinc e_X4_hide_65 3 rfl (by decide) (by decide) h (fun y => [(3, .int y), (0, .ref (zad G 47)), (1, .ref (zad G 1)), (2, .int x2)]) (fun _ => rfl) (fun v29 h => ?_)
  refine z_goto e_X4_hide_68 ?_
  exact z_sub [1, 2, 3, 0] rfl (hw7 v29 σ h)
noncomputable def F_X4_hide_7 (x2 : Int32) (w7 : (Int32 × zSt) → Option (Int32 × zSt)) (x3 : Int32) (σ : zSt) : Option (Int32 × zSt) :=
  if (8 : Int32) ≤ x3 then (
    F_X4_hide_71  σ)
  else (
    if (4 : Int32) ≤ (σ.1 47 13) then (
      F_X4_hide_71  σ)
    else (
      if ((x2 >>> (x3 &&& 31)) &&& (1 : Int32)) = (1 : Int32) then (
        gd (vp_in (σ.1 47 13) 4) (nm (zwr σ 53 (σ.1 47 13).toNatClampNeg x3) (fun s26 =>
          gd (vp_in x3 8) (
            gd (vp_in (s26.1 47 13) 4) (nm (zwr s26 54 (s26.1 47 13).toNatClampNeg (s26.1 7 x3.toNatClampNeg)) (fun s27 =>
              nm (zwr s27 47 13 ((s27.1 47 13) + (1 : Int32))) (fun s28 =>
                F_X4_hide_65 w7 x2 x3 s28)))))))
      else (
        F_X4_hide_65 w7 x2 x3 σ)))
set_option maxHeartbeats 4000000 in
set_option maxRecDepth 100000 in
theorem b_X4_hide_7 {G : zG} {C : zC} {r : Int32} {τ : zSt} (hR : zR G C (some .int) (some (.int r)) τ) (x2 : Int32) (w7 : (Int32 × zSt) → Option (Int32 × zSt)) (hw7 : ∀ (x3 : Int32) (σ : zSt), w7 (x3, σ) = some (r, τ) → zAW G 7 RX4 cX4_hide 5 C 7 [(0, .ref (zad G 47)), (1, .ref (zad G 1)), (2, .int x2), (3, .int x3)] [] σ) (x3 : Int32) (σ : zSt) (h : F_X4_hide_7 x2 w7 x3 σ = some (r, τ)) : zAW G 7 RX4 cX4_hide 5 C 7 [(0, .ref (zad G 47)), (1, .ref (zad G 1)), (2, .int x2), (3, .int x3)] [] σ := by
  unfold F_X4_hide_7 at h
  refine z_iload e_X4_hide_7 3 rfl ?_
  refine z_ic e_X4_hide_8 ?_
  refine z_icmp_ge e_X4_hide_10 h (fun c2 h => ?_) (fun c2 h => ?_)
  · exact z_sub [0] rfl (p_X4_hide_71 hR  σ h)
  · refine z_aload e_X4_hide_13 0 rfl ?_
    refine z_geti gf_X4_140_47 e_X4_hide_14 ?_
    refine z_ic e_X4_hide_17 ?_
    refine z_icmp_ge e_X4_hide_18 h (fun c24 h => ?_) (fun c24 h => ?_)
    · exact z_sub [0] rfl (p_X4_hide_71 hR  σ h)
    · refine z_iload e_X4_hide_21 2 rfl ?_
      refine z_iload e_X4_hide_22 3 rfl ?_
      refine z_ishr e_X4_hide_23 ?_
      refine z_ic e_X4_hide_24 ?_
      refine z_iand e_X4_hide_25 ?_
      refine z_ic e_X4_hide_26 ?_
      refine z_icmp_ne e_X4_hide_27 h (fun c25 h => ?_) (fun c25 h => ?_)
      · refine z_aload e_X4_hide_30 0 rfl ?_
        refine z_getr gf_X4_29_47 e_X4_hide_31 ?_
        refine z_aload e_X4_hide_34 0 rfl ?_
        refine z_geti gf_X4_140_47 e_X4_hide_35 ?_
        refine z_iload e_X4_hide_38 3 rfl ?_
        refine z_iast sh_53 e_X4_hide_39 h (fun s26 h => ?_)
        refine z_aload e_X4_hide_40 0 rfl ?_
        refine z_getr gf_X4_32_47 e_X4_hide_41 ?_
        refine z_aload e_X4_hide_44 0 rfl ?_
        refine z_geti gf_X4_140_47 e_X4_hide_45 ?_
        refine z_aload e_X4_hide_48 1 rfl ?_
        refine z_getr gf_X4_143_1 e_X4_hide_49 ?_
        refine z_iload e_X4_hide_52 3 rfl ?_
        refine z_iald sh_7 e_X4_hide_53 h (fun h => ?_)
        refine z_iast sh_54 e_X4_hide_54 h (fun s27 h => ?_)
        refine z_aload e_X4_hide_55 0 rfl ?_
        refine z_dup e_X4_hide_56 rfl ?_
        refine z_geti gf_X4_140_47 e_X4_hide_57 ?_
        refine z_ic e_X4_hide_60 ?_
        refine z_iadd e_X4_hide_61 ?_
        refine z_puti pf_X4_140_47 e_X4_hide_62 h (fun s28 h => ?_)
        exact z_sub [0, 1, 2, 3] rfl (p_X4_hide_65 hR w7 x2 x3 hw7 s28 h)
      · exact z_sub [0, 1, 2, 3] rfl (p_X4_hide_65 hR w7 x2 x3 hw7 σ h)
noncomputable def F_X4_hide_7L (x2 : Int32) : ((Int32 × zSt) → Option (Int32 × zSt)) → (Int32 × zSt) → Option (Int32 × zSt) := fun w s => F_X4_hide_7 x2 w s.1 s.2
set_option maxRecDepth 100000 in
theorem l_X4_hide_7 {G : zG} {C : zC} {r : Int32} {τ : zSt} (hR : zR G C (some .int) (some (.int r)) τ) (x2 : Int32) : ∀ (N : Nat) (x3 : Int32) (σ : zSt), zfix (F_X4_hide_7L x2) N (x3, σ) = some (r, τ) → zAW G 7 RX4 cX4_hide 5 C 7 [(0, .ref (zad G 47)), (1, .ref (zad G 1)), (2, .int x2), (3, .int x3)] [] σ := by
  intro N
  induction N with
  | zero =>
    intro x3 σ h
    exact nomatch (show (none : Option (Int32 × zSt)) = some (r, τ) from h)
  | succ N ih =>
    intro x3 σ h
    exact b_X4_hide_7 hR x2 (zfix (F_X4_hide_7L x2) N) ih x3 σ h
noncomputable def F_X4_hide_0 (x2 : Int32) (σ : zSt) : Option (Int32 × zSt) :=
  nm (zwr σ 47 13 (0 : Int32)) (fun s1 =>
    zfix (F_X4_hide_7L x2) zlim ((0 : Int32), s1))
set_option maxHeartbeats 4000000 in
set_option maxRecDepth 100000 in
theorem p_X4_hide_0 {G : zG} {C : zC} {r : Int32} {τ : zSt} (hR : zR G C (some .int) (some (.int r)) τ) (x2 : Int32) (σ : zSt) (h : F_X4_hide_0 x2 σ = some (r, τ)) : zAW G 7 RX4 cX4_hide 5 C 0 [(0, .ref (zad G 47)), (1, .ref (zad G 1)), (2, .int x2)] [] σ := by
  unfold F_X4_hide_0 at h
  refine z_aload e_X4_hide_0 0 rfl ?_
  refine z_ic e_X4_hide_1 ?_
  refine z_puti pf_X4_140_47 e_X4_hide_2 h (fun s1 h => ?_)
  refine z_ic e_X4_hide_5 ?_
  refine z_istore e_X4_hide_6 (by decide) [(3, .int (0 : Int32)), (0, .ref (zad G 47)), (1, .ref (zad G 1)), (2, .int x2)] rfl ?_
  exact z_sub [1, 2, 3, 0] rfl (l_X4_hide_7 hR x2 zlim (0 : Int32) s1 h)
noncomputable def F_X4_hide (x2 : Int32) (σ : zSt) : Option (Int32 × zSt) := F_X4_hide_0 x2 σ
set_option maxRecDepth 100000 in
theorem m_X4_hide (G : zG) (x2 : Int32) (σ : zSt) (q : Int32) (τ : zSt) (h : F_X4_hide x2 σ = some (q, τ)) : zM G 7 yX4_hide cX4_hide 5 (some .int) [.ref (zad G 47), .ref (zad G 1), .int x2] σ (some (.int q)) τ := by
  unfold F_X4_hide at h
  refine zM.of (own := RX4) (by decide +kernel) rfl (Nat.le_of_ble_eq_true rfl) (fun C hR => ?_)
  exact z_sub [0, 1, 2] rfl (p_X4_hide_0 hR x2 σ h)
noncomputable def F_X4_putSo_2 (w2 : (Int32 × zSt) → Option (Unit × zSt)) (x2 : Int32) (σ : zSt) : Option (Unit × zSt) :=
  if (σ.1 47 13) ≤ x2 then (
    some ((), σ))
  else (
    if (4 : Int32) ≤ x2 then (
      some ((), σ))
    else (
      gd (vp_in x2 4) (
        gd (vp_in x2 4) (
          gd (vp_in ((σ.1 56 x2.toNatClampNeg) &&& (3 : Int32)) 4) (
            gd (vp_in ((σ.1 53 x2.toNatClampNeg) &&& (7 : Int32)) 8) (nm (zwr σ 7 ((σ.1 53 x2.toNatClampNeg) &&& (7 : Int32)).toNatClampNeg (σ.1 54 ((σ.1 56 x2.toNatClampNeg) &&& (3 : Int32)).toNatClampNeg)) (fun s3 =>
              nm (x2 + (1 : Int32)) (fun v4 =>
                w2 (v4, s3)))))))))
set_option maxHeartbeats 4000000 in
set_option maxRecDepth 100000 in
theorem b_X4_putSo_2 {G : zG} {C : zC} {r : Unit} {τ : zSt} (hR : zR G C none none τ) (w2 : (Int32 × zSt) → Option (Unit × zSt)) (hw2 : ∀ (x2 : Int32) (σ : zSt), w2 (x2, σ) = some (r, τ) → zAW G 1 RX4 cX4_putSo 3 C 2 [(0, .ref (zad G 47)), (1, .ref (zad G 1)), (2, .int x2)] [] σ) (x2 : Int32) (σ : zSt) (h : F_X4_putSo_2 w2 x2 σ = some (r, τ)) : zAW G 1 RX4 cX4_putSo 3 C 2 [(0, .ref (zad G 47)), (1, .ref (zad G 1)), (2, .int x2)] [] σ := by
  unfold F_X4_putSo_2 at h
  refine z_iload e_X4_putSo_2 2 rfl ?_
  refine z_aload e_X4_putSo_3 0 rfl ?_
  refine z_geti gf_X4_140_47 e_X4_putSo_4 ?_
  refine z_icmp_ge e_X4_putSo_7 h (fun c1 h => ?_) (fun c1 h => ?_)
  · cases h
    exact z_vreturn hR e_X4_putSo_48
  · refine z_iload e_X4_putSo_10 2 rfl ?_
    refine z_ic e_X4_putSo_11 ?_
    refine z_icmp_ge e_X4_putSo_12 h (fun c2 h => ?_) (fun c2 h => ?_)
    · cases h
      exact z_vreturn hR e_X4_putSo_48
    · refine z_aload e_X4_putSo_15 1 rfl ?_
      refine z_getr gf_X4_143_1 e_X4_putSo_16 ?_
      refine z_aload e_X4_putSo_19 0 rfl ?_
      refine z_getr gf_X4_29_47 e_X4_putSo_20 ?_
      refine z_iload e_X4_putSo_23 2 rfl ?_
      refine z_iald sh_53 e_X4_putSo_24 h (fun h => ?_)
      refine z_ic e_X4_putSo_25 ?_
      refine z_iand e_X4_putSo_27 ?_
      refine z_aload e_X4_putSo_28 0 rfl ?_
      refine z_getr gf_X4_32_47 e_X4_putSo_29 ?_
      refine z_aload e_X4_putSo_32 0 rfl ?_
      refine z_getr gf_X4_38_47 e_X4_putSo_33 ?_
      refine z_iload e_X4_putSo_36 2 rfl ?_
      refine z_iald sh_56 e_X4_putSo_37 h (fun h => ?_)
      refine z_ic e_X4_putSo_38 ?_
      refine z_iand e_X4_putSo_39 ?_
      refine z_iald sh_54 e_X4_putSo_40 h (fun h => ?_)
      refine z_iast sh_7 e_X4_putSo_41 h (fun s3 h => ?_)
      refine z_iinc e_X4_putSo_42 2 rfl (by decide) (by decide) h (fun y => [(2, .int y), (0, .ref (zad G 47)), (1, .ref (zad G 1))]) (fun _ => rfl) (fun v4 h => ?_)
      refine z_goto e_X4_putSo_45 ?_
      exact z_sub [1, 2, 0] rfl (hw2 v4 s3 h)
noncomputable def F_X4_putSo_2L  : ((Int32 × zSt) → Option (Unit × zSt)) → (Int32 × zSt) → Option (Unit × zSt) := fun w s => F_X4_putSo_2 w s.1 s.2
set_option maxRecDepth 100000 in
theorem l_X4_putSo_2 {G : zG} {C : zC} {r : Unit} {τ : zSt} (hR : zR G C none none τ)  : ∀ (N : Nat) (x2 : Int32) (σ : zSt), zfix (F_X4_putSo_2L ) N (x2, σ) = some (r, τ) → zAW G 1 RX4 cX4_putSo 3 C 2 [(0, .ref (zad G 47)), (1, .ref (zad G 1)), (2, .int x2)] [] σ := by
  intro N
  induction N with
  | zero =>
    intro x2 σ h
    exact nomatch (show (none : Option (Unit × zSt)) = some (r, τ) from h)
  | succ N ih =>
    intro x2 σ h
    exact b_X4_putSo_2 hR (zfix (F_X4_putSo_2L ) N) ih x2 σ h
noncomputable def F_X4_putSo_0 (σ : zSt) : Option (Unit × zSt) :=
  zfix (F_X4_putSo_2L ) zlim ((0 : Int32), σ)
set_option maxHeartbeats 4000000 in
set_option maxRecDepth 100000 in
theorem p_X4_putSo_0 {G : zG} {C : zC} {r : Unit} {τ : zSt} (hR : zR G C none none τ)  (σ : zSt) (h : F_X4_putSo_0 σ = some (r, τ)) : zAW G 1 RX4 cX4_putSo 3 C 0 [(0, .ref (zad G 47)), (1, .ref (zad G 1))] [] σ := by
  unfold F_X4_putSo_0 at h
  refine z_ic e_X4_putSo_0 ?_
  refine z_istore e_X4_putSo_1 (by decide) [(2, .int (0 : Int32)), (0, .ref (zad G 47)), (1, .ref (zad G 1))] rfl ?_
  exact z_sub [1, 2, 0] rfl (l_X4_putSo_2 hR  zlim (0 : Int32) σ h)
noncomputable def F_X4_putSo (σ : zSt) : Option (Unit × zSt) := F_X4_putSo_0  σ
set_option maxRecDepth 100000 in
theorem m_X4_putSo (G : zG) (σ : zSt) (q : Unit) (τ : zSt) (h : F_X4_putSo  σ = some (q, τ)) : zM G 1 yX4_putSo cX4_putSo 3 none [.ref (zad G 47), .ref (zad G 1)] σ none τ := by
  unfold F_X4_putSo at h
  refine zM.of (own := RX4) (by decide +kernel) rfl (Nat.le_of_ble_eq_true rfl) (fun C hR => ?_)
  exact z_sub [0, 1] rfl (p_X4_putSo_0 hR  σ h)
noncomputable def F_X4_placeOfWhich_25 (x2 : Int32) (σ : zSt) : Option (Int32 × zSt) :=
  gd (vp_in x2 4) (
    gd (vp_in ((σ.1 56 x2.toNatClampNeg) &&& (3 : Int32)) 4) (
      some ((σ.1 53 ((σ.1 56 x2.toNatClampNeg) &&& (3 : Int32)).toNatClampNeg), σ)))
set_option maxHeartbeats 4000000 in
set_option maxRecDepth 100000 in
theorem p_X4_placeOfWhich_25 {G : zG} {C : zC} {r : Int32} {τ : zSt} (hR : zR G C (some .int) (some (.int r)) τ) (x2 : Int32) (σ : zSt) (h : F_X4_placeOfWhich_25 x2 σ = some (r, τ)) : zAW G 1 RX4 cX4_placeOfWhich 3 C 25 [(0, .ref (zad G 47)), (2, .int x2)] [] σ := by
  unfold F_X4_placeOfWhich_25 at h
  refine z_aload e_X4_placeOfWhich_25 0 rfl ?_
  refine z_getr gf_X4_29_47 e_X4_placeOfWhich_26 ?_
  refine z_aload e_X4_placeOfWhich_29 0 rfl ?_
  refine z_getr gf_X4_38_47 e_X4_placeOfWhich_30 ?_
  refine z_iload e_X4_placeOfWhich_33 1 rfl ?_
  refine z_iald sh_56 e_X4_placeOfWhich_34 h (fun h => ?_)
  refine z_ic e_X4_placeOfWhich_35 ?_
  refine z_iand e_X4_placeOfWhich_36 ?_
  refine z_iald sh_53 e_X4_placeOfWhich_37 h (fun h => ?_)
  cases h
  exact z_ireturn hR e_X4_placeOfWhich_38
noncomputable def F_X4_placeOfWhich_2 (x1 : Int32) (w2 : (Int32 × zSt) → Option (Int32 × zSt)) (x2 : Int32) (σ : zSt) : Option (Int32 × zSt) :=
  if (σ.1 47 13) ≤ x2 then (
    some ((-1 : Int32), σ))
  else (
    if (4 : Int32) ≤ x2 then (
      some ((-1 : Int32), σ))
    else (
      gd (vp_in x2 4) (
        if (σ.1 53 x2.toNatClampNeg) = x1 then (
          F_X4_placeOfWhich_25 x2 σ)
        else (
          nm (x2 + (1 : Int32)) (fun v4 =>
            w2 (v4, σ))))))
set_option maxHeartbeats 4000000 in
set_option maxRecDepth 100000 in
theorem b_X4_placeOfWhich_2 {G : zG} {C : zC} {r : Int32} {τ : zSt} (hR : zR G C (some .int) (some (.int r)) τ) (x1 : Int32) (w2 : (Int32 × zSt) → Option (Int32 × zSt)) (hw2 : ∀ (x2 : Int32) (σ : zSt), w2 (x2, σ) = some (r, τ) → zAW G 1 RX4 cX4_placeOfWhich 3 C 2 [(0, .ref (zad G 47)), (1, .int x1), (2, .int x2)] [] σ) (x2 : Int32) (σ : zSt) (h : F_X4_placeOfWhich_2 x1 w2 x2 σ = some (r, τ)) : zAW G 1 RX4 cX4_placeOfWhich 3 C 2 [(0, .ref (zad G 47)), (1, .int x1), (2, .int x2)] [] σ := by
  unfold F_X4_placeOfWhich_2 at h
  refine z_iload e_X4_placeOfWhich_2 2 rfl ?_
  refine z_aload e_X4_placeOfWhich_3 0 rfl ?_
  refine z_geti gf_X4_140_47 e_X4_placeOfWhich_4 ?_
  refine z_icmp_ge e_X4_placeOfWhich_7 h (fun c1 h => ?_) (fun c1 h => ?_)
  · refine z_ic e_X4_placeOfWhich_45 ?_
    cases h
    exact z_ireturn hR e_X4_placeOfWhich_46
  · refine z_iload e_X4_placeOfWhich_10 2 rfl ?_
    refine z_ic e_X4_placeOfWhich_11 ?_
    refine z_icmp_ge e_X4_placeOfWhich_12 h (fun c2 h => ?_) (fun c2 h => ?_)
    · refine z_ic e_X4_placeOfWhich_45 ?_
      cases h
      exact z_ireturn hR e_X4_placeOfWhich_46
    · refine z_aload e_X4_placeOfWhich_15 0 rfl ?_
      refine z_getr gf_X4_29_47 e_X4_placeOfWhich_16 ?_
      refine z_iload e_X4_placeOfWhich_19 2 rfl ?_
      refine z_iald sh_53 e_X4_placeOfWhich_20 h (fun h => ?_)
      refine z_iload e_X4_placeOfWhich_21 1 rfl ?_
      refine z_icmp_ne e_X4_placeOfWhich_22 h (fun c3 h => ?_) (fun c3 h => ?_)
      · exact z_sub [0, 2] rfl (p_X4_placeOfWhich_25 hR x2 σ h)
      · refine z_iinc e_X4_placeOfWhich_39 2 rfl (by decide) (by decide) h (fun y => [(2, .int y), (0, .ref (zad G 47)), (1, .int x1)]) (fun _ => rfl) (fun v4 h => ?_)
        refine z_goto e_X4_placeOfWhich_42 ?_
        exact z_sub [1, 2, 0] rfl (hw2 v4 σ h)
noncomputable def F_X4_placeOfWhich_2L (x1 : Int32) : ((Int32 × zSt) → Option (Int32 × zSt)) → (Int32 × zSt) → Option (Int32 × zSt) := fun w s => F_X4_placeOfWhich_2 x1 w s.1 s.2
set_option maxRecDepth 100000 in
theorem l_X4_placeOfWhich_2 {G : zG} {C : zC} {r : Int32} {τ : zSt} (hR : zR G C (some .int) (some (.int r)) τ) (x1 : Int32) : ∀ (N : Nat) (x2 : Int32) (σ : zSt), zfix (F_X4_placeOfWhich_2L x1) N (x2, σ) = some (r, τ) → zAW G 1 RX4 cX4_placeOfWhich 3 C 2 [(0, .ref (zad G 47)), (1, .int x1), (2, .int x2)] [] σ := by
  intro N
  induction N with
  | zero =>
    intro x2 σ h
    exact nomatch (show (none : Option (Int32 × zSt)) = some (r, τ) from h)
  | succ N ih =>
    intro x2 σ h
    exact b_X4_placeOfWhich_2 hR x1 (zfix (F_X4_placeOfWhich_2L x1) N) ih x2 σ h
noncomputable def F_X4_placeOfWhich_0 (x1 : Int32) (σ : zSt) : Option (Int32 × zSt) :=
  zfix (F_X4_placeOfWhich_2L x1) zlim ((0 : Int32), σ)
set_option maxHeartbeats 4000000 in
set_option maxRecDepth 100000 in
theorem p_X4_placeOfWhich_0 {G : zG} {C : zC} {r : Int32} {τ : zSt} (hR : zR G C (some .int) (some (.int r)) τ) (x1 : Int32) (σ : zSt) (h : F_X4_placeOfWhich_0 x1 σ = some (r, τ)) : zAW G 1 RX4 cX4_placeOfWhich 3 C 0 [(0, .ref (zad G 47)), (1, .int x1)] [] σ := by
  unfold F_X4_placeOfWhich_0 at h
  refine z_ic e_X4_placeOfWhich_0 ?_
  refine z_istore e_X4_placeOfWhich_1 (by decide) [(2, .int (0 : Int32)), (0, .ref (zad G 47)), (1, .int x1)] rfl ?_
  exact z_sub [1, 2, 0] rfl (l_X4_placeOfWhich_2 hR x1 zlim (0 : Int32) σ h)
noncomputable def F_X4_placeOfWhich (x1 : Int32) (σ : zSt) : Option (Int32 × zSt) := F_X4_placeOfWhich_0 x1 σ
set_option maxRecDepth 100000 in
theorem m_X4_placeOfWhich (G : zG) (x1 : Int32) (σ : zSt) (q : Int32) (τ : zSt) (h : F_X4_placeOfWhich x1 σ = some (q, τ)) : zM G 1 yX4_placeOfWhich cX4_placeOfWhich 3 (some .int) [.ref (zad G 47), .int x1] σ (some (.int q)) τ := by
  unfold F_X4_placeOfWhich at h
  refine zM.of (own := RX4) (by decide +kernel) rfl (Nat.le_of_ble_eq_true rfl) (fun C hR => ?_)
  exact z_sub [0, 1] rfl (p_X4_placeOfWhich_0 hR x1 σ h)
noncomputable def F_X11_hidden_62 (x1 : Int32) (x2 : Int32) (x3 : Int32) (σ : zSt) : Option (Int32 × zSt) :=
  bd (F_X4_hide x1 σ) (fun q15 s14 =>
    if q15 = (-1 : Int32) then (
      some ((-2 : Int32), s14))
    else (
      if x3 = 0 then (
        if x2 = (11 : Int32) then (
          bd (F_X4_putSo s14) (fun _ s20 =>
            some (q15, s20)))
        else (
          some (q15, s14)))
      else (
        bd (F_X4_placeOfWhich x2 s14) (fun q24 s23 =>
          some (q24, s23)))))
set_option maxHeartbeats 4000000 in
set_option maxRecDepth 100000 in
theorem p_X11_hidden_62 {G : zG} {C : zC} {r : Int32} {τ : zSt} (hR : zR G C (some .int) (some (.int r)) τ) (x1 : Int32) (x2 : Int32) (x3 : Int32) (σ : zSt) (h : F_X11_hidden_62 x1 x2 x3 σ = some (r, τ)) : zAW G 8 RX11 cX11_hidden 5 C 62 [(0, .ref (zad G 0)), (1, .int x1), (2, .int x2), (3, .int x3)] [] σ := by
  unfold F_X11_hidden_62 at h
  refine z_aload e_X11_hidden_62 0 rfl ?_
  refine z_getr gf_X11_66_0 e_X11_hidden_63 ?_
  refine z_aload e_X11_hidden_66 0 rfl ?_
  refine z_getr gf_X11_23_0 e_X11_hidden_67 ?_
  refine z_iload e_X11_hidden_70 1 rfl ?_
  obtain ⟨q15, s14, e16, h⟩ := bd_e h
  refine z_callVi (c0 := 47) (As := [.ref (zad G 1), .int x1]) (rest := []) lk_X11_191 ob_47 e_X11_hidden_71 (m_X4_hide G x1 σ _ _ e16) (by decide) rfl (Nat.le_of_ble_eq_true rfl) ?_
  refine z_istore e_X11_hidden_74 (by decide) [(4, .int q15), (0, .ref (zad G 0)), (1, .int x1), (2, .int x2), (3, .int x3)] rfl ?_
  refine z_iload e_X11_hidden_76 0 rfl ?_
  refine z_ic e_X11_hidden_78 ?_
  refine z_icmp_ne e_X11_hidden_79 h (fun c17 h => ?_) (fun c17 h => ?_)
  · refine z_ic e_X11_hidden_82 ?_
    cases h
    exact z_ireturn hR e_X11_hidden_84
  · refine z_iload e_X11_hidden_85 4 rfl ?_
    refine z_if_eq e_X11_hidden_86 h (fun c18 h => ?_) (fun c18 h => ?_)
    · refine z_iload e_X11_hidden_98 3 rfl ?_
      refine z_ic e_X11_hidden_99 ?_
      refine z_icmp_ne e_X11_hidden_101 h (fun c19 h => ?_) (fun c19 h => ?_)
      · refine z_aload e_X11_hidden_104 1 rfl ?_
        refine z_getr gf_X11_66_0 e_X11_hidden_105 ?_
        refine z_aload e_X11_hidden_108 1 rfl ?_
        refine z_getr gf_X11_23_0 e_X11_hidden_109 ?_
        obtain ⟨q21, s20, e22, h⟩ := bd_e h
        refine z_callVv (c0 := 47) (As := [.ref (zad G 1)]) (rest := []) lk_X11_198 ob_47 e_X11_hidden_112 (m_X4_putSo G s14 _ _ e22) (by decide) rfl (Nat.le_of_ble_eq_true rfl) ?_
        refine z_iload e_X11_hidden_115 0 rfl ?_
        cases h
        exact z_ireturn hR e_X11_hidden_117
      · refine z_iload e_X11_hidden_115 0 rfl ?_
        cases h
        exact z_ireturn hR e_X11_hidden_117
    · refine z_aload e_X11_hidden_89 1 rfl ?_
      refine z_getr gf_X11_66_0 e_X11_hidden_90 ?_
      refine z_iload e_X11_hidden_93 3 rfl ?_
      obtain ⟨q24, s23, e25, h⟩ := bd_e h
      refine z_callVi (c0 := 47) (As := [.int x2]) (rest := []) lk_X11_195 ob_47 e_X11_hidden_94 (m_X4_placeOfWhich G x2 s14 _ _ e25) (by decide) rfl (Nat.le_of_ble_eq_true rfl) ?_
      cases h
      exact z_ireturn hR e_X11_hidden_97
noncomputable def F_X11_hidden_0 (x1 : Int32) (x2 : Int32) (σ : zSt) : Option (Int32 × zSt) :=
  bd (F_X11_heartIsTold σ) (fun q2 s1 =>
    if q2 = 0 then (
      some ((-1 : Int32), s1))
    else (
      bd (F_X10_areInPlaces x1 s1) (fun q6 s5 =>
        if q6 = 0 then (
          some ((-1 : Int32), s5))
        else (
          bd (F_X11_isBelow x2 (8 : Int32) s5) (fun q10 s9 =>
            nm (if q10 = 0 then (0 : Int32) else (if ((x1 >>> (x2 &&& 31)) &&& (1 : Int32)) = (1 : Int32) then (1 : Int32) else (0 : Int32))) (fun v12 =>
              if x2 = (10 : Int32) then (
                F_X11_hidden_62 x1 x2 v12 s9)
              else (
                if x2 = (11 : Int32) then (
                  F_X11_hidden_62 x1 x2 v12 s9)
                else (
                  if v12 = 0 then (
                    some ((-1 : Int32), s9))
                  else (
                    F_X11_hidden_62 x1 x2 v12 s9)))))))))
set_option maxHeartbeats 4000000 in
set_option maxRecDepth 100000 in
theorem p_X11_hidden_0 {G : zG} {C : zC} {r : Int32} {τ : zSt} (hR : zR G C (some .int) (some (.int r)) τ) (x1 : Int32) (x2 : Int32) (σ : zSt) (h : F_X11_hidden_0 x1 x2 σ = some (r, τ)) : zAW G 8 RX11 cX11_hidden 5 C 0 [(0, .ref (zad G 0)), (1, .int x1), (2, .int x2)] [] σ := by
  unfold F_X11_hidden_0 at h
  refine z_aload e_X11_hidden_0 0 rfl ?_
  obtain ⟨q2, s1, e3, h⟩ := bd_e h
  refine z_callVi (c0 := 0) (As := []) (rest := []) lk_X11_159 ob_0 e_X11_hidden_1 (m_X11_heartIsTold G σ _ _ e3) (by decide) rfl (Nat.le_of_ble_eq_true rfl) ?_
  refine z_if_eq e_X11_hidden_4 h (fun c4 h => ?_) (fun c4 h => ?_)
  · refine z_ic e_X11_hidden_18 ?_
    cases h
    exact z_ireturn hR e_X11_hidden_19
  · refine z_aload e_X11_hidden_7 0 rfl ?_
    refine z_getr gf_X11_23_0 e_X11_hidden_8 ?_
    refine z_iload e_X11_hidden_11 1 rfl ?_
    obtain ⟨q6, s5, e7, h⟩ := bd_e h
    refine z_callVi (c0 := 1) (As := [.int x1]) (rest := []) lk_X11_188 ob_1 e_X11_hidden_12 (m_X10_areInPlaces G x1 s1 _ _ e7) (by decide) rfl (Nat.le_of_ble_eq_true rfl) ?_
    refine z_if_ne e_X11_hidden_15 h (fun c8 h => ?_) (fun c8 h => ?_)
    · refine z_ic e_X11_hidden_18 ?_
      cases h
      exact z_ireturn hR e_X11_hidden_19
    · refine z_iload e_X11_hidden_20 2 rfl ?_
      refine z_ic e_X11_hidden_21 ?_
      obtain ⟨q10, s9, e11, h⟩ := bd_e h
      refine z_callSi (As := [.int x2, .int (8 : Int32)]) (rest := []) lk_X11_104 e_X11_hidden_23 (m_X11_isBelow G x2 (8 : Int32) s5 _ _ e11) (by decide) rfl (Nat.le_of_ble_eq_true rfl) ?_
      obtain ⟨v12, ev12, h⟩ := nm_i h
      have jv12 : zAW G 8 RX11 cX11_hidden 5 C 43 [(0, .ref (zad G 0)), (1, .int x1), (2, .int x2)] [.int v12] s9 := by
        refine z_istore e_X11_hidden_43 (by decide) [(3, .int v12), (0, .ref (zad G 0)), (1, .int x1), (2, .int x2)] rfl ?_
        refine z_iload e_X11_hidden_44 3 rfl ?_
        refine z_ic e_X11_hidden_45 ?_
        refine z_icmp_eq e_X11_hidden_47 h (fun c13 h => ?_) (fun c13 h => ?_)
        · exact z_sub [1, 2, 3, 0] rfl (p_X11_hidden_62 hR x1 x2 v12 s9 h)
        · refine z_iload e_X11_hidden_50 3 rfl ?_
          refine z_ic e_X11_hidden_51 ?_
          refine z_icmp_eq e_X11_hidden_53 h (fun c26 h => ?_) (fun c26 h => ?_)
          · exact z_sub [1, 2, 3, 0] rfl (p_X11_hidden_62 hR x1 x2 v12 s9 h)
          · refine z_iload e_X11_hidden_56 0 rfl ?_
            refine z_if_ne e_X11_hidden_57 h (fun c27 h => ?_) (fun c27 h => ?_)
            · refine z_ic e_X11_hidden_60 ?_
              cases h
              exact z_ireturn hR e_X11_hidden_61
            · exact z_sub [1, 2, 3, 0] rfl (p_X11_hidden_62 hR x1 x2 v12 s9 h)
      refine y_if_eq e_X11_hidden_26 (fun c28 => ?_) (fun c28 => ?_)
      · refine z_ic e_X11_hidden_42 ?_
        rw [if_pos c28] at ev12
        subst ev12
        exact z_sub [0, 1, 2] rfl jv12
      · refine z_iload e_X11_hidden_29 1 rfl ?_
        refine z_iload e_X11_hidden_30 2 rfl ?_
        refine z_ishr e_X11_hidden_31 ?_
        refine z_ic e_X11_hidden_32 ?_
        refine z_iand e_X11_hidden_33 ?_
        refine z_ic e_X11_hidden_34 ?_
        refine y_icmp_ne e_X11_hidden_35 (fun c29 => ?_) (fun c29 => ?_)
        · refine z_ic e_X11_hidden_38 ?_
          refine z_goto e_X11_hidden_39 ?_
          rw [if_neg c28, if_pos c29] at ev12
          subst ev12
          exact z_sub [0, 1, 2] rfl jv12
        · refine z_ic e_X11_hidden_42 ?_
          rw [if_neg c28, if_neg c29] at ev12
          subst ev12
          exact z_sub [0, 1, 2] rfl jv12
noncomputable def F_X11_hidden (x1 : Int32) (x2 : Int32) (σ : zSt) : Option (Int32 × zSt) := F_X11_hidden_0 x1 x2 σ
set_option maxRecDepth 100000 in
theorem m_X11_hidden (G : zG) (x1 : Int32) (x2 : Int32) (σ : zSt) (q : Int32) (τ : zSt) (h : F_X11_hidden x1 x2 σ = some (q, τ)) : zM G 8 yX11_hidden cX11_hidden 5 (some .int) [.ref (zad G 0), .int x1, .int x2] σ (some (.int q)) τ := by
  unfold F_X11_hidden at h
  refine zM.of (own := RX11) (by decide +kernel) rfl (Nat.le_of_ble_eq_true rfl) (fun C hR => ?_)
  exact z_sub [0, 1, 2] rfl (p_X11_hidden_0 hR x1 x2 σ h)
noncomputable def F_X12_bits_4 (x0 : Int32) (w4 : (Int32 × Int32 × zSt) → Option (Int32 × zSt)) (x1 : Int32) (x2 : Int32) (σ : zSt) : Option (Int32 × zSt) :=
  if (8 : Int32) ≤ x2 then (
    some (x1, σ))
  else (
    nm (x1 + ((x0 >>> (x2 &&& 31)) &&& (1 : Int32))) (fun v2 =>
      nm (x2 + (1 : Int32)) (fun v3 =>
        w4 (v2, v3, σ))))
set_option maxHeartbeats 4000000 in
set_option maxRecDepth 100000 in
theorem b_X12_bits_4 {G : zG} {C : zC} {r : Int32} {τ : zSt} (hR : zR G C (some .int) (some (.int r)) τ) (x0 : Int32) (w4 : (Int32 × Int32 × zSt) → Option (Int32 × zSt)) (hw4 : ∀ (x1 : Int32) (x2 : Int32) (σ : zSt), w4 (x1, x2, σ) = some (r, τ) → zAW G 1 RX12 cX12_bits 3 C 4 [(0, .int x0), (1, .int x1), (2, .int x2)] [] σ) (x1 : Int32) (x2 : Int32) (σ : zSt) (h : F_X12_bits_4 x0 w4 x1 x2 σ = some (r, τ)) : zAW G 1 RX12 cX12_bits 3 C 4 [(0, .int x0), (1, .int x1), (2, .int x2)] [] σ := by
  unfold F_X12_bits_4 at h
  refine z_iload e_X12_bits_4 2 rfl ?_
  refine z_ic e_X12_bits_5 ?_
  refine z_icmp_ge e_X12_bits_7 h (fun c1 h => ?_) (fun c1 h => ?_)
  · refine z_iload e_X12_bits_24 1 rfl ?_
    cases h
    exact z_ireturn hR e_X12_bits_25
  · refine z_iload e_X12_bits_10 1 rfl ?_
    refine z_iload e_X12_bits_11 0 rfl ?_
    refine z_iload e_X12_bits_12 2 rfl ?_
    refine z_ishr e_X12_bits_13 ?_
    refine z_ic e_X12_bits_14 ?_
    refine z_iand e_X12_bits_15 ?_
    refine z_iadd e_X12_bits_16 ?_
    refine z_nmI h (fun v2 h => ?_)
    refine z_istore e_X12_bits_17 (by decide) [(1, .int v2), (0, .int x0), (2, .int x2)] rfl ?_
    refine z_iinc e_X12_bits_18 2 rfl (by decide) (by decide) h (fun y => [(2, .int y), (1, .int v2), (0, .int x0)]) (fun _ => rfl) (fun v3 h => ?_)
    refine z_goto e_X12_bits_21 ?_
    exact z_sub [2, 1, 0] rfl (hw4 v2 v3 σ h)
noncomputable def F_X12_bits_4L (x0 : Int32) : ((Int32 × Int32 × zSt) → Option (Int32 × zSt)) → (Int32 × Int32 × zSt) → Option (Int32 × zSt) := fun w s => F_X12_bits_4 x0 w s.1 s.2.1 s.2.2
set_option maxRecDepth 100000 in
theorem l_X12_bits_4 {G : zG} {C : zC} {r : Int32} {τ : zSt} (hR : zR G C (some .int) (some (.int r)) τ) (x0 : Int32) : ∀ (N : Nat) (x1 : Int32) (x2 : Int32) (σ : zSt), zfix (F_X12_bits_4L x0) N (x1, x2, σ) = some (r, τ) → zAW G 1 RX12 cX12_bits 3 C 4 [(0, .int x0), (1, .int x1), (2, .int x2)] [] σ := by
  intro N
  induction N with
  | zero =>
    intro x1 x2 σ h
    exact nomatch (show (none : Option (Int32 × zSt)) = some (r, τ) from h)
  | succ N ih =>
    intro x1 x2 σ h
    exact b_X12_bits_4 hR x0 (zfix (F_X12_bits_4L x0) N) ih x1 x2 σ h
noncomputable def F_X12_bits_0 (x0 : Int32) (σ : zSt) : Option (Int32 × zSt) :=
  zfix (F_X12_bits_4L x0) zlim ((0 : Int32), (0 : Int32), σ)
set_option maxHeartbeats 4000000 in
set_option maxRecDepth 100000 in
theorem p_X12_bits_0 {G : zG} {C : zC} {r : Int32} {τ : zSt} (hR : zR G C (some .int) (some (.int r)) τ) (x0 : Int32) (σ : zSt) (h : F_X12_bits_0 x0 σ = some (r, τ)) : zAW G 1 RX12 cX12_bits 3 C 0 [(0, .int x0)] [] σ := by
  unfold F_X12_bits_0 at h
  refine z_ic e_X12_bits_0 ?_
  refine z_istore e_X12_bits_1 (by decide) [(1, .int (0 : Int32)), (0, .int x0)] rfl ?_
  refine z_ic e_X12_bits_2 ?_
  refine z_istore e_X12_bits_3 (by decide) [(2, .int (0 : Int32)), (1, .int (0 : Int32)), (0, .int x0)] rfl ?_
  exact z_sub [2, 1, 0] rfl (l_X12_bits_4 hR x0 zlim (0 : Int32) (0 : Int32) σ h)
noncomputable def F_X12_bits (x0 : Int32) (σ : zSt) : Option (Int32 × zSt) := F_X12_bits_0 x0 σ
set_option maxRecDepth 100000 in
theorem m_X12_bits (G : zG) (x0 : Int32) (σ : zSt) (q : Int32) (τ : zSt) (h : F_X12_bits x0 σ = some (q, τ)) : zM G 1 yX12_bits cX12_bits 3 (some .int) [.int x0] σ (some (.int q)) τ := by
  unfold F_X12_bits at h
  refine zM.of (own := RX12) (by decide +kernel) rfl (Nat.le_of_ble_eq_true rfl) (fun C hR => ?_)
  exact z_sub [0] rfl (p_X12_bits_0 hR x0 σ h)
noncomputable def F_X12_readsRow_12 (w12 : (Int32 × Int32 × Int32 × zSt) → Option (Int32 × zSt)) (x2 : Int32) (x3 : Int32) (x4 : Int32) (σ : zSt) : Option (Int32 × zSt) :=
  if x4 < 0 then (
    some ((1 : Int32), σ))
  else (
    gd (¬ (σ.1 69 53) = 0) (
      gd (vp_in x4 4) (nm (zwr σ 98 x4.toNatClampNeg (x2 % (σ.1 69 53))) (fun s4 =>
        gd (¬ (s4.1 69 53) = 0) (
          nm (x2 / (s4.1 69 53)) (fun v6 =>
            gd (vp_in x4 4) (
              bd (F_X12_has x3 (s4.1 98 x4.toNatClampNeg) s4) (fun q8 s7 =>
                if q8 = 0 then (
                  gd (vp_in x4 4) (
                    nm (x3 ||| ((1 : Int32) <<< ((s7.1 98 x4.toNatClampNeg) &&& 31))) (fun v11 =>
                      nm (x4 + (-1 : Int32)) (fun v12 =>
                        w12 (v6, v11, v12, s7)))))
                else (
                  some ((0 : Int32), s7))))))))))
set_option maxHeartbeats 4000000 in
set_option maxRecDepth 100000 in
theorem b_X12_readsRow_12 {G : zG} {C : zC} {r : Int32} {τ : zSt} (hR : zR G C (some .boolean) (some (.int r)) τ) (w12 : (Int32 × Int32 × Int32 × zSt) → Option (Int32 × zSt)) (hw12 : ∀ (x2 : Int32) (x3 : Int32) (x4 : Int32) (σ : zSt), w12 (x2, x3, x4, σ) = some (r, τ) → zAW G 2 RX12 cX12_readsRow 5 C 12 [(0, .ref (zad G 69)), (2, .int x2), (3, .int x3), (4, .int x4)] [] σ) (x2 : Int32) (x3 : Int32) (x4 : Int32) (σ : zSt) (h : F_X12_readsRow_12 w12 x2 x3 x4 σ = some (r, τ)) : zAW G 2 RX12 cX12_readsRow 5 C 12 [(0, .ref (zad G 69)), (2, .int x2), (3, .int x3), (4, .int x4)] [] σ := by
  unfold F_X12_readsRow_12 at h
  refine z_iload e_X12_readsRow_12 3 rfl ?_
  refine z_if_lt e_X12_readsRow_14 h (fun c2 h => ?_) (fun c2 h => ?_)
  · refine z_ic e_X12_readsRow_71 ?_
    cases h
    exact z_zreturn hR e_X12_readsRow_72 (Or.inr rfl)
  · refine z_aload e_X12_readsRow_17 0 rfl ?_
    refine z_getr gf_X12_95_69 e_X12_readsRow_18 ?_
    refine z_iload e_X12_readsRow_21 3 rfl ?_
    refine z_iload e_X12_readsRow_23 1 rfl ?_
    refine z_aload e_X12_readsRow_24 0 rfl ?_
    refine z_geti gf_X12_410_69 e_X12_readsRow_25 ?_
    obtain ⟨hy3, h⟩ := gd_e h
    refine z_irem e_X12_readsRow_28 hy3 ?_
    refine z_iast sh_98 e_X12_readsRow_29 h (fun s4 h => ?_)
    refine z_iload e_X12_readsRow_30 1 rfl ?_
    refine z_aload e_X12_readsRow_31 0 rfl ?_
    refine z_geti gf_X12_410_69 e_X12_readsRow_32 ?_
    obtain ⟨hy5, h⟩ := gd_e h
    refine z_idiv e_X12_readsRow_35 hy5 ?_
    refine z_nmI h (fun v6 h => ?_)
    refine z_istore e_X12_readsRow_36 (by decide) [(2, .int v6), (0, .ref (zad G 69)), (3, .int x3), (4, .int x4)] rfl ?_
    refine z_iload e_X12_readsRow_37 2 rfl ?_
    refine z_aload e_X12_readsRow_38 1 rfl ?_
    refine z_getr gf_X12_95_69 e_X12_readsRow_39 ?_
    refine z_iload e_X12_readsRow_42 3 rfl ?_
    refine z_iald sh_98 e_X12_readsRow_44 h (fun h => ?_)
    obtain ⟨q8, s7, e9, h⟩ := bd_e h
    refine z_callSi (As := [.int x3, .int (s4.1 98 x4.toNatClampNeg)]) (rest := []) lk_X12_156 e_X12_readsRow_45 (m_X12_has G x3 (s4.1 98 x4.toNatClampNeg) s4 _ _ e9) (by decide) rfl (Nat.le_of_ble_eq_true rfl) ?_
    refine z_if_eq e_X12_readsRow_48 h (fun c10 h => ?_) (fun c10 h => ?_)
    · refine z_iload e_X12_readsRow_53 2 rfl ?_
      refine z_ic e_X12_readsRow_54 ?_
      refine z_aload e_X12_readsRow_55 1 rfl ?_
      refine z_getr gf_X12_95_69 e_X12_readsRow_56 ?_
      refine z_iload e_X12_readsRow_59 3 rfl ?_
      refine z_iald sh_98 e_X12_readsRow_61 h (fun h => ?_)
      refine z_ishl e_X12_readsRow_62 ?_
      refine z_ior e_X12_readsRow_63 ?_
      refine z_nmI h (fun v11 h => ?_)
      refine z_istore e_X12_readsRow_64 (by decide) [(3, .int v11), (2, .int v6), (0, .ref (zad G 69)), (4, .int x4)] rfl ?_
      refine z_iinc e_X12_readsRow_65 3 rfl (by decide) (by decide) h (fun y => [(4, .int y), (3, .int v11), (2, .int v6), (0, .ref (zad G 69))]) (fun _ => rfl) (fun v12 h => ?_)
      refine z_goto e_X12_readsRow_68 ?_
      exact z_sub [3, 2, 1, 0] rfl (hw12 v6 v11 v12 s7 h)
    · refine z_ic e_X12_readsRow_51 ?_
      cases h
      exact z_zreturn hR e_X12_readsRow_52 (Or.inl rfl)
noncomputable def F_X12_readsRow_12L  : ((Int32 × Int32 × Int32 × zSt) → Option (Int32 × zSt)) → (Int32 × Int32 × Int32 × zSt) → Option (Int32 × zSt) := fun w s => F_X12_readsRow_12 w s.1 s.2.1 s.2.2.1 s.2.2.2
set_option maxRecDepth 100000 in
theorem l_X12_readsRow_12 {G : zG} {C : zC} {r : Int32} {τ : zSt} (hR : zR G C (some .boolean) (some (.int r)) τ)  : ∀ (N : Nat) (x2 : Int32) (x3 : Int32) (x4 : Int32) (σ : zSt), zfix (F_X12_readsRow_12L ) N (x2, x3, x4, σ) = some (r, τ) → zAW G 2 RX12 cX12_readsRow 5 C 12 [(0, .ref (zad G 69)), (2, .int x2), (3, .int x3), (4, .int x4)] [] σ := by
  intro N
  induction N with
  | zero =>
    intro x2 x3 x4 σ h
    exact nomatch (show (none : Option (Int32 × zSt)) = some (r, τ) from h)
  | succ N ih =>
    intro x2 x3 x4 σ h
    exact b_X12_readsRow_12 hR (zfix (F_X12_readsRow_12L ) N) ih x2 x3 x4 σ h
noncomputable def F_X12_readsRow_0 (x1 : Int32) (σ : zSt) : Option (Int32 × zSt) :=
  nm ((σ.1 69 53) - (1 : Int32)) (fun v1 =>
    zfix (F_X12_readsRow_12L ) zlim (x1, (0 : Int32), v1, σ))
set_option maxHeartbeats 4000000 in
set_option maxRecDepth 100000 in
theorem p_X12_readsRow_0 {G : zG} {C : zC} {r : Int32} {τ : zSt} (hR : zR G C (some .boolean) (some (.int r)) τ) (x1 : Int32) (σ : zSt) (h : F_X12_readsRow_0 x1 σ = some (r, τ)) : zAW G 2 RX12 cX12_readsRow 5 C 0 [(0, .ref (zad G 69)), (1, .int x1)] [] σ := by
  unfold F_X12_readsRow_0 at h
  refine z_iload e_X12_readsRow_0 1 rfl ?_
  refine z_istore e_X12_readsRow_1 (by decide) [(2, .int x1), (0, .ref (zad G 69)), (1, .int x1)] rfl ?_
  refine z_ic e_X12_readsRow_2 ?_
  refine z_istore e_X12_readsRow_3 (by decide) [(3, .int (0 : Int32)), (2, .int x1), (0, .ref (zad G 69)), (1, .int x1)] rfl ?_
  refine z_aload e_X12_readsRow_4 2 rfl ?_
  refine z_geti gf_X12_410_69 e_X12_readsRow_5 ?_
  refine z_ic e_X12_readsRow_8 ?_
  refine z_isub e_X12_readsRow_9 ?_
  refine z_nmI h (fun v1 h => ?_)
  refine z_istore e_X12_readsRow_10 (by decide) [(4, .int v1), (3, .int (0 : Int32)), (2, .int x1), (0, .ref (zad G 69)), (1, .int x1)] rfl ?_
  exact z_sub [3, 2, 1, 0] rfl (l_X12_readsRow_12 hR  zlim x1 (0 : Int32) v1 σ h)
noncomputable def F_X12_readsRow (x1 : Int32) (σ : zSt) : Option (Int32 × zSt) := F_X12_readsRow_0 x1 σ
set_option maxRecDepth 100000 in
theorem m_X12_readsRow (G : zG) (x1 : Int32) (σ : zSt) (q : Int32) (τ : zSt) (h : F_X12_readsRow x1 σ = some (q, τ)) : zM G 2 yX12_readsRow cX12_readsRow 5 (some .boolean) [.ref (zad G 69), .int x1] σ (some (.int q)) τ := by
  unfold F_X12_readsRow at h
  refine zM.of (own := RX12) (by decide +kernel) rfl (Nat.le_of_ble_eq_true rfl) (fun C hR => ?_)
  exact z_sub [0, 1] rfl (p_X12_readsRow_0 hR x1 σ h)
noncomputable def F_X12_hides_2 (w2 : (Int32 × zSt) → Option (Unit × zSt)) (x1 : Int32) (σ : zSt) : Option (Unit × zSt) :=
  if (σ.1 69 53) ≤ x1 then (
    some ((), σ))
  else (
    gd (vp_in x1 4) (
      gd (vp_in x1 4) (
        gd (vp_in (σ.1 98 x1.toNatClampNeg) 4) (
          gd (vp_in (σ.1 96 x1.toNatClampNeg) 8) (nm (zwr σ 75 (σ.1 96 x1.toNatClampNeg).toNatClampNeg (σ.1 97 (σ.1 98 x1.toNatClampNeg).toNatClampNeg)) (fun s2 =>
            nm (x1 + (1 : Int32)) (fun v3 =>
              w2 (v3, s2))))))))
set_option maxHeartbeats 4000000 in
set_option maxRecDepth 100000 in
theorem b_X12_hides_2 {G : zG} {C : zC} {r : Unit} {τ : zSt} (hR : zR G C none none τ) (w2 : (Int32 × zSt) → Option (Unit × zSt)) (hw2 : ∀ (x1 : Int32) (σ : zSt), w2 (x1, σ) = some (r, τ) → zAW G 1 RX12 cX12_hides 2 C 2 [(0, .ref (zad G 69)), (1, .int x1)] [] σ) (x1 : Int32) (σ : zSt) (h : F_X12_hides_2 w2 x1 σ = some (r, τ)) : zAW G 1 RX12 cX12_hides 2 C 2 [(0, .ref (zad G 69)), (1, .int x1)] [] σ := by
  unfold F_X12_hides_2 at h
  refine z_iload e_X12_hides_2 1 rfl ?_
  refine z_aload e_X12_hides_3 0 rfl ?_
  refine z_geti gf_X12_410_69 e_X12_hides_4 ?_
  refine z_icmp_ge e_X12_hides_7 h (fun c1 h => ?_) (fun c1 h => ?_)
  · cases h
    exact z_vreturn hR e_X12_hides_38
  · refine z_aload e_X12_hides_10 0 rfl ?_
    refine z_getr gf_X12_25_69 e_X12_hides_11 ?_
    refine z_aload e_X12_hides_14 0 rfl ?_
    refine z_getr gf_X12_89_69 e_X12_hides_15 ?_
    refine z_iload e_X12_hides_18 1 rfl ?_
    refine z_iald sh_96 e_X12_hides_19 h (fun h => ?_)
    refine z_aload e_X12_hides_20 0 rfl ?_
    refine z_getr gf_X12_92_69 e_X12_hides_21 ?_
    refine z_aload e_X12_hides_24 0 rfl ?_
    refine z_getr gf_X12_95_69 e_X12_hides_25 ?_
    refine z_iload e_X12_hides_28 1 rfl ?_
    refine z_iald sh_98 e_X12_hides_29 h (fun h => ?_)
    refine z_iald sh_97 e_X12_hides_30 h (fun h => ?_)
    refine z_iast sh_75 e_X12_hides_31 h (fun s2 h => ?_)
    refine z_iinc e_X12_hides_32 1 rfl (by decide) (by decide) h (fun y => [(1, .int y), (0, .ref (zad G 69))]) (fun _ => rfl) (fun v3 h => ?_)
    refine z_goto e_X12_hides_35 ?_
    exact z_sub [1, 0] rfl (hw2 v3 s2 h)
noncomputable def F_X12_hides_2L  : ((Int32 × zSt) → Option (Unit × zSt)) → (Int32 × zSt) → Option (Unit × zSt) := fun w s => F_X12_hides_2 w s.1 s.2
set_option maxRecDepth 100000 in
theorem l_X12_hides_2 {G : zG} {C : zC} {r : Unit} {τ : zSt} (hR : zR G C none none τ)  : ∀ (N : Nat) (x1 : Int32) (σ : zSt), zfix (F_X12_hides_2L ) N (x1, σ) = some (r, τ) → zAW G 1 RX12 cX12_hides 2 C 2 [(0, .ref (zad G 69)), (1, .int x1)] [] σ := by
  intro N
  induction N with
  | zero =>
    intro x1 σ h
    exact nomatch (show (none : Option (Unit × zSt)) = some (r, τ) from h)
  | succ N ih =>
    intro x1 σ h
    exact b_X12_hides_2 hR (zfix (F_X12_hides_2L ) N) ih x1 σ h
noncomputable def F_X12_hides_0 (σ : zSt) : Option (Unit × zSt) :=
  zfix (F_X12_hides_2L ) zlim ((0 : Int32), σ)
set_option maxHeartbeats 4000000 in
set_option maxRecDepth 100000 in
theorem p_X12_hides_0 {G : zG} {C : zC} {r : Unit} {τ : zSt} (hR : zR G C none none τ)  (σ : zSt) (h : F_X12_hides_0 σ = some (r, τ)) : zAW G 1 RX12 cX12_hides 2 C 0 [(0, .ref (zad G 69))] [] σ := by
  unfold F_X12_hides_0 at h
  refine z_ic e_X12_hides_0 ?_
  refine z_istore e_X12_hides_1 (by decide) [(1, .int (0 : Int32)), (0, .ref (zad G 69))] rfl ?_
  exact z_sub [1, 0] rfl (l_X12_hides_2 hR  zlim (0 : Int32) σ h)
noncomputable def F_X12_hides (σ : zSt) : Option (Unit × zSt) := F_X12_hides_0  σ
set_option maxRecDepth 100000 in
theorem m_X12_hides (G : zG) (σ : zSt) (q : Unit) (τ : zSt) (h : F_X12_hides  σ = some (q, τ)) : zM G 1 yX12_hides cX12_hides 2 none [.ref (zad G 69)] σ none τ := by
  unfold F_X12_hides at h
  refine zM.of (own := RX12) (by decide +kernel) rfl (Nat.le_of_ble_eq_true rfl) (fun C hR => ?_)
  exact z_sub [0] rfl (p_X12_hides_0 hR  σ h)
noncomputable def F_X12_comesBack_2 (w2 : (Int32 × zSt) → Option (Unit × zSt)) (x1 : Int32) (σ : zSt) : Option (Unit × zSt) :=
  if (σ.1 69 53) ≤ x1 then (
    some ((), σ))
  else (
    gd (vp_in x1 4) (
      gd (vp_in x1 4) (
        gd (vp_in (σ.1 96 x1.toNatClampNeg) 8) (nm (zwr σ 75 (σ.1 96 x1.toNatClampNeg).toNatClampNeg (σ.1 97 x1.toNatClampNeg)) (fun s2 =>
          nm (x1 + (1 : Int32)) (fun v3 =>
            w2 (v3, s2)))))))
set_option maxHeartbeats 4000000 in
set_option maxRecDepth 100000 in
theorem b_X12_comesBack_2 {G : zG} {C : zC} {r : Unit} {τ : zSt} (hR : zR G C none none τ) (w2 : (Int32 × zSt) → Option (Unit × zSt)) (hw2 : ∀ (x1 : Int32) (σ : zSt), w2 (x1, σ) = some (r, τ) → zAW G 1 RX12 cX12_comesBack 2 C 2 [(0, .ref (zad G 69)), (1, .int x1)] [] σ) (x1 : Int32) (σ : zSt) (h : F_X12_comesBack_2 w2 x1 σ = some (r, τ)) : zAW G 1 RX12 cX12_comesBack 2 C 2 [(0, .ref (zad G 69)), (1, .int x1)] [] σ := by
  unfold F_X12_comesBack_2 at h
  refine z_iload e_X12_comesBack_2 1 rfl ?_
  refine z_aload e_X12_comesBack_3 0 rfl ?_
  refine z_geti gf_X12_410_69 e_X12_comesBack_4 ?_
  refine z_icmp_ge e_X12_comesBack_7 h (fun c1 h => ?_) (fun c1 h => ?_)
  · cases h
    exact z_vreturn hR e_X12_comesBack_33
  · refine z_aload e_X12_comesBack_10 0 rfl ?_
    refine z_getr gf_X12_25_69 e_X12_comesBack_11 ?_
    refine z_aload e_X12_comesBack_14 0 rfl ?_
    refine z_getr gf_X12_89_69 e_X12_comesBack_15 ?_
    refine z_iload e_X12_comesBack_18 1 rfl ?_
    refine z_iald sh_96 e_X12_comesBack_19 h (fun h => ?_)
    refine z_aload e_X12_comesBack_20 0 rfl ?_
    refine z_getr gf_X12_92_69 e_X12_comesBack_21 ?_
    refine z_iload e_X12_comesBack_24 1 rfl ?_
    refine z_iald sh_97 e_X12_comesBack_25 h (fun h => ?_)
    refine z_iast sh_75 e_X12_comesBack_26 h (fun s2 h => ?_)
    refine z_iinc e_X12_comesBack_27 1 rfl (by decide) (by decide) h (fun y => [(1, .int y), (0, .ref (zad G 69))]) (fun _ => rfl) (fun v3 h => ?_)
    refine z_goto e_X12_comesBack_30 ?_
    exact z_sub [1, 0] rfl (hw2 v3 s2 h)
noncomputable def F_X12_comesBack_2L  : ((Int32 × zSt) → Option (Unit × zSt)) → (Int32 × zSt) → Option (Unit × zSt) := fun w s => F_X12_comesBack_2 w s.1 s.2
set_option maxRecDepth 100000 in
theorem l_X12_comesBack_2 {G : zG} {C : zC} {r : Unit} {τ : zSt} (hR : zR G C none none τ)  : ∀ (N : Nat) (x1 : Int32) (σ : zSt), zfix (F_X12_comesBack_2L ) N (x1, σ) = some (r, τ) → zAW G 1 RX12 cX12_comesBack 2 C 2 [(0, .ref (zad G 69)), (1, .int x1)] [] σ := by
  intro N
  induction N with
  | zero =>
    intro x1 σ h
    exact nomatch (show (none : Option (Unit × zSt)) = some (r, τ) from h)
  | succ N ih =>
    intro x1 σ h
    exact b_X12_comesBack_2 hR (zfix (F_X12_comesBack_2L ) N) ih x1 σ h
noncomputable def F_X12_comesBack_0 (σ : zSt) : Option (Unit × zSt) :=
  zfix (F_X12_comesBack_2L ) zlim ((0 : Int32), σ)
set_option maxHeartbeats 4000000 in
set_option maxRecDepth 100000 in
theorem p_X12_comesBack_0 {G : zG} {C : zC} {r : Unit} {τ : zSt} (hR : zR G C none none τ)  (σ : zSt) (h : F_X12_comesBack_0 σ = some (r, τ)) : zAW G 1 RX12 cX12_comesBack 2 C 0 [(0, .ref (zad G 69))] [] σ := by
  unfold F_X12_comesBack_0 at h
  refine z_ic e_X12_comesBack_0 ?_
  refine z_istore e_X12_comesBack_1 (by decide) [(1, .int (0 : Int32)), (0, .ref (zad G 69))] rfl ?_
  exact z_sub [1, 0] rfl (l_X12_comesBack_2 hR  zlim (0 : Int32) σ h)
noncomputable def F_X12_comesBack (σ : zSt) : Option (Unit × zSt) := F_X12_comesBack_0  σ
set_option maxRecDepth 100000 in
theorem m_X12_comesBack (G : zG) (σ : zSt) (q : Unit) (τ : zSt) (h : F_X12_comesBack  σ = some (q, τ)) : zM G 1 yX12_comesBack cX12_comesBack 2 none [.ref (zad G 69)] σ none τ := by
  unfold F_X12_comesBack at h
  refine zM.of (own := RX12) (by decide +kernel) rfl (Nat.le_of_ble_eq_true rfl) (fun C hR => ?_)
  exact z_sub [0] rfl (p_X12_comesBack_0 hR  σ h)
noncomputable def F_X12_hidden_329 (x7 : Int32) (σ : zSt) : Option (Int32 × zSt) :=
  gd (vp_in x7 4) (
    gd (vp_in (σ.1 98 x7.toNatClampNeg) 4) (
      some ((σ.1 96 (σ.1 98 x7.toNatClampNeg).toNatClampNeg), σ)))
set_option maxHeartbeats 4000000 in
set_option maxRecDepth 100000 in
theorem p_X12_hidden_329 {G : zG} {C : zC} {r : Int32} {τ : zSt} (hR : zR G C (some .int) (some (.int r)) τ) (x7 : Int32) (σ : zSt) (h : F_X12_hidden_329 x7 σ = some (r, τ)) : zAW G 8 RX12 cX12_hidden 9 C 329 [(0, .ref (zad G 69)), (7, .int x7)] [] σ := by
  unfold F_X12_hidden_329 at h
  refine z_aload e_X12_hidden_329 0 rfl ?_
  refine z_getr gf_X12_89_69 e_X12_hidden_330 ?_
  refine z_aload e_X12_hidden_333 0 rfl ?_
  refine z_getr gf_X12_95_69 e_X12_hidden_334 ?_
  refine z_iload e_X12_hidden_337 1 rfl ?_
  refine z_iald sh_98 e_X12_hidden_339 h (fun h => ?_)
  refine z_iald sh_96 e_X12_hidden_340 h (fun h => ?_)
  cases h
  exact z_ireturn hR e_X12_hidden_341
noncomputable def F_X12_hidden_309 (x2 : Int32) (w309 : (Int32 × zSt) → Option (Int32 × zSt)) (x7 : Int32) (σ : zSt) : Option (Int32 × zSt) :=
  gd (vp_in x7 4) (
    if (σ.1 96 x7.toNatClampNeg) = x2 then (
      F_X12_hidden_329 x7 σ)
    else (
      nm (x7 + (1 : Int32)) (fun v39 =>
        w309 (v39, σ))))
set_option maxHeartbeats 4000000 in
set_option maxRecDepth 100000 in
theorem b_X12_hidden_309 {G : zG} {C : zC} {r : Int32} {τ : zSt} (hR : zR G C (some .int) (some (.int r)) τ) (x2 : Int32) (w309 : (Int32 × zSt) → Option (Int32 × zSt)) (hw309 : ∀ (x7 : Int32) (σ : zSt), w309 (x7, σ) = some (r, τ) → zAW G 8 RX12 cX12_hidden 9 C 309 [(0, .ref (zad G 69)), (2, .int x2), (7, .int x7)] [] σ) (x7 : Int32) (σ : zSt) (h : F_X12_hidden_309 x2 w309 x7 σ = some (r, τ)) : zAW G 8 RX12 cX12_hidden 9 C 309 [(0, .ref (zad G 69)), (2, .int x2), (7, .int x7)] [] σ := by
  unfold F_X12_hidden_309 at h
  refine z_aload e_X12_hidden_309 0 rfl ?_
  refine z_getr gf_X12_89_69 e_X12_hidden_310 ?_
  refine z_iload e_X12_hidden_313 2 rfl ?_
  refine z_iald sh_96 e_X12_hidden_315 h (fun h => ?_)
  refine z_iload e_X12_hidden_316 1 rfl ?_
  refine z_icmp_eq e_X12_hidden_317 h (fun c38 h => ?_) (fun c38 h => ?_)
  · exact z_sub [0, 2] rfl (p_X12_hidden_329 hR x7 σ h)
  · refine z_iload e_X12_hidden_320 2 rfl ?_
    refine z_ic e_X12_hidden_322 ?_
    refine z_iadd e_X12_hidden_323 ?_
    refine z_nmI h (fun v39 h => ?_)
    refine z_istore e_X12_hidden_324 (by decide) [(7, .int v39), (0, .ref (zad G 69)), (2, .int x2)] rfl ?_
    refine z_goto e_X12_hidden_326 ?_
    exact z_sub [1, 2, 0] rfl (hw309 v39 σ h)
noncomputable def F_X12_hidden_309L (x2 : Int32) : ((Int32 × zSt) → Option (Int32 × zSt)) → (Int32 × zSt) → Option (Int32 × zSt) := fun w s => F_X12_hidden_309 x2 w s.1 s.2
set_option maxRecDepth 100000 in
theorem l_X12_hidden_309 {G : zG} {C : zC} {r : Int32} {τ : zSt} (hR : zR G C (some .int) (some (.int r)) τ) (x2 : Int32) : ∀ (N : Nat) (x7 : Int32) (σ : zSt), zfix (F_X12_hidden_309L x2) N (x7, σ) = some (r, τ) → zAW G 8 RX12 cX12_hidden 9 C 309 [(0, .ref (zad G 69)), (2, .int x2), (7, .int x7)] [] σ := by
  intro N
  induction N with
  | zero =>
    intro x7 σ h
    exact nomatch (show (none : Option (Int32 × zSt)) = some (r, τ) from h)
  | succ N ih =>
    intro x7 σ h
    exact b_X12_hidden_309 hR x2 (zfix (F_X12_hidden_309L x2) N) ih x7 σ h
noncomputable def F_X12_hidden_297 (x2 : Int32) (x6 : Int32) (σ : zSt) : Option (Int32 × zSt) :=
  if x2 ≤ (9 : Int32) then (
    zfix (F_X12_hidden_309L x2) zlim ((0 : Int32), σ))
  else (
    some (x6, σ))
set_option maxHeartbeats 4000000 in
set_option maxRecDepth 100000 in
theorem p_X12_hidden_297 {G : zG} {C : zC} {r : Int32} {τ : zSt} (hR : zR G C (some .int) (some (.int r)) τ) (x2 : Int32) (x6 : Int32) (σ : zSt) (h : F_X12_hidden_297 x2 x6 σ = some (r, τ)) : zAW G 8 RX12 cX12_hidden 9 C 297 [(0, .ref (zad G 69)), (2, .int x2), (6, .int x6)] [] σ := by
  unfold F_X12_hidden_297 at h
  refine z_iload e_X12_hidden_297 1 rfl ?_
  refine z_ic e_X12_hidden_298 ?_
  refine z_icmp_le e_X12_hidden_300 h (fun c37 h => ?_) (fun c37 h => ?_)
  · refine z_ic e_X12_hidden_306 ?_
    refine z_istore e_X12_hidden_307 (by decide) [(7, .int (0 : Int32)), (0, .ref (zad G 69)), (2, .int x2), (6, .int x6)] rfl ?_
    exact z_sub [1, 2, 0] rfl (l_X12_hidden_309 hR x2 zlim (0 : Int32) σ h)
  · refine z_iload e_X12_hidden_303 2 rfl ?_
    cases h
    exact z_ireturn hR e_X12_hidden_305
noncomputable def F_X12_hidden_271 (x2 : Int32) (x5 : Int32) (x6 : Int32) (σ : zSt) : Option (Int32 × zSt) :=
  if x5 = (-1 : Int32) then (
    some ((-2 : Int32), σ))
  else (
    bd (F_X12_readsRow x5 σ) (fun q31 s30 =>
      if x2 = (11 : Int32) then (
        bd (F_X12_hides s30) (fun _ s34 =>
          F_X12_hidden_297 x2 x6 s34))
      else (
        F_X12_hidden_297 x2 x6 s30)))
set_option maxHeartbeats 4000000 in
set_option maxRecDepth 100000 in
theorem p_X12_hidden_271 {G : zG} {C : zC} {r : Int32} {τ : zSt} (hR : zR G C (some .int) (some (.int r)) τ) (x2 : Int32) (x5 : Int32) (x6 : Int32) (σ : zSt) (h : F_X12_hidden_271 x2 x5 x6 σ = some (r, τ)) : zAW G 8 RX12 cX12_hidden 9 C 271 [(0, .ref (zad G 69)), (2, .int x2), (5, .int x5), (6, .int x6)] [] σ := by
  unfold F_X12_hidden_271 at h
  refine z_iload e_X12_hidden_271 2 rfl ?_
  refine z_ic e_X12_hidden_273 ?_
  refine z_icmp_ne e_X12_hidden_274 h (fun c29 h => ?_) (fun c29 h => ?_)
  · refine z_ic e_X12_hidden_277 ?_
    cases h
    exact z_ireturn hR e_X12_hidden_279
  · refine z_aload e_X12_hidden_280 0 rfl ?_
    refine z_iload e_X12_hidden_281 2 rfl ?_
    obtain ⟨q31, s30, e32, h⟩ := bd_e h
    refine z_callVi (c0 := 69) (As := [.int x5]) (rest := []) lk_X12_416 ob_69 e_X12_hidden_283 (m_X12_readsRow G x5 σ _ _ e32) (by decide) rfl (Nat.le_of_ble_eq_true rfl) ?_
    refine z_pop e_X12_hidden_286 rfl ?_
    refine z_iload e_X12_hidden_287 1 rfl ?_
    refine z_ic e_X12_hidden_288 ?_
    refine z_icmp_ne e_X12_hidden_290 h (fun c33 h => ?_) (fun c33 h => ?_)
    · refine z_aload e_X12_hidden_293 0 rfl ?_
      obtain ⟨q35, s34, e36, h⟩ := bd_e h
      refine z_callVv (c0 := 69) (As := []) (rest := []) lk_X12_419 ob_69 e_X12_hidden_294 (m_X12_hides G s30 _ _ e36) (by decide) rfl (Nat.le_of_ble_eq_true rfl) ?_
      exact z_sub [0, 1, 3] rfl (p_X12_hidden_297 hR x2 x6 s34 h)
    · exact z_sub [0, 1, 3] rfl (p_X12_hidden_297 hR x2 x6 s30 h)
noncomputable def F_X12_hidden_265 (w197 : (Int32 × Int32 × Int32 × zSt) → Option (Int32 × zSt)) (x2 : Int32) (x4 : Int32) (x5 : Int32) (x6 : Int32) (x7 : Int32) (σ : zSt) : Option (Int32 × zSt) :=
  nm (x7 + (1 : Int32)) (fun v44 =>
    w197 (x5, x6, v44, σ))
set_option maxHeartbeats 4000000 in
set_option maxRecDepth 100000 in
theorem p_X12_hidden_265 {G : zG} {C : zC} {r : Int32} {τ : zSt} (hR : zR G C (some .int) (some (.int r)) τ) (w197 : (Int32 × Int32 × Int32 × zSt) → Option (Int32 × zSt)) (x2 : Int32) (x4 : Int32) (x5 : Int32) (x6 : Int32) (x7 : Int32) (hw197 : ∀ (x5 : Int32) (x6 : Int32) (x7 : Int32) (σ : zSt), w197 (x5, x6, x7, σ) = some (r, τ) → zAW G 8 RX12 cX12_hidden 9 C 197 [(0, .ref (zad G 69)), (2, .int x2), (4, .int x4), (5, .int x5), (6, .int x6), (7, .int x7)] [] σ) (σ : zSt) (h : F_X12_hidden_265 w197 x2 x4 x5 x6 x7 σ = some (r, τ)) : zAW G 8 RX12 cX12_hidden 9 C 265 [(0, .ref (zad G 69)), (2, .int x2), (4, .int x4), (5, .int x5), (6, .int x6), (7, .int x7)] [] σ := by
  unfold F_X12_hidden_265 at h
  refine z_iinc e_X12_hidden_265 5 rfl (by decide) (by decide) h (fun y => [(7, .int y), (0, .ref (zad G 69)), (2, .int x2), (4, .int x4), (5, .int x5), (6, .int x6)]) (fun _ => rfl) (fun v44 h => ?_)
  refine z_goto e_X12_hidden_268 ?_
  exact z_sub [1, 2, 3, 4, 5, 0] rfl (hw197 x5 x6 v44 σ h)
noncomputable def F_X12_hidden_197 (x2 : Int32) (x4 : Int32) (w197 : (Int32 × Int32 × Int32 × zSt) → Option (Int32 × zSt)) (x5 : Int32) (x6 : Int32) (x7 : Int32) (σ : zSt) : Option (Int32 × zSt) :=
  if x4 ≤ x7 then (
    F_X12_hidden_271 x2 x5 x6 σ)
  else (
    bd (F_X12_readsRow x7 σ) (fun q41 s40 =>
      if q41 = 0 then (
        F_X12_hidden_265 w197 x2 x4 x5 x6 x7 s40)
      else (
        bd (F_X12_hides s40) (fun _ s45 =>
          bd (F_X12_solves (0 : Int32) s45) (fun q49 s48 =>
            bd (F_X12_comesBack s48) (fun _ s51 =>
              if q49 = (1000000000 : Int32) then (
                F_X12_hidden_265 w197 x2 x4 x5 x6 x7 s51)
              else (
                if x6 < (q49 / (1024 : Int32)) then (
                  nm (q49 / (1024 : Int32)) (fun v56 =>
                    F_X12_hidden_265 w197 x2 x4 x7 v56 x7 s51))
                else (
                  F_X12_hidden_265 w197 x2 x4 x5 x6 x7 s51))))))))
set_option maxHeartbeats 4000000 in
set_option maxRecDepth 100000 in
theorem b_X12_hidden_197 {G : zG} {C : zC} {r : Int32} {τ : zSt} (hR : zR G C (some .int) (some (.int r)) τ) (x2 : Int32) (x4 : Int32) (w197 : (Int32 × Int32 × Int32 × zSt) → Option (Int32 × zSt)) (hw197 : ∀ (x5 : Int32) (x6 : Int32) (x7 : Int32) (σ : zSt), w197 (x5, x6, x7, σ) = some (r, τ) → zAW G 8 RX12 cX12_hidden 9 C 197 [(0, .ref (zad G 69)), (2, .int x2), (4, .int x4), (5, .int x5), (6, .int x6), (7, .int x7)] [] σ) (x5 : Int32) (x6 : Int32) (x7 : Int32) (σ : zSt) (h : F_X12_hidden_197 x2 x4 w197 x5 x6 x7 σ = some (r, τ)) : zAW G 8 RX12 cX12_hidden 9 C 197 [(0, .ref (zad G 69)), (2, .int x2), (4, .int x4), (5, .int x5), (6, .int x6), (7, .int x7)] [] σ := by
  unfold F_X12_hidden_197 at h
  refine z_iload e_X12_hidden_197 5 rfl ?_
  refine z_iload e_X12_hidden_199 2 rfl ?_
  refine z_icmp_ge e_X12_hidden_201 h (fun c28 h => ?_) (fun c28 h => ?_)
  · exact z_sub [0, 1, 3, 4] rfl (p_X12_hidden_271 hR x2 x5 x6 σ h)
  · refine z_aload e_X12_hidden_204 0 rfl ?_
    refine z_iload e_X12_hidden_205 5 rfl ?_
    obtain ⟨q41, s40, e42, h⟩ := bd_e h
    refine z_callVi (c0 := 69) (As := [.int x7]) (rest := []) lk_X12_416 ob_69 e_X12_hidden_207 (m_X12_readsRow G x7 σ _ _ e42) (by decide) rfl (Nat.le_of_ble_eq_true rfl) ?_
    refine z_if_ne e_X12_hidden_210 h (fun c43 h => ?_) (fun c43 h => ?_)
    · refine z_goto e_X12_hidden_213 ?_
      exact z_sub [0, 1, 2, 3, 4, 5] rfl (p_X12_hidden_265 hR w197 x2 x4 x5 x6 x7 hw197 s40 h)
    · refine z_aload e_X12_hidden_216 0 rfl ?_
      obtain ⟨q46, s45, e47, h⟩ := bd_e h
      refine z_callVv (c0 := 69) (As := []) (rest := []) lk_X12_419 ob_69 e_X12_hidden_217 (m_X12_hides G s40 _ _ e47) (by decide) rfl (Nat.le_of_ble_eq_true rfl) ?_
      refine z_aload e_X12_hidden_220 0 rfl ?_
      refine z_ic e_X12_hidden_221 ?_
      obtain ⟨q49, s48, e50, h⟩ := bd_e h
      refine z_callVi (c0 := 69) (As := [.int (0 : Int32)]) (rest := []) lk_X12_403 ob_69 e_X12_hidden_222 (m_X12_solves G (0 : Int32) s45 _ _ e50) (by decide) rfl (Nat.le_of_ble_eq_true rfl) ?_
      refine z_istore e_X12_hidden_225 (by decide) [(8, .int q49), (0, .ref (zad G 69)), (2, .int x2), (4, .int x4), (5, .int x5), (6, .int x6), (7, .int x7)] rfl ?_
      refine z_aload e_X12_hidden_227 1 rfl ?_
      obtain ⟨q52, s51, e53, h⟩ := bd_e h
      refine z_callVv (c0 := 69) (As := []) (rest := []) lk_X12_422 ob_69 e_X12_hidden_228 (m_X12_comesBack G s48 _ _ e53) (by decide) rfl (Nat.le_of_ble_eq_true rfl) ?_
      refine z_iload e_X12_hidden_231 0 rfl ?_
      refine z_ldcw cs_X12_382 e_X12_hidden_233 ?_
      refine z_icmp_eq e_X12_hidden_236 h (fun c54 h => ?_) (fun c54 h => ?_)
      · exact z_sub [1, 2, 3, 4, 5, 6] rfl (p_X12_hidden_265 hR w197 x2 x4 x5 x6 x7 hw197 s51 h)
      · refine z_iload e_X12_hidden_239 0 rfl ?_
        refine z_ic e_X12_hidden_241 ?_
        refine z_idiv e_X12_hidden_244 (by decide) ?_
        refine z_iload e_X12_hidden_245 5 rfl ?_
        refine z_icmp_gt e_X12_hidden_247 h (fun c55 h => ?_) (fun c55 h => ?_)
        · refine z_iload e_X12_hidden_253 0 rfl ?_
          refine z_ic e_X12_hidden_255 ?_
          refine z_idiv e_X12_hidden_258 (by decide) ?_
          refine z_nmI h (fun v56 h => ?_)
          refine z_istore e_X12_hidden_259 (by decide) [(6, .int v56), (8, .int q49), (0, .ref (zad G 69)), (2, .int x2), (4, .int x4), (5, .int x5), (7, .int x7)] rfl ?_
          refine z_iload e_X12_hidden_261 6 rfl ?_
          refine z_istore e_X12_hidden_263 (by decide) [(5, .int x7), (6, .int v56), (8, .int q49), (0, .ref (zad G 69)), (2, .int x2), (4, .int x4), (7, .int x7)] rfl ?_
          exact z_sub [3, 4, 5, 0, 1, 6] rfl (p_X12_hidden_265 hR w197 x2 x4 x7 v56 x7 hw197 s51 h)
        · refine z_goto e_X12_hidden_250 ?_
          exact z_sub [1, 2, 3, 4, 5, 6] rfl (p_X12_hidden_265 hR w197 x2 x4 x5 x6 x7 hw197 s51 h)
noncomputable def F_X12_hidden_197L (x2 : Int32) (x4 : Int32) : ((Int32 × Int32 × Int32 × zSt) → Option (Int32 × zSt)) → (Int32 × Int32 × Int32 × zSt) → Option (Int32 × zSt) := fun w s => F_X12_hidden_197 x2 x4 w s.1 s.2.1 s.2.2.1 s.2.2.2
set_option maxRecDepth 100000 in
theorem l_X12_hidden_197 {G : zG} {C : zC} {r : Int32} {τ : zSt} (hR : zR G C (some .int) (some (.int r)) τ) (x2 : Int32) (x4 : Int32) : ∀ (N : Nat) (x5 : Int32) (x6 : Int32) (x7 : Int32) (σ : zSt), zfix (F_X12_hidden_197L x2 x4) N (x5, x6, x7, σ) = some (r, τ) → zAW G 8 RX12 cX12_hidden 9 C 197 [(0, .ref (zad G 69)), (2, .int x2), (4, .int x4), (5, .int x5), (6, .int x6), (7, .int x7)] [] σ := by
  intro N
  induction N with
  | zero =>
    intro x5 x6 x7 σ h
    exact nomatch (show (none : Option (Int32 × zSt)) = some (r, τ) from h)
  | succ N ih =>
    intro x5 x6 x7 σ h
    exact b_X12_hidden_197 hR x2 x4 (zfix (F_X12_hidden_197L x2 x4) N) ih x5 x6 x7 σ h
noncomputable def F_X12_hidden_188 (x2 : Int32) (x4 : Int32) (σ : zSt) : Option (Int32 × zSt) :=
  zfix (F_X12_hidden_197L x2 x4) zlim ((-1 : Int32), (-1 : Int32), (0 : Int32), σ)
set_option maxHeartbeats 4000000 in
set_option maxRecDepth 100000 in
theorem p_X12_hidden_188 {G : zG} {C : zC} {r : Int32} {τ : zSt} (hR : zR G C (some .int) (some (.int r)) τ) (x2 : Int32) (x4 : Int32) (σ : zSt) (h : F_X12_hidden_188 x2 x4 σ = some (r, τ)) : zAW G 8 RX12 cX12_hidden 9 C 188 [(0, .ref (zad G 69)), (2, .int x2), (4, .int x4)] [] σ := by
  unfold F_X12_hidden_188 at h
  refine z_ic e_X12_hidden_188 ?_
  refine z_istore e_X12_hidden_189 (by decide) [(5, .int (-1 : Int32)), (0, .ref (zad G 69)), (2, .int x2), (4, .int x4)] rfl ?_
  refine z_ic e_X12_hidden_191 ?_
  refine z_istore e_X12_hidden_192 (by decide) [(6, .int (-1 : Int32)), (5, .int (-1 : Int32)), (0, .ref (zad G 69)), (2, .int x2), (4, .int x4)] rfl ?_
  refine z_ic e_X12_hidden_194 ?_
  refine z_istore e_X12_hidden_195 (by decide) [(7, .int (0 : Int32)), (6, .int (-1 : Int32)), (5, .int (-1 : Int32)), (0, .ref (zad G 69)), (2, .int x2), (4, .int x4)] rfl ?_
  exact z_sub [3, 4, 5, 2, 1, 0] rfl (l_X12_hidden_197 hR x2 x4 zlim (-1 : Int32) (-1 : Int32) (0 : Int32) σ h)
noncomputable def F_X12_hidden_164 (x2 : Int32) (w164 : (Int32 × Int32 × zSt) → Option (Int32 × zSt)) (x4 : Int32) (x5 : Int32) (σ : zSt) : Option (Int32 × zSt) :=
  if (σ.1 69 53) ≤ x5 then (
    F_X12_hidden_188 x2 x4 σ)
  else (
    nm (x4 * (σ.1 69 53)) (fun v57 =>
      nm (x5 + (1 : Int32)) (fun v58 =>
        w164 (v57, v58, σ))))
set_option maxHeartbeats 4000000 in
set_option maxRecDepth 100000 in
theorem b_X12_hidden_164 {G : zG} {C : zC} {r : Int32} {τ : zSt} (hR : zR G C (some .int) (some (.int r)) τ) (x2 : Int32) (w164 : (Int32 × Int32 × zSt) → Option (Int32 × zSt)) (hw164 : ∀ (x4 : Int32) (x5 : Int32) (σ : zSt), w164 (x4, x5, σ) = some (r, τ) → zAW G 8 RX12 cX12_hidden 9 C 164 [(0, .ref (zad G 69)), (2, .int x2), (4, .int x4), (5, .int x5)] [] σ) (x4 : Int32) (x5 : Int32) (σ : zSt) (h : F_X12_hidden_164 x2 w164 x4 x5 σ = some (r, τ)) : zAW G 8 RX12 cX12_hidden 9 C 164 [(0, .ref (zad G 69)), (2, .int x2), (4, .int x4), (5, .int x5)] [] σ := by
  unfold F_X12_hidden_164 at h
  refine z_iload e_X12_hidden_164 3 rfl ?_
  refine z_aload e_X12_hidden_166 0 rfl ?_
  refine z_geti gf_X12_410_69 e_X12_hidden_167 ?_
  refine z_icmp_ge e_X12_hidden_170 h (fun c27 h => ?_) (fun c27 h => ?_)
  · exact z_sub [0, 1, 2] rfl (p_X12_hidden_188 hR x2 x4 σ h)
  · refine z_iload e_X12_hidden_173 2 rfl ?_
    refine z_aload e_X12_hidden_175 0 rfl ?_
    refine z_geti gf_X12_410_69 e_X12_hidden_176 ?_
    refine z_imul e_X12_hidden_179 ?_
    refine z_nmI h (fun v57 h => ?_)
    refine z_istore e_X12_hidden_180 (by decide) [(4, .int v57), (0, .ref (zad G 69)), (2, .int x2), (5, .int x5)] rfl ?_
    refine z_iinc e_X12_hidden_182 3 rfl (by decide) (by decide) h (fun y => [(5, .int y), (4, .int v57), (0, .ref (zad G 69)), (2, .int x2)]) (fun _ => rfl) (fun v58 h => ?_)
    refine z_goto e_X12_hidden_185 ?_
    exact z_sub [2, 3, 1, 0] rfl (hw164 v57 v58 σ h)
noncomputable def F_X12_hidden_164L (x2 : Int32) : ((Int32 × Int32 × zSt) → Option (Int32 × zSt)) → (Int32 × Int32 × zSt) → Option (Int32 × zSt) := fun w s => F_X12_hidden_164 x2 w s.1 s.2.1 s.2.2
set_option maxRecDepth 100000 in
theorem l_X12_hidden_164 {G : zG} {C : zC} {r : Int32} {τ : zSt} (hR : zR G C (some .int) (some (.int r)) τ) (x2 : Int32) : ∀ (N : Nat) (x4 : Int32) (x5 : Int32) (σ : zSt), zfix (F_X12_hidden_164L x2) N (x4, x5, σ) = some (r, τ) → zAW G 8 RX12 cX12_hidden 9 C 164 [(0, .ref (zad G 69)), (2, .int x2), (4, .int x4), (5, .int x5)] [] σ := by
  intro N
  induction N with
  | zero =>
    intro x4 x5 σ h
    exact nomatch (show (none : Option (Int32 × zSt)) = some (r, τ) from h)
  | succ N ih =>
    intro x4 x5 σ h
    exact b_X12_hidden_164 hR x2 (zfix (F_X12_hidden_164L x2) N) ih x4 x5 σ h
noncomputable def F_X12_hidden_158 (x2 : Int32) (σ : zSt) : Option (Int32 × zSt) :=
  zfix (F_X12_hidden_164L x2) zlim ((1 : Int32), (0 : Int32), σ)
set_option maxHeartbeats 4000000 in
set_option maxRecDepth 100000 in
theorem p_X12_hidden_158 {G : zG} {C : zC} {r : Int32} {τ : zSt} (hR : zR G C (some .int) (some (.int r)) τ) (x2 : Int32) (σ : zSt) (h : F_X12_hidden_158 x2 σ = some (r, τ)) : zAW G 8 RX12 cX12_hidden 9 C 158 [(0, .ref (zad G 69)), (2, .int x2)] [] σ := by
  unfold F_X12_hidden_158 at h
  refine z_ic e_X12_hidden_158 ?_
  refine z_istore e_X12_hidden_159 (by decide) [(4, .int (1 : Int32)), (0, .ref (zad G 69)), (2, .int x2)] rfl ?_
  refine z_ic e_X12_hidden_161 ?_
  refine z_istore e_X12_hidden_162 (by decide) [(5, .int (0 : Int32)), (4, .int (1 : Int32)), (0, .ref (zad G 69)), (2, .int x2)] rfl ?_
  exact z_sub [2, 3, 1, 0] rfl (l_X12_hidden_164 hR x2 zlim (1 : Int32) (0 : Int32) σ h)
noncomputable def F_X12_hidden_152 (w80 : (Int32 × zSt) → Option (Int32 × zSt)) (x1 : Int32) (x2 : Int32) (x4 : Int32) (σ : zSt) : Option (Int32 × zSt) :=
  nm (x4 + (1 : Int32)) (fun v63 =>
    w80 (v63, σ))
set_option maxHeartbeats 4000000 in
set_option maxRecDepth 100000 in
theorem p_X12_hidden_152 {G : zG} {C : zC} {r : Int32} {τ : zSt} (hR : zR G C (some .int) (some (.int r)) τ) (w80 : (Int32 × zSt) → Option (Int32 × zSt)) (x1 : Int32) (x2 : Int32) (x4 : Int32) (hw80 : ∀ (x4 : Int32) (σ : zSt), w80 (x4, σ) = some (r, τ) → zAW G 8 RX12 cX12_hidden 9 C 80 [(0, .ref (zad G 69)), (1, .int x1), (2, .int x2), (4, .int x4)] [] σ) (σ : zSt) (h : F_X12_hidden_152 w80 x1 x2 x4 σ = some (r, τ)) : zAW G 8 RX12 cX12_hidden 9 C 152 [(0, .ref (zad G 69)), (1, .int x1), (2, .int x2), (4, .int x4)] [] σ := by
  unfold F_X12_hidden_152 at h
  refine z_iinc e_X12_hidden_152 3 rfl (by decide) (by decide) h (fun y => [(4, .int y), (0, .ref (zad G 69)), (1, .int x1), (2, .int x2)]) (fun _ => rfl) (fun v63 h => ?_)
  refine z_goto e_X12_hidden_155 ?_
  exact z_sub [1, 2, 3, 0] rfl (hw80 v63 σ h)
noncomputable def F_X12_hidden_80 (x1 : Int32) (x2 : Int32) (w80 : (Int32 × zSt) → Option (Int32 × zSt)) (x4 : Int32) (σ : zSt) : Option (Int32 × zSt) :=
  if (8 : Int32) ≤ x4 then (
    F_X12_hidden_158 x2 σ)
  else (
    bd (F_X12_has x1 x4 σ) (fun q60 s59 =>
      if q60 = 0 then (
        F_X12_hidden_152 w80 x1 x2 x4 s59)
      else (
        gd (vp_in x4 8) (
          bd (F_X12_isPlace (s59.1 75 x4.toNatClampNeg) s59) (fun q65 s64 =>
            if q65 = 0 then (
              some ((-1 : Int32), s64))
            else (
              gd (vp_in (s64.1 69 53) 4) (nm (zwr s64 96 (s64.1 69 53).toNatClampNeg x4) (fun s68 =>
                gd (vp_in x4 8) (
                  gd (vp_in (s68.1 69 53) 4) (nm (zwr s68 97 (s68.1 69 53).toNatClampNeg (s68.1 75 x4.toNatClampNeg)) (fun s69 =>
                    nm (zwr s69 69 53 ((s69.1 69 53) + (1 : Int32))) (fun s70 =>
                      F_X12_hidden_152 w80 x1 x2 x4 s70))))))))))))
set_option maxHeartbeats 4000000 in
set_option maxRecDepth 100000 in
theorem b_X12_hidden_80 {G : zG} {C : zC} {r : Int32} {τ : zSt} (hR : zR G C (some .int) (some (.int r)) τ) (x1 : Int32) (x2 : Int32) (w80 : (Int32 × zSt) → Option (Int32 × zSt)) (hw80 : ∀ (x4 : Int32) (σ : zSt), w80 (x4, σ) = some (r, τ) → zAW G 8 RX12 cX12_hidden 9 C 80 [(0, .ref (zad G 69)), (1, .int x1), (2, .int x2), (4, .int x4)] [] σ) (x4 : Int32) (σ : zSt) (h : F_X12_hidden_80 x1 x2 w80 x4 σ = some (r, τ)) : zAW G 8 RX12 cX12_hidden 9 C 80 [(0, .ref (zad G 69)), (1, .int x1), (2, .int x2), (4, .int x4)] [] σ := by
  unfold F_X12_hidden_80 at h
  refine z_iload e_X12_hidden_80 3 rfl ?_
  refine z_ic e_X12_hidden_82 ?_
  refine z_icmp_ge e_X12_hidden_84 h (fun c26 h => ?_) (fun c26 h => ?_)
  · exact z_sub [0, 2] rfl (p_X12_hidden_158 hR x2 σ h)
  · refine z_iload e_X12_hidden_87 1 rfl ?_
    refine z_iload e_X12_hidden_88 3 rfl ?_
    obtain ⟨q60, s59, e61, h⟩ := bd_e h
    refine z_callSi (As := [.int x1, .int x4]) (rest := []) lk_X12_156 e_X12_hidden_90 (m_X12_has G x1 x4 σ _ _ e61) (by decide) rfl (Nat.le_of_ble_eq_true rfl) ?_
    refine z_if_ne e_X12_hidden_93 h (fun c62 h => ?_) (fun c62 h => ?_)
    · refine z_goto e_X12_hidden_96 ?_
      exact z_sub [0, 1, 2, 3] rfl (p_X12_hidden_152 hR w80 x1 x2 x4 hw80 s59 h)
    · refine z_aload e_X12_hidden_99 0 rfl ?_
      refine z_aload e_X12_hidden_100 0 rfl ?_
      refine z_getr gf_X12_25_69 e_X12_hidden_101 ?_
      refine z_iload e_X12_hidden_104 3 rfl ?_
      refine z_iald sh_75 e_X12_hidden_106 h (fun h => ?_)
      obtain ⟨q65, s64, e66, h⟩ := bd_e h
      refine z_callVi (c0 := 69) (As := [.int (s59.1 75 x4.toNatClampNeg)]) (rest := []) lk_X12_167 ob_69 e_X12_hidden_107 (m_X12_isPlace G (s59.1 75 x4.toNatClampNeg) s59 _ _ e66) (by decide) rfl (Nat.le_of_ble_eq_true rfl) ?_
      refine z_if_ne e_X12_hidden_110 h (fun c67 h => ?_) (fun c67 h => ?_)
      · refine z_ic e_X12_hidden_113 ?_
        cases h
        exact z_ireturn hR e_X12_hidden_114
      · refine z_aload e_X12_hidden_115 0 rfl ?_
        refine z_getr gf_X12_89_69 e_X12_hidden_116 ?_
        refine z_aload e_X12_hidden_119 0 rfl ?_
        refine z_geti gf_X12_410_69 e_X12_hidden_120 ?_
        refine z_iload e_X12_hidden_123 3 rfl ?_
        refine z_iast sh_96 e_X12_hidden_125 h (fun s68 h => ?_)
        refine z_aload e_X12_hidden_126 0 rfl ?_
        refine z_getr gf_X12_92_69 e_X12_hidden_127 ?_
        refine z_aload e_X12_hidden_130 0 rfl ?_
        refine z_geti gf_X12_410_69 e_X12_hidden_131 ?_
        refine z_aload e_X12_hidden_134 0 rfl ?_
        refine z_getr gf_X12_25_69 e_X12_hidden_135 ?_
        refine z_iload e_X12_hidden_138 3 rfl ?_
        refine z_iald sh_75 e_X12_hidden_140 h (fun h => ?_)
        refine z_iast sh_97 e_X12_hidden_141 h (fun s69 h => ?_)
        refine z_aload e_X12_hidden_142 0 rfl ?_
        refine z_aload e_X12_hidden_143 0 rfl ?_
        refine z_geti gf_X12_410_69 e_X12_hidden_144 ?_
        refine z_ic e_X12_hidden_147 ?_
        refine z_iadd e_X12_hidden_148 ?_
        refine z_puti pf_X12_410_69 e_X12_hidden_149 h (fun s70 h => ?_)
        exact z_sub [0, 1, 2, 3] rfl (p_X12_hidden_152 hR w80 x1 x2 x4 hw80 s70 h)
noncomputable def F_X12_hidden_80L (x1 : Int32) (x2 : Int32) : ((Int32 × zSt) → Option (Int32 × zSt)) → (Int32 × zSt) → Option (Int32 × zSt) := fun w s => F_X12_hidden_80 x1 x2 w s.1 s.2
set_option maxRecDepth 100000 in
theorem l_X12_hidden_80 {G : zG} {C : zC} {r : Int32} {τ : zSt} (hR : zR G C (some .int) (some (.int r)) τ) (x1 : Int32) (x2 : Int32) : ∀ (N : Nat) (x4 : Int32) (σ : zSt), zfix (F_X12_hidden_80L x1 x2) N (x4, σ) = some (r, τ) → zAW G 8 RX12 cX12_hidden 9 C 80 [(0, .ref (zad G 69)), (1, .int x1), (2, .int x2), (4, .int x4)] [] σ := by
  intro N
  induction N with
  | zero =>
    intro x4 σ h
    exact nomatch (show (none : Option (Int32 × zSt)) = some (r, τ) from h)
  | succ N ih =>
    intro x4 σ h
    exact b_X12_hidden_80 hR x1 x2 (zfix (F_X12_hidden_80L x1 x2) N) ih x4 σ h
noncomputable def F_X12_hidden_31 (x1 : Int32) (x2 : Int32) (t0 : Int32) (σ : zSt) : Option (Int32 × zSt) :=
  bd (F_X12_in x1 (0 : Int32) (255 : Int32) σ) (fun q10 s9 =>
    if q10 = 0 then (
      some ((-1 : Int32), s9))
    else (
      bd (F_X12_bits x1 s9) (fun q14 s13 =>
        bd (F_X12_in q14 (2 : Int32) (4 : Int32) s13) (fun q17 s16 =>
          if q17 = 0 then (
            some ((-1 : Int32), s16))
          else (
            if t0 = 0 then (
              some ((-1 : Int32), s16))
            else (
              bd (F_X12_isPlace (s16.1 69 2) s16) (fun q22 s21 =>
                if q22 = 0 then (
                  some ((-1 : Int32), s21))
                else (
                  nm (zwr s21 69 53 (0 : Int32)) (fun s25 =>
                    zfix (F_X12_hidden_80L x1 x2) zlim ((0 : Int32), s25))))))))))
set_option maxHeartbeats 4000000 in
set_option maxRecDepth 100000 in
theorem p_X12_hidden_31 {G : zG} {C : zC} {r : Int32} {τ : zSt} (hR : zR G C (some .int) (some (.int r)) τ) (x1 : Int32) (x2 : Int32) (t0 : Int32) (σ : zSt) (h : F_X12_hidden_31 x1 x2 t0 σ = some (r, τ)) : zAW G 8 RX12 cX12_hidden 9 C 31 [(0, .ref (zad G 69)), (1, .int x1), (2, .int x2)] [.int t0] σ := by
  unfold F_X12_hidden_31 at h
  refine z_istore e_X12_hidden_31 (by decide) [(3, .int t0), (0, .ref (zad G 69)), (1, .int x1), (2, .int x2)] rfl ?_
  refine z_iload e_X12_hidden_32 2 rfl ?_
  refine z_ic e_X12_hidden_33 ?_
  refine z_ic e_X12_hidden_34 ?_
  obtain ⟨q10, s9, e11, h⟩ := bd_e h
  refine z_callSi (As := [.int x1, .int (0 : Int32), .int (255 : Int32)]) (rest := []) lk_X12_163 e_X12_hidden_37 (m_X12_in G x1 (0 : Int32) (255 : Int32) σ _ _ e11) (by decide) rfl (Nat.le_of_ble_eq_true rfl) ?_
  refine z_if_eq e_X12_hidden_40 h (fun c12 h => ?_) (fun c12 h => ?_)
  · refine z_ic e_X12_hidden_70 ?_
    cases h
    exact z_ireturn hR e_X12_hidden_71
  · refine z_iload e_X12_hidden_43 2 rfl ?_
    obtain ⟨q14, s13, e15, h⟩ := bd_e h
    refine z_callSi (As := [.int x1]) (rest := []) lk_X12_413 e_X12_hidden_44 (m_X12_bits G x1 s9 _ _ e15) (by decide) rfl (Nat.le_of_ble_eq_true rfl) ?_
    refine z_ic e_X12_hidden_47 ?_
    refine z_ic e_X12_hidden_48 ?_
    obtain ⟨q17, s16, e18, h⟩ := bd_e h
    refine z_callSi (As := [.int q14, .int (2 : Int32), .int (4 : Int32)]) (rest := []) lk_X12_163 e_X12_hidden_49 (m_X12_in G q14 (2 : Int32) (4 : Int32) s13 _ _ e18) (by decide) rfl (Nat.le_of_ble_eq_true rfl) ?_
    refine z_if_eq e_X12_hidden_52 h (fun c19 h => ?_) (fun c19 h => ?_)
    · refine z_ic e_X12_hidden_70 ?_
      cases h
      exact z_ireturn hR e_X12_hidden_71
    · refine z_iload e_X12_hidden_55 0 rfl ?_
      refine z_if_eq e_X12_hidden_56 h (fun c20 h => ?_) (fun c20 h => ?_)
      · refine z_ic e_X12_hidden_70 ?_
        cases h
        exact z_ireturn hR e_X12_hidden_71
      · refine z_aload e_X12_hidden_59 1 rfl ?_
        refine z_aload e_X12_hidden_60 1 rfl ?_
        refine z_geti gf_X12_173_69 e_X12_hidden_61 ?_
        obtain ⟨q22, s21, e23, h⟩ := bd_e h
        refine z_callVi (c0 := 69) (As := [.int (s16.1 69 2)]) (rest := []) lk_X12_167 ob_69 e_X12_hidden_64 (m_X12_isPlace G (s16.1 69 2) s16 _ _ e23) (by decide) rfl (Nat.le_of_ble_eq_true rfl) ?_
        refine z_if_ne e_X12_hidden_67 h (fun c24 h => ?_) (fun c24 h => ?_)
        · refine z_ic e_X12_hidden_70 ?_
          cases h
          exact z_ireturn hR e_X12_hidden_71
        · refine z_aload e_X12_hidden_72 1 rfl ?_
          refine z_ic e_X12_hidden_73 ?_
          refine z_puti pf_X12_410_69 e_X12_hidden_74 h (fun s25 h => ?_)
          refine z_ic e_X12_hidden_77 ?_
          refine z_istore e_X12_hidden_78 (by decide) [(4, .int (0 : Int32)), (3, .int t0), (0, .ref (zad G 69)), (1, .int x1), (2, .int x2)] rfl ?_
          exact z_sub [2, 3, 4, 0] rfl (l_X12_hidden_80 hR x1 x2 zlim (0 : Int32) s25 h)
noncomputable def F_X12_hidden_30 (x1 : Int32) (x2 : Int32) (σ : zSt) : Option (Int32 × zSt) :=
  F_X12_hidden_31 x1 x2 (0 : Int32) σ
set_option maxHeartbeats 4000000 in
set_option maxRecDepth 100000 in
theorem p_X12_hidden_30 {G : zG} {C : zC} {r : Int32} {τ : zSt} (hR : zR G C (some .int) (some (.int r)) τ) (x1 : Int32) (x2 : Int32) (σ : zSt) (h : F_X12_hidden_30 x1 x2 σ = some (r, τ)) : zAW G 8 RX12 cX12_hidden 9 C 30 [(0, .ref (zad G 69)), (1, .int x1), (2, .int x2)] [] σ := by
  unfold F_X12_hidden_30 at h
  refine z_ic e_X12_hidden_30 ?_
  exact z_sub [0, 1, 2] rfl (p_X12_hidden_31 hR x1 x2 (0 : Int32) σ h)
noncomputable def F_X12_hidden_26 (x1 : Int32) (x2 : Int32) (σ : zSt) : Option (Int32 × zSt) :=
  F_X12_hidden_31 x1 x2 (1 : Int32) σ
set_option maxHeartbeats 4000000 in
set_option maxRecDepth 100000 in
theorem p_X12_hidden_26 {G : zG} {C : zC} {r : Int32} {τ : zSt} (hR : zR G C (some .int) (some (.int r)) τ) (x1 : Int32) (x2 : Int32) (σ : zSt) (h : F_X12_hidden_26 x1 x2 σ = some (r, τ)) : zAW G 8 RX12 cX12_hidden 9 C 26 [(0, .ref (zad G 69)), (1, .int x1), (2, .int x2)] [] σ := by
  unfold F_X12_hidden_26 at h
  refine z_ic e_X12_hidden_26 ?_
  refine z_goto e_X12_hidden_27 ?_
  exact z_sub [0, 1, 2] rfl (p_X12_hidden_31 hR x1 x2 (1 : Int32) σ h)
noncomputable def F_X12_hidden_0 (x1 : Int32) (x2 : Int32) (σ : zSt) : Option (Int32 × zSt) :=
  bd (F_X12_in x2 (10 : Int32) (11 : Int32) σ) (fun q2 s1 =>
    if q2 = 0 then (
      bd (F_X12_isEight x2 s1) (fun q6 s5 =>
        if q6 = 0 then (
          F_X12_hidden_30 x1 x2 s5)
        else (
          bd (F_X12_has x1 x2 s5) (fun q72 s71 =>
            nm (if q72 = 0 then (0 : Int32) else (1 : Int32)) (fun v74 =>
              bd (F_X12_in x1 (0 : Int32) (255 : Int32) s71) (fun q76 s75 =>
                if q76 = 0 then (
                  some ((-1 : Int32), s75))
                else (
                  bd (F_X12_bits x1 s75) (fun q80 s79 =>
                    bd (F_X12_in q80 (2 : Int32) (4 : Int32) s79) (fun q83 s82 =>
                      if q83 = 0 then (
                        some ((-1 : Int32), s82))
                      else (
                        if v74 = 0 then (
                          some ((-1 : Int32), s82))
                        else (
                          bd (F_X12_isPlace (s82.1 69 2) s82) (fun q88 s87 =>
                            if q88 = 0 then (
                              some ((-1 : Int32), s87))
                            else (
                              nm (zwr s87 69 53 (0 : Int32)) (fun s91 =>
                                zfix (F_X12_hidden_80L x1 x2) zlim ((0 : Int32), s91)))))))))))))))
    else (
      F_X12_hidden_26 x1 x2 s1))
set_option maxHeartbeats 4000000 in
set_option maxRecDepth 100000 in
theorem p_X12_hidden_0 {G : zG} {C : zC} {r : Int32} {τ : zSt} (hR : zR G C (some .int) (some (.int r)) τ) (x1 : Int32) (x2 : Int32) (σ : zSt) (h : F_X12_hidden_0 x1 x2 σ = some (r, τ)) : zAW G 8 RX12 cX12_hidden 9 C 0 [(0, .ref (zad G 69)), (1, .int x1), (2, .int x2)] [] σ := by
  unfold F_X12_hidden_0 at h
  refine z_iload e_X12_hidden_0 2 rfl ?_
  refine z_ic e_X12_hidden_1 ?_
  refine z_ic e_X12_hidden_3 ?_
  obtain ⟨q2, s1, e3, h⟩ := bd_e h
  refine z_callSi (As := [.int x2, .int (10 : Int32), .int (11 : Int32)]) (rest := []) lk_X12_163 e_X12_hidden_5 (m_X12_in G x2 (10 : Int32) (11 : Int32) σ _ _ e3) (by decide) rfl (Nat.le_of_ble_eq_true rfl) ?_
  refine z_if_ne e_X12_hidden_8 h (fun c4 h => ?_) (fun c4 h => ?_)
  · refine z_iload e_X12_hidden_11 2 rfl ?_
    obtain ⟨q6, s5, e7, h⟩ := bd_e h
    refine z_callSi (As := [.int x2]) (rest := []) lk_X12_149 e_X12_hidden_12 (m_X12_isEight G x2 s1 _ _ e7) (by decide) rfl (Nat.le_of_ble_eq_true rfl) ?_
    refine z_if_eq e_X12_hidden_15 h (fun c8 h => ?_) (fun c8 h => ?_)
    · exact z_sub [0, 1, 2] rfl (p_X12_hidden_30 hR x1 x2 s5 h)
    · refine z_iload e_X12_hidden_18 1 rfl ?_
      refine z_iload e_X12_hidden_19 2 rfl ?_
      obtain ⟨q72, s71, e73, h⟩ := bd_e h
      refine z_callSi (As := [.int x1, .int x2]) (rest := []) lk_X12_156 e_X12_hidden_20 (m_X12_has G x1 x2 s5 _ _ e73) (by decide) rfl (Nat.le_of_ble_eq_true rfl) ?_
      obtain ⟨v74, ev74, h⟩ := nm_i h
      have jv74 : zAW G 8 RX12 cX12_hidden 9 C 31 [(0, .ref (zad G 69)), (1, .int x1), (2, .int x2)] [.int v74] s71 := by
        refine z_istore e_X12_hidden_31 (by decide) [(3, .int v74), (0, .ref (zad G 69)), (1, .int x1), (2, .int x2)] rfl ?_
        refine z_iload e_X12_hidden_32 2 rfl ?_
        refine z_ic e_X12_hidden_33 ?_
        refine z_ic e_X12_hidden_34 ?_
        obtain ⟨q76, s75, e77, h⟩ := bd_e h
        refine z_callSi (As := [.int x1, .int (0 : Int32), .int (255 : Int32)]) (rest := []) lk_X12_163 e_X12_hidden_37 (m_X12_in G x1 (0 : Int32) (255 : Int32) s71 _ _ e77) (by decide) rfl (Nat.le_of_ble_eq_true rfl) ?_
        refine z_if_eq e_X12_hidden_40 h (fun c78 h => ?_) (fun c78 h => ?_)
        · refine z_ic e_X12_hidden_70 ?_
          cases h
          exact z_ireturn hR e_X12_hidden_71
        · refine z_iload e_X12_hidden_43 2 rfl ?_
          obtain ⟨q80, s79, e81, h⟩ := bd_e h
          refine z_callSi (As := [.int x1]) (rest := []) lk_X12_413 e_X12_hidden_44 (m_X12_bits G x1 s75 _ _ e81) (by decide) rfl (Nat.le_of_ble_eq_true rfl) ?_
          refine z_ic e_X12_hidden_47 ?_
          refine z_ic e_X12_hidden_48 ?_
          obtain ⟨q83, s82, e84, h⟩ := bd_e h
          refine z_callSi (As := [.int q80, .int (2 : Int32), .int (4 : Int32)]) (rest := []) lk_X12_163 e_X12_hidden_49 (m_X12_in G q80 (2 : Int32) (4 : Int32) s79 _ _ e84) (by decide) rfl (Nat.le_of_ble_eq_true rfl) ?_
          refine z_if_eq e_X12_hidden_52 h (fun c85 h => ?_) (fun c85 h => ?_)
          · refine z_ic e_X12_hidden_70 ?_
            cases h
            exact z_ireturn hR e_X12_hidden_71
          · refine z_iload e_X12_hidden_55 0 rfl ?_
            refine z_if_eq e_X12_hidden_56 h (fun c86 h => ?_) (fun c86 h => ?_)
            · refine z_ic e_X12_hidden_70 ?_
              cases h
              exact z_ireturn hR e_X12_hidden_71
            · refine z_aload e_X12_hidden_59 1 rfl ?_
              refine z_aload e_X12_hidden_60 1 rfl ?_
              refine z_geti gf_X12_173_69 e_X12_hidden_61 ?_
              obtain ⟨q88, s87, e89, h⟩ := bd_e h
              refine z_callVi (c0 := 69) (As := [.int (s82.1 69 2)]) (rest := []) lk_X12_167 ob_69 e_X12_hidden_64 (m_X12_isPlace G (s82.1 69 2) s82 _ _ e89) (by decide) rfl (Nat.le_of_ble_eq_true rfl) ?_
              refine z_if_ne e_X12_hidden_67 h (fun c90 h => ?_) (fun c90 h => ?_)
              · refine z_ic e_X12_hidden_70 ?_
                cases h
                exact z_ireturn hR e_X12_hidden_71
              · refine z_aload e_X12_hidden_72 1 rfl ?_
                refine z_ic e_X12_hidden_73 ?_
                refine z_puti pf_X12_410_69 e_X12_hidden_74 h (fun s91 h => ?_)
                refine z_ic e_X12_hidden_77 ?_
                refine z_istore e_X12_hidden_78 (by decide) [(4, .int (0 : Int32)), (3, .int v74), (0, .ref (zad G 69)), (1, .int x1), (2, .int x2)] rfl ?_
                exact z_sub [2, 3, 4, 0] rfl (l_X12_hidden_80 hR x1 x2 zlim (0 : Int32) s91 h)
      refine y_if_eq e_X12_hidden_23 (fun c92 => ?_) (fun c92 => ?_)
      · refine z_ic e_X12_hidden_30 ?_
        rw [if_pos c92] at ev74
        subst ev74
        exact z_sub [0, 1, 2] rfl jv74
      · refine z_ic e_X12_hidden_26 ?_
        refine z_goto e_X12_hidden_27 ?_
        rw [if_neg c92] at ev74
        subst ev74
        exact z_sub [0, 1, 2] rfl jv74
  · exact z_sub [0, 1, 2] rfl (p_X12_hidden_26 hR x1 x2 s1 h)
noncomputable def F_X12_hidden (x1 : Int32) (x2 : Int32) (σ : zSt) : Option (Int32 × zSt) := F_X12_hidden_0 x1 x2 σ
set_option maxRecDepth 100000 in
theorem m_X12_hidden (G : zG) (x1 : Int32) (x2 : Int32) (σ : zSt) (q : Int32) (τ : zSt) (h : F_X12_hidden x1 x2 σ = some (q, τ)) : zM G 8 yX12_hidden cX12_hidden 9 (some .int) [.ref (zad G 69), .int x1, .int x2] σ (some (.int q)) τ := by
  unfold F_X12_hidden at h
  refine zM.of (own := RX12) (by decide +kernel) rfl (Nat.le_of_ble_eq_true rfl) (fun C hR => ?_)
  exact z_sub [0, 1, 2] rfl (p_X12_hidden_0 hR x1 x2 σ h)
noncomputable def F_X3_begin_0 (σ : zSt) : Option (Unit × zSt) :=
  nm (zwr σ 24 3 (σ.1 1 8)) (fun s1 =>
    nm (zwr s1 24 4 (s1.1 1 9)) (fun s2 =>
      nm (zwr s2 24 5 (s2.1 1 11)) (fun s3 =>
        nm (zwr s3 24 6 (s3.1 1 12)) (fun s4 =>
          some ((), s4)))))
set_option maxHeartbeats 4000000 in
set_option maxRecDepth 100000 in
theorem p_X3_begin_0 {G : zG} {C : zC} {r : Unit} {τ : zSt} (hR : zR G C none none τ)  (σ : zSt) (h : F_X3_begin_0 σ = some (r, τ)) : zAW G 1 RX3 cX3_begin 1 C 0 [(0, .ref (zad G 24))] [] σ := by
  unfold F_X3_begin_0 at h
  refine z_aload e_X3_begin_0 0 rfl ?_
  refine z_aload e_X3_begin_1 0 rfl ?_
  refine z_getr gf_X3_15_24 e_X3_begin_2 ?_
  refine z_geti gf_X3_23_1 e_X3_begin_5 ?_
  refine z_puti pf_X3_29_24 e_X3_begin_8 h (fun s1 h => ?_)
  refine z_aload e_X3_begin_11 0 rfl ?_
  refine z_aload e_X3_begin_12 0 rfl ?_
  refine z_getr gf_X3_15_24 e_X3_begin_13 ?_
  refine z_geti gf_X3_30_1 e_X3_begin_16 ?_
  refine z_puti pf_X3_33_24 e_X3_begin_19 h (fun s2 h => ?_)
  refine z_aload e_X3_begin_22 0 rfl ?_
  refine z_aload e_X3_begin_23 0 rfl ?_
  refine z_getr gf_X3_15_24 e_X3_begin_24 ?_
  refine z_geti gf_X3_34_1 e_X3_begin_27 ?_
  refine z_puti pf_X3_37_24 e_X3_begin_30 h (fun s3 h => ?_)
  refine z_aload e_X3_begin_33 0 rfl ?_
  refine z_aload e_X3_begin_34 0 rfl ?_
  refine z_getr gf_X3_15_24 e_X3_begin_35 ?_
  refine z_geti gf_X3_38_1 e_X3_begin_38 ?_
  refine z_puti pf_X3_41_24 e_X3_begin_41 h (fun s4 h => ?_)
  cases h
  exact z_vreturn hR e_X3_begin_44
noncomputable def F_X3_begin (σ : zSt) : Option (Unit × zSt) := F_X3_begin_0  σ
set_option maxRecDepth 100000 in
theorem m_X3_begin (G : zG) (σ : zSt) (q : Unit) (τ : zSt) (h : F_X3_begin  σ = some (q, τ)) : zM G 1 yX3_begin cX3_begin 1 none [.ref (zad G 24)] σ none τ := by
  unfold F_X3_begin at h
  refine zM.of (own := RX3) (by decide +kernel) rfl (Nat.le_of_ble_eq_true rfl) (fun C hR => ?_)
  exact z_sub [0] rfl (p_X3_begin_0 hR  σ h)
noncomputable def F_X10_isWet_0 (x1 : Int32) (σ : zSt) : Option (Int32 × zSt) :=
  bd (F_X11_isBelow x1 (8 : Int32) σ) (fun q2 s1 =>
    if q2 = 0 then (
      some ((0 : Int32), s1))
    else (
      if (((s1.1 1 7) >>> (x1 &&& 31)) &&& (1 : Int32)) = (1 : Int32) then (
        some ((1 : Int32), s1))
      else (
        some ((0 : Int32), s1))))
set_option maxHeartbeats 4000000 in
set_option maxRecDepth 100000 in
theorem p_X10_isWet_0 {G : zG} {C : zC} {r : Int32} {τ : zSt} (hR : zR G C (some .boolean) (some (.int r)) τ) (x1 : Int32) (σ : zSt) (h : F_X10_isWet_0 x1 σ = some (r, τ)) : zAW G 2 RX10 cX10_isWet 2 C 0 [(0, .ref (zad G 1)), (1, .int x1)] [] σ := by
  unfold F_X10_isWet_0 at h
  refine z_iload e_X10_isWet_0 1 rfl ?_
  refine z_ic e_X10_isWet_1 ?_
  obtain ⟨q2, s1, e3, h⟩ := bd_e h
  refine z_callNi (As := [.int x1, .int (8 : Int32)]) (rest := []) lk_X10_58 e_X10_isWet_3 (m_X11_isBelow G x1 (8 : Int32) σ _ _ e3) (by decide) rfl (Nat.le_of_ble_eq_true rfl) ?_
  refine z_if_eq e_X10_isWet_6 h (fun c4 h => ?_) (fun c4 h => ?_)
  · refine z_ic e_X10_isWet_25 ?_
    cases h
    exact z_zreturn hR e_X10_isWet_26 (Or.inl rfl)
  · refine z_aload e_X10_isWet_9 0 rfl ?_
    refine z_geti gf_X10_49_1 e_X10_isWet_10 ?_
    refine z_iload e_X10_isWet_13 1 rfl ?_
    refine z_ishr e_X10_isWet_14 ?_
    refine z_ic e_X10_isWet_15 ?_
    refine z_iand e_X10_isWet_16 ?_
    refine z_ic e_X10_isWet_17 ?_
    refine z_icmp_ne e_X10_isWet_18 h (fun c5 h => ?_) (fun c5 h => ?_)
    · refine z_ic e_X10_isWet_21 ?_
      refine z_goto e_X10_isWet_22 ?_
      cases h
      exact z_zreturn hR e_X10_isWet_26 (Or.inr rfl)
    · refine z_ic e_X10_isWet_25 ?_
      cases h
      exact z_zreturn hR e_X10_isWet_26 (Or.inl rfl)
noncomputable def F_X10_isWet (x1 : Int32) (σ : zSt) : Option (Int32 × zSt) := F_X10_isWet_0 x1 σ
set_option maxRecDepth 100000 in
theorem m_X10_isWet (G : zG) (x1 : Int32) (σ : zSt) (q : Int32) (τ : zSt) (h : F_X10_isWet x1 σ = some (q, τ)) : zM G 2 yX10_isWet cX10_isWet 2 (some .boolean) [.ref (zad G 1), .int x1] σ (some (.int q)) τ := by
  unfold F_X10_isWet at h
  refine zM.of (own := RX10) (by decide +kernel) rfl (Nat.le_of_ble_eq_true rfl) (fun C hR => ?_)
  exact z_sub [0, 1] rfl (p_X10_isWet_0 hR x1 σ h)
noncomputable def F_X10_placesIn_38 (w4 : (Int32 × Int32 × zSt) → Option (Int32 × zSt)) (x1 : Int32) (x3 : Int32) (t0 : Int32) (t1 : Int32) (σ : zSt) : Option (Int32 × zSt) :=
  nm (t1 + t0) (fun v7 =>
    nm (x3 + (1 : Int32)) (fun v8 =>
      w4 (v7, v8, σ)))
set_option maxHeartbeats 4000000 in
set_option maxRecDepth 100000 in
theorem p_X10_placesIn_38 {G : zG} {C : zC} {r : Int32} {τ : zSt} (hR : zR G C (some .int) (some (.int r)) τ) (w4 : (Int32 × Int32 × zSt) → Option (Int32 × zSt)) (x1 : Int32) (x3 : Int32) (t0 : Int32) (t1 : Int32) (hw4 : ∀ (x2 : Int32) (x3 : Int32) (σ : zSt), w4 (x2, x3, σ) = some (r, τ) → zAW G 1 RX10 cX10_placesIn 4 C 4 [(0, .ref (zad G 1)), (1, .int x1), (2, .int x2), (3, .int x3)] [] σ) (σ : zSt) (h : F_X10_placesIn_38 w4 x1 x3 t0 t1 σ = some (r, τ)) : zAW G 1 RX10 cX10_placesIn 4 C 38 [(0, .ref (zad G 1)), (1, .int x1), (3, .int x3)] [.int t0, .int t1] σ := by
  unfold F_X10_placesIn_38 at h
  refine z_iadd e_X10_placesIn_38 ?_
  refine z_nmI h (fun v7 h => ?_)
  refine z_istore e_X10_placesIn_39 (by decide) [(2, .int v7), (0, .ref (zad G 1)), (1, .int x1), (3, .int x3)] rfl ?_
  refine z_iinc e_X10_placesIn_40 3 rfl (by decide) (by decide) h (fun y => [(3, .int y), (2, .int v7), (0, .ref (zad G 1)), (1, .int x1)]) (fun _ => rfl) (fun v8 h => ?_)
  refine z_goto e_X10_placesIn_43 ?_
  exact z_sub [2, 3, 1, 0] rfl (hw4 v7 v8 σ h)
noncomputable def F_X10_placesIn_37 (w4 : (Int32 × Int32 × zSt) → Option (Int32 × zSt)) (x1 : Int32) (x3 : Int32) (t0 : Int32) (σ : zSt) : Option (Int32 × zSt) :=
  F_X10_placesIn_38 w4 x1 x3 (0 : Int32) t0 σ
set_option maxHeartbeats 4000000 in
set_option maxRecDepth 100000 in
theorem p_X10_placesIn_37 {G : zG} {C : zC} {r : Int32} {τ : zSt} (hR : zR G C (some .int) (some (.int r)) τ) (w4 : (Int32 × Int32 × zSt) → Option (Int32 × zSt)) (x1 : Int32) (x3 : Int32) (t0 : Int32) (hw4 : ∀ (x2 : Int32) (x3 : Int32) (σ : zSt), w4 (x2, x3, σ) = some (r, τ) → zAW G 1 RX10 cX10_placesIn 4 C 4 [(0, .ref (zad G 1)), (1, .int x1), (2, .int x2), (3, .int x3)] [] σ) (σ : zSt) (h : F_X10_placesIn_37 w4 x1 x3 t0 σ = some (r, τ)) : zAW G 1 RX10 cX10_placesIn 4 C 37 [(0, .ref (zad G 1)), (1, .int x1), (3, .int x3)] [.int t0] σ := by
  unfold F_X10_placesIn_37 at h
  refine z_ic e_X10_placesIn_37 ?_
  exact z_sub [0, 1, 2] rfl (p_X10_placesIn_38 hR w4 x1 x3 (0 : Int32) t0 hw4 σ h)
noncomputable def F_X10_placesIn_4 (x1 : Int32) (w4 : (Int32 × Int32 × zSt) → Option (Int32 × zSt)) (x2 : Int32) (x3 : Int32) (σ : zSt) : Option (Int32 × zSt) :=
  if (8 : Int32) ≤ x3 then (
    some (x2, σ))
  else (
    if (((σ.1 1 6) >>> (x3 &&& 31)) &&& (1 : Int32)) = (1 : Int32) then (
      gd (vp_in x3 8) (
        nm (if (σ.1 4 x3.toNatClampNeg) = x1 then (1 : Int32) else (0 : Int32)) (fun v3 =>
          nm (x2 + v3) (fun v4 =>
            nm (x3 + (1 : Int32)) (fun v5 =>
              w4 (v4, v5, σ))))))
    else (
      F_X10_placesIn_37 w4 x1 x3 x2 σ))
set_option maxHeartbeats 4000000 in
set_option maxRecDepth 100000 in
theorem b_X10_placesIn_4 {G : zG} {C : zC} {r : Int32} {τ : zSt} (hR : zR G C (some .int) (some (.int r)) τ) (x1 : Int32) (w4 : (Int32 × Int32 × zSt) → Option (Int32 × zSt)) (hw4 : ∀ (x2 : Int32) (x3 : Int32) (σ : zSt), w4 (x2, x3, σ) = some (r, τ) → zAW G 1 RX10 cX10_placesIn 4 C 4 [(0, .ref (zad G 1)), (1, .int x1), (2, .int x2), (3, .int x3)] [] σ) (x2 : Int32) (x3 : Int32) (σ : zSt) (h : F_X10_placesIn_4 x1 w4 x2 x3 σ = some (r, τ)) : zAW G 1 RX10 cX10_placesIn 4 C 4 [(0, .ref (zad G 1)), (1, .int x1), (2, .int x2), (3, .int x3)] [] σ := by
  unfold F_X10_placesIn_4 at h
  refine z_iload e_X10_placesIn_4 3 rfl ?_
  refine z_ic e_X10_placesIn_5 ?_
  refine z_icmp_ge e_X10_placesIn_7 h (fun c1 h => ?_) (fun c1 h => ?_)
  · refine z_iload e_X10_placesIn_46 2 rfl ?_
    cases h
    exact z_ireturn hR e_X10_placesIn_47
  · refine z_iload e_X10_placesIn_10 2 rfl ?_
    refine z_aload e_X10_placesIn_11 0 rfl ?_
    refine z_geti gf_X10_46_1 e_X10_placesIn_12 ?_
    refine z_iload e_X10_placesIn_15 3 rfl ?_
    refine z_ishr e_X10_placesIn_16 ?_
    refine z_ic e_X10_placesIn_17 ?_
    refine z_iand e_X10_placesIn_18 ?_
    refine z_ic e_X10_placesIn_19 ?_
    refine z_icmp_ne e_X10_placesIn_20 h (fun c2 h => ?_) (fun c2 h => ?_)
    · refine z_aload e_X10_placesIn_23 0 rfl ?_
      refine z_getr gf_X10_18_1 e_X10_placesIn_24 ?_
      refine z_iload e_X10_placesIn_27 3 rfl ?_
      refine z_iald sh_4 e_X10_placesIn_28 h (fun h => ?_)
      refine z_iload e_X10_placesIn_29 1 rfl ?_
      obtain ⟨v3, ev3, h⟩ := nm_i h
      have jv3 : zAW G 1 RX10 cX10_placesIn 4 C 38 [(0, .ref (zad G 1)), (1, .int x1), (3, .int x3)] [.int v3, .int x2] σ := by
        refine z_iadd e_X10_placesIn_38 ?_
        refine z_nmI h (fun v4 h => ?_)
        refine z_istore e_X10_placesIn_39 (by decide) [(2, .int v4), (0, .ref (zad G 1)), (1, .int x1), (3, .int x3)] rfl ?_
        refine z_iinc e_X10_placesIn_40 3 rfl (by decide) (by decide) h (fun y => [(3, .int y), (2, .int v4), (0, .ref (zad G 1)), (1, .int x1)]) (fun _ => rfl) (fun v5 h => ?_)
        refine z_goto e_X10_placesIn_43 ?_
        exact z_sub [2, 3, 1, 0] rfl (hw4 v4 v5 σ h)
      refine y_icmp_ne e_X10_placesIn_30 (fun c6 => ?_) (fun c6 => ?_)
      · refine z_ic e_X10_placesIn_33 ?_
        refine z_goto e_X10_placesIn_34 ?_
        rw [if_pos c6] at ev3
        subst ev3
        exact z_sub [0, 1, 3] rfl jv3
      · refine z_ic e_X10_placesIn_37 ?_
        rw [if_neg c6] at ev3
        subst ev3
        exact z_sub [0, 1, 3] rfl jv3
    · exact z_sub [0, 1, 3] rfl (p_X10_placesIn_37 hR w4 x1 x3 x2 hw4 σ h)
noncomputable def F_X10_placesIn_4L (x1 : Int32) : ((Int32 × Int32 × zSt) → Option (Int32 × zSt)) → (Int32 × Int32 × zSt) → Option (Int32 × zSt) := fun w s => F_X10_placesIn_4 x1 w s.1 s.2.1 s.2.2
set_option maxRecDepth 100000 in
theorem l_X10_placesIn_4 {G : zG} {C : zC} {r : Int32} {τ : zSt} (hR : zR G C (some .int) (some (.int r)) τ) (x1 : Int32) : ∀ (N : Nat) (x2 : Int32) (x3 : Int32) (σ : zSt), zfix (F_X10_placesIn_4L x1) N (x2, x3, σ) = some (r, τ) → zAW G 1 RX10 cX10_placesIn 4 C 4 [(0, .ref (zad G 1)), (1, .int x1), (2, .int x2), (3, .int x3)] [] σ := by
  intro N
  induction N with
  | zero =>
    intro x2 x3 σ h
    exact nomatch (show (none : Option (Int32 × zSt)) = some (r, τ) from h)
  | succ N ih =>
    intro x2 x3 σ h
    exact b_X10_placesIn_4 hR x1 (zfix (F_X10_placesIn_4L x1) N) ih x2 x3 σ h
noncomputable def F_X10_placesIn_0 (x1 : Int32) (σ : zSt) : Option (Int32 × zSt) :=
  zfix (F_X10_placesIn_4L x1) zlim ((0 : Int32), (0 : Int32), σ)
set_option maxHeartbeats 4000000 in
set_option maxRecDepth 100000 in
theorem p_X10_placesIn_0 {G : zG} {C : zC} {r : Int32} {τ : zSt} (hR : zR G C (some .int) (some (.int r)) τ) (x1 : Int32) (σ : zSt) (h : F_X10_placesIn_0 x1 σ = some (r, τ)) : zAW G 1 RX10 cX10_placesIn 4 C 0 [(0, .ref (zad G 1)), (1, .int x1)] [] σ := by
  unfold F_X10_placesIn_0 at h
  refine z_ic e_X10_placesIn_0 ?_
  refine z_istore e_X10_placesIn_1 (by decide) [(2, .int (0 : Int32)), (0, .ref (zad G 1)), (1, .int x1)] rfl ?_
  refine z_ic e_X10_placesIn_2 ?_
  refine z_istore e_X10_placesIn_3 (by decide) [(3, .int (0 : Int32)), (2, .int (0 : Int32)), (0, .ref (zad G 1)), (1, .int x1)] rfl ?_
  exact z_sub [2, 3, 1, 0] rfl (l_X10_placesIn_4 hR x1 zlim (0 : Int32) (0 : Int32) σ h)
noncomputable def F_X10_placesIn (x1 : Int32) (σ : zSt) : Option (Int32 × zSt) := F_X10_placesIn_0 x1 σ
set_option maxRecDepth 100000 in
theorem m_X10_placesIn (G : zG) (x1 : Int32) (σ : zSt) (q : Int32) (τ : zSt) (h : F_X10_placesIn x1 σ = some (q, τ)) : zM G 1 yX10_placesIn cX10_placesIn 4 (some .int) [.ref (zad G 1), .int x1] σ (some (.int q)) τ := by
  unfold F_X10_placesIn at h
  refine zM.of (own := RX10) (by decide +kernel) rfl (Nat.le_of_ble_eq_true rfl) (fun C hR => ?_)
  exact z_sub [0, 1] rfl (p_X10_placesIn_0 hR x1 σ h)
noncomputable def F_X3_look_91 (t0 : Int32) (t1 : Int32) (σ : zSt) : Option (Unit × zSt) :=
  gd (vp_in t1 9) (nm (zwr σ 25 t1.toNatClampNeg t0) (fun s15 =>
    bd (F_X10_placesIn (s15.1 24 3) s15) (fun q17 s16 =>
      nm (zwr s16 25 7 q17) (fun s19 =>
        some ((), s19)))))
set_option maxHeartbeats 4000000 in
set_option maxRecDepth 100000 in
theorem p_X3_look_91 {G : zG} {C : zC} {r : Unit} {τ : zSt} (hR : zR G C none none τ) (t0 : Int32) (t1 : Int32) (σ : zSt) (h : F_X3_look_91 t0 t1 σ = some (r, τ)) : zAW G 3 RX3 cX3_look 1 C 91 [(0, .ref (zad G 24))] [.int t0, .int t1, .ref (zad G 25)] σ := by
  unfold F_X3_look_91 at h
  refine z_iast sh_25 e_X3_look_91 h (fun s15 h => ?_)
  refine z_aload e_X3_look_92 0 rfl ?_
  refine z_getr gf_X3_9_24 e_X3_look_93 ?_
  refine z_ic e_X3_look_96 ?_
  refine z_aload e_X3_look_98 0 rfl ?_
  refine z_getr gf_X3_15_24 e_X3_look_99 ?_
  refine z_aload e_X3_look_102 0 rfl ?_
  refine z_geti gf_X3_29_24 e_X3_look_103 ?_
  obtain ⟨q17, s16, e18, h⟩ := bd_e h
  refine z_callVi (c0 := 1) (As := [.int (s15.1 24 3)]) (rest := [.int (7 : Int32), .ref (zad G 25)]) lk_X3_74 ob_1 e_X3_look_106 (m_X10_placesIn G (s15.1 24 3) s15 _ _ e18) (by decide) rfl (Nat.le_of_ble_eq_true rfl) ?_
  refine z_iast0 (j := 7) sh_25 e_X3_look_109 (by unfold vp_in; decide) rfl h (fun s19 h => ?_)
  cases h
  exact z_vreturn hR e_X3_look_110
noncomputable def F_X3_look_90 (t0 : Int32) (σ : zSt) : Option (Unit × zSt) :=
  F_X3_look_91 (0 : Int32) t0 σ
set_option maxHeartbeats 4000000 in
set_option maxRecDepth 100000 in
theorem p_X3_look_90 {G : zG} {C : zC} {r : Unit} {τ : zSt} (hR : zR G C none none τ) (t0 : Int32) (σ : zSt) (h : F_X3_look_90 t0 σ = some (r, τ)) : zAW G 3 RX3 cX3_look 1 C 90 [(0, .ref (zad G 24))] [.int t0, .ref (zad G 25)] σ := by
  unfold F_X3_look_90 at h
  refine z_ic e_X3_look_90 ?_
  exact z_sub [0] rfl (p_X3_look_91 hR (0 : Int32) t0 σ h)
noncomputable def F_X3_look_0 (σ : zSt) : Option (Unit × zSt) :=
  nm (zwr σ 25 1 (σ.1 24 3)) (fun s1 =>
    bd (F_X10_islandOf (s1.1 24 3) s1) (fun q3 s2 =>
      nm (zwr s2 25 2 q3) (fun s5 =>
        bd (F_X10_isWet (s5.1 24 3) s5) (fun q7 s6 =>
          nm (if q7 = 0 then (0 : Int32) else (1 : Int32)) (fun v9 =>
            nm (zwr s6 25 5 v9) (fun s10 =>
              bd (F_X11_isBelow (s10.1 24 3) (8 : Int32) s10) (fun q12 s11 =>
                if q12 = 0 then (
                  F_X3_look_90 (6 : Int32) s11)
                else (
                  gd (vp_in (s11.1 24 3) 8) (
                    nm (if (s11.1 5 (s11.1 24 3).toNatClampNeg) = (-1 : Int32) then (0 : Int32) else (1 : Int32)) (fun v20 =>
                      nm (zwr s11 25 6 v20) (fun s21 =>
                        bd (F_X10_placesIn (s21.1 24 3) s21) (fun q23 s22 =>
                          nm (zwr s22 25 7 q23) (fun s25 =>
                            some ((), s25))))))))))))))
set_option maxHeartbeats 4000000 in
set_option maxRecDepth 100000 in
theorem p_X3_look_0 {G : zG} {C : zC} {r : Unit} {τ : zSt} (hR : zR G C none none τ)  (σ : zSt) (h : F_X3_look_0 σ = some (r, τ)) : zAW G 3 RX3 cX3_look 1 C 0 [(0, .ref (zad G 24))] [] σ := by
  unfold F_X3_look_0 at h
  refine z_aload e_X3_look_0 0 rfl ?_
  refine z_getr gf_X3_9_24 e_X3_look_1 ?_
  refine z_ic e_X3_look_4 ?_
  refine z_aload e_X3_look_5 0 rfl ?_
  refine z_geti gf_X3_29_24 e_X3_look_6 ?_
  refine z_iast0 (j := 1) sh_25 e_X3_look_9 (by unfold vp_in; decide) rfl h (fun s1 h => ?_)
  refine z_aload e_X3_look_10 0 rfl ?_
  refine z_getr gf_X3_9_24 e_X3_look_11 ?_
  refine z_ic e_X3_look_14 ?_
  refine z_aload e_X3_look_15 0 rfl ?_
  refine z_getr gf_X3_15_24 e_X3_look_16 ?_
  refine z_aload e_X3_look_19 0 rfl ?_
  refine z_geti gf_X3_29_24 e_X3_look_20 ?_
  obtain ⟨q3, s2, e4, h⟩ := bd_e h
  refine z_callVi (c0 := 1) (As := [.int (s1.1 24 3)]) (rest := [.int (2 : Int32), .ref (zad G 25)]) lk_X3_60 ob_1 e_X3_look_23 (m_X10_islandOf G (s1.1 24 3) s1 _ _ e4) (by decide) rfl (Nat.le_of_ble_eq_true rfl) ?_
  refine z_iast0 (j := 2) sh_25 e_X3_look_26 (by unfold vp_in; decide) rfl h (fun s5 h => ?_)
  refine z_aload e_X3_look_27 0 rfl ?_
  refine z_getr gf_X3_9_24 e_X3_look_28 ?_
  refine z_ic e_X3_look_31 ?_
  refine z_aload e_X3_look_32 0 rfl ?_
  refine z_getr gf_X3_15_24 e_X3_look_33 ?_
  refine z_aload e_X3_look_36 0 rfl ?_
  refine z_geti gf_X3_29_24 e_X3_look_37 ?_
  obtain ⟨q7, s6, e8, h⟩ := bd_e h
  refine z_callVi (c0 := 1) (As := [.int (s5.1 24 3)]) (rest := [.int (5 : Int32), .ref (zad G 25)]) lk_X3_64 ob_1 e_X3_look_40 (m_X10_isWet G (s5.1 24 3) s5 _ _ e8) (by decide) rfl (Nat.le_of_ble_eq_true rfl) ?_
  obtain ⟨v9, ev9, h⟩ := nm_i h
  have jv9 : zAW G 3 RX3 cX3_look 1 C 51 [(0, .ref (zad G 24))] [.int v9, .int (5 : Int32), .ref (zad G 25)] s6 := by
    refine z_iast0 (j := 5) sh_25 e_X3_look_51 (by unfold vp_in; decide) rfl h (fun s10 h => ?_)
    refine z_aload e_X3_look_52 0 rfl ?_
    refine z_getr gf_X3_9_24 e_X3_look_53 ?_
    refine z_ic e_X3_look_56 ?_
    refine z_aload e_X3_look_58 0 rfl ?_
    refine z_geti gf_X3_29_24 e_X3_look_59 ?_
    refine z_ic e_X3_look_62 ?_
    obtain ⟨q12, s11, e13, h⟩ := bd_e h
    refine z_callNi (As := [.int (s10.1 24 3), .int (8 : Int32)]) (rest := [.int (6 : Int32), .ref (zad G 25)]) lk_X3_67 e_X3_look_64 (m_X11_isBelow G (s10.1 24 3) (8 : Int32) s10 _ _ e13) (by decide) rfl (Nat.le_of_ble_eq_true rfl) ?_
    refine z_if_eq e_X3_look_67 h (fun c14 h => ?_) (fun c14 h => ?_)
    · exact z_sub [0] rfl (p_X3_look_90 hR (6 : Int32) s11 h)
    · refine z_aload e_X3_look_70 0 rfl ?_
      refine z_getr gf_X3_15_24 e_X3_look_71 ?_
      refine z_getr gf_X3_71_1 e_X3_look_74 ?_
      refine z_aload e_X3_look_77 0 rfl ?_
      refine z_geti gf_X3_29_24 e_X3_look_78 ?_
      refine z_iald sh_5 e_X3_look_81 h (fun h => ?_)
      refine z_ic e_X3_look_82 ?_
      obtain ⟨v20, ev20, h⟩ := nm_i h
      have jv20 : zAW G 3 RX3 cX3_look 1 C 91 [(0, .ref (zad G 24))] [.int v20, .int (6 : Int32), .ref (zad G 25)] s11 := by
        refine z_iast0 (j := 6) sh_25 e_X3_look_91 (by unfold vp_in; decide) rfl h (fun s21 h => ?_)
        refine z_aload e_X3_look_92 0 rfl ?_
        refine z_getr gf_X3_9_24 e_X3_look_93 ?_
        refine z_ic e_X3_look_96 ?_
        refine z_aload e_X3_look_98 0 rfl ?_
        refine z_getr gf_X3_15_24 e_X3_look_99 ?_
        refine z_aload e_X3_look_102 0 rfl ?_
        refine z_geti gf_X3_29_24 e_X3_look_103 ?_
        obtain ⟨q23, s22, e24, h⟩ := bd_e h
        refine z_callVi (c0 := 1) (As := [.int (s21.1 24 3)]) (rest := [.int (7 : Int32), .ref (zad G 25)]) lk_X3_74 ob_1 e_X3_look_106 (m_X10_placesIn G (s21.1 24 3) s21 _ _ e24) (by decide) rfl (Nat.le_of_ble_eq_true rfl) ?_
        refine z_iast0 (j := 7) sh_25 e_X3_look_109 (by unfold vp_in; decide) rfl h (fun s25 h => ?_)
        cases h
        exact z_vreturn hR e_X3_look_110
      refine y_icmp_eq e_X3_look_83 (fun c26 => ?_) (fun c26 => ?_)
      · refine z_ic e_X3_look_90 ?_
        rw [if_pos c26] at ev20
        subst ev20
        exact z_sub [0] rfl jv20
      · refine z_ic e_X3_look_86 ?_
        refine z_goto e_X3_look_87 ?_
        rw [if_neg c26] at ev20
        subst ev20
        exact z_sub [0] rfl jv20
  refine y_if_eq e_X3_look_43 (fun c27 => ?_) (fun c27 => ?_)
  · refine z_ic e_X3_look_50 ?_
    rw [if_pos c27] at ev9
    subst ev9
    exact z_sub [0] rfl jv9
  · refine z_ic e_X3_look_46 ?_
    refine z_goto e_X3_look_47 ?_
    rw [if_neg c27] at ev9
    subst ev9
    exact z_sub [0] rfl jv9
noncomputable def F_X3_look (σ : zSt) : Option (Unit × zSt) := F_X3_look_0  σ
set_option maxRecDepth 100000 in
theorem m_X3_look (G : zG) (σ : zSt) (q : Unit) (τ : zSt) (h : F_X3_look  σ = some (q, τ)) : zM G 3 yX3_look cX3_look 1 none [.ref (zad G 24)] σ none τ := by
  unfold F_X3_look at h
  refine zM.of (own := RX3) (by decide +kernel) rfl (Nat.le_of_ble_eq_true rfl) (fun C hR => ?_)
  exact z_sub [0] rfl (p_X3_look_0 hR  σ h)
noncomputable def F_X1_reckoned_0 (x0 : Int32) (x1 : Int32) (x2 : Int32) (σ : zSt) : Option (Int32 × zSt) :=
  if x0 = (37 : Int32) then (
    if x2 = 0 then (
      some ((0 : Int32), σ))
    else (
      gd (¬ x2 = 0) (
        some ((x1 % x2), σ))))
  else (
    if x0 = (42 : Int32) then (
      some ((x1 * x2), σ))
    else (
      if x0 = (43 : Int32) then (
        some ((x1 + x2), σ))
      else (
        if x0 = (45 : Int32) then (
          some ((x1 - x2), σ))
        else (
          if x0 = (47 : Int32) then (
            if x2 = 0 then (
              some ((0 : Int32), σ))
            else (
              gd (¬ x2 = 0) (
                some ((x1 / x2), σ))))
          else (
            if x0 = (60 : Int32) then (
              if x2 ≤ x1 then (
                some ((0 : Int32), σ))
              else (
                some ((1 : Int32), σ)))
            else (
              if x0 = (62 : Int32) then (
                if x1 ≤ x2 then (
                  some ((0 : Int32), σ))
                else (
                  some ((1 : Int32), σ)))
              else (
                if x1 = x2 then (
                  some ((1 : Int32), σ))
                else (
                  some ((0 : Int32), σ)))))))))
set_option maxHeartbeats 4000000 in
set_option maxRecDepth 100000 in
theorem p_X1_reckoned_0 {G : zG} {C : zC} {r : Int32} {τ : zSt} (hR : zR G C (some .int) (some (.int r)) τ) (x0 : Int32) (x1 : Int32) (x2 : Int32) (σ : zSt) (h : F_X1_reckoned_0 x0 x1 x2 σ = some (r, τ)) : zAW G 1 RX1 cX1_reckoned 3 C 0 [(0, .int x0), (1, .int x1), (2, .int x2)] [] σ := by
  unfold F_X1_reckoned_0 at h
  refine z_iload e_X1_reckoned_0 0 rfl ?_
  by_cases c1 : x0 = (37 : Int32)
  · rw [if_pos c1] at h
    refine z_lsw (tgt := 92) e_X1_reckoned_1 (by decide +kernel) (off := 91) (by rw [c1]; decide +kernel) (by decide) ?_
    refine z_iload e_X1_reckoned_92 2 rfl ?_
    refine z_if_ne e_X1_reckoned_93 h (fun c2 h => ?_) (fun c2 h => ?_)
    · refine z_ic e_X1_reckoned_96 ?_
      refine z_goto e_X1_reckoned_97 ?_
      cases h
      exact z_ireturn hR e_X1_reckoned_103
    · refine z_iload e_X1_reckoned_100 1 rfl ?_
      refine z_iload e_X1_reckoned_101 2 rfl ?_
      obtain ⟨hy3, h⟩ := gd_e h
      refine z_irem e_X1_reckoned_102 hy3 ?_
      cases h
      exact z_ireturn hR e_X1_reckoned_103
  · rw [if_neg c1] at h
    by_cases c4 : x0 = (42 : Int32)
    · rw [if_pos c4] at h
      refine z_lsw (tgt := 76) e_X1_reckoned_1 (by decide +kernel) (off := 75) (by rw [c4]; decide +kernel) (by decide) ?_
      refine z_iload e_X1_reckoned_76 1 rfl ?_
      refine z_iload e_X1_reckoned_77 2 rfl ?_
      refine z_imul e_X1_reckoned_78 ?_
      cases h
      exact z_ireturn hR e_X1_reckoned_79
    · rw [if_neg c4] at h
      by_cases c5 : x0 = (43 : Int32)
      · rw [if_pos c5] at h
        refine z_lsw (tgt := 68) e_X1_reckoned_1 (by decide +kernel) (off := 67) (by rw [c5]; decide +kernel) (by decide) ?_
        refine z_iload e_X1_reckoned_68 1 rfl ?_
        refine z_iload e_X1_reckoned_69 2 rfl ?_
        refine z_iadd e_X1_reckoned_70 ?_
        cases h
        exact z_ireturn hR e_X1_reckoned_71
      · rw [if_neg c5] at h
        by_cases c6 : x0 = (45 : Int32)
        · rw [if_pos c6] at h
          refine z_lsw (tgt := 72) e_X1_reckoned_1 (by decide +kernel) (off := 71) (by rw [c6]; decide +kernel) (by decide) ?_
          refine z_iload e_X1_reckoned_72 1 rfl ?_
          refine z_iload e_X1_reckoned_73 2 rfl ?_
          refine z_isub e_X1_reckoned_74 ?_
          cases h
          exact z_ireturn hR e_X1_reckoned_75
        · rw [if_neg c6] at h
          by_cases c7 : x0 = (47 : Int32)
          · rw [if_pos c7] at h
            refine z_lsw (tgt := 80) e_X1_reckoned_1 (by decide +kernel) (off := 79) (by rw [c7]; decide +kernel) (by decide) ?_
            refine z_iload e_X1_reckoned_80 2 rfl ?_
            refine z_if_ne e_X1_reckoned_81 h (fun c8 h => ?_) (fun c8 h => ?_)
            · refine z_ic e_X1_reckoned_84 ?_
              refine z_goto e_X1_reckoned_85 ?_
              cases h
              exact z_ireturn hR e_X1_reckoned_91
            · refine z_iload e_X1_reckoned_88 1 rfl ?_
              refine z_iload e_X1_reckoned_89 2 rfl ?_
              obtain ⟨hy9, h⟩ := gd_e h
              refine z_idiv e_X1_reckoned_90 hy9 ?_
              cases h
              exact z_ireturn hR e_X1_reckoned_91
          · rw [if_neg c7] at h
            by_cases c10 : x0 = (60 : Int32)
            · rw [if_pos c10] at h
              refine z_lsw (tgt := 104) e_X1_reckoned_1 (by decide +kernel) (off := 103) (by rw [c10]; decide +kernel) (by decide) ?_
              refine z_iload e_X1_reckoned_104 1 rfl ?_
              refine z_iload e_X1_reckoned_105 2 rfl ?_
              refine z_icmp_ge e_X1_reckoned_106 h (fun c11 h => ?_) (fun c11 h => ?_)
              · refine z_ic e_X1_reckoned_113 ?_
                cases h
                exact z_ireturn hR e_X1_reckoned_114
              · refine z_ic e_X1_reckoned_109 ?_
                refine z_goto e_X1_reckoned_110 ?_
                cases h
                exact z_ireturn hR e_X1_reckoned_114
            · rw [if_neg c10] at h
              by_cases c12 : x0 = (62 : Int32)
              · rw [if_pos c12] at h
                refine z_lsw (tgt := 115) e_X1_reckoned_1 (by decide +kernel) (off := 114) (by rw [c12]; decide +kernel) (by decide) ?_
                refine z_iload e_X1_reckoned_115 1 rfl ?_
                refine z_iload e_X1_reckoned_116 2 rfl ?_
                refine z_icmp_le e_X1_reckoned_117 h (fun c13 h => ?_) (fun c13 h => ?_)
                · refine z_ic e_X1_reckoned_124 ?_
                  cases h
                  exact z_ireturn hR e_X1_reckoned_125
                · refine z_ic e_X1_reckoned_120 ?_
                  refine z_goto e_X1_reckoned_121 ?_
                  cases h
                  exact z_ireturn hR e_X1_reckoned_125
              · rw [if_neg c12] at h
                refine z_lsw (tgt := 126) e_X1_reckoned_1 (by decide +kernel) (off := 125) ((lv_osw c1 (by decide)).trans ((lv_osw c4 (by decide)).trans ((lv_osw c5 (by decide)).trans ((lv_osw c6 (by decide)).trans ((lv_osw c7 (by decide)).trans ((lv_osw c10 (by decide)).trans ((lv_osw c12 (by decide)).trans rfl))))))) (by decide) ?_
                refine z_iload e_X1_reckoned_126 1 rfl ?_
                refine z_iload e_X1_reckoned_127 2 rfl ?_
                refine z_icmp_ne e_X1_reckoned_128 h (fun c14 h => ?_) (fun c14 h => ?_)
                · refine z_ic e_X1_reckoned_131 ?_
                  refine z_goto e_X1_reckoned_132 ?_
                  cases h
                  exact z_ireturn hR e_X1_reckoned_136
                · refine z_ic e_X1_reckoned_135 ?_
                  cases h
                  exact z_ireturn hR e_X1_reckoned_136
noncomputable def F_X1_reckoned (x0 : Int32) (x1 : Int32) (x2 : Int32) (σ : zSt) : Option (Int32 × zSt) := F_X1_reckoned_0 x0 x1 x2 σ
set_option maxRecDepth 100000 in
theorem m_X1_reckoned (G : zG) (x0 : Int32) (x1 : Int32) (x2 : Int32) (σ : zSt) (q : Int32) (τ : zSt) (h : F_X1_reckoned x0 x1 x2 σ = some (q, τ)) : zM G 1 yX1_reckoned cX1_reckoned 3 (some .int) [.int x0, .int x1, .int x2] σ (some (.int q)) τ := by
  unfold F_X1_reckoned at h
  refine zM.of (own := RX1) (by decide +kernel) rfl (Nat.le_of_ble_eq_true rfl) (fun C hR => ?_)
  exact z_sub [0, 1, 2] rfl (p_X1_reckoned_0 hR x0 x1 x2 σ h)
noncomputable def F_X1_run_311 (x4 : Int32) (σ : zSt) : Option (Int32 × zSt) :=
  if x4 ≤ 0 then (
    some ((0 : Int32), σ))
  else (
    if (64 : Int32) < x4 then (
      some ((0 : Int32), σ))
    else (
      gd (vp_in (x4 - (1 : Int32)) 64) (
        some ((σ.1 16 (x4 - (1 : Int32)).toNatClampNeg), σ))))
set_option maxHeartbeats 4000000 in
set_option maxRecDepth 100000 in
theorem p_X1_run_311 {G : zG} {C : zC} {r : Int32} {τ : zSt} (hR : zR G C (some .int) (some (.int r)) τ) (x4 : Int32) (σ : zSt) (h : F_X1_run_311 x4 σ = some (r, τ)) : zAW G 2 RX1 cX1_run 11 C 311 [(0, .ref (zad G 8)), (4, .int x4)] [] σ := by
  unfold F_X1_run_311 at h
  refine z_iload e_X1_run_311 1 rfl ?_
  refine z_if_le e_X1_run_313 h (fun c2 h => ?_) (fun c2 h => ?_)
  · refine z_ic e_X1_run_335 ?_
    cases h
    exact z_ireturn hR e_X1_run_336
  · refine z_iload e_X1_run_316 1 rfl ?_
    refine z_ic e_X1_run_318 ?_
    refine z_icmp_gt e_X1_run_320 h (fun c3 h => ?_) (fun c3 h => ?_)
    · refine z_ic e_X1_run_335 ?_
      cases h
      exact z_ireturn hR e_X1_run_336
    · refine z_aload e_X1_run_323 0 rfl ?_
      refine z_getr gf_X1_33_8 e_X1_run_324 ?_
      refine z_iload e_X1_run_327 1 rfl ?_
      refine z_ic e_X1_run_329 ?_
      refine z_isub e_X1_run_330 ?_
      refine z_iald sh_16 e_X1_run_331 h (fun h => ?_)
      refine z_goto e_X1_run_332 ?_
      cases h
      exact z_ireturn hR e_X1_run_336
noncomputable def F_X1_run_305 (w9 : (Int32 × Int32 × Int32 × zSt) → Option (Int32 × zSt)) (x2 : Int32) (x4 : Int32) (x5 : Int32) (x6 : Int32) (σ : zSt) : Option (Int32 × zSt) :=
  nm (x6 + (1 : Int32)) (fun v18 =>
    w9 (x4, x5, v18, σ))
set_option maxHeartbeats 4000000 in
set_option maxRecDepth 100000 in
theorem p_X1_run_305 {G : zG} {C : zC} {r : Int32} {τ : zSt} (hR : zR G C (some .int) (some (.int r)) τ) (w9 : (Int32 × Int32 × Int32 × zSt) → Option (Int32 × zSt)) (x2 : Int32) (x4 : Int32) (x5 : Int32) (x6 : Int32) (hw9 : ∀ (x4 : Int32) (x5 : Int32) (x6 : Int32) (σ : zSt), w9 (x4, x5, x6, σ) = some (r, τ) → zAW G 2 RX1 cX1_run 11 C 9 [(0, .ref (zad G 8)), (2, .int x2), (3, .ref (zad G 25)), (4, .int x4), (5, .int x5), (6, .int x6)] [] σ) (σ : zSt) (h : F_X1_run_305 w9 x2 x4 x5 x6 σ = some (r, τ)) : zAW G 2 RX1 cX1_run 11 C 305 [(0, .ref (zad G 8)), (2, .int x2), (3, .ref (zad G 25)), (4, .int x4), (5, .int x5), (6, .int x6)] [] σ := by
  unfold F_X1_run_305 at h
  refine z_iinc e_X1_run_305 5 rfl (by decide) (by decide) h (fun y => [(6, .int y), (0, .ref (zad G 8)), (2, .int x2), (3, .ref (zad G 25)), (4, .int x4), (5, .int x5)]) (fun _ => rfl) (fun v18 h => ?_)
  refine z_goto e_X1_run_308 ?_
  exact z_sub [1, 2, 3, 4, 5, 0] rfl (hw9 x4 x5 v18 σ h)
noncomputable def F_X1_run_121 (w9 : (Int32 × Int32 × Int32 × zSt) → Option (Int32 × zSt)) (x2 : Int32) (x4 : Int32) (x5 : Int32) (x6 : Int32) (t0 : Int32) (t1 : Int32) (σ : zSt) : Option (Int32 × zSt) :=
  gd (vp_in t1 64) (nm (zwr σ 16 t1.toNatClampNeg t0) (fun s16 =>
    nm (x4 + (1 : Int32)) (fun v17 =>
      F_X1_run_305 w9 x2 v17 x5 x6 s16)))
set_option maxHeartbeats 4000000 in
set_option maxRecDepth 100000 in
theorem p_X1_run_121 {G : zG} {C : zC} {r : Int32} {τ : zSt} (hR : zR G C (some .int) (some (.int r)) τ) (w9 : (Int32 × Int32 × Int32 × zSt) → Option (Int32 × zSt)) (x2 : Int32) (x4 : Int32) (x5 : Int32) (x6 : Int32) (t0 : Int32) (t1 : Int32) (hw9 : ∀ (x4 : Int32) (x5 : Int32) (x6 : Int32) (σ : zSt), w9 (x4, x5, x6, σ) = some (r, τ) → zAW G 2 RX1 cX1_run 11 C 9 [(0, .ref (zad G 8)), (2, .int x2), (3, .ref (zad G 25)), (4, .int x4), (5, .int x5), (6, .int x6)] [] σ) (σ : zSt) (h : F_X1_run_121 w9 x2 x4 x5 x6 t0 t1 σ = some (r, τ)) : zAW G 2 RX1 cX1_run 11 C 121 [(0, .ref (zad G 8)), (2, .int x2), (3, .ref (zad G 25)), (4, .int x4), (5, .int x5), (6, .int x6)] [.int t0, .int t1, .ref (zad G 16)] σ := by
  unfold F_X1_run_121 at h
  refine z_iast sh_16 e_X1_run_121 h (fun s16 h => ?_)
  refine z_iinc e_X1_run_122 3 rfl (by decide) (by decide) h (fun y => [(4, .int y), (0, .ref (zad G 8)), (2, .int x2), (3, .ref (zad G 25)), (5, .int x5), (6, .int x6)]) (fun _ => rfl) (fun v17 h => ?_)
  refine z_goto e_X1_run_125 ?_
  exact z_sub [1, 2, 3, 0, 4, 5] rfl (p_X1_run_305 hR w9 x2 v17 x5 x6 hw9 s16 h)
noncomputable def F_X1_run_99 (w9 : (Int32 × Int32 × Int32 × zSt) → Option (Int32 × zSt)) (x2 : Int32) (x4 : Int32) (x5 : Int32) (x6 : Int32) (x7 : Int32) (x8 : Int32) (σ : zSt) : Option (Int32 × zSt) :=
  if x7 = (35 : Int32) then (
    F_X1_run_121 w9 x2 x4 x5 x6 x8 x4 σ)
  else (
    gd (vp_in x8 9) (
      F_X1_run_121 w9 x2 x4 x5 x6 (σ.1 25 x8.toNatClampNeg) x4 σ))
set_option maxHeartbeats 4000000 in
set_option maxRecDepth 100000 in
theorem p_X1_run_99 {G : zG} {C : zC} {r : Int32} {τ : zSt} (hR : zR G C (some .int) (some (.int r)) τ) (w9 : (Int32 × Int32 × Int32 × zSt) → Option (Int32 × zSt)) (x2 : Int32) (x4 : Int32) (x5 : Int32) (x6 : Int32) (x7 : Int32) (x8 : Int32) (hw9 : ∀ (x4 : Int32) (x5 : Int32) (x6 : Int32) (σ : zSt), w9 (x4, x5, x6, σ) = some (r, τ) → zAW G 2 RX1 cX1_run 11 C 9 [(0, .ref (zad G 8)), (2, .int x2), (3, .ref (zad G 25)), (4, .int x4), (5, .int x5), (6, .int x6)] [] σ) (σ : zSt) (h : F_X1_run_99 w9 x2 x4 x5 x6 x7 x8 σ = some (r, τ)) : zAW G 2 RX1 cX1_run 11 C 99 [(0, .ref (zad G 8)), (2, .int x2), (3, .ref (zad G 25)), (4, .int x4), (5, .int x5), (6, .int x6), (7, .int x7), (8, .int x8)] [] σ := by
  unfold F_X1_run_99 at h
  refine z_aload e_X1_run_99 0 rfl ?_
  refine z_getr gf_X1_33_8 e_X1_run_100 ?_
  refine z_iload e_X1_run_103 3 rfl ?_
  refine z_iload e_X1_run_105 6 rfl ?_
  refine z_ic e_X1_run_107 ?_
  refine z_icmp_ne e_X1_run_109 h (fun c15 h => ?_) (fun c15 h => ?_)
  · refine z_iload e_X1_run_112 7 rfl ?_
    refine z_goto e_X1_run_114 ?_
    exact z_sub [0, 1, 2, 3, 4, 5] rfl (p_X1_run_121 hR w9 x2 x4 x5 x6 x8 x4 hw9 σ h)
  · refine z_aload e_X1_run_117 2 rfl ?_
    refine z_iload e_X1_run_118 7 rfl ?_
    refine z_iald sh_25 e_X1_run_120 h (fun h => ?_)
    exact z_sub [0, 1, 2, 3, 4, 5] rfl (p_X1_run_121 hR w9 x2 x4 x5 x6 (σ.1 25 x8.toNatClampNeg) x4 hw9 σ h)
noncomputable def F_X1_run_71 (w9 : (Int32 × Int32 × Int32 × zSt) → Option (Int32 × zSt)) (x2 : Int32) (x4 : Int32) (x5 : Int32) (x6 : Int32) (x7 : Int32) (x8 : Int32) (σ : zSt) : Option (Int32 × zSt) :=
  if (64 : Int32) ≤ x4 then (
    some ((0 : Int32), σ))
  else (
    if x7 = (63 : Int32) then (
      if x8 < 0 then (
        some ((0 : Int32), σ))
      else (
        if x8 < (9 : Int32) then (
          F_X1_run_99 w9 x2 x4 x5 x6 x7 x8 σ)
        else (
          some ((0 : Int32), σ))))
    else (
      F_X1_run_99 w9 x2 x4 x5 x6 x7 x8 σ))
set_option maxHeartbeats 4000000 in
set_option maxRecDepth 100000 in
theorem p_X1_run_71 {G : zG} {C : zC} {r : Int32} {τ : zSt} (hR : zR G C (some .int) (some (.int r)) τ) (w9 : (Int32 × Int32 × Int32 × zSt) → Option (Int32 × zSt)) (x2 : Int32) (x4 : Int32) (x5 : Int32) (x6 : Int32) (x7 : Int32) (x8 : Int32) (hw9 : ∀ (x4 : Int32) (x5 : Int32) (x6 : Int32) (σ : zSt), w9 (x4, x5, x6, σ) = some (r, τ) → zAW G 2 RX1 cX1_run 11 C 9 [(0, .ref (zad G 8)), (2, .int x2), (3, .ref (zad G 25)), (4, .int x4), (5, .int x5), (6, .int x6)] [] σ) (σ : zSt) (h : F_X1_run_71 w9 x2 x4 x5 x6 x7 x8 σ = some (r, τ)) : zAW G 2 RX1 cX1_run 11 C 71 [(0, .ref (zad G 8)), (2, .int x2), (3, .ref (zad G 25)), (4, .int x4), (5, .int x5), (6, .int x6), (7, .int x7), (8, .int x8)] [] σ := by
  unfold F_X1_run_71 at h
  refine z_iload e_X1_run_71 3 rfl ?_
  refine z_ic e_X1_run_73 ?_
  refine z_icmp_ge e_X1_run_75 h (fun c11 h => ?_) (fun c11 h => ?_)
  · refine z_ic e_X1_run_97 ?_
    cases h
    exact z_ireturn hR e_X1_run_98
  · refine z_iload e_X1_run_78 6 rfl ?_
    refine z_ic e_X1_run_80 ?_
    refine z_icmp_ne e_X1_run_82 h (fun c12 h => ?_) (fun c12 h => ?_)
    · refine z_iload e_X1_run_85 7 rfl ?_
      refine z_if_lt e_X1_run_87 h (fun c13 h => ?_) (fun c13 h => ?_)
      · refine z_ic e_X1_run_97 ?_
        cases h
        exact z_ireturn hR e_X1_run_98
      · refine z_iload e_X1_run_90 7 rfl ?_
        refine z_aload e_X1_run_92 2 rfl ?_
        refine z_alen sh_25 (by decide) (v := 9) (by decide) e_X1_run_93 ?_
        refine z_icmp_lt e_X1_run_94 h (fun c14 h => ?_) (fun c14 h => ?_)
        · exact z_sub [0, 1, 2, 3, 4, 5, 6, 7] rfl (p_X1_run_99 hR w9 x2 x4 x5 x6 x7 x8 hw9 σ h)
        · refine z_ic e_X1_run_97 ?_
          cases h
          exact z_ireturn hR e_X1_run_98
    · exact z_sub [0, 1, 2, 3, 4, 5, 6, 7] rfl (p_X1_run_99 hR w9 x2 x4 x5 x6 x7 x8 hw9 σ h)
noncomputable def F_X1_run_277 (w9 : (Int32 × Int32 × Int32 × zSt) → Option (Int32 × zSt)) (x2 : Int32) (x4 : Int32) (x5 : Int32) (x6 : Int32) (x7 : Int32) (x10 : Int32) (σ : zSt) : Option (Int32 × zSt) :=
  gd (vp_in (x4 - (2 : Int32)) 64) (
    bd (F_X1_reckoned x7 (σ.1 16 (x4 - (2 : Int32)).toNatClampNeg) x10 σ) (fun q32 s31 =>
      gd (vp_in (x4 - (2 : Int32)) 64) (nm (zwr s31 16 (x4 - (2 : Int32)).toNatClampNeg q32) (fun s34 =>
        nm (x4 + (-1 : Int32)) (fun v35 =>
          F_X1_run_305 w9 x2 v35 x5 x6 s34)))))
set_option maxHeartbeats 4000000 in
set_option maxRecDepth 100000 in
theorem p_X1_run_277 {G : zG} {C : zC} {r : Int32} {τ : zSt} (hR : zR G C (some .int) (some (.int r)) τ) (w9 : (Int32 × Int32 × Int32 × zSt) → Option (Int32 × zSt)) (x2 : Int32) (x4 : Int32) (x5 : Int32) (x6 : Int32) (x7 : Int32) (x10 : Int32) (hw9 : ∀ (x4 : Int32) (x5 : Int32) (x6 : Int32) (σ : zSt), w9 (x4, x5, x6, σ) = some (r, τ) → zAW G 2 RX1 cX1_run 11 C 9 [(0, .ref (zad G 8)), (2, .int x2), (3, .ref (zad G 25)), (4, .int x4), (5, .int x5), (6, .int x6)] [] σ) (σ : zSt) (h : F_X1_run_277 w9 x2 x4 x5 x6 x7 x10 σ = some (r, τ)) : zAW G 2 RX1 cX1_run 11 C 277 [(0, .ref (zad G 8)), (2, .int x2), (3, .ref (zad G 25)), (4, .int x4), (5, .int x5), (6, .int x6), (7, .int x7), (10, .int x10)] [] σ := by
  unfold F_X1_run_277 at h
  refine z_aload e_X1_run_277 0 rfl ?_
  refine z_getr gf_X1_33_8 e_X1_run_278 ?_
  refine z_iload e_X1_run_281 3 rfl ?_
  refine z_ic e_X1_run_283 ?_
  refine z_isub e_X1_run_284 ?_
  refine z_iload e_X1_run_285 6 rfl ?_
  refine z_aload e_X1_run_287 0 rfl ?_
  refine z_getr gf_X1_33_8 e_X1_run_288 ?_
  refine z_iload e_X1_run_291 3 rfl ?_
  refine z_ic e_X1_run_293 ?_
  refine z_isub e_X1_run_294 ?_
  refine z_iald sh_16 e_X1_run_295 h (fun h => ?_)
  refine z_iload e_X1_run_296 7 rfl ?_
  obtain ⟨q32, s31, e33, h⟩ := bd_e h
  refine z_callSi (As := [.int x7, .int (σ.1 16 (x4 - (2 : Int32)).toNatClampNeg), .int x10]) (rest := [.int (x4 - (2 : Int32)), .ref (zad G 16)]) lk_X1_121 e_X1_run_298 (m_X1_reckoned G x7 (σ.1 16 (x4 - (2 : Int32)).toNatClampNeg) x10 σ _ _ e33) (by decide) rfl (Nat.le_of_ble_eq_true rfl) ?_
  refine z_iast sh_16 e_X1_run_301 h (fun s34 h => ?_)
  refine z_iinc e_X1_run_302 3 rfl (by decide) (by decide) h (fun y => [(4, .int y), (0, .ref (zad G 8)), (2, .int x2), (3, .ref (zad G 25)), (5, .int x5), (6, .int x6), (7, .int x7), (10, .int x10)]) (fun _ => rfl) (fun v35 h => ?_)
  exact z_sub [1, 2, 3, 0, 4, 5] rfl (p_X1_run_305 hR w9 x2 v35 x5 x6 hw9 s34 h)
noncomputable def F_X1_run_245 (w9 : (Int32 × Int32 × Int32 × zSt) → Option (Int32 × zSt)) (x2 : Int32) (x4 : Int32) (x5 : Int32) (x6 : Int32) (x7 : Int32) (x9 : Int32) (x10 : Int32) (σ : zSt) : Option (Int32 × zSt) :=
  if x9 = 0 then (
    if x10 = 0 then (
      if x7 = (47 : Int32) then (
        some ((0 : Int32), σ))
      else (
        if x7 = (37 : Int32) then (
          some ((0 : Int32), σ))
        else (
          F_X1_run_277 w9 x2 x4 x5 x6 x7 x10 σ)))
    else (
      F_X1_run_277 w9 x2 x4 x5 x6 x7 x10 σ))
  else (
    nm (x4 + (-1 : Int32)) (fun v36 =>
      F_X1_run_305 w9 x2 v36 x5 x6 σ))
set_option maxHeartbeats 4000000 in
set_option maxRecDepth 100000 in
theorem p_X1_run_245 {G : zG} {C : zC} {r : Int32} {τ : zSt} (hR : zR G C (some .int) (some (.int r)) τ) (w9 : (Int32 × Int32 × Int32 × zSt) → Option (Int32 × zSt)) (x2 : Int32) (x4 : Int32) (x5 : Int32) (x6 : Int32) (x7 : Int32) (x9 : Int32) (x10 : Int32) (hw9 : ∀ (x4 : Int32) (x5 : Int32) (x6 : Int32) (σ : zSt), w9 (x4, x5, x6, σ) = some (r, τ) → zAW G 2 RX1 cX1_run 11 C 9 [(0, .ref (zad G 8)), (2, .int x2), (3, .ref (zad G 25)), (4, .int x4), (5, .int x5), (6, .int x6)] [] σ) (σ : zSt) (h : F_X1_run_245 w9 x2 x4 x5 x6 x7 x9 x10 σ = some (r, τ)) : zAW G 2 RX1 cX1_run 11 C 245 [(0, .ref (zad G 8)), (2, .int x2), (3, .ref (zad G 25)), (4, .int x4), (5, .int x5), (6, .int x6), (7, .int x7), (9, .int x9), (10, .int x10)] [] σ := by
  unfold F_X1_run_245 at h
  refine z_iload e_X1_run_245 7 rfl ?_
  refine z_if_eq e_X1_run_247 h (fun c27 h => ?_) (fun c27 h => ?_)
  · refine z_iload e_X1_run_256 8 rfl ?_
    refine z_if_ne e_X1_run_258 h (fun c28 h => ?_) (fun c28 h => ?_)
    · refine z_iload e_X1_run_261 6 rfl ?_
      refine z_ic e_X1_run_263 ?_
      refine z_icmp_eq e_X1_run_265 h (fun c29 h => ?_) (fun c29 h => ?_)
      · refine z_ic e_X1_run_275 ?_
        cases h
        exact z_ireturn hR e_X1_run_276
      · refine z_iload e_X1_run_268 6 rfl ?_
        refine z_ic e_X1_run_270 ?_
        refine z_icmp_ne e_X1_run_272 h (fun c30 h => ?_) (fun c30 h => ?_)
        · refine z_ic e_X1_run_275 ?_
          cases h
          exact z_ireturn hR e_X1_run_276
        · exact z_sub [0, 1, 2, 3, 4, 5, 6, 8] rfl (p_X1_run_277 hR w9 x2 x4 x5 x6 x7 x10 hw9 σ h)
    · exact z_sub [0, 1, 2, 3, 4, 5, 6, 8] rfl (p_X1_run_277 hR w9 x2 x4 x5 x6 x7 x10 hw9 σ h)
  · refine z_iinc e_X1_run_250 3 rfl (by decide) (by decide) h (fun y => [(4, .int y), (0, .ref (zad G 8)), (2, .int x2), (3, .ref (zad G 25)), (5, .int x5), (6, .int x6), (7, .int x7), (9, .int x9), (10, .int x10)]) (fun _ => rfl) (fun v36 h => ?_)
    refine z_goto e_X1_run_253 ?_
    exact z_sub [1, 2, 3, 0, 4, 5] rfl (p_X1_run_305 hR w9 x2 v36 x5 x6 hw9 σ h)
noncomputable def F_X1_run_9 (x2 : Int32) (w9 : (Int32 × Int32 × Int32 × zSt) → Option (Int32 × zSt)) (x4 : Int32) (x5 : Int32) (x6 : Int32) (σ : zSt) : Option (Int32 × zSt) :=
  if (240 : Int32) ≤ x6 then (
    F_X1_run_311 x4 σ)
  else (
    if x5 < 0 then (
      F_X1_run_311 x4 σ)
    else (
      if x2 ≤ x5 then (
        F_X1_run_311 x4 σ)
      else (
        if (240 : Int32) ≤ x5 then (
          F_X1_run_311 x4 σ)
        else (
          gd (vp_in x5 240) (
            nm (σ.1 9 x5.toNatClampNeg) (fun v7 =>
              gd (vp_in x5 240) (
                nm (σ.1 10 x5.toNatClampNeg) (fun v8 =>
                  nm (x5 + (1 : Int32)) (fun v9 =>
                    if v7 = (35 : Int32) then (
                      F_X1_run_71 w9 x2 x4 v9 x6 v7 v8 σ)
                    else (
                      if v7 = (63 : Int32) then (
                        F_X1_run_71 w9 x2 x4 v9 x6 v7 v8 σ)
                      else (
                        nm (if v7 = (33 : Int32) then (1 : Int32) else (if v7 = (38 : Int32) then (1 : Int32) else (if v7 = (124 : Int32) then (1 : Int32) else (0 : Int32)))) (fun v20 =>
                          nm (if v20 = 0 then (2 : Int32) else (1 : Int32)) (fun v21 =>
                            if v21 ≤ x4 then (
                              gd (vp_in (x4 - (1 : Int32)) 64) (
                                nm (σ.1 16 (x4 - (1 : Int32)).toNatClampNeg) (fun v23 =>
                                  if v7 = (33 : Int32) then (
                                    gd (vp_in (x4 - (1 : Int32)) 64) (nm (zwr σ 16 (x4 - (1 : Int32)).toNatClampNeg ((1 : Int32) - v23)) (fun s25 =>
                                      F_X1_run_305 w9 x2 x4 v9 x6 s25)))
                                  else (
                                    if v20 = 0 then (
                                      F_X1_run_245 w9 x2 x4 v9 x6 v7 v20 v23 σ)
                                    else (
                                      nm (if v23 = (1 : Int32) then (1 : Int32) else (0 : Int32)) (fun v37 =>
                                        nm (if v7 = (124 : Int32) then (1 : Int32) else (0 : Int32)) (fun v38 =>
                                          if v37 = v38 then (
                                            F_X1_run_305 w9 x2 x4 v8 x6 σ)
                                          else (
                                            F_X1_run_245 w9 x2 x4 v9 x6 v7 v20 v23 σ))))))))
                            else (
                              some ((0 : Int32), σ)))))))))))))))
set_option maxHeartbeats 4000000 in
set_option maxRecDepth 100000 in
theorem b_X1_run_9 {G : zG} {C : zC} {r : Int32} {τ : zSt} (hR : zR G C (some .int) (some (.int r)) τ) (x2 : Int32) (w9 : (Int32 × Int32 × Int32 × zSt) → Option (Int32 × zSt)) (hw9 : ∀ (x4 : Int32) (x5 : Int32) (x6 : Int32) (σ : zSt), w9 (x4, x5, x6, σ) = some (r, τ) → zAW G 2 RX1 cX1_run 11 C 9 [(0, .ref (zad G 8)), (2, .int x2), (3, .ref (zad G 25)), (4, .int x4), (5, .int x5), (6, .int x6)] [] σ) (x4 : Int32) (x5 : Int32) (x6 : Int32) (σ : zSt) (h : F_X1_run_9 x2 w9 x4 x5 x6 σ = some (r, τ)) : zAW G 2 RX1 cX1_run 11 C 9 [(0, .ref (zad G 8)), (2, .int x2), (3, .ref (zad G 25)), (4, .int x4), (5, .int x5), (6, .int x6)] [] σ := by
  unfold F_X1_run_9 at h
  refine z_iload e_X1_run_9 5 rfl ?_
  refine z_ic e_X1_run_11 ?_
  refine z_icmp_ge e_X1_run_14 h (fun c1 h => ?_) (fun c1 h => ?_)
  · exact z_sub [0, 3] rfl (p_X1_run_311 hR x4 σ h)
  · refine z_iload e_X1_run_17 4 rfl ?_
    refine z_if_lt e_X1_run_19 h (fun c4 h => ?_) (fun c4 h => ?_)
    · exact z_sub [0, 3] rfl (p_X1_run_311 hR x4 σ h)
    · refine z_iload e_X1_run_22 4 rfl ?_
      refine z_iload e_X1_run_24 1 rfl ?_
      refine z_icmp_ge e_X1_run_25 h (fun c5 h => ?_) (fun c5 h => ?_)
      · exact z_sub [0, 3] rfl (p_X1_run_311 hR x4 σ h)
      · refine z_iload e_X1_run_28 4 rfl ?_
        refine z_ic e_X1_run_30 ?_
        refine z_icmp_ge e_X1_run_33 h (fun c6 h => ?_) (fun c6 h => ?_)
        · exact z_sub [0, 3] rfl (p_X1_run_311 hR x4 σ h)
        · refine z_aload e_X1_run_36 0 rfl ?_
          refine z_getr gf_X1_11_8 e_X1_run_37 ?_
          refine z_iload e_X1_run_40 4 rfl ?_
          refine z_iald sh_9 e_X1_run_42 h (fun h => ?_)
          refine z_nmI h (fun v7 h => ?_)
          refine z_istore e_X1_run_43 (by decide) [(7, .int v7), (0, .ref (zad G 8)), (2, .int x2), (3, .ref (zad G 25)), (4, .int x4), (5, .int x5), (6, .int x6)] rfl ?_
          refine z_aload e_X1_run_45 1 rfl ?_
          refine z_getr gf_X1_15_8 e_X1_run_46 ?_
          refine z_iload e_X1_run_49 5 rfl ?_
          refine z_iald sh_10 e_X1_run_51 h (fun h => ?_)
          refine z_nmI h (fun v8 h => ?_)
          refine z_istore e_X1_run_52 (by decide) [(8, .int v8), (7, .int v7), (0, .ref (zad G 8)), (2, .int x2), (3, .ref (zad G 25)), (4, .int x4), (5, .int x5), (6, .int x6)] rfl ?_
          refine z_iinc e_X1_run_54 6 rfl (by decide) (by decide) h (fun y => [(5, .int y), (8, .int v8), (7, .int v7), (0, .ref (zad G 8)), (2, .int x2), (3, .ref (zad G 25)), (4, .int x4), (6, .int x6)]) (fun _ => rfl) (fun v9 h => ?_)
          refine z_iload e_X1_run_57 2 rfl ?_
          refine z_ic e_X1_run_59 ?_
          refine z_icmp_eq e_X1_run_61 h (fun c10 h => ?_) (fun c10 h => ?_)
          · exact z_sub [3, 4, 5, 6, 0, 7, 2, 1] rfl (p_X1_run_71 hR w9 x2 x4 v9 x6 v7 v8 hw9 σ h)
          · refine z_iload e_X1_run_64 2 rfl ?_
            refine z_ic e_X1_run_66 ?_
            refine z_icmp_ne e_X1_run_68 h (fun c19 h => ?_) (fun c19 h => ?_)
            · exact z_sub [3, 4, 5, 6, 0, 7, 2, 1] rfl (p_X1_run_71 hR w9 x2 x4 v9 x6 v7 v8 hw9 σ h)
            · refine z_iload e_X1_run_128 2 rfl ?_
              refine z_ic e_X1_run_130 ?_
              obtain ⟨v20, ev20, h⟩ := nm_i h
              have jv20 : zAW G 2 RX1 cX1_run 11 C 154 [(0, .ref (zad G 8)), (2, .int x2), (3, .ref (zad G 25)), (4, .int x4), (5, .int v9), (6, .int x6), (7, .int v7), (8, .int v8)] [.int v20] σ := by
                refine z_istore e_X1_run_154 (by decide) [(9, .int v20), (0, .ref (zad G 8)), (2, .int x2), (3, .ref (zad G 25)), (4, .int x4), (5, .int v9), (6, .int x6), (7, .int v7), (8, .int v8)] rfl ?_
                refine z_iload e_X1_run_156 4 rfl ?_
                refine z_iload e_X1_run_158 0 rfl ?_
                obtain ⟨v21, ev21, h⟩ := nm_i h
                have jv21 : zAW G 2 RX1 cX1_run 11 C 168 [(0, .ref (zad G 8)), (2, .int x2), (3, .ref (zad G 25)), (4, .int x4), (5, .int v9), (6, .int x6), (7, .int v7), (8, .int v8), (9, .int v20)] [.int v21, .int x4] σ := by
                  refine z_icmp_ge e_X1_run_168 h (fun c22 h => ?_) (fun c22 h => ?_)
                  · refine z_aload e_X1_run_173 0 rfl ?_
                    refine z_getr gf_X1_33_8 e_X1_run_174 ?_
                    refine z_iload e_X1_run_177 3 rfl ?_
                    refine z_ic e_X1_run_179 ?_
                    refine z_isub e_X1_run_180 ?_
                    refine z_iald sh_16 e_X1_run_181 h (fun h => ?_)
                    refine z_nmI h (fun v23 h => ?_)
                    refine z_istore e_X1_run_182 (by decide) [(10, .int v23), (0, .ref (zad G 8)), (2, .int x2), (3, .ref (zad G 25)), (4, .int x4), (5, .int v9), (6, .int x6), (7, .int v7), (8, .int v8), (9, .int v20)] rfl ?_
                    refine z_iload e_X1_run_184 7 rfl ?_
                    refine z_ic e_X1_run_186 ?_
                    refine z_icmp_ne e_X1_run_188 h (fun c24 h => ?_) (fun c24 h => ?_)
                    · refine z_aload e_X1_run_191 1 rfl ?_
                      refine z_getr gf_X1_33_8 e_X1_run_192 ?_
                      refine z_iload e_X1_run_195 4 rfl ?_
                      refine z_ic e_X1_run_197 ?_
                      refine z_isub e_X1_run_198 ?_
                      refine z_ic e_X1_run_199 ?_
                      refine z_iload e_X1_run_200 0 rfl ?_
                      refine z_isub e_X1_run_202 ?_
                      refine z_iast sh_16 e_X1_run_203 h (fun s25 h => ?_)
                      refine z_goto e_X1_run_204 ?_
                      exact z_sub [1, 2, 3, 4, 5, 6] rfl (p_X1_run_305 hR w9 x2 x4 v9 x6 hw9 s25 h)
                    · refine z_iload e_X1_run_207 9 rfl ?_
                      refine z_if_eq e_X1_run_209 h (fun c26 h => ?_) (fun c26 h => ?_)
                      · exact z_sub [1, 2, 3, 4, 5, 6, 7, 9, 0] rfl (p_X1_run_245 hR w9 x2 x4 v9 x6 v7 v20 v23 hw9 σ h)
                      · refine z_iload e_X1_run_212 0 rfl ?_
                        refine z_ic e_X1_run_214 ?_
                        obtain ⟨v37, ev37, h⟩ := nm_i h
                        have jv37 : zAW G 2 RX1 cX1_run 11 C 223 [(0, .ref (zad G 8)), (2, .int x2), (3, .ref (zad G 25)), (4, .int x4), (5, .int v9), (6, .int x6), (7, .int v7), (8, .int v8), (9, .int v20), (10, .int v23)] [.int v37] σ := by
                          refine z_iload e_X1_run_223 6 rfl ?_
                          refine z_ic e_X1_run_225 ?_
                          obtain ⟨v38, ev38, h⟩ := nm_i h
                          have jv38 : zAW G 2 RX1 cX1_run 11 C 235 [(0, .ref (zad G 8)), (2, .int x2), (3, .ref (zad G 25)), (4, .int x4), (5, .int v9), (6, .int x6), (7, .int v7), (8, .int v8), (9, .int v20), (10, .int v23)] [.int v38, .int v37] σ := by
                            refine z_icmp_ne e_X1_run_235 h (fun c39 h => ?_) (fun c39 h => ?_)
                            · refine z_iload e_X1_run_238 7 rfl ?_
                              refine z_istore e_X1_run_240 (by decide) [(5, .int v8), (0, .ref (zad G 8)), (2, .int x2), (3, .ref (zad G 25)), (4, .int x4), (6, .int x6), (7, .int v7), (8, .int v8), (9, .int v20), (10, .int v23)] rfl ?_
                              refine z_goto e_X1_run_242 ?_
                              exact z_sub [1, 2, 3, 4, 0, 5] rfl (p_X1_run_305 hR w9 x2 x4 v8 x6 hw9 σ h)
                            · exact z_sub [0, 1, 2, 3, 4, 5, 6, 8, 9] rfl (p_X1_run_245 hR w9 x2 x4 v9 x6 v7 v20 v23 hw9 σ h)
                          refine y_icmp_ne e_X1_run_227 (fun c40 => ?_) (fun c40 => ?_)
                          · refine z_ic e_X1_run_230 ?_
                            refine z_goto e_X1_run_231 ?_
                            rw [if_pos c40] at ev38
                            subst ev38
                            exact z_sub [0, 1, 2, 3, 4, 5, 6, 7, 8, 9] rfl jv38
                          · refine z_ic e_X1_run_234 ?_
                            rw [if_neg c40] at ev38
                            subst ev38
                            exact z_sub [0, 1, 2, 3, 4, 5, 6, 7, 8, 9] rfl jv38
                        refine y_icmp_ne e_X1_run_215 (fun c41 => ?_) (fun c41 => ?_)
                        · refine z_ic e_X1_run_218 ?_
                          refine z_goto e_X1_run_219 ?_
                          rw [if_pos c41] at ev37
                          subst ev37
                          exact z_sub [1, 2, 3, 4, 5, 6, 7, 8, 9, 0] rfl jv37
                        · refine z_ic e_X1_run_222 ?_
                          rw [if_neg c41] at ev37
                          subst ev37
                          exact z_sub [1, 2, 3, 4, 5, 6, 7, 8, 9, 0] rfl jv37
                  · refine z_ic e_X1_run_171 ?_
                    cases h
                    exact z_ireturn hR e_X1_run_172
                refine y_if_eq e_X1_run_160 (fun c42 => ?_) (fun c42 => ?_)
                · refine z_ic e_X1_run_167 ?_
                  rw [if_pos c42] at ev21
                  subst ev21
                  exact z_sub [1, 2, 3, 4, 5, 6, 7, 8, 0] rfl jv21
                · refine z_ic e_X1_run_163 ?_
                  refine z_goto e_X1_run_164 ?_
                  rw [if_neg c42] at ev21
                  subst ev21
                  exact z_sub [1, 2, 3, 4, 5, 6, 7, 8, 0] rfl jv21
              refine y_icmp_eq e_X1_run_132 (fun c43 => ?_) (fun c43 => ?_)
              · refine z_ic e_X1_run_149 ?_
                refine z_goto e_X1_run_150 ?_
                rw [if_pos c43] at ev20
                subst ev20
                exact z_sub [3, 4, 5, 6, 0, 7, 2, 1] rfl jv20
              · refine z_iload e_X1_run_135 2 rfl ?_
                refine z_ic e_X1_run_137 ?_
                refine y_icmp_eq e_X1_run_139 (fun c44 => ?_) (fun c44 => ?_)
                · refine z_ic e_X1_run_149 ?_
                  refine z_goto e_X1_run_150 ?_
                  rw [if_neg c43, if_pos c44] at ev20
                  subst ev20
                  exact z_sub [3, 4, 5, 6, 0, 7, 2, 1] rfl jv20
                · refine z_iload e_X1_run_142 2 rfl ?_
                  refine z_ic e_X1_run_144 ?_
                  refine y_icmp_ne e_X1_run_146 (fun c45 => ?_) (fun c45 => ?_)
                  · refine z_ic e_X1_run_149 ?_
                    refine z_goto e_X1_run_150 ?_
                    rw [if_neg c43, if_neg c44, if_pos c45] at ev20
                    subst ev20
                    exact z_sub [3, 4, 5, 6, 0, 7, 2, 1] rfl jv20
                  · refine z_ic e_X1_run_153 ?_
                    rw [if_neg c43, if_neg c44, if_neg c45] at ev20
                    subst ev20
                    exact z_sub [3, 4, 5, 6, 0, 7, 2, 1] rfl jv20
noncomputable def F_X1_run_9L (x2 : Int32) : ((Int32 × Int32 × Int32 × zSt) → Option (Int32 × zSt)) → (Int32 × Int32 × Int32 × zSt) → Option (Int32 × zSt) := fun w s => F_X1_run_9 x2 w s.1 s.2.1 s.2.2.1 s.2.2.2
set_option maxRecDepth 100000 in
theorem l_X1_run_9 {G : zG} {C : zC} {r : Int32} {τ : zSt} (hR : zR G C (some .int) (some (.int r)) τ) (x2 : Int32) : ∀ (N : Nat) (x4 : Int32) (x5 : Int32) (x6 : Int32) (σ : zSt), zfix (F_X1_run_9L x2) N (x4, x5, x6, σ) = some (r, τ) → zAW G 2 RX1 cX1_run 11 C 9 [(0, .ref (zad G 8)), (2, .int x2), (3, .ref (zad G 25)), (4, .int x4), (5, .int x5), (6, .int x6)] [] σ := by
  intro N
  induction N with
  | zero =>
    intro x4 x5 x6 σ h
    exact nomatch (show (none : Option (Int32 × zSt)) = some (r, τ) from h)
  | succ N ih =>
    intro x4 x5 x6 σ h
    exact b_X1_run_9 hR x2 (zfix (F_X1_run_9L x2) N) ih x4 x5 x6 σ h
noncomputable def F_X1_run_0 (x1 : Int32) (x2 : Int32) (σ : zSt) : Option (Int32 × zSt) :=
  zfix (F_X1_run_9L x2) zlim ((0 : Int32), x1, (0 : Int32), σ)
set_option maxHeartbeats 4000000 in
set_option maxRecDepth 100000 in
theorem p_X1_run_0 {G : zG} {C : zC} {r : Int32} {τ : zSt} (hR : zR G C (some .int) (some (.int r)) τ) (x1 : Int32) (x2 : Int32) (σ : zSt) (h : F_X1_run_0 x1 x2 σ = some (r, τ)) : zAW G 2 RX1 cX1_run 11 C 0 [(0, .ref (zad G 8)), (1, .int x1), (2, .int x2), (3, .ref (zad G 25))] [] σ := by
  unfold F_X1_run_0 at h
  refine z_ic e_X1_run_0 ?_
  refine z_istore e_X1_run_1 (by decide) [(4, .int (0 : Int32)), (0, .ref (zad G 8)), (1, .int x1), (2, .int x2), (3, .ref (zad G 25))] rfl ?_
  refine z_iload e_X1_run_3 2 rfl ?_
  refine z_istore e_X1_run_4 (by decide) [(5, .int x1), (4, .int (0 : Int32)), (0, .ref (zad G 8)), (1, .int x1), (2, .int x2), (3, .ref (zad G 25))] rfl ?_
  refine z_ic e_X1_run_6 ?_
  refine z_istore e_X1_run_7 (by decide) [(6, .int (0 : Int32)), (5, .int x1), (4, .int (0 : Int32)), (0, .ref (zad G 8)), (1, .int x1), (2, .int x2), (3, .ref (zad G 25))] rfl ?_
  exact z_sub [3, 5, 6, 2, 1, 0] rfl (l_X1_run_9 hR x2 zlim (0 : Int32) x1 (0 : Int32) σ h)
noncomputable def F_X1_run (x1 : Int32) (x2 : Int32) (σ : zSt) : Option (Int32 × zSt) := F_X1_run_0 x1 x2 σ
set_option maxRecDepth 100000 in
theorem m_X1_run (G : zG) (x1 : Int32) (x2 : Int32) (σ : zSt) (q : Int32) (τ : zSt) (h : F_X1_run x1 x2 σ = some (q, τ)) : zM G 2 yX1_run cX1_run 11 (some .int) [.ref (zad G 8), .int x1, .int x2, .ref (zad G 25)] σ (some (.int q)) τ := by
  unfold F_X1_run at h
  refine zM.of (own := RX1) (by decide +kernel) rfl (Nat.le_of_ble_eq_true rfl) (fun C hR => ?_)
  exact z_sub [0, 1, 2, 3] rfl (p_X1_run_0 hR x1 x2 σ h)
noncomputable def F_X1_ask_64 (w2 : (Int32 × zSt) → Option (Int32 × zSt)) (x1 : Int32) (x3 : Int32) (σ : zSt) : Option (Int32 × zSt) :=
  nm (x3 + (1 : Int32)) (fun v8 =>
    w2 (v8, σ))
set_option maxHeartbeats 4000000 in
set_option maxRecDepth 100000 in
theorem p_X1_ask_64 {G : zG} {C : zC} {r : Int32} {τ : zSt} (hR : zR G C (some .int) (some (.int r)) τ) (w2 : (Int32 × zSt) → Option (Int32 × zSt)) (x1 : Int32) (x3 : Int32) (hw2 : ∀ (x3 : Int32) (σ : zSt), w2 (x3, σ) = some (r, τ) → zAW G 3 RX1 cX1_ask 4 C 2 [(0, .ref (zad G 8)), (1, .int x1), (2, .ref (zad G 25)), (3, .int x3)] [] σ) (σ : zSt) (h : F_X1_ask_64 w2 x1 x3 σ = some (r, τ)) : zAW G 3 RX1 cX1_ask 4 C 64 [(0, .ref (zad G 8)), (1, .int x1), (2, .ref (zad G 25)), (3, .int x3)] [] σ := by
  unfold F_X1_ask_64 at h
  refine z_iinc e_X1_ask_64 3 rfl (by decide) (by decide) h (fun y => [(3, .int y), (0, .ref (zad G 8)), (1, .int x1), (2, .ref (zad G 25))]) (fun _ => rfl) (fun v8 h => ?_)
  refine z_goto e_X1_ask_67 ?_
  exact z_sub [1, 2, 3, 0] rfl (hw2 v8 σ h)
noncomputable def F_X1_ask_46 (x3 : Int32) (σ : zSt) : Option (Int32 × zSt) :=
  gd (vp_in x3 16) (
    gd (vp_in x3 16) (
      bd (F_X1_run (σ.1 12 x3.toNatClampNeg) (σ.1 13 x3.toNatClampNeg) σ) (fun q10 s9 =>
        some (q10, s9))))
set_option maxHeartbeats 4000000 in
set_option maxRecDepth 100000 in
theorem p_X1_ask_46 {G : zG} {C : zC} {r : Int32} {τ : zSt} (hR : zR G C (some .int) (some (.int r)) τ) (x3 : Int32) (σ : zSt) (h : F_X1_ask_46 x3 σ = some (r, τ)) : zAW G 3 RX1 cX1_ask 4 C 46 [(0, .ref (zad G 8)), (2, .ref (zad G 25)), (3, .int x3)] [] σ := by
  unfold F_X1_ask_46 at h
  refine z_aload e_X1_ask_46 0 rfl ?_
  refine z_aload e_X1_ask_47 0 rfl ?_
  refine z_getr gf_X1_21_8 e_X1_ask_48 ?_
  refine z_iload e_X1_ask_51 2 rfl ?_
  refine z_iald sh_12 e_X1_ask_52 h (fun h => ?_)
  refine z_aload e_X1_ask_53 0 rfl ?_
  refine z_getr gf_X1_24_8 e_X1_ask_54 ?_
  refine z_iload e_X1_ask_57 2 rfl ?_
  refine z_iald sh_13 e_X1_ask_58 h (fun h => ?_)
  refine z_aload e_X1_ask_59 1 rfl ?_
  obtain ⟨q10, s9, e11, h⟩ := bd_e h
  refine z_callVi (c0 := 8) (As := [.int (σ.1 12 x3.toNatClampNeg), .int (σ.1 13 x3.toNatClampNeg), .ref (zad G 25)]) (rest := []) lk_X1_117 ob_8 e_X1_ask_60 (m_X1_run G (σ.1 12 x3.toNatClampNeg) (σ.1 13 x3.toNatClampNeg) σ _ _ e11) (by decide) rfl (Nat.le_of_ble_eq_true rfl) ?_
  cases h
  exact z_ireturn hR e_X1_ask_63
noncomputable def F_X1_ask_2 (x1 : Int32) (w2 : (Int32 × zSt) → Option (Int32 × zSt)) (x3 : Int32) (σ : zSt) : Option (Int32 × zSt) :=
  if (σ.1 8 7) ≤ x3 then (
    some ((-1 : Int32), σ))
  else (
    if (16 : Int32) ≤ x3 then (
      some ((-1 : Int32), σ))
    else (
      gd (vp_in x3 16) (
        if (σ.1 11 x3.toNatClampNeg) = x1 then (
          gd (vp_in x3 16) (
            gd (vp_in x3 16) (
              bd (F_X1_run (σ.1 13 x3.toNatClampNeg) (σ.1 14 x3.toNatClampNeg) σ) (fun q5 s4 =>
                if q5 = 0 then (
                  F_X1_ask_64 w2 x1 x3 s4)
                else (
                  F_X1_ask_46 x3 s4)))))
        else (
          F_X1_ask_64 w2 x1 x3 σ))))
set_option maxHeartbeats 4000000 in
set_option maxRecDepth 100000 in
theorem b_X1_ask_2 {G : zG} {C : zC} {r : Int32} {τ : zSt} (hR : zR G C (some .int) (some (.int r)) τ) (x1 : Int32) (w2 : (Int32 × zSt) → Option (Int32 × zSt)) (hw2 : ∀ (x3 : Int32) (σ : zSt), w2 (x3, σ) = some (r, τ) → zAW G 3 RX1 cX1_ask 4 C 2 [(0, .ref (zad G 8)), (1, .int x1), (2, .ref (zad G 25)), (3, .int x3)] [] σ) (x3 : Int32) (σ : zSt) (h : F_X1_ask_2 x1 w2 x3 σ = some (r, τ)) : zAW G 3 RX1 cX1_ask 4 C 2 [(0, .ref (zad G 8)), (1, .int x1), (2, .ref (zad G 25)), (3, .int x3)] [] σ := by
  unfold F_X1_ask_2 at h
  refine z_iload e_X1_ask_2 3 rfl ?_
  refine z_aload e_X1_ask_3 0 rfl ?_
  refine z_geti gf_X1_42_8 e_X1_ask_4 ?_
  refine z_icmp_ge e_X1_ask_7 h (fun c1 h => ?_) (fun c1 h => ?_)
  · refine z_ic e_X1_ask_70 ?_
    cases h
    exact z_ireturn hR e_X1_ask_71
  · refine z_iload e_X1_ask_10 3 rfl ?_
    refine z_ic e_X1_ask_11 ?_
    refine z_icmp_ge e_X1_ask_13 h (fun c2 h => ?_) (fun c2 h => ?_)
    · refine z_ic e_X1_ask_70 ?_
      cases h
      exact z_ireturn hR e_X1_ask_71
    · refine z_aload e_X1_ask_16 0 rfl ?_
      refine z_getr gf_X1_18_8 e_X1_ask_17 ?_
      refine z_iload e_X1_ask_20 3 rfl ?_
      refine z_iald sh_11 e_X1_ask_21 h (fun h => ?_)
      refine z_iload e_X1_ask_22 1 rfl ?_
      refine z_icmp_ne e_X1_ask_23 h (fun c3 h => ?_) (fun c3 h => ?_)
      · refine z_aload e_X1_ask_26 0 rfl ?_
        refine z_aload e_X1_ask_27 0 rfl ?_
        refine z_getr gf_X1_24_8 e_X1_ask_28 ?_
        refine z_iload e_X1_ask_31 3 rfl ?_
        refine z_iald sh_13 e_X1_ask_32 h (fun h => ?_)
        refine z_aload e_X1_ask_33 0 rfl ?_
        refine z_getr gf_X1_27_8 e_X1_ask_34 ?_
        refine z_iload e_X1_ask_37 3 rfl ?_
        refine z_iald sh_14 e_X1_ask_38 h (fun h => ?_)
        refine z_aload e_X1_ask_39 2 rfl ?_
        obtain ⟨q5, s4, e6, h⟩ := bd_e h
        refine z_callVi (c0 := 8) (As := [.int (σ.1 13 x3.toNatClampNeg), .int (σ.1 14 x3.toNatClampNeg), .ref (zad G 25)]) (rest := []) lk_X1_117 ob_8 e_X1_ask_40 (m_X1_run G (σ.1 13 x3.toNatClampNeg) (σ.1 14 x3.toNatClampNeg) σ _ _ e6) (by decide) rfl (Nat.le_of_ble_eq_true rfl) ?_
        refine z_if_eq e_X1_ask_43 h (fun c7 h => ?_) (fun c7 h => ?_)
        · exact z_sub [0, 1, 2, 3] rfl (p_X1_ask_64 hR w2 x1 x3 hw2 s4 h)
        · exact z_sub [0, 2, 3] rfl (p_X1_ask_46 hR x3 s4 h)
      · exact z_sub [0, 1, 2, 3] rfl (p_X1_ask_64 hR w2 x1 x3 hw2 σ h)
noncomputable def F_X1_ask_2L (x1 : Int32) : ((Int32 × zSt) → Option (Int32 × zSt)) → (Int32 × zSt) → Option (Int32 × zSt) := fun w s => F_X1_ask_2 x1 w s.1 s.2
set_option maxRecDepth 100000 in
theorem l_X1_ask_2 {G : zG} {C : zC} {r : Int32} {τ : zSt} (hR : zR G C (some .int) (some (.int r)) τ) (x1 : Int32) : ∀ (N : Nat) (x3 : Int32) (σ : zSt), zfix (F_X1_ask_2L x1) N (x3, σ) = some (r, τ) → zAW G 3 RX1 cX1_ask 4 C 2 [(0, .ref (zad G 8)), (1, .int x1), (2, .ref (zad G 25)), (3, .int x3)] [] σ := by
  intro N
  induction N with
  | zero =>
    intro x3 σ h
    exact nomatch (show (none : Option (Int32 × zSt)) = some (r, τ) from h)
  | succ N ih =>
    intro x3 σ h
    exact b_X1_ask_2 hR x1 (zfix (F_X1_ask_2L x1) N) ih x3 σ h
noncomputable def F_X1_ask_0 (x1 : Int32) (σ : zSt) : Option (Int32 × zSt) :=
  zfix (F_X1_ask_2L x1) zlim ((0 : Int32), σ)
set_option maxHeartbeats 4000000 in
set_option maxRecDepth 100000 in
theorem p_X1_ask_0 {G : zG} {C : zC} {r : Int32} {τ : zSt} (hR : zR G C (some .int) (some (.int r)) τ) (x1 : Int32) (σ : zSt) (h : F_X1_ask_0 x1 σ = some (r, τ)) : zAW G 3 RX1 cX1_ask 4 C 0 [(0, .ref (zad G 8)), (1, .int x1), (2, .ref (zad G 25))] [] σ := by
  unfold F_X1_ask_0 at h
  refine z_ic e_X1_ask_0 ?_
  refine z_istore e_X1_ask_1 (by decide) [(3, .int (0 : Int32)), (0, .ref (zad G 8)), (1, .int x1), (2, .ref (zad G 25))] rfl ?_
  exact z_sub [1, 2, 3, 0] rfl (l_X1_ask_2 hR x1 zlim (0 : Int32) σ h)
noncomputable def F_X1_ask (x1 : Int32) (σ : zSt) : Option (Int32 × zSt) := F_X1_ask_0 x1 σ
set_option maxRecDepth 100000 in
theorem m_X1_ask (G : zG) (x1 : Int32) (σ : zSt) (q : Int32) (τ : zSt) (h : F_X1_ask x1 σ = some (q, τ)) : zM G 3 yX1_ask cX1_ask 4 (some .int) [.ref (zad G 8), .int x1, .ref (zad G 25)] σ (some (.int q)) τ := by
  unfold F_X1_ask at h
  refine zM.of (own := RX1) (by decide +kernel) rfl (Nat.le_of_ble_eq_true rfl) (fun C hR => ?_)
  exact z_sub [0, 1, 2] rfl (p_X1_ask_0 hR x1 σ h)
noncomputable def F_X3_passFrom_81 (σ : zSt) : Option (Unit × zSt) :=
  bd (F_X1_ask (108 : Int32) σ) (fun q17 s16 =>
    bd (F_X10_isTold q17 s16) (fun q20 s19 =>
      nm (if q20 = 0 then (s19.1 24 3) else q17) (fun v22 =>
        nm (zwr s19 24 5 v22) (fun s23 =>
          nm (zwr s23 24 4 ((s23.1 24 4) + (1 : Int32))) (fun s24 =>
            some ((), s24))))))
set_option maxHeartbeats 4000000 in
set_option maxRecDepth 100000 in
theorem p_X3_passFrom_81 {G : zG} {C : zC} {r : Unit} {τ : zSt} (hR : zR G C none none τ)  (σ : zSt) (h : F_X3_passFrom_81 σ = some (r, τ)) : zAW G 4 RX3 cX3_passFrom 6 C 81 [(0, .ref (zad G 24))] [] σ := by
  unfold F_X3_passFrom_81 at h
  refine z_aload e_X3_passFrom_81 0 rfl ?_
  refine z_getr gf_X3_19_24 e_X3_passFrom_82 ?_
  refine z_ic e_X3_passFrom_85 ?_
  refine z_aload e_X3_passFrom_87 0 rfl ?_
  refine z_getr gf_X3_9_24 e_X3_passFrom_88 ?_
  obtain ⟨q17, s16, e18, h⟩ := bd_e h
  refine z_callVi (c0 := 8) (As := [.int (108 : Int32), .ref (zad G 25)]) (rest := []) lk_X3_50 ob_8 e_X3_passFrom_91 (m_X1_ask G (108 : Int32) σ _ _ e18) (by decide) rfl (Nat.le_of_ble_eq_true rfl) ?_
  refine z_istore e_X3_passFrom_94 (by decide) [(5, .int q17), (0, .ref (zad G 24))] rfl ?_
  refine z_aload e_X3_passFrom_96 1 rfl ?_
  refine z_aload e_X3_passFrom_97 1 rfl ?_
  refine z_getr gf_X3_15_24 e_X3_passFrom_98 ?_
  refine z_iload e_X3_passFrom_101 0 rfl ?_
  obtain ⟨q20, s19, e21, h⟩ := bd_e h
  refine z_callVi (c0 := 1) (As := [.int q17]) (rest := [.ref (zad G 24)]) lk_X3_56 ob_1 e_X3_passFrom_103 (m_X10_isTold G q17 s16 _ _ e21) (by decide) rfl (Nat.le_of_ble_eq_true rfl) ?_
  obtain ⟨v22, ev22, h⟩ := nm_i h
  have jv22 : zAW G 4 RX3 cX3_passFrom 6 C 118 [(0, .ref (zad G 24))] [.int v22, .ref (zad G 24)] s19 := by
    refine z_puti pf_X3_37_24 e_X3_passFrom_118 h (fun s23 h => ?_)
    refine z_aload e_X3_passFrom_121 0 rfl ?_
    refine z_dup e_X3_passFrom_122 rfl ?_
    refine z_geti gf_X3_33_24 e_X3_passFrom_123 ?_
    refine z_ic e_X3_passFrom_126 ?_
    refine z_iadd e_X3_passFrom_127 ?_
    refine z_puti pf_X3_33_24 e_X3_passFrom_128 h (fun s24 h => ?_)
    cases h
    exact z_vreturn hR e_X3_passFrom_131
  refine y_if_eq e_X3_passFrom_106 (fun c25 => ?_) (fun c25 => ?_)
  · refine z_aload e_X3_passFrom_114 1 rfl ?_
    refine z_geti gf_X3_29_24 e_X3_passFrom_115 ?_
    rw [if_pos c25] at ev22
    subst ev22
    exact z_sub [1] rfl jv22
  · refine z_iload e_X3_passFrom_109 0 rfl ?_
    refine z_goto e_X3_passFrom_111 ?_
    rw [if_neg c25] at ev22
    subst ev22
    exact z_sub [1] rfl jv22
noncomputable def F_X3_passFrom_0 (x1 : Int32) (x2 : Int32) (x3 : Int32) (σ : zSt) : Option (Unit × zSt) :=
  nm (zwr σ 24 3 x1) (fun s1 =>
    nm (zwr s1 25 0 (s1.1 24 4)) (fun s2 =>
      nm (zwr s2 25 3 x2) (fun s3 =>
        nm (zwr s3 25 4 (s3.1 24 5)) (fun s4 =>
          nm (zwr s4 25 8 x3) (fun s5 =>
            bd (F_X3_look s5) (fun _ s6 =>
              bd (F_X1_ask (109 : Int32) s6) (fun q10 s9 =>
                bd (F_X10_isTold q10 s9) (fun q13 s12 =>
                  if q13 = 0 then (
                    F_X3_passFrom_81  s12)
                  else (
                    nm (zwr s12 24 3 q10) (fun s26 =>
                      bd (F_X3_look s26) (fun _ s27 =>
                        F_X3_passFrom_81  s27)))))))))))
set_option maxHeartbeats 4000000 in
set_option maxRecDepth 100000 in
theorem p_X3_passFrom_0 {G : zG} {C : zC} {r : Unit} {τ : zSt} (hR : zR G C none none τ) (x1 : Int32) (x2 : Int32) (x3 : Int32) (σ : zSt) (h : F_X3_passFrom_0 x1 x2 x3 σ = some (r, τ)) : zAW G 4 RX3 cX3_passFrom 6 C 0 [(0, .ref (zad G 24)), (1, .int x1), (2, .int x2), (3, .int x3)] [] σ := by
  unfold F_X3_passFrom_0 at h
  refine z_aload e_X3_passFrom_0 0 rfl ?_
  refine z_iload e_X3_passFrom_1 1 rfl ?_
  refine z_puti pf_X3_29_24 e_X3_passFrom_2 h (fun s1 h => ?_)
  refine z_aload e_X3_passFrom_5 0 rfl ?_
  refine z_getr gf_X3_9_24 e_X3_passFrom_6 ?_
  refine z_ic e_X3_passFrom_9 ?_
  refine z_aload e_X3_passFrom_10 0 rfl ?_
  refine z_geti gf_X3_33_24 e_X3_passFrom_11 ?_
  refine z_iast0 (j := 0) sh_25 e_X3_passFrom_14 (by unfold vp_in; decide) rfl h (fun s2 h => ?_)
  refine z_aload e_X3_passFrom_15 0 rfl ?_
  refine z_getr gf_X3_9_24 e_X3_passFrom_16 ?_
  refine z_ic e_X3_passFrom_19 ?_
  refine z_iload e_X3_passFrom_20 2 rfl ?_
  refine z_iast0 (j := 3) sh_25 e_X3_passFrom_21 (by unfold vp_in; decide) rfl h (fun s3 h => ?_)
  refine z_aload e_X3_passFrom_22 0 rfl ?_
  refine z_getr gf_X3_9_24 e_X3_passFrom_23 ?_
  refine z_ic e_X3_passFrom_26 ?_
  refine z_aload e_X3_passFrom_27 0 rfl ?_
  refine z_geti gf_X3_37_24 e_X3_passFrom_28 ?_
  refine z_iast0 (j := 4) sh_25 e_X3_passFrom_31 (by unfold vp_in; decide) rfl h (fun s4 h => ?_)
  refine z_aload e_X3_passFrom_32 0 rfl ?_
  refine z_getr gf_X3_9_24 e_X3_passFrom_33 ?_
  refine z_ic e_X3_passFrom_36 ?_
  refine z_iload e_X3_passFrom_38 3 rfl ?_
  refine z_iast0 (j := 8) sh_25 e_X3_passFrom_39 (by unfold vp_in; decide) rfl h (fun s5 h => ?_)
  refine z_aload e_X3_passFrom_40 0 rfl ?_
  obtain ⟨q7, s6, e8, h⟩ := bd_e h
  refine z_callVv (c0 := 24) (As := []) (rest := []) lk_X3_47 ob_24 e_X3_passFrom_41 (m_X3_look G s5 _ _ e8) (by decide) rfl (Nat.le_of_ble_eq_true rfl) ?_
  refine z_aload e_X3_passFrom_44 0 rfl ?_
  refine z_getr gf_X3_19_24 e_X3_passFrom_45 ?_
  refine z_ic e_X3_passFrom_48 ?_
  refine z_aload e_X3_passFrom_50 0 rfl ?_
  refine z_getr gf_X3_9_24 e_X3_passFrom_51 ?_
  obtain ⟨q10, s9, e11, h⟩ := bd_e h
  refine z_callVi (c0 := 8) (As := [.int (109 : Int32), .ref (zad G 25)]) (rest := []) lk_X3_50 ob_8 e_X3_passFrom_54 (m_X1_ask G (109 : Int32) s6 _ _ e11) (by decide) rfl (Nat.le_of_ble_eq_true rfl) ?_
  refine z_istore e_X3_passFrom_57 (by decide) [(4, .int q10), (0, .ref (zad G 24)), (1, .int x1), (2, .int x2), (3, .int x3)] rfl ?_
  refine z_aload e_X3_passFrom_59 1 rfl ?_
  refine z_getr gf_X3_15_24 e_X3_passFrom_60 ?_
  refine z_iload e_X3_passFrom_63 0 rfl ?_
  obtain ⟨q13, s12, e14, h⟩ := bd_e h
  refine z_callVi (c0 := 1) (As := [.int q10]) (rest := []) lk_X3_56 ob_1 e_X3_passFrom_65 (m_X10_isTold G q10 s9 _ _ e14) (by decide) rfl (Nat.le_of_ble_eq_true rfl) ?_
  refine z_if_eq e_X3_passFrom_68 h (fun c15 h => ?_) (fun c15 h => ?_)
  · exact z_sub [1] rfl (p_X3_passFrom_81 hR  s12 h)
  · refine z_aload e_X3_passFrom_71 1 rfl ?_
    refine z_iload e_X3_passFrom_72 0 rfl ?_
    refine z_puti pf_X3_29_24 e_X3_passFrom_74 h (fun s26 h => ?_)
    refine z_aload e_X3_passFrom_77 1 rfl ?_
    obtain ⟨q28, s27, e29, h⟩ := bd_e h
    refine z_callVv (c0 := 24) (As := []) (rest := []) lk_X3_47 ob_24 e_X3_passFrom_78 (m_X3_look G s26 _ _ e29) (by decide) rfl (Nat.le_of_ble_eq_true rfl) ?_
    exact z_sub [1] rfl (p_X3_passFrom_81 hR  s27 h)
noncomputable def F_X3_passFrom (x1 : Int32) (x2 : Int32) (x3 : Int32) (σ : zSt) : Option (Unit × zSt) := F_X3_passFrom_0 x1 x2 x3 σ
set_option maxRecDepth 100000 in
theorem m_X3_passFrom (G : zG) (x1 : Int32) (x2 : Int32) (x3 : Int32) (σ : zSt) (q : Unit) (τ : zSt) (h : F_X3_passFrom x1 x2 x3 σ = some (q, τ)) : zM G 4 yX3_passFrom cX3_passFrom 6 none [.ref (zad G 24), .int x1, .int x2, .int x3] σ none τ := by
  unfold F_X3_passFrom at h
  refine zM.of (own := RX3) (by decide +kernel) rfl (Nat.le_of_ble_eq_true rfl) (fun C hR => ?_)
  exact z_sub [0, 1, 2, 3] rfl (p_X3_passFrom_0 hR x1 x2 x3 σ h)
noncomputable def F_X3_pass_0 (x1 : Int32) (σ : zSt) : Option (Unit × zSt) :=
  nm (zwr σ 24 6 ((((25173 : Int32) * (σ.1 24 6)) + (13849 : Int32)) % (65536 : Int32))) (fun s1 =>
    bd (F_X3_passFrom (s1.1 24 3) x1 ((s1.1 24 6) % (10 : Int32)) s1) (fun _ s2 =>
      some ((), s2)))
set_option maxHeartbeats 4000000 in
set_option maxRecDepth 100000 in
theorem p_X3_pass_0 {G : zG} {C : zC} {r : Unit} {τ : zSt} (hR : zR G C none none τ) (x1 : Int32) (σ : zSt) (h : F_X3_pass_0 x1 σ = some (r, τ)) : zAW G 5 RX3 cX3_pass 2 C 0 [(0, .ref (zad G 24)), (1, .int x1)] [] σ := by
  unfold F_X3_pass_0 at h
  refine z_aload e_X3_pass_0 0 rfl ?_
  refine z_ic e_X3_pass_1 ?_
  refine z_aload e_X3_pass_4 0 rfl ?_
  refine z_geti gf_X3_41_24 e_X3_pass_5 ?_
  refine z_imul e_X3_pass_8 ?_
  refine z_ic e_X3_pass_9 ?_
  refine z_iadd e_X3_pass_12 ?_
  refine z_ldc cs_X3_42 e_X3_pass_13 ?_
  refine z_irem e_X3_pass_15 (by decide) ?_
  refine z_puti pf_X3_41_24 e_X3_pass_16 h (fun s1 h => ?_)
  refine z_aload e_X3_pass_19 0 rfl ?_
  refine z_aload e_X3_pass_20 0 rfl ?_
  refine z_geti gf_X3_29_24 e_X3_pass_21 ?_
  refine z_iload e_X3_pass_24 1 rfl ?_
  refine z_aload e_X3_pass_25 0 rfl ?_
  refine z_geti gf_X3_41_24 e_X3_pass_26 ?_
  refine z_ic e_X3_pass_29 ?_
  refine z_irem e_X3_pass_31 (by decide) ?_
  obtain ⟨q3, s2, e4, h⟩ := bd_e h
  refine z_callVv (c0 := 24) (As := [.int (s1.1 24 3), .int x1, .int ((s1.1 24 6) % (10 : Int32))]) (rest := []) lk_X3_43 ob_24 e_X3_pass_32 (m_X3_passFrom G (s1.1 24 3) x1 ((s1.1 24 6) % (10 : Int32)) s1 _ _ e4) (by decide) rfl (Nat.le_of_ble_eq_true rfl) ?_
  cases h
  exact z_vreturn hR e_X3_pass_35
noncomputable def F_X3_pass (x1 : Int32) (σ : zSt) : Option (Unit × zSt) := F_X3_pass_0 x1 σ
set_option maxRecDepth 100000 in
theorem m_X3_pass (G : zG) (x1 : Int32) (σ : zSt) (q : Unit) (τ : zSt) (h : F_X3_pass x1 σ = some (q, τ)) : zM G 5 yX3_pass cX3_pass 2 none [.ref (zad G 24), .int x1] σ none τ := by
  unfold F_X3_pass at h
  refine zM.of (own := RX3) (by decide +kernel) rfl (Nat.le_of_ble_eq_true rfl) (fun C hR => ?_)
  exact z_sub [0, 1] rfl (p_X3_pass_0 hR x1 σ h)
noncomputable def F_X11_night_0 (x1 : Int32) (σ : zSt) : Option (Int32 × zSt) :=
  bd (F_X11_isBelow x1 (9 : Int32) σ) (fun q2 s1 =>
    if q2 = 0 then (
      some ((-1 : Int32), s1))
    else (
      bd (F_X11_heartIsTold s1) (fun q6 s5 =>
        if q6 = 0 then (
          some ((-1 : Int32), s5))
        else (
          if (s5.1 1 9) < (9999 : Int32) then (
            bd (F_X3_begin s5) (fun _ s10 =>
              bd (F_X3_pass x1 s10) (fun _ s13 =>
                nm (zwr s13 1 8 (s13.1 24 3)) (fun s16 =>
                  nm (zwr s16 1 9 (s16.1 24 4)) (fun s17 =>
                    nm (zwr s17 1 10 x1) (fun s18 =>
                      nm (zwr s18 1 11 (s18.1 24 5)) (fun s19 =>
                        nm (zwr s19 1 12 (s19.1 24 6)) (fun s20 =>
                          some ((s20.1 1 11), s20)))))))))
          else (
            some ((-1 : Int32), s5))))))
set_option maxHeartbeats 4000000 in
set_option maxRecDepth 100000 in
theorem p_X11_night_0 {G : zG} {C : zC} {r : Int32} {τ : zSt} (hR : zR G C (some .int) (some (.int r)) τ) (x1 : Int32) (σ : zSt) (h : F_X11_night_0 x1 σ = some (r, τ)) : zAW G 6 RX11 cX11_night 2 C 0 [(0, .ref (zad G 0)), (1, .int x1)] [] σ := by
  unfold F_X11_night_0 at h
  refine z_iload e_X11_night_0 1 rfl ?_
  refine z_ic e_X11_night_1 ?_
  obtain ⟨q2, s1, e3, h⟩ := bd_e h
  refine z_callSi (As := [.int x1, .int (9 : Int32)]) (rest := []) lk_X11_104 e_X11_night_3 (m_X11_isBelow G x1 (9 : Int32) σ _ _ e3) (by decide) rfl (Nat.le_of_ble_eq_true rfl) ?_
  refine z_if_eq e_X11_night_6 h (fun c4 h => ?_) (fun c4 h => ?_)
  · refine z_ic e_X11_night_29 ?_
    cases h
    exact z_ireturn hR e_X11_night_30
  · refine z_aload e_X11_night_9 0 rfl ?_
    obtain ⟨q6, s5, e7, h⟩ := bd_e h
    refine z_callVi (c0 := 0) (As := []) (rest := []) lk_X11_159 ob_0 e_X11_night_10 (m_X11_heartIsTold G s1 _ _ e7) (by decide) rfl (Nat.le_of_ble_eq_true rfl) ?_
    refine z_if_eq e_X11_night_13 h (fun c8 h => ?_) (fun c8 h => ?_)
    · refine z_ic e_X11_night_29 ?_
      cases h
      exact z_ireturn hR e_X11_night_30
    · refine z_aload e_X11_night_16 0 rfl ?_
      refine z_getr gf_X11_23_0 e_X11_night_17 ?_
      refine z_geti gf_X11_201_1 e_X11_night_20 ?_
      refine z_ic e_X11_night_23 ?_
      refine z_icmp_lt e_X11_night_26 h (fun c9 h => ?_) (fun c9 h => ?_)
      · refine z_aload e_X11_night_31 0 rfl ?_
        refine z_getr gf_X11_70_0 e_X11_night_32 ?_
        obtain ⟨q11, s10, e12, h⟩ := bd_e h
        refine z_callVv (c0 := 24) (As := []) (rest := []) lk_X11_204 ob_24 e_X11_night_35 (m_X3_begin G s5 _ _ e12) (by decide) rfl (Nat.le_of_ble_eq_true rfl) ?_
        refine z_aload e_X11_night_38 0 rfl ?_
        refine z_getr gf_X11_70_0 e_X11_night_39 ?_
        refine z_iload e_X11_night_42 1 rfl ?_
        obtain ⟨q14, s13, e15, h⟩ := bd_e h
        refine z_callVv (c0 := 24) (As := [.int x1]) (rest := []) lk_X11_207 ob_24 e_X11_night_43 (m_X3_pass G x1 s10 _ _ e15) (by decide) rfl (Nat.le_of_ble_eq_true rfl) ?_
        refine z_aload e_X11_night_46 0 rfl ?_
        refine z_getr gf_X11_23_0 e_X11_night_47 ?_
        refine z_aload e_X11_night_50 0 rfl ?_
        refine z_getr gf_X11_70_0 e_X11_night_51 ?_
        refine z_geti gf_X11_210_24 e_X11_night_54 ?_
        refine z_puti pf_X11_130_1 e_X11_night_57 h (fun s16 h => ?_)
        refine z_aload e_X11_night_60 0 rfl ?_
        refine z_getr gf_X11_23_0 e_X11_night_61 ?_
        refine z_aload e_X11_night_64 0 rfl ?_
        refine z_getr gf_X11_70_0 e_X11_night_65 ?_
        refine z_geti gf_X11_211_24 e_X11_night_68 ?_
        refine z_puti pf_X11_201_1 e_X11_night_71 h (fun s17 h => ?_)
        refine z_aload e_X11_night_74 0 rfl ?_
        refine z_getr gf_X11_23_0 e_X11_night_75 ?_
        refine z_iload e_X11_night_78 1 rfl ?_
        refine z_puti pf_X11_212_1 e_X11_night_79 h (fun s18 h => ?_)
        refine z_aload e_X11_night_82 0 rfl ?_
        refine z_getr gf_X11_23_0 e_X11_night_83 ?_
        refine z_aload e_X11_night_86 0 rfl ?_
        refine z_getr gf_X11_70_0 e_X11_night_87 ?_
        refine z_geti gf_X11_215_24 e_X11_night_90 ?_
        refine z_puti pf_X11_218_1 e_X11_night_93 h (fun s19 h => ?_)
        refine z_aload e_X11_night_96 0 rfl ?_
        refine z_getr gf_X11_23_0 e_X11_night_97 ?_
        refine z_aload e_X11_night_100 0 rfl ?_
        refine z_getr gf_X11_70_0 e_X11_night_101 ?_
        refine z_geti gf_X11_219_24 e_X11_night_104 ?_
        refine z_puti pf_X11_222_1 e_X11_night_107 h (fun s20 h => ?_)
        refine z_aload e_X11_night_110 0 rfl ?_
        refine z_getr gf_X11_23_0 e_X11_night_111 ?_
        refine z_geti gf_X11_218_1 e_X11_night_114 ?_
        cases h
        exact z_ireturn hR e_X11_night_117
      · refine z_ic e_X11_night_29 ?_
        cases h
        exact z_ireturn hR e_X11_night_30
noncomputable def F_X11_night (x1 : Int32) (σ : zSt) : Option (Int32 × zSt) := F_X11_night_0 x1 σ
set_option maxRecDepth 100000 in
theorem m_X11_night (G : zG) (x1 : Int32) (σ : zSt) (q : Int32) (τ : zSt) (h : F_X11_night x1 σ = some (q, τ)) : zM G 6 yX11_night cX11_night 2 (some .int) [.ref (zad G 0), .int x1] σ (some (.int q)) τ := by
  unfold F_X11_night at h
  refine zM.of (own := RX11) (by decide +kernel) rfl (Nat.le_of_ble_eq_true rfl) (fun C hR => ?_)
  exact z_sub [0, 1] rfl (p_X11_night_0 hR x1 σ h)
noncomputable def F_X12_draws_0 (σ : zSt) : Option (Int32 × zSt) :=
  nm (zwr σ 69 3 ((((25173 : Int32) * (σ.1 69 3)) + (13849 : Int32)) % (65536 : Int32))) (fun s1 =>
    some (((s1.1 69 3) % (10 : Int32)), s1))
set_option maxHeartbeats 4000000 in
set_option maxRecDepth 100000 in
theorem p_X12_draws_0 {G : zG} {C : zC} {r : Int32} {τ : zSt} (hR : zR G C (some .int) (some (.int r)) τ)  (σ : zSt) (h : F_X12_draws_0 σ = some (r, τ)) : zAW G 1 RX12 cX12_draws 1 C 0 [(0, .ref (zad G 69))] [] σ := by
  unfold F_X12_draws_0 at h
  refine z_aload e_X12_draws_0 0 rfl ?_
  refine z_ic e_X12_draws_1 ?_
  refine z_aload e_X12_draws_4 0 rfl ?_
  refine z_geti gf_X12_135_69 e_X12_draws_5 ?_
  refine z_imul e_X12_draws_8 ?_
  refine z_ic e_X12_draws_9 ?_
  refine z_iadd e_X12_draws_12 ?_
  refine z_ldcw cs_X12_303 e_X12_draws_13 ?_
  refine z_irem e_X12_draws_16 (by decide) ?_
  refine z_puti pf_X12_135_69 e_X12_draws_17 h (fun s1 h => ?_)
  refine z_aload e_X12_draws_20 0 rfl ?_
  refine z_geti gf_X12_135_69 e_X12_draws_21 ?_
  refine z_ic e_X12_draws_24 ?_
  refine z_irem e_X12_draws_26 (by decide) ?_
  cases h
  exact z_ireturn hR e_X12_draws_27
noncomputable def F_X12_draws (σ : zSt) : Option (Int32 × zSt) := F_X12_draws_0  σ
set_option maxRecDepth 100000 in
theorem m_X12_draws (G : zG) (σ : zSt) (q : Int32) (τ : zSt) (h : F_X12_draws  σ = some (q, τ)) : zM G 1 yX12_draws cX12_draws 1 (some .int) [.ref (zad G 69)] σ (some (.int q)) τ := by
  unfold F_X12_draws at h
  refine zM.of (own := RX12) (by decide +kernel) rfl (Nat.le_of_ble_eq_true rfl) (fun C hR => ?_)
  exact z_sub [0] rfl (p_X12_draws_0 hR  σ h)
noncomputable def F_X12_nextLevel_34 (w4 : (Int32 × Int32 × zSt) → Option (Int32 × zSt)) (x1 : Int32) (x3 : Int32) (t0 : Int32) (t1 : Int32) (σ : zSt) : Option (Int32 × zSt) :=
  nm (t1 + t0) (fun v6 =>
    nm (x3 + (1 : Int32)) (fun v7 =>
      w4 (v6, v7, σ)))
set_option maxHeartbeats 4000000 in
set_option maxRecDepth 100000 in
theorem p_X12_nextLevel_34 {G : zG} {C : zC} {r : Int32} {τ : zSt} (hR : zR G C (some .int) (some (.int r)) τ) (w4 : (Int32 × Int32 × zSt) → Option (Int32 × zSt)) (x1 : Int32) (x3 : Int32) (t0 : Int32) (t1 : Int32) (hw4 : ∀ (x2 : Int32) (x3 : Int32) (σ : zSt), w4 (x2, x3, σ) = some (r, τ) → zAW G 3 RX12 cX12_nextLevel 4 C 4 [(0, .ref (zad G 69)), (1, .int x1), (2, .int x2), (3, .int x3)] [] σ) (σ : zSt) (h : F_X12_nextLevel_34 w4 x1 x3 t0 t1 σ = some (r, τ)) : zAW G 3 RX12 cX12_nextLevel 4 C 34 [(0, .ref (zad G 69)), (1, .int x1), (3, .int x3)] [.int t0, .int t1] σ := by
  unfold F_X12_nextLevel_34 at h
  refine z_iadd e_X12_nextLevel_34 ?_
  refine z_nmI h (fun v6 h => ?_)
  refine z_istore e_X12_nextLevel_35 (by decide) [(2, .int v6), (0, .ref (zad G 69)), (1, .int x1), (3, .int x3)] rfl ?_
  refine z_iinc e_X12_nextLevel_36 3 rfl (by decide) (by decide) h (fun y => [(3, .int y), (2, .int v6), (0, .ref (zad G 69)), (1, .int x1)]) (fun _ => rfl) (fun v7 h => ?_)
  refine z_goto e_X12_nextLevel_39 ?_
  exact z_sub [2, 3, 1, 0] rfl (hw4 v6 v7 σ h)
noncomputable def F_X12_nextLevel_33 (w4 : (Int32 × Int32 × zSt) → Option (Int32 × zSt)) (x1 : Int32) (x3 : Int32) (t0 : Int32) (σ : zSt) : Option (Int32 × zSt) :=
  F_X12_nextLevel_34 w4 x1 x3 (0 : Int32) t0 σ
set_option maxHeartbeats 4000000 in
set_option maxRecDepth 100000 in
theorem p_X12_nextLevel_33 {G : zG} {C : zC} {r : Int32} {τ : zSt} (hR : zR G C (some .int) (some (.int r)) τ) (w4 : (Int32 × Int32 × zSt) → Option (Int32 × zSt)) (x1 : Int32) (x3 : Int32) (t0 : Int32) (hw4 : ∀ (x2 : Int32) (x3 : Int32) (σ : zSt), w4 (x2, x3, σ) = some (r, τ) → zAW G 3 RX12 cX12_nextLevel 4 C 4 [(0, .ref (zad G 69)), (1, .int x1), (2, .int x2), (3, .int x3)] [] σ) (σ : zSt) (h : F_X12_nextLevel_33 w4 x1 x3 t0 σ = some (r, τ)) : zAW G 3 RX12 cX12_nextLevel 4 C 33 [(0, .ref (zad G 69)), (1, .int x1), (3, .int x3)] [.int t0] σ := by
  unfold F_X12_nextLevel_33 at h
  refine z_ic e_X12_nextLevel_33 ?_
  exact z_sub [0, 1, 2] rfl (p_X12_nextLevel_34 hR w4 x1 x3 (0 : Int32) t0 hw4 σ h)
noncomputable def F_X12_nextLevel_4 (x1 : Int32) (w4 : (Int32 × Int32 × zSt) → Option (Int32 × zSt)) (x2 : Int32) (x3 : Int32) (σ : zSt) : Option (Int32 × zSt) :=
  if (8 : Int32) ≤ x3 then (
    some (x2, σ))
  else (
    bd (F_X12_isPlace x3 σ) (fun q3 s2 =>
      if q3 = 0 then (
        F_X12_nextLevel_33 w4 x1 x3 x2 s2)
      else (
        gd (vp_in x3 8) (
          nm (if (s2.1 72 x3.toNatClampNeg) = x1 then (1 : Int32) else (0 : Int32)) (fun v8 =>
            nm (x2 + v8) (fun v9 =>
              nm (x3 + (1 : Int32)) (fun v10 =>
                w4 (v9, v10, s2))))))))
set_option maxHeartbeats 4000000 in
set_option maxRecDepth 100000 in
theorem b_X12_nextLevel_4 {G : zG} {C : zC} {r : Int32} {τ : zSt} (hR : zR G C (some .int) (some (.int r)) τ) (x1 : Int32) (w4 : (Int32 × Int32 × zSt) → Option (Int32 × zSt)) (hw4 : ∀ (x2 : Int32) (x3 : Int32) (σ : zSt), w4 (x2, x3, σ) = some (r, τ) → zAW G 3 RX12 cX12_nextLevel 4 C 4 [(0, .ref (zad G 69)), (1, .int x1), (2, .int x2), (3, .int x3)] [] σ) (x2 : Int32) (x3 : Int32) (σ : zSt) (h : F_X12_nextLevel_4 x1 w4 x2 x3 σ = some (r, τ)) : zAW G 3 RX12 cX12_nextLevel 4 C 4 [(0, .ref (zad G 69)), (1, .int x1), (2, .int x2), (3, .int x3)] [] σ := by
  unfold F_X12_nextLevel_4 at h
  refine z_iload e_X12_nextLevel_4 3 rfl ?_
  refine z_ic e_X12_nextLevel_5 ?_
  refine z_icmp_ge e_X12_nextLevel_7 h (fun c1 h => ?_) (fun c1 h => ?_)
  · refine z_iload e_X12_nextLevel_42 2 rfl ?_
    cases h
    exact z_ireturn hR e_X12_nextLevel_43
  · refine z_iload e_X12_nextLevel_10 2 rfl ?_
    refine z_aload e_X12_nextLevel_11 0 rfl ?_
    refine z_iload e_X12_nextLevel_12 3 rfl ?_
    obtain ⟨q3, s2, e4, h⟩ := bd_e h
    refine z_callVi (c0 := 69) (As := [.int x3]) (rest := [.int x2]) lk_X12_167 ob_69 e_X12_nextLevel_13 (m_X12_isPlace G x3 σ _ _ e4) (by decide) rfl (Nat.le_of_ble_eq_true rfl) ?_
    refine z_if_eq e_X12_nextLevel_16 h (fun c5 h => ?_) (fun c5 h => ?_)
    · exact z_sub [0, 1, 3] rfl (p_X12_nextLevel_33 hR w4 x1 x3 x2 hw4 s2 h)
    · refine z_aload e_X12_nextLevel_19 0 rfl ?_
      refine z_getr gf_X12_16_69 e_X12_nextLevel_20 ?_
      refine z_iload e_X12_nextLevel_23 3 rfl ?_
      refine z_iald sh_72 e_X12_nextLevel_24 h (fun h => ?_)
      refine z_iload e_X12_nextLevel_25 1 rfl ?_
      obtain ⟨v8, ev8, h⟩ := nm_i h
      have jv8 : zAW G 3 RX12 cX12_nextLevel 4 C 34 [(0, .ref (zad G 69)), (1, .int x1), (3, .int x3)] [.int v8, .int x2] s2 := by
        refine z_iadd e_X12_nextLevel_34 ?_
        refine z_nmI h (fun v9 h => ?_)
        refine z_istore e_X12_nextLevel_35 (by decide) [(2, .int v9), (0, .ref (zad G 69)), (1, .int x1), (3, .int x3)] rfl ?_
        refine z_iinc e_X12_nextLevel_36 3 rfl (by decide) (by decide) h (fun y => [(3, .int y), (2, .int v9), (0, .ref (zad G 69)), (1, .int x1)]) (fun _ => rfl) (fun v10 h => ?_)
        refine z_goto e_X12_nextLevel_39 ?_
        exact z_sub [2, 3, 1, 0] rfl (hw4 v9 v10 s2 h)
      refine y_icmp_ne e_X12_nextLevel_26 (fun c11 => ?_) (fun c11 => ?_)
      · refine z_ic e_X12_nextLevel_29 ?_
        refine z_goto e_X12_nextLevel_30 ?_
        rw [if_pos c11] at ev8
        subst ev8
        exact z_sub [0, 1, 3] rfl jv8
      · refine z_ic e_X12_nextLevel_33 ?_
        rw [if_neg c11] at ev8
        subst ev8
        exact z_sub [0, 1, 3] rfl jv8
noncomputable def F_X12_nextLevel_4L (x1 : Int32) : ((Int32 × Int32 × zSt) → Option (Int32 × zSt)) → (Int32 × Int32 × zSt) → Option (Int32 × zSt) := fun w s => F_X12_nextLevel_4 x1 w s.1 s.2.1 s.2.2
set_option maxRecDepth 100000 in
theorem l_X12_nextLevel_4 {G : zG} {C : zC} {r : Int32} {τ : zSt} (hR : zR G C (some .int) (some (.int r)) τ) (x1 : Int32) : ∀ (N : Nat) (x2 : Int32) (x3 : Int32) (σ : zSt), zfix (F_X12_nextLevel_4L x1) N (x2, x3, σ) = some (r, τ) → zAW G 3 RX12 cX12_nextLevel 4 C 4 [(0, .ref (zad G 69)), (1, .int x1), (2, .int x2), (3, .int x3)] [] σ := by
  intro N
  induction N with
  | zero =>
    intro x2 x3 σ h
    exact nomatch (show (none : Option (Int32 × zSt)) = some (r, τ) from h)
  | succ N ih =>
    intro x2 x3 σ h
    exact b_X12_nextLevel_4 hR x1 (zfix (F_X12_nextLevel_4L x1) N) ih x2 x3 σ h
noncomputable def F_X12_nextLevel_0 (x1 : Int32) (σ : zSt) : Option (Int32 × zSt) :=
  zfix (F_X12_nextLevel_4L x1) zlim ((0 : Int32), (0 : Int32), σ)
set_option maxHeartbeats 4000000 in
set_option maxRecDepth 100000 in
theorem p_X12_nextLevel_0 {G : zG} {C : zC} {r : Int32} {τ : zSt} (hR : zR G C (some .int) (some (.int r)) τ) (x1 : Int32) (σ : zSt) (h : F_X12_nextLevel_0 x1 σ = some (r, τ)) : zAW G 3 RX12 cX12_nextLevel 4 C 0 [(0, .ref (zad G 69)), (1, .int x1)] [] σ := by
  unfold F_X12_nextLevel_0 at h
  refine z_ic e_X12_nextLevel_0 ?_
  refine z_istore e_X12_nextLevel_1 (by decide) [(2, .int (0 : Int32)), (0, .ref (zad G 69)), (1, .int x1)] rfl ?_
  refine z_ic e_X12_nextLevel_2 ?_
  refine z_istore e_X12_nextLevel_3 (by decide) [(3, .int (0 : Int32)), (2, .int (0 : Int32)), (0, .ref (zad G 69)), (1, .int x1)] rfl ?_
  exact z_sub [2, 3, 1, 0] rfl (l_X12_nextLevel_4 hR x1 zlim (0 : Int32) (0 : Int32) σ h)
noncomputable def F_X12_nextLevel (x1 : Int32) (σ : zSt) : Option (Int32 × zSt) := F_X12_nextLevel_0 x1 σ
set_option maxRecDepth 100000 in
theorem m_X12_nextLevel (G : zG) (x1 : Int32) (σ : zSt) (q : Int32) (τ : zSt) (h : F_X12_nextLevel x1 σ = some (q, τ)) : zM G 3 yX12_nextLevel cX12_nextLevel 4 (some .int) [.ref (zad G 69), .int x1] σ (some (.int q)) τ := by
  unfold F_X12_nextLevel at h
  refine zM.of (own := RX12) (by decide +kernel) rfl (Nat.le_of_ble_eq_true rfl) (fun C hR => ?_)
  exact z_sub [0, 1] rfl (p_X12_nextLevel_0 hR x1 σ h)
noncomputable def F_X12_feels_0 (x1 : Int32) (x2 : Int32) (x3 : Int32) (x4 : Int32) (x5 : Int32) (σ : zSt) : Option (Unit × zSt) :=
  nm (zwr σ 89 0 x1) (fun s1 =>
    nm (zwr s1 89 1 x2) (fun s2 =>
      bd (F_X12_islandBy x2 s2) (fun q4 s3 =>
        nm (zwr s3 89 2 q4) (fun s6 =>
          nm (zwr s6 89 3 x3) (fun s7 =>
            nm (zwr s7 89 4 x4) (fun s8 =>
              bd (F_X12_has (s8.1 69 1) x2 s8) (fun q10 s9 =>
                nm (if q10 = 0 then (0 : Int32) else (1 : Int32)) (fun v12 =>
                  nm (zwr s9 89 5 v12) (fun s13 =>
                    gd (vp_in x2 8) (
                      nm (if (s13.1 73 x2.toNatClampNeg) < 0 then (0 : Int32) else (1 : Int32)) (fun v14 =>
                        nm (zwr s13 89 6 v14) (fun s15 =>
                          bd (F_X12_nextLevel x2 s15) (fun q17 s16 =>
                            nm (zwr s16 89 7 q17) (fun s19 =>
                              nm (zwr s19 89 8 x5) (fun s20 =>
                                some ((), s20))))))))))))))))
set_option maxHeartbeats 4000000 in
set_option maxRecDepth 100000 in
theorem p_X12_feels_0 {G : zG} {C : zC} {r : Unit} {τ : zSt} (hR : zR G C none none τ) (x1 : Int32) (x2 : Int32) (x3 : Int32) (x4 : Int32) (x5 : Int32) (σ : zSt) (h : F_X12_feels_0 x1 x2 x3 x4 x5 σ = some (r, τ)) : zAW G 4 RX12 cX12_feels 6 C 0 [(0, .ref (zad G 69)), (1, .int x1), (2, .int x2), (3, .int x3), (4, .int x4), (5, .int x5)] [] σ := by
  unfold F_X12_feels_0 at h
  refine z_aload e_X12_feels_0 0 rfl ?_
  refine z_getr gf_X12_68_69 e_X12_feels_1 ?_
  refine z_ic e_X12_feels_4 ?_
  refine z_iload e_X12_feels_5 1 rfl ?_
  refine z_iast0 (j := 0) sh_89 e_X12_feels_6 (by unfold vp_in; decide) rfl h (fun s1 h => ?_)
  refine z_aload e_X12_feels_7 0 rfl ?_
  refine z_getr gf_X12_68_69 e_X12_feels_8 ?_
  refine z_ic e_X12_feels_11 ?_
  refine z_iload e_X12_feels_12 2 rfl ?_
  refine z_iast0 (j := 1) sh_89 e_X12_feels_13 (by unfold vp_in; decide) rfl h (fun s2 h => ?_)
  refine z_aload e_X12_feels_14 0 rfl ?_
  refine z_getr gf_X12_68_69 e_X12_feels_15 ?_
  refine z_ic e_X12_feels_18 ?_
  refine z_aload e_X12_feels_19 0 rfl ?_
  refine z_iload e_X12_feels_20 2 rfl ?_
  obtain ⟨q4, s3, e5, h⟩ := bd_e h
  refine z_callVi (c0 := 69) (As := [.int x2]) (rest := [.int (2 : Int32), .ref (zad G 89)]) lk_X12_176 ob_69 e_X12_feels_21 (m_X12_islandBy G x2 s2 _ _ e5) (by decide) rfl (Nat.le_of_ble_eq_true rfl) ?_
  refine z_iast0 (j := 2) sh_89 e_X12_feels_24 (by unfold vp_in; decide) rfl h (fun s6 h => ?_)
  refine z_aload e_X12_feels_25 0 rfl ?_
  refine z_getr gf_X12_68_69 e_X12_feels_26 ?_
  refine z_ic e_X12_feels_29 ?_
  refine z_iload e_X12_feels_30 3 rfl ?_
  refine z_iast0 (j := 3) sh_89 e_X12_feels_31 (by unfold vp_in; decide) rfl h (fun s7 h => ?_)
  refine z_aload e_X12_feels_32 0 rfl ?_
  refine z_getr gf_X12_68_69 e_X12_feels_33 ?_
  refine z_ic e_X12_feels_36 ?_
  refine z_iload e_X12_feels_37 4 rfl ?_
  refine z_iast0 (j := 4) sh_89 e_X12_feels_39 (by unfold vp_in; decide) rfl h (fun s8 h => ?_)
  refine z_aload e_X12_feels_40 0 rfl ?_
  refine z_getr gf_X12_68_69 e_X12_feels_41 ?_
  refine z_ic e_X12_feels_44 ?_
  refine z_aload e_X12_feels_45 0 rfl ?_
  refine z_geti gf_X12_170_69 e_X12_feels_46 ?_
  refine z_iload e_X12_feels_49 2 rfl ?_
  obtain ⟨q10, s9, e11, h⟩ := bd_e h
  refine z_callSi (As := [.int (s8.1 69 1), .int x2]) (rest := [.int (5 : Int32), .ref (zad G 89)]) lk_X12_156 e_X12_feels_50 (m_X12_has G (s8.1 69 1) x2 s8 _ _ e11) (by decide) rfl (Nat.le_of_ble_eq_true rfl) ?_
  obtain ⟨v12, ev12, h⟩ := nm_i h
  have jv12 : zAW G 4 RX12 cX12_feels 6 C 61 [(0, .ref (zad G 69)), (2, .int x2), (5, .int x5)] [.int v12, .int (5 : Int32), .ref (zad G 89)] s9 := by
    refine z_iast0 (j := 5) sh_89 e_X12_feels_61 (by unfold vp_in; decide) rfl h (fun s13 h => ?_)
    refine z_aload e_X12_feels_62 0 rfl ?_
    refine z_getr gf_X12_68_69 e_X12_feels_63 ?_
    refine z_ic e_X12_feels_66 ?_
    refine z_aload e_X12_feels_68 0 rfl ?_
    refine z_getr gf_X12_19_69 e_X12_feels_69 ?_
    refine z_iload e_X12_feels_72 1 rfl ?_
    refine z_iald sh_73 e_X12_feels_73 h (fun h => ?_)
    obtain ⟨v14, ev14, h⟩ := nm_i h
    have jv14 : zAW G 4 RX12 cX12_feels 6 C 82 [(0, .ref (zad G 69)), (2, .int x2), (5, .int x5)] [.int v14, .int (6 : Int32), .ref (zad G 89)] s13 := by
      refine z_iast0 (j := 6) sh_89 e_X12_feels_82 (by unfold vp_in; decide) rfl h (fun s15 h => ?_)
      refine z_aload e_X12_feels_83 0 rfl ?_
      refine z_getr gf_X12_68_69 e_X12_feels_84 ?_
      refine z_ic e_X12_feels_87 ?_
      refine z_aload e_X12_feels_89 0 rfl ?_
      refine z_iload e_X12_feels_90 1 rfl ?_
      obtain ⟨q17, s16, e18, h⟩ := bd_e h
      refine z_callVi (c0 := 69) (As := [.int x2]) (rest := [.int (7 : Int32), .ref (zad G 89)]) lk_X12_293 ob_69 e_X12_feels_91 (m_X12_nextLevel G x2 s15 _ _ e18) (by decide) rfl (Nat.le_of_ble_eq_true rfl) ?_
      refine z_iast0 (j := 7) sh_89 e_X12_feels_94 (by unfold vp_in; decide) rfl h (fun s19 h => ?_)
      refine z_aload e_X12_feels_95 0 rfl ?_
      refine z_getr gf_X12_68_69 e_X12_feels_96 ?_
      refine z_ic e_X12_feels_99 ?_
      refine z_iload e_X12_feels_101 2 rfl ?_
      refine z_iast0 (j := 8) sh_89 e_X12_feels_103 (by unfold vp_in; decide) rfl h (fun s20 h => ?_)
      cases h
      exact z_vreturn hR e_X12_feels_104
    refine y_if_lt e_X12_feels_74 (fun c21 => ?_) (fun c21 => ?_)
    · refine z_ic e_X12_feels_81 ?_
      rw [if_pos c21] at ev14
      subst ev14
      exact z_sub [0, 1, 2] rfl jv14
    · refine z_ic e_X12_feels_77 ?_
      refine z_goto e_X12_feels_78 ?_
      rw [if_neg c21] at ev14
      subst ev14
      exact z_sub [0, 1, 2] rfl jv14
  refine y_if_eq e_X12_feels_53 (fun c22 => ?_) (fun c22 => ?_)
  · refine z_ic e_X12_feels_60 ?_
    rw [if_pos c22] at ev12
    subst ev12
    exact z_sub [0, 2, 5] rfl jv12
  · refine z_ic e_X12_feels_56 ?_
    refine z_goto e_X12_feels_57 ?_
    rw [if_neg c22] at ev12
    subst ev12
    exact z_sub [0, 2, 5] rfl jv12
noncomputable def F_X12_feels (x1 : Int32) (x2 : Int32) (x3 : Int32) (x4 : Int32) (x5 : Int32) (σ : zSt) : Option (Unit × zSt) := F_X12_feels_0 x1 x2 x3 x4 x5 σ
set_option maxRecDepth 100000 in
theorem m_X12_feels (G : zG) (x1 : Int32) (x2 : Int32) (x3 : Int32) (x4 : Int32) (x5 : Int32) (σ : zSt) (q : Unit) (τ : zSt) (h : F_X12_feels x1 x2 x3 x4 x5 σ = some (q, τ)) : zM G 4 yX12_feels cX12_feels 6 none [.ref (zad G 69), .int x1, .int x2, .int x3, .int x4, .int x5] σ none τ := by
  unfold F_X12_feels at h
  refine zM.of (own := RX12) (by decide +kernel) rfl (Nat.le_of_ble_eq_true rfl) (fun C hR => ?_)
  exact z_sub [0, 1, 2, 3, 4, 5] rfl (p_X12_feels_0 hR x1 x2 x3 x4 x5 σ h)
noncomputable def F_X12_reckon_0 (x0 : Int32) (x1 : Int32) (x2 : Int32) (σ : zSt) : Option (Int32 × zSt) :=
  if x0 = (2 : Int32) then (
    some ((x1 + x2), σ))
  else (
    if x0 = (3 : Int32) then (
      some ((x1 - x2), σ))
    else (
      if x0 = (4 : Int32) then (
        some ((x1 * x2), σ))
      else (
        if x0 = (5 : Int32) then (
          gd (¬ x2 = 0) (
            some ((x1 / x2), σ)))
        else (
          if x0 = (6 : Int32) then (
            gd (¬ x2 = 0) (
              some ((x1 % x2), σ)))
          else (
            if x0 = (7 : Int32) then (
              if x2 ≤ x1 then (
                some ((0 : Int32), σ))
              else (
                some ((1 : Int32), σ)))
            else (
              if x0 = (8 : Int32) then (
                if x1 ≤ x2 then (
                  some ((0 : Int32), σ))
                else (
                  some ((1 : Int32), σ)))
              else (
                if x1 = x2 then (
                  some ((1 : Int32), σ))
                else (
                  some ((0 : Int32), σ)))))))))
set_option maxHeartbeats 4000000 in
set_option maxRecDepth 100000 in
theorem p_X12_reckon_0 {G : zG} {C : zC} {r : Int32} {τ : zSt} (hR : zR G C (some .int) (some (.int r)) τ) (x0 : Int32) (x1 : Int32) (x2 : Int32) (σ : zSt) (h : F_X12_reckon_0 x0 x1 x2 σ = some (r, τ)) : zAW G 1 RX12 cX12_reckon 3 C 0 [(0, .int x0), (1, .int x1), (2, .int x2)] [] σ := by
  unfold F_X12_reckon_0 at h
  refine z_iload e_X12_reckon_0 0 rfl ?_
  by_cases c1 : x0 = (2 : Int32)
  · rw [if_pos c1] at h
    refine z_tin (tgt := 44) e_X12_reckon_1 (2 : Int32) c1 (43) (by decide +kernel) ?_
    refine z_iload e_X12_reckon_44 1 rfl ?_
    refine z_iload e_X12_reckon_45 2 rfl ?_
    refine z_iadd e_X12_reckon_46 ?_
    cases h
    exact z_ireturn hR e_X12_reckon_47
  · rw [if_neg c1] at h
    by_cases c2 : x0 = (3 : Int32)
    · rw [if_pos c2] at h
      refine z_tin (tgt := 48) e_X12_reckon_1 (3 : Int32) c2 (47) (by decide +kernel) ?_
      refine z_iload e_X12_reckon_48 1 rfl ?_
      refine z_iload e_X12_reckon_49 2 rfl ?_
      refine z_isub e_X12_reckon_50 ?_
      cases h
      exact z_ireturn hR e_X12_reckon_51
    · rw [if_neg c2] at h
      by_cases c3 : x0 = (4 : Int32)
      · rw [if_pos c3] at h
        refine z_tin (tgt := 52) e_X12_reckon_1 (4 : Int32) c3 (51) (by decide +kernel) ?_
        refine z_iload e_X12_reckon_52 1 rfl ?_
        refine z_iload e_X12_reckon_53 2 rfl ?_
        refine z_imul e_X12_reckon_54 ?_
        cases h
        exact z_ireturn hR e_X12_reckon_55
      · rw [if_neg c3] at h
        by_cases c4 : x0 = (5 : Int32)
        · rw [if_pos c4] at h
          refine z_tin (tgt := 56) e_X12_reckon_1 (5 : Int32) c4 (55) (by decide +kernel) ?_
          refine z_iload e_X12_reckon_56 1 rfl ?_
          refine z_iload e_X12_reckon_57 2 rfl ?_
          obtain ⟨hy5, h⟩ := gd_e h
          refine z_idiv e_X12_reckon_58 hy5 ?_
          cases h
          exact z_ireturn hR e_X12_reckon_59
        · rw [if_neg c4] at h
          by_cases c6 : x0 = (6 : Int32)
          · rw [if_pos c6] at h
            refine z_tin (tgt := 60) e_X12_reckon_1 (6 : Int32) c6 (59) (by decide +kernel) ?_
            refine z_iload e_X12_reckon_60 1 rfl ?_
            refine z_iload e_X12_reckon_61 2 rfl ?_
            obtain ⟨hy7, h⟩ := gd_e h
            refine z_irem e_X12_reckon_62 hy7 ?_
            cases h
            exact z_ireturn hR e_X12_reckon_63
          · rw [if_neg c6] at h
            by_cases c8 : x0 = (7 : Int32)
            · rw [if_pos c8] at h
              refine z_tin (tgt := 64) e_X12_reckon_1 (7 : Int32) c8 (63) (by decide +kernel) ?_
              refine z_iload e_X12_reckon_64 1 rfl ?_
              refine z_iload e_X12_reckon_65 2 rfl ?_
              refine z_icmp_ge e_X12_reckon_66 h (fun c9 h => ?_) (fun c9 h => ?_)
              · refine z_ic e_X12_reckon_73 ?_
                cases h
                exact z_ireturn hR e_X12_reckon_74
              · refine z_ic e_X12_reckon_69 ?_
                refine z_goto e_X12_reckon_70 ?_
                cases h
                exact z_ireturn hR e_X12_reckon_74
            · rw [if_neg c8] at h
              by_cases c10 : x0 = (8 : Int32)
              · rw [if_pos c10] at h
                refine z_tin (tgt := 75) e_X12_reckon_1 (8 : Int32) c10 (74) (by decide +kernel) ?_
                refine z_iload e_X12_reckon_75 1 rfl ?_
                refine z_iload e_X12_reckon_76 2 rfl ?_
                refine z_icmp_le e_X12_reckon_77 h (fun c11 h => ?_) (fun c11 h => ?_)
                · refine z_ic e_X12_reckon_84 ?_
                  cases h
                  exact z_ireturn hR e_X12_reckon_85
                · refine z_ic e_X12_reckon_80 ?_
                  refine z_goto e_X12_reckon_81 ?_
                  cases h
                  exact z_ireturn hR e_X12_reckon_85
              · rw [if_neg c10] at h
                refine z_tout (tgt := 86) e_X12_reckon_1 (by
                  have := lv_neT c1 (show (2 : Int32).toInt = 2 by decide)
                  have := lv_neT c2 (show (3 : Int32).toInt = 3 by decide)
                  have := lv_neT c3 (show (4 : Int32).toInt = 4 by decide)
                  have := lv_neT c4 (show (5 : Int32).toInt = 5 by decide)
                  have := lv_neT c6 (show (6 : Int32).toInt = 6 by decide)
                  have := lv_neT c8 (show (7 : Int32).toInt = 7 by decide)
                  have := lv_neT c10 (show (8 : Int32).toInt = 8 by decide)
                  omega) (by decide) ?_
                refine z_iload e_X12_reckon_86 1 rfl ?_
                refine z_iload e_X12_reckon_87 2 rfl ?_
                refine z_icmp_ne e_X12_reckon_88 h (fun c12 h => ?_) (fun c12 h => ?_)
                · refine z_ic e_X12_reckon_91 ?_
                  refine z_goto e_X12_reckon_92 ?_
                  cases h
                  exact z_ireturn hR e_X12_reckon_96
                · refine z_ic e_X12_reckon_95 ?_
                  cases h
                  exact z_ireturn hR e_X12_reckon_96
noncomputable def F_X12_reckon (x0 : Int32) (x1 : Int32) (x2 : Int32) (σ : zSt) : Option (Int32 × zSt) := F_X12_reckon_0 x0 x1 x2 σ
set_option maxRecDepth 100000 in
theorem m_X12_reckon (G : zG) (x0 : Int32) (x1 : Int32) (x2 : Int32) (σ : zSt) (q : Int32) (τ : zSt) (h : F_X12_reckon x0 x1 x2 σ = some (q, τ)) : zM G 1 yX12_reckon cX12_reckon 3 (some .int) [.int x0, .int x1, .int x2] σ (some (.int q)) τ := by
  unfold F_X12_reckon at h
  refine zM.of (own := RX12) (by decide +kernel) rfl (Nat.le_of_ble_eq_true rfl) (fun C hR => ?_)
  exact z_sub [0, 1, 2] rfl (p_X12_reckon_0 hR x0 x1 x2 σ h)
