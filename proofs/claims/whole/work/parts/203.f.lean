noncomputable def F_X12_readsAct_0 (σ : zSt) : Option (Int32 × zSt) :=
  bd (F_X12_here σ) (fun q2 s1 =>
    bd (F_X12_kindOf q2 s1) (fun q5 s4 =>
      if q5 = (-1 : Int32) then (
        bd (F_X12_wrongAt (1 : Int32) (s4.1 69 15) s4) (fun q9 s8 =>
          gd (q9 = 0 ∨ q9 = 1) (some (q9, s8))))
      else (
        if (s4.1 69 42) = (32 : Int32) then (
          bd (F_X12_wrongAt (4 : Int32) (s4.1 69 15) s4) (fun q14 s13 =>
            gd (q14 = 0 ∨ q14 = 1) (some (q14, s13))))
        else (
          nm (zwr s4 69 15 ((s4.1 69 15) + (1 : Int32))) (fun s17 =>
            bd (F_X12_isDigit s17) (fun q19 s18 =>
              if q19 = 0 then (
                bd (F_X12_wrongAt (1 : Int32) (s18.1 69 15) s18) (fun q23 s22 =>
                  gd (q23 = 0 ∨ q23 = 1) (some (q23, s22))))
              else (
                bd (F_X12_here s18) (fun q27 s26 =>
                  nm (q27 - (48 : Int32)) (fun v29 =>
                    bd (F_X12_digitsFor q5 s26) (fun q31 s30 =>
                      if v29 < q31 then (
                        nm (zwr s30 69 15 ((s30.1 69 15) + (1 : Int32))) (fun s34 =>
                          gd (vp_in (s34.1 69 42) 32) (nm (zwr s34 90 (s34.1 69 42).toNatClampNeg q5) (fun s35 =>
                            gd (vp_in (s35.1 69 42) 32) (nm (zwr s35 91 (s35.1 69 42).toNatClampNeg v29) (fun s36 =>
                              nm (zwr s36 69 42 ((s36.1 69 42) + (1 : Int32))) (fun s37 =>
                                some ((1 : Int32), s37))))))))
                      else (
                        bd (F_X12_wrongAt (3 : Int32) (s30.1 69 15) s30) (fun q39 s38 =>
                          gd (q39 = 0 ∨ q39 = 1) (some (q39, s38))))))))))))))
set_option maxHeartbeats 4000000 in
set_option maxRecDepth 100000 in
theorem p_X12_readsAct_0 {G : zG} {C : zC} {r : Int32} {τ : zSt} (hR : zR G C (some .boolean) (some (.int r)) τ)  (σ : zSt) (h : F_X12_readsAct_0 σ = some (r, τ)) : zAW G 3 RX12 cX12_readsAct 3 C 0 [(0, .ref (zad G 69))] [] σ := by
  unfold F_X12_readsAct_0 at h
  refine z_aload e_X12_readsAct_0 0 rfl ?_
  obtain ⟨q2, s1, e3, h⟩ := bd_e h
  refine z_callVi (c0 := 69) (As := []) (rest := []) lk_X12_199 ob_69 e_X12_readsAct_1 (m_X12_here G σ _ _ e3) (by decide) rfl (Nat.le_of_ble_eq_true rfl) ?_
  obtain ⟨q5, s4, e6, h⟩ := bd_e h
  refine z_callSi (As := [.int q2]) (rest := []) lk_X12_335 e_X12_readsAct_4 (m_X12_kindOf G q2 s1 _ _ e6) (by decide) rfl (Nat.le_of_ble_eq_true rfl) ?_
  refine z_istore e_X12_readsAct_7 (by decide) [(1, .int q5), (0, .ref (zad G 69))] rfl ?_
  refine z_iload e_X12_readsAct_8 0 rfl ?_
  refine z_ic e_X12_readsAct_9 ?_
  refine z_icmp_ne e_X12_readsAct_10 h (fun c7 h => ?_) (fun c7 h => ?_)
  · refine z_aload e_X12_readsAct_13 1 rfl ?_
    refine z_ic e_X12_readsAct_14 ?_
    refine z_aload e_X12_readsAct_15 1 rfl ?_
    refine z_geti gf_X12_193_69 e_X12_readsAct_16 ?_
    obtain ⟨q9, s8, e10, h⟩ := bd_e h
    refine z_callVi (c0 := 69) (As := [.int (1 : Int32), .int (s4.1 69 15)]) (rest := []) lk_X12_206 ob_69 e_X12_readsAct_19 (m_X12_wrongAt G (1 : Int32) (s4.1 69 15) s4 _ _ e10) (by decide) rfl (Nat.le_of_ble_eq_true rfl) ?_
    obtain ⟨hb11, h⟩ := gd_e h
    cases h
    exact z_zreturn hR e_X12_readsAct_22 hb11
  · refine z_aload e_X12_readsAct_23 1 rfl ?_
    refine z_geti gf_X12_338_69 e_X12_readsAct_24 ?_
    refine z_ic e_X12_readsAct_27 ?_
    refine z_icmp_ne e_X12_readsAct_29 h (fun c12 h => ?_) (fun c12 h => ?_)
    · refine z_aload e_X12_readsAct_32 1 rfl ?_
      refine z_ic e_X12_readsAct_33 ?_
      refine z_aload e_X12_readsAct_34 1 rfl ?_
      refine z_geti gf_X12_193_69 e_X12_readsAct_35 ?_
      obtain ⟨q14, s13, e15, h⟩ := bd_e h
      refine z_callVi (c0 := 69) (As := [.int (4 : Int32), .int (s4.1 69 15)]) (rest := []) lk_X12_206 ob_69 e_X12_readsAct_38 (m_X12_wrongAt G (4 : Int32) (s4.1 69 15) s4 _ _ e15) (by decide) rfl (Nat.le_of_ble_eq_true rfl) ?_
      obtain ⟨hb16, h⟩ := gd_e h
      cases h
      exact z_zreturn hR e_X12_readsAct_41 hb16
    · refine z_aload e_X12_readsAct_42 1 rfl ?_
      refine z_aload e_X12_readsAct_43 1 rfl ?_
      refine z_geti gf_X12_193_69 e_X12_readsAct_44 ?_
      refine z_ic e_X12_readsAct_47 ?_
      refine z_iadd e_X12_readsAct_48 ?_
      refine z_puti pf_X12_193_69 e_X12_readsAct_49 h (fun s17 h => ?_)
      refine z_aload e_X12_readsAct_52 1 rfl ?_
      obtain ⟨q19, s18, e20, h⟩ := bd_e h
      refine z_callVi (c0 := 69) (As := []) (rest := []) lk_X12_212 ob_69 e_X12_readsAct_53 (m_X12_isDigit G s17 _ _ e20) (by decide) rfl (Nat.le_of_ble_eq_true rfl) ?_
      refine z_if_ne e_X12_readsAct_56 h (fun c21 h => ?_) (fun c21 h => ?_)
      · refine z_aload e_X12_readsAct_59 1 rfl ?_
        refine z_ic e_X12_readsAct_60 ?_
        refine z_aload e_X12_readsAct_61 1 rfl ?_
        refine z_geti gf_X12_193_69 e_X12_readsAct_62 ?_
        obtain ⟨q23, s22, e24, h⟩ := bd_e h
        refine z_callVi (c0 := 69) (As := [.int (1 : Int32), .int (s18.1 69 15)]) (rest := []) lk_X12_206 ob_69 e_X12_readsAct_65 (m_X12_wrongAt G (1 : Int32) (s18.1 69 15) s18 _ _ e24) (by decide) rfl (Nat.le_of_ble_eq_true rfl) ?_
        obtain ⟨hb25, h⟩ := gd_e h
        cases h
        exact z_zreturn hR e_X12_readsAct_68 hb25
      · refine z_aload e_X12_readsAct_69 1 rfl ?_
        obtain ⟨q27, s26, e28, h⟩ := bd_e h
        refine z_callVi (c0 := 69) (As := []) (rest := []) lk_X12_199 ob_69 e_X12_readsAct_70 (m_X12_here G s18 _ _ e28) (by decide) rfl (Nat.le_of_ble_eq_true rfl) ?_
        refine z_ic e_X12_readsAct_73 ?_
        refine z_isub e_X12_readsAct_75 ?_
        refine z_nmI h (fun v29 h => ?_)
        refine z_istore e_X12_readsAct_76 (by decide) [(2, .int v29), (1, .int q5), (0, .ref (zad G 69))] rfl ?_
        refine z_iload e_X12_readsAct_77 0 rfl ?_
        refine z_iload e_X12_readsAct_78 1 rfl ?_
        obtain ⟨q31, s30, e32, h⟩ := bd_e h
        refine z_callSi (As := [.int q5]) (rest := [.int v29]) lk_X12_341 e_X12_readsAct_79 (m_X12_digitsFor G q5 s26 _ _ e32) (by decide) rfl (Nat.le_of_ble_eq_true rfl) ?_
        refine z_icmp_lt e_X12_readsAct_82 h (fun c33 h => ?_) (fun c33 h => ?_)
        · refine z_aload e_X12_readsAct_95 2 rfl ?_
          refine z_aload e_X12_readsAct_96 2 rfl ?_
          refine z_geti gf_X12_193_69 e_X12_readsAct_97 ?_
          refine z_ic e_X12_readsAct_100 ?_
          refine z_iadd e_X12_readsAct_101 ?_
          refine z_puti pf_X12_193_69 e_X12_readsAct_102 h (fun s34 h => ?_)
          refine z_aload e_X12_readsAct_105 2 rfl ?_
          refine z_getr gf_X12_71_69 e_X12_readsAct_106 ?_
          refine z_aload e_X12_readsAct_109 2 rfl ?_
          refine z_geti gf_X12_338_69 e_X12_readsAct_110 ?_
          refine z_iload e_X12_readsAct_113 1 rfl ?_
          refine z_iast sh_90 e_X12_readsAct_114 h (fun s35 h => ?_)
          refine z_aload e_X12_readsAct_115 2 rfl ?_
          refine z_getr gf_X12_74_69 e_X12_readsAct_116 ?_
          refine z_aload e_X12_readsAct_119 2 rfl ?_
          refine z_geti gf_X12_338_69 e_X12_readsAct_120 ?_
          refine z_iload e_X12_readsAct_123 0 rfl ?_
          refine z_iast sh_91 e_X12_readsAct_124 h (fun s36 h => ?_)
          refine z_aload e_X12_readsAct_125 2 rfl ?_
          refine z_aload e_X12_readsAct_126 2 rfl ?_
          refine z_geti gf_X12_338_69 e_X12_readsAct_127 ?_
          refine z_ic e_X12_readsAct_130 ?_
          refine z_iadd e_X12_readsAct_131 ?_
          refine z_puti pf_X12_338_69 e_X12_readsAct_132 h (fun s37 h => ?_)
          refine z_ic e_X12_readsAct_135 ?_
          cases h
          exact z_zreturn hR e_X12_readsAct_136 (Or.inr rfl)
        · refine z_aload e_X12_readsAct_85 2 rfl ?_
          refine z_ic e_X12_readsAct_86 ?_
          refine z_aload e_X12_readsAct_87 2 rfl ?_
          refine z_geti gf_X12_193_69 e_X12_readsAct_88 ?_
          obtain ⟨q39, s38, e40, h⟩ := bd_e h
          refine z_callVi (c0 := 69) (As := [.int (3 : Int32), .int (s30.1 69 15)]) (rest := []) lk_X12_206 ob_69 e_X12_readsAct_91 (m_X12_wrongAt G (3 : Int32) (s30.1 69 15) s30 _ _ e40) (by decide) rfl (Nat.le_of_ble_eq_true rfl) ?_
          obtain ⟨hb41, h⟩ := gd_e h
          cases h
          exact z_zreturn hR e_X12_readsAct_94 hb41
noncomputable def F_X12_readsAct (σ : zSt) : Option (Int32 × zSt) := F_X12_readsAct_0  σ
set_option maxRecDepth 100000 in
theorem m_X12_readsAct (G : zG) (σ : zSt) (q : Int32) (τ : zSt) (h : F_X12_readsAct  σ = some (q, τ)) : zM G 3 yX12_readsAct cX12_readsAct 3 (some .boolean) [.ref (zad G 69)] σ (some (.int q)) τ := by
  unfold F_X12_readsAct at h
  refine zM.of (own := RX12) (by decide +kernel) rfl (Nat.le_of_ble_eq_true rfl) (fun C hR => ?_)
  exact z_sub [0] rfl (p_X12_readsAct_0 hR  σ h)
noncomputable def F_X12_begins_0 (σ : zSt) : Option (Unit × zSt) :=
  nm (zwr σ 69 37 (0 : Int32)) (fun s1 =>
    nm (zwr s1 69 38 (0 : Int32)) (fun s2 =>
      nm (zwr s2 69 39 (0 : Int32)) (fun s3 =>
        nm (zwr s3 69 40 (0 : Int32)) (fun s4 =>
          nm (zwr s4 69 41 (0 : Int32)) (fun s5 =>
            some ((), s5))))))
set_option maxHeartbeats 4000000 in
set_option maxRecDepth 100000 in
theorem p_X12_begins_0 {G : zG} {C : zC} {r : Unit} {τ : zSt} (hR : zR G C none none τ)  (σ : zSt) (h : F_X12_begins_0 σ = some (r, τ)) : zAW G 1 RX12 cX12_begins 1 C 0 [(0, .ref (zad G 69))] [] σ := by
  unfold F_X12_begins_0 at h
  refine z_aload e_X12_begins_0 0 rfl ?_
  refine z_ic e_X12_begins_1 ?_
  refine z_puti pf_X12_320_69 e_X12_begins_2 h (fun s1 h => ?_)
  refine z_aload e_X12_begins_5 0 rfl ?_
  refine z_ic e_X12_begins_6 ?_
  refine z_puti pf_X12_323_69 e_X12_begins_7 h (fun s2 h => ?_)
  refine z_aload e_X12_begins_10 0 rfl ?_
  refine z_ic e_X12_begins_11 ?_
  refine z_puti pf_X12_326_69 e_X12_begins_12 h (fun s3 h => ?_)
  refine z_aload e_X12_begins_15 0 rfl ?_
  refine z_ic e_X12_begins_16 ?_
  refine z_puti pf_X12_329_69 e_X12_begins_17 h (fun s4 h => ?_)
  refine z_aload e_X12_begins_20 0 rfl ?_
  refine z_ic e_X12_begins_21 ?_
  refine z_puti pf_X12_332_69 e_X12_begins_22 h (fun s5 h => ?_)
  cases h
  exact z_vreturn hR e_X12_begins_25
noncomputable def F_X12_begins (σ : zSt) : Option (Unit × zSt) := F_X12_begins_0  σ
set_option maxRecDepth 100000 in
theorem m_X12_begins (G : zG) (σ : zSt) (q : Unit) (τ : zSt) (h : F_X12_begins  σ = some (q, τ)) : zM G 1 yX12_begins cX12_begins 1 none [.ref (zad G 69)] σ none τ := by
  unfold F_X12_begins at h
  refine zM.of (own := RX12) (by decide +kernel) rfl (Nat.le_of_ble_eq_true rfl) (fun C hR => ?_)
  exact z_sub [0] rfl (p_X12_begins_0 hR  σ h)
noncomputable def F_X12_aims_7 (w7 : (Int32 × Int32 × zSt) → Option (Int32 × zSt)) (x1 : Int32) (x2 : Int32) (σ : zSt) : Option (Int32 × zSt) :=
  if x2 < 0 then (
    some (x1, σ))
  else (
    nm (x1 ||| ((1 : Int32) <<< (x2 &&& 31))) (fun v2 =>
      gd (vp_in x2 8) (
        nm (σ.1 74 x2.toNatClampNeg) (fun v3 =>
          w7 (v2, v3, σ)))))
set_option maxHeartbeats 4000000 in
set_option maxRecDepth 100000 in
theorem b_X12_aims_7 {G : zG} {C : zC} {r : Int32} {τ : zSt} (hR : zR G C (some .int) (some (.int r)) τ) (w7 : (Int32 × Int32 × zSt) → Option (Int32 × zSt)) (hw7 : ∀ (x1 : Int32) (x2 : Int32) (σ : zSt), w7 (x1, x2, σ) = some (r, τ) → zAW G 1 RX12 cX12_aims 3 C 7 [(0, .ref (zad G 69)), (1, .int x1), (2, .int x2)] [] σ) (x1 : Int32) (x2 : Int32) (σ : zSt) (h : F_X12_aims_7 w7 x1 x2 σ = some (r, τ)) : zAW G 1 RX12 cX12_aims 3 C 7 [(0, .ref (zad G 69)), (1, .int x1), (2, .int x2)] [] σ := by
  unfold F_X12_aims_7 at h
  refine z_iload e_X12_aims_7 2 rfl ?_
  refine z_if_lt e_X12_aims_8 h (fun c1 h => ?_) (fun c1 h => ?_)
  · refine z_iload e_X12_aims_27 1 rfl ?_
    cases h
    exact z_ireturn hR e_X12_aims_28
  · refine z_iload e_X12_aims_11 1 rfl ?_
    refine z_ic e_X12_aims_12 ?_
    refine z_iload e_X12_aims_13 2 rfl ?_
    refine z_ishl e_X12_aims_14 ?_
    refine z_ior e_X12_aims_15 ?_
    refine z_nmI h (fun v2 h => ?_)
    refine z_istore e_X12_aims_16 (by decide) [(1, .int v2), (0, .ref (zad G 69)), (2, .int x2)] rfl ?_
    refine z_aload e_X12_aims_17 1 rfl ?_
    refine z_getr gf_X12_22_69 e_X12_aims_18 ?_
    refine z_iload e_X12_aims_21 2 rfl ?_
    refine z_iald sh_74 e_X12_aims_22 h (fun h => ?_)
    refine z_nmI h (fun v3 h => ?_)
    refine z_istore e_X12_aims_23 (by decide) [(2, .int v3), (1, .int v2), (0, .ref (zad G 69))] rfl ?_
    refine z_goto e_X12_aims_24 ?_
    exact z_sub [2, 1, 0] rfl (hw7 v2 v3 σ h)
noncomputable def F_X12_aims_7L  : ((Int32 × Int32 × zSt) → Option (Int32 × zSt)) → (Int32 × Int32 × zSt) → Option (Int32 × zSt) := fun w s => F_X12_aims_7 w s.1 s.2.1 s.2.2
set_option maxRecDepth 100000 in
theorem l_X12_aims_7 {G : zG} {C : zC} {r : Int32} {τ : zSt} (hR : zR G C (some .int) (some (.int r)) τ)  : ∀ (N : Nat) (x1 : Int32) (x2 : Int32) (σ : zSt), zfix (F_X12_aims_7L ) N (x1, x2, σ) = some (r, τ) → zAW G 1 RX12 cX12_aims 3 C 7 [(0, .ref (zad G 69)), (1, .int x1), (2, .int x2)] [] σ := by
  intro N
  induction N with
  | zero =>
    intro x1 x2 σ h
    exact nomatch (show (none : Option (Int32 × zSt)) = some (r, τ) from h)
  | succ N ih =>
    intro x1 x2 σ h
    exact b_X12_aims_7 hR (zfix (F_X12_aims_7L ) N) ih x1 x2 σ h
noncomputable def F_X12_aims_0 (σ : zSt) : Option (Int32 × zSt) :=
  zfix (F_X12_aims_7L ) zlim ((0 : Int32), (σ.1 69 2), σ)
set_option maxHeartbeats 4000000 in
set_option maxRecDepth 100000 in
theorem p_X12_aims_0 {G : zG} {C : zC} {r : Int32} {τ : zSt} (hR : zR G C (some .int) (some (.int r)) τ)  (σ : zSt) (h : F_X12_aims_0 σ = some (r, τ)) : zAW G 1 RX12 cX12_aims 3 C 0 [(0, .ref (zad G 69))] [] σ := by
  unfold F_X12_aims_0 at h
  refine z_ic e_X12_aims_0 ?_
  refine z_istore e_X12_aims_1 (by decide) [(1, .int (0 : Int32)), (0, .ref (zad G 69))] rfl ?_
  refine z_aload e_X12_aims_2 1 rfl ?_
  refine z_geti gf_X12_173_69 e_X12_aims_3 ?_
  refine z_istore e_X12_aims_6 (by decide) [(2, .int (σ.1 69 2)), (1, .int (0 : Int32)), (0, .ref (zad G 69))] rfl ?_
  exact z_sub [2, 1, 0] rfl (l_X12_aims_7 hR  zlim (0 : Int32) (σ.1 69 2) σ h)
noncomputable def F_X12_aims (σ : zSt) : Option (Int32 × zSt) := F_X12_aims_0  σ
set_option maxRecDepth 100000 in
theorem m_X12_aims (G : zG) (σ : zSt) (q : Int32) (τ : zSt) (h : F_X12_aims  σ = some (q, τ)) : zM G 1 yX12_aims cX12_aims 3 (some .int) [.ref (zad G 69)] σ (some (.int q)) τ := by
  unfold F_X12_aims at h
  refine zM.of (own := RX12) (by decide +kernel) rfl (Nat.le_of_ble_eq_true rfl) (fun C hR => ?_)
  exact z_sub [0] rfl (p_X12_aims_0 hR  σ h)
noncomputable def F_X12_isHad_0 (x1 : Int32) (σ : zSt) : Option (Int32 × zSt) :=
  bd (F_X12_isPlace (σ.1 69 2) σ) (fun q2 s1 =>
    if q2 = 0 then (
      some ((0 : Int32), s1))
    else (
      bd (F_X12_aims s1) (fun q6 s5 =>
        if (q6 &&& (x1 ^^^ (-1 : Int32))) = 0 then (
          some ((1 : Int32), s5))
        else (
          some ((0 : Int32), s5)))))
set_option maxHeartbeats 4000000 in
set_option maxRecDepth 100000 in
theorem p_X12_isHad_0 {G : zG} {C : zC} {r : Int32} {τ : zSt} (hR : zR G C (some .boolean) (some (.int r)) τ) (x1 : Int32) (σ : zSt) (h : F_X12_isHad_0 x1 σ = some (r, τ)) : zAW G 3 RX12 cX12_isHad 2 C 0 [(0, .ref (zad G 69)), (1, .int x1)] [] σ := by
  unfold F_X12_isHad_0 at h
  refine z_aload e_X12_isHad_0 0 rfl ?_
  refine z_aload e_X12_isHad_1 0 rfl ?_
  refine z_geti gf_X12_173_69 e_X12_isHad_2 ?_
  obtain ⟨q2, s1, e3, h⟩ := bd_e h
  refine z_callVi (c0 := 69) (As := [.int (σ.1 69 2)]) (rest := []) lk_X12_167 ob_69 e_X12_isHad_5 (m_X12_isPlace G (σ.1 69 2) σ _ _ e3) (by decide) rfl (Nat.le_of_ble_eq_true rfl) ?_
  refine z_if_ne e_X12_isHad_8 h (fun c4 h => ?_) (fun c4 h => ?_)
  · refine z_ic e_X12_isHad_11 ?_
    cases h
    exact z_zreturn hR e_X12_isHad_12 (Or.inl rfl)
  · refine z_aload e_X12_isHad_13 0 rfl ?_
    obtain ⟨q6, s5, e7, h⟩ := bd_e h
    refine z_callVi (c0 := 69) (As := []) (rest := []) lk_X12_354 ob_69 e_X12_isHad_14 (m_X12_aims G s1 _ _ e7) (by decide) rfl (Nat.le_of_ble_eq_true rfl) ?_
    refine z_iload e_X12_isHad_17 1 rfl ?_
    refine z_ic e_X12_isHad_18 ?_
    refine z_ixor e_X12_isHad_19 ?_
    refine z_iand e_X12_isHad_20 ?_
    refine z_if_ne e_X12_isHad_21 h (fun c8 h => ?_) (fun c8 h => ?_)
    · refine z_ic e_X12_isHad_24 ?_
      refine z_goto e_X12_isHad_25 ?_
      cases h
      exact z_zreturn hR e_X12_isHad_29 (Or.inr rfl)
    · refine z_ic e_X12_isHad_28 ?_
      cases h
      exact z_zreturn hR e_X12_isHad_29 (Or.inl rfl)
noncomputable def F_X12_isHad (x1 : Int32) (σ : zSt) : Option (Int32 × zSt) := F_X12_isHad_0 x1 σ
set_option maxRecDepth 100000 in
theorem m_X12_isHad (G : zG) (x1 : Int32) (σ : zSt) (q : Int32) (τ : zSt) (h : F_X12_isHad x1 σ = some (q, τ)) : zM G 3 yX12_isHad cX12_isHad 2 (some .boolean) [.ref (zad G 69), .int x1] σ (some (.int q)) τ := by
  unfold F_X12_isHad at h
  refine zM.of (own := RX12) (by decide +kernel) rfl (Nat.le_of_ble_eq_true rfl) (fun C hR => ?_)
  exact z_sub [0, 1] rfl (p_X12_isHad_0 hR x1 σ h)
noncomputable def F_X12_beastFor_0 (x0 : Int32) (x1 : Int32) (σ : zSt) : Option (Int32 × zSt) :=
  if x0 = (1 : Int32) then (
    some ((0 : Int32), σ))
  else (
    if x0 = (3 : Int32) then (
      some ((1 : Int32), σ))
    else (
      if x0 = (4 : Int32) then (
        some ((2 : Int32), σ))
      else (
        if x0 = (5 : Int32) then (
          some (x1, σ))
        else (
          some ((-1 : Int32), σ)))))
set_option maxHeartbeats 4000000 in
set_option maxRecDepth 100000 in
theorem p_X12_beastFor_0 {G : zG} {C : zC} {r : Int32} {τ : zSt} (hR : zR G C (some .int) (some (.int r)) τ) (x0 : Int32) (x1 : Int32) (σ : zSt) (h : F_X12_beastFor_0 x0 x1 σ = some (r, τ)) : zAW G 1 RX12 cX12_beastFor 2 C 0 [(0, .int x0), (1, .int x1)] [] σ := by
  unfold F_X12_beastFor_0 at h
  refine z_iload e_X12_beastFor_0 0 rfl ?_
  refine z_ic e_X12_beastFor_1 ?_
  refine z_icmp_ne e_X12_beastFor_2 h (fun c1 h => ?_) (fun c1 h => ?_)
  · refine z_ic e_X12_beastFor_5 ?_
    refine z_goto e_X12_beastFor_6 ?_
    cases h
    exact z_ireturn hR e_X12_beastFor_37
  · refine z_iload e_X12_beastFor_9 0 rfl ?_
    refine z_ic e_X12_beastFor_10 ?_
    refine z_icmp_ne e_X12_beastFor_11 h (fun c2 h => ?_) (fun c2 h => ?_)
    · refine z_ic e_X12_beastFor_14 ?_
      refine z_goto e_X12_beastFor_15 ?_
      cases h
      exact z_ireturn hR e_X12_beastFor_37
    · refine z_iload e_X12_beastFor_18 0 rfl ?_
      refine z_ic e_X12_beastFor_19 ?_
      refine z_icmp_ne e_X12_beastFor_20 h (fun c3 h => ?_) (fun c3 h => ?_)
      · refine z_ic e_X12_beastFor_23 ?_
        refine z_goto e_X12_beastFor_24 ?_
        cases h
        exact z_ireturn hR e_X12_beastFor_37
      · refine z_iload e_X12_beastFor_27 0 rfl ?_
        refine z_ic e_X12_beastFor_28 ?_
        refine z_icmp_ne e_X12_beastFor_29 h (fun c4 h => ?_) (fun c4 h => ?_)
        · refine z_iload e_X12_beastFor_32 1 rfl ?_
          refine z_goto e_X12_beastFor_33 ?_
          cases h
          exact z_ireturn hR e_X12_beastFor_37
        · refine z_ic e_X12_beastFor_36 ?_
          cases h
          exact z_ireturn hR e_X12_beastFor_37
noncomputable def F_X12_beastFor (x0 : Int32) (x1 : Int32) (σ : zSt) : Option (Int32 × zSt) := F_X12_beastFor_0 x0 x1 σ
set_option maxRecDepth 100000 in
theorem m_X12_beastFor (G : zG) (x0 : Int32) (x1 : Int32) (σ : zSt) (q : Int32) (τ : zSt) (h : F_X12_beastFor x0 x1 σ = some (q, τ)) : zM G 1 yX12_beastFor cX12_beastFor 2 (some .int) [.int x0, .int x1] σ (some (.int q)) τ := by
  unfold F_X12_beastFor at h
  refine zM.of (own := RX12) (by decide +kernel) rfl (Nat.le_of_ble_eq_true rfl) (fun C hR => ?_)
  exact z_sub [0, 1] rfl (p_X12_beastFor_0 hR x0 x1 σ h)
noncomputable def F_X12_islandBy_21 (x2 : Int32) (σ : zSt) : Option (Int32 × zSt) :=
  gd (vp_in x2 8) (
    some ((σ.1 71 x2.toNatClampNeg), σ))
set_option maxHeartbeats 4000000 in
set_option maxRecDepth 100000 in
theorem p_X12_islandBy_21 {G : zG} {C : zC} {r : Int32} {τ : zSt} (hR : zR G C (some .int) (some (.int r)) τ) (x2 : Int32) (σ : zSt) (h : F_X12_islandBy_21 x2 σ = some (r, τ)) : zAW G 1 RX12 cX12_islandBy 3 C 21 [(0, .ref (zad G 69)), (2, .int x2)] [] σ := by
  unfold F_X12_islandBy_21 at h
  refine z_aload e_X12_islandBy_21 0 rfl ?_
  refine z_getr gf_X12_13_69 e_X12_islandBy_22 ?_
  refine z_iload e_X12_islandBy_25 1 rfl ?_
  refine z_iald sh_71 e_X12_islandBy_26 h (fun h => ?_)
  cases h
  exact z_ireturn hR e_X12_islandBy_27
noncomputable def F_X12_islandBy_2 (w2 : (Int32 × zSt) → Option (Int32 × zSt)) (x2 : Int32) (σ : zSt) : Option (Int32 × zSt) :=
  gd (vp_in x2 8) (
    if (σ.1 72 x2.toNatClampNeg) < 0 then (
      F_X12_islandBy_21 x2 σ)
    else (
      gd (vp_in x2 8) (
        nm (σ.1 72 x2.toNatClampNeg) (fun v2 =>
          w2 (v2, σ)))))
set_option maxHeartbeats 4000000 in
set_option maxRecDepth 100000 in
theorem b_X12_islandBy_2 {G : zG} {C : zC} {r : Int32} {τ : zSt} (hR : zR G C (some .int) (some (.int r)) τ) (w2 : (Int32 × zSt) → Option (Int32 × zSt)) (hw2 : ∀ (x2 : Int32) (σ : zSt), w2 (x2, σ) = some (r, τ) → zAW G 1 RX12 cX12_islandBy 3 C 2 [(0, .ref (zad G 69)), (2, .int x2)] [] σ) (x2 : Int32) (σ : zSt) (h : F_X12_islandBy_2 w2 x2 σ = some (r, τ)) : zAW G 1 RX12 cX12_islandBy 3 C 2 [(0, .ref (zad G 69)), (2, .int x2)] [] σ := by
  unfold F_X12_islandBy_2 at h
  refine z_aload e_X12_islandBy_2 0 rfl ?_
  refine z_getr gf_X12_16_69 e_X12_islandBy_3 ?_
  refine z_iload e_X12_islandBy_6 1 rfl ?_
  refine z_iald sh_72 e_X12_islandBy_7 h (fun h => ?_)
  refine z_if_lt e_X12_islandBy_8 h (fun c1 h => ?_) (fun c1 h => ?_)
  · exact z_sub [0, 1] rfl (p_X12_islandBy_21 hR x2 σ h)
  · refine z_aload e_X12_islandBy_11 0 rfl ?_
    refine z_getr gf_X12_16_69 e_X12_islandBy_12 ?_
    refine z_iload e_X12_islandBy_15 1 rfl ?_
    refine z_iald sh_72 e_X12_islandBy_16 h (fun h => ?_)
    refine z_nmI h (fun v2 h => ?_)
    refine z_istore e_X12_islandBy_17 (by decide) [(2, .int v2), (0, .ref (zad G 69))] rfl ?_
    refine z_goto e_X12_islandBy_18 ?_
    exact z_sub [1, 0] rfl (hw2 v2 σ h)
noncomputable def F_X12_islandBy_2L  : ((Int32 × zSt) → Option (Int32 × zSt)) → (Int32 × zSt) → Option (Int32 × zSt) := fun w s => F_X12_islandBy_2 w s.1 s.2
set_option maxRecDepth 100000 in
theorem l_X12_islandBy_2 {G : zG} {C : zC} {r : Int32} {τ : zSt} (hR : zR G C (some .int) (some (.int r)) τ)  : ∀ (N : Nat) (x2 : Int32) (σ : zSt), zfix (F_X12_islandBy_2L ) N (x2, σ) = some (r, τ) → zAW G 1 RX12 cX12_islandBy 3 C 2 [(0, .ref (zad G 69)), (2, .int x2)] [] σ := by
  intro N
  induction N with
  | zero =>
    intro x2 σ h
    exact nomatch (show (none : Option (Int32 × zSt)) = some (r, τ) from h)
  | succ N ih =>
    intro x2 σ h
    exact b_X12_islandBy_2 hR (zfix (F_X12_islandBy_2L ) N) ih x2 σ h
noncomputable def F_X12_islandBy_0 (x1 : Int32) (σ : zSt) : Option (Int32 × zSt) :=
  zfix (F_X12_islandBy_2L ) zlim (x1, σ)
set_option maxHeartbeats 4000000 in
set_option maxRecDepth 100000 in
theorem p_X12_islandBy_0 {G : zG} {C : zC} {r : Int32} {τ : zSt} (hR : zR G C (some .int) (some (.int r)) τ) (x1 : Int32) (σ : zSt) (h : F_X12_islandBy_0 x1 σ = some (r, τ)) : zAW G 1 RX12 cX12_islandBy 3 C 0 [(0, .ref (zad G 69)), (1, .int x1)] [] σ := by
  unfold F_X12_islandBy_0 at h
  refine z_iload e_X12_islandBy_0 1 rfl ?_
  refine z_istore e_X12_islandBy_1 (by decide) [(2, .int x1), (0, .ref (zad G 69)), (1, .int x1)] rfl ?_
  exact z_sub [1, 0] rfl (l_X12_islandBy_2 hR  zlim x1 σ h)
noncomputable def F_X12_islandBy (x1 : Int32) (σ : zSt) : Option (Int32 × zSt) := F_X12_islandBy_0 x1 σ
set_option maxRecDepth 100000 in
theorem m_X12_islandBy (G : zG) (x1 : Int32) (σ : zSt) (q : Int32) (τ : zSt) (h : F_X12_islandBy x1 σ = some (q, τ)) : zM G 1 yX12_islandBy cX12_islandBy 3 (some .int) [.ref (zad G 69), .int x1] σ (some (.int q)) τ := by
  unfold F_X12_islandBy at h
  refine zM.of (own := RX12) (by decide +kernel) rfl (Nat.le_of_ble_eq_true rfl) (fun C hR => ?_)
  exact z_sub [0, 1] rfl (p_X12_islandBy_0 hR x1 σ h)
noncomputable def F_X12_isFree_7 (x2 : Int32) (w7 : (Int32 × zSt) → Option (Int32 × zSt)) (x3 : Int32) (σ : zSt) : Option (Int32 × zSt) :=
  if x3 < 0 then (
    some ((1 : Int32), σ))
  else (
    bd (F_X12_has x2 x3 σ) (fun q4 s3 =>
      if q4 = 0 then (
        some ((0 : Int32), s3))
      else (
        gd (vp_in x3 8) (
          nm (s3.1 72 x3.toNatClampNeg) (fun v7 =>
            w7 (v7, s3))))))
set_option maxHeartbeats 4000000 in
set_option maxRecDepth 100000 in
theorem b_X12_isFree_7 {G : zG} {C : zC} {r : Int32} {τ : zSt} (hR : zR G C (some .boolean) (some (.int r)) τ) (x2 : Int32) (w7 : (Int32 × zSt) → Option (Int32 × zSt)) (hw7 : ∀ (x3 : Int32) (σ : zSt), w7 (x3, σ) = some (r, τ) → zAW G 2 RX12 cX12_isFree 4 C 7 [(0, .ref (zad G 69)), (2, .int x2), (3, .int x3)] [] σ) (x3 : Int32) (σ : zSt) (h : F_X12_isFree_7 x2 w7 x3 σ = some (r, τ)) : zAW G 2 RX12 cX12_isFree 4 C 7 [(0, .ref (zad G 69)), (2, .int x2), (3, .int x3)] [] σ := by
  unfold F_X12_isFree_7 at h
  refine z_iload e_X12_isFree_7 2 rfl ?_
  refine z_if_lt e_X12_isFree_8 h (fun c2 h => ?_) (fun c2 h => ?_)
  · refine z_ic e_X12_isFree_31 ?_
    cases h
    exact z_zreturn hR e_X12_isFree_32 (Or.inr rfl)
  · refine z_iload e_X12_isFree_11 1 rfl ?_
    refine z_iload e_X12_isFree_12 2 rfl ?_
    obtain ⟨q4, s3, e5, h⟩ := bd_e h
    refine z_callSi (As := [.int x2, .int x3]) (rest := []) lk_X12_156 e_X12_isFree_13 (m_X12_has G x2 x3 σ _ _ e5) (by decide) rfl (Nat.le_of_ble_eq_true rfl) ?_
    refine z_if_ne e_X12_isFree_16 h (fun c6 h => ?_) (fun c6 h => ?_)
    · refine z_ic e_X12_isFree_19 ?_
      cases h
      exact z_zreturn hR e_X12_isFree_20 (Or.inl rfl)
    · refine z_aload e_X12_isFree_21 0 rfl ?_
      refine z_getr gf_X12_16_69 e_X12_isFree_22 ?_
      refine z_iload e_X12_isFree_25 2 rfl ?_
      refine z_iald sh_72 e_X12_isFree_26 h (fun h => ?_)
      refine z_nmI h (fun v7 h => ?_)
      refine z_istore e_X12_isFree_27 (by decide) [(3, .int v7), (0, .ref (zad G 69)), (2, .int x2)] rfl ?_
      refine z_goto e_X12_isFree_28 ?_
      exact z_sub [1, 2, 0] rfl (hw7 v7 s3 h)
noncomputable def F_X12_isFree_7L (x2 : Int32) : ((Int32 × zSt) → Option (Int32 × zSt)) → (Int32 × zSt) → Option (Int32 × zSt) := fun w s => F_X12_isFree_7 x2 w s.1 s.2
set_option maxRecDepth 100000 in
theorem l_X12_isFree_7 {G : zG} {C : zC} {r : Int32} {τ : zSt} (hR : zR G C (some .boolean) (some (.int r)) τ) (x2 : Int32) : ∀ (N : Nat) (x3 : Int32) (σ : zSt), zfix (F_X12_isFree_7L x2) N (x3, σ) = some (r, τ) → zAW G 2 RX12 cX12_isFree 4 C 7 [(0, .ref (zad G 69)), (2, .int x2), (3, .int x3)] [] σ := by
  intro N
  induction N with
  | zero =>
    intro x3 σ h
    exact nomatch (show (none : Option (Int32 × zSt)) = some (r, τ) from h)
  | succ N ih =>
    intro x3 σ h
    exact b_X12_isFree_7 hR x2 (zfix (F_X12_isFree_7L x2) N) ih x3 σ h
noncomputable def F_X12_isFree_0 (x1 : Int32) (x2 : Int32) (σ : zSt) : Option (Int32 × zSt) :=
  gd (vp_in x1 8) (
    nm (σ.1 72 x1.toNatClampNeg) (fun v1 =>
      zfix (F_X12_isFree_7L x2) zlim (v1, σ)))
set_option maxHeartbeats 4000000 in
set_option maxRecDepth 100000 in
theorem p_X12_isFree_0 {G : zG} {C : zC} {r : Int32} {τ : zSt} (hR : zR G C (some .boolean) (some (.int r)) τ) (x1 : Int32) (x2 : Int32) (σ : zSt) (h : F_X12_isFree_0 x1 x2 σ = some (r, τ)) : zAW G 2 RX12 cX12_isFree 4 C 0 [(0, .ref (zad G 69)), (1, .int x1), (2, .int x2)] [] σ := by
  unfold F_X12_isFree_0 at h
  refine z_aload e_X12_isFree_0 0 rfl ?_
  refine z_getr gf_X12_16_69 e_X12_isFree_1 ?_
  refine z_iload e_X12_isFree_4 1 rfl ?_
  refine z_iald sh_72 e_X12_isFree_5 h (fun h => ?_)
  refine z_nmI h (fun v1 h => ?_)
  refine z_istore e_X12_isFree_6 (by decide) [(3, .int v1), (0, .ref (zad G 69)), (1, .int x1), (2, .int x2)] rfl ?_
  exact z_sub [1, 3, 0] rfl (l_X12_isFree_7 hR x2 zlim v1 σ h)
noncomputable def F_X12_isFree (x1 : Int32) (x2 : Int32) (σ : zSt) : Option (Int32 × zSt) := F_X12_isFree_0 x1 x2 σ
set_option maxRecDepth 100000 in
theorem m_X12_isFree (G : zG) (x1 : Int32) (x2 : Int32) (σ : zSt) (q : Int32) (τ : zSt) (h : F_X12_isFree x1 x2 σ = some (q, τ)) : zM G 2 yX12_isFree cX12_isFree 4 (some .boolean) [.ref (zad G 69), .int x1, .int x2] σ (some (.int q)) τ := by
  unfold F_X12_isFree at h
  refine zM.of (own := RX12) (by decide +kernel) rfl (Nat.le_of_ble_eq_true rfl) (fun C hR => ?_)
  exact z_sub [0, 1, 2] rfl (p_X12_isFree_0 hR x1 x2 σ h)
noncomputable def F_X12_canOpen_0 (x1 : Int32) (x2 : Int32) (x3 : Int32) (x4 : Int32) (x5 : Int32) (σ : zSt) : Option (Int32 × zSt) :=
  bd (F_X12_isPlace x1 σ) (fun q2 s1 =>
    if q2 = 0 then (
      some ((0 : Int32), s1))
    else (
      bd (F_X12_has x4 x1 s1) (fun q6 s5 =>
        if q6 = 0 then (
          bd (F_X12_islandBy x1 s5) (fun q10 s9 =>
            if q10 = x3 then (
              if x2 = (4 : Int32) then (
                bd (F_X12_has (s9.1 69 1) x1 s9) (fun q15 s14 =>
                  gd (q15 = 0 ∨ q15 = 1) (some (q15, s14))))
              else (
                bd (F_X12_isFree x1 x4 s9) (fun q19 s18 =>
                  if q19 = 0 then (
                    some ((0 : Int32), s18))
                  else (
                    if x2 = (3 : Int32) then (
                      bd (F_X12_has (s18.1 69 1) x1 s18) (fun q24 s23 =>
                        if q24 = 0 then (
                          some ((1 : Int32), s23))
                        else (
                          some ((0 : Int32), s23))))
                    else (
                      gd (vp_in x1 8) (
                        if (s18.1 73 x1.toNatClampNeg) < 0 then (
                          some ((1 : Int32), s18))
                        else (
                          gd (vp_in x1 8) (
                            bd (F_X12_has x5 (s18.1 73 x1.toNatClampNeg) s18) (fun q29 s28 =>
                              if q29 = 0 then (
                                some ((0 : Int32), s28))
                              else (
                                some ((1 : Int32), s28)))))))))))
            else (
              some ((0 : Int32), s9))))
        else (
          some ((0 : Int32), s5)))))
set_option maxHeartbeats 4000000 in
set_option maxRecDepth 100000 in
theorem p_X12_canOpen_0 {G : zG} {C : zC} {r : Int32} {τ : zSt} (hR : zR G C (some .boolean) (some (.int r)) τ) (x1 : Int32) (x2 : Int32) (x3 : Int32) (x4 : Int32) (x5 : Int32) (σ : zSt) (h : F_X12_canOpen_0 x1 x2 x3 x4 x5 σ = some (r, τ)) : zAW G 3 RX12 cX12_canOpen 6 C 0 [(0, .ref (zad G 69)), (1, .int x1), (2, .int x2), (3, .int x3), (4, .int x4), (5, .int x5)] [] σ := by
  unfold F_X12_canOpen_0 at h
  refine z_aload e_X12_canOpen_0 0 rfl ?_
  refine z_iload e_X12_canOpen_1 1 rfl ?_
  obtain ⟨q2, s1, e3, h⟩ := bd_e h
  refine z_callVi (c0 := 69) (As := [.int x1]) (rest := []) lk_X12_167 ob_69 e_X12_canOpen_2 (m_X12_isPlace G x1 σ _ _ e3) (by decide) rfl (Nat.le_of_ble_eq_true rfl) ?_
  refine z_if_eq e_X12_canOpen_5 h (fun c4 h => ?_) (fun c4 h => ?_)
  · refine z_ic e_X12_canOpen_26 ?_
    cases h
    exact z_zreturn hR e_X12_canOpen_27 (Or.inl rfl)
  · refine z_iload e_X12_canOpen_8 4 rfl ?_
    refine z_iload e_X12_canOpen_10 1 rfl ?_
    obtain ⟨q6, s5, e7, h⟩ := bd_e h
    refine z_callSi (As := [.int x4, .int x1]) (rest := []) lk_X12_156 e_X12_canOpen_11 (m_X12_has G x4 x1 s1 _ _ e7) (by decide) rfl (Nat.le_of_ble_eq_true rfl) ?_
    refine z_if_ne e_X12_canOpen_14 h (fun c8 h => ?_) (fun c8 h => ?_)
    · refine z_aload e_X12_canOpen_17 0 rfl ?_
      refine z_iload e_X12_canOpen_18 1 rfl ?_
      obtain ⟨q10, s9, e11, h⟩ := bd_e h
      refine z_callVi (c0 := 69) (As := [.int x1]) (rest := []) lk_X12_176 ob_69 e_X12_canOpen_19 (m_X12_islandBy G x1 s5 _ _ e11) (by decide) rfl (Nat.le_of_ble_eq_true rfl) ?_
      refine z_iload e_X12_canOpen_22 3 rfl ?_
      refine z_icmp_eq e_X12_canOpen_23 h (fun c12 h => ?_) (fun c12 h => ?_)
      · refine z_iload e_X12_canOpen_28 2 rfl ?_
        refine z_ic e_X12_canOpen_29 ?_
        refine z_icmp_ne e_X12_canOpen_30 h (fun c13 h => ?_) (fun c13 h => ?_)
        · refine z_aload e_X12_canOpen_33 0 rfl ?_
          refine z_geti gf_X12_170_69 e_X12_canOpen_34 ?_
          refine z_iload e_X12_canOpen_37 1 rfl ?_
          obtain ⟨q15, s14, e16, h⟩ := bd_e h
          refine z_callSi (As := [.int (s9.1 69 1), .int x1]) (rest := []) lk_X12_156 e_X12_canOpen_38 (m_X12_has G (s9.1 69 1) x1 s9 _ _ e16) (by decide) rfl (Nat.le_of_ble_eq_true rfl) ?_
          obtain ⟨hb17, h⟩ := gd_e h
          cases h
          exact z_zreturn hR e_X12_canOpen_41 hb17
        · refine z_aload e_X12_canOpen_42 0 rfl ?_
          refine z_iload e_X12_canOpen_43 1 rfl ?_
          refine z_iload e_X12_canOpen_44 4 rfl ?_
          obtain ⟨q19, s18, e20, h⟩ := bd_e h
          refine z_callVi (c0 := 69) (As := [.int x1, .int x4]) (rest := []) lk_X12_344 ob_69 e_X12_canOpen_46 (m_X12_isFree G x1 x4 s9 _ _ e20) (by decide) rfl (Nat.le_of_ble_eq_true rfl) ?_
          refine z_if_ne e_X12_canOpen_49 h (fun c21 h => ?_) (fun c21 h => ?_)
          · refine z_ic e_X12_canOpen_52 ?_
            cases h
            exact z_zreturn hR e_X12_canOpen_53 (Or.inl rfl)
          · refine z_iload e_X12_canOpen_54 2 rfl ?_
            refine z_ic e_X12_canOpen_55 ?_
            refine z_icmp_ne e_X12_canOpen_56 h (fun c22 h => ?_) (fun c22 h => ?_)
            · refine z_aload e_X12_canOpen_59 0 rfl ?_
              refine z_geti gf_X12_170_69 e_X12_canOpen_60 ?_
              refine z_iload e_X12_canOpen_63 1 rfl ?_
              obtain ⟨q24, s23, e25, h⟩ := bd_e h
              refine z_callSi (As := [.int (s18.1 69 1), .int x1]) (rest := []) lk_X12_156 e_X12_canOpen_64 (m_X12_has G (s18.1 69 1) x1 s18 _ _ e25) (by decide) rfl (Nat.le_of_ble_eq_true rfl) ?_
              refine z_if_ne e_X12_canOpen_67 h (fun c26 h => ?_) (fun c26 h => ?_)
              · refine z_ic e_X12_canOpen_70 ?_
                refine z_goto e_X12_canOpen_71 ?_
                cases h
                exact z_zreturn hR e_X12_canOpen_106 (Or.inr rfl)
              · refine z_ic e_X12_canOpen_74 ?_
                refine z_goto e_X12_canOpen_75 ?_
                cases h
                exact z_zreturn hR e_X12_canOpen_106 (Or.inl rfl)
            · refine z_aload e_X12_canOpen_78 0 rfl ?_
              refine z_getr gf_X12_19_69 e_X12_canOpen_79 ?_
              refine z_iload e_X12_canOpen_82 1 rfl ?_
              refine z_iald sh_73 e_X12_canOpen_83 h (fun h => ?_)
              refine z_if_lt e_X12_canOpen_84 h (fun c27 h => ?_) (fun c27 h => ?_)
              · refine z_ic e_X12_canOpen_101 ?_
                refine z_goto e_X12_canOpen_102 ?_
                cases h
                exact z_zreturn hR e_X12_canOpen_106 (Or.inr rfl)
              · refine z_iload e_X12_canOpen_87 5 rfl ?_
                refine z_aload e_X12_canOpen_89 0 rfl ?_
                refine z_getr gf_X12_19_69 e_X12_canOpen_90 ?_
                refine z_iload e_X12_canOpen_93 1 rfl ?_
                refine z_iald sh_73 e_X12_canOpen_94 h (fun h => ?_)
                obtain ⟨q29, s28, e30, h⟩ := bd_e h
                refine z_callSi (As := [.int x5, .int (s18.1 73 x1.toNatClampNeg)]) (rest := []) lk_X12_156 e_X12_canOpen_95 (m_X12_has G x5 (s18.1 73 x1.toNatClampNeg) s18 _ _ e30) (by decide) rfl (Nat.le_of_ble_eq_true rfl) ?_
                refine z_if_eq e_X12_canOpen_98 h (fun c31 h => ?_) (fun c31 h => ?_)
                · refine z_ic e_X12_canOpen_105 ?_
                  cases h
                  exact z_zreturn hR e_X12_canOpen_106 (Or.inl rfl)
                · refine z_ic e_X12_canOpen_101 ?_
                  refine z_goto e_X12_canOpen_102 ?_
                  cases h
                  exact z_zreturn hR e_X12_canOpen_106 (Or.inr rfl)
      · refine z_ic e_X12_canOpen_26 ?_
        cases h
        exact z_zreturn hR e_X12_canOpen_27 (Or.inl rfl)
    · refine z_ic e_X12_canOpen_26 ?_
      cases h
      exact z_zreturn hR e_X12_canOpen_27 (Or.inl rfl)
noncomputable def F_X12_canOpen (x1 : Int32) (x2 : Int32) (x3 : Int32) (x4 : Int32) (x5 : Int32) (σ : zSt) : Option (Int32 × zSt) := F_X12_canOpen_0 x1 x2 x3 x4 x5 σ
set_option maxRecDepth 100000 in
theorem m_X12_canOpen (G : zG) (x1 : Int32) (x2 : Int32) (x3 : Int32) (x4 : Int32) (x5 : Int32) (σ : zSt) (q : Int32) (τ : zSt) (h : F_X12_canOpen x1 x2 x3 x4 x5 σ = some (q, τ)) : zM G 3 yX12_canOpen cX12_canOpen 6 (some .boolean) [.ref (zad G 69), .int x1, .int x2, .int x3, .int x4, .int x5] σ (some (.int q)) τ := by
  unfold F_X12_canOpen at h
  refine zM.of (own := RX12) (by decide +kernel) rfl (Nat.le_of_ble_eq_true rfl) (fun C hR => ?_)
  exact z_sub [0, 1, 2, 3, 4, 5] rfl (p_X12_canOpen_0 hR x1 x2 x3 x4 x5 σ h)
noncomputable def F_X12_keysAt_4 (x1 : Int32) (w4 : (Int32 × Int32 × zSt) → Option (Int32 × zSt)) (x2 : Int32) (x3 : Int32) (σ : zSt) : Option (Int32 × zSt) :=
  if (8 : Int32) ≤ x3 then (
    some (x2, σ))
  else (
    gd (vp_in x3 8) (
      nm (if (σ.1 75 x3.toNatClampNeg) = x1 then ((1 : Int32) <<< (x3 &&& 31)) else (0 : Int32)) (fun v2 =>
        nm (x2 ||| v2) (fun v3 =>
          nm (x3 + (1 : Int32)) (fun v4 =>
            w4 (v3, v4, σ))))))
set_option maxHeartbeats 4000000 in
set_option maxRecDepth 100000 in
theorem b_X12_keysAt_4 {G : zG} {C : zC} {r : Int32} {τ : zSt} (hR : zR G C (some .int) (some (.int r)) τ) (x1 : Int32) (w4 : (Int32 × Int32 × zSt) → Option (Int32 × zSt)) (hw4 : ∀ (x2 : Int32) (x3 : Int32) (σ : zSt), w4 (x2, x3, σ) = some (r, τ) → zAW G 1 RX12 cX12_keysAt 4 C 4 [(0, .ref (zad G 69)), (1, .int x1), (2, .int x2), (3, .int x3)] [] σ) (x2 : Int32) (x3 : Int32) (σ : zSt) (h : F_X12_keysAt_4 x1 w4 x2 x3 σ = some (r, τ)) : zAW G 1 RX12 cX12_keysAt 4 C 4 [(0, .ref (zad G 69)), (1, .int x1), (2, .int x2), (3, .int x3)] [] σ := by
  unfold F_X12_keysAt_4 at h
  refine z_iload e_X12_keysAt_4 3 rfl ?_
  refine z_ic e_X12_keysAt_5 ?_
  refine z_icmp_ge e_X12_keysAt_7 h (fun c1 h => ?_) (fun c1 h => ?_)
  · refine z_iload e_X12_keysAt_36 2 rfl ?_
    cases h
    exact z_ireturn hR e_X12_keysAt_37
  · refine z_iload e_X12_keysAt_10 2 rfl ?_
    refine z_aload e_X12_keysAt_11 0 rfl ?_
    refine z_getr gf_X12_25_69 e_X12_keysAt_12 ?_
    refine z_iload e_X12_keysAt_15 3 rfl ?_
    refine z_iald sh_75 e_X12_keysAt_16 h (fun h => ?_)
    refine z_iload e_X12_keysAt_17 1 rfl ?_
    obtain ⟨v2, ev2, h⟩ := nm_i h
    have jv2 : zAW G 1 RX12 cX12_keysAt 4 C 28 [(0, .ref (zad G 69)), (1, .int x1), (3, .int x3)] [.int v2, .int x2] σ := by
      refine z_ior e_X12_keysAt_28 ?_
      refine z_nmI h (fun v3 h => ?_)
      refine z_istore e_X12_keysAt_29 (by decide) [(2, .int v3), (0, .ref (zad G 69)), (1, .int x1), (3, .int x3)] rfl ?_
      refine z_iinc e_X12_keysAt_30 3 rfl (by decide) (by decide) h (fun y => [(3, .int y), (2, .int v3), (0, .ref (zad G 69)), (1, .int x1)]) (fun _ => rfl) (fun v4 h => ?_)
      refine z_goto e_X12_keysAt_33 ?_
      exact z_sub [2, 3, 1, 0] rfl (hw4 v3 v4 σ h)
    refine y_icmp_ne e_X12_keysAt_18 (fun c5 => ?_) (fun c5 => ?_)
    · refine z_ic e_X12_keysAt_21 ?_
      refine z_iload e_X12_keysAt_22 3 rfl ?_
      refine z_ishl e_X12_keysAt_23 ?_
      refine z_goto e_X12_keysAt_24 ?_
      rw [if_pos c5] at ev2
      subst ev2
      exact z_sub [0, 1, 3] rfl jv2
    · refine z_ic e_X12_keysAt_27 ?_
      rw [if_neg c5] at ev2
      subst ev2
      exact z_sub [0, 1, 3] rfl jv2
noncomputable def F_X12_keysAt_4L (x1 : Int32) : ((Int32 × Int32 × zSt) → Option (Int32 × zSt)) → (Int32 × Int32 × zSt) → Option (Int32 × zSt) := fun w s => F_X12_keysAt_4 x1 w s.1 s.2.1 s.2.2
set_option maxRecDepth 100000 in
theorem l_X12_keysAt_4 {G : zG} {C : zC} {r : Int32} {τ : zSt} (hR : zR G C (some .int) (some (.int r)) τ) (x1 : Int32) : ∀ (N : Nat) (x2 : Int32) (x3 : Int32) (σ : zSt), zfix (F_X12_keysAt_4L x1) N (x2, x3, σ) = some (r, τ) → zAW G 1 RX12 cX12_keysAt 4 C 4 [(0, .ref (zad G 69)), (1, .int x1), (2, .int x2), (3, .int x3)] [] σ := by
  intro N
  induction N with
  | zero =>
    intro x2 x3 σ h
    exact nomatch (show (none : Option (Int32 × zSt)) = some (r, τ) from h)
  | succ N ih =>
    intro x2 x3 σ h
    exact b_X12_keysAt_4 hR x1 (zfix (F_X12_keysAt_4L x1) N) ih x2 x3 σ h
noncomputable def F_X12_keysAt_0 (x1 : Int32) (σ : zSt) : Option (Int32 × zSt) :=
  zfix (F_X12_keysAt_4L x1) zlim ((0 : Int32), (0 : Int32), σ)
set_option maxHeartbeats 4000000 in
set_option maxRecDepth 100000 in
theorem p_X12_keysAt_0 {G : zG} {C : zC} {r : Int32} {τ : zSt} (hR : zR G C (some .int) (some (.int r)) τ) (x1 : Int32) (σ : zSt) (h : F_X12_keysAt_0 x1 σ = some (r, τ)) : zAW G 1 RX12 cX12_keysAt 4 C 0 [(0, .ref (zad G 69)), (1, .int x1)] [] σ := by
  unfold F_X12_keysAt_0 at h
  refine z_ic e_X12_keysAt_0 ?_
  refine z_istore e_X12_keysAt_1 (by decide) [(2, .int (0 : Int32)), (0, .ref (zad G 69)), (1, .int x1)] rfl ?_
  refine z_ic e_X12_keysAt_2 ?_
  refine z_istore e_X12_keysAt_3 (by decide) [(3, .int (0 : Int32)), (2, .int (0 : Int32)), (0, .ref (zad G 69)), (1, .int x1)] rfl ?_
  exact z_sub [2, 3, 1, 0] rfl (l_X12_keysAt_4 hR x1 zlim (0 : Int32) (0 : Int32) σ h)
noncomputable def F_X12_keysAt (x1 : Int32) (σ : zSt) : Option (Int32 × zSt) := F_X12_keysAt_0 x1 σ
set_option maxRecDepth 100000 in
theorem m_X12_keysAt (G : zG) (x1 : Int32) (σ : zSt) (q : Int32) (τ : zSt) (h : F_X12_keysAt x1 σ = some (q, τ)) : zM G 1 yX12_keysAt cX12_keysAt 4 (some .int) [.ref (zad G 69), .int x1] σ (some (.int q)) τ := by
  unfold F_X12_keysAt at h
  refine zM.of (own := RX12) (by decide +kernel) rfl (Nat.le_of_ble_eq_true rfl) (fun C hR => ?_)
  exact z_sub [0, 1] rfl (p_X12_keysAt_0 hR x1 σ h)
noncomputable def F_X12_does_198 (x3 : Int32) (σ : zSt) : Option (Int32 × zSt) :=
  if x3 = (-1 : Int32) then (
    some ((1 : Int32), σ))
  else (
    nm (zwr σ 69 40 ((σ.1 69 40) ||| ((1 : Int32) <<< (x3 &&& 31)))) (fun s13 =>
      some ((1 : Int32), s13)))
set_option maxHeartbeats 4000000 in
set_option maxRecDepth 100000 in
theorem p_X12_does_198 {G : zG} {C : zC} {r : Int32} {τ : zSt} (hR : zR G C (some .boolean) (some (.int r)) τ) (x3 : Int32) (σ : zSt) (h : F_X12_does_198 x3 σ = some (r, τ)) : zAW G 4 RX12 cX12_does 4 C 198 [(0, .ref (zad G 69)), (3, .int x3)] [] σ := by
  unfold F_X12_does_198 at h
  refine z_iload e_X12_does_198 1 rfl ?_
  refine z_ic e_X12_does_199 ?_
  refine z_icmp_eq e_X12_does_200 h (fun c12 h => ?_) (fun c12 h => ?_)
  · refine z_ic e_X12_does_215 ?_
    cases h
    exact z_zreturn hR e_X12_does_216 (Or.inr rfl)
  · refine z_aload e_X12_does_203 0 rfl ?_
    refine z_aload e_X12_does_204 0 rfl ?_
    refine z_geti gf_X12_329_69 e_X12_does_205 ?_
    refine z_ic e_X12_does_208 ?_
    refine z_iload e_X12_does_209 1 rfl ?_
    refine z_ishl e_X12_does_210 ?_
    refine z_ior e_X12_does_211 ?_
    refine z_puti pf_X12_329_69 e_X12_does_212 h (fun s13 h => ?_)
    refine z_ic e_X12_does_215 ?_
    cases h
    exact z_zreturn hR e_X12_does_216 (Or.inr rfl)
noncomputable def F_X12_does_89 (x2 : Int32) (x3 : Int32) (t0 : Int32) (t1 : Int32) (σ : zSt) : Option (Int32 × zSt) :=
  nm (zwr σ 69 41 (t1 + t0)) (fun s10 =>
    nm (zwr s10 69 37 x2) (fun s11 =>
      F_X12_does_198 x3 s11))
set_option maxHeartbeats 4000000 in
set_option maxRecDepth 100000 in
theorem p_X12_does_89 {G : zG} {C : zC} {r : Int32} {τ : zSt} (hR : zR G C (some .boolean) (some (.int r)) τ) (x2 : Int32) (x3 : Int32) (t0 : Int32) (t1 : Int32) (σ : zSt) (h : F_X12_does_89 x2 x3 t0 t1 σ = some (r, τ)) : zAW G 4 RX12 cX12_does 4 C 89 [(0, .ref (zad G 69)), (2, .int x2), (3, .int x3)] [.int t0, .int t1, .ref (zad G 69)] σ := by
  unfold F_X12_does_89 at h
  refine z_iadd e_X12_does_89 ?_
  refine z_puti pf_X12_332_69 e_X12_does_90 h (fun s10 h => ?_)
  refine z_aload e_X12_does_93 0 rfl ?_
  refine z_iload e_X12_does_94 1 rfl ?_
  refine z_puti pf_X12_320_69 e_X12_does_95 h (fun s11 h => ?_)
  refine z_goto e_X12_does_98 ?_
  exact z_sub [0, 2] rfl (p_X12_does_198 hR x3 s11 h)
noncomputable def F_X12_does_63 (x1 : Int32) (x2 : Int32) (x3 : Int32) (σ : zSt) : Option (Int32 × zSt) :=
  if x1 = 0 then (
    gd (vp_in (((4 : Int32) * (σ.1 69 37)) + x2) 16) (
      F_X12_does_89 x2 x3 (σ.1 70 (((4 : Int32) * (σ.1 69 37)) + x2).toNatClampNeg) (σ.1 69 41) σ))
  else (
    F_X12_does_89 x2 x3 (1 : Int32) (σ.1 69 41) σ)
set_option maxHeartbeats 4000000 in
set_option maxRecDepth 100000 in
theorem p_X12_does_63 {G : zG} {C : zC} {r : Int32} {τ : zSt} (hR : zR G C (some .boolean) (some (.int r)) τ) (x1 : Int32) (x2 : Int32) (x3 : Int32) (σ : zSt) (h : F_X12_does_63 x1 x2 x3 σ = some (r, τ)) : zAW G 4 RX12 cX12_does 4 C 63 [(0, .ref (zad G 69)), (1, .int x1), (2, .int x2), (3, .int x3)] [] σ := by
  unfold F_X12_does_63 at h
  refine z_aload e_X12_does_63 0 rfl ?_
  refine z_aload e_X12_does_64 0 rfl ?_
  refine z_geti gf_X12_332_69 e_X12_does_65 ?_
  refine z_iload e_X12_does_68 1 rfl ?_
  refine z_if_ne e_X12_does_69 h (fun c9 h => ?_) (fun c9 h => ?_)
  · refine z_aload e_X12_does_72 0 rfl ?_
    refine z_getr gf_X12_7_69 e_X12_does_73 ?_
    refine z_ic e_X12_does_76 ?_
    refine z_aload e_X12_does_77 0 rfl ?_
    refine z_geti gf_X12_320_69 e_X12_does_78 ?_
    refine z_imul e_X12_does_81 ?_
    refine z_iload e_X12_does_82 2 rfl ?_
    refine z_iadd e_X12_does_83 ?_
    refine z_iald sh_70 e_X12_does_84 h (fun h => ?_)
    refine z_goto e_X12_does_85 ?_
    exact z_sub [0, 2, 3] rfl (p_X12_does_89 hR x2 x3 (σ.1 70 (((4 : Int32) * (σ.1 69 37)) + x2).toNatClampNeg) (σ.1 69 41) σ h)
  · refine z_ic e_X12_does_88 ?_
    exact z_sub [0, 2, 3] rfl (p_X12_does_89 hR x2 x3 (1 : Int32) (σ.1 69 41) σ h)
noncomputable def F_X12_does_33 (x1 : Int32) (x2 : Int32) (x3 : Int32) (σ : zSt) : Option (Int32 × zSt) :=
  if x2 = (σ.1 69 37) then (
    some ((0 : Int32), σ))
  else (
    if x1 = 0 then (
      gd (vp_in (((4 : Int32) * (σ.1 69 37)) + x2) 16) (
        if (σ.1 70 (((4 : Int32) * (σ.1 69 37)) + x2).toNatClampNeg) = 0 then (
          some ((0 : Int32), σ))
        else (
          F_X12_does_63 x1 x2 x3 σ)))
    else (
      F_X12_does_63 x1 x2 x3 σ))
set_option maxHeartbeats 4000000 in
set_option maxRecDepth 100000 in
theorem p_X12_does_33 {G : zG} {C : zC} {r : Int32} {τ : zSt} (hR : zR G C (some .boolean) (some (.int r)) τ) (x1 : Int32) (x2 : Int32) (x3 : Int32) (σ : zSt) (h : F_X12_does_33 x1 x2 x3 σ = some (r, τ)) : zAW G 4 RX12 cX12_does 4 C 33 [(0, .ref (zad G 69)), (1, .int x1), (2, .int x2), (3, .int x3)] [] σ := by
  unfold F_X12_does_33 at h
  refine z_iload e_X12_does_33 2 rfl ?_
  refine z_aload e_X12_does_34 0 rfl ?_
  refine z_geti gf_X12_320_69 e_X12_does_35 ?_
  refine z_icmp_eq e_X12_does_38 h (fun c6 h => ?_) (fun c6 h => ?_)
  · refine z_ic e_X12_does_61 ?_
    cases h
    exact z_zreturn hR e_X12_does_62 (Or.inl rfl)
  · refine z_iload e_X12_does_41 1 rfl ?_
    refine z_if_ne e_X12_does_42 h (fun c7 h => ?_) (fun c7 h => ?_)
    · refine z_aload e_X12_does_45 0 rfl ?_
      refine z_getr gf_X12_7_69 e_X12_does_46 ?_
      refine z_ic e_X12_does_49 ?_
      refine z_aload e_X12_does_50 0 rfl ?_
      refine z_geti gf_X12_320_69 e_X12_does_51 ?_
      refine z_imul e_X12_does_54 ?_
      refine z_iload e_X12_does_55 2 rfl ?_
      refine z_iadd e_X12_does_56 ?_
      refine z_iald sh_70 e_X12_does_57 h (fun h => ?_)
      refine z_if_ne e_X12_does_58 h (fun c8 h => ?_) (fun c8 h => ?_)
      · refine z_ic e_X12_does_61 ?_
        cases h
        exact z_zreturn hR e_X12_does_62 (Or.inl rfl)
      · exact z_sub [0, 1, 2, 3] rfl (p_X12_does_63 hR x1 x2 x3 σ h)
    · exact z_sub [0, 1, 2, 3] rfl (p_X12_does_63 hR x1 x2 x3 σ h)
noncomputable def F_X12_does_24 (x1 : Int32) (x2 : Int32) (x3 : Int32) (σ : zSt) : Option (Int32 × zSt) :=
  if x1 = 0 then (
    F_X12_does_33 x1 x2 x3 σ)
  else (
    if x1 = (1 : Int32) then (
      F_X12_does_33 x1 x2 x3 σ)
    else (
      if x1 = (5 : Int32) then (
        bd (F_X12_keysAt ((8 : Int32) + x2) σ) (fun q17 s16 =>
          if q17 = 0 then (
            some ((0 : Int32), s16))
          else (
            bd (F_X12_keysAt ((8 : Int32) + x2) s16) (fun q21 s20 =>
              nm (zwr s20 69 39 ((s16.1 69 39) ||| q21)) (fun s23 =>
                F_X12_does_198 x3 s23)))))
      else (
        bd (F_X12_canOpen x2 x1 (σ.1 69 37) (σ.1 69 38) (σ.1 69 39) σ) (fun q25 s24 =>
          if q25 = 0 then (
            some ((0 : Int32), s24))
          else (
            nm (zwr s24 69 38 ((s24.1 69 38) ||| ((1 : Int32) <<< (x2 &&& 31)))) (fun s28 =>
              bd (F_X12_keysAt x2 s28) (fun q30 s29 =>
                nm (zwr s29 69 39 ((s28.1 69 39) ||| q30)) (fun s32 =>
                  nm (zwr s32 69 41 ((s32.1 69 41) + (1 : Int32))) (fun s33 =>
                    F_X12_does_198 x3 s33)))))))))
set_option maxHeartbeats 4000000 in
set_option maxRecDepth 100000 in
theorem p_X12_does_24 {G : zG} {C : zC} {r : Int32} {τ : zSt} (hR : zR G C (some .boolean) (some (.int r)) τ) (x1 : Int32) (x2 : Int32) (x3 : Int32) (σ : zSt) (h : F_X12_does_24 x1 x2 x3 σ = some (r, τ)) : zAW G 4 RX12 cX12_does 4 C 24 [(0, .ref (zad G 69)), (1, .int x1), (2, .int x2), (3, .int x3)] [] σ := by
  unfold F_X12_does_24 at h
  refine z_iload e_X12_does_24 1 rfl ?_
  refine z_if_eq e_X12_does_25 h (fun c5 h => ?_) (fun c5 h => ?_)
  · exact z_sub [0, 1, 2, 3] rfl (p_X12_does_33 hR x1 x2 x3 σ h)
  · refine z_iload e_X12_does_28 1 rfl ?_
    refine z_ic e_X12_does_29 ?_
    refine z_icmp_ne e_X12_does_30 h (fun c14 h => ?_) (fun c14 h => ?_)
    · exact z_sub [0, 1, 2, 3] rfl (p_X12_does_33 hR x1 x2 x3 σ h)
    · refine z_iload e_X12_does_101 1 rfl ?_
      refine z_ic e_X12_does_102 ?_
      refine z_icmp_ne e_X12_does_103 h (fun c15 h => ?_) (fun c15 h => ?_)
      · refine z_aload e_X12_does_106 0 rfl ?_
        refine z_ic e_X12_does_107 ?_
        refine z_iload e_X12_does_109 2 rfl ?_
        refine z_iadd e_X12_does_110 ?_
        obtain ⟨q17, s16, e18, h⟩ := bd_e h
        refine z_callVi (c0 := 69) (As := [.int ((8 : Int32) + x2)]) (rest := []) lk_X12_180 ob_69 e_X12_does_111 (m_X12_keysAt G ((8 : Int32) + x2) σ _ _ e18) (by decide) rfl (Nat.le_of_ble_eq_true rfl) ?_
        refine z_if_ne e_X12_does_114 h (fun c19 h => ?_) (fun c19 h => ?_)
        · refine z_ic e_X12_does_117 ?_
          cases h
          exact z_zreturn hR e_X12_does_118 (Or.inl rfl)
        · refine z_aload e_X12_does_119 0 rfl ?_
          refine z_aload e_X12_does_120 0 rfl ?_
          refine z_geti gf_X12_326_69 e_X12_does_121 ?_
          refine z_aload e_X12_does_124 0 rfl ?_
          refine z_ic e_X12_does_125 ?_
          refine z_iload e_X12_does_127 2 rfl ?_
          refine z_iadd e_X12_does_128 ?_
          obtain ⟨q21, s20, e22, h⟩ := bd_e h
          refine z_callVi (c0 := 69) (As := [.int ((8 : Int32) + x2)]) (rest := [.int (s16.1 69 39), .ref (zad G 69)]) lk_X12_180 ob_69 e_X12_does_129 (m_X12_keysAt G ((8 : Int32) + x2) s16 _ _ e22) (by decide) rfl (Nat.le_of_ble_eq_true rfl) ?_
          refine z_ior e_X12_does_132 ?_
          refine z_puti pf_X12_326_69 e_X12_does_133 h (fun s23 h => ?_)
          refine z_goto e_X12_does_136 ?_
          exact z_sub [0, 3] rfl (p_X12_does_198 hR x3 s23 h)
      · refine z_aload e_X12_does_139 0 rfl ?_
        refine z_iload e_X12_does_140 2 rfl ?_
        refine z_iload e_X12_does_141 1 rfl ?_
        refine z_aload e_X12_does_142 0 rfl ?_
        refine z_geti gf_X12_320_69 e_X12_does_143 ?_
        refine z_aload e_X12_does_146 0 rfl ?_
        refine z_geti gf_X12_323_69 e_X12_does_147 ?_
        refine z_aload e_X12_does_150 0 rfl ?_
        refine z_geti gf_X12_326_69 e_X12_does_151 ?_
        obtain ⟨q25, s24, e26, h⟩ := bd_e h
        refine z_callVi (c0 := 69) (As := [.int x2, .int x1, .int (σ.1 69 37), .int (σ.1 69 38), .int (σ.1 69 39)]) (rest := []) lk_X12_350 ob_69 e_X12_does_154 (m_X12_canOpen G x2 x1 (σ.1 69 37) (σ.1 69 38) (σ.1 69 39) σ _ _ e26) (by decide) rfl (Nat.le_of_ble_eq_true rfl) ?_
        refine z_if_ne e_X12_does_157 h (fun c27 h => ?_) (fun c27 h => ?_)
        · refine z_ic e_X12_does_160 ?_
          cases h
          exact z_zreturn hR e_X12_does_161 (Or.inl rfl)
        · refine z_aload e_X12_does_162 0 rfl ?_
          refine z_aload e_X12_does_163 0 rfl ?_
          refine z_geti gf_X12_323_69 e_X12_does_164 ?_
          refine z_ic e_X12_does_167 ?_
          refine z_iload e_X12_does_168 2 rfl ?_
          refine z_ishl e_X12_does_169 ?_
          refine z_ior e_X12_does_170 ?_
          refine z_puti pf_X12_323_69 e_X12_does_171 h (fun s28 h => ?_)
          refine z_aload e_X12_does_174 0 rfl ?_
          refine z_aload e_X12_does_175 0 rfl ?_
          refine z_geti gf_X12_326_69 e_X12_does_176 ?_
          refine z_aload e_X12_does_179 0 rfl ?_
          refine z_iload e_X12_does_180 2 rfl ?_
          obtain ⟨q30, s29, e31, h⟩ := bd_e h
          refine z_callVi (c0 := 69) (As := [.int x2]) (rest := [.int (s28.1 69 39), .ref (zad G 69)]) lk_X12_180 ob_69 e_X12_does_181 (m_X12_keysAt G x2 s28 _ _ e31) (by decide) rfl (Nat.le_of_ble_eq_true rfl) ?_
          refine z_ior e_X12_does_184 ?_
          refine z_puti pf_X12_326_69 e_X12_does_185 h (fun s32 h => ?_)
          refine z_aload e_X12_does_188 0 rfl ?_
          refine z_aload e_X12_does_189 0 rfl ?_
          refine z_geti gf_X12_332_69 e_X12_does_190 ?_
          refine z_ic e_X12_does_193 ?_
          refine z_iadd e_X12_does_194 ?_
          refine z_puti pf_X12_332_69 e_X12_does_195 h (fun s33 h => ?_)
          exact z_sub [0, 3] rfl (p_X12_does_198 hR x3 s33 h)
noncomputable def F_X12_does_0 (x1 : Int32) (x2 : Int32) (σ : zSt) : Option (Int32 × zSt) :=
  bd (F_X12_beastFor x1 x2 σ) (fun q2 s1 =>
    if q2 = (-1 : Int32) then (
      F_X12_does_24 x1 x2 q2 s1)
    else (
      bd (F_X12_has (s1.1 69 40) q2 s1) (fun q35 s34 =>
        if q35 = 0 then (
          F_X12_does_24 x1 x2 q2 s34)
        else (
          some ((0 : Int32), s34)))))
set_option maxHeartbeats 4000000 in
set_option maxRecDepth 100000 in
theorem p_X12_does_0 {G : zG} {C : zC} {r : Int32} {τ : zSt} (hR : zR G C (some .boolean) (some (.int r)) τ) (x1 : Int32) (x2 : Int32) (σ : zSt) (h : F_X12_does_0 x1 x2 σ = some (r, τ)) : zAW G 4 RX12 cX12_does 4 C 0 [(0, .ref (zad G 69)), (1, .int x1), (2, .int x2)] [] σ := by
  unfold F_X12_does_0 at h
  refine z_iload e_X12_does_0 1 rfl ?_
  refine z_iload e_X12_does_1 2 rfl ?_
  obtain ⟨q2, s1, e3, h⟩ := bd_e h
  refine z_callSi (As := [.int x1, .int x2]) (rest := []) lk_X12_347 e_X12_does_2 (m_X12_beastFor G x1 x2 σ _ _ e3) (by decide) rfl (Nat.le_of_ble_eq_true rfl) ?_
  refine z_istore e_X12_does_5 (by decide) [(3, .int q2), (0, .ref (zad G 69)), (1, .int x1), (2, .int x2)] rfl ?_
  refine z_iload e_X12_does_6 0 rfl ?_
  refine z_ic e_X12_does_7 ?_
  refine z_icmp_eq e_X12_does_8 h (fun c4 h => ?_) (fun c4 h => ?_)
  · exact z_sub [1, 2, 3, 0] rfl (p_X12_does_24 hR x1 x2 q2 s1 h)
  · refine z_aload e_X12_does_11 1 rfl ?_
    refine z_geti gf_X12_329_69 e_X12_does_12 ?_
    refine z_iload e_X12_does_15 0 rfl ?_
    obtain ⟨q35, s34, e36, h⟩ := bd_e h
    refine z_callSi (As := [.int (s1.1 69 40), .int q2]) (rest := []) lk_X12_156 e_X12_does_16 (m_X12_has G (s1.1 69 40) q2 s1 _ _ e36) (by decide) rfl (Nat.le_of_ble_eq_true rfl) ?_
    refine z_if_eq e_X12_does_19 h (fun c37 h => ?_) (fun c37 h => ?_)
    · exact z_sub [1, 2, 3, 0] rfl (p_X12_does_24 hR x1 x2 q2 s34 h)
    · refine z_ic e_X12_does_22 ?_
      cases h
      exact z_zreturn hR e_X12_does_23 (Or.inl rfl)
noncomputable def F_X12_does (x1 : Int32) (x2 : Int32) (σ : zSt) : Option (Int32 × zSt) := F_X12_does_0 x1 x2 σ
set_option maxRecDepth 100000 in
theorem m_X12_does (G : zG) (x1 : Int32) (x2 : Int32) (σ : zSt) (q : Int32) (τ : zSt) (h : F_X12_does x1 x2 σ = some (q, τ)) : zM G 4 yX12_does cX12_does 4 (some .boolean) [.ref (zad G 69), .int x1, .int x2] σ (some (.int q)) τ := by
  unfold F_X12_does at h
  refine zM.of (own := RX12) (by decide +kernel) rfl (Nat.le_of_ble_eq_true rfl) (fun C hR => ?_)
  exact z_sub [0, 1, 2] rfl (p_X12_does_0 hR x1 x2 σ h)
noncomputable def F_X12_tale_149 (x2 : Int32) (x4 : Int32) (σ : zSt) : Option (Int32 × zSt) :=
  if x2 = (0 : Int32) then (
    some (x4, σ))
  else (
    if x2 = (1 : Int32) then (
      some ((σ.1 69 41), σ))
    else (
      if x2 = (2 : Int32) then (
        some ((σ.1 69 38), σ))
      else (
        if x2 = (3 : Int32) then (
          some ((σ.1 69 39), σ))
        else (
          if x2 = (4 : Int32) then (
            some ((σ.1 69 37), σ))
          else (
            bd (F_X12_isHad (σ.1 69 38) σ) (fun q29 s28 =>
              if q29 = 0 then (
                some ((0 : Int32), s28))
              else (
                some ((1 : Int32), s28))))))))
set_option maxHeartbeats 4000000 in
set_option maxRecDepth 100000 in
theorem p_X12_tale_149 {G : zG} {C : zC} {r : Int32} {τ : zSt} (hR : zR G C (some .int) (some (.int r)) τ) (x2 : Int32) (x4 : Int32) (σ : zSt) (h : F_X12_tale_149 x2 x4 σ = some (r, τ)) : zAW G 5 RX12 cX12_tale 5 C 149 [(0, .ref (zad G 69)), (2, .int x2), (4, .int x4)] [] σ := by
  unfold F_X12_tale_149 at h
  refine z_iload e_X12_tale_149 1 rfl ?_
  by_cases c23 : x2 = (0 : Int32)
  · rw [if_pos c23] at h
    refine z_tin (tgt := 184) e_X12_tale_150 (0 : Int32) c23 (34) (by decide +kernel) ?_
    refine z_iload e_X12_tale_184 2 rfl ?_
    cases h
    exact z_ireturn hR e_X12_tale_186
  · rw [if_neg c23] at h
    by_cases c24 : x2 = (1 : Int32)
    · rw [if_pos c24] at h
      refine z_tin (tgt := 187) e_X12_tale_150 (1 : Int32) c24 (37) (by decide +kernel) ?_
      refine z_aload e_X12_tale_187 0 rfl ?_
      refine z_geti gf_X12_332_69 e_X12_tale_188 ?_
      cases h
      exact z_ireturn hR e_X12_tale_191
    · rw [if_neg c24] at h
      by_cases c25 : x2 = (2 : Int32)
      · rw [if_pos c25] at h
        refine z_tin (tgt := 192) e_X12_tale_150 (2 : Int32) c25 (42) (by decide +kernel) ?_
        refine z_aload e_X12_tale_192 0 rfl ?_
        refine z_geti gf_X12_323_69 e_X12_tale_193 ?_
        cases h
        exact z_ireturn hR e_X12_tale_196
      · rw [if_neg c25] at h
        by_cases c26 : x2 = (3 : Int32)
        · rw [if_pos c26] at h
          refine z_tin (tgt := 197) e_X12_tale_150 (3 : Int32) c26 (47) (by decide +kernel) ?_
          refine z_aload e_X12_tale_197 0 rfl ?_
          refine z_geti gf_X12_326_69 e_X12_tale_198 ?_
          cases h
          exact z_ireturn hR e_X12_tale_201
        · rw [if_neg c26] at h
          by_cases c27 : x2 = (4 : Int32)
          · rw [if_pos c27] at h
            refine z_tin (tgt := 202) e_X12_tale_150 (4 : Int32) c27 (52) (by decide +kernel) ?_
            refine z_aload e_X12_tale_202 0 rfl ?_
            refine z_geti gf_X12_320_69 e_X12_tale_203 ?_
            cases h
            exact z_ireturn hR e_X12_tale_206
          · rw [if_neg c27] at h
            refine z_tout (tgt := 207) e_X12_tale_150 (by
              have := lv_neT c23 (show (0 : Int32).toInt = 0 by decide)
              have := lv_neT c24 (show (1 : Int32).toInt = 1 by decide)
              have := lv_neT c25 (show (2 : Int32).toInt = 2 by decide)
              have := lv_neT c26 (show (3 : Int32).toInt = 3 by decide)
              have := lv_neT c27 (show (4 : Int32).toInt = 4 by decide)
              omega) (by decide) ?_
            refine z_aload e_X12_tale_207 0 rfl ?_
            refine z_aload e_X12_tale_208 0 rfl ?_
            refine z_geti gf_X12_323_69 e_X12_tale_209 ?_
            obtain ⟨q29, s28, e30, h⟩ := bd_e h
            refine z_callVi (c0 := 69) (As := [.int (σ.1 69 38)]) (rest := []) lk_X12_366 ob_69 e_X12_tale_212 (m_X12_isHad G (σ.1 69 38) σ _ _ e30) (by decide) rfl (Nat.le_of_ble_eq_true rfl) ?_
            refine z_if_eq e_X12_tale_215 h (fun c31 h => ?_) (fun c31 h => ?_)
            · refine z_ic e_X12_tale_222 ?_
              cases h
              exact z_ireturn hR e_X12_tale_223
            · refine z_ic e_X12_tale_218 ?_
              refine z_goto e_X12_tale_219 ?_
              cases h
              exact z_ireturn hR e_X12_tale_223
noncomputable def F_X12_tale_110 (x2 : Int32) (w110 : (Int32 × zSt) → Option (Int32 × zSt)) (x4 : Int32) (σ : zSt) : Option (Int32 × zSt) :=
  if (σ.1 69 42) ≤ x4 then (
    F_X12_tale_149 x2 x4 σ)
  else (
    gd (vp_in x4 32) (
      gd (vp_in x4 32) (
        bd (F_X12_does (σ.1 90 x4.toNatClampNeg) (σ.1 91 x4.toNatClampNeg) σ) (fun q33 s32 =>
          if q33 = 0 then (
            F_X12_tale_149 x2 x4 s32)
          else (
            nm (x4 + (1 : Int32)) (fun v36 =>
              w110 (v36, s32)))))))
set_option maxHeartbeats 4000000 in
set_option maxRecDepth 100000 in
theorem b_X12_tale_110 {G : zG} {C : zC} {r : Int32} {τ : zSt} (hR : zR G C (some .int) (some (.int r)) τ) (x2 : Int32) (w110 : (Int32 × zSt) → Option (Int32 × zSt)) (hw110 : ∀ (x4 : Int32) (σ : zSt), w110 (x4, σ) = some (r, τ) → zAW G 5 RX12 cX12_tale 5 C 110 [(0, .ref (zad G 69)), (2, .int x2), (4, .int x4)] [] σ) (x4 : Int32) (σ : zSt) (h : F_X12_tale_110 x2 w110 x4 σ = some (r, τ)) : zAW G 5 RX12 cX12_tale 5 C 110 [(0, .ref (zad G 69)), (2, .int x2), (4, .int x4)] [] σ := by
  unfold F_X12_tale_110 at h
  refine z_iload e_X12_tale_110 2 rfl ?_
  refine z_aload e_X12_tale_112 0 rfl ?_
  refine z_geti gf_X12_338_69 e_X12_tale_113 ?_
  refine z_icmp_ge e_X12_tale_116 h (fun c22 h => ?_) (fun c22 h => ?_)
  · exact z_sub [0, 1, 2] rfl (p_X12_tale_149 hR x2 x4 σ h)
  · refine z_aload e_X12_tale_119 0 rfl ?_
    refine z_aload e_X12_tale_120 0 rfl ?_
    refine z_getr gf_X12_71_69 e_X12_tale_121 ?_
    refine z_iload e_X12_tale_124 2 rfl ?_
    refine z_iald sh_90 e_X12_tale_126 h (fun h => ?_)
    refine z_aload e_X12_tale_127 0 rfl ?_
    refine z_getr gf_X12_74_69 e_X12_tale_128 ?_
    refine z_iload e_X12_tale_131 2 rfl ?_
    refine z_iald sh_91 e_X12_tale_133 h (fun h => ?_)
    obtain ⟨q33, s32, e34, h⟩ := bd_e h
    refine z_callVi (c0 := 69) (As := [.int (σ.1 90 x4.toNatClampNeg), .int (σ.1 91 x4.toNatClampNeg)]) (rest := []) lk_X12_363 ob_69 e_X12_tale_134 (m_X12_does G (σ.1 90 x4.toNatClampNeg) (σ.1 91 x4.toNatClampNeg) σ _ _ e34) (by decide) rfl (Nat.le_of_ble_eq_true rfl) ?_
    refine z_if_eq e_X12_tale_137 h (fun c35 h => ?_) (fun c35 h => ?_)
    · exact z_sub [0, 1, 2] rfl (p_X12_tale_149 hR x2 x4 s32 h)
    · refine z_iload e_X12_tale_140 2 rfl ?_
      refine z_ic e_X12_tale_142 ?_
      refine z_iadd e_X12_tale_143 ?_
      refine z_nmI h (fun v36 h => ?_)
      refine z_istore e_X12_tale_144 (by decide) [(4, .int v36), (0, .ref (zad G 69)), (2, .int x2)] rfl ?_
      refine z_goto e_X12_tale_146 ?_
      exact z_sub [1, 2, 0] rfl (hw110 v36 s32 h)
noncomputable def F_X12_tale_110L (x2 : Int32) : ((Int32 × zSt) → Option (Int32 × zSt)) → (Int32 × zSt) → Option (Int32 × zSt) := fun w s => F_X12_tale_110 x2 w s.1 s.2
set_option maxRecDepth 100000 in
theorem l_X12_tale_110 {G : zG} {C : zC} {r : Int32} {τ : zSt} (hR : zR G C (some .int) (some (.int r)) τ) (x2 : Int32) : ∀ (N : Nat) (x4 : Int32) (σ : zSt), zfix (F_X12_tale_110L x2) N (x4, σ) = some (r, τ) → zAW G 5 RX12 cX12_tale 5 C 110 [(0, .ref (zad G 69)), (2, .int x2), (4, .int x4)] [] σ := by
  intro N
  induction N with
  | zero =>
    intro x4 σ h
    exact nomatch (show (none : Option (Int32 × zSt)) = some (r, τ) from h)
  | succ N ih =>
    intro x4 σ h
    exact b_X12_tale_110 hR x2 (zfix (F_X12_tale_110L x2) N) ih x4 σ h
noncomputable def F_X12_tale_89 (x2 : Int32) (x3 : Int32) (σ : zSt) : Option (Int32 × zSt) :=
  nm (zwr σ 69 14 (0 : Int32)) (fun s17 =>
    if x3 = 0 then (
      some ((s17.1 69 17), s17))
    else (
      bd (F_X12_begins s17) (fun _ s19 =>
        zfix (F_X12_tale_110L x2) zlim ((0 : Int32), s19))))
set_option maxHeartbeats 4000000 in
set_option maxRecDepth 100000 in
theorem p_X12_tale_89 {G : zG} {C : zC} {r : Int32} {τ : zSt} (hR : zR G C (some .int) (some (.int r)) τ) (x2 : Int32) (x3 : Int32) (σ : zSt) (h : F_X12_tale_89 x2 x3 σ = some (r, τ)) : zAW G 5 RX12 cX12_tale 5 C 89 [(0, .ref (zad G 69)), (2, .int x2), (3, .int x3)] [] σ := by
  unfold F_X12_tale_89 at h
  refine z_aload e_X12_tale_89 0 rfl ?_
  refine z_ic e_X12_tale_90 ?_
  refine z_puti pf_X12_186_69 e_X12_tale_91 h (fun s17 h => ?_)
  refine z_iload e_X12_tale_94 2 rfl ?_
  refine z_if_ne e_X12_tale_95 h (fun c18 h => ?_) (fun c18 h => ?_)
  · refine z_aload e_X12_tale_98 0 rfl ?_
    refine z_geti gf_X12_203_69 e_X12_tale_99 ?_
    cases h
    exact z_ireturn hR e_X12_tale_102
  · refine z_aload e_X12_tale_103 0 rfl ?_
    obtain ⟨q20, s19, e21, h⟩ := bd_e h
    refine z_callVv (c0 := 69) (As := []) (rest := []) lk_X12_360 ob_69 e_X12_tale_104 (m_X12_begins G s17 _ _ e21) (by decide) rfl (Nat.le_of_ble_eq_true rfl) ?_
    refine z_ic e_X12_tale_107 ?_
    refine z_istore e_X12_tale_108 (by decide) [(4, .int (0 : Int32)), (0, .ref (zad G 69)), (2, .int x2), (3, .int x3)] rfl ?_
    exact z_sub [1, 2, 0] rfl (l_X12_tale_110 hR x2 zlim (0 : Int32) s19 h)
noncomputable def F_X12_tale_85 (w49 : (Int32 × zSt) → Option (Int32 × zSt)) (x2 : Int32) (t0 : Int32) (σ : zSt) : Option (Int32 × zSt) :=
  w49 (t0, σ)
set_option maxHeartbeats 4000000 in
set_option maxRecDepth 100000 in
theorem p_X12_tale_85 {G : zG} {C : zC} {r : Int32} {τ : zSt} (hR : zR G C (some .int) (some (.int r)) τ) (w49 : (Int32 × zSt) → Option (Int32 × zSt)) (x2 : Int32) (t0 : Int32) (hw49 : ∀ (x3 : Int32) (σ : zSt), w49 (x3, σ) = some (r, τ) → zAW G 5 RX12 cX12_tale 5 C 49 [(0, .ref (zad G 69)), (2, .int x2), (3, .int x3)] [] σ) (σ : zSt) (h : F_X12_tale_85 w49 x2 t0 σ = some (r, τ)) : zAW G 5 RX12 cX12_tale 5 C 85 [(0, .ref (zad G 69)), (2, .int x2)] [.int t0] σ := by
  unfold F_X12_tale_85 at h
  refine z_istore e_X12_tale_85 (by decide) [(3, .int t0), (0, .ref (zad G 69)), (2, .int x2)] rfl ?_
  refine z_goto e_X12_tale_86 ?_
  exact z_sub [1, 2, 0] rfl (hw49 t0 σ h)
noncomputable def F_X12_tale_84 (w49 : (Int32 × zSt) → Option (Int32 × zSt)) (x2 : Int32) (σ : zSt) : Option (Int32 × zSt) :=
  F_X12_tale_85 w49 x2 (0 : Int32) σ
set_option maxHeartbeats 4000000 in
set_option maxRecDepth 100000 in
theorem p_X12_tale_84 {G : zG} {C : zC} {r : Int32} {τ : zSt} (hR : zR G C (some .int) (some (.int r)) τ) (w49 : (Int32 × zSt) → Option (Int32 × zSt)) (x2 : Int32) (hw49 : ∀ (x3 : Int32) (σ : zSt), w49 (x3, σ) = some (r, τ) → zAW G 5 RX12 cX12_tale 5 C 49 [(0, .ref (zad G 69)), (2, .int x2), (3, .int x3)] [] σ) (σ : zSt) (h : F_X12_tale_84 w49 x2 σ = some (r, τ)) : zAW G 5 RX12 cX12_tale 5 C 84 [(0, .ref (zad G 69)), (2, .int x2)] [] σ := by
  unfold F_X12_tale_84 at h
  refine z_ic e_X12_tale_84 ?_
  exact z_sub [0, 1] rfl (p_X12_tale_85 hR w49 x2 (0 : Int32) hw49 σ h)
noncomputable def F_X12_tale_49 (x2 : Int32) (w49 : (Int32 × zSt) → Option (Int32 × zSt)) (x3 : Int32) (σ : zSt) : Option (Int32 × zSt) :=
  if x3 = 0 then (
    F_X12_tale_89 x2 x3 σ)
  else (
    if (σ.1 69 16) ≤ (σ.1 69 15) then (
      F_X12_tale_89 x2 x3 σ)
    else (
      bd (F_X12_takes (44 : Int32) σ) (fun q39 s38 =>
        if q39 = 0 then (
          F_X12_tale_84 w49 x2 s38)
        else (
          bd (F_X12_readsAct s38) (fun q43 s42 =>
            nm (if q43 = 0 then (0 : Int32) else (1 : Int32)) (fun v45 =>
              w49 (v45, s42)))))))
set_option maxHeartbeats 4000000 in
set_option maxRecDepth 100000 in
theorem b_X12_tale_49 {G : zG} {C : zC} {r : Int32} {τ : zSt} (hR : zR G C (some .int) (some (.int r)) τ) (x2 : Int32) (w49 : (Int32 × zSt) → Option (Int32 × zSt)) (hw49 : ∀ (x3 : Int32) (σ : zSt), w49 (x3, σ) = some (r, τ) → zAW G 5 RX12 cX12_tale 5 C 49 [(0, .ref (zad G 69)), (2, .int x2), (3, .int x3)] [] σ) (x3 : Int32) (σ : zSt) (h : F_X12_tale_49 x2 w49 x3 σ = some (r, τ)) : zAW G 5 RX12 cX12_tale 5 C 49 [(0, .ref (zad G 69)), (2, .int x2), (3, .int x3)] [] σ := by
  unfold F_X12_tale_49 at h
  refine z_iload e_X12_tale_49 2 rfl ?_
  refine z_if_eq e_X12_tale_50 h (fun c16 h => ?_) (fun c16 h => ?_)
  · exact z_sub [0, 1, 2] rfl (p_X12_tale_89 hR x2 x3 σ h)
  · refine z_aload e_X12_tale_53 0 rfl ?_
    refine z_geti gf_X12_193_69 e_X12_tale_54 ?_
    refine z_aload e_X12_tale_57 0 rfl ?_
    refine z_geti gf_X12_196_69 e_X12_tale_58 ?_
    refine z_icmp_ge e_X12_tale_61 h (fun c37 h => ?_) (fun c37 h => ?_)
    · exact z_sub [0, 1, 2] rfl (p_X12_tale_89 hR x2 x3 σ h)
    · refine z_aload e_X12_tale_64 0 rfl ?_
      refine z_ic e_X12_tale_65 ?_
      obtain ⟨q39, s38, e40, h⟩ := bd_e h
      refine z_callVi (c0 := 69) (As := [.int (44 : Int32)]) (rest := []) lk_X12_279 ob_69 e_X12_tale_67 (m_X12_takes G (44 : Int32) σ _ _ e40) (by decide) rfl (Nat.le_of_ble_eq_true rfl) ?_
      refine z_if_eq e_X12_tale_70 h (fun c41 h => ?_) (fun c41 h => ?_)
      · exact z_sub [0, 1] rfl (p_X12_tale_84 hR w49 x2 hw49 s38 h)
      · refine z_aload e_X12_tale_73 0 rfl ?_
        obtain ⟨q43, s42, e44, h⟩ := bd_e h
        refine z_callVi (c0 := 69) (As := []) (rest := []) lk_X12_357 ob_69 e_X12_tale_74 (m_X12_readsAct G s38 _ _ e44) (by decide) rfl (Nat.le_of_ble_eq_true rfl) ?_
        obtain ⟨v45, ev45, h⟩ := nm_i h
        have jv45 : zAW G 5 RX12 cX12_tale 5 C 85 [(0, .ref (zad G 69)), (2, .int x2)] [.int v45] s42 := by
          refine z_istore e_X12_tale_85 (by decide) [(3, .int v45), (0, .ref (zad G 69)), (2, .int x2)] rfl ?_
          refine z_goto e_X12_tale_86 ?_
          exact z_sub [1, 2, 0] rfl (hw49 v45 s42 h)
        refine y_if_eq e_X12_tale_77 (fun c46 => ?_) (fun c46 => ?_)
        · refine z_ic e_X12_tale_84 ?_
          rw [if_pos c46] at ev45
          subst ev45
          exact z_sub [0, 1] rfl jv45
        · refine z_ic e_X12_tale_80 ?_
          refine z_goto e_X12_tale_81 ?_
          rw [if_neg c46] at ev45
          subst ev45
          exact z_sub [0, 1] rfl jv45
noncomputable def F_X12_tale_49L (x2 : Int32) : ((Int32 × zSt) → Option (Int32 × zSt)) → (Int32 × zSt) → Option (Int32 × zSt) := fun w s => F_X12_tale_49 x2 w s.1 s.2
set_option maxRecDepth 100000 in
theorem l_X12_tale_49 {G : zG} {C : zC} {r : Int32} {τ : zSt} (hR : zR G C (some .int) (some (.int r)) τ) (x2 : Int32) : ∀ (N : Nat) (x3 : Int32) (σ : zSt), zfix (F_X12_tale_49L x2) N (x3, σ) = some (r, τ) → zAW G 5 RX12 cX12_tale 5 C 49 [(0, .ref (zad G 69)), (2, .int x2), (3, .int x3)] [] σ := by
  intro N
  induction N with
  | zero =>
    intro x3 σ h
    exact nomatch (show (none : Option (Int32 × zSt)) = some (r, τ) from h)
  | succ N ih =>
    intro x3 σ h
    exact b_X12_tale_49 hR x2 (zfix (F_X12_tale_49L x2) N) ih x3 σ h
noncomputable def F_X12_tale_0 (x1 : Int32) (x2 : Int32) (σ : zSt) : Option (Int32 × zSt) :=
  bd (F_X12_in x1 (1 : Int32) (100 : Int32) σ) (fun q2 s1 =>
    if q2 = 0 then (
      some ((-1 : Int32), s1))
    else (
      bd (F_X12_in x2 (0 : Int32) (5 : Int32) s1) (fun q6 s5 =>
        if q6 = 0 then (
          some ((-1 : Int32), s5))
        else (
          if x1 ≤ (s5.1 69 14) then (
            nm (zwr s5 69 15 (0 : Int32)) (fun s10 =>
              nm (zwr s10 69 16 x1) (fun s11 =>
                nm (zwr s11 69 42 (0 : Int32)) (fun s12 =>
                  bd (F_X12_readsAct s12) (fun q14 s13 =>
                    zfix (F_X12_tale_49L x2) zlim (q14, s13))))))
          else (
            some ((-1 : Int32), s5))))))
set_option maxHeartbeats 4000000 in
set_option maxRecDepth 100000 in
theorem p_X12_tale_0 {G : zG} {C : zC} {r : Int32} {τ : zSt} (hR : zR G C (some .int) (some (.int r)) τ) (x1 : Int32) (x2 : Int32) (σ : zSt) (h : F_X12_tale_0 x1 x2 σ = some (r, τ)) : zAW G 5 RX12 cX12_tale 5 C 0 [(0, .ref (zad G 69)), (1, .int x1), (2, .int x2)] [] σ := by
  unfold F_X12_tale_0 at h
  refine z_iload e_X12_tale_0 1 rfl ?_
  refine z_ic e_X12_tale_1 ?_
  refine z_ic e_X12_tale_2 ?_
  obtain ⟨q2, s1, e3, h⟩ := bd_e h
  refine z_callSi (As := [.int x1, .int (1 : Int32), .int (100 : Int32)]) (rest := []) lk_X12_163 e_X12_tale_4 (m_X12_in G x1 (1 : Int32) (100 : Int32) σ _ _ e3) (by decide) rfl (Nat.le_of_ble_eq_true rfl) ?_
  refine z_if_eq e_X12_tale_7 h (fun c4 h => ?_) (fun c4 h => ?_)
  · refine z_ic e_X12_tale_27 ?_
    cases h
    exact z_ireturn hR e_X12_tale_28
  · refine z_iload e_X12_tale_10 2 rfl ?_
    refine z_ic e_X12_tale_11 ?_
    refine z_ic e_X12_tale_12 ?_
    obtain ⟨q6, s5, e7, h⟩ := bd_e h
    refine z_callSi (As := [.int x2, .int (0 : Int32), .int (5 : Int32)]) (rest := []) lk_X12_163 e_X12_tale_13 (m_X12_in G x2 (0 : Int32) (5 : Int32) s1 _ _ e7) (by decide) rfl (Nat.le_of_ble_eq_true rfl) ?_
    refine z_if_eq e_X12_tale_16 h (fun c8 h => ?_) (fun c8 h => ?_)
    · refine z_ic e_X12_tale_27 ?_
      cases h
      exact z_ireturn hR e_X12_tale_28
    · refine z_iload e_X12_tale_19 1 rfl ?_
      refine z_aload e_X12_tale_20 0 rfl ?_
      refine z_geti gf_X12_186_69 e_X12_tale_21 ?_
      refine z_icmp_le e_X12_tale_24 h (fun c9 h => ?_) (fun c9 h => ?_)
      · refine z_aload e_X12_tale_29 0 rfl ?_
        refine z_ic e_X12_tale_30 ?_
        refine z_puti pf_X12_193_69 e_X12_tale_31 h (fun s10 h => ?_)
        refine z_aload e_X12_tale_34 0 rfl ?_
        refine z_iload e_X12_tale_35 1 rfl ?_
        refine z_puti pf_X12_196_69 e_X12_tale_36 h (fun s11 h => ?_)
        refine z_aload e_X12_tale_39 0 rfl ?_
        refine z_ic e_X12_tale_40 ?_
        refine z_puti pf_X12_338_69 e_X12_tale_41 h (fun s12 h => ?_)
        refine z_aload e_X12_tale_44 0 rfl ?_
        obtain ⟨q14, s13, e15, h⟩ := bd_e h
        refine z_callVi (c0 := 69) (As := []) (rest := []) lk_X12_357 ob_69 e_X12_tale_45 (m_X12_readsAct G s12 _ _ e15) (by decide) rfl (Nat.le_of_ble_eq_true rfl) ?_
        refine z_istore e_X12_tale_48 (by decide) [(3, .int q14), (0, .ref (zad G 69)), (1, .int x1), (2, .int x2)] rfl ?_
        exact z_sub [1, 3, 0] rfl (l_X12_tale_49 hR x2 zlim q14 s13 h)
      · refine z_ic e_X12_tale_27 ?_
        cases h
        exact z_ireturn hR e_X12_tale_28
noncomputable def F_X12_tale (x1 : Int32) (x2 : Int32) (σ : zSt) : Option (Int32 × zSt) := F_X12_tale_0 x1 x2 σ
set_option maxRecDepth 100000 in
theorem m_X12_tale (G : zG) (x1 : Int32) (x2 : Int32) (σ : zSt) (q : Int32) (τ : zSt) (h : F_X12_tale x1 x2 σ = some (q, τ)) : zM G 5 yX12_tale cX12_tale 5 (some .int) [.ref (zad G 69), .int x1, .int x2] σ (some (.int q)) τ := by
  unfold F_X12_tale at h
  refine zM.of (own := RX12) (by decide +kernel) rfl (Nat.le_of_ble_eq_true rfl) (fun C hR => ?_)
  exact z_sub [0, 1, 2] rfl (p_X12_tale_0 hR x1 x2 σ h)
noncomputable def F_X11_heartIsTold_0 (σ : zSt) : Option (Int32 × zSt) :=
  bd (F_X10_isTold (σ.1 1 8) σ) (fun q2 s1 =>
    gd (q2 = 0 ∨ q2 = 1) (some (q2, s1)))
set_option maxHeartbeats 4000000 in
set_option maxRecDepth 100000 in
theorem p_X11_heartIsTold_0 {G : zG} {C : zC} {r : Int32} {τ : zSt} (hR : zR G C (some .boolean) (some (.int r)) τ)  (σ : zSt) (h : F_X11_heartIsTold_0 σ = some (r, τ)) : zAW G 3 RX11 cX11_heartIsTold 1 C 0 [(0, .ref (zad G 0))] [] σ := by
  unfold F_X11_heartIsTold_0 at h
  refine z_aload e_X11_heartIsTold_0 0 rfl ?_
  refine z_getr gf_X11_23_0 e_X11_heartIsTold_1 ?_
  refine z_aload e_X11_heartIsTold_4 0 rfl ?_
  refine z_getr gf_X11_23_0 e_X11_heartIsTold_5 ?_
  refine z_geti gf_X11_130_1 e_X11_heartIsTold_8 ?_
  obtain ⟨q2, s1, e3, h⟩ := bd_e h
  refine z_callVi (c0 := 1) (As := [.int (σ.1 1 8)]) (rest := []) lk_X11_112 ob_1 e_X11_heartIsTold_11 (m_X10_isTold G (σ.1 1 8) σ _ _ e3) (by decide) rfl (Nat.le_of_ble_eq_true rfl) ?_
  obtain ⟨hb4, h⟩ := gd_e h
  cases h
  exact z_zreturn hR e_X11_heartIsTold_14 hb4
noncomputable def F_X11_heartIsTold (σ : zSt) : Option (Int32 × zSt) := F_X11_heartIsTold_0  σ
set_option maxRecDepth 100000 in
theorem m_X11_heartIsTold (G : zG) (σ : zSt) (q : Int32) (τ : zSt) (h : F_X11_heartIsTold  σ = some (q, τ)) : zM G 3 yX11_heartIsTold cX11_heartIsTold 1 (some .boolean) [.ref (zad G 0)] σ (some (.int q)) τ := by
  unfold F_X11_heartIsTold at h
  refine zM.of (own := RX11) (by decide +kernel) rfl (Nat.le_of_ble_eq_true rfl) (fun C hR => ?_)
  exact z_sub [0] rfl (p_X11_heartIsTold_0 hR  σ h)
noncomputable def F_X5_goalPlaces_0 (σ : zSt) : Option (Int32 × zSt) :=
  some ((σ.1 17 6), σ)
set_option maxHeartbeats 4000000 in
set_option maxRecDepth 100000 in
theorem p_X5_goalPlaces_0 {G : zG} {C : zC} {r : Int32} {τ : zSt} (hR : zR G C (some .int) (some (.int r)) τ)  (σ : zSt) (h : F_X5_goalPlaces_0 σ = some (r, τ)) : zAW G 1 RX5 cX5_goalPlaces 1 C 0 [(0, .ref (zad G 17))] [] σ := by
  unfold F_X5_goalPlaces_0 at h
  refine z_aload e_X5_goalPlaces_0 0 rfl ?_
  refine z_geti gf_X5_69_17 e_X5_goalPlaces_1 ?_
  cases h
  exact z_ireturn hR e_X5_goalPlaces_4
noncomputable def F_X5_goalPlaces (σ : zSt) : Option (Int32 × zSt) := F_X5_goalPlaces_0  σ
set_option maxRecDepth 100000 in
theorem m_X5_goalPlaces (G : zG) (σ : zSt) (q : Int32) (τ : zSt) (h : F_X5_goalPlaces  σ = some (q, τ)) : zM G 1 yX5_goalPlaces cX5_goalPlaces 1 (some .int) [.ref (zad G 17)] σ (some (.int q)) τ := by
  unfold F_X5_goalPlaces at h
  refine zM.of (own := RX5) (by decide +kernel) rfl (Nat.le_of_ble_eq_true rfl) (fun C hR => ?_)
  exact z_sub [0] rfl (p_X5_goalPlaces_0 hR  σ h)
noncomputable def F_X5_mouthOf_0 (x1 : Int32) (σ : zSt) : Option (Int32 × zSt) :=
  bd (F_X11_isBelow x1 (3 : Int32) σ) (fun q2 s1 =>
    if q2 = 0 then (
      some ((0 : Int32), s1))
    else (
      gd (vp_in x1 3) (
        some ((s1.1 22 x1.toNatClampNeg), s1))))
set_option maxHeartbeats 4000000 in
set_option maxRecDepth 100000 in
theorem p_X5_mouthOf_0 {G : zG} {C : zC} {r : Int32} {τ : zSt} (hR : zR G C (some .int) (some (.int r)) τ) (x1 : Int32) (σ : zSt) (h : F_X5_mouthOf_0 x1 σ = some (r, τ)) : zAW G 2 RX5 cX5_mouthOf 2 C 0 [(0, .ref (zad G 17)), (1, .int x1)] [] σ := by
  unfold F_X5_mouthOf_0 at h
  refine z_iload e_X5_mouthOf_0 1 rfl ?_
  refine z_ic e_X5_mouthOf_1 ?_
  obtain ⟨q2, s1, e3, h⟩ := bd_e h
  refine z_callNi (As := [.int x1, .int (3 : Int32)]) (rest := []) lk_X5_34 e_X5_mouthOf_2 (m_X11_isBelow G x1 (3 : Int32) σ _ _ e3) (by decide) rfl (Nat.le_of_ble_eq_true rfl) ?_
  refine z_if_eq e_X5_mouthOf_5 h (fun c4 h => ?_) (fun c4 h => ?_)
  · refine z_ic e_X5_mouthOf_17 ?_
    cases h
    exact z_ireturn hR e_X5_mouthOf_18
  · refine z_aload e_X5_mouthOf_8 0 rfl ?_
    refine z_getr gf_X5_24_17 e_X5_mouthOf_9 ?_
    refine z_iload e_X5_mouthOf_12 1 rfl ?_
    refine z_iald sh_22 e_X5_mouthOf_13 h (fun h => ?_)
    refine z_goto e_X5_mouthOf_14 ?_
    cases h
    exact z_ireturn hR e_X5_mouthOf_18
noncomputable def F_X5_mouthOf (x1 : Int32) (σ : zSt) : Option (Int32 × zSt) := F_X5_mouthOf_0 x1 σ
set_option maxRecDepth 100000 in
theorem m_X5_mouthOf (G : zG) (x1 : Int32) (σ : zSt) (q : Int32) (τ : zSt) (h : F_X5_mouthOf x1 σ = some (q, τ)) : zM G 2 yX5_mouthOf cX5_mouthOf 2 (some .int) [.ref (zad G 17), .int x1] σ (some (.int q)) τ := by
  unfold F_X5_mouthOf at h
  refine zM.of (own := RX5) (by decide +kernel) rfl (Nat.le_of_ble_eq_true rfl) (fun C hR => ?_)
  exact z_sub [0, 1] rfl (p_X5_mouthOf_0 hR x1 σ h)
noncomputable def F_X5_whereIs_0 (x1 : Int32) (σ : zSt) : Option (Int32 × zSt) :=
  bd (F_X11_isBelow x1 (8 : Int32) σ) (fun q2 s1 =>
    if q2 = 0 then (
      some ((-1 : Int32), s1))
    else (
      gd (vp_in x1 8) (
        some ((s1.1 21 x1.toNatClampNeg), s1))))
set_option maxHeartbeats 4000000 in
set_option maxRecDepth 100000 in
theorem p_X5_whereIs_0 {G : zG} {C : zC} {r : Int32} {τ : zSt} (hR : zR G C (some .int) (some (.int r)) τ) (x1 : Int32) (σ : zSt) (h : F_X5_whereIs_0 x1 σ = some (r, τ)) : zAW G 2 RX5 cX5_whereIs 2 C 0 [(0, .ref (zad G 17)), (1, .int x1)] [] σ := by
  unfold F_X5_whereIs_0 at h
  refine z_iload e_X5_whereIs_0 1 rfl ?_
  refine z_ic e_X5_whereIs_1 ?_
  obtain ⟨q2, s1, e3, h⟩ := bd_e h
  refine z_callNi (As := [.int x1, .int (8 : Int32)]) (rest := []) lk_X5_34 e_X5_whereIs_3 (m_X11_isBelow G x1 (8 : Int32) σ _ _ e3) (by decide) rfl (Nat.le_of_ble_eq_true rfl) ?_
  refine z_if_eq e_X5_whereIs_6 h (fun c4 h => ?_) (fun c4 h => ?_)
  · refine z_ic e_X5_whereIs_18 ?_
    cases h
    exact z_ireturn hR e_X5_whereIs_19
  · refine z_aload e_X5_whereIs_9 0 rfl ?_
    refine z_getr gf_X5_21_17 e_X5_whereIs_10 ?_
    refine z_iload e_X5_whereIs_13 1 rfl ?_
    refine z_iald sh_21 e_X5_whereIs_14 h (fun h => ?_)
    refine z_goto e_X5_whereIs_15 ?_
    cases h
    exact z_ireturn hR e_X5_whereIs_19
noncomputable def F_X5_whereIs (x1 : Int32) (σ : zSt) : Option (Int32 × zSt) := F_X5_whereIs_0 x1 σ
set_option maxRecDepth 100000 in
theorem m_X5_whereIs (G : zG) (x1 : Int32) (σ : zSt) (q : Int32) (τ : zSt) (h : F_X5_whereIs x1 σ = some (q, τ)) : zM G 2 yX5_whereIs cX5_whereIs 2 (some .int) [.ref (zad G 17), .int x1] σ (some (.int q)) τ := by
  unfold F_X5_whereIs at h
  refine zM.of (own := RX5) (by decide +kernel) rfl (Nat.le_of_ble_eq_true rfl) (fun C hR => ?_)
  exact z_sub [0, 1] rfl (p_X5_whereIs_0 hR x1 σ h)
noncomputable def F_X5_aroundOf_0 (x1 : Int32) (σ : zSt) : Option (Int32 × zSt) :=
  bd (F_X11_isBelow x1 (8 : Int32) σ) (fun q2 s1 =>
    if q2 = 0 then (
      some ((0 : Int32), s1))
    else (
      gd (vp_in x1 8) (
        some ((s1.1 20 x1.toNatClampNeg), s1))))
set_option maxHeartbeats 4000000 in
set_option maxRecDepth 100000 in
theorem p_X5_aroundOf_0 {G : zG} {C : zC} {r : Int32} {τ : zSt} (hR : zR G C (some .int) (some (.int r)) τ) (x1 : Int32) (σ : zSt) (h : F_X5_aroundOf_0 x1 σ = some (r, τ)) : zAW G 2 RX5 cX5_aroundOf 2 C 0 [(0, .ref (zad G 17)), (1, .int x1)] [] σ := by
  unfold F_X5_aroundOf_0 at h
  refine z_iload e_X5_aroundOf_0 1 rfl ?_
  refine z_ic e_X5_aroundOf_1 ?_
  obtain ⟨q2, s1, e3, h⟩ := bd_e h
  refine z_callNi (As := [.int x1, .int (8 : Int32)]) (rest := []) lk_X5_34 e_X5_aroundOf_3 (m_X11_isBelow G x1 (8 : Int32) σ _ _ e3) (by decide) rfl (Nat.le_of_ble_eq_true rfl) ?_
  refine z_if_eq e_X5_aroundOf_6 h (fun c4 h => ?_) (fun c4 h => ?_)
  · refine z_ic e_X5_aroundOf_18 ?_
    cases h
    exact z_ireturn hR e_X5_aroundOf_19
  · refine z_aload e_X5_aroundOf_9 0 rfl ?_
    refine z_getr gf_X5_18_17 e_X5_aroundOf_10 ?_
    refine z_iload e_X5_aroundOf_13 1 rfl ?_
    refine z_iald sh_20 e_X5_aroundOf_14 h (fun h => ?_)
    refine z_goto e_X5_aroundOf_15 ?_
    cases h
    exact z_ireturn hR e_X5_aroundOf_19
noncomputable def F_X5_aroundOf (x1 : Int32) (σ : zSt) : Option (Int32 × zSt) := F_X5_aroundOf_0 x1 σ
set_option maxRecDepth 100000 in
theorem m_X5_aroundOf (G : zG) (x1 : Int32) (σ : zSt) (q : Int32) (τ : zSt) (h : F_X5_aroundOf x1 σ = some (q, τ)) : zM G 2 yX5_aroundOf cX5_aroundOf 2 (some .int) [.ref (zad G 17), .int x1] σ (some (.int q)) τ := by
  unfold F_X5_aroundOf at h
  refine zM.of (own := RX5) (by decide +kernel) rfl (Nat.le_of_ble_eq_true rfl) (fun C hR => ?_)
  exact z_sub [0, 1] rfl (p_X5_aroundOf_0 hR x1 σ h)
noncomputable def F_X5_lockOf_0 (x1 : Int32) (σ : zSt) : Option (Int32 × zSt) :=
  bd (F_X11_isBelow x1 (8 : Int32) σ) (fun q2 s1 =>
    if q2 = 0 then (
      some ((-1 : Int32), s1))
    else (
      gd (vp_in x1 8) (
        some ((s1.1 5 x1.toNatClampNeg), s1))))
set_option maxHeartbeats 4000000 in
set_option maxRecDepth 100000 in
theorem p_X5_lockOf_0 {G : zG} {C : zC} {r : Int32} {τ : zSt} (hR : zR G C (some .int) (some (.int r)) τ) (x1 : Int32) (σ : zSt) (h : F_X5_lockOf_0 x1 σ = some (r, τ)) : zAW G 2 RX5 cX5_lockOf 2 C 0 [(0, .ref (zad G 17)), (1, .int x1)] [] σ := by
  unfold F_X5_lockOf_0 at h
  refine z_iload e_X5_lockOf_0 1 rfl ?_
  refine z_ic e_X5_lockOf_1 ?_
  obtain ⟨q2, s1, e3, h⟩ := bd_e h
  refine z_callNi (As := [.int x1, .int (8 : Int32)]) (rest := []) lk_X5_34 e_X5_lockOf_3 (m_X11_isBelow G x1 (8 : Int32) σ _ _ e3) (by decide) rfl (Nat.le_of_ble_eq_true rfl) ?_
  refine z_if_eq e_X5_lockOf_6 h (fun c4 h => ?_) (fun c4 h => ?_)
  · refine z_ic e_X5_lockOf_21 ?_
    cases h
    exact z_ireturn hR e_X5_lockOf_22
  · refine z_aload e_X5_lockOf_9 0 rfl ?_
    refine z_getr gf_X5_30_17 e_X5_lockOf_10 ?_
    refine z_getr gf_X5_79_1 e_X5_lockOf_13 ?_
    refine z_iload e_X5_lockOf_16 1 rfl ?_
    refine z_iald sh_5 e_X5_lockOf_17 h (fun h => ?_)
    refine z_goto e_X5_lockOf_18 ?_
    cases h
    exact z_ireturn hR e_X5_lockOf_22
noncomputable def F_X5_lockOf (x1 : Int32) (σ : zSt) : Option (Int32 × zSt) := F_X5_lockOf_0 x1 σ
set_option maxRecDepth 100000 in
theorem m_X5_lockOf (G : zG) (x1 : Int32) (σ : zSt) (q : Int32) (τ : zSt) (h : F_X5_lockOf x1 σ = some (q, τ)) : zM G 2 yX5_lockOf cX5_lockOf 2 (some .int) [.ref (zad G 17), .int x1] σ (some (.int q)) τ := by
  unfold F_X5_lockOf at h
  refine zM.of (own := RX5) (by decide +kernel) rfl (Nat.le_of_ble_eq_true rfl) (fun C hR => ?_)
  exact z_sub [0, 1] rfl (p_X5_lockOf_0 hR x1 σ h)
noncomputable def F_X4_findUseful_210 (x1 : Int32) (w210 : (Int32 × zSt) → Option (Unit × zSt)) (x2 : Int32) (σ : zSt) : Option (Unit × zSt) :=
  if (3 : Int32) ≤ x2 then (
    some ((), σ))
  else (
    bd (F_X5_mouthOf x2 σ) (fun q14 s13 =>
      nm (if (q14 &&& x1) = 0 then (0 : Int32) else ((1 : Int32) <<< (x2 &&& 31))) (fun v16 =>
        nm (zwr s13 52 5 ((σ.1 52 5) ||| v16)) (fun s17 =>
          nm (x2 + (1 : Int32)) (fun v18 =>
            w210 (v18, s17))))))
set_option maxHeartbeats 4000000 in
set_option maxRecDepth 100000 in
theorem b_X4_findUseful_210 {G : zG} {C : zC} {r : Unit} {τ : zSt} (hR : zR G C none none τ) (x1 : Int32) (w210 : (Int32 × zSt) → Option (Unit × zSt)) (hw210 : ∀ (x2 : Int32) (σ : zSt), w210 (x2, σ) = some (r, τ) → zAW G 3 RX4 cX4_findUseful 6 C 210 [(0, .ref (zad G 47)), (1, .int x1), (2, .int x2)] [] σ) (x2 : Int32) (σ : zSt) (h : F_X4_findUseful_210 x1 w210 x2 σ = some (r, τ)) : zAW G 3 RX4 cX4_findUseful 6 C 210 [(0, .ref (zad G 47)), (1, .int x1), (2, .int x2)] [] σ := by
  unfold F_X4_findUseful_210 at h
  refine z_iload e_X4_findUseful_210 2 rfl ?_
  refine z_ic e_X4_findUseful_211 ?_
  refine z_icmp_ge e_X4_findUseful_212 h (fun c12 h => ?_) (fun c12 h => ?_)
  · cases h
    exact z_vreturn hR e_X4_findUseful_250
  · refine z_aload e_X4_findUseful_215 0 rfl ?_
    refine z_getr gf_X4_26_47 e_X4_findUseful_216 ?_
    refine z_ic e_X4_findUseful_219 ?_
    refine z_dup2 e_X4_findUseful_220 rfl rfl ?_
    refine z_iald0 (j := 5) sh_52 e_X4_findUseful_221 (by unfold vp_in; decide) rfl ?_
    refine z_aload e_X4_findUseful_222 0 rfl ?_
    refine z_getr gf_X4_41_47 e_X4_findUseful_223 ?_
    refine z_iload e_X4_findUseful_226 2 rfl ?_
    obtain ⟨q14, s13, e15, h⟩ := bd_e h
    refine z_callVi (c0 := 17) (As := [.int x2]) (rest := [.int (σ.1 52 5), .int (5 : Int32), .ref (zad G 52)]) lk_X4_88 ob_17 e_X4_findUseful_227 (m_X5_mouthOf G x2 σ _ _ e15) (by decide) rfl (Nat.le_of_ble_eq_true rfl) ?_
    refine z_iload e_X4_findUseful_230 1 rfl ?_
    refine z_iand e_X4_findUseful_231 ?_
    obtain ⟨v16, ev16, h⟩ := nm_i h
    have jv16 : zAW G 3 RX4 cX4_findUseful 6 C 242 [(0, .ref (zad G 47)), (1, .int x1), (2, .int x2)] [.int v16, .int (σ.1 52 5), .int (5 : Int32), .ref (zad G 52)] s13 := by
      refine z_ior e_X4_findUseful_242 ?_
      refine z_iast0 (j := 5) sh_52 e_X4_findUseful_243 (by unfold vp_in; decide) rfl h (fun s17 h => ?_)
      refine z_iinc e_X4_findUseful_244 2 rfl (by decide) (by decide) h (fun y => [(2, .int y), (0, .ref (zad G 47)), (1, .int x1)]) (fun _ => rfl) (fun v18 h => ?_)
      refine z_goto e_X4_findUseful_247 ?_
      exact z_sub [1, 2, 0] rfl (hw210 v18 s17 h)
    refine y_if_eq e_X4_findUseful_232 (fun c19 => ?_) (fun c19 => ?_)
    · refine z_ic e_X4_findUseful_241 ?_
      rw [if_pos c19] at ev16
      subst ev16
      exact z_sub [0, 1, 2] rfl jv16
    · refine z_ic e_X4_findUseful_235 ?_
      refine z_iload e_X4_findUseful_236 2 rfl ?_
      refine z_ishl e_X4_findUseful_237 ?_
      refine z_goto e_X4_findUseful_238 ?_
      rw [if_neg c19] at ev16
      subst ev16
      exact z_sub [0, 1, 2] rfl jv16
noncomputable def F_X4_findUseful_210L (x1 : Int32) : ((Int32 × zSt) → Option (Unit × zSt)) → (Int32 × zSt) → Option (Unit × zSt) := fun w s => F_X4_findUseful_210 x1 w s.1 s.2
set_option maxRecDepth 100000 in
theorem l_X4_findUseful_210 {G : zG} {C : zC} {r : Unit} {τ : zSt} (hR : zR G C none none τ) (x1 : Int32) : ∀ (N : Nat) (x2 : Int32) (σ : zSt), zfix (F_X4_findUseful_210L x1) N (x2, σ) = some (r, τ) → zAW G 3 RX4 cX4_findUseful 6 C 210 [(0, .ref (zad G 47)), (1, .int x1), (2, .int x2)] [] σ := by
  intro N
  induction N with
  | zero =>
    intro x2 σ h
    exact nomatch (show (none : Option (Unit × zSt)) = some (r, τ) from h)
  | succ N ih =>
    intro x2 σ h
    exact b_X4_findUseful_210 hR x1 (zfix (F_X4_findUseful_210L x1) N) ih x2 σ h
noncomputable def F_X4_findUseful_155 (x1 : Int32) (σ : zSt) : Option (Unit × zSt) :=
  nm (zwr σ 52 0 (15 : Int32)) (fun s6 =>
    nm (zwr s6 52 1 (15 : Int32)) (fun s7 =>
      nm (zwr s7 52 2 (s7.1 47 6)) (fun s8 =>
        nm (zwr s8 52 3 (s8.1 47 6)) (fun s9 =>
          nm (zwr s9 52 4 (s9.1 47 6)) (fun s10 =>
            nm (zwr s10 52 5 (0 : Int32)) (fun s11 =>
              zfix (F_X4_findUseful_210L x1) zlim ((0 : Int32), s11)))))))
set_option maxHeartbeats 4000000 in
set_option maxRecDepth 100000 in
theorem p_X4_findUseful_155 {G : zG} {C : zC} {r : Unit} {τ : zSt} (hR : zR G C none none τ) (x1 : Int32) (σ : zSt) (h : F_X4_findUseful_155 x1 σ = some (r, τ)) : zAW G 3 RX4 cX4_findUseful 6 C 155 [(0, .ref (zad G 47)), (1, .int x1)] [] σ := by
  unfold F_X4_findUseful_155 at h
  refine z_aload e_X4_findUseful_155 0 rfl ?_
  refine z_getr gf_X4_26_47 e_X4_findUseful_156 ?_
  refine z_ic e_X4_findUseful_159 ?_
  refine z_ic e_X4_findUseful_160 ?_
  refine z_iast0 (j := 0) sh_52 e_X4_findUseful_162 (by unfold vp_in; decide) rfl h (fun s6 h => ?_)
  refine z_aload e_X4_findUseful_163 0 rfl ?_
  refine z_getr gf_X4_26_47 e_X4_findUseful_164 ?_
  refine z_ic e_X4_findUseful_167 ?_
  refine z_ic e_X4_findUseful_168 ?_
  refine z_iast0 (j := 1) sh_52 e_X4_findUseful_170 (by unfold vp_in; decide) rfl h (fun s7 h => ?_)
  refine z_aload e_X4_findUseful_171 0 rfl ?_
  refine z_getr gf_X4_26_47 e_X4_findUseful_172 ?_
  refine z_ic e_X4_findUseful_175 ?_
  refine z_aload e_X4_findUseful_176 0 rfl ?_
  refine z_geti gf_X4_64_47 e_X4_findUseful_177 ?_
  refine z_iast0 (j := 2) sh_52 e_X4_findUseful_180 (by unfold vp_in; decide) rfl h (fun s8 h => ?_)
  refine z_aload e_X4_findUseful_181 0 rfl ?_
  refine z_getr gf_X4_26_47 e_X4_findUseful_182 ?_
  refine z_ic e_X4_findUseful_185 ?_
  refine z_aload e_X4_findUseful_186 0 rfl ?_
  refine z_geti gf_X4_64_47 e_X4_findUseful_187 ?_
  refine z_iast0 (j := 3) sh_52 e_X4_findUseful_190 (by unfold vp_in; decide) rfl h (fun s9 h => ?_)
  refine z_aload e_X4_findUseful_191 0 rfl ?_
  refine z_getr gf_X4_26_47 e_X4_findUseful_192 ?_
  refine z_ic e_X4_findUseful_195 ?_
  refine z_aload e_X4_findUseful_196 0 rfl ?_
  refine z_geti gf_X4_64_47 e_X4_findUseful_197 ?_
  refine z_iast0 (j := 4) sh_52 e_X4_findUseful_200 (by unfold vp_in; decide) rfl h (fun s10 h => ?_)
  refine z_aload e_X4_findUseful_201 0 rfl ?_
  refine z_getr gf_X4_26_47 e_X4_findUseful_202 ?_
  refine z_ic e_X4_findUseful_205 ?_
  refine z_ic e_X4_findUseful_206 ?_
  refine z_iast0 (j := 5) sh_52 e_X4_findUseful_207 (by unfold vp_in; decide) rfl h (fun s11 h => ?_)
  refine z_ic e_X4_findUseful_208 ?_
  refine z_istore e_X4_findUseful_209 (by decide) [(2, .int (0 : Int32)), (0, .ref (zad G 47)), (1, .int x1)] rfl ?_
  exact z_sub [1, 2, 0] rfl (l_X4_findUseful_210 hR x1 zlim (0 : Int32) s11 h)
noncomputable def F_X4_findUseful_149 (w15 : (Int32 × Int32 × zSt) → Option (Unit × zSt)) (x1 : Int32) (x2 : Int32) (σ : zSt) : Option (Unit × zSt) :=
  nm (x2 + (1 : Int32)) (fun v21 =>
    w15 (x1, v21, σ))
set_option maxHeartbeats 4000000 in
set_option maxRecDepth 100000 in
theorem p_X4_findUseful_149 {G : zG} {C : zC} {r : Unit} {τ : zSt} (hR : zR G C none none τ) (w15 : (Int32 × Int32 × zSt) → Option (Unit × zSt)) (x1 : Int32) (x2 : Int32) (hw15 : ∀ (x1 : Int32) (x2 : Int32) (σ : zSt), w15 (x1, x2, σ) = some (r, τ) → zAW G 3 RX4 cX4_findUseful 6 C 15 [(0, .ref (zad G 47)), (1, .int x1), (2, .int x2)] [] σ) (σ : zSt) (h : F_X4_findUseful_149 w15 x1 x2 σ = some (r, τ)) : zAW G 3 RX4 cX4_findUseful 6 C 149 [(0, .ref (zad G 47)), (1, .int x1), (2, .int x2)] [] σ := by
  unfold F_X4_findUseful_149 at h
  refine z_iinc e_X4_findUseful_149 2 rfl (by decide) (by decide) h (fun y => [(2, .int y), (0, .ref (zad G 47)), (1, .int x1)]) (fun _ => rfl) (fun v21 h => ?_)
  refine z_goto e_X4_findUseful_152 ?_
  exact z_sub [1, 2, 0] rfl (hw15 x1 v21 σ h)
noncomputable def F_X4_findUseful_139 (w15 : (Int32 × Int32 × zSt) → Option (Unit × zSt)) (w23 : (Int32 × Int32 × zSt) → Option (Unit × zSt)) (x1 : Int32) (x2 : Int32) (x3 : Int32) (t0 : Int32) (t1 : Int32) (σ : zSt) : Option (Unit × zSt) :=
  nm (zwr σ 47 6 (t1 ||| t0)) (fun s40 =>
    nm (x3 + (1 : Int32)) (fun v41 =>
      w23 (x1, v41, s40)))
set_option maxHeartbeats 4000000 in
set_option maxRecDepth 100000 in
theorem p_X4_findUseful_139 {G : zG} {C : zC} {r : Unit} {τ : zSt} (hR : zR G C none none τ) (w15 : (Int32 × Int32 × zSt) → Option (Unit × zSt)) (w23 : (Int32 × Int32 × zSt) → Option (Unit × zSt)) (x1 : Int32) (x2 : Int32) (x3 : Int32) (t0 : Int32) (t1 : Int32) (hw15 : ∀ (x1 : Int32) (x2 : Int32) (σ : zSt), w15 (x1, x2, σ) = some (r, τ) → zAW G 3 RX4 cX4_findUseful 6 C 15 [(0, .ref (zad G 47)), (1, .int x1), (2, .int x2)] [] σ) (hw23 : ∀ (x1 : Int32) (x3 : Int32) (σ : zSt), w23 (x1, x3, σ) = some (r, τ) → zAW G 3 RX4 cX4_findUseful 6 C 23 [(0, .ref (zad G 47)), (1, .int x1), (2, .int x2), (3, .int x3)] [] σ) (σ : zSt) (h : F_X4_findUseful_139 w15 w23 x1 x2 x3 t0 t1 σ = some (r, τ)) : zAW G 3 RX4 cX4_findUseful 6 C 139 [(0, .ref (zad G 47)), (1, .int x1), (2, .int x2), (3, .int x3)] [.int t0, .int t1, .ref (zad G 47)] σ := by
  unfold F_X4_findUseful_139 at h
  refine z_ior e_X4_findUseful_139 ?_
  refine z_puti pf_X4_64_47 e_X4_findUseful_140 h (fun s40 h => ?_)
  refine z_iinc e_X4_findUseful_143 3 rfl (by decide) (by decide) h (fun y => [(3, .int y), (0, .ref (zad G 47)), (1, .int x1), (2, .int x2)]) (fun _ => rfl) (fun v41 h => ?_)
  refine z_goto e_X4_findUseful_146 ?_
  exact z_sub [1, 2, 3, 0] rfl (hw23 x1 v41 s40 h)
noncomputable def F_X4_findUseful_53 (w15 : (Int32 × Int32 × zSt) → Option (Unit × zSt)) (w23 : (Int32 × Int32 × zSt) → Option (Unit × zSt)) (x1 : Int32) (x2 : Int32) (x3 : Int32) (t0 : Int32) (σ : zSt) : Option (Unit × zSt) :=
  bd (F_X5_whereIs t0 σ) (fun q27 s26 =>
    nm (if t0 = (-1 : Int32) then (0 : Int32) else ((1 : Int32) <<< (t0 &&& 31))) (fun v29 =>
      nm (x1 ||| v29) (fun v30 =>
        bd (F_X11_isBelow q27 (8 : Int32) s26) (fun q32 s31 =>
          nm (if q32 = 0 then (0 : Int32) else ((1 : Int32) <<< (q27 &&& 31))) (fun v34 =>
            nm (zwr s31 47 6 ((s26.1 47 6) ||| v34)) (fun s35 =>
              if (((s35.1 47 6) >>> (x3 &&& 31)) &&& (1 : Int32)) = (1 : Int32) then (
                bd (F_X5_aroundOf x3 s35) (fun q38 s37 =>
                  F_X4_findUseful_139 w15 w23 v30 x2 x3 q38 (s35.1 47 6) s37))
              else (
                F_X4_findUseful_139 w15 w23 v30 x2 x3 (0 : Int32) (s35.1 47 6) s35)))))))
set_option maxHeartbeats 4000000 in
set_option maxRecDepth 100000 in
theorem p_X4_findUseful_53 {G : zG} {C : zC} {r : Unit} {τ : zSt} (hR : zR G C none none τ) (w15 : (Int32 × Int32 × zSt) → Option (Unit × zSt)) (w23 : (Int32 × Int32 × zSt) → Option (Unit × zSt)) (x1 : Int32) (x2 : Int32) (x3 : Int32) (t0 : Int32) (hw15 : ∀ (x1 : Int32) (x2 : Int32) (σ : zSt), w15 (x1, x2, σ) = some (r, τ) → zAW G 3 RX4 cX4_findUseful 6 C 15 [(0, .ref (zad G 47)), (1, .int x1), (2, .int x2)] [] σ) (hw23 : ∀ (x1 : Int32) (x3 : Int32) (σ : zSt), w23 (x1, x3, σ) = some (r, τ) → zAW G 3 RX4 cX4_findUseful 6 C 23 [(0, .ref (zad G 47)), (1, .int x1), (2, .int x2), (3, .int x3)] [] σ) (σ : zSt) (h : F_X4_findUseful_53 w15 w23 x1 x2 x3 t0 σ = some (r, τ)) : zAW G 3 RX4 cX4_findUseful 6 C 53 [(0, .ref (zad G 47)), (1, .int x1), (2, .int x2), (3, .int x3)] [.int t0] σ := by
  unfold F_X4_findUseful_53 at h
  refine z_istore e_X4_findUseful_53 (by decide) [(4, .int t0), (0, .ref (zad G 47)), (1, .int x1), (2, .int x2), (3, .int x3)] rfl ?_
  refine z_aload e_X4_findUseful_55 1 rfl ?_
  refine z_getr gf_X4_41_47 e_X4_findUseful_56 ?_
  refine z_iload e_X4_findUseful_59 0 rfl ?_
  obtain ⟨q27, s26, e28, h⟩ := bd_e h
  refine z_callVi (c0 := 17) (As := [.int t0]) (rest := []) lk_X4_82 ob_17 e_X4_findUseful_61 (m_X5_whereIs G t0 σ _ _ e28) (by decide) rfl (Nat.le_of_ble_eq_true rfl) ?_
  refine z_istore e_X4_findUseful_64 (by decide) [(5, .int q27), (4, .int t0), (0, .ref (zad G 47)), (1, .int x1), (2, .int x2), (3, .int x3)] rfl ?_
  refine z_iload e_X4_findUseful_66 3 rfl ?_
  refine z_iload e_X4_findUseful_67 1 rfl ?_
  refine z_ic e_X4_findUseful_69 ?_
  obtain ⟨v29, ev29, h⟩ := nm_i h
  have jv29 : zAW G 3 RX4 cX4_findUseful 6 C 81 [(0, .ref (zad G 47)), (2, .int x2), (3, .int x3), (5, .int q27)] [.int v29, .int x1] s26 := by
    refine z_ior e_X4_findUseful_81 ?_
    refine z_nmI h (fun v30 h => ?_)
    refine z_istore e_X4_findUseful_82 (by decide) [(1, .int v30), (0, .ref (zad G 47)), (2, .int x2), (3, .int x3), (5, .int q27)] rfl ?_
    refine z_aload e_X4_findUseful_83 1 rfl ?_
    refine z_dup e_X4_findUseful_84 rfl ?_
    refine z_geti gf_X4_64_47 e_X4_findUseful_85 ?_
    refine z_iload e_X4_findUseful_88 4 rfl ?_
    refine z_ic e_X4_findUseful_90 ?_
    obtain ⟨q32, s31, e33, h⟩ := bd_e h
    refine z_callNi (As := [.int q27, .int (8 : Int32)]) (rest := [.int (s26.1 47 6), .ref (zad G 47)]) lk_X4_49 e_X4_findUseful_92 (m_X11_isBelow G q27 (8 : Int32) s26 _ _ e33) (by decide) rfl (Nat.le_of_ble_eq_true rfl) ?_
    obtain ⟨v34, ev34, h⟩ := nm_i h
    have jv34 : zAW G 3 RX4 cX4_findUseful 6 C 106 [(0, .ref (zad G 47)), (1, .int v30), (2, .int x2), (3, .int x3)] [.int v34, .int (s26.1 47 6), .ref (zad G 47)] s31 := by
      refine z_ior e_X4_findUseful_106 ?_
      refine z_puti pf_X4_64_47 e_X4_findUseful_107 h (fun s35 h => ?_)
      refine z_aload e_X4_findUseful_110 0 rfl ?_
      refine z_dup e_X4_findUseful_111 rfl ?_
      refine z_geti gf_X4_64_47 e_X4_findUseful_112 ?_
      refine z_aload e_X4_findUseful_115 0 rfl ?_
      refine z_geti gf_X4_64_47 e_X4_findUseful_116 ?_
      refine z_iload e_X4_findUseful_119 3 rfl ?_
      refine z_ishr e_X4_findUseful_120 ?_
      refine z_ic e_X4_findUseful_121 ?_
      refine z_iand e_X4_findUseful_122 ?_
      refine z_ic e_X4_findUseful_123 ?_
      refine z_icmp_ne e_X4_findUseful_124 h (fun c36 h => ?_) (fun c36 h => ?_)
      · refine z_aload e_X4_findUseful_127 0 rfl ?_
        refine z_getr gf_X4_41_47 e_X4_findUseful_128 ?_
        refine z_iload e_X4_findUseful_131 3 rfl ?_
        obtain ⟨q38, s37, e39, h⟩ := bd_e h
        refine z_callVi (c0 := 17) (As := [.int x3]) (rest := [.int (s35.1 47 6), .ref (zad G 47)]) lk_X4_85 ob_17 e_X4_findUseful_132 (m_X5_aroundOf G x3 s35 _ _ e39) (by decide) rfl (Nat.le_of_ble_eq_true rfl) ?_
        refine z_goto e_X4_findUseful_135 ?_
        exact z_sub [0, 1, 2, 3] rfl (p_X4_findUseful_139 hR w15 w23 v30 x2 x3 q38 (s35.1 47 6) hw15 hw23 s37 h)
      · refine z_ic e_X4_findUseful_138 ?_
        exact z_sub [0, 1, 2, 3] rfl (p_X4_findUseful_139 hR w15 w23 v30 x2 x3 (0 : Int32) (s35.1 47 6) hw15 hw23 s35 h)
    refine y_if_eq e_X4_findUseful_95 (fun c42 => ?_) (fun c42 => ?_)
    · refine z_ic e_X4_findUseful_105 ?_
      rw [if_pos c42] at ev34
      subst ev34
      exact z_sub [1, 0, 2, 3] rfl jv34
    · refine z_ic e_X4_findUseful_98 ?_
      refine z_iload e_X4_findUseful_99 4 rfl ?_
      refine z_ishl e_X4_findUseful_101 ?_
      refine z_goto e_X4_findUseful_102 ?_
      rw [if_neg c42] at ev34
      subst ev34
      exact z_sub [1, 0, 2, 3] rfl jv34
  refine y_icmp_ne e_X4_findUseful_70 (fun c43 => ?_) (fun c43 => ?_)
  · refine z_ic e_X4_findUseful_73 ?_
    refine z_goto e_X4_findUseful_74 ?_
    rw [if_pos c43] at ev29
    subst ev29
    exact z_sub [2, 4, 5, 0] rfl jv29
  · refine z_ic e_X4_findUseful_77 ?_
    refine z_iload e_X4_findUseful_78 1 rfl ?_
    refine z_ishl e_X4_findUseful_80 ?_
    rw [if_neg c43] at ev29
    subst ev29
    exact z_sub [2, 4, 5, 0] rfl jv29
noncomputable def F_X4_findUseful_23 (w15 : (Int32 × Int32 × zSt) → Option (Unit × zSt)) (x2 : Int32) (w23 : (Int32 × Int32 × zSt) → Option (Unit × zSt)) (x1 : Int32) (x3 : Int32) (σ : zSt) : Option (Unit × zSt) :=
  if (8 : Int32) ≤ x3 then (
    F_X4_findUseful_149 w15 x1 x2 σ)
  else (
    if (((σ.1 47 6) >>> (x3 &&& 31)) &&& (1 : Int32)) = (1 : Int32) then (
      bd (F_X5_lockOf x3 σ) (fun q24 s23 =>
        F_X4_findUseful_53 w15 w23 x1 x2 x3 q24 s23))
    else (
      F_X4_findUseful_53 w15 w23 x1 x2 x3 (-1 : Int32) σ))
set_option maxHeartbeats 4000000 in
set_option maxRecDepth 100000 in
theorem b_X4_findUseful_23 {G : zG} {C : zC} {r : Unit} {τ : zSt} (hR : zR G C none none τ) (w15 : (Int32 × Int32 × zSt) → Option (Unit × zSt)) (x2 : Int32) (hw15 : ∀ (x1 : Int32) (x2 : Int32) (σ : zSt), w15 (x1, x2, σ) = some (r, τ) → zAW G 3 RX4 cX4_findUseful 6 C 15 [(0, .ref (zad G 47)), (1, .int x1), (2, .int x2)] [] σ) (w23 : (Int32 × Int32 × zSt) → Option (Unit × zSt)) (hw23 : ∀ (x1 : Int32) (x3 : Int32) (σ : zSt), w23 (x1, x3, σ) = some (r, τ) → zAW G 3 RX4 cX4_findUseful 6 C 23 [(0, .ref (zad G 47)), (1, .int x1), (2, .int x2), (3, .int x3)] [] σ) (x1 : Int32) (x3 : Int32) (σ : zSt) (h : F_X4_findUseful_23 w15 x2 w23 x1 x3 σ = some (r, τ)) : zAW G 3 RX4 cX4_findUseful 6 C 23 [(0, .ref (zad G 47)), (1, .int x1), (2, .int x2), (3, .int x3)] [] σ := by
  unfold F_X4_findUseful_23 at h
  refine z_iload e_X4_findUseful_23 3 rfl ?_
  refine z_ic e_X4_findUseful_24 ?_
  refine z_icmp_ge e_X4_findUseful_26 h (fun c20 h => ?_) (fun c20 h => ?_)
  · exact z_sub [0, 1, 2] rfl (p_X4_findUseful_149 hR w15 x1 x2 hw15 σ h)
  · refine z_aload e_X4_findUseful_29 0 rfl ?_
    refine z_geti gf_X4_64_47 e_X4_findUseful_30 ?_
    refine z_iload e_X4_findUseful_33 3 rfl ?_
    refine z_ishr e_X4_findUseful_34 ?_
    refine z_ic e_X4_findUseful_35 ?_
    refine z_iand e_X4_findUseful_36 ?_
    refine z_ic e_X4_findUseful_37 ?_
    refine z_icmp_ne e_X4_findUseful_38 h (fun c22 h => ?_) (fun c22 h => ?_)
    · refine z_aload e_X4_findUseful_41 0 rfl ?_
      refine z_getr gf_X4_41_47 e_X4_findUseful_42 ?_
      refine z_iload e_X4_findUseful_45 3 rfl ?_
      obtain ⟨q24, s23, e25, h⟩ := bd_e h
      refine z_callVi (c0 := 17) (As := [.int x3]) (rest := []) lk_X4_78 ob_17 e_X4_findUseful_46 (m_X5_lockOf G x3 σ _ _ e25) (by decide) rfl (Nat.le_of_ble_eq_true rfl) ?_
      refine z_goto e_X4_findUseful_49 ?_
      exact z_sub [0, 1, 2, 3] rfl (p_X4_findUseful_53 hR w15 w23 x1 x2 x3 q24 hw15 hw23 s23 h)
    · refine z_ic e_X4_findUseful_52 ?_
      exact z_sub [0, 1, 2, 3] rfl (p_X4_findUseful_53 hR w15 w23 x1 x2 x3 (-1 : Int32) hw15 hw23 σ h)
noncomputable def F_X4_findUseful_23L (w15 : (Int32 × Int32 × zSt) → Option (Unit × zSt)) (x2 : Int32) : ((Int32 × Int32 × zSt) → Option (Unit × zSt)) → (Int32 × Int32 × zSt) → Option (Unit × zSt) := fun w s => F_X4_findUseful_23 w15 x2 w s.1 s.2.1 s.2.2
set_option maxRecDepth 100000 in
theorem l_X4_findUseful_23 {G : zG} {C : zC} {r : Unit} {τ : zSt} (hR : zR G C none none τ) (w15 : (Int32 × Int32 × zSt) → Option (Unit × zSt)) (x2 : Int32) (hw15 : ∀ (x1 : Int32) (x2 : Int32) (σ : zSt), w15 (x1, x2, σ) = some (r, τ) → zAW G 3 RX4 cX4_findUseful 6 C 15 [(0, .ref (zad G 47)), (1, .int x1), (2, .int x2)] [] σ) : ∀ (N : Nat) (x1 : Int32) (x3 : Int32) (σ : zSt), zfix (F_X4_findUseful_23L w15 x2) N (x1, x3, σ) = some (r, τ) → zAW G 3 RX4 cX4_findUseful 6 C 23 [(0, .ref (zad G 47)), (1, .int x1), (2, .int x2), (3, .int x3)] [] σ := by
  intro N
  induction N with
  | zero =>
    intro x1 x3 σ h
    exact nomatch (show (none : Option (Unit × zSt)) = some (r, τ) from h)
  | succ N ih =>
    intro x1 x3 σ h
    exact b_X4_findUseful_23 hR w15 x2 hw15 (zfix (F_X4_findUseful_23L w15 x2) N) ih x1 x3 σ h
noncomputable def F_X4_findUseful_15 (w15 : (Int32 × Int32 × zSt) → Option (Unit × zSt)) (x1 : Int32) (x2 : Int32) (σ : zSt) : Option (Unit × zSt) :=
  if (8 : Int32) ≤ x2 then (
    F_X4_findUseful_155 x1 σ)
  else (
    zfix (F_X4_findUseful_23L w15 x2) zlim (x1, (0 : Int32), σ))
set_option maxHeartbeats 4000000 in
set_option maxRecDepth 100000 in
theorem b_X4_findUseful_15 {G : zG} {C : zC} {r : Unit} {τ : zSt} (hR : zR G C none none τ) (w15 : (Int32 × Int32 × zSt) → Option (Unit × zSt)) (hw15 : ∀ (x1 : Int32) (x2 : Int32) (σ : zSt), w15 (x1, x2, σ) = some (r, τ) → zAW G 3 RX4 cX4_findUseful 6 C 15 [(0, .ref (zad G 47)), (1, .int x1), (2, .int x2)] [] σ) (x1 : Int32) (x2 : Int32) (σ : zSt) (h : F_X4_findUseful_15 w15 x1 x2 σ = some (r, τ)) : zAW G 3 RX4 cX4_findUseful 6 C 15 [(0, .ref (zad G 47)), (1, .int x1), (2, .int x2)] [] σ := by
  unfold F_X4_findUseful_15 at h
  refine z_iload e_X4_findUseful_15 2 rfl ?_
  refine z_ic e_X4_findUseful_16 ?_
  refine z_icmp_ge e_X4_findUseful_18 h (fun c5 h => ?_) (fun c5 h => ?_)
  · exact z_sub [0, 1] rfl (p_X4_findUseful_155 hR x1 σ h)
  · refine z_ic e_X4_findUseful_21 ?_
    refine z_istore e_X4_findUseful_22 (by decide) [(3, .int (0 : Int32)), (0, .ref (zad G 47)), (1, .int x1), (2, .int x2)] rfl ?_
    exact z_sub [1, 2, 3, 0] rfl (l_X4_findUseful_23 hR w15 x2 hw15 zlim x1 (0 : Int32) σ h)
noncomputable def F_X4_findUseful_15L  : ((Int32 × Int32 × zSt) → Option (Unit × zSt)) → (Int32 × Int32 × zSt) → Option (Unit × zSt) := fun w s => F_X4_findUseful_15 w s.1 s.2.1 s.2.2
set_option maxRecDepth 100000 in
theorem l_X4_findUseful_15 {G : zG} {C : zC} {r : Unit} {τ : zSt} (hR : zR G C none none τ)  : ∀ (N : Nat) (x1 : Int32) (x2 : Int32) (σ : zSt), zfix (F_X4_findUseful_15L ) N (x1, x2, σ) = some (r, τ) → zAW G 3 RX4 cX4_findUseful 6 C 15 [(0, .ref (zad G 47)), (1, .int x1), (2, .int x2)] [] σ := by
  intro N
  induction N with
  | zero =>
    intro x1 x2 σ h
    exact nomatch (show (none : Option (Unit × zSt)) = some (r, τ) from h)
  | succ N ih =>
    intro x1 x2 σ h
    exact b_X4_findUseful_15 hR (zfix (F_X4_findUseful_15L ) N) ih x1 x2 σ h
noncomputable def F_X4_findUseful_0 (σ : zSt) : Option (Unit × zSt) :=
  bd (F_X5_goalPlaces σ) (fun q2 s1 =>
    nm (zwr s1 47 6 q2) (fun s4 =>
      zfix (F_X4_findUseful_15L ) zlim ((0 : Int32), (0 : Int32), s4)))
set_option maxHeartbeats 4000000 in
set_option maxRecDepth 100000 in
theorem p_X4_findUseful_0 {G : zG} {C : zC} {r : Unit} {τ : zSt} (hR : zR G C none none τ)  (σ : zSt) (h : F_X4_findUseful_0 σ = some (r, τ)) : zAW G 3 RX4 cX4_findUseful 6 C 0 [(0, .ref (zad G 47))] [] σ := by
  unfold F_X4_findUseful_0 at h
  refine z_aload e_X4_findUseful_0 0 rfl ?_
  refine z_aload e_X4_findUseful_1 0 rfl ?_
  refine z_getr gf_X4_41_47 e_X4_findUseful_2 ?_
  obtain ⟨q2, s1, e3, h⟩ := bd_e h
  refine z_callVi (c0 := 17) (As := []) (rest := [.ref (zad G 47)]) lk_X4_74 ob_17 e_X4_findUseful_5 (m_X5_goalPlaces G σ _ _ e3) (by decide) rfl (Nat.le_of_ble_eq_true rfl) ?_
  refine z_puti pf_X4_64_47 e_X4_findUseful_8 h (fun s4 h => ?_)
  refine z_ic e_X4_findUseful_11 ?_
  refine z_istore e_X4_findUseful_12 (by decide) [(1, .int (0 : Int32)), (0, .ref (zad G 47))] rfl ?_
  refine z_ic e_X4_findUseful_13 ?_
  refine z_istore e_X4_findUseful_14 (by decide) [(2, .int (0 : Int32)), (1, .int (0 : Int32)), (0, .ref (zad G 47))] rfl ?_
  exact z_sub [2, 1, 0] rfl (l_X4_findUseful_15 hR  zlim (0 : Int32) (0 : Int32) s4 h)
noncomputable def F_X4_findUseful (σ : zSt) : Option (Unit × zSt) := F_X4_findUseful_0  σ
set_option maxRecDepth 100000 in
theorem m_X4_findUseful (G : zG) (σ : zSt) (q : Unit) (τ : zSt) (h : F_X4_findUseful  σ = some (q, τ)) : zM G 3 yX4_findUseful cX4_findUseful 6 none [.ref (zad G 47)] σ none τ := by
  unfold F_X4_findUseful at h
  refine zM.of (own := RX4) (by decide +kernel) rfl (Nat.le_of_ble_eq_true rfl) (fun C hR => ?_)
  exact z_sub [0] rfl (p_X4_findUseful_0 hR  σ h)
noncomputable def F_X4_price_0 (x1 : Int32) (x2 : Int32) (σ : zSt) : Option (Int32 × zSt) :=
  nm (if x1 = (2 : Int32) then (1 : Int32) else (if x1 = (3 : Int32) then (1 : Int32) else (if x1 = (4 : Int32) then (1 : Int32) else (0 : Int32)))) (fun v1 =>
    if (σ.1 47 5) = 0 then (
      if v1 = 0 then (
        some ((((1024 : Int32) * x2) + (0 : Int32)), σ))
      else (
        some ((((1024 : Int32) * x2) + (1 : Int32)), σ)))
    else (
      some ((((1024 : Int32) * x2) + (1 : Int32)), σ)))
set_option maxHeartbeats 4000000 in
set_option maxRecDepth 100000 in
theorem p_X4_price_0 {G : zG} {C : zC} {r : Int32} {τ : zSt} (hR : zR G C (some .int) (some (.int r)) τ) (x1 : Int32) (x2 : Int32) (σ : zSt) (h : F_X4_price_0 x1 x2 σ = some (r, τ)) : zAW G 1 RX4 cX4_price 4 C 0 [(0, .ref (zad G 47)), (1, .int x1), (2, .int x2)] [] σ := by
  unfold F_X4_price_0 at h
  refine z_iload e_X4_price_0 1 rfl ?_
  refine z_ic e_X4_price_1 ?_
  obtain ⟨v1, ev1, h⟩ := nm_i h
  have jv1 : zAW G 1 RX4 cX4_price 4 C 20 [(0, .ref (zad G 47)), (2, .int x2)] [.int v1] σ := by
    refine z_istore e_X4_price_20 (by decide) [(3, .int v1), (0, .ref (zad G 47)), (2, .int x2)] rfl ?_
    refine z_ic e_X4_price_21 ?_
    refine z_iload e_X4_price_24 2 rfl ?_
    refine z_imul e_X4_price_25 ?_
    refine z_aload e_X4_price_26 1 rfl ?_
    refine z_geti gf_X4_53_47 e_X4_price_27 ?_
    refine z_if_ne e_X4_price_30 h (fun c2 h => ?_) (fun c2 h => ?_)
    · refine z_iload e_X4_price_33 0 rfl ?_
      refine z_if_eq e_X4_price_34 h (fun c3 h => ?_) (fun c3 h => ?_)
      · refine z_ic e_X4_price_41 ?_
        refine z_iadd e_X4_price_42 ?_
        cases h
        exact z_ireturn hR e_X4_price_43
      · refine z_ic e_X4_price_37 ?_
        refine z_goto e_X4_price_38 ?_
        refine z_iadd e_X4_price_42 ?_
        cases h
        exact z_ireturn hR e_X4_price_43
    · refine z_ic e_X4_price_37 ?_
      refine z_goto e_X4_price_38 ?_
      refine z_iadd e_X4_price_42 ?_
      cases h
      exact z_ireturn hR e_X4_price_43
  refine y_icmp_eq e_X4_price_2 (fun c4 => ?_) (fun c4 => ?_)
  · refine z_ic e_X4_price_15 ?_
    refine z_goto e_X4_price_16 ?_
    rw [if_pos c4] at ev1
    subst ev1
    exact z_sub [0, 2] rfl jv1
  · refine z_iload e_X4_price_5 1 rfl ?_
    refine z_ic e_X4_price_6 ?_
    refine y_icmp_eq e_X4_price_7 (fun c5 => ?_) (fun c5 => ?_)
    · refine z_ic e_X4_price_15 ?_
      refine z_goto e_X4_price_16 ?_
      rw [if_neg c4, if_pos c5] at ev1
      subst ev1
      exact z_sub [0, 2] rfl jv1
    · refine z_iload e_X4_price_10 1 rfl ?_
      refine z_ic e_X4_price_11 ?_
      refine y_icmp_ne e_X4_price_12 (fun c6 => ?_) (fun c6 => ?_)
      · refine z_ic e_X4_price_15 ?_
        refine z_goto e_X4_price_16 ?_
        rw [if_neg c4, if_neg c5, if_pos c6] at ev1
        subst ev1
        exact z_sub [0, 2] rfl jv1
      · refine z_ic e_X4_price_19 ?_
        rw [if_neg c4, if_neg c5, if_neg c6] at ev1
        subst ev1
        exact z_sub [0, 2] rfl jv1
noncomputable def F_X4_price (x1 : Int32) (x2 : Int32) (σ : zSt) : Option (Int32 × zSt) := F_X4_price_0 x1 x2 σ
set_option maxRecDepth 100000 in
theorem m_X4_price (G : zG) (x1 : Int32) (x2 : Int32) (σ : zSt) (q : Int32) (τ : zSt) (h : F_X4_price x1 x2 σ = some (q, τ)) : zM G 1 yX4_price cX4_price 4 (some .int) [.ref (zad G 47), .int x1, .int x2] σ (some (.int q)) τ := by
  unfold F_X4_price at h
  refine zM.of (own := RX4) (by decide +kernel) rfl (Nat.le_of_ble_eq_true rfl) (fun C hR => ?_)
  exact z_sub [0, 1, 2] rfl (p_X4_price_0 hR x1 x2 σ h)
noncomputable def F_X4_findPaths_143 (w74 : (Int32 × zSt) → Option (Unit × zSt)) (x1 : Int32) (σ : zSt) : Option (Unit × zSt) :=
  nm (x1 + (1 : Int32)) (fun v4 =>
    w74 (v4, σ))
set_option maxHeartbeats 4000000 in
set_option maxRecDepth 100000 in
theorem p_X4_findPaths_143 {G : zG} {C : zC} {r : Unit} {τ : zSt} (hR : zR G C none none τ) (w74 : (Int32 × zSt) → Option (Unit × zSt)) (x1 : Int32) (hw74 : ∀ (x1 : Int32) (σ : zSt), w74 (x1, σ) = some (r, τ) → zAW G 3 RX4 cX4_findPaths 6 C 74 [(0, .ref (zad G 47)), (1, .int x1)] [] σ) (σ : zSt) (h : F_X4_findPaths_143 w74 x1 σ = some (r, τ)) : zAW G 3 RX4 cX4_findPaths 6 C 143 [(0, .ref (zad G 47)), (1, .int x1)] [] σ := by
  unfold F_X4_findPaths_143 at h
  refine z_iinc e_X4_findPaths_143 1 rfl (by decide) (by decide) h (fun y => [(1, .int y), (0, .ref (zad G 47))]) (fun _ => rfl) (fun v4 h => ?_)
  refine z_goto e_X4_findPaths_146 ?_
  exact z_sub [1, 0] rfl (hw74 v4 σ h)
noncomputable def F_X4_findPaths_81 (w74 : (Int32 × zSt) → Option (Unit × zSt)) (x1 : Int32) (w81 : (Int32 × zSt) → Option (Unit × zSt)) (x2 : Int32) (σ : zSt) : Option (Unit × zSt) :=
  if (16 : Int32) ≤ x2 then (
    F_X4_findPaths_143 w74 x1 σ)
  else (
    nm (x2 / (4 : Int32)) (fun v5 =>
      nm (x2 % (4 : Int32)) (fun v6 =>
        gd (vp_in (((4 : Int32) * v5) + x1) 16) (
          gd (vp_in (((4 : Int32) * x1) + v6) 16) (
            nm ((σ.1 49 (((4 : Int32) * v5) + x1).toNatClampNeg) + (σ.1 49 (((4 : Int32) * x1) + v6).toNatClampNeg)) (fun v7 =>
              gd (vp_in x2 16) (
                gd (vp_in x2 16) (nm (zwr σ 49 x2.toNatClampNeg (jmin (σ.1 49 x2.toNatClampNeg) v7)) (fun s8 =>
                  nm (x2 + (1 : Int32)) (fun v9 =>
                    w81 (v9, s8)))))))))))
set_option maxHeartbeats 4000000 in
set_option maxRecDepth 100000 in
theorem b_X4_findPaths_81 {G : zG} {C : zC} {r : Unit} {τ : zSt} (hR : zR G C none none τ) (w74 : (Int32 × zSt) → Option (Unit × zSt)) (x1 : Int32) (hw74 : ∀ (x1 : Int32) (σ : zSt), w74 (x1, σ) = some (r, τ) → zAW G 3 RX4 cX4_findPaths 6 C 74 [(0, .ref (zad G 47)), (1, .int x1)] [] σ) (w81 : (Int32 × zSt) → Option (Unit × zSt)) (hw81 : ∀ (x2 : Int32) (σ : zSt), w81 (x2, σ) = some (r, τ) → zAW G 3 RX4 cX4_findPaths 6 C 81 [(0, .ref (zad G 47)), (1, .int x1), (2, .int x2)] [] σ) (x2 : Int32) (σ : zSt) (h : F_X4_findPaths_81 w74 x1 w81 x2 σ = some (r, τ)) : zAW G 3 RX4 cX4_findPaths 6 C 81 [(0, .ref (zad G 47)), (1, .int x1), (2, .int x2)] [] σ := by
  unfold F_X4_findPaths_81 at h
  refine z_iload e_X4_findPaths_81 2 rfl ?_
  refine z_ic e_X4_findPaths_82 ?_
  refine z_icmp_ge e_X4_findPaths_84 h (fun c3 h => ?_) (fun c3 h => ?_)
  · exact z_sub [0, 1] rfl (p_X4_findPaths_143 hR w74 x1 hw74 σ h)
  · refine z_iload e_X4_findPaths_87 2 rfl ?_
    refine z_ic e_X4_findPaths_88 ?_
    refine z_idiv e_X4_findPaths_89 (by decide) ?_
    refine z_nmI h (fun v5 h => ?_)
    refine z_istore e_X4_findPaths_90 (by decide) [(3, .int v5), (0, .ref (zad G 47)), (1, .int x1), (2, .int x2)] rfl ?_
    refine z_iload e_X4_findPaths_91 3 rfl ?_
    refine z_ic e_X4_findPaths_92 ?_
    refine z_irem e_X4_findPaths_93 (by decide) ?_
    refine z_nmI h (fun v6 h => ?_)
    refine z_istore e_X4_findPaths_94 (by decide) [(4, .int v6), (3, .int v5), (0, .ref (zad G 47)), (1, .int x1), (2, .int x2)] rfl ?_
    refine z_aload e_X4_findPaths_96 2 rfl ?_
    refine z_getr gf_X4_17_47 e_X4_findPaths_97 ?_
    refine z_ic e_X4_findPaths_100 ?_
    refine z_iload e_X4_findPaths_101 1 rfl ?_
    refine z_imul e_X4_findPaths_102 ?_
    refine z_iload e_X4_findPaths_103 3 rfl ?_
    refine z_iadd e_X4_findPaths_104 ?_
    refine z_iald sh_49 e_X4_findPaths_105 h (fun h => ?_)
    refine z_aload e_X4_findPaths_106 2 rfl ?_
    refine z_getr gf_X4_17_47 e_X4_findPaths_107 ?_
    refine z_ic e_X4_findPaths_110 ?_
    refine z_iload e_X4_findPaths_111 3 rfl ?_
    refine z_imul e_X4_findPaths_112 ?_
    refine z_iload e_X4_findPaths_113 0 rfl ?_
    refine z_iadd e_X4_findPaths_115 ?_
    refine z_iald sh_49 e_X4_findPaths_116 h (fun h => ?_)
    refine z_iadd e_X4_findPaths_117 ?_
    refine z_nmI h (fun v7 h => ?_)
    refine z_istore e_X4_findPaths_118 (by decide) [(5, .int v7), (4, .int v6), (3, .int v5), (0, .ref (zad G 47)), (1, .int x1), (2, .int x2)] rfl ?_
    refine z_aload e_X4_findPaths_120 3 rfl ?_
    refine z_getr gf_X4_17_47 e_X4_findPaths_121 ?_
    refine z_iload e_X4_findPaths_124 5 rfl ?_
    refine z_aload e_X4_findPaths_125 3 rfl ?_
    refine z_getr gf_X4_17_47 e_X4_findPaths_126 ?_
    refine z_iload e_X4_findPaths_129 5 rfl ?_
    refine z_iald sh_49 e_X4_findPaths_130 h (fun h => ?_)
    refine z_iload e_X4_findPaths_131 0 rfl ?_
    refine z_jmin mm_X4_98 (Nat.le_of_ble_eq_true rfl) (by decide) e_X4_findPaths_133 ?_
    refine z_iast sh_49 e_X4_findPaths_136 h (fun s8 h => ?_)
    refine z_iinc e_X4_findPaths_137 5 rfl (by decide) (by decide) h (fun y => [(2, .int y), (5, .int v7), (4, .int v6), (3, .int v5), (0, .ref (zad G 47)), (1, .int x1)]) (fun _ => rfl) (fun v9 h => ?_)
    refine z_goto e_X4_findPaths_140 ?_
    exact z_sub [4, 5, 0] rfl (hw81 v9 s8 h)
noncomputable def F_X4_findPaths_81L (w74 : (Int32 × zSt) → Option (Unit × zSt)) (x1 : Int32) : ((Int32 × zSt) → Option (Unit × zSt)) → (Int32 × zSt) → Option (Unit × zSt) := fun w s => F_X4_findPaths_81 w74 x1 w s.1 s.2
set_option maxRecDepth 100000 in
theorem l_X4_findPaths_81 {G : zG} {C : zC} {r : Unit} {τ : zSt} (hR : zR G C none none τ) (w74 : (Int32 × zSt) → Option (Unit × zSt)) (x1 : Int32) (hw74 : ∀ (x1 : Int32) (σ : zSt), w74 (x1, σ) = some (r, τ) → zAW G 3 RX4 cX4_findPaths 6 C 74 [(0, .ref (zad G 47)), (1, .int x1)] [] σ) : ∀ (N : Nat) (x2 : Int32) (σ : zSt), zfix (F_X4_findPaths_81L w74 x1) N (x2, σ) = some (r, τ) → zAW G 3 RX4 cX4_findPaths 6 C 81 [(0, .ref (zad G 47)), (1, .int x1), (2, .int x2)] [] σ := by
  intro N
  induction N with
  | zero =>
    intro x2 σ h
    exact nomatch (show (none : Option (Unit × zSt)) = some (r, τ) from h)
  | succ N ih =>
    intro x2 σ h
    exact b_X4_findPaths_81 hR w74 x1 hw74 (zfix (F_X4_findPaths_81L w74 x1) N) ih x2 σ h
noncomputable def F_X4_findPaths_74 (w74 : (Int32 × zSt) → Option (Unit × zSt)) (x1 : Int32) (σ : zSt) : Option (Unit × zSt) :=
  if (4 : Int32) ≤ x1 then (
    some ((), σ))
  else (
    zfix (F_X4_findPaths_81L w74 x1) zlim ((0 : Int32), σ))
set_option maxHeartbeats 4000000 in
set_option maxRecDepth 100000 in
theorem b_X4_findPaths_74 {G : zG} {C : zC} {r : Unit} {τ : zSt} (hR : zR G C none none τ) (w74 : (Int32 × zSt) → Option (Unit × zSt)) (hw74 : ∀ (x1 : Int32) (σ : zSt), w74 (x1, σ) = some (r, τ) → zAW G 3 RX4 cX4_findPaths 6 C 74 [(0, .ref (zad G 47)), (1, .int x1)] [] σ) (x1 : Int32) (σ : zSt) (h : F_X4_findPaths_74 w74 x1 σ = some (r, τ)) : zAW G 3 RX4 cX4_findPaths 6 C 74 [(0, .ref (zad G 47)), (1, .int x1)] [] σ := by
  unfold F_X4_findPaths_74 at h
  refine z_iload e_X4_findPaths_74 1 rfl ?_
  refine z_ic e_X4_findPaths_75 ?_
  refine z_icmp_ge e_X4_findPaths_76 h (fun c2 h => ?_) (fun c2 h => ?_)
  · cases h
    exact z_vreturn hR e_X4_findPaths_149
  · refine z_ic e_X4_findPaths_79 ?_
    refine z_istore e_X4_findPaths_80 (by decide) [(2, .int (0 : Int32)), (0, .ref (zad G 47)), (1, .int x1)] rfl ?_
    exact z_sub [1, 2, 0] rfl (l_X4_findPaths_81 hR w74 x1 hw74 zlim (0 : Int32) σ h)
noncomputable def F_X4_findPaths_74L  : ((Int32 × zSt) → Option (Unit × zSt)) → (Int32 × zSt) → Option (Unit × zSt) := fun w s => F_X4_findPaths_74 w s.1 s.2
set_option maxRecDepth 100000 in
theorem l_X4_findPaths_74 {G : zG} {C : zC} {r : Unit} {τ : zSt} (hR : zR G C none none τ)  : ∀ (N : Nat) (x1 : Int32) (σ : zSt), zfix (F_X4_findPaths_74L ) N (x1, σ) = some (r, τ) → zAW G 3 RX4 cX4_findPaths 6 C 74 [(0, .ref (zad G 47)), (1, .int x1)] [] σ := by
  intro N
  induction N with
  | zero =>
    intro x1 σ h
    exact nomatch (show (none : Option (Unit × zSt)) = some (r, τ) from h)
  | succ N ih =>
    intro x1 σ h
    exact b_X4_findPaths_74 hR (zfix (F_X4_findPaths_74L ) N) ih x1 σ h
noncomputable def F_X4_findPaths_72 (σ : zSt) : Option (Unit × zSt) :=
  zfix (F_X4_findPaths_74L ) zlim ((0 : Int32), σ)
set_option maxHeartbeats 4000000 in
set_option maxRecDepth 100000 in
theorem p_X4_findPaths_72 {G : zG} {C : zC} {r : Unit} {τ : zSt} (hR : zR G C none none τ)  (σ : zSt) (h : F_X4_findPaths_72 σ = some (r, τ)) : zAW G 3 RX4 cX4_findPaths 6 C 72 [(0, .ref (zad G 47))] [] σ := by
  unfold F_X4_findPaths_72 at h
  refine z_ic e_X4_findPaths_72 ?_
  refine z_istore e_X4_findPaths_73 (by decide) [(1, .int (0 : Int32)), (0, .ref (zad G 47))] rfl ?_
  exact z_sub [1, 0] rfl (l_X4_findPaths_74 hR  zlim (0 : Int32) σ h)
noncomputable def F_X4_findPaths_55 (w2 : (Int32 × zSt) → Option (Unit × zSt)) (x1 : Int32) (σ : zSt) : Option (Unit × zSt) :=
  gd (vp_in (((4 : Int32) * x1) + x1) 16) (nm (zwr σ 49 (((4 : Int32) * x1) + x1).toNatClampNeg (0 : Int32)) (fun s11 =>
    nm (x1 + (1 : Int32)) (fun v12 =>
      w2 (v12, s11))))
set_option maxHeartbeats 4000000 in
set_option maxRecDepth 100000 in
theorem p_X4_findPaths_55 {G : zG} {C : zC} {r : Unit} {τ : zSt} (hR : zR G C none none τ) (w2 : (Int32 × zSt) → Option (Unit × zSt)) (x1 : Int32) (hw2 : ∀ (x1 : Int32) (σ : zSt), w2 (x1, σ) = some (r, τ) → zAW G 3 RX4 cX4_findPaths 6 C 2 [(0, .ref (zad G 47)), (1, .int x1)] [] σ) (σ : zSt) (h : F_X4_findPaths_55 w2 x1 σ = some (r, τ)) : zAW G 3 RX4 cX4_findPaths 6 C 55 [(0, .ref (zad G 47)), (1, .int x1)] [] σ := by
  unfold F_X4_findPaths_55 at h
  refine z_aload e_X4_findPaths_55 0 rfl ?_
  refine z_getr gf_X4_17_47 e_X4_findPaths_56 ?_
  refine z_ic e_X4_findPaths_59 ?_
  refine z_iload e_X4_findPaths_60 1 rfl ?_
  refine z_imul e_X4_findPaths_61 ?_
  refine z_iload e_X4_findPaths_62 1 rfl ?_
  refine z_iadd e_X4_findPaths_63 ?_
  refine z_ic e_X4_findPaths_64 ?_
  refine z_iast sh_49 e_X4_findPaths_65 h (fun s11 h => ?_)
  refine z_iinc e_X4_findPaths_66 1 rfl (by decide) (by decide) h (fun y => [(1, .int y), (0, .ref (zad G 47))]) (fun _ => rfl) (fun v12 h => ?_)
  refine z_goto e_X4_findPaths_69 ?_
  exact z_sub [1, 0] rfl (hw2 v12 s11 h)
noncomputable def F_X4_findPaths_48 (w2 : (Int32 × zSt) → Option (Unit × zSt)) (w9 : (Int32 × zSt) → Option (Unit × zSt)) (x1 : Int32) (x2 : Int32) (t0 : Int32) (t1 : Int32) (σ : zSt) : Option (Unit × zSt) :=
  gd (vp_in t1 16) (nm (zwr σ 49 t1.toNatClampNeg t0) (fun s17 =>
    nm (x2 + (1 : Int32)) (fun v18 =>
      w9 (v18, s17))))
set_option maxHeartbeats 4000000 in
set_option maxRecDepth 100000 in
theorem p_X4_findPaths_48 {G : zG} {C : zC} {r : Unit} {τ : zSt} (hR : zR G C none none τ) (w2 : (Int32 × zSt) → Option (Unit × zSt)) (w9 : (Int32 × zSt) → Option (Unit × zSt)) (x1 : Int32) (x2 : Int32) (t0 : Int32) (t1 : Int32) (hw2 : ∀ (x1 : Int32) (σ : zSt), w2 (x1, σ) = some (r, τ) → zAW G 3 RX4 cX4_findPaths 6 C 2 [(0, .ref (zad G 47)), (1, .int x1)] [] σ) (hw9 : ∀ (x2 : Int32) (σ : zSt), w9 (x2, σ) = some (r, τ) → zAW G 3 RX4 cX4_findPaths 6 C 9 [(0, .ref (zad G 47)), (1, .int x1), (2, .int x2)] [] σ) (σ : zSt) (h : F_X4_findPaths_48 w2 w9 x1 x2 t0 t1 σ = some (r, τ)) : zAW G 3 RX4 cX4_findPaths 6 C 48 [(0, .ref (zad G 47)), (1, .int x1), (2, .int x2)] [.int t0, .int t1, .ref (zad G 49)] σ := by
  unfold F_X4_findPaths_48 at h
  refine z_iast sh_49 e_X4_findPaths_48 h (fun s17 h => ?_)
  refine z_iinc e_X4_findPaths_49 2 rfl (by decide) (by decide) h (fun y => [(2, .int y), (0, .ref (zad G 47)), (1, .int x1)]) (fun _ => rfl) (fun v18 h => ?_)
  refine z_goto e_X4_findPaths_52 ?_
  exact z_sub [1, 2, 0] rfl (hw9 v18 s17 h)
noncomputable def F_X4_findPaths_9 (w2 : (Int32 × zSt) → Option (Unit × zSt)) (x1 : Int32) (w9 : (Int32 × zSt) → Option (Unit × zSt)) (x2 : Int32) (σ : zSt) : Option (Unit × zSt) :=
  if (4 : Int32) ≤ x2 then (
    F_X4_findPaths_55 w2 x1 σ)
  else (
    bd (F_X5_daysTo x1 x2 σ) (fun q14 s13 =>
      if q14 ≤ 0 then (
        F_X4_findPaths_48 w2 w9 x1 x2 (134217728 : Int32) (((4 : Int32) * x1) + x2) s13)
      else (
        bd (F_X4_price (0 : Int32) q14 s13) (fun q20 s19 =>
          F_X4_findPaths_48 w2 w9 x1 x2 q20 (((4 : Int32) * x1) + x2) s19))))
set_option maxHeartbeats 4000000 in
set_option maxRecDepth 100000 in
theorem b_X4_findPaths_9 {G : zG} {C : zC} {r : Unit} {τ : zSt} (hR : zR G C none none τ) (w2 : (Int32 × zSt) → Option (Unit × zSt)) (x1 : Int32) (hw2 : ∀ (x1 : Int32) (σ : zSt), w2 (x1, σ) = some (r, τ) → zAW G 3 RX4 cX4_findPaths 6 C 2 [(0, .ref (zad G 47)), (1, .int x1)] [] σ) (w9 : (Int32 × zSt) → Option (Unit × zSt)) (hw9 : ∀ (x2 : Int32) (σ : zSt), w9 (x2, σ) = some (r, τ) → zAW G 3 RX4 cX4_findPaths 6 C 9 [(0, .ref (zad G 47)), (1, .int x1), (2, .int x2)] [] σ) (x2 : Int32) (σ : zSt) (h : F_X4_findPaths_9 w2 x1 w9 x2 σ = some (r, τ)) : zAW G 3 RX4 cX4_findPaths 6 C 9 [(0, .ref (zad G 47)), (1, .int x1), (2, .int x2)] [] σ := by
  unfold F_X4_findPaths_9 at h
  refine z_iload e_X4_findPaths_9 2 rfl ?_
  refine z_ic e_X4_findPaths_10 ?_
  refine z_icmp_ge e_X4_findPaths_11 h (fun c10 h => ?_) (fun c10 h => ?_)
  · exact z_sub [0, 1] rfl (p_X4_findPaths_55 hR w2 x1 hw2 σ h)
  · refine z_aload e_X4_findPaths_14 0 rfl ?_
    refine z_getr gf_X4_41_47 e_X4_findPaths_15 ?_
    refine z_iload e_X4_findPaths_18 1 rfl ?_
    refine z_iload e_X4_findPaths_19 2 rfl ?_
    obtain ⟨q14, s13, e15, h⟩ := bd_e h
    refine z_callVi (c0 := 17) (As := [.int x1, .int x2]) (rest := []) lk_X4_91 ob_17 e_X4_findPaths_20 (m_X5_daysTo G x1 x2 σ _ _ e15) (by decide) rfl (Nat.le_of_ble_eq_true rfl) ?_
    refine z_istore e_X4_findPaths_23 (by decide) [(3, .int q14), (0, .ref (zad G 47)), (1, .int x1), (2, .int x2)] rfl ?_
    refine z_aload e_X4_findPaths_24 1 rfl ?_
    refine z_getr gf_X4_17_47 e_X4_findPaths_25 ?_
    refine z_ic e_X4_findPaths_28 ?_
    refine z_iload e_X4_findPaths_29 2 rfl ?_
    refine z_imul e_X4_findPaths_30 ?_
    refine z_iload e_X4_findPaths_31 3 rfl ?_
    refine z_iadd e_X4_findPaths_32 ?_
    refine z_iload e_X4_findPaths_33 0 rfl ?_
    refine z_if_le e_X4_findPaths_34 h (fun c16 h => ?_) (fun c16 h => ?_)
    · refine z_ldc cs_X4_57 e_X4_findPaths_46 ?_
      exact z_sub [1, 2, 3] rfl (p_X4_findPaths_48 hR w2 w9 x1 x2 (134217728 : Int32) (((4 : Int32) * x1) + x2) hw2 hw9 s13 h)
    · refine z_aload e_X4_findPaths_37 1 rfl ?_
      refine z_ic e_X4_findPaths_38 ?_
      refine z_iload e_X4_findPaths_39 0 rfl ?_
      obtain ⟨q20, s19, e21, h⟩ := bd_e h
      refine z_callVi (c0 := 47) (As := [.int (0 : Int32), .int q14]) (rest := [.int (((4 : Int32) * x1) + x2), .ref (zad G 49)]) lk_X4_95 ob_47 e_X4_findPaths_40 (m_X4_price G (0 : Int32) q14 s13 _ _ e21) (by decide) rfl (Nat.le_of_ble_eq_true rfl) ?_
      refine z_goto e_X4_findPaths_43 ?_
      exact z_sub [1, 2, 3] rfl (p_X4_findPaths_48 hR w2 w9 x1 x2 q20 (((4 : Int32) * x1) + x2) hw2 hw9 s19 h)
noncomputable def F_X4_findPaths_9L (w2 : (Int32 × zSt) → Option (Unit × zSt)) (x1 : Int32) : ((Int32 × zSt) → Option (Unit × zSt)) → (Int32 × zSt) → Option (Unit × zSt) := fun w s => F_X4_findPaths_9 w2 x1 w s.1 s.2
set_option maxRecDepth 100000 in
theorem l_X4_findPaths_9 {G : zG} {C : zC} {r : Unit} {τ : zSt} (hR : zR G C none none τ) (w2 : (Int32 × zSt) → Option (Unit × zSt)) (x1 : Int32) (hw2 : ∀ (x1 : Int32) (σ : zSt), w2 (x1, σ) = some (r, τ) → zAW G 3 RX4 cX4_findPaths 6 C 2 [(0, .ref (zad G 47)), (1, .int x1)] [] σ) : ∀ (N : Nat) (x2 : Int32) (σ : zSt), zfix (F_X4_findPaths_9L w2 x1) N (x2, σ) = some (r, τ) → zAW G 3 RX4 cX4_findPaths 6 C 9 [(0, .ref (zad G 47)), (1, .int x1), (2, .int x2)] [] σ := by
  intro N
  induction N with
  | zero =>
    intro x2 σ h
    exact nomatch (show (none : Option (Unit × zSt)) = some (r, τ) from h)
  | succ N ih =>
    intro x2 σ h
    exact b_X4_findPaths_9 hR w2 x1 hw2 (zfix (F_X4_findPaths_9L w2 x1) N) ih x2 σ h
noncomputable def F_X4_findPaths_2 (w2 : (Int32 × zSt) → Option (Unit × zSt)) (x1 : Int32) (σ : zSt) : Option (Unit × zSt) :=
  if (4 : Int32) ≤ x1 then (
    F_X4_findPaths_72  σ)
  else (
    zfix (F_X4_findPaths_9L w2 x1) zlim ((0 : Int32), σ))
set_option maxHeartbeats 4000000 in
set_option maxRecDepth 100000 in
theorem b_X4_findPaths_2 {G : zG} {C : zC} {r : Unit} {τ : zSt} (hR : zR G C none none τ) (w2 : (Int32 × zSt) → Option (Unit × zSt)) (hw2 : ∀ (x1 : Int32) (σ : zSt), w2 (x1, σ) = some (r, τ) → zAW G 3 RX4 cX4_findPaths 6 C 2 [(0, .ref (zad G 47)), (1, .int x1)] [] σ) (x1 : Int32) (σ : zSt) (h : F_X4_findPaths_2 w2 x1 σ = some (r, τ)) : zAW G 3 RX4 cX4_findPaths 6 C 2 [(0, .ref (zad G 47)), (1, .int x1)] [] σ := by
  unfold F_X4_findPaths_2 at h
  refine z_iload e_X4_findPaths_2 1 rfl ?_
  refine z_ic e_X4_findPaths_3 ?_
  refine z_icmp_ge e_X4_findPaths_4 h (fun c1 h => ?_) (fun c1 h => ?_)
  · exact z_sub [0] rfl (p_X4_findPaths_72 hR  σ h)
  · refine z_ic e_X4_findPaths_7 ?_
    refine z_istore e_X4_findPaths_8 (by decide) [(2, .int (0 : Int32)), (0, .ref (zad G 47)), (1, .int x1)] rfl ?_
    exact z_sub [1, 2, 0] rfl (l_X4_findPaths_9 hR w2 x1 hw2 zlim (0 : Int32) σ h)
noncomputable def F_X4_findPaths_2L  : ((Int32 × zSt) → Option (Unit × zSt)) → (Int32 × zSt) → Option (Unit × zSt) := fun w s => F_X4_findPaths_2 w s.1 s.2
set_option maxRecDepth 100000 in
theorem l_X4_findPaths_2 {G : zG} {C : zC} {r : Unit} {τ : zSt} (hR : zR G C none none τ)  : ∀ (N : Nat) (x1 : Int32) (σ : zSt), zfix (F_X4_findPaths_2L ) N (x1, σ) = some (r, τ) → zAW G 3 RX4 cX4_findPaths 6 C 2 [(0, .ref (zad G 47)), (1, .int x1)] [] σ := by
  intro N
  induction N with
  | zero =>
    intro x1 σ h
    exact nomatch (show (none : Option (Unit × zSt)) = some (r, τ) from h)
  | succ N ih =>
    intro x1 σ h
    exact b_X4_findPaths_2 hR (zfix (F_X4_findPaths_2L ) N) ih x1 σ h
noncomputable def F_X4_findPaths_0 (σ : zSt) : Option (Unit × zSt) :=
  zfix (F_X4_findPaths_2L ) zlim ((0 : Int32), σ)
set_option maxHeartbeats 4000000 in
set_option maxRecDepth 100000 in
theorem p_X4_findPaths_0 {G : zG} {C : zC} {r : Unit} {τ : zSt} (hR : zR G C none none τ)  (σ : zSt) (h : F_X4_findPaths_0 σ = some (r, τ)) : zAW G 3 RX4 cX4_findPaths 6 C 0 [(0, .ref (zad G 47))] [] σ := by
  unfold F_X4_findPaths_0 at h
  refine z_ic e_X4_findPaths_0 ?_
  refine z_istore e_X4_findPaths_1 (by decide) [(1, .int (0 : Int32)), (0, .ref (zad G 47))] rfl ?_
  exact z_sub [1, 0] rfl (l_X4_findPaths_2 hR  zlim (0 : Int32) σ h)
noncomputable def F_X4_findPaths (σ : zSt) : Option (Unit × zSt) := F_X4_findPaths_0  σ
set_option maxRecDepth 100000 in
theorem m_X4_findPaths (G : zG) (σ : zSt) (q : Unit) (τ : zSt) (h : F_X4_findPaths  σ = some (q, τ)) : zM G 3 yX4_findPaths cX4_findPaths 6 none [.ref (zad G 47)] σ none τ := by
  unfold F_X4_findPaths at h
  refine zM.of (own := RX4) (by decide +kernel) rfl (Nat.le_of_ble_eq_true rfl) (fun C hR => ?_)
  exact z_sub [0] rfl (p_X4_findPaths_0 hR  σ h)
noncomputable def F_X4_settle_53 (x1 : Int32) (w53 : (Int32 × zSt) → Option (Int32 × zSt)) (x3 : Int32) (σ : zSt) : Option (Int32 × zSt) :=
  if (16 : Int32) ≤ x3 then (
    some ((1 : Int32), σ))
  else (
    nm (((4 : Int32) * x1) + (x3 % (4 : Int32))) (fun v4 =>
      gd (vp_in v4 27648) (
        gd (vp_in (x3 / (4 : Int32)) 4) (
          gd (vp_in x3 16) (
            gd (vp_in v4 27648) (nm (zwr σ 48 v4.toNatClampNeg (jmin (σ.1 48 v4.toNatClampNeg) ((σ.1 50 (x3 / (4 : Int32)).toNatClampNeg) + (σ.1 49 x3.toNatClampNeg)))) (fun s5 =>
              nm (x3 + (1 : Int32)) (fun v6 =>
                w53 (v6, s5)))))))))
set_option maxHeartbeats 4000000 in
set_option maxRecDepth 100000 in
theorem b_X4_settle_53 {G : zG} {C : zC} {r : Int32} {τ : zSt} (hR : zR G C (some .boolean) (some (.int r)) τ) (x1 : Int32) (w53 : (Int32 × zSt) → Option (Int32 × zSt)) (hw53 : ∀ (x3 : Int32) (σ : zSt), w53 (x3, σ) = some (r, τ) → zAW G 1 RX4 cX4_settle 5 C 53 [(0, .ref (zad G 47)), (1, .int x1), (3, .int x3)] [] σ) (x3 : Int32) (σ : zSt) (h : F_X4_settle_53 x1 w53 x3 σ = some (r, τ)) : zAW G 1 RX4 cX4_settle 5 C 53 [(0, .ref (zad G 47)), (1, .int x1), (3, .int x3)] [] σ := by
  unfold F_X4_settle_53 at h
  refine z_iload e_X4_settle_53 2 rfl ?_
  refine z_ic e_X4_settle_54 ?_
  refine z_icmp_ge e_X4_settle_56 h (fun c3 h => ?_) (fun c3 h => ?_)
  · refine z_ic e_X4_settle_106 ?_
    cases h
    exact z_zreturn hR e_X4_settle_107 (Or.inr rfl)
  · refine z_ic e_X4_settle_59 ?_
    refine z_iload e_X4_settle_60 1 rfl ?_
    refine z_imul e_X4_settle_61 ?_
    refine z_iload e_X4_settle_62 2 rfl ?_
    refine z_ic e_X4_settle_63 ?_
    refine z_irem e_X4_settle_64 (by decide) ?_
    refine z_iadd e_X4_settle_65 ?_
    refine z_nmI h (fun v4 h => ?_)
    refine z_istore e_X4_settle_66 (by decide) [(4, .int v4), (0, .ref (zad G 47)), (1, .int x1), (3, .int x3)] rfl ?_
    refine z_aload e_X4_settle_68 1 rfl ?_
    refine z_getr gf_X4_13_47 e_X4_settle_69 ?_
    refine z_iload e_X4_settle_72 0 rfl ?_
    refine z_aload e_X4_settle_74 1 rfl ?_
    refine z_getr gf_X4_13_47 e_X4_settle_75 ?_
    refine z_iload e_X4_settle_78 0 rfl ?_
    refine z_iald sh_48 e_X4_settle_80 h (fun h => ?_)
    refine z_aload e_X4_settle_81 1 rfl ?_
    refine z_getr gf_X4_20_47 e_X4_settle_82 ?_
    refine z_iload e_X4_settle_85 3 rfl ?_
    refine z_ic e_X4_settle_86 ?_
    refine z_idiv e_X4_settle_87 (by decide) ?_
    refine z_iald sh_50 e_X4_settle_88 h (fun h => ?_)
    refine z_aload e_X4_settle_89 1 rfl ?_
    refine z_getr gf_X4_17_47 e_X4_settle_90 ?_
    refine z_iload e_X4_settle_93 3 rfl ?_
    refine z_iald sh_49 e_X4_settle_94 h (fun h => ?_)
    refine z_iadd e_X4_settle_95 ?_
    refine z_jmin mm_X4_98 (Nat.le_of_ble_eq_true rfl) (by decide) e_X4_settle_96 ?_
    refine z_iast sh_48 e_X4_settle_99 h (fun s5 h => ?_)
    refine z_iinc e_X4_settle_100 3 rfl (by decide) (by decide) h (fun y => [(3, .int y), (4, .int v4), (0, .ref (zad G 47)), (1, .int x1)]) (fun _ => rfl) (fun v6 h => ?_)
    refine z_goto e_X4_settle_103 ?_
    exact z_sub [2, 3, 0] rfl (hw53 v6 s5 h)
noncomputable def F_X4_settle_53L (x1 : Int32) : ((Int32 × zSt) → Option (Int32 × zSt)) → (Int32 × zSt) → Option (Int32 × zSt) := fun w s => F_X4_settle_53 x1 w s.1 s.2
set_option maxRecDepth 100000 in
theorem l_X4_settle_53 {G : zG} {C : zC} {r : Int32} {τ : zSt} (hR : zR G C (some .boolean) (some (.int r)) τ) (x1 : Int32) : ∀ (N : Nat) (x3 : Int32) (σ : zSt), zfix (F_X4_settle_53L x1) N (x3, σ) = some (r, τ) → zAW G 1 RX4 cX4_settle 5 C 53 [(0, .ref (zad G 47)), (1, .int x1), (3, .int x3)] [] σ := by
  intro N
  induction N with
  | zero =>
    intro x3 σ h
    exact nomatch (show (none : Option (Int32 × zSt)) = some (r, τ) from h)
  | succ N ih =>
    intro x3 σ h
    exact b_X4_settle_53 hR x1 (zfix (F_X4_settle_53L x1) N) ih x3 σ h
noncomputable def F_X4_settle_43 (x1 : Int32) (x2 : Int32) (σ : zSt) : Option (Int32 × zSt) :=
  if x2 < (134217728 : Int32) then (
    zfix (F_X4_settle_53L x1) zlim ((0 : Int32), σ))
  else (
    some ((0 : Int32), σ))
set_option maxHeartbeats 4000000 in
set_option maxRecDepth 100000 in
theorem p_X4_settle_43 {G : zG} {C : zC} {r : Int32} {τ : zSt} (hR : zR G C (some .boolean) (some (.int r)) τ) (x1 : Int32) (x2 : Int32) (σ : zSt) (h : F_X4_settle_43 x1 x2 σ = some (r, τ)) : zAW G 1 RX4 cX4_settle 5 C 43 [(0, .ref (zad G 47)), (1, .int x1), (2, .int x2)] [] σ := by
  unfold F_X4_settle_43 at h
  refine z_iload e_X4_settle_43 2 rfl ?_
  refine z_ldc cs_X4_57 e_X4_settle_44 ?_
  refine z_icmp_lt e_X4_settle_46 h (fun c2 h => ?_) (fun c2 h => ?_)
  · refine z_ic e_X4_settle_51 ?_
    refine z_istore e_X4_settle_52 (by decide) [(3, .int (0 : Int32)), (0, .ref (zad G 47)), (1, .int x1), (2, .int x2)] rfl ?_
    exact z_sub [1, 2, 0] rfl (l_X4_settle_53 hR x1 zlim (0 : Int32) σ h)
  · refine z_ic e_X4_settle_49 ?_
    cases h
    exact z_zreturn hR e_X4_settle_50 (Or.inl rfl)
noncomputable def F_X4_settle_5 (x1 : Int32) (w5 : (Int32 × Int32 × zSt) → Option (Int32 × zSt)) (x2 : Int32) (x3 : Int32) (σ : zSt) : Option (Int32 × zSt) :=
  if (4 : Int32) ≤ x3 then (
    F_X4_settle_43 x1 x2 σ)
  else (
    gd (vp_in (((4 : Int32) * x1) + x3) 27648) (
      gd (vp_in x3 4) (nm (zwr σ 50 x3.toNatClampNeg (σ.1 48 (((4 : Int32) * x1) + x3).toNatClampNeg)) (fun s7 =>
        gd (vp_in x3 4) (
          nm (jmin x2 (s7.1 50 x3.toNatClampNeg)) (fun v8 =>
            nm (x3 + (1 : Int32)) (fun v9 =>
              w5 (v8, v9, s7))))))))
set_option maxHeartbeats 4000000 in
set_option maxRecDepth 100000 in
theorem b_X4_settle_5 {G : zG} {C : zC} {r : Int32} {τ : zSt} (hR : zR G C (some .boolean) (some (.int r)) τ) (x1 : Int32) (w5 : (Int32 × Int32 × zSt) → Option (Int32 × zSt)) (hw5 : ∀ (x2 : Int32) (x3 : Int32) (σ : zSt), w5 (x2, x3, σ) = some (r, τ) → zAW G 1 RX4 cX4_settle 5 C 5 [(0, .ref (zad G 47)), (1, .int x1), (2, .int x2), (3, .int x3)] [] σ) (x2 : Int32) (x3 : Int32) (σ : zSt) (h : F_X4_settle_5 x1 w5 x2 x3 σ = some (r, τ)) : zAW G 1 RX4 cX4_settle 5 C 5 [(0, .ref (zad G 47)), (1, .int x1), (2, .int x2), (3, .int x3)] [] σ := by
  unfold F_X4_settle_5 at h
  refine z_iload e_X4_settle_5 3 rfl ?_
  refine z_ic e_X4_settle_6 ?_
  refine z_icmp_ge e_X4_settle_7 h (fun c1 h => ?_) (fun c1 h => ?_)
  · exact z_sub [0, 1, 2] rfl (p_X4_settle_43 hR x1 x2 σ h)
  · refine z_aload e_X4_settle_10 0 rfl ?_
    refine z_getr gf_X4_20_47 e_X4_settle_11 ?_
    refine z_iload e_X4_settle_14 3 rfl ?_
    refine z_aload e_X4_settle_15 0 rfl ?_
    refine z_getr gf_X4_13_47 e_X4_settle_16 ?_
    refine z_ic e_X4_settle_19 ?_
    refine z_iload e_X4_settle_20 1 rfl ?_
    refine z_imul e_X4_settle_21 ?_
    refine z_iload e_X4_settle_22 3 rfl ?_
    refine z_iadd e_X4_settle_23 ?_
    refine z_iald sh_48 e_X4_settle_24 h (fun h => ?_)
    refine z_iast sh_50 e_X4_settle_25 h (fun s7 h => ?_)
    refine z_iload e_X4_settle_26 2 rfl ?_
    refine z_aload e_X4_settle_27 0 rfl ?_
    refine z_getr gf_X4_20_47 e_X4_settle_28 ?_
    refine z_iload e_X4_settle_31 3 rfl ?_
    refine z_iald sh_50 e_X4_settle_32 h (fun h => ?_)
    refine z_jmin mm_X4_98 (Nat.le_of_ble_eq_true rfl) (by decide) e_X4_settle_33 ?_
    refine z_nmI h (fun v8 h => ?_)
    refine z_istore e_X4_settle_36 (by decide) [(2, .int v8), (0, .ref (zad G 47)), (1, .int x1), (3, .int x3)] rfl ?_
    refine z_iinc e_X4_settle_37 3 rfl (by decide) (by decide) h (fun y => [(3, .int y), (2, .int v8), (0, .ref (zad G 47)), (1, .int x1)]) (fun _ => rfl) (fun v9 h => ?_)
    refine z_goto e_X4_settle_40 ?_
    exact z_sub [2, 3, 1, 0] rfl (hw5 v8 v9 s7 h)
noncomputable def F_X4_settle_5L (x1 : Int32) : ((Int32 × Int32 × zSt) → Option (Int32 × zSt)) → (Int32 × Int32 × zSt) → Option (Int32 × zSt) := fun w s => F_X4_settle_5 x1 w s.1 s.2.1 s.2.2
set_option maxRecDepth 100000 in
theorem l_X4_settle_5 {G : zG} {C : zC} {r : Int32} {τ : zSt} (hR : zR G C (some .boolean) (some (.int r)) τ) (x1 : Int32) : ∀ (N : Nat) (x2 : Int32) (x3 : Int32) (σ : zSt), zfix (F_X4_settle_5L x1) N (x2, x3, σ) = some (r, τ) → zAW G 1 RX4 cX4_settle 5 C 5 [(0, .ref (zad G 47)), (1, .int x1), (2, .int x2), (3, .int x3)] [] σ := by
  intro N
  induction N with
  | zero =>
    intro x2 x3 σ h
    exact nomatch (show (none : Option (Int32 × zSt)) = some (r, τ) from h)
  | succ N ih =>
    intro x2 x3 σ h
    exact b_X4_settle_5 hR x1 (zfix (F_X4_settle_5L x1) N) ih x2 x3 σ h
noncomputable def F_X4_settle_0 (x1 : Int32) (σ : zSt) : Option (Int32 × zSt) :=
  zfix (F_X4_settle_5L x1) zlim ((134217728 : Int32), (0 : Int32), σ)
set_option maxHeartbeats 4000000 in
set_option maxRecDepth 100000 in
theorem p_X4_settle_0 {G : zG} {C : zC} {r : Int32} {τ : zSt} (hR : zR G C (some .boolean) (some (.int r)) τ) (x1 : Int32) (σ : zSt) (h : F_X4_settle_0 x1 σ = some (r, τ)) : zAW G 1 RX4 cX4_settle 5 C 0 [(0, .ref (zad G 47)), (1, .int x1)] [] σ := by
  unfold F_X4_settle_0 at h
  refine z_ldc cs_X4_57 e_X4_settle_0 ?_
  refine z_istore e_X4_settle_2 (by decide) [(2, .int (134217728 : Int32)), (0, .ref (zad G 47)), (1, .int x1)] rfl ?_
  refine z_ic e_X4_settle_3 ?_
  refine z_istore e_X4_settle_4 (by decide) [(3, .int (0 : Int32)), (2, .int (134217728 : Int32)), (0, .ref (zad G 47)), (1, .int x1)] rfl ?_
  exact z_sub [2, 3, 1, 0] rfl (l_X4_settle_5 hR x1 zlim (134217728 : Int32) (0 : Int32) σ h)
noncomputable def F_X4_settle (x1 : Int32) (σ : zSt) : Option (Int32 × zSt) := F_X4_settle_0 x1 σ
set_option maxRecDepth 100000 in
theorem m_X4_settle (G : zG) (x1 : Int32) (σ : zSt) (q : Int32) (τ : zSt) (h : F_X4_settle x1 σ = some (q, τ)) : zM G 1 yX4_settle cX4_settle 5 (some .boolean) [.ref (zad G 47), .int x1] σ (some (.int q)) τ := by
  unfold F_X4_settle at h
  refine zM.of (own := RX4) (by decide +kernel) rfl (Nat.le_of_ble_eq_true rfl) (fun C hR => ?_)
  exact z_sub [0, 1] rfl (p_X4_settle_0 hR x1 σ h)
noncomputable def F_X4_helpfulBits_0 (x1 : Int32) (σ : zSt) : Option (Int32 × zSt) :=
  if x1 < 0 then (
    some ((0 : Int32), σ))
  else (
    if (6 : Int32) ≤ x1 then (
      some ((0 : Int32), σ))
    else (
      bd (F_X5_canBits x1 σ) (fun q4 s3 =>
        gd (vp_in x1 6) (
          some ((q4 &&& (s3.1 52 x1.toNatClampNeg)), s3)))))
set_option maxHeartbeats 4000000 in
set_option maxRecDepth 100000 in
theorem p_X4_helpfulBits_0 {G : zG} {C : zC} {r : Int32} {τ : zSt} (hR : zR G C (some .int) (some (.int r)) τ) (x1 : Int32) (σ : zSt) (h : F_X4_helpfulBits_0 x1 σ = some (r, τ)) : zAW G 3 RX4 cX4_helpfulBits 2 C 0 [(0, .ref (zad G 47)), (1, .int x1)] [] σ := by
  unfold F_X4_helpfulBits_0 at h
  refine z_iload e_X4_helpfulBits_0 1 rfl ?_
  refine z_if_lt e_X4_helpfulBits_1 h (fun c1 h => ?_) (fun c1 h => ?_)
  · refine z_ic e_X4_helpfulBits_28 ?_
    cases h
    exact z_ireturn hR e_X4_helpfulBits_29
  · refine z_iload e_X4_helpfulBits_4 1 rfl ?_
    refine z_ic e_X4_helpfulBits_5 ?_
    refine z_icmp_ge e_X4_helpfulBits_7 h (fun c2 h => ?_) (fun c2 h => ?_)
    · refine z_ic e_X4_helpfulBits_28 ?_
      cases h
      exact z_ireturn hR e_X4_helpfulBits_29
    · refine z_aload e_X4_helpfulBits_10 0 rfl ?_
      refine z_getr gf_X4_41_47 e_X4_helpfulBits_11 ?_
      refine z_iload e_X4_helpfulBits_14 1 rfl ?_
      obtain ⟨q4, s3, e5, h⟩ := bd_e h
      refine z_callVi (c0 := 17) (As := [.int x1]) (rest := []) lk_X4_125 ob_17 e_X4_helpfulBits_15 (m_X5_canBits G x1 σ _ _ e5) (by decide) rfl (Nat.le_of_ble_eq_true rfl) ?_
      refine z_aload e_X4_helpfulBits_18 0 rfl ?_
      refine z_getr gf_X4_26_47 e_X4_helpfulBits_19 ?_
      refine z_iload e_X4_helpfulBits_22 1 rfl ?_
      refine z_iald sh_52 e_X4_helpfulBits_23 h (fun h => ?_)
      refine z_iand e_X4_helpfulBits_24 ?_
      refine z_goto e_X4_helpfulBits_25 ?_
      cases h
      exact z_ireturn hR e_X4_helpfulBits_29
noncomputable def F_X4_helpfulBits (x1 : Int32) (σ : zSt) : Option (Int32 × zSt) := F_X4_helpfulBits_0 x1 σ
set_option maxRecDepth 100000 in
theorem m_X4_helpfulBits (G : zG) (x1 : Int32) (σ : zSt) (q : Int32) (τ : zSt) (h : F_X4_helpfulBits x1 σ = some (q, τ)) : zM G 3 yX4_helpfulBits cX4_helpfulBits 2 (some .int) [.ref (zad G 47), .int x1] σ (some (.int q)) τ := by
  unfold F_X4_helpfulBits at h
  refine zM.of (own := RX4) (by decide +kernel) rfl (Nat.le_of_ble_eq_true rfl) (fun C hR => ?_)
  exact z_sub [0, 1] rfl (p_X4_helpfulBits_0 hR x1 σ h)
noncomputable def F_X4_leave_136 (w19 : (Int32 × zSt) → Option (Unit × zSt)) (x2 : Int32) (x3 : Int32) (σ : zSt) : Option (Unit × zSt) :=
  nm (x3 + (1 : Int32)) (fun v15 =>
    w19 (v15, σ))
set_option maxHeartbeats 4000000 in
set_option maxRecDepth 100000 in
theorem p_X4_leave_136 {G : zG} {C : zC} {r : Unit} {τ : zSt} (hR : zR G C none none τ) (w19 : (Int32 × zSt) → Option (Unit × zSt)) (x2 : Int32) (x3 : Int32) (hw19 : ∀ (x3 : Int32) (σ : zSt), w19 (x3, σ) = some (r, τ) → zAW G 4 RX4 cX4_leave 8 C 19 [(0, .ref (zad G 47)), (2, .int x2), (3, .int x3)] [] σ) (σ : zSt) (h : F_X4_leave_136 w19 x2 x3 σ = some (r, τ)) : zAW G 4 RX4 cX4_leave 8 C 136 [(0, .ref (zad G 47)), (2, .int x2), (3, .int x3)] [] σ := by
  unfold F_X4_leave_136 at h
  refine z_iinc e_X4_leave_136 2 rfl (by decide) (by decide) h (fun y => [(3, .int y), (0, .ref (zad G 47)), (2, .int x2)]) (fun _ => rfl) (fun v15 h => ?_)
  refine z_goto e_X4_leave_139 ?_
  exact z_sub [1, 2, 0] rfl (hw19 v15 σ h)
noncomputable def F_X4_leave_130 (w19 : (Int32 × zSt) → Option (Unit × zSt)) (w54 : (Int32 × zSt) → Option (Unit × zSt)) (x2 : Int32) (x3 : Int32) (x4 : Int32) (x5 : Int32) (x6 : Int32) (σ : zSt) : Option (Unit × zSt) :=
  nm (x6 + (1 : Int32)) (fun v22 =>
    w54 (v22, σ))
set_option maxHeartbeats 4000000 in
set_option maxRecDepth 100000 in
theorem p_X4_leave_130 {G : zG} {C : zC} {r : Unit} {τ : zSt} (hR : zR G C none none τ) (w19 : (Int32 × zSt) → Option (Unit × zSt)) (w54 : (Int32 × zSt) → Option (Unit × zSt)) (x2 : Int32) (x3 : Int32) (x4 : Int32) (x5 : Int32) (x6 : Int32) (hw19 : ∀ (x3 : Int32) (σ : zSt), w19 (x3, σ) = some (r, τ) → zAW G 4 RX4 cX4_leave 8 C 19 [(0, .ref (zad G 47)), (2, .int x2), (3, .int x3)] [] σ) (hw54 : ∀ (x6 : Int32) (σ : zSt), w54 (x6, σ) = some (r, τ) → zAW G 4 RX4 cX4_leave 8 C 54 [(0, .ref (zad G 47)), (2, .int x2), (3, .int x3), (4, .int x4), (5, .int x5), (6, .int x6)] [] σ) (σ : zSt) (h : F_X4_leave_130 w19 w54 x2 x3 x4 x5 x6 σ = some (r, τ)) : zAW G 4 RX4 cX4_leave 8 C 130 [(0, .ref (zad G 47)), (2, .int x2), (3, .int x3), (4, .int x4), (5, .int x5), (6, .int x6)] [] σ := by
  unfold F_X4_leave_130 at h
  refine z_iinc e_X4_leave_130 5 rfl (by decide) (by decide) h (fun y => [(6, .int y), (0, .ref (zad G 47)), (2, .int x2), (3, .int x3), (4, .int x4), (5, .int x5)]) (fun _ => rfl) (fun v22 h => ?_)
  refine z_goto e_X4_leave_133 ?_
  exact z_sub [1, 2, 3, 4, 5, 0] rfl (hw54 v22 σ h)
noncomputable def F_X4_leave_94 (w19 : (Int32 × zSt) → Option (Unit × zSt)) (w54 : (Int32 × zSt) → Option (Unit × zSt)) (x2 : Int32) (x3 : Int32) (x4 : Int32) (x5 : Int32) (x6 : Int32) (t0 : Int32) (σ : zSt) : Option (Unit × zSt) :=
  if t0 < 0 then (
    F_X4_leave_130 w19 w54 x2 x3 x4 x5 x6 σ)
  else (
    if (27648 : Int32) ≤ t0 then (
      F_X4_leave_130 w19 w54 x2 x3 x4 x5 x6 σ)
    else (
      gd (vp_in t0 27648) (
        if (σ.1 48 t0.toNatClampNeg) ≤ x5 then (
          F_X4_leave_130 w19 w54 x2 x3 x4 x5 x6 σ)
        else (
          gd (vp_in t0 27648) (nm (zwr σ 48 t0.toNatClampNeg x5) (fun s25 =>
            F_X4_leave_130 w19 w54 x2 x3 x4 x5 x6 s25))))))
set_option maxHeartbeats 4000000 in
set_option maxRecDepth 100000 in
theorem p_X4_leave_94 {G : zG} {C : zC} {r : Unit} {τ : zSt} (hR : zR G C none none τ) (w19 : (Int32 × zSt) → Option (Unit × zSt)) (w54 : (Int32 × zSt) → Option (Unit × zSt)) (x2 : Int32) (x3 : Int32) (x4 : Int32) (x5 : Int32) (x6 : Int32) (t0 : Int32) (hw19 : ∀ (x3 : Int32) (σ : zSt), w19 (x3, σ) = some (r, τ) → zAW G 4 RX4 cX4_leave 8 C 19 [(0, .ref (zad G 47)), (2, .int x2), (3, .int x3)] [] σ) (hw54 : ∀ (x6 : Int32) (σ : zSt), w54 (x6, σ) = some (r, τ) → zAW G 4 RX4 cX4_leave 8 C 54 [(0, .ref (zad G 47)), (2, .int x2), (3, .int x3), (4, .int x4), (5, .int x5), (6, .int x6)] [] σ) (σ : zSt) (h : F_X4_leave_94 w19 w54 x2 x3 x4 x5 x6 t0 σ = some (r, τ)) : zAW G 4 RX4 cX4_leave 8 C 94 [(0, .ref (zad G 47)), (2, .int x2), (3, .int x3), (4, .int x4), (5, .int x5), (6, .int x6)] [.int t0] σ := by
  unfold F_X4_leave_94 at h
  refine z_istore e_X4_leave_94 (by decide) [(7, .int t0), (0, .ref (zad G 47)), (2, .int x2), (3, .int x3), (4, .int x4), (5, .int x5), (6, .int x6)] rfl ?_
  refine z_iload e_X4_leave_96 0 rfl ?_
  refine z_if_lt e_X4_leave_98 h (fun c21 h => ?_) (fun c21 h => ?_)
  · exact z_sub [1, 2, 3, 4, 5, 6] rfl (p_X4_leave_130 hR w19 w54 x2 x3 x4 x5 x6 hw19 hw54 σ h)
  · refine z_iload e_X4_leave_101 0 rfl ?_
    refine z_ic e_X4_leave_103 ?_
    refine z_icmp_ge e_X4_leave_106 h (fun c23 h => ?_) (fun c23 h => ?_)
    · exact z_sub [1, 2, 3, 4, 5, 6] rfl (p_X4_leave_130 hR w19 w54 x2 x3 x4 x5 x6 hw19 hw54 σ h)
    · refine z_aload e_X4_leave_109 1 rfl ?_
      refine z_getr gf_X4_13_47 e_X4_leave_110 ?_
      refine z_iload e_X4_leave_113 0 rfl ?_
      refine z_iald sh_48 e_X4_leave_115 h (fun h => ?_)
      refine z_iload e_X4_leave_116 5 rfl ?_
      refine z_icmp_le e_X4_leave_118 h (fun c24 h => ?_) (fun c24 h => ?_)
      · exact z_sub [1, 2, 3, 4, 5, 6] rfl (p_X4_leave_130 hR w19 w54 x2 x3 x4 x5 x6 hw19 hw54 σ h)
      · refine z_aload e_X4_leave_121 1 rfl ?_
        refine z_getr gf_X4_13_47 e_X4_leave_122 ?_
        refine z_iload e_X4_leave_125 0 rfl ?_
        refine z_iload e_X4_leave_127 5 rfl ?_
        refine z_iast sh_48 e_X4_leave_129 h (fun s25 h => ?_)
        exact z_sub [1, 2, 3, 4, 5, 6] rfl (p_X4_leave_130 hR w19 w54 x2 x3 x4 x5 x6 hw19 hw54 s25 h)
noncomputable def F_X4_leave_54 (w19 : (Int32 × zSt) → Option (Unit × zSt)) (x2 : Int32) (x3 : Int32) (x4 : Int32) (x5 : Int32) (w54 : (Int32 × zSt) → Option (Unit × zSt)) (x6 : Int32) (σ : zSt) : Option (Unit × zSt) :=
  if (8 : Int32) ≤ x6 then (
    F_X4_leave_136 w19 x2 x3 σ)
  else (
    if (x4 >>> (x6 &&& 31)) = 0 then (
      F_X4_leave_136 w19 x2 x3 σ)
    else (
      if ((x4 >>> (x6 &&& 31)) &&& (1 : Int32)) = (1 : Int32) then (
        bd (F_X5_after x3 x6 σ) (fun q19 s18 =>
          F_X4_leave_94 w19 w54 x2 x3 x4 x5 x6 q19 s18))
      else (
        F_X4_leave_94 w19 w54 x2 x3 x4 x5 x6 (-1 : Int32) σ)))
set_option maxHeartbeats 4000000 in
set_option maxRecDepth 100000 in
theorem b_X4_leave_54 {G : zG} {C : zC} {r : Unit} {τ : zSt} (hR : zR G C none none τ) (w19 : (Int32 × zSt) → Option (Unit × zSt)) (x2 : Int32) (x3 : Int32) (x4 : Int32) (x5 : Int32) (hw19 : ∀ (x3 : Int32) (σ : zSt), w19 (x3, σ) = some (r, τ) → zAW G 4 RX4 cX4_leave 8 C 19 [(0, .ref (zad G 47)), (2, .int x2), (3, .int x3)] [] σ) (w54 : (Int32 × zSt) → Option (Unit × zSt)) (hw54 : ∀ (x6 : Int32) (σ : zSt), w54 (x6, σ) = some (r, τ) → zAW G 4 RX4 cX4_leave 8 C 54 [(0, .ref (zad G 47)), (2, .int x2), (3, .int x3), (4, .int x4), (5, .int x5), (6, .int x6)] [] σ) (x6 : Int32) (σ : zSt) (h : F_X4_leave_54 w19 x2 x3 x4 x5 w54 x6 σ = some (r, τ)) : zAW G 4 RX4 cX4_leave 8 C 54 [(0, .ref (zad G 47)), (2, .int x2), (3, .int x3), (4, .int x4), (5, .int x5), (6, .int x6)] [] σ := by
  unfold F_X4_leave_54 at h
  refine z_iload e_X4_leave_54 5 rfl ?_
  refine z_ic e_X4_leave_56 ?_
  refine z_icmp_ge e_X4_leave_58 h (fun c14 h => ?_) (fun c14 h => ?_)
  · exact z_sub [0, 1, 2] rfl (p_X4_leave_136 hR w19 x2 x3 hw19 σ h)
  · refine z_iload e_X4_leave_61 3 rfl ?_
    refine z_iload e_X4_leave_63 5 rfl ?_
    refine z_ishr e_X4_leave_65 ?_
    refine z_if_eq e_X4_leave_66 h (fun c16 h => ?_) (fun c16 h => ?_)
    · exact z_sub [0, 1, 2] rfl (p_X4_leave_136 hR w19 x2 x3 hw19 σ h)
    · refine z_iload e_X4_leave_69 3 rfl ?_
      refine z_iload e_X4_leave_71 5 rfl ?_
      refine z_ishr e_X4_leave_73 ?_
      refine z_ic e_X4_leave_74 ?_
      refine z_iand e_X4_leave_75 ?_
      refine z_ic e_X4_leave_76 ?_
      refine z_icmp_ne e_X4_leave_77 h (fun c17 h => ?_) (fun c17 h => ?_)
      · refine z_aload e_X4_leave_80 0 rfl ?_
        refine z_getr gf_X4_41_47 e_X4_leave_81 ?_
        refine z_iload e_X4_leave_84 2 rfl ?_
        refine z_iload e_X4_leave_85 5 rfl ?_
        obtain ⟨q19, s18, e20, h⟩ := bd_e h
        refine z_callVi (c0 := 17) (As := [.int x3, .int x6]) (rest := []) lk_X4_122 ob_17 e_X4_leave_87 (m_X5_after G x3 x6 σ _ _ e20) (by decide) rfl (Nat.le_of_ble_eq_true rfl) ?_
        refine z_goto e_X4_leave_90 ?_
        exact z_sub [0, 1, 2, 3, 4, 5] rfl (p_X4_leave_94 hR w19 w54 x2 x3 x4 x5 x6 q19 hw19 hw54 s18 h)
      · refine z_ic e_X4_leave_93 ?_
        exact z_sub [0, 1, 2, 3, 4, 5] rfl (p_X4_leave_94 hR w19 w54 x2 x3 x4 x5 x6 (-1 : Int32) hw19 hw54 σ h)
noncomputable def F_X4_leave_54L (w19 : (Int32 × zSt) → Option (Unit × zSt)) (x2 : Int32) (x3 : Int32) (x4 : Int32) (x5 : Int32) : ((Int32 × zSt) → Option (Unit × zSt)) → (Int32 × zSt) → Option (Unit × zSt) := fun w s => F_X4_leave_54 w19 x2 x3 x4 x5 w s.1 s.2
set_option maxRecDepth 100000 in
theorem l_X4_leave_54 {G : zG} {C : zC} {r : Unit} {τ : zSt} (hR : zR G C none none τ) (w19 : (Int32 × zSt) → Option (Unit × zSt)) (x2 : Int32) (x3 : Int32) (x4 : Int32) (x5 : Int32) (hw19 : ∀ (x3 : Int32) (σ : zSt), w19 (x3, σ) = some (r, τ) → zAW G 4 RX4 cX4_leave 8 C 19 [(0, .ref (zad G 47)), (2, .int x2), (3, .int x3)] [] σ) : ∀ (N : Nat) (x6 : Int32) (σ : zSt), zfix (F_X4_leave_54L w19 x2 x3 x4 x5) N (x6, σ) = some (r, τ) → zAW G 4 RX4 cX4_leave 8 C 54 [(0, .ref (zad G 47)), (2, .int x2), (3, .int x3), (4, .int x4), (5, .int x5), (6, .int x6)] [] σ := by
  intro N
  induction N with
  | zero =>
    intro x6 σ h
    exact nomatch (show (none : Option (Unit × zSt)) = some (r, τ) from h)
  | succ N ih =>
    intro x6 σ h
    exact b_X4_leave_54 hR w19 x2 x3 x4 x5 hw19 (zfix (F_X4_leave_54L w19 x2 x3 x4 x5) N) ih x6 σ h
noncomputable def F_X4_leave_19 (x2 : Int32) (w19 : (Int32 × zSt) → Option (Unit × zSt)) (x3 : Int32) (σ : zSt) : Option (Unit × zSt) :=
  if (6 : Int32) ≤ x3 then (
    some ((), σ))
  else (
    bd (F_X4_helpfulBits x3 σ) (fun q7 s6 =>
      nm (if x3 = (5 : Int32) then (0 : Int32) else (1 : Int32)) (fun v9 =>
        bd (F_X4_price x3 v9 s6) (fun q11 s10 =>
          nm (x2 + q11) (fun v13 =>
            zfix (F_X4_leave_54L w19 x2 x3 q7 v13) zlim ((0 : Int32), s10))))))
set_option maxHeartbeats 4000000 in
set_option maxRecDepth 100000 in
theorem b_X4_leave_19 {G : zG} {C : zC} {r : Unit} {τ : zSt} (hR : zR G C none none τ) (x2 : Int32) (w19 : (Int32 × zSt) → Option (Unit × zSt)) (hw19 : ∀ (x3 : Int32) (σ : zSt), w19 (x3, σ) = some (r, τ) → zAW G 4 RX4 cX4_leave 8 C 19 [(0, .ref (zad G 47)), (2, .int x2), (3, .int x3)] [] σ) (x3 : Int32) (σ : zSt) (h : F_X4_leave_19 x2 w19 x3 σ = some (r, τ)) : zAW G 4 RX4 cX4_leave 8 C 19 [(0, .ref (zad G 47)), (2, .int x2), (3, .int x3)] [] σ := by
  unfold F_X4_leave_19 at h
  refine z_iload e_X4_leave_19 2 rfl ?_
  refine z_ic e_X4_leave_20 ?_
  refine z_icmp_ge e_X4_leave_22 h (fun c5 h => ?_) (fun c5 h => ?_)
  · cases h
    exact z_vreturn hR e_X4_leave_142
  · refine z_aload e_X4_leave_25 0 rfl ?_
    refine z_iload e_X4_leave_26 2 rfl ?_
    obtain ⟨q7, s6, e8, h⟩ := bd_e h
    refine z_callVi (c0 := 47) (As := [.int x3]) (rest := []) lk_X4_119 ob_47 e_X4_leave_27 (m_X4_helpfulBits G x3 σ _ _ e8) (by decide) rfl (Nat.le_of_ble_eq_true rfl) ?_
    refine z_istore e_X4_leave_30 (by decide) [(4, .int q7), (0, .ref (zad G 47)), (2, .int x2), (3, .int x3)] rfl ?_
    refine z_iload e_X4_leave_32 2 rfl ?_
    refine z_aload e_X4_leave_33 1 rfl ?_
    refine z_iload e_X4_leave_34 3 rfl ?_
    refine z_iload e_X4_leave_35 3 rfl ?_
    refine z_ic e_X4_leave_36 ?_
    obtain ⟨v9, ev9, h⟩ := nm_i h
    have jv9 : zAW G 4 RX4 cX4_leave 8 C 45 [(0, .ref (zad G 47)), (2, .int x2), (3, .int x3), (4, .int q7)] [.int v9, .int x3, .ref (zad G 47), .int x2] s6 := by
      obtain ⟨q11, s10, e12, h⟩ := bd_e h
      refine z_callVi (c0 := 47) (As := [.int x3, .int v9]) (rest := [.int x2]) lk_X4_95 ob_47 e_X4_leave_45 (m_X4_price G x3 v9 s6 _ _ e12) (by decide) rfl (Nat.le_of_ble_eq_true rfl) ?_
      refine z_iadd e_X4_leave_48 ?_
      refine z_nmI h (fun v13 h => ?_)
      refine z_istore e_X4_leave_49 (by decide) [(5, .int v13), (0, .ref (zad G 47)), (2, .int x2), (3, .int x3), (4, .int q7)] rfl ?_
      refine z_ic e_X4_leave_51 ?_
      refine z_istore e_X4_leave_52 (by decide) [(6, .int (0 : Int32)), (5, .int v13), (0, .ref (zad G 47)), (2, .int x2), (3, .int x3), (4, .int q7)] rfl ?_
      exact z_sub [2, 3, 4, 5, 1, 0] rfl (l_X4_leave_54 hR w19 x2 x3 q7 v13 hw19 zlim (0 : Int32) s10 h)
    refine y_icmp_ne e_X4_leave_37 (fun c26 => ?_) (fun c26 => ?_)
    · refine z_ic e_X4_leave_40 ?_
      refine z_goto e_X4_leave_41 ?_
      rw [if_pos c26] at ev9
      subst ev9
      exact z_sub [1, 2, 3, 0] rfl jv9
    · refine z_ic e_X4_leave_44 ?_
      rw [if_neg c26] at ev9
      subst ev9
      exact z_sub [1, 2, 3, 0] rfl jv9
noncomputable def F_X4_leave_19L (x2 : Int32) : ((Int32 × zSt) → Option (Unit × zSt)) → (Int32 × zSt) → Option (Unit × zSt) := fun w s => F_X4_leave_19 x2 w s.1 s.2
set_option maxRecDepth 100000 in
theorem l_X4_leave_19 {G : zG} {C : zC} {r : Unit} {τ : zSt} (hR : zR G C none none τ) (x2 : Int32) : ∀ (N : Nat) (x3 : Int32) (σ : zSt), zfix (F_X4_leave_19L x2) N (x3, σ) = some (r, τ) → zAW G 4 RX4 cX4_leave 8 C 19 [(0, .ref (zad G 47)), (2, .int x2), (3, .int x3)] [] σ := by
  intro N
  induction N with
  | zero =>
    intro x3 σ h
    exact nomatch (show (none : Option (Unit × zSt)) = some (r, τ) from h)
  | succ N ih =>
    intro x3 σ h
    exact b_X4_leave_19 hR x2 (zfix (F_X4_leave_19L x2) N) ih x3 σ h
noncomputable def F_X4_leave_0 (x1 : Int32) (σ : zSt) : Option (Unit × zSt) :=
  gd (vp_in x1 27648) (
    nm (σ.1 48 x1.toNatClampNeg) (fun v1 =>
      bd (F_X5_arrive (x1 % (4 : Int32)) σ) (fun _ s2 =>
        zfix (F_X4_leave_19L v1) zlim ((1 : Int32), s2))))
set_option maxHeartbeats 4000000 in
set_option maxRecDepth 100000 in
theorem p_X4_leave_0 {G : zG} {C : zC} {r : Unit} {τ : zSt} (hR : zR G C none none τ) (x1 : Int32) (σ : zSt) (h : F_X4_leave_0 x1 σ = some (r, τ)) : zAW G 4 RX4 cX4_leave 8 C 0 [(0, .ref (zad G 47)), (1, .int x1)] [] σ := by
  unfold F_X4_leave_0 at h
  refine z_aload e_X4_leave_0 0 rfl ?_
  refine z_getr gf_X4_13_47 e_X4_leave_1 ?_
  refine z_iload e_X4_leave_4 1 rfl ?_
  refine z_iald sh_48 e_X4_leave_5 h (fun h => ?_)
  refine z_nmI h (fun v1 h => ?_)
  refine z_istore e_X4_leave_6 (by decide) [(2, .int v1), (0, .ref (zad G 47)), (1, .int x1)] rfl ?_
  refine z_aload e_X4_leave_7 1 rfl ?_
  refine z_getr gf_X4_41_47 e_X4_leave_8 ?_
  refine z_iload e_X4_leave_11 2 rfl ?_
  refine z_ic e_X4_leave_12 ?_
  refine z_irem e_X4_leave_13 (by decide) ?_
  obtain ⟨q3, s2, e4, h⟩ := bd_e h
  refine z_callVv (c0 := 17) (As := [.int (x1 % (4 : Int32))]) (rest := []) lk_X4_116 ob_17 e_X4_leave_14 (m_X5_arrive G (x1 % (4 : Int32)) σ _ _ e4) (by decide) rfl (Nat.le_of_ble_eq_true rfl) ?_
  refine z_ic e_X4_leave_17 ?_
  refine z_istore e_X4_leave_18 (by decide) [(3, .int (1 : Int32)), (2, .int v1), (0, .ref (zad G 47)), (1, .int x1)] rfl ?_
  exact z_sub [2, 1, 0] rfl (l_X4_leave_19 hR v1 zlim (1 : Int32) s2 h)
noncomputable def F_X4_leave (x1 : Int32) (σ : zSt) : Option (Unit × zSt) := F_X4_leave_0 x1 σ
set_option maxRecDepth 100000 in
theorem m_X4_leave (G : zG) (x1 : Int32) (σ : zSt) (q : Unit) (τ : zSt) (h : F_X4_leave x1 σ = some (q, τ)) : zM G 4 yX4_leave cX4_leave 8 none [.ref (zad G 47), .int x1] σ none τ := by
  unfold F_X4_leave at h
  refine zM.of (own := RX4) (by decide +kernel) rfl (Nat.le_of_ble_eq_true rfl) (fun C hR => ?_)
  exact z_sub [0, 1] rfl (p_X4_leave_0 hR x1 σ h)
noncomputable def F_X4_advance_129 (w11 : (Int32 × zSt) → Option (Unit × zSt)) (x1 : Int32) (x2 : Int32) (x3 : Int32) (σ : zSt) : Option (Unit × zSt) :=
  nm (x3 + (1 : Int32)) (fun v7 =>
    w11 (v7, σ))
set_option maxHeartbeats 4000000 in
set_option maxRecDepth 100000 in
theorem p_X4_advance_129 {G : zG} {C : zC} {r : Unit} {τ : zSt} (hR : zR G C none none τ) (w11 : (Int32 × zSt) → Option (Unit × zSt)) (x1 : Int32) (x2 : Int32) (x3 : Int32) (hw11 : ∀ (x3 : Int32) (σ : zSt), w11 (x3, σ) = some (r, τ) → zAW G 5 RX4 cX4_advance 6 C 11 [(0, .ref (zad G 47)), (1, .int x1), (2, .int x2), (3, .int x3)] [] σ) (σ : zSt) (h : F_X4_advance_129 w11 x1 x2 x3 σ = some (r, τ)) : zAW G 5 RX4 cX4_advance 6 C 129 [(0, .ref (zad G 47)), (1, .int x1), (2, .int x2), (3, .int x3)] [] σ := by
  unfold F_X4_advance_129 at h
  refine z_iinc e_X4_advance_129 3 rfl (by decide) (by decide) h (fun y => [(3, .int y), (0, .ref (zad G 47)), (1, .int x1), (2, .int x2)]) (fun _ => rfl) (fun v7 h => ?_)
  refine z_goto e_X4_advance_132 ?_
  exact z_sub [1, 2, 3, 0] rfl (hw11 v7 σ h)
noncomputable def F_X4_advance_123 (w11 : (Int32 × zSt) → Option (Unit × zSt)) (w60 : (Int32 × zSt) → Option (Unit × zSt)) (x1 : Int32) (x2 : Int32) (x3 : Int32) (x4 : Int32) (x5 : Int32) (σ : zSt) : Option (Unit × zSt) :=
  nm (x5 + (1 : Int32)) (fun v19 =>
    w60 (v19, σ))
set_option maxHeartbeats 4000000 in
set_option maxRecDepth 100000 in
theorem p_X4_advance_123 {G : zG} {C : zC} {r : Unit} {τ : zSt} (hR : zR G C none none τ) (w11 : (Int32 × zSt) → Option (Unit × zSt)) (w60 : (Int32 × zSt) → Option (Unit × zSt)) (x1 : Int32) (x2 : Int32) (x3 : Int32) (x4 : Int32) (x5 : Int32) (hw11 : ∀ (x3 : Int32) (σ : zSt), w11 (x3, σ) = some (r, τ) → zAW G 5 RX4 cX4_advance 6 C 11 [(0, .ref (zad G 47)), (1, .int x1), (2, .int x2), (3, .int x3)] [] σ) (hw60 : ∀ (x5 : Int32) (σ : zSt), w60 (x5, σ) = some (r, τ) → zAW G 5 RX4 cX4_advance 6 C 60 [(0, .ref (zad G 47)), (1, .int x1), (2, .int x2), (3, .int x3), (4, .int x4), (5, .int x5)] [] σ) (σ : zSt) (h : F_X4_advance_123 w11 w60 x1 x2 x3 x4 x5 σ = some (r, τ)) : zAW G 5 RX4 cX4_advance 6 C 123 [(0, .ref (zad G 47)), (1, .int x1), (2, .int x2), (3, .int x3), (4, .int x4), (5, .int x5)] [] σ := by
  unfold F_X4_advance_123 at h
  refine z_iinc e_X4_advance_123 5 rfl (by decide) (by decide) h (fun y => [(5, .int y), (0, .ref (zad G 47)), (1, .int x1), (2, .int x2), (3, .int x3), (4, .int x4)]) (fun _ => rfl) (fun v19 h => ?_)
  refine z_goto e_X4_advance_126 ?_
  exact z_sub [1, 2, 3, 4, 5, 0] rfl (hw60 v19 σ h)
noncomputable def F_X4_advance_103 (w11 : (Int32 × zSt) → Option (Unit × zSt)) (w60 : (Int32 × zSt) → Option (Unit × zSt)) (x1 : Int32) (x2 : Int32) (x3 : Int32) (x4 : Int32) (x5 : Int32) (σ : zSt) : Option (Unit × zSt) :=
  gd (vp_in x5 27648) (
    if (σ.1 47 8) ≤ (σ.1 48 x5.toNatClampNeg) then (
      F_X4_advance_123 w11 w60 x1 x2 x3 x4 x5 σ)
    else (
      bd (F_X4_leave x5 σ) (fun _ s20 =>
        F_X4_advance_123 w11 w60 x1 x2 x3 x4 x5 s20)))
set_option maxHeartbeats 4000000 in
set_option maxRecDepth 100000 in
theorem p_X4_advance_103 {G : zG} {C : zC} {r : Unit} {τ : zSt} (hR : zR G C none none τ) (w11 : (Int32 × zSt) → Option (Unit × zSt)) (w60 : (Int32 × zSt) → Option (Unit × zSt)) (x1 : Int32) (x2 : Int32) (x3 : Int32) (x4 : Int32) (x5 : Int32) (hw11 : ∀ (x3 : Int32) (σ : zSt), w11 (x3, σ) = some (r, τ) → zAW G 5 RX4 cX4_advance 6 C 11 [(0, .ref (zad G 47)), (1, .int x1), (2, .int x2), (3, .int x3)] [] σ) (hw60 : ∀ (x5 : Int32) (σ : zSt), w60 (x5, σ) = some (r, τ) → zAW G 5 RX4 cX4_advance 6 C 60 [(0, .ref (zad G 47)), (1, .int x1), (2, .int x2), (3, .int x3), (4, .int x4), (5, .int x5)] [] σ) (σ : zSt) (h : F_X4_advance_103 w11 w60 x1 x2 x3 x4 x5 σ = some (r, τ)) : zAW G 5 RX4 cX4_advance 6 C 103 [(0, .ref (zad G 47)), (1, .int x1), (2, .int x2), (3, .int x3), (4, .int x4), (5, .int x5)] [] σ := by
  unfold F_X4_advance_103 at h
  refine z_aload e_X4_advance_103 0 rfl ?_
  refine z_getr gf_X4_13_47 e_X4_advance_104 ?_
  refine z_iload e_X4_advance_107 5 rfl ?_
  refine z_iald sh_48 e_X4_advance_109 h (fun h => ?_)
  refine z_aload e_X4_advance_110 0 rfl ?_
  refine z_geti gf_X4_45_47 e_X4_advance_111 ?_
  refine z_icmp_ge e_X4_advance_114 h (fun c18 h => ?_) (fun c18 h => ?_)
  · exact z_sub [0, 1, 2, 3, 4, 5] rfl (p_X4_advance_123 hR w11 w60 x1 x2 x3 x4 x5 hw11 hw60 σ h)
  · refine z_aload e_X4_advance_117 0 rfl ?_
    refine z_iload e_X4_advance_118 5 rfl ?_
    obtain ⟨q21, s20, e22, h⟩ := bd_e h
    refine z_callVv (c0 := 47) (As := [.int x5]) (rest := []) lk_X4_113 ob_47 e_X4_advance_120 (m_X4_leave G x5 σ _ _ e22) (by decide) rfl (Nat.le_of_ble_eq_true rfl) ?_
    exact z_sub [0, 1, 2, 3, 4, 5] rfl (p_X4_advance_123 hR w11 w60 x1 x2 x3 x4 x5 hw11 hw60 s20 h)
noncomputable def F_X4_advance_60 (w11 : (Int32 × zSt) → Option (Unit × zSt)) (x1 : Int32) (x2 : Int32) (x3 : Int32) (x4 : Int32) (w60 : (Int32 × zSt) → Option (Unit × zSt)) (x5 : Int32) (σ : zSt) : Option (Unit × zSt) :=
  if ((4 : Int32) * (x4 + (1 : Int32))) ≤ x5 then (
    F_X4_advance_129 w11 x1 x2 x3 σ)
  else (
    gd (vp_in x5 27648) (
      if (σ.1 47 8) ≤ (σ.1 48 x5.toNatClampNeg) then (
        F_X4_advance_103 w11 w60 x1 x2 x3 x4 x5 σ)
      else (
        if x2 = 0 then (
          F_X4_advance_103 w11 w60 x1 x2 x3 x4 x5 σ)
        else (
          gd (vp_in x5 27648) (
            nm (zwr σ 47 8 (σ.1 48 x5.toNatClampNeg)) (fun s24 =>
              F_X4_advance_123 w11 w60 x1 x2 x3 x4 x5 s24))))))
set_option maxHeartbeats 4000000 in
set_option maxRecDepth 100000 in
theorem b_X4_advance_60 {G : zG} {C : zC} {r : Unit} {τ : zSt} (hR : zR G C none none τ) (w11 : (Int32 × zSt) → Option (Unit × zSt)) (x1 : Int32) (x2 : Int32) (x3 : Int32) (x4 : Int32) (hw11 : ∀ (x3 : Int32) (σ : zSt), w11 (x3, σ) = some (r, τ) → zAW G 5 RX4 cX4_advance 6 C 11 [(0, .ref (zad G 47)), (1, .int x1), (2, .int x2), (3, .int x3)] [] σ) (w60 : (Int32 × zSt) → Option (Unit × zSt)) (hw60 : ∀ (x5 : Int32) (σ : zSt), w60 (x5, σ) = some (r, τ) → zAW G 5 RX4 cX4_advance 6 C 60 [(0, .ref (zad G 47)), (1, .int x1), (2, .int x2), (3, .int x3), (4, .int x4), (5, .int x5)] [] σ) (x5 : Int32) (σ : zSt) (h : F_X4_advance_60 w11 x1 x2 x3 x4 w60 x5 σ = some (r, τ)) : zAW G 5 RX4 cX4_advance 6 C 60 [(0, .ref (zad G 47)), (1, .int x1), (2, .int x2), (3, .int x3), (4, .int x4), (5, .int x5)] [] σ := by
  unfold F_X4_advance_60 at h
  refine z_iload e_X4_advance_60 5 rfl ?_
  refine z_ic e_X4_advance_62 ?_
  refine z_iload e_X4_advance_63 4 rfl ?_
  refine z_ic e_X4_advance_65 ?_
  refine z_iadd e_X4_advance_66 ?_
  refine z_imul e_X4_advance_67 ?_
  refine z_icmp_ge e_X4_advance_68 h (fun c16 h => ?_) (fun c16 h => ?_)
  · exact z_sub [0, 1, 2, 3] rfl (p_X4_advance_129 hR w11 x1 x2 x3 hw11 σ h)
  · refine z_aload e_X4_advance_71 0 rfl ?_
    refine z_getr gf_X4_13_47 e_X4_advance_72 ?_
    refine z_iload e_X4_advance_75 5 rfl ?_
    refine z_iald sh_48 e_X4_advance_77 h (fun h => ?_)
    refine z_aload e_X4_advance_78 0 rfl ?_
    refine z_geti gf_X4_45_47 e_X4_advance_79 ?_
    refine z_icmp_ge e_X4_advance_82 h (fun c17 h => ?_) (fun c17 h => ?_)
    · exact z_sub [0, 1, 2, 3, 4, 5] rfl (p_X4_advance_103 hR w11 w60 x1 x2 x3 x4 x5 hw11 hw60 σ h)
    · refine z_iload e_X4_advance_85 2 rfl ?_
      refine z_if_eq e_X4_advance_86 h (fun c23 h => ?_) (fun c23 h => ?_)
      · exact z_sub [0, 1, 2, 3, 4, 5] rfl (p_X4_advance_103 hR w11 w60 x1 x2 x3 x4 x5 hw11 hw60 σ h)
      · refine z_aload e_X4_advance_89 0 rfl ?_
        refine z_aload e_X4_advance_90 0 rfl ?_
        refine z_getr gf_X4_13_47 e_X4_advance_91 ?_
        refine z_iload e_X4_advance_94 5 rfl ?_
        refine z_iald sh_48 e_X4_advance_96 h (fun h => ?_)
        refine z_puti pf_X4_45_47 e_X4_advance_97 h (fun s24 h => ?_)
        refine z_goto e_X4_advance_100 ?_
        exact z_sub [0, 1, 2, 3, 4, 5] rfl (p_X4_advance_123 hR w11 w60 x1 x2 x3 x4 x5 hw11 hw60 s24 h)
noncomputable def F_X4_advance_60L (w11 : (Int32 × zSt) → Option (Unit × zSt)) (x1 : Int32) (x2 : Int32) (x3 : Int32) (x4 : Int32) : ((Int32 × zSt) → Option (Unit × zSt)) → (Int32 × zSt) → Option (Unit × zSt) := fun w s => F_X4_advance_60 w11 x1 x2 x3 x4 w s.1 s.2
set_option maxRecDepth 100000 in
theorem l_X4_advance_60 {G : zG} {C : zC} {r : Unit} {τ : zSt} (hR : zR G C none none τ) (w11 : (Int32 × zSt) → Option (Unit × zSt)) (x1 : Int32) (x2 : Int32) (x3 : Int32) (x4 : Int32) (hw11 : ∀ (x3 : Int32) (σ : zSt), w11 (x3, σ) = some (r, τ) → zAW G 5 RX4 cX4_advance 6 C 11 [(0, .ref (zad G 47)), (1, .int x1), (2, .int x2), (3, .int x3)] [] σ) : ∀ (N : Nat) (x5 : Int32) (σ : zSt), zfix (F_X4_advance_60L w11 x1 x2 x3 x4) N (x5, σ) = some (r, τ) → zAW G 5 RX4 cX4_advance 6 C 60 [(0, .ref (zad G 47)), (1, .int x1), (2, .int x2), (3, .int x3), (4, .int x4), (5, .int x5)] [] σ := by
  intro N
  induction N with
  | zero =>
    intro x5 σ h
    exact nomatch (show (none : Option (Unit × zSt)) = some (r, τ) from h)
  | succ N ih =>
    intro x5 σ h
    exact b_X4_advance_60 hR w11 x1 x2 x3 x4 hw11 (zfix (F_X4_advance_60L w11 x1 x2 x3 x4) N) ih x5 σ h
noncomputable def F_X4_advance_11 (x1 : Int32) (x2 : Int32) (w11 : (Int32 × zSt) → Option (Unit × zSt)) (x3 : Int32) (σ : zSt) : Option (Unit × zSt) :=
  if (27 : Int32) ≤ x3 then (
    some ((), σ))
  else (
    nm ((x1 * (27 : Int32)) + x3) (fun v5 =>
      if (6912 : Int32) ≤ v5 then (
        F_X4_advance_129 w11 x1 x2 x3 σ)
      else (
        bd (F_X4_settle v5 σ) (fun q9 s8 =>
          if q9 = 0 then (
            F_X4_advance_129 w11 x1 x2 x3 s8)
          else (
            bd (F_X5_enter v5 s8) (fun _ s12 =>
              nm ((4 : Int32) * v5) (fun v15 =>
                zfix (F_X4_advance_60L w11 x1 x2 x3 v5) zlim (v15, s12))))))))
set_option maxHeartbeats 4000000 in
set_option maxRecDepth 100000 in
theorem b_X4_advance_11 {G : zG} {C : zC} {r : Unit} {τ : zSt} (hR : zR G C none none τ) (x1 : Int32) (x2 : Int32) (w11 : (Int32 × zSt) → Option (Unit × zSt)) (hw11 : ∀ (x3 : Int32) (σ : zSt), w11 (x3, σ) = some (r, τ) → zAW G 5 RX4 cX4_advance 6 C 11 [(0, .ref (zad G 47)), (1, .int x1), (2, .int x2), (3, .int x3)] [] σ) (x3 : Int32) (σ : zSt) (h : F_X4_advance_11 x1 x2 w11 x3 σ = some (r, τ)) : zAW G 5 RX4 cX4_advance 6 C 11 [(0, .ref (zad G 47)), (1, .int x1), (2, .int x2), (3, .int x3)] [] σ := by
  unfold F_X4_advance_11 at h
  refine z_iload e_X4_advance_11 3 rfl ?_
  refine z_ic e_X4_advance_12 ?_
  refine z_icmp_ge e_X4_advance_14 h (fun c4 h => ?_) (fun c4 h => ?_)
  · cases h
    exact z_vreturn hR e_X4_advance_135
  · refine z_iload e_X4_advance_17 1 rfl ?_
    refine z_ic e_X4_advance_18 ?_
    refine z_imul e_X4_advance_20 ?_
    refine z_iload e_X4_advance_21 3 rfl ?_
    refine z_iadd e_X4_advance_22 ?_
    refine z_nmI h (fun v5 h => ?_)
    refine z_istore e_X4_advance_23 (by decide) [(4, .int v5), (0, .ref (zad G 47)), (1, .int x1), (2, .int x2), (3, .int x3)] rfl ?_
    refine z_iload e_X4_advance_25 0 rfl ?_
    refine z_ic e_X4_advance_27 ?_
    refine z_icmp_ge e_X4_advance_30 h (fun c6 h => ?_) (fun c6 h => ?_)
    · exact z_sub [1, 2, 3, 4] rfl (p_X4_advance_129 hR w11 x1 x2 x3 hw11 σ h)
    · refine z_aload e_X4_advance_33 1 rfl ?_
      refine z_iload e_X4_advance_34 0 rfl ?_
      obtain ⟨q9, s8, e10, h⟩ := bd_e h
      refine z_callVi (c0 := 47) (As := [.int v5]) (rest := []) lk_X4_107 ob_47 e_X4_advance_36 (m_X4_settle G v5 σ _ _ e10) (by decide) rfl (Nat.le_of_ble_eq_true rfl) ?_
      refine z_if_ne e_X4_advance_39 h (fun c11 h => ?_) (fun c11 h => ?_)
      · refine z_goto e_X4_advance_42 ?_
        exact z_sub [1, 2, 3, 4] rfl (p_X4_advance_129 hR w11 x1 x2 x3 hw11 s8 h)
      · refine z_aload e_X4_advance_45 1 rfl ?_
        refine z_getr gf_X4_41_47 e_X4_advance_46 ?_
        refine z_iload e_X4_advance_49 0 rfl ?_
        obtain ⟨q13, s12, e14, h⟩ := bd_e h
        refine z_callVv (c0 := 17) (As := [.int v5]) (rest := []) lk_X4_110 ob_17 e_X4_advance_51 (m_X5_enter G v5 s8 _ _ e14) (by decide) rfl (Nat.le_of_ble_eq_true rfl) ?_
        refine z_ic e_X4_advance_54 ?_
        refine z_iload e_X4_advance_55 0 rfl ?_
        refine z_imul e_X4_advance_57 ?_
        refine z_nmI h (fun v15 h => ?_)
        refine z_istore e_X4_advance_58 (by decide) [(5, .int v15), (4, .int v5), (0, .ref (zad G 47)), (1, .int x1), (2, .int x2), (3, .int x3)] rfl ?_
        exact z_sub [2, 3, 4, 5, 1, 0] rfl (l_X4_advance_60 hR w11 x1 x2 x3 v5 hw11 zlim v15 s12 h)
noncomputable def F_X4_advance_11L (x1 : Int32) (x2 : Int32) : ((Int32 × zSt) → Option (Unit × zSt)) → (Int32 × zSt) → Option (Unit × zSt) := fun w s => F_X4_advance_11 x1 x2 w s.1 s.2
set_option maxRecDepth 100000 in
theorem l_X4_advance_11 {G : zG} {C : zC} {r : Unit} {τ : zSt} (hR : zR G C none none τ) (x1 : Int32) (x2 : Int32) : ∀ (N : Nat) (x3 : Int32) (σ : zSt), zfix (F_X4_advance_11L x1 x2) N (x3, σ) = some (r, τ) → zAW G 5 RX4 cX4_advance 6 C 11 [(0, .ref (zad G 47)), (1, .int x1), (2, .int x2), (3, .int x3)] [] σ := by
  intro N
  induction N with
  | zero =>
    intro x3 σ h
    exact nomatch (show (none : Option (Unit × zSt)) = some (r, τ) from h)
  | succ N ih =>
    intro x3 σ h
    exact b_X4_advance_11 hR x1 x2 (zfix (F_X4_advance_11L x1 x2) N) ih x3 σ h
noncomputable def F_X4_advance_0 (x1 : Int32) (σ : zSt) : Option (Unit × zSt) :=
  bd (F_X5_isHad x1 σ) (fun q2 s1 =>
    zfix (F_X4_advance_11L x1 q2) zlim ((0 : Int32), s1))
set_option maxHeartbeats 4000000 in
set_option maxRecDepth 100000 in
theorem p_X4_advance_0 {G : zG} {C : zC} {r : Unit} {τ : zSt} (hR : zR G C none none τ) (x1 : Int32) (σ : zSt) (h : F_X4_advance_0 x1 σ = some (r, τ)) : zAW G 5 RX4 cX4_advance 6 C 0 [(0, .ref (zad G 47)), (1, .int x1)] [] σ := by
  unfold F_X4_advance_0 at h
  refine z_aload e_X4_advance_0 0 rfl ?_
  refine z_getr gf_X4_41_47 e_X4_advance_1 ?_
  refine z_iload e_X4_advance_4 1 rfl ?_
  obtain ⟨q2, s1, e3, h⟩ := bd_e h
  refine z_callVi (c0 := 17) (As := [.int x1]) (rest := []) lk_X4_103 ob_17 e_X4_advance_5 (m_X5_isHad G x1 σ _ _ e3) (by decide) rfl (Nat.le_of_ble_eq_true rfl) ?_
  refine z_istore e_X4_advance_8 (by decide) [(2, .int q2), (0, .ref (zad G 47)), (1, .int x1)] rfl ?_
  refine z_ic e_X4_advance_9 ?_
  refine z_istore e_X4_advance_10 (by decide) [(3, .int (0 : Int32)), (2, .int q2), (0, .ref (zad G 47)), (1, .int x1)] rfl ?_
  exact z_sub [2, 3, 1, 0] rfl (l_X4_advance_11 hR x1 q2 zlim (0 : Int32) s1 h)
noncomputable def F_X4_advance (x1 : Int32) (σ : zSt) : Option (Unit × zSt) := F_X4_advance_0 x1 σ
set_option maxRecDepth 100000 in
theorem m_X4_advance (G : zG) (x1 : Int32) (σ : zSt) (q : Unit) (τ : zSt) (h : F_X4_advance x1 σ = some (q, τ)) : zM G 5 yX4_advance cX4_advance 6 none [.ref (zad G 47), .int x1] σ none τ := by
  unfold F_X4_advance at h
  refine zM.of (own := RX4) (by decide +kernel) rfl (Nat.le_of_ble_eq_true rfl) (fun C hR => ?_)
  exact z_sub [0, 1] rfl (p_X4_advance_0 hR x1 σ h)
noncomputable def F_X4_clear_9 (x2 : Int32) (w9 : (Int32 × zSt) → Option (Unit × zSt)) (x3 : Int32) (σ : zSt) : Option (Unit × zSt) :=
  if (108 : Int32) ≤ x3 then (
    some ((), σ))
  else (
    if (27648 : Int32) ≤ (x2 + x3) then (
      some ((), σ))
    else (
      gd (vp_in (x2 + x3) 27648) (nm (zwr σ 48 (x2 + x3).toNatClampNeg (134217728 : Int32)) (fun s4 =>
        nm (x3 + (1 : Int32)) (fun v5 =>
          w9 (v5, s4))))))
set_option maxHeartbeats 4000000 in
set_option maxRecDepth 100000 in
theorem b_X4_clear_9 {G : zG} {C : zC} {r : Unit} {τ : zSt} (hR : zR G C none none τ) (x2 : Int32) (w9 : (Int32 × zSt) → Option (Unit × zSt)) (hw9 : ∀ (x3 : Int32) (σ : zSt), w9 (x3, σ) = some (r, τ) → zAW G 1 RX4 cX4_clear 4 C 9 [(0, .ref (zad G 47)), (2, .int x2), (3, .int x3)] [] σ) (x3 : Int32) (σ : zSt) (h : F_X4_clear_9 x2 w9 x3 σ = some (r, τ)) : zAW G 1 RX4 cX4_clear 4 C 9 [(0, .ref (zad G 47)), (2, .int x2), (3, .int x3)] [] σ := by
  unfold F_X4_clear_9 at h
  refine z_iload e_X4_clear_9 2 rfl ?_
  refine z_ic e_X4_clear_10 ?_
  refine z_icmp_ge e_X4_clear_12 h (fun c2 h => ?_) (fun c2 h => ?_)
  · cases h
    exact z_vreturn hR e_X4_clear_40
  · refine z_iload e_X4_clear_15 1 rfl ?_
    refine z_iload e_X4_clear_16 2 rfl ?_
    refine z_iadd e_X4_clear_17 ?_
    refine z_ic e_X4_clear_18 ?_
    refine z_icmp_ge e_X4_clear_21 h (fun c3 h => ?_) (fun c3 h => ?_)
    · cases h
      exact z_vreturn hR e_X4_clear_40
    · refine z_aload e_X4_clear_24 0 rfl ?_
      refine z_getr gf_X4_13_47 e_X4_clear_25 ?_
      refine z_iload e_X4_clear_28 1 rfl ?_
      refine z_iload e_X4_clear_29 2 rfl ?_
      refine z_iadd e_X4_clear_30 ?_
      refine z_ldc cs_X4_57 e_X4_clear_31 ?_
      refine z_iast sh_48 e_X4_clear_33 h (fun s4 h => ?_)
      refine z_iinc e_X4_clear_34 2 rfl (by decide) (by decide) h (fun y => [(3, .int y), (0, .ref (zad G 47)), (2, .int x2)]) (fun _ => rfl) (fun v5 h => ?_)
      refine z_goto e_X4_clear_37 ?_
      exact z_sub [1, 2, 0] rfl (hw9 v5 s4 h)
noncomputable def F_X4_clear_9L (x2 : Int32) : ((Int32 × zSt) → Option (Unit × zSt)) → (Int32 × zSt) → Option (Unit × zSt) := fun w s => F_X4_clear_9 x2 w s.1 s.2
set_option maxRecDepth 100000 in
theorem l_X4_clear_9 {G : zG} {C : zC} {r : Unit} {τ : zSt} (hR : zR G C none none τ) (x2 : Int32) : ∀ (N : Nat) (x3 : Int32) (σ : zSt), zfix (F_X4_clear_9L x2) N (x3, σ) = some (r, τ) → zAW G 1 RX4 cX4_clear 4 C 9 [(0, .ref (zad G 47)), (2, .int x2), (3, .int x3)] [] σ := by
  intro N
  induction N with
  | zero =>
    intro x3 σ h
    exact nomatch (show (none : Option (Unit × zSt)) = some (r, τ) from h)
  | succ N ih =>
    intro x3 σ h
    exact b_X4_clear_9 hR x2 (zfix (F_X4_clear_9L x2) N) ih x3 σ h
noncomputable def F_X4_clear_0 (x1 : Int32) (σ : zSt) : Option (Unit × zSt) :=
  nm ((x1 * (27 : Int32)) * (4 : Int32)) (fun v1 =>
    zfix (F_X4_clear_9L v1) zlim ((0 : Int32), σ))
set_option maxHeartbeats 4000000 in
set_option maxRecDepth 100000 in
theorem p_X4_clear_0 {G : zG} {C : zC} {r : Unit} {τ : zSt} (hR : zR G C none none τ) (x1 : Int32) (σ : zSt) (h : F_X4_clear_0 x1 σ = some (r, τ)) : zAW G 1 RX4 cX4_clear 4 C 0 [(0, .ref (zad G 47)), (1, .int x1)] [] σ := by
  unfold F_X4_clear_0 at h
  refine z_iload e_X4_clear_0 1 rfl ?_
  refine z_ic e_X4_clear_1 ?_
  refine z_imul e_X4_clear_3 ?_
  refine z_ic e_X4_clear_4 ?_
  refine z_imul e_X4_clear_5 ?_
  refine z_nmI h (fun v1 h => ?_)
  refine z_istore e_X4_clear_6 (by decide) [(2, .int v1), (0, .ref (zad G 47)), (1, .int x1)] rfl ?_
  refine z_ic e_X4_clear_7 ?_
  refine z_istore e_X4_clear_8 (by decide) [(3, .int (0 : Int32)), (2, .int v1), (0, .ref (zad G 47)), (1, .int x1)] rfl ?_
  exact z_sub [2, 1, 0] rfl (l_X4_clear_9 hR v1 zlim (0 : Int32) σ h)
noncomputable def F_X4_clear (x1 : Int32) (σ : zSt) : Option (Unit × zSt) := F_X4_clear_0 x1 σ
set_option maxRecDepth 100000 in
theorem m_X4_clear (G : zG) (x1 : Int32) (σ : zSt) (q : Unit) (τ : zSt) (h : F_X4_clear x1 σ = some (q, τ)) : zM G 1 yX4_clear cX4_clear 4 none [.ref (zad G 47), .int x1] σ none τ := by
  unfold F_X4_clear at h
  refine zM.of (own := RX4) (by decide +kernel) rfl (Nat.le_of_ble_eq_true rfl) (fun C hR => ?_)
  exact z_sub [0, 1] rfl (p_X4_clear_0 hR x1 σ h)
noncomputable def F_X4_search_90 (σ : zSt) : Option (Int32 × zSt) :=
  if (134217728 : Int32) ≤ (σ.1 47 8) then (
    some ((0 : Int32), σ))
  else (
    some ((1 : Int32), σ))
set_option maxHeartbeats 4000000 in
set_option maxRecDepth 100000 in
theorem p_X4_search_90 {G : zG} {C : zC} {r : Int32} {τ : zSt} (hR : zR G C (some .boolean) (some (.int r)) τ)  (σ : zSt) (h : F_X4_search_90 σ = some (r, τ)) : zAW G 6 RX4 cX4_search 3 C 90 [(0, .ref (zad G 47))] [] σ := by
  unfold F_X4_search_90 at h
  refine z_aload e_X4_search_90 0 rfl ?_
  refine z_geti gf_X4_45_47 e_X4_search_91 ?_
  refine z_ldc cs_X4_57 e_X4_search_94 ?_
  refine z_icmp_ge e_X4_search_96 h (fun c13 h => ?_) (fun c13 h => ?_)
  · refine z_ic e_X4_search_103 ?_
    cases h
    exact z_zreturn hR e_X4_search_104 (Or.inl rfl)
  · refine z_ic e_X4_search_99 ?_
    refine z_goto e_X4_search_100 ?_
    cases h
    exact z_zreturn hR e_X4_search_104 (Or.inr rfl)
noncomputable def F_X4_search_84 (w60 : (Int32 × zSt) → Option (Int32 × zSt)) (x2 : Int32) (σ : zSt) : Option (Int32 × zSt) :=
  nm (x2 + (1 : Int32)) (fun v18 =>
    w60 (v18, σ))
set_option maxHeartbeats 4000000 in
set_option maxRecDepth 100000 in
theorem p_X4_search_84 {G : zG} {C : zC} {r : Int32} {τ : zSt} (hR : zR G C (some .boolean) (some (.int r)) τ) (w60 : (Int32 × zSt) → Option (Int32 × zSt)) (x2 : Int32) (hw60 : ∀ (x2 : Int32) (σ : zSt), w60 (x2, σ) = some (r, τ) → zAW G 6 RX4 cX4_search 3 C 60 [(0, .ref (zad G 47)), (2, .int x2)] [] σ) (σ : zSt) (h : F_X4_search_84 w60 x2 σ = some (r, τ)) : zAW G 6 RX4 cX4_search 3 C 84 [(0, .ref (zad G 47)), (2, .int x2)] [] σ := by
  unfold F_X4_search_84 at h
  refine z_iinc e_X4_search_84 1 rfl (by decide) (by decide) h (fun y => [(2, .int y), (0, .ref (zad G 47))]) (fun _ => rfl) (fun v18 h => ?_)
  refine z_goto e_X4_search_87 ?_
  exact z_sub [1, 0] rfl (hw60 v18 σ h)
noncomputable def F_X4_search_60 (w60 : (Int32 × zSt) → Option (Int32 × zSt)) (x2 : Int32) (σ : zSt) : Option (Int32 × zSt) :=
  if (σ.1 47 6) < x2 then (
    F_X4_search_90  σ)
  else (
    if (x2 &&& ((σ.1 47 6) ^^^ (-1 : Int32))) = 0 then (
      bd (F_X4_advance x2 σ) (fun _ s15 =>
        F_X4_search_84 w60 x2 s15))
    else (
      F_X4_search_84 w60 x2 σ))
set_option maxHeartbeats 4000000 in
set_option maxRecDepth 100000 in
theorem b_X4_search_60 {G : zG} {C : zC} {r : Int32} {τ : zSt} (hR : zR G C (some .boolean) (some (.int r)) τ) (w60 : (Int32 × zSt) → Option (Int32 × zSt)) (hw60 : ∀ (x2 : Int32) (σ : zSt), w60 (x2, σ) = some (r, τ) → zAW G 6 RX4 cX4_search 3 C 60 [(0, .ref (zad G 47)), (2, .int x2)] [] σ) (x2 : Int32) (σ : zSt) (h : F_X4_search_60 w60 x2 σ = some (r, τ)) : zAW G 6 RX4 cX4_search 3 C 60 [(0, .ref (zad G 47)), (2, .int x2)] [] σ := by
  unfold F_X4_search_60 at h
  refine z_iload e_X4_search_60 1 rfl ?_
  refine z_aload e_X4_search_61 0 rfl ?_
  refine z_geti gf_X4_64_47 e_X4_search_62 ?_
  refine z_icmp_gt e_X4_search_65 h (fun c12 h => ?_) (fun c12 h => ?_)
  · exact z_sub [0] rfl (p_X4_search_90 hR  σ h)
  · refine z_iload e_X4_search_68 1 rfl ?_
    refine z_aload e_X4_search_69 0 rfl ?_
    refine z_geti gf_X4_64_47 e_X4_search_70 ?_
    refine z_ic e_X4_search_73 ?_
    refine z_ixor e_X4_search_74 ?_
    refine z_iand e_X4_search_75 ?_
    refine z_if_ne e_X4_search_76 h (fun c14 h => ?_) (fun c14 h => ?_)
    · refine z_aload e_X4_search_79 0 rfl ?_
      refine z_iload e_X4_search_80 1 rfl ?_
      obtain ⟨q16, s15, e17, h⟩ := bd_e h
      refine z_callVv (c0 := 47) (As := [.int x2]) (rest := []) lk_X4_71 ob_47 e_X4_search_81 (m_X4_advance G x2 σ _ _ e17) (by decide) rfl (Nat.le_of_ble_eq_true rfl) ?_
      exact z_sub [0, 1] rfl (p_X4_search_84 hR w60 x2 hw60 s15 h)
    · exact z_sub [0, 1] rfl (p_X4_search_84 hR w60 x2 hw60 σ h)
noncomputable def F_X4_search_60L  : ((Int32 × zSt) → Option (Int32 × zSt)) → (Int32 × zSt) → Option (Int32 × zSt) := fun w s => F_X4_search_60 w s.1 s.2
set_option maxRecDepth 100000 in
theorem l_X4_search_60 {G : zG} {C : zC} {r : Int32} {τ : zSt} (hR : zR G C (some .boolean) (some (.int r)) τ)  : ∀ (N : Nat) (x2 : Int32) (σ : zSt), zfix (F_X4_search_60L ) N (x2, σ) = some (r, τ) → zAW G 6 RX4 cX4_search 3 C 60 [(0, .ref (zad G 47)), (2, .int x2)] [] σ := by
  intro N
  induction N with
  | zero =>
    intro x2 σ h
    exact nomatch (show (none : Option (Int32 × zSt)) = some (r, τ) from h)
  | succ N ih =>
    intro x2 σ h
    exact b_X4_search_60 hR (zfix (F_X4_search_60L ) N) ih x2 σ h
noncomputable def F_X4_search_51 (σ : zSt) : Option (Int32 × zSt) :=
  nm (zwr σ 48 0 (0 : Int32)) (fun s11 =>
    zfix (F_X4_search_60L ) zlim ((0 : Int32), s11))
set_option maxHeartbeats 4000000 in
set_option maxRecDepth 100000 in
theorem p_X4_search_51 {G : zG} {C : zC} {r : Int32} {τ : zSt} (hR : zR G C (some .boolean) (some (.int r)) τ)  (σ : zSt) (h : F_X4_search_51 σ = some (r, τ)) : zAW G 6 RX4 cX4_search 3 C 51 [(0, .ref (zad G 47))] [] σ := by
  unfold F_X4_search_51 at h
  refine z_aload e_X4_search_51 0 rfl ?_
  refine z_getr gf_X4_13_47 e_X4_search_52 ?_
  refine z_ic e_X4_search_55 ?_
  refine z_ic e_X4_search_56 ?_
  refine z_iast0 (j := 0) sh_48 e_X4_search_57 (by unfold vp_in; decide) rfl h (fun s11 h => ?_)
  refine z_ic e_X4_search_58 ?_
  refine z_istore e_X4_search_59 (by decide) [(2, .int (0 : Int32)), (0, .ref (zad G 47))] rfl ?_
  exact z_sub [1, 0] rfl (l_X4_search_60 hR  zlim (0 : Int32) s11 h)
noncomputable def F_X4_search_45 (w21 : (Int32 × zSt) → Option (Int32 × zSt)) (x2 : Int32) (σ : zSt) : Option (Int32 × zSt) :=
  nm (x2 + (1 : Int32)) (fun v23 =>
    w21 (v23, σ))
set_option maxHeartbeats 4000000 in
set_option maxRecDepth 100000 in
theorem p_X4_search_45 {G : zG} {C : zC} {r : Int32} {τ : zSt} (hR : zR G C (some .boolean) (some (.int r)) τ) (w21 : (Int32 × zSt) → Option (Int32 × zSt)) (x2 : Int32) (hw21 : ∀ (x2 : Int32) (σ : zSt), w21 (x2, σ) = some (r, τ) → zAW G 6 RX4 cX4_search 3 C 21 [(0, .ref (zad G 47)), (2, .int x2)] [] σ) (σ : zSt) (h : F_X4_search_45 w21 x2 σ = some (r, τ)) : zAW G 6 RX4 cX4_search 3 C 45 [(0, .ref (zad G 47)), (2, .int x2)] [] σ := by
  unfold F_X4_search_45 at h
  refine z_iinc e_X4_search_45 1 rfl (by decide) (by decide) h (fun y => [(2, .int y), (0, .ref (zad G 47))]) (fun _ => rfl) (fun v23 h => ?_)
  refine z_goto e_X4_search_48 ?_
  exact z_sub [1, 0] rfl (hw21 v23 σ h)
noncomputable def F_X4_search_21 (w21 : (Int32 × zSt) → Option (Int32 × zSt)) (x2 : Int32) (σ : zSt) : Option (Int32 × zSt) :=
  if (σ.1 47 6) < x2 then (
    F_X4_search_51  σ)
  else (
    if (x2 &&& ((σ.1 47 6) ^^^ (-1 : Int32))) = 0 then (
      bd (F_X4_clear x2 σ) (fun _ s20 =>
        F_X4_search_45 w21 x2 s20))
    else (
      F_X4_search_45 w21 x2 σ))
set_option maxHeartbeats 4000000 in
set_option maxRecDepth 100000 in
theorem b_X4_search_21 {G : zG} {C : zC} {r : Int32} {τ : zSt} (hR : zR G C (some .boolean) (some (.int r)) τ) (w21 : (Int32 × zSt) → Option (Int32 × zSt)) (hw21 : ∀ (x2 : Int32) (σ : zSt), w21 (x2, σ) = some (r, τ) → zAW G 6 RX4 cX4_search 3 C 21 [(0, .ref (zad G 47)), (2, .int x2)] [] σ) (x2 : Int32) (σ : zSt) (h : F_X4_search_21 w21 x2 σ = some (r, τ)) : zAW G 6 RX4 cX4_search 3 C 21 [(0, .ref (zad G 47)), (2, .int x2)] [] σ := by
  unfold F_X4_search_21 at h
  refine z_iload e_X4_search_21 1 rfl ?_
  refine z_aload e_X4_search_22 0 rfl ?_
  refine z_geti gf_X4_64_47 e_X4_search_23 ?_
  refine z_icmp_gt e_X4_search_26 h (fun c10 h => ?_) (fun c10 h => ?_)
  · exact z_sub [0] rfl (p_X4_search_51 hR  σ h)
  · refine z_iload e_X4_search_29 1 rfl ?_
    refine z_aload e_X4_search_30 0 rfl ?_
    refine z_geti gf_X4_64_47 e_X4_search_31 ?_
    refine z_ic e_X4_search_34 ?_
    refine z_ixor e_X4_search_35 ?_
    refine z_iand e_X4_search_36 ?_
    refine z_if_ne e_X4_search_37 h (fun c19 h => ?_) (fun c19 h => ?_)
    · refine z_aload e_X4_search_40 0 rfl ?_
      refine z_iload e_X4_search_41 1 rfl ?_
      obtain ⟨q21, s20, e22, h⟩ := bd_e h
      refine z_callVv (c0 := 47) (As := [.int x2]) (rest := []) lk_X4_67 ob_47 e_X4_search_42 (m_X4_clear G x2 σ _ _ e22) (by decide) rfl (Nat.le_of_ble_eq_true rfl) ?_
      exact z_sub [0, 1] rfl (p_X4_search_45 hR w21 x2 hw21 s20 h)
    · exact z_sub [0, 1] rfl (p_X4_search_45 hR w21 x2 hw21 σ h)
noncomputable def F_X4_search_21L  : ((Int32 × zSt) → Option (Int32 × zSt)) → (Int32 × zSt) → Option (Int32 × zSt) := fun w s => F_X4_search_21 w s.1 s.2
set_option maxRecDepth 100000 in
theorem l_X4_search_21 {G : zG} {C : zC} {r : Int32} {τ : zSt} (hR : zR G C (some .boolean) (some (.int r)) τ)  : ∀ (N : Nat) (x2 : Int32) (σ : zSt), zfix (F_X4_search_21L ) N (x2, σ) = some (r, τ) → zAW G 6 RX4 cX4_search 3 C 21 [(0, .ref (zad G 47)), (2, .int x2)] [] σ := by
  intro N
  induction N with
  | zero =>
    intro x2 σ h
    exact nomatch (show (none : Option (Int32 × zSt)) = some (r, τ) from h)
  | succ N ih =>
    intro x2 σ h
    exact b_X4_search_21 hR (zfix (F_X4_search_21L ) N) ih x2 σ h
noncomputable def F_X4_search_0 (x1 : Int32) (σ : zSt) : Option (Int32 × zSt) :=
  gd (x1 = 0 ∨ x1 = 1) (nm (zwr σ 47 5 x1) (fun s1 =>
    nm (zwr s1 47 8 (134217728 : Int32)) (fun s3 =>
      bd (F_X4_findUseful s3) (fun _ s4 =>
        bd (F_X4_findPaths s4) (fun _ s7 =>
          zfix (F_X4_search_21L ) zlim ((0 : Int32), s7))))))
set_option maxHeartbeats 4000000 in
set_option maxRecDepth 100000 in
theorem p_X4_search_0 {G : zG} {C : zC} {r : Int32} {τ : zSt} (hR : zR G C (some .boolean) (some (.int r)) τ) (x1 : Int32) (σ : zSt) (h : F_X4_search_0 x1 σ = some (r, τ)) : zAW G 6 RX4 cX4_search 3 C 0 [(0, .ref (zad G 47)), (1, .int x1)] [] σ := by
  unfold F_X4_search_0 at h
  refine z_aload e_X4_search_0 0 rfl ?_
  refine z_iload e_X4_search_1 1 rfl ?_
  obtain ⟨hb2, h⟩ := gd_e h
  refine z_putb pf_X4_53_47 e_X4_search_2 hb2 h (fun s1 h => ?_)
  refine z_aload e_X4_search_5 0 rfl ?_
  refine z_ldc cs_X4_57 e_X4_search_6 ?_
  refine z_puti pf_X4_45_47 e_X4_search_8 h (fun s3 h => ?_)
  refine z_aload e_X4_search_11 0 rfl ?_
  obtain ⟨q5, s4, e6, h⟩ := bd_e h
  refine z_callVv (c0 := 47) (As := []) (rest := []) lk_X4_58 ob_47 e_X4_search_12 (m_X4_findUseful G s3 _ _ e6) (by decide) rfl (Nat.le_of_ble_eq_true rfl) ?_
  refine z_aload e_X4_search_15 0 rfl ?_
  obtain ⟨q8, s7, e9, h⟩ := bd_e h
  refine z_callVv (c0 := 47) (As := []) (rest := []) lk_X4_61 ob_47 e_X4_search_16 (m_X4_findPaths G s4 _ _ e9) (by decide) rfl (Nat.le_of_ble_eq_true rfl) ?_
  refine z_ic e_X4_search_19 ?_
  refine z_istore e_X4_search_20 (by decide) [(2, .int (0 : Int32)), (0, .ref (zad G 47)), (1, .int x1)] rfl ?_
  exact z_sub [1, 0] rfl (l_X4_search_21 hR  zlim (0 : Int32) s7 h)
noncomputable def F_X4_search (x1 : Int32) (σ : zSt) : Option (Int32 × zSt) := F_X4_search_0 x1 σ
set_option maxRecDepth 100000 in
theorem m_X4_search (G : zG) (x1 : Int32) (σ : zSt) (q : Int32) (τ : zSt) (h : F_X4_search x1 σ = some (q, τ)) : zM G 6 yX4_search cX4_search 3 (some .boolean) [.ref (zad G 47), .int x1] σ (some (.int q)) τ := by
  unfold F_X4_search at h
  refine zM.of (own := RX4) (by decide +kernel) rfl (Nat.le_of_ble_eq_true rfl) (fun C hR => ?_)
  exact z_sub [0, 1] rfl (p_X4_search_0 hR x1 σ h)
noncomputable def F_X4_rest_0 (σ : zSt) : Option (Int32 × zSt) :=
  some (((σ.1 47 8) % (1024 : Int32)), σ)
set_option maxHeartbeats 4000000 in
set_option maxRecDepth 100000 in
theorem p_X4_rest_0 {G : zG} {C : zC} {r : Int32} {τ : zSt} (hR : zR G C (some .int) (some (.int r)) τ)  (σ : zSt) (h : F_X4_rest_0 σ = some (r, τ)) : zAW G 1 RX4 cX4_rest 1 C 0 [(0, .ref (zad G 47))] [] σ := by
  unfold F_X4_rest_0 at h
  refine z_aload e_X4_rest_0 0 rfl ?_
  refine z_geti gf_X4_45_47 e_X4_rest_1 ?_
  refine z_ic e_X4_rest_4 ?_
  refine z_irem e_X4_rest_7 (by decide) ?_
  cases h
  exact z_ireturn hR e_X4_rest_8
noncomputable def F_X4_rest (σ : zSt) : Option (Int32 × zSt) := F_X4_rest_0  σ
set_option maxRecDepth 100000 in
theorem m_X4_rest (G : zG) (σ : zSt) (q : Int32) (τ : zSt) (h : F_X4_rest  σ = some (q, τ)) : zM G 1 yX4_rest cX4_rest 1 (some .int) [.ref (zad G 47)] σ (some (.int q)) τ := by
  unfold F_X4_rest at h
  refine zM.of (own := RX4) (by decide +kernel) rfl (Nat.le_of_ble_eq_true rfl) (fun C hR => ?_)
  exact z_sub [0] rfl (p_X4_rest_0 hR  σ h)
noncomputable def F_X4_days_0 (σ : zSt) : Option (Int32 × zSt) :=
  some (((σ.1 47 8) / (1024 : Int32)), σ)
set_option maxHeartbeats 4000000 in
set_option maxRecDepth 100000 in
theorem p_X4_days_0 {G : zG} {C : zC} {r : Int32} {τ : zSt} (hR : zR G C (some .int) (some (.int r)) τ)  (σ : zSt) (h : F_X4_days_0 σ = some (r, τ)) : zAW G 1 RX4 cX4_days 1 C 0 [(0, .ref (zad G 47))] [] σ := by
  unfold F_X4_days_0 at h
  refine z_aload e_X4_days_0 0 rfl ?_
  refine z_geti gf_X4_45_47 e_X4_days_1 ?_
  refine z_ic e_X4_days_4 ?_
  refine z_idiv e_X4_days_7 (by decide) ?_
  cases h
  exact z_ireturn hR e_X4_days_8
noncomputable def F_X4_days (σ : zSt) : Option (Int32 × zSt) := F_X4_days_0  σ
set_option maxRecDepth 100000 in
theorem m_X4_days (G : zG) (σ : zSt) (q : Int32) (τ : zSt) (h : F_X4_days  σ = some (q, τ)) : zM G 1 yX4_days cX4_days 1 (some .int) [.ref (zad G 47)] σ (some (.int q)) τ := by
  unfold F_X4_days at h
  refine zM.of (own := RX4) (by decide +kernel) rfl (Nat.le_of_ble_eq_true rfl) (fun C hR => ?_)
  exact z_sub [0] rfl (p_X4_days_0 hR  σ h)
noncomputable def F_X11_soonest_0 (x1 : Int32) (σ : zSt) : Option (Int32 × zSt) :=
  bd (F_X11_isBelow x1 (2 : Int32) σ) (fun q2 s1 =>
    if q2 = 0 then (
      some ((-1 : Int32), s1))
    else (
      bd (F_X11_heartIsTold s1) (fun q6 s5 =>
        if q6 = 0 then (
          some ((-1 : Int32), s5))
        else (
          bd (F_X5_learn s5) (fun _ s9 =>
            bd (F_X4_search (0 : Int32) s9) (fun q13 s12 =>
              if q13 = 0 then (
                some ((-2 : Int32), s12))
              else (
                if x1 = 0 then (
                  bd (F_X4_days s12) (fun q18 s17 =>
                    some (q18, s17)))
                else (
                  bd (F_X4_rest s12) (fun q21 s20 =>
                    some (q21, s20))))))))))
set_option maxHeartbeats 4000000 in
set_option maxRecDepth 100000 in
theorem p_X11_soonest_0 {G : zG} {C : zC} {r : Int32} {τ : zSt} (hR : zR G C (some .int) (some (.int r)) τ) (x1 : Int32) (σ : zSt) (h : F_X11_soonest_0 x1 σ = some (r, τ)) : zAW G 7 RX11 cX11_soonest 2 C 0 [(0, .ref (zad G 0)), (1, .int x1)] [] σ := by
  unfold F_X11_soonest_0 at h
  refine z_iload e_X11_soonest_0 1 rfl ?_
  refine z_ic e_X11_soonest_1 ?_
  obtain ⟨q2, s1, e3, h⟩ := bd_e h
  refine z_callSi (As := [.int x1, .int (2 : Int32)]) (rest := []) lk_X11_104 e_X11_soonest_2 (m_X11_isBelow G x1 (2 : Int32) σ _ _ e3) (by decide) rfl (Nat.le_of_ble_eq_true rfl) ?_
  refine z_if_eq e_X11_soonest_5 h (fun c4 h => ?_) (fun c4 h => ?_)
  · refine z_ic e_X11_soonest_15 ?_
    cases h
    exact z_ireturn hR e_X11_soonest_16
  · refine z_aload e_X11_soonest_8 0 rfl ?_
    obtain ⟨q6, s5, e7, h⟩ := bd_e h
    refine z_callVi (c0 := 0) (As := []) (rest := []) lk_X11_159 ob_0 e_X11_soonest_9 (m_X11_heartIsTold G s1 _ _ e7) (by decide) rfl (Nat.le_of_ble_eq_true rfl) ?_
    refine z_if_ne e_X11_soonest_12 h (fun c8 h => ?_) (fun c8 h => ?_)
    · refine z_ic e_X11_soonest_15 ?_
      cases h
      exact z_ireturn hR e_X11_soonest_16
    · refine z_aload e_X11_soonest_17 0 rfl ?_
      refine z_getr gf_X11_50_0 e_X11_soonest_18 ?_
      obtain ⟨q10, s9, e11, h⟩ := bd_e h
      refine z_callVv (c0 := 17) (As := []) (rest := []) lk_X11_163 ob_17 e_X11_soonest_21 (m_X5_learn G s5 _ _ e11) (by decide) rfl (Nat.le_of_ble_eq_true rfl) ?_
      refine z_aload e_X11_soonest_24 0 rfl ?_
      refine z_getr gf_X11_66_0 e_X11_soonest_25 ?_
      refine z_ic e_X11_soonest_28 ?_
      obtain ⟨q13, s12, e14, h⟩ := bd_e h
      refine z_callVi (c0 := 47) (As := [.int (0 : Int32)]) (rest := []) lk_X11_166 ob_47 e_X11_soonest_29 (m_X4_search G (0 : Int32) s9 _ _ e14) (by decide) rfl (Nat.le_of_ble_eq_true rfl) ?_
      refine z_if_ne e_X11_soonest_32 h (fun c15 h => ?_) (fun c15 h => ?_)
      · refine z_ic e_X11_soonest_35 ?_
        cases h
        exact z_ireturn hR e_X11_soonest_37
      · refine z_iload e_X11_soonest_38 1 rfl ?_
        refine z_if_ne e_X11_soonest_39 h (fun c16 h => ?_) (fun c16 h => ?_)
        · refine z_aload e_X11_soonest_42 0 rfl ?_
          refine z_getr gf_X11_66_0 e_X11_soonest_43 ?_
          obtain ⟨q18, s17, e19, h⟩ := bd_e h
          refine z_callVi (c0 := 47) (As := []) (rest := []) lk_X11_170 ob_47 e_X11_soonest_46 (m_X4_days G s12 _ _ e19) (by decide) rfl (Nat.le_of_ble_eq_true rfl) ?_
          refine z_goto e_X11_soonest_49 ?_
          cases h
          exact z_ireturn hR e_X11_soonest_59
        · refine z_aload e_X11_soonest_52 0 rfl ?_
          refine z_getr gf_X11_66_0 e_X11_soonest_53 ?_
          obtain ⟨q21, s20, e22, h⟩ := bd_e h
          refine z_callVi (c0 := 47) (As := []) (rest := []) lk_X11_174 ob_47 e_X11_soonest_56 (m_X4_rest G s12 _ _ e22) (by decide) rfl (Nat.le_of_ble_eq_true rfl) ?_
          cases h
          exact z_ireturn hR e_X11_soonest_59
noncomputable def F_X11_soonest (x1 : Int32) (σ : zSt) : Option (Int32 × zSt) := F_X11_soonest_0 x1 σ
set_option maxRecDepth 100000 in
theorem m_X11_soonest (G : zG) (x1 : Int32) (σ : zSt) (q : Int32) (τ : zSt) (h : F_X11_soonest x1 σ = some (q, τ)) : zM G 7 yX11_soonest cX11_soonest 2 (some .int) [.ref (zad G 0), .int x1] σ (some (.int q)) τ := by
  unfold F_X11_soonest at h
  refine zM.of (own := RX11) (by decide +kernel) rfl (Nat.le_of_ble_eq_true rfl) (fun C hR => ?_)
  exact z_sub [0, 1] rfl (p_X11_soonest_0 hR x1 σ h)
