noncomputable def F_X12_check_57 (w30 : (Int32 × zSt) → Option (Int32 × zSt)) (x1 : Int32) (x2 : Int32) (t0 : Int32) (t1 : Int32) (σ : zSt) : Option (Int32 × zSt) :=
  if t1 = t0 then (
    nm (x2 + (1 : Int32)) (fun v16 =>
      w30 (v16, σ)))
  else (
    some (x2, σ))
set_option maxHeartbeats 4000000 in
set_option maxRecDepth 100000 in
theorem p_X12_check_57 {G : zG} {C : zC} {r : Int32} {τ : zSt} (hR : zR G C (some .int) (some (.int r)) τ) (w30 : (Int32 × zSt) → Option (Int32 × zSt)) (x1 : Int32) (x2 : Int32) (t0 : Int32) (t1 : Int32) (hw30 : ∀ (x2 : Int32) (σ : zSt), w30 (x2, σ) = some (r, τ) → zAW G 3 RX12 cX12_check 3 C 30 [(0, .ref (zad G 69)), (1, .int x1), (2, .int x2)] [] σ) (σ : zSt) (h : F_X12_check_57 w30 x1 x2 t0 t1 σ = some (r, τ)) : zAW G 3 RX12 cX12_check 3 C 57 [(0, .ref (zad G 69)), (1, .int x1), (2, .int x2)] [.int t0, .int t1] σ := by
  unfold F_X12_check_57 at h
  refine z_icmp_eq e_X12_check_57 h (fun c15 h => ?_) (fun c15 h => ?_)
  · refine z_iinc e_X12_check_62 2 rfl (by decide) (by decide) h (fun y => [(2, .int y), (0, .ref (zad G 69)), (1, .int x1)]) (fun _ => rfl) (fun v16 h => ?_)
    refine z_goto e_X12_check_65 ?_
    exact z_sub [1, 2, 0] rfl (hw30 v16 σ h)
  · refine z_iload e_X12_check_60 2 rfl ?_
    cases h
    exact z_ireturn hR e_X12_check_61
noncomputable def F_X12_check_30 (x1 : Int32) (w30 : (Int32 × zSt) → Option (Int32 × zSt)) (x2 : Int32) (σ : zSt) : Option (Int32 × zSt) :=
  if x1 ≤ x2 then (
    some ((-1 : Int32), σ))
  else (
    bd (F_X12_tapeNumber x2 σ) (fun q9 s8 =>
      bd (F_X12_isPlace x2 s8) (fun q12 s11 =>
        if q12 = 0 then (
          F_X12_check_57 w30 x1 x2 (0 : Int32) q9 s11)
        else (
          bd (F_X12_islandBy x2 s11) (fun q18 s17 =>
            F_X12_check_57 w30 x1 x2 q18 q9 s17)))))
set_option maxHeartbeats 4000000 in
set_option maxRecDepth 100000 in
theorem b_X12_check_30 {G : zG} {C : zC} {r : Int32} {τ : zSt} (hR : zR G C (some .int) (some (.int r)) τ) (x1 : Int32) (w30 : (Int32 × zSt) → Option (Int32 × zSt)) (hw30 : ∀ (x2 : Int32) (σ : zSt), w30 (x2, σ) = some (r, τ) → zAW G 3 RX12 cX12_check 3 C 30 [(0, .ref (zad G 69)), (1, .int x1), (2, .int x2)] [] σ) (x2 : Int32) (σ : zSt) (h : F_X12_check_30 x1 w30 x2 σ = some (r, τ)) : zAW G 3 RX12 cX12_check 3 C 30 [(0, .ref (zad G 69)), (1, .int x1), (2, .int x2)] [] σ := by
  unfold F_X12_check_30 at h
  refine z_iload e_X12_check_30 2 rfl ?_
  refine z_iload e_X12_check_31 1 rfl ?_
  refine z_icmp_ge e_X12_check_32 h (fun c7 h => ?_) (fun c7 h => ?_)
  · refine z_ic e_X12_check_68 ?_
    cases h
    exact z_ireturn hR e_X12_check_69
  · refine z_aload e_X12_check_35 0 rfl ?_
    refine z_iload e_X12_check_36 2 rfl ?_
    obtain ⟨q9, s8, e10, h⟩ := bd_e h
    refine z_callVi (c0 := 69) (As := [.int x2]) (rest := []) lk_X12_511 ob_69 e_X12_check_37 (m_X12_tapeNumber G x2 σ _ _ e10) (by decide) rfl (Nat.le_of_ble_eq_true rfl) ?_
    refine z_aload e_X12_check_40 0 rfl ?_
    refine z_iload e_X12_check_41 2 rfl ?_
    obtain ⟨q12, s11, e13, h⟩ := bd_e h
    refine z_callVi (c0 := 69) (As := [.int x2]) (rest := [.int q9]) lk_X12_167 ob_69 e_X12_check_42 (m_X12_isPlace G x2 s8 _ _ e13) (by decide) rfl (Nat.le_of_ble_eq_true rfl) ?_
    refine z_if_eq e_X12_check_45 h (fun c14 h => ?_) (fun c14 h => ?_)
    · refine z_ic e_X12_check_56 ?_
      exact z_sub [0, 1, 2] rfl (p_X12_check_57 hR w30 x1 x2 (0 : Int32) q9 hw30 s11 h)
    · refine z_aload e_X12_check_48 0 rfl ?_
      refine z_iload e_X12_check_49 2 rfl ?_
      obtain ⟨q18, s17, e19, h⟩ := bd_e h
      refine z_callVi (c0 := 69) (As := [.int x2]) (rest := [.int q9]) lk_X12_176 ob_69 e_X12_check_50 (m_X12_islandBy G x2 s11 _ _ e19) (by decide) rfl (Nat.le_of_ble_eq_true rfl) ?_
      refine z_goto e_X12_check_53 ?_
      exact z_sub [0, 1, 2] rfl (p_X12_check_57 hR w30 x1 x2 q18 q9 hw30 s17 h)
noncomputable def F_X12_check_30L (x1 : Int32) : ((Int32 × zSt) → Option (Int32 × zSt)) → (Int32 × zSt) → Option (Int32 × zSt) := fun w s => F_X12_check_30 x1 w s.1 s.2
set_option maxRecDepth 100000 in
theorem l_X12_check_30 {G : zG} {C : zC} {r : Int32} {τ : zSt} (hR : zR G C (some .int) (some (.int r)) τ) (x1 : Int32) : ∀ (N : Nat) (x2 : Int32) (σ : zSt), zfix (F_X12_check_30L x1) N (x2, σ) = some (r, τ) → zAW G 3 RX12 cX12_check 3 C 30 [(0, .ref (zad G 69)), (1, .int x1), (2, .int x2)] [] σ := by
  intro N
  induction N with
  | zero =>
    intro x2 σ h
    exact nomatch (show (none : Option (Int32 × zSt)) = some (r, τ) from h)
  | succ N ih =>
    intro x2 σ h
    exact b_X12_check_30 hR x1 (zfix (F_X12_check_30L x1) N) ih x2 σ h
noncomputable def F_X12_check_0 (x1 : Int32) (σ : zSt) : Option (Int32 × zSt) :=
  bd (F_X12_in x1 (0 : Int32) (8 : Int32) σ) (fun q2 s1 =>
    if q2 = 0 then (
      some ((-2 : Int32), s1))
    else (
      if x1 ≤ ((s1.1 69 14) / (4 : Int32)) then (
        nm (zwr s1 69 14 (0 : Int32)) (fun s6 =>
          zfix (F_X12_check_30L x1) zlim ((0 : Int32), s6)))
      else (
        some ((-2 : Int32), s1))))
set_option maxHeartbeats 4000000 in
set_option maxRecDepth 100000 in
theorem p_X12_check_0 {G : zG} {C : zC} {r : Int32} {τ : zSt} (hR : zR G C (some .int) (some (.int r)) τ) (x1 : Int32) (σ : zSt) (h : F_X12_check_0 x1 σ = some (r, τ)) : zAW G 3 RX12 cX12_check 3 C 0 [(0, .ref (zad G 69)), (1, .int x1)] [] σ := by
  unfold F_X12_check_0 at h
  refine z_iload e_X12_check_0 1 rfl ?_
  refine z_ic e_X12_check_1 ?_
  refine z_ic e_X12_check_2 ?_
  obtain ⟨q2, s1, e3, h⟩ := bd_e h
  refine z_callSi (As := [.int x1, .int (0 : Int32), .int (8 : Int32)]) (rest := []) lk_X12_163 e_X12_check_4 (m_X12_in G x1 (0 : Int32) (8 : Int32) σ _ _ e3) (by decide) rfl (Nat.le_of_ble_eq_true rfl) ?_
  refine z_if_eq e_X12_check_7 h (fun c4 h => ?_) (fun c4 h => ?_)
  · refine z_ic e_X12_check_20 ?_
    cases h
    exact z_ireturn hR e_X12_check_22
  · refine z_iload e_X12_check_10 1 rfl ?_
    refine z_aload e_X12_check_11 0 rfl ?_
    refine z_geti gf_X12_186_69 e_X12_check_12 ?_
    refine z_ic e_X12_check_15 ?_
    refine z_idiv e_X12_check_16 (by decide) ?_
    refine z_icmp_le e_X12_check_17 h (fun c5 h => ?_) (fun c5 h => ?_)
    · refine z_aload e_X12_check_23 0 rfl ?_
      refine z_ic e_X12_check_24 ?_
      refine z_puti pf_X12_186_69 e_X12_check_25 h (fun s6 h => ?_)
      refine z_ic e_X12_check_28 ?_
      refine z_istore e_X12_check_29 (by decide) [(2, .int (0 : Int32)), (0, .ref (zad G 69)), (1, .int x1)] rfl ?_
      exact z_sub [1, 2, 0] rfl (l_X12_check_30 hR x1 zlim (0 : Int32) s6 h)
    · refine z_ic e_X12_check_20 ?_
      cases h
      exact z_ireturn hR e_X12_check_22
noncomputable def F_X12_check (x1 : Int32) (σ : zSt) : Option (Int32 × zSt) := F_X12_check_0 x1 σ
set_option maxRecDepth 100000 in
theorem m_X12_check (G : zG) (x1 : Int32) (σ : zSt) (q : Int32) (τ : zSt) (h : F_X12_check x1 σ = some (q, τ)) : zM G 3 yX12_check cX12_check 3 (some .int) [.ref (zad G 69), .int x1] σ (some (.int q)) τ := by
  unfold F_X12_check at h
  refine zM.of (own := RX12) (by decide +kernel) rfl (Nat.le_of_ble_eq_true rfl) (fun C hR => ?_)
  exact z_sub [0, 1] rfl (p_X12_check_0 hR x1 σ h)
noncomputable def F_X11_count_62 (x1 : Int32) (σ : zSt) : Option (Int32 × zSt) :=
  if x1 = (0 : Int32) then (
    some ((σ.1 1 6), σ))
  else (
    if x1 = (1 : Int32) then (
      some ((σ.1 1 8), σ))
    else (
      if x1 = (2 : Int32) then (
        some ((σ.1 8 7), σ))
      else (
        if x1 = (3 : Int32) then (
          some ((σ.1 33 1), σ))
        else (
          if x1 = (4 : Int32) then (
            some ((σ.1 1 12), σ))
          else (
            if x1 = (5 : Int32) then (
              some ((σ.1 1 9), σ))
            else (
              if x1 = (6 : Int32) then (
                some ((σ.1 1 10), σ))
              else (
                if x1 = (7 : Int32) then (
                  some ((σ.1 1 11), σ))
                else (
                  if x1 = (8 : Int32) then (
                    some ((σ.1 65 0), σ))
                  else (
                    some ((-1 : Int32), σ))))))))))
set_option maxHeartbeats 4000000 in
set_option maxRecDepth 100000 in
theorem p_X11_count_62 {G : zG} {C : zC} {r : Int32} {τ : zSt} (hR : zR G C (some .int) (some (.int r)) τ) (x1 : Int32) (σ : zSt) (h : F_X11_count_62 x1 σ = some (r, τ)) : zAW G 1 RX11 cX11_count 3 C 62 [(0, .ref (zad G 0)), (1, .int x1)] [] σ := by
  unfold F_X11_count_62 at h
  refine z_iload e_X11_count_62 1 rfl ?_
  by_cases c3 : x1 = (0 : Int32)
  · rw [if_pos c3] at h
    refine z_tin (tgt := 112) e_X11_count_63 (0 : Int32) c3 (49) (by decide +kernel) ?_
    refine z_aload e_X11_count_112 0 rfl ?_
    refine z_getr gf_X11_23_0 e_X11_count_113 ?_
    refine z_geti gf_X11_272_1 e_X11_count_116 ?_
    cases h
    exact z_ireturn hR e_X11_count_119
  · rw [if_neg c3] at h
    by_cases c4 : x1 = (1 : Int32)
    · rw [if_pos c4] at h
      refine z_tin (tgt := 120) e_X11_count_63 (1 : Int32) c4 (57) (by decide +kernel) ?_
      refine z_aload e_X11_count_120 0 rfl ?_
      refine z_getr gf_X11_23_0 e_X11_count_121 ?_
      refine z_geti gf_X11_130_1 e_X11_count_124 ?_
      cases h
      exact z_ireturn hR e_X11_count_127
    · rw [if_neg c4] at h
      by_cases c5 : x1 = (2 : Int32)
      · rw [if_pos c5] at h
        refine z_tin (tgt := 128) e_X11_count_63 (2 : Int32) c5 (65) (by decide +kernel) ?_
        refine z_aload e_X11_count_128 0 rfl ?_
        refine z_getr gf_X11_43_0 e_X11_count_129 ?_
        refine z_geti gf_X11_286_8 e_X11_count_132 ?_
        cases h
        exact z_ireturn hR e_X11_count_135
      · rw [if_neg c5] at h
        by_cases c6 : x1 = (3 : Int32)
        · rw [if_pos c6] at h
          refine z_tin (tgt := 136) e_X11_count_63 (3 : Int32) c6 (73) (by decide +kernel) ?_
          refine z_aload e_X11_count_136 0 rfl ?_
          refine z_getr gf_X11_39_0 e_X11_count_137 ?_
          refine z_geti gf_X11_140_33 e_X11_count_140 ?_
          cases h
          exact z_ireturn hR e_X11_count_143
        · rw [if_neg c6] at h
          by_cases c7 : x1 = (4 : Int32)
          · rw [if_pos c7] at h
            refine z_tin (tgt := 144) e_X11_count_63 (4 : Int32) c7 (81) (by decide +kernel) ?_
            refine z_aload e_X11_count_144 0 rfl ?_
            refine z_getr gf_X11_23_0 e_X11_count_145 ?_
            refine z_geti gf_X11_222_1 e_X11_count_148 ?_
            cases h
            exact z_ireturn hR e_X11_count_151
          · rw [if_neg c7] at h
            by_cases c8 : x1 = (5 : Int32)
            · rw [if_pos c8] at h
              refine z_tin (tgt := 152) e_X11_count_63 (5 : Int32) c8 (89) (by decide +kernel) ?_
              refine z_aload e_X11_count_152 0 rfl ?_
              refine z_getr gf_X11_23_0 e_X11_count_153 ?_
              refine z_geti gf_X11_201_1 e_X11_count_156 ?_
              cases h
              exact z_ireturn hR e_X11_count_159
            · rw [if_neg c8] at h
              by_cases c9 : x1 = (6 : Int32)
              · rw [if_pos c9] at h
                refine z_tin (tgt := 160) e_X11_count_63 (6 : Int32) c9 (97) (by decide +kernel) ?_
                refine z_aload e_X11_count_160 0 rfl ?_
                refine z_getr gf_X11_23_0 e_X11_count_161 ?_
                refine z_geti gf_X11_212_1 e_X11_count_164 ?_
                cases h
                exact z_ireturn hR e_X11_count_167
              · rw [if_neg c9] at h
                by_cases c10 : x1 = (7 : Int32)
                · rw [if_pos c10] at h
                  refine z_tin (tgt := 168) e_X11_count_63 (7 : Int32) c10 (105) (by decide +kernel) ?_
                  refine z_aload e_X11_count_168 0 rfl ?_
                  refine z_getr gf_X11_23_0 e_X11_count_169 ?_
                  refine z_geti gf_X11_218_1 e_X11_count_172 ?_
                  cases h
                  exact z_ireturn hR e_X11_count_175
                · rw [if_neg c10] at h
                  by_cases c11 : x1 = (8 : Int32)
                  · rw [if_pos c11] at h
                    refine z_tin (tgt := 176) e_X11_count_63 (8 : Int32) c11 (113) (by decide +kernel) ?_
                    refine z_aload e_X11_count_176 0 rfl ?_
                    refine z_getr gf_X11_93_0 e_X11_count_177 ?_
                    refine z_geti gf_X11_289_65 e_X11_count_180 ?_
                    cases h
                    exact z_ireturn hR e_X11_count_183
                  · rw [if_neg c11] at h
                    refine z_tout (tgt := 184) e_X11_count_63 (by
                      have := lv_neT c3 (show (0 : Int32).toInt = 0 by decide)
                      have := lv_neT c4 (show (1 : Int32).toInt = 1 by decide)
                      have := lv_neT c5 (show (2 : Int32).toInt = 2 by decide)
                      have := lv_neT c6 (show (3 : Int32).toInt = 3 by decide)
                      have := lv_neT c7 (show (4 : Int32).toInt = 4 by decide)
                      have := lv_neT c8 (show (5 : Int32).toInt = 5 by decide)
                      have := lv_neT c9 (show (6 : Int32).toInt = 6 by decide)
                      have := lv_neT c10 (show (7 : Int32).toInt = 7 by decide)
                      have := lv_neT c11 (show (8 : Int32).toInt = 8 by decide)
                      omega) (by decide) ?_
                    refine z_ic e_X11_count_184 ?_
                    cases h
                    exact z_ireturn hR e_X11_count_185
noncomputable def F_X11_count_37 (x1 : Int32) (σ : zSt) : Option (Int32 × zSt) :=
  if x1 < (100 : Int32) then (
    F_X11_count_62 x1 σ)
  else (
    if (116 : Int32) ≤ x1 then (
      F_X11_count_62 x1 σ)
    else (
      gd (vp_in (x1 - (100 : Int32)) 16) (
        some ((σ.1 2 (x1 - (100 : Int32)).toNatClampNeg), σ))))
set_option maxHeartbeats 4000000 in
set_option maxRecDepth 100000 in
theorem p_X11_count_37 {G : zG} {C : zC} {r : Int32} {τ : zSt} (hR : zR G C (some .int) (some (.int r)) τ) (x1 : Int32) (σ : zSt) (h : F_X11_count_37 x1 σ = some (r, τ)) : zAW G 1 RX11 cX11_count 3 C 37 [(0, .ref (zad G 0)), (1, .int x1)] [] σ := by
  unfold F_X11_count_37 at h
  refine z_iload e_X11_count_37 1 rfl ?_
  refine z_ic e_X11_count_38 ?_
  refine z_icmp_lt e_X11_count_40 h (fun c2 h => ?_) (fun c2 h => ?_)
  · exact z_sub [0, 1] rfl (p_X11_count_62 hR x1 σ h)
  · refine z_iload e_X11_count_43 1 rfl ?_
    refine z_ic e_X11_count_44 ?_
    refine z_icmp_ge e_X11_count_46 h (fun c12 h => ?_) (fun c12 h => ?_)
    · exact z_sub [0, 1] rfl (p_X11_count_62 hR x1 σ h)
    · refine z_aload e_X11_count_49 0 rfl ?_
      refine z_getr gf_X11_23_0 e_X11_count_50 ?_
      refine z_getr gf_X11_108_1 e_X11_count_53 ?_
      refine z_iload e_X11_count_56 1 rfl ?_
      refine z_ic e_X11_count_57 ?_
      refine z_isub e_X11_count_59 ?_
      refine z_iald sh_2 e_X11_count_60 h (fun h => ?_)
      cases h
      exact z_ireturn hR e_X11_count_61
noncomputable def F_X11_count_0 (x1 : Int32) (σ : zSt) : Option (Int32 × zSt) :=
  if x1 < (10 : Int32) then (
    F_X11_count_37 x1 σ)
  else (
    if (18 : Int32) ≤ x1 then (
      F_X11_count_37 x1 σ)
    else (
      gd (vp_in (x1 - (10 : Int32)) 8) (
        nm (σ.1 7 (x1 - (10 : Int32)).toNatClampNeg) (fun v14 =>
          if v14 = (-1 : Int32) then (
            some ((-2 : Int32), σ))
          else (
            some (v14, σ))))))
set_option maxHeartbeats 4000000 in
set_option maxRecDepth 100000 in
theorem p_X11_count_0 {G : zG} {C : zC} {r : Int32} {τ : zSt} (hR : zR G C (some .int) (some (.int r)) τ) (x1 : Int32) (σ : zSt) (h : F_X11_count_0 x1 σ = some (r, τ)) : zAW G 1 RX11 cX11_count 3 C 0 [(0, .ref (zad G 0)), (1, .int x1)] [] σ := by
  unfold F_X11_count_0 at h
  refine z_iload e_X11_count_0 1 rfl ?_
  refine z_ic e_X11_count_1 ?_
  refine z_icmp_lt e_X11_count_3 h (fun c1 h => ?_) (fun c1 h => ?_)
  · exact z_sub [0, 1] rfl (p_X11_count_37 hR x1 σ h)
  · refine z_iload e_X11_count_6 1 rfl ?_
    refine z_ic e_X11_count_7 ?_
    refine z_icmp_ge e_X11_count_9 h (fun c13 h => ?_) (fun c13 h => ?_)
    · exact z_sub [0, 1] rfl (p_X11_count_37 hR x1 σ h)
    · refine z_aload e_X11_count_12 0 rfl ?_
      refine z_getr gf_X11_23_0 e_X11_count_13 ?_
      refine z_getr gf_X11_127_1 e_X11_count_16 ?_
      refine z_iload e_X11_count_19 1 rfl ?_
      refine z_ic e_X11_count_20 ?_
      refine z_isub e_X11_count_22 ?_
      refine z_iald sh_7 e_X11_count_23 h (fun h => ?_)
      refine z_nmI h (fun v14 h => ?_)
      refine z_istore e_X11_count_24 (by decide) [(2, .int v14), (0, .ref (zad G 0)), (1, .int x1)] rfl ?_
      refine z_iload e_X11_count_25 0 rfl ?_
      refine z_ic e_X11_count_26 ?_
      refine z_icmp_ne e_X11_count_27 h (fun c15 h => ?_) (fun c15 h => ?_)
      · refine z_ic e_X11_count_30 ?_
        refine z_goto e_X11_count_32 ?_
        cases h
        exact z_ireturn hR e_X11_count_36
      · refine z_iload e_X11_count_35 0 rfl ?_
        cases h
        exact z_ireturn hR e_X11_count_36
noncomputable def F_X11_count (x1 : Int32) (σ : zSt) : Option (Int32 × zSt) := F_X11_count_0 x1 σ
set_option maxRecDepth 100000 in
theorem m_X11_count (G : zG) (x1 : Int32) (σ : zSt) (q : Int32) (τ : zSt) (h : F_X11_count x1 σ = some (q, τ)) : zM G 1 yX11_count cX11_count 3 (some .int) [.ref (zad G 0), .int x1] σ (some (.int q)) τ := by
  unfold F_X11_count at h
  refine zM.of (own := RX11) (by decide +kernel) rfl (Nat.le_of_ble_eq_true rfl) (fun C hR => ?_)
  exact z_sub [0, 1] rfl (p_X11_count_0 hR x1 σ h)
noncomputable def F_X12_count_0 (x1 : Int32) (σ : zSt) : Option (Int32 × zSt) :=
  if x1 = (0 : Int32) then (
    some ((σ.1 69 0), σ))
  else (
    if x1 = (1 : Int32) then (
      some ((σ.1 69 2), σ))
    else (
      if x1 = (2 : Int32) then (
        some ((σ.1 69 23), σ))
      else (
        if x1 = (3 : Int32) then (
          some ((σ.1 69 14), σ))
        else (
          if x1 = (4 : Int32) then (
            some ((σ.1 69 3), σ))
          else (
            if x1 = (5 : Int32) then (
              some ((σ.1 69 4), σ))
            else (
              if x1 = (6 : Int32) then (
                some ((σ.1 69 5), σ))
              else (
                if x1 = (7 : Int32) then (
                  some ((σ.1 69 6), σ))
                else (
                  if x1 = (8 : Int32) then (
                    some ((σ.1 69 59), σ))
                  else (
                    bd (F_X12_in x1 (10 : Int32) (17 : Int32) σ) (fun q11 s10 =>
                      if q11 = 0 then (
                        bd (F_X12_in x1 (100 : Int32) (115 : Int32) s10) (fun q15 s14 =>
                          if q15 = 0 then (
                            some ((-1 : Int32), s14))
                          else (
                            gd (vp_in (x1 - (100 : Int32)) 16) (
                              some ((s14.1 70 (x1 - (100 : Int32)).toNatClampNeg), s14)))))
                      else (
                        gd (vp_in (x1 - (10 : Int32)) 8) (
                          some ((s10.1 75 (x1 - (10 : Int32)).toNatClampNeg), s10)))))))))))))
set_option maxHeartbeats 4000000 in
set_option maxRecDepth 100000 in
theorem p_X12_count_0 {G : zG} {C : zC} {r : Int32} {τ : zSt} (hR : zR G C (some .int) (some (.int r)) τ) (x1 : Int32) (σ : zSt) (h : F_X12_count_0 x1 σ = some (r, τ)) : zAW G 2 RX12 cX12_count 2 C 0 [(0, .ref (zad G 69)), (1, .int x1)] [] σ := by
  unfold F_X12_count_0 at h
  refine z_iload e_X12_count_0 1 rfl ?_
  by_cases c1 : x1 = (0 : Int32)
  · rw [if_pos c1] at h
    refine z_tin (tgt := 52) e_X12_count_1 (0 : Int32) c1 (51) (by decide +kernel) ?_
    refine z_aload e_X12_count_52 0 rfl ?_
    refine z_geti gf_X12_153_69 e_X12_count_53 ?_
    cases h
    exact z_ireturn hR e_X12_count_56
  · rw [if_neg c1] at h
    by_cases c2 : x1 = (1 : Int32)
    · rw [if_pos c2] at h
      refine z_tin (tgt := 57) e_X12_count_1 (1 : Int32) c2 (56) (by decide +kernel) ?_
      refine z_aload e_X12_count_57 0 rfl ?_
      refine z_geti gf_X12_173_69 e_X12_count_58 ?_
      cases h
      exact z_ireturn hR e_X12_count_61
    · rw [if_neg c2] at h
      by_cases c3 : x1 = (2 : Int32)
      · rw [if_pos c3] at h
        refine z_tin (tgt := 62) e_X12_count_1 (2 : Int32) c3 (61) (by decide +kernel) ?_
        refine z_aload e_X12_count_62 0 rfl ?_
        refine z_geti gf_X12_282_69 e_X12_count_63 ?_
        cases h
        exact z_ireturn hR e_X12_count_66
      · rw [if_neg c3] at h
        by_cases c4 : x1 = (3 : Int32)
        · rw [if_pos c4] at h
          refine z_tin (tgt := 67) e_X12_count_1 (3 : Int32) c4 (66) (by decide +kernel) ?_
          refine z_aload e_X12_count_67 0 rfl ?_
          refine z_geti gf_X12_186_69 e_X12_count_68 ?_
          cases h
          exact z_ireturn hR e_X12_count_71
        · rw [if_neg c4] at h
          by_cases c5 : x1 = (4 : Int32)
          · rw [if_pos c5] at h
            refine z_tin (tgt := 72) e_X12_count_1 (4 : Int32) c5 (71) (by decide +kernel) ?_
            refine z_aload e_X12_count_72 0 rfl ?_
            refine z_geti gf_X12_135_69 e_X12_count_73 ?_
            cases h
            exact z_ireturn hR e_X12_count_76
          · rw [if_neg c5] at h
            by_cases c6 : x1 = (5 : Int32)
            · rw [if_pos c6] at h
              refine z_tin (tgt := 77) e_X12_count_1 (5 : Int32) c6 (76) (by decide +kernel) ?_
              refine z_aload e_X12_count_77 0 rfl ?_
              refine z_geti gf_X12_307_69 e_X12_count_78 ?_
              cases h
              exact z_ireturn hR e_X12_count_81
            · rw [if_neg c6] at h
              by_cases c7 : x1 = (6 : Int32)
              · rw [if_pos c7] at h
                refine z_tin (tgt := 82) e_X12_count_1 (6 : Int32) c7 (81) (by decide +kernel) ?_
                refine z_aload e_X12_count_82 0 rfl ?_
                refine z_geti gf_X12_139_69 e_X12_count_83 ?_
                cases h
                exact z_ireturn hR e_X12_count_86
              · rw [if_neg c7] at h
                by_cases c8 : x1 = (7 : Int32)
                · rw [if_pos c8] at h
                  refine z_tin (tgt := 87) e_X12_count_1 (7 : Int32) c8 (86) (by decide +kernel) ?_
                  refine z_aload e_X12_count_87 0 rfl ?_
                  refine z_geti gf_X12_142_69 e_X12_count_88 ?_
                  cases h
                  exact z_ireturn hR e_X12_count_91
                · rw [if_neg c8] at h
                  by_cases c9 : x1 = (8 : Int32)
                  · rw [if_pos c9] at h
                    refine z_tin (tgt := 92) e_X12_count_1 (8 : Int32) c9 (91) (by decide +kernel) ?_
                    refine z_aload e_X12_count_92 0 rfl ?_
                    refine z_geti gf_X12_464_69 e_X12_count_93 ?_
                    cases h
                    exact z_ireturn hR e_X12_count_96
                  · rw [if_neg c9] at h
                    refine z_tout (tgt := 97) e_X12_count_1 (by
                      have := lv_neT c1 (show (0 : Int32).toInt = 0 by decide)
                      have := lv_neT c2 (show (1 : Int32).toInt = 1 by decide)
                      have := lv_neT c3 (show (2 : Int32).toInt = 2 by decide)
                      have := lv_neT c4 (show (3 : Int32).toInt = 3 by decide)
                      have := lv_neT c5 (show (4 : Int32).toInt = 4 by decide)
                      have := lv_neT c6 (show (5 : Int32).toInt = 5 by decide)
                      have := lv_neT c7 (show (6 : Int32).toInt = 6 by decide)
                      have := lv_neT c8 (show (7 : Int32).toInt = 7 by decide)
                      have := lv_neT c9 (show (8 : Int32).toInt = 8 by decide)
                      omega) (by decide) ?_
                    refine z_iload e_X12_count_97 1 rfl ?_
                    refine z_ic e_X12_count_98 ?_
                    refine z_ic e_X12_count_100 ?_
                    obtain ⟨q11, s10, e12, h⟩ := bd_e h
                    refine z_callSi (As := [.int x1, .int (10 : Int32), .int (17 : Int32)]) (rest := []) lk_X12_163 e_X12_count_102 (m_X12_in G x1 (10 : Int32) (17 : Int32) σ _ _ e12) (by decide) rfl (Nat.le_of_ble_eq_true rfl) ?_
                    refine z_if_eq e_X12_count_105 h (fun c13 h => ?_) (fun c13 h => ?_)
                    · refine z_iload e_X12_count_118 1 rfl ?_
                      refine z_ic e_X12_count_119 ?_
                      refine z_ic e_X12_count_121 ?_
                      obtain ⟨q15, s14, e16, h⟩ := bd_e h
                      refine z_callSi (As := [.int x1, .int (100 : Int32), .int (115 : Int32)]) (rest := []) lk_X12_163 e_X12_count_123 (m_X12_in G x1 (100 : Int32) (115 : Int32) s10 _ _ e16) (by decide) rfl (Nat.le_of_ble_eq_true rfl) ?_
                      refine z_if_eq e_X12_count_126 h (fun c17 h => ?_) (fun c17 h => ?_)
                      · refine z_ic e_X12_count_141 ?_
                        cases h
                        exact z_ireturn hR e_X12_count_142
                      · refine z_aload e_X12_count_129 0 rfl ?_
                        refine z_getr gf_X12_7_69 e_X12_count_130 ?_
                        refine z_iload e_X12_count_133 1 rfl ?_
                        refine z_ic e_X12_count_134 ?_
                        refine z_isub e_X12_count_136 ?_
                        refine z_iald sh_70 e_X12_count_137 h (fun h => ?_)
                        refine z_goto e_X12_count_138 ?_
                        cases h
                        exact z_ireturn hR e_X12_count_142
                    · refine z_aload e_X12_count_108 0 rfl ?_
                      refine z_getr gf_X12_25_69 e_X12_count_109 ?_
                      refine z_iload e_X12_count_112 1 rfl ?_
                      refine z_ic e_X12_count_113 ?_
                      refine z_isub e_X12_count_115 ?_
                      refine z_iald sh_75 e_X12_count_116 h (fun h => ?_)
                      cases h
                      exact z_ireturn hR e_X12_count_117
noncomputable def F_X12_count (x1 : Int32) (σ : zSt) : Option (Int32 × zSt) := F_X12_count_0 x1 σ
set_option maxRecDepth 100000 in
theorem m_X12_count (G : zG) (x1 : Int32) (σ : zSt) (q : Int32) (τ : zSt) (h : F_X12_count x1 σ = some (q, τ)) : zM G 2 yX12_count cX12_count 2 (some .int) [.ref (zad G 69), .int x1] σ (some (.int q)) τ := by
  unfold F_X12_count at h
  refine zM.of (own := RX12) (by decide +kernel) rfl (Nat.le_of_ble_eq_true rfl) (fun C hR => ?_)
  exact z_sub [0, 1] rfl (p_X12_count_0 hR x1 σ h)
