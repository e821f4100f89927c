noncomputable def F_X12_comesTo_233 (σ : zSt) : Option (Int32 × zSt) :=
  some ((σ.1 88 0), σ)
set_option maxHeartbeats 4000000 in
set_option maxRecDepth 100000 in
theorem p_X12_comesTo_233 {G : zG} {C : zC} {r : Int32} {τ : zSt} (hR : zR G C (some .int) (some (.int r)) τ)  (σ : zSt) (h : F_X12_comesTo_233 σ = some (r, τ)) : zAW G 2 RX12 cX12_comesTo 8 C 233 [(0, .ref (zad G 69))] [] σ := by
  unfold F_X12_comesTo_233 at h
  refine z_aload e_X12_comesTo_233 0 rfl ?_
  refine z_getr gf_X12_65_69 e_X12_comesTo_234 ?_
  refine z_ic e_X12_comesTo_237 ?_
  refine z_iald0 (j := 0) sh_88 e_X12_comesTo_238 (by unfold vp_in; decide) rfl ?_
  cases h
  exact z_ireturn hR e_X12_comesTo_239
noncomputable def F_X12_comesTo_230 (w16 : (Int32 × Int32 × zSt) → Option (Int32 × zSt)) (x2 : Int32) (x3 : Int32) (x4 : Int32) (x5 : Int32) (σ : zSt) : Option (Int32 × zSt) :=
  w16 (x3, x5, σ)
set_option maxHeartbeats 4000000 in
set_option maxRecDepth 100000 in
theorem p_X12_comesTo_230 {G : zG} {C : zC} {r : Int32} {τ : zSt} (hR : zR G C (some .int) (some (.int r)) τ) (w16 : (Int32 × Int32 × zSt) → Option (Int32 × zSt)) (x2 : Int32) (x3 : Int32) (x4 : Int32) (x5 : Int32) (hw16 : ∀ (x3 : Int32) (x5 : Int32) (σ : zSt), w16 (x3, x5, σ) = some (r, τ) → zAW G 2 RX12 cX12_comesTo 8 C 16 [(0, .ref (zad G 69)), (2, .int x2), (3, .int x3), (4, .int x4), (5, .int x5)] [] σ) (σ : zSt) (h : F_X12_comesTo_230 w16 x2 x3 x4 x5 σ = some (r, τ)) : zAW G 2 RX12 cX12_comesTo 8 C 230 [(0, .ref (zad G 69)), (2, .int x2), (3, .int x3), (4, .int x4), (5, .int x5)] [] σ := by
  unfold F_X12_comesTo_230 at h
  refine z_goto e_X12_comesTo_230 ?_
  exact z_sub [0, 1, 2, 3, 4] rfl (hw16 x3 x5 σ h)
noncomputable def F_X12_comesTo_85 (w16 : (Int32 × Int32 × zSt) → Option (Int32 × zSt)) (x2 : Int32) (x3 : Int32) (x4 : Int32) (x5 : Int32) (t0 : Int32) (t1 : Int32) (σ : zSt) : Option (Int32 × zSt) :=
  gd (vp_in t1 260) (nm (zwr σ 88 t1.toNatClampNeg t0) (fun s8 =>
    nm (x3 + (1 : Int32)) (fun v9 =>
      F_X12_comesTo_230 w16 x2 v9 x4 x5 s8)))
set_option maxHeartbeats 4000000 in
set_option maxRecDepth 100000 in
theorem p_X12_comesTo_85 {G : zG} {C : zC} {r : Int32} {τ : zSt} (hR : zR G C (some .int) (some (.int r)) τ) (w16 : (Int32 × Int32 × zSt) → Option (Int32 × zSt)) (x2 : Int32) (x3 : Int32) (x4 : Int32) (x5 : Int32) (t0 : Int32) (t1 : Int32) (hw16 : ∀ (x3 : Int32) (x5 : Int32) (σ : zSt), w16 (x3, x5, σ) = some (r, τ) → zAW G 2 RX12 cX12_comesTo 8 C 16 [(0, .ref (zad G 69)), (2, .int x2), (3, .int x3), (4, .int x4), (5, .int x5)] [] σ) (σ : zSt) (h : F_X12_comesTo_85 w16 x2 x3 x4 x5 t0 t1 σ = some (r, τ)) : zAW G 2 RX12 cX12_comesTo 8 C 85 [(0, .ref (zad G 69)), (2, .int x2), (3, .int x3), (4, .int x4), (5, .int x5)] [.int t0, .int t1, .ref (zad G 88)] σ := by
  unfold F_X12_comesTo_85 at h
  refine z_iast sh_88 e_X12_comesTo_85 h (fun s8 h => ?_)
  refine z_iload e_X12_comesTo_86 2 rfl ?_
  refine z_ic e_X12_comesTo_87 ?_
  refine z_iadd e_X12_comesTo_88 ?_
  refine z_nmI h (fun v9 h => ?_)
  refine z_istore e_X12_comesTo_89 (by decide) [(3, .int v9), (0, .ref (zad G 69)), (2, .int x2), (4, .int x4), (5, .int x5)] rfl ?_
  refine z_goto e_X12_comesTo_90 ?_
  exact z_sub [1, 2, 0, 3, 4] rfl (p_X12_comesTo_230 hR w16 x2 v9 x4 x5 hw16 s8 h)
noncomputable def F_X12_comesTo_63 (w16 : (Int32 × Int32 × zSt) → Option (Int32 × zSt)) (x2 : Int32) (x3 : Int32) (x4 : Int32) (x5 : Int32) (x6 : Int32) (x7 : Int32) (σ : zSt) : Option (Int32 × zSt) :=
  if x6 = 0 then (
    F_X12_comesTo_85 w16 x2 x3 x4 x5 x7 x3 σ)
  else (
    gd (vp_in x7 9) (
      F_X12_comesTo_85 w16 x2 x3 x4 x5 (σ.1 89 x7.toNatClampNeg) x3 σ))
set_option maxHeartbeats 4000000 in
set_option maxRecDepth 100000 in
theorem p_X12_comesTo_63 {G : zG} {C : zC} {r : Int32} {τ : zSt} (hR : zR G C (some .int) (some (.int r)) τ) (w16 : (Int32 × Int32 × zSt) → Option (Int32 × zSt)) (x2 : Int32) (x3 : Int32) (x4 : Int32) (x5 : Int32) (x6 : Int32) (x7 : Int32) (hw16 : ∀ (x3 : Int32) (x5 : Int32) (σ : zSt), w16 (x3, x5, σ) = some (r, τ) → zAW G 2 RX12 cX12_comesTo 8 C 16 [(0, .ref (zad G 69)), (2, .int x2), (3, .int x3), (4, .int x4), (5, .int x5)] [] σ) (σ : zSt) (h : F_X12_comesTo_63 w16 x2 x3 x4 x5 x6 x7 σ = some (r, τ)) : zAW G 2 RX12 cX12_comesTo 8 C 63 [(0, .ref (zad G 69)), (2, .int x2), (3, .int x3), (4, .int x4), (5, .int x5), (6, .int x6), (7, .int x7)] [] σ := by
  unfold F_X12_comesTo_63 at h
  refine z_aload e_X12_comesTo_63 0 rfl ?_
  refine z_getr gf_X12_65_69 e_X12_comesTo_64 ?_
  refine z_iload e_X12_comesTo_67 2 rfl ?_
  refine z_iload e_X12_comesTo_68 5 rfl ?_
  refine z_if_ne e_X12_comesTo_70 h (fun c7 h => ?_) (fun c7 h => ?_)
  · refine z_iload e_X12_comesTo_73 6 rfl ?_
    refine z_goto e_X12_comesTo_75 ?_
    exact z_sub [0, 1, 2, 3, 4] rfl (p_X12_comesTo_85 hR w16 x2 x3 x4 x5 x7 x3 hw16 σ h)
  · refine z_aload e_X12_comesTo_78 0 rfl ?_
    refine z_getr gf_X12_68_69 e_X12_comesTo_79 ?_
    refine z_iload e_X12_comesTo_82 6 rfl ?_
    refine z_iald sh_89 e_X12_comesTo_84 h (fun h => ?_)
    exact z_sub [0, 1, 2, 3, 4] rfl (p_X12_comesTo_85 hR w16 x2 x3 x4 x5 (σ.1 89 x7.toNatClampNeg) x3 hw16 σ h)
noncomputable def F_X12_comesTo_135 (w16 : (Int32 × Int32 × zSt) → Option (Int32 × zSt)) (x2 : Int32) (x3 : Int32) (x4 : Int32) (x5 : Int32) (x6 : Int32) (x7 : Int32) (σ : zSt) : Option (Int32 × zSt) :=
  gd (vp_in (x3 - (1 : Int32)) 260) (
    nm (if x6 = (12 : Int32) then (1 : Int32) else (0 : Int32)) (fun v14 =>
      if (σ.1 88 (x3 - (1 : Int32)).toNatClampNeg) = v14 then (
        nm (x4 + x7) (fun v16 =>
          F_X12_comesTo_230 w16 x2 x3 x4 v16 σ))
      else (
        nm (x3 - (1 : Int32)) (fun v17 =>
          F_X12_comesTo_230 w16 x2 v17 x4 x5 σ))))
set_option maxHeartbeats 4000000 in
set_option maxRecDepth 100000 in
theorem p_X12_comesTo_135 {G : zG} {C : zC} {r : Int32} {τ : zSt} (hR : zR G C (some .int) (some (.int r)) τ) (w16 : (Int32 × Int32 × zSt) → Option (Int32 × zSt)) (x2 : Int32) (x3 : Int32) (x4 : Int32) (x5 : Int32) (x6 : Int32) (x7 : Int32) (hw16 : ∀ (x3 : Int32) (x5 : Int32) (σ : zSt), w16 (x3, x5, σ) = some (r, τ) → zAW G 2 RX12 cX12_comesTo 8 C 16 [(0, .ref (zad G 69)), (2, .int x2), (3, .int x3), (4, .int x4), (5, .int x5)] [] σ) (σ : zSt) (h : F_X12_comesTo_135 w16 x2 x3 x4 x5 x6 x7 σ = some (r, τ)) : zAW G 2 RX12 cX12_comesTo 8 C 135 [(0, .ref (zad G 69)), (2, .int x2), (3, .int x3), (4, .int x4), (5, .int x5), (6, .int x6), (7, .int x7)] [] σ := by
  unfold F_X12_comesTo_135 at h
  refine z_aload e_X12_comesTo_135 0 rfl ?_
  refine z_getr gf_X12_65_69 e_X12_comesTo_136 ?_
  refine z_iload e_X12_comesTo_139 2 rfl ?_
  refine z_ic e_X12_comesTo_140 ?_
  refine z_isub e_X12_comesTo_141 ?_
  refine z_iald sh_88 e_X12_comesTo_142 h (fun h => ?_)
  refine z_iload e_X12_comesTo_143 5 rfl ?_
  refine z_ic e_X12_comesTo_145 ?_
  obtain ⟨v14, ev14, h⟩ := nm_i h
  have jv14 : zAW G 2 RX12 cX12_comesTo 8 C 155 [(0, .ref (zad G 69)), (2, .int x2), (3, .int x3), (4, .int x4), (5, .int x5), (7, .int x7)] [.int v14, .int (σ.1 88 (x3 - (1 : Int32)).toNatClampNeg)] σ := by
    refine z_icmp_ne e_X12_comesTo_155 h (fun c15 h => ?_) (fun c15 h => ?_)
    · refine z_iload e_X12_comesTo_158 3 rfl ?_
      refine z_iload e_X12_comesTo_160 5 rfl ?_
      refine z_iadd e_X12_comesTo_162 ?_
      refine z_nmI h (fun v16 h => ?_)
      refine z_istore e_X12_comesTo_163 (by decide) [(5, .int v16), (0, .ref (zad G 69)), (2, .int x2), (3, .int x3), (4, .int x4), (7, .int x7)] rfl ?_
      refine z_goto e_X12_comesTo_165 ?_
      exact z_sub [1, 2, 3, 4, 0] rfl (p_X12_comesTo_230 hR w16 x2 x3 x4 v16 hw16 σ h)
    · refine z_iload e_X12_comesTo_168 2 rfl ?_
      refine z_ic e_X12_comesTo_169 ?_
      refine z_isub e_X12_comesTo_170 ?_
      refine z_nmI h (fun v17 h => ?_)
      refine z_istore e_X12_comesTo_171 (by decide) [(3, .int v17), (0, .ref (zad G 69)), (2, .int x2), (4, .int x4), (5, .int x5), (7, .int x7)] rfl ?_
      refine z_goto e_X12_comesTo_172 ?_
      exact z_sub [1, 2, 0, 3, 4] rfl (p_X12_comesTo_230 hR w16 x2 v17 x4 x5 hw16 σ h)
  refine y_icmp_ne e_X12_comesTo_147 (fun c18 => ?_) (fun c18 => ?_)
  · refine z_ic e_X12_comesTo_150 ?_
    refine z_goto e_X12_comesTo_151 ?_
    rw [if_pos c18] at ev14
    subst ev14
    exact z_sub [0, 1, 2, 3, 4, 6] rfl jv14
  · refine z_ic e_X12_comesTo_154 ?_
    rw [if_neg c18] at ev14
    subst ev14
    exact z_sub [0, 1, 2, 3, 4, 6] rfl jv14
noncomputable def F_X12_comesTo_203 (w16 : (Int32 × Int32 × zSt) → Option (Int32 × zSt)) (x2 : Int32) (x3 : Int32) (x4 : Int32) (x5 : Int32) (x6 : Int32) (σ : zSt) : Option (Int32 × zSt) :=
  gd (vp_in (x3 - (1 : Int32)) 260) (
    gd (vp_in x3 260) (
      bd (F_X12_reckon x6 (σ.1 88 (x3 - (1 : Int32)).toNatClampNeg) (σ.1 88 x3.toNatClampNeg) σ) (fun q24 s23 =>
        gd (vp_in (x3 - (1 : Int32)) 260) (nm (zwr s23 88 (x3 - (1 : Int32)).toNatClampNeg q24) (fun s26 =>
          F_X12_comesTo_230 w16 x2 x3 x4 x5 s26)))))
set_option maxHeartbeats 4000000 in
set_option maxRecDepth 100000 in
theorem p_X12_comesTo_203 {G : zG} {C : zC} {r : Int32} {τ : zSt} (hR : zR G C (some .int) (some (.int r)) τ) (w16 : (Int32 × Int32 × zSt) → Option (Int32 × zSt)) (x2 : Int32) (x3 : Int32) (x4 : Int32) (x5 : Int32) (x6 : Int32) (hw16 : ∀ (x3 : Int32) (x5 : Int32) (σ : zSt), w16 (x3, x5, σ) = some (r, τ) → zAW G 2 RX12 cX12_comesTo 8 C 16 [(0, .ref (zad G 69)), (2, .int x2), (3, .int x3), (4, .int x4), (5, .int x5)] [] σ) (σ : zSt) (h : F_X12_comesTo_203 w16 x2 x3 x4 x5 x6 σ = some (r, τ)) : zAW G 2 RX12 cX12_comesTo 8 C 203 [(0, .ref (zad G 69)), (2, .int x2), (3, .int x3), (4, .int x4), (5, .int x5), (6, .int x6)] [] σ := by
  unfold F_X12_comesTo_203 at h
  refine z_aload e_X12_comesTo_203 0 rfl ?_
  refine z_getr gf_X12_65_69 e_X12_comesTo_204 ?_
  refine z_iload e_X12_comesTo_207 2 rfl ?_
  refine z_ic e_X12_comesTo_208 ?_
  refine z_isub e_X12_comesTo_209 ?_
  refine z_iload e_X12_comesTo_210 5 rfl ?_
  refine z_aload e_X12_comesTo_212 0 rfl ?_
  refine z_getr gf_X12_65_69 e_X12_comesTo_213 ?_
  refine z_iload e_X12_comesTo_216 2 rfl ?_
  refine z_ic e_X12_comesTo_217 ?_
  refine z_isub e_X12_comesTo_218 ?_
  refine z_iald sh_88 e_X12_comesTo_219 h (fun h => ?_)
  refine z_aload e_X12_comesTo_220 0 rfl ?_
  refine z_getr gf_X12_65_69 e_X12_comesTo_221 ?_
  refine z_iload e_X12_comesTo_224 2 rfl ?_
  refine z_iald sh_88 e_X12_comesTo_225 h (fun h => ?_)
  obtain ⟨q24, s23, e25, h⟩ := bd_e h
  refine z_callSi (As := [.int x6, .int (σ.1 88 (x3 - (1 : Int32)).toNatClampNeg), .int (σ.1 88 x3.toNatClampNeg)]) (rest := [.int (x3 - (1 : Int32)), .ref (zad G 88)]) lk_X12_285 e_X12_comesTo_226 (m_X12_reckon G x6 (σ.1 88 (x3 - (1 : Int32)).toNatClampNeg) (σ.1 88 x3.toNatClampNeg) σ _ _ e25) (by decide) rfl (Nat.le_of_ble_eq_true rfl) ?_
  refine z_iast sh_88 e_X12_comesTo_229 h (fun s26 h => ?_)
  exact z_sub [0, 1, 2, 3, 4] rfl (p_X12_comesTo_230 hR w16 x2 x3 x4 x5 hw16 s26 h)
noncomputable def F_X12_comesTo_192 (w16 : (Int32 × Int32 × zSt) → Option (Int32 × zSt)) (x2 : Int32) (x3 : Int32) (x4 : Int32) (x5 : Int32) (x6 : Int32) (σ : zSt) : Option (Int32 × zSt) :=
  gd (vp_in x3 260) (
    if (σ.1 88 x3.toNatClampNeg) = 0 then (
      some ((0 : Int32), σ))
    else (
      F_X12_comesTo_203 w16 x2 x3 x4 x5 x6 σ))
set_option maxHeartbeats 4000000 in
set_option maxRecDepth 100000 in
theorem p_X12_comesTo_192 {G : zG} {C : zC} {r : Int32} {τ : zSt} (hR : zR G C (some .int) (some (.int r)) τ) (w16 : (Int32 × Int32 × zSt) → Option (Int32 × zSt)) (x2 : Int32) (x3 : Int32) (x4 : Int32) (x5 : Int32) (x6 : Int32) (hw16 : ∀ (x3 : Int32) (x5 : Int32) (σ : zSt), w16 (x3, x5, σ) = some (r, τ) → zAW G 2 RX12 cX12_comesTo 8 C 16 [(0, .ref (zad G 69)), (2, .int x2), (3, .int x3), (4, .int x4), (5, .int x5)] [] σ) (σ : zSt) (h : F_X12_comesTo_192 w16 x2 x3 x4 x5 x6 σ = some (r, τ)) : zAW G 2 RX12 cX12_comesTo 8 C 192 [(0, .ref (zad G 69)), (2, .int x2), (3, .int x3), (4, .int x4), (5, .int x5), (6, .int x6)] [] σ := by
  unfold F_X12_comesTo_192 at h
  refine z_aload e_X12_comesTo_192 0 rfl ?_
  refine z_getr gf_X12_65_69 e_X12_comesTo_193 ?_
  refine z_iload e_X12_comesTo_196 2 rfl ?_
  refine z_iald sh_88 e_X12_comesTo_197 h (fun h => ?_)
  refine z_if_ne e_X12_comesTo_198 h (fun c22 h => ?_) (fun c22 h => ?_)
  · refine z_ic e_X12_comesTo_201 ?_
    cases h
    exact z_ireturn hR e_X12_comesTo_202
  · exact z_sub [0, 1, 2, 3, 4, 5] rfl (p_X12_comesTo_203 hR w16 x2 x3 x4 x5 x6 hw16 σ h)
noncomputable def F_X12_comesTo_16 (x2 : Int32) (x4 : Int32) (w16 : (Int32 × Int32 × zSt) → Option (Int32 × zSt)) (x3 : Int32) (x5 : Int32) (σ : zSt) : Option (Int32 × zSt) :=
  if x2 ≤ x5 then (
    F_X12_comesTo_233  σ)
  else (
    gd (vp_in x5 260) (
      nm ((σ.1 83 x5.toNatClampNeg) / (1048576 : Int32)) (fun v3 =>
        gd (vp_in x5 260) (
          nm ((σ.1 83 x5.toNatClampNeg) % (1048576 : Int32)) (fun v4 =>
            nm (x5 + (1 : Int32)) (fun v5 =>
              if v3 = 0 then (
                F_X12_comesTo_63 w16 x2 x3 x4 v5 v3 v4 σ)
              else (
                if v3 = (1 : Int32) then (
                  F_X12_comesTo_63 w16 x2 x3 x4 v5 v3 v4 σ)
                else (
                  if v3 = (10 : Int32) then (
                    gd (vp_in (x3 - (1 : Int32)) 260) (
                      gd (vp_in (x3 - (1 : Int32)) 260) (nm (zwr σ 88 (x3 - (1 : Int32)).toNatClampNeg ((1 : Int32) - (σ.1 88 (x3 - (1 : Int32)).toNatClampNeg))) (fun s12 =>
                        F_X12_comesTo_230 w16 x2 x3 x4 v5 s12))))
                  else (
                    if v3 = (11 : Int32) then (
                      F_X12_comesTo_135 w16 x2 x3 x4 v5 v3 v4 σ)
                    else (
                      if v3 = (12 : Int32) then (
                        F_X12_comesTo_135 w16 x2 x3 x4 v5 v3 v4 σ)
                      else (
                        nm (x3 - (1 : Int32)) (fun v20 =>
                          if v3 = (5 : Int32) then (
                            F_X12_comesTo_192 w16 x2 v20 x4 v5 v3 σ)
                          else (
                            if v3 = (6 : Int32) then (
                              F_X12_comesTo_192 w16 x2 v20 x4 v5 v3 σ)
                            else (
                              F_X12_comesTo_203 w16 x2 v20 x4 v5 v3 σ))))))))))))))
set_option maxHeartbeats 4000000 in
set_option maxRecDepth 100000 in
theorem b_X12_comesTo_16 {G : zG} {C : zC} {r : Int32} {τ : zSt} (hR : zR G C (some .int) (some (.int r)) τ) (x2 : Int32) (x4 : Int32) (w16 : (Int32 × Int32 × zSt) → Option (Int32 × zSt)) (hw16 : ∀ (x3 : Int32) (x5 : Int32) (σ : zSt), w16 (x3, x5, σ) = some (r, τ) → zAW G 2 RX12 cX12_comesTo 8 C 16 [(0, .ref (zad G 69)), (2, .int x2), (3, .int x3), (4, .int x4), (5, .int x5)] [] σ) (x3 : Int32) (x5 : Int32) (σ : zSt) (h : F_X12_comesTo_16 x2 x4 w16 x3 x5 σ = some (r, τ)) : zAW G 2 RX12 cX12_comesTo 8 C 16 [(0, .ref (zad G 69)), (2, .int x2), (3, .int x3), (4, .int x4), (5, .int x5)] [] σ := by
  unfold F_X12_comesTo_16 at h
  refine z_iload e_X12_comesTo_16 4 rfl ?_
  refine z_iload e_X12_comesTo_18 1 rfl ?_
  refine z_icmp_ge e_X12_comesTo_19 h (fun c2 h => ?_) (fun c2 h => ?_)
  · exact z_sub [0] rfl (p_X12_comesTo_233 hR  σ h)
  · refine z_aload e_X12_comesTo_22 0 rfl ?_
    refine z_getr gf_X12_50_69 e_X12_comesTo_23 ?_
    refine z_iload e_X12_comesTo_26 4 rfl ?_
    refine z_iald sh_83 e_X12_comesTo_28 h (fun h => ?_)
    refine z_ldc cs_X12_219 e_X12_comesTo_29 ?_
    refine z_idiv e_X12_comesTo_31 (by decide) ?_
    refine z_nmI h (fun v3 h => ?_)
    refine z_istore e_X12_comesTo_32 (by decide) [(6, .int v3), (0, .ref (zad G 69)), (2, .int x2), (3, .int x3), (4, .int x4), (5, .int x5)] rfl ?_
    refine z_aload e_X12_comesTo_34 1 rfl ?_
    refine z_getr gf_X12_50_69 e_X12_comesTo_35 ?_
    refine z_iload e_X12_comesTo_38 5 rfl ?_
    refine z_iald sh_83 e_X12_comesTo_40 h (fun h => ?_)
    refine z_ldc cs_X12_219 e_X12_comesTo_41 ?_
    refine z_irem e_X12_comesTo_43 (by decide) ?_
    refine z_nmI h (fun v4 h => ?_)
    refine z_istore e_X12_comesTo_44 (by decide) [(7, .int v4), (6, .int v3), (0, .ref (zad G 69)), (2, .int x2), (3, .int x3), (4, .int x4), (5, .int x5)] rfl ?_
    refine z_iload e_X12_comesTo_46 6 rfl ?_
    refine z_ic e_X12_comesTo_48 ?_
    refine z_iadd e_X12_comesTo_49 ?_
    refine z_nmI h (fun v5 h => ?_)
    refine z_istore e_X12_comesTo_50 (by decide) [(5, .int v5), (7, .int v4), (6, .int v3), (0, .ref (zad G 69)), (2, .int x2), (3, .int x3), (4, .int x4)] rfl ?_
    refine z_iload e_X12_comesTo_52 2 rfl ?_
    refine z_if_eq e_X12_comesTo_54 h (fun c6 h => ?_) (fun c6 h => ?_)
    · exact z_sub [3, 4, 5, 6, 0, 2, 1] rfl (p_X12_comesTo_63 hR w16 x2 x3 x4 v5 v3 v4 hw16 σ h)
    · refine z_iload e_X12_comesTo_57 2 rfl ?_
      refine z_ic e_X12_comesTo_59 ?_
      refine z_icmp_ne e_X12_comesTo_60 h (fun c10 h => ?_) (fun c10 h => ?_)
      · exact z_sub [3, 4, 5, 6, 0, 2, 1] rfl (p_X12_comesTo_63 hR w16 x2 x3 x4 v5 v3 v4 hw16 σ h)
      · refine z_iload e_X12_comesTo_93 2 rfl ?_
        refine z_ic e_X12_comesTo_95 ?_
        refine z_icmp_ne e_X12_comesTo_97 h (fun c11 h => ?_) (fun c11 h => ?_)
        · refine z_aload e_X12_comesTo_100 3 rfl ?_
          refine z_getr gf_X12_65_69 e_X12_comesTo_101 ?_
          refine z_iload e_X12_comesTo_104 5 rfl ?_
          refine z_ic e_X12_comesTo_105 ?_
          refine z_isub e_X12_comesTo_106 ?_
          refine z_ic e_X12_comesTo_107 ?_
          refine z_aload e_X12_comesTo_108 3 rfl ?_
          refine z_getr gf_X12_65_69 e_X12_comesTo_109 ?_
          refine z_iload e_X12_comesTo_112 5 rfl ?_
          refine z_ic e_X12_comesTo_113 ?_
          refine z_isub e_X12_comesTo_114 ?_
          refine z_iald sh_88 e_X12_comesTo_115 h (fun h => ?_)
          refine z_isub e_X12_comesTo_116 ?_
          refine z_iast sh_88 e_X12_comesTo_117 h (fun s12 h => ?_)
          refine z_goto e_X12_comesTo_118 ?_
          exact z_sub [3, 4, 5, 6, 0] rfl (p_X12_comesTo_230 hR w16 x2 x3 x4 v5 hw16 s12 h)
        · refine z_iload e_X12_comesTo_121 2 rfl ?_
          refine z_ic e_X12_comesTo_123 ?_
          refine z_icmp_eq e_X12_comesTo_125 h (fun c13 h => ?_) (fun c13 h => ?_)
          · exact z_sub [3, 4, 5, 6, 0, 2, 1] rfl (p_X12_comesTo_135 hR w16 x2 x3 x4 v5 v3 v4 hw16 σ h)
          · refine z_iload e_X12_comesTo_128 2 rfl ?_
            refine z_ic e_X12_comesTo_130 ?_
            refine z_icmp_ne e_X12_comesTo_132 h (fun c19 h => ?_) (fun c19 h => ?_)
            · exact z_sub [3, 4, 5, 6, 0, 2, 1] rfl (p_X12_comesTo_135 hR w16 x2 x3 x4 v5 v3 v4 hw16 σ h)
            · refine z_iload e_X12_comesTo_175 5 rfl ?_
              refine z_ic e_X12_comesTo_176 ?_
              refine z_isub e_X12_comesTo_177 ?_
              refine z_nmI h (fun v20 h => ?_)
              refine z_istore e_X12_comesTo_178 (by decide) [(3, .int v20), (5, .int v5), (7, .int v4), (6, .int v3), (0, .ref (zad G 69)), (2, .int x2), (4, .int x4)] rfl ?_
              refine z_iload e_X12_comesTo_179 3 rfl ?_
              refine z_ic e_X12_comesTo_181 ?_
              refine z_icmp_eq e_X12_comesTo_182 h (fun c21 h => ?_) (fun c21 h => ?_)
              · exact z_sub [4, 5, 0, 6, 1, 3] rfl (p_X12_comesTo_192 hR w16 x2 v20 x4 v5 v3 hw16 σ h)
              · refine z_iload e_X12_comesTo_185 3 rfl ?_
                refine z_ic e_X12_comesTo_187 ?_
                refine z_icmp_ne e_X12_comesTo_189 h (fun c27 h => ?_) (fun c27 h => ?_)
                · exact z_sub [4, 5, 0, 6, 1, 3] rfl (p_X12_comesTo_192 hR w16 x2 v20 x4 v5 v3 hw16 σ h)
                · exact z_sub [4, 5, 0, 6, 1, 3] rfl (p_X12_comesTo_203 hR w16 x2 v20 x4 v5 v3 hw16 σ h)
noncomputable def F_X12_comesTo_16L (x2 : Int32) (x4 : Int32) : ((Int32 × Int32 × zSt) → Option (Int32 × zSt)) → (Int32 × Int32 × zSt) → Option (Int32 × zSt) := fun w s => F_X12_comesTo_16 x2 x4 w s.1 s.2.1 s.2.2
set_option maxRecDepth 100000 in
theorem l_X12_comesTo_16 {G : zG} {C : zC} {r : Int32} {τ : zSt} (hR : zR G C (some .int) (some (.int r)) τ) (x2 : Int32) (x4 : Int32) : ∀ (N : Nat) (x3 : Int32) (x5 : Int32) (σ : zSt), zfix (F_X12_comesTo_16L x2 x4) N (x3, x5, σ) = some (r, τ) → zAW G 2 RX12 cX12_comesTo 8 C 16 [(0, .ref (zad G 69)), (2, .int x2), (3, .int x3), (4, .int x4), (5, .int x5)] [] σ := by
  intro N
  induction N with
  | zero =>
    intro x3 x5 σ h
    exact nomatch (show (none : Option (Int32 × zSt)) = some (r, τ) from h)
  | succ N ih =>
    intro x3 x5 σ h
    exact b_X12_comesTo_16 hR x2 x4 (zfix (F_X12_comesTo_16L x2 x4) N) ih x3 x5 σ h
noncomputable def F_X12_comesTo_0 (x1 : Int32) (x2 : Int32) (σ : zSt) : Option (Int32 × zSt) :=
  nm ((260 : Int32) * (x1 / (260 : Int32))) (fun v1 =>
    zfix (F_X12_comesTo_16L x2 v1) zlim ((0 : Int32), x1, σ))
set_option maxHeartbeats 4000000 in
set_option maxRecDepth 100000 in
theorem p_X12_comesTo_0 {G : zG} {C : zC} {r : Int32} {τ : zSt} (hR : zR G C (some .int) (some (.int r)) τ) (x1 : Int32) (x2 : Int32) (σ : zSt) (h : F_X12_comesTo_0 x1 x2 σ = some (r, τ)) : zAW G 2 RX12 cX12_comesTo 8 C 0 [(0, .ref (zad G 69)), (1, .int x1), (2, .int x2)] [] σ := by
  unfold F_X12_comesTo_0 at h
  refine z_ic e_X12_comesTo_0 ?_
  refine z_istore e_X12_comesTo_1 (by decide) [(3, .int (0 : Int32)), (0, .ref (zad G 69)), (1, .int x1), (2, .int x2)] rfl ?_
  refine z_ic e_X12_comesTo_2 ?_
  refine z_iload e_X12_comesTo_5 2 rfl ?_
  refine z_ic e_X12_comesTo_6 ?_
  refine z_idiv e_X12_comesTo_9 (by decide) ?_
  refine z_imul e_X12_comesTo_10 ?_
  refine z_nmI h (fun v1 h => ?_)
  refine z_istore e_X12_comesTo_11 (by decide) [(4, .int v1), (3, .int (0 : Int32)), (0, .ref (zad G 69)), (1, .int x1), (2, .int x2)] rfl ?_
  refine z_iload e_X12_comesTo_13 3 rfl ?_
  refine z_istore e_X12_comesTo_14 (by decide) [(5, .int x1), (4, .int v1), (3, .int (0 : Int32)), (0, .ref (zad G 69)), (1, .int x1), (2, .int x2)] rfl ?_
  exact z_sub [3, 5, 2, 1, 0] rfl (l_X12_comesTo_16 hR x2 v1 zlim (0 : Int32) x1 σ h)
noncomputable def F_X12_comesTo (x1 : Int32) (x2 : Int32) (σ : zSt) : Option (Int32 × zSt) := F_X12_comesTo_0 x1 x2 σ
set_option maxRecDepth 100000 in
theorem m_X12_comesTo (G : zG) (x1 : Int32) (x2 : Int32) (σ : zSt) (q : Int32) (τ : zSt) (h : F_X12_comesTo x1 x2 σ = some (q, τ)) : zM G 2 yX12_comesTo cX12_comesTo 8 (some .int) [.ref (zad G 69), .int x1, .int x2] σ (some (.int q)) τ := by
  unfold F_X12_comesTo at h
  refine zM.of (own := RX12) (by decide +kernel) rfl (Nat.le_of_ble_eq_true rfl) (fun C hR => ?_)
  exact z_sub [0, 1, 2] rfl (p_X12_comesTo_0 hR x1 x2 σ h)
noncomputable def F_X12_byLaw_43 (x2 : Int32) (x3 : Int32) (σ : zSt) : Option (Int32 × zSt) :=
  gd (vp_in x3 16) (
    gd (vp_in x3 16) (
      bd (F_X12_comesTo (σ.1 85 x3.toNatClampNeg) (σ.1 86 x3.toNatClampNeg) σ) (fun q8 s7 =>
        bd (F_X12_isPlace q8 s7) (fun q11 s10 =>
          if q11 = 0 then (
            some (x2, s10))
          else (
            some (q8, s10))))))
set_option maxHeartbeats 4000000 in
set_option maxRecDepth 100000 in
theorem p_X12_byLaw_43 {G : zG} {C : zC} {r : Int32} {τ : zSt} (hR : zR G C (some .int) (some (.int r)) τ) (x2 : Int32) (x3 : Int32) (σ : zSt) (h : F_X12_byLaw_43 x2 x3 σ = some (r, τ)) : zAW G 3 RX12 cX12_byLaw 5 C 43 [(0, .ref (zad G 69)), (2, .int x2), (3, .int x3)] [] σ := by
  unfold F_X12_byLaw_43 at h
  refine z_aload e_X12_byLaw_43 0 rfl ?_
  refine z_aload e_X12_byLaw_44 0 rfl ?_
  refine z_getr gf_X12_56_69 e_X12_byLaw_45 ?_
  refine z_iload e_X12_byLaw_48 2 rfl ?_
  refine z_iald sh_85 e_X12_byLaw_49 h (fun h => ?_)
  refine z_aload e_X12_byLaw_50 0 rfl ?_
  refine z_getr gf_X12_59_69 e_X12_byLaw_51 ?_
  refine z_iload e_X12_byLaw_54 2 rfl ?_
  refine z_iald sh_86 e_X12_byLaw_55 h (fun h => ?_)
  obtain ⟨q8, s7, e9, h⟩ := bd_e h
  refine z_callVi (c0 := 69) (As := [.int (σ.1 85 x3.toNatClampNeg), .int (σ.1 86 x3.toNatClampNeg)]) (rest := []) lk_X12_289 ob_69 e_X12_byLaw_56 (m_X12_comesTo G (σ.1 85 x3.toNatClampNeg) (σ.1 86 x3.toNatClampNeg) σ _ _ e9) (by decide) rfl (Nat.le_of_ble_eq_true rfl) ?_
  refine z_istore e_X12_byLaw_59 (by decide) [(4, .int q8), (0, .ref (zad G 69)), (2, .int x2), (3, .int x3)] rfl ?_
  refine z_aload e_X12_byLaw_61 1 rfl ?_
  refine z_iload e_X12_byLaw_62 0 rfl ?_
  obtain ⟨q11, s10, e12, h⟩ := bd_e h
  refine z_callVi (c0 := 69) (As := [.int q8]) (rest := []) lk_X12_167 ob_69 e_X12_byLaw_64 (m_X12_isPlace G q8 s7 _ _ e12) (by decide) rfl (Nat.le_of_ble_eq_true rfl) ?_
  refine z_if_eq e_X12_byLaw_67 h (fun c13 h => ?_) (fun c13 h => ?_)
  · refine z_iload e_X12_byLaw_75 2 rfl ?_
    cases h
    exact z_ireturn hR e_X12_byLaw_76
  · refine z_iload e_X12_byLaw_70 0 rfl ?_
    refine z_goto e_X12_byLaw_72 ?_
    cases h
    exact z_ireturn hR e_X12_byLaw_76
noncomputable def F_X12_byLaw_77 (w2 : (Int32 × zSt) → Option (Int32 × zSt)) (x1 : Int32) (x2 : Int32) (x3 : Int32) (σ : zSt) : Option (Int32 × zSt) :=
  nm (x3 + (1 : Int32)) (fun v14 =>
    w2 (v14, σ))
set_option maxHeartbeats 4000000 in
set_option maxRecDepth 100000 in
theorem p_X12_byLaw_77 {G : zG} {C : zC} {r : Int32} {τ : zSt} (hR : zR G C (some .int) (some (.int r)) τ) (w2 : (Int32 × zSt) → Option (Int32 × zSt)) (x1 : Int32) (x2 : Int32) (x3 : Int32) (hw2 : ∀ (x3 : Int32) (σ : zSt), w2 (x3, σ) = some (r, τ) → zAW G 3 RX12 cX12_byLaw 5 C 2 [(0, .ref (zad G 69)), (1, .int x1), (2, .int x2), (3, .int x3)] [] σ) (σ : zSt) (h : F_X12_byLaw_77 w2 x1 x2 x3 σ = some (r, τ)) : zAW G 3 RX12 cX12_byLaw 5 C 77 [(0, .ref (zad G 69)), (1, .int x1), (2, .int x2), (3, .int x3)] [] σ := by
  unfold F_X12_byLaw_77 at h
  refine z_iinc e_X12_byLaw_77 3 rfl (by decide) (by decide) h (fun y => [(3, .int y), (0, .ref (zad G 69)), (1, .int x1), (2, .int x2)]) (fun _ => rfl) (fun v14 h => ?_)
  refine z_goto e_X12_byLaw_80 ?_
  exact z_sub [1, 2, 3, 0] rfl (hw2 v14 σ h)
noncomputable def F_X12_byLaw_2 (x1 : Int32) (x2 : Int32) (w2 : (Int32 × zSt) → Option (Int32 × zSt)) (x3 : Int32) (σ : zSt) : Option (Int32 × zSt) :=
  if (σ.1 69 23) ≤ x3 then (
    some (x2, σ))
  else (
    gd (vp_in x3 16) (
      if (σ.1 84 x3.toNatClampNeg) = x1 then (
        gd (vp_in x3 16) (
          gd (vp_in x3 16) (
            bd (F_X12_comesTo (σ.1 86 x3.toNatClampNeg) (σ.1 87 x3.toNatClampNeg) σ) (fun q4 s3 =>
              if q4 = (1 : Int32) then (
                F_X12_byLaw_43 x2 x3 s3)
              else (
                F_X12_byLaw_77 w2 x1 x2 x3 s3)))))
      else (
        F_X12_byLaw_77 w2 x1 x2 x3 σ)))
set_option maxHeartbeats 4000000 in
set_option maxRecDepth 100000 in
theorem b_X12_byLaw_2 {G : zG} {C : zC} {r : Int32} {τ : zSt} (hR : zR G C (some .int) (some (.int r)) τ) (x1 : Int32) (x2 : Int32) (w2 : (Int32 × zSt) → Option (Int32 × zSt)) (hw2 : ∀ (x3 : Int32) (σ : zSt), w2 (x3, σ) = some (r, τ) → zAW G 3 RX12 cX12_byLaw 5 C 2 [(0, .ref (zad G 69)), (1, .int x1), (2, .int x2), (3, .int x3)] [] σ) (x3 : Int32) (σ : zSt) (h : F_X12_byLaw_2 x1 x2 w2 x3 σ = some (r, τ)) : zAW G 3 RX12 cX12_byLaw 5 C 2 [(0, .ref (zad G 69)), (1, .int x1), (2, .int x2), (3, .int x3)] [] σ := by
  unfold F_X12_byLaw_2 at h
  refine z_iload e_X12_byLaw_2 3 rfl ?_
  refine z_aload e_X12_byLaw_3 0 rfl ?_
  refine z_geti gf_X12_282_69 e_X12_byLaw_4 ?_
  refine z_icmp_ge e_X12_byLaw_7 h (fun c1 h => ?_) (fun c1 h => ?_)
  · refine z_iload e_X12_byLaw_83 2 rfl ?_
    cases h
    exact z_ireturn hR e_X12_byLaw_84
  · refine z_aload e_X12_byLaw_10 0 rfl ?_
    refine z_getr gf_X12_53_69 e_X12_byLaw_11 ?_
    refine z_iload e_X12_byLaw_14 3 rfl ?_
    refine z_iald sh_84 e_X12_byLaw_15 h (fun h => ?_)
    refine z_iload e_X12_byLaw_16 1 rfl ?_
    refine z_icmp_ne e_X12_byLaw_17 h (fun c2 h => ?_) (fun c2 h => ?_)
    · refine z_aload e_X12_byLaw_20 0 rfl ?_
      refine z_aload e_X12_byLaw_21 0 rfl ?_
      refine z_getr gf_X12_59_69 e_X12_byLaw_22 ?_
      refine z_iload e_X12_byLaw_25 3 rfl ?_
      refine z_iald sh_86 e_X12_byLaw_26 h (fun h => ?_)
      refine z_aload e_X12_byLaw_27 0 rfl ?_
      refine z_getr gf_X12_62_69 e_X12_byLaw_28 ?_
      refine z_iload e_X12_byLaw_31 3 rfl ?_
      refine z_iald sh_87 e_X12_byLaw_32 h (fun h => ?_)
      obtain ⟨q4, s3, e5, h⟩ := bd_e h
      refine z_callVi (c0 := 69) (As := [.int (σ.1 86 x3.toNatClampNeg), .int (σ.1 87 x3.toNatClampNeg)]) (rest := []) lk_X12_289 ob_69 e_X12_byLaw_33 (m_X12_comesTo G (σ.1 86 x3.toNatClampNeg) (σ.1 87 x3.toNatClampNeg) σ _ _ e5) (by decide) rfl (Nat.le_of_ble_eq_true rfl) ?_
      refine z_ic e_X12_byLaw_36 ?_
      refine z_icmp_eq e_X12_byLaw_37 h (fun c6 h => ?_) (fun c6 h => ?_)
      · exact z_sub [0, 2, 3] rfl (p_X12_byLaw_43 hR x2 x3 s3 h)
      · refine z_goto e_X12_byLaw_40 ?_
        exact z_sub [0, 1, 2, 3] rfl (p_X12_byLaw_77 hR w2 x1 x2 x3 hw2 s3 h)
    · exact z_sub [0, 1, 2, 3] rfl (p_X12_byLaw_77 hR w2 x1 x2 x3 hw2 σ h)
noncomputable def F_X12_byLaw_2L (x1 : Int32) (x2 : Int32) : ((Int32 × zSt) → Option (Int32 × zSt)) → (Int32 × zSt) → Option (Int32 × zSt) := fun w s => F_X12_byLaw_2 x1 x2 w s.1 s.2
set_option maxRecDepth 100000 in
theorem l_X12_byLaw_2 {G : zG} {C : zC} {r : Int32} {τ : zSt} (hR : zR G C (some .int) (some (.int r)) τ) (x1 : Int32) (x2 : Int32) : ∀ (N : Nat) (x3 : Int32) (σ : zSt), zfix (F_X12_byLaw_2L x1 x2) N (x3, σ) = some (r, τ) → zAW G 3 RX12 cX12_byLaw 5 C 2 [(0, .ref (zad G 69)), (1, .int x1), (2, .int x2), (3, .int x3)] [] σ := by
  intro N
  induction N with
  | zero =>
    intro x3 σ h
    exact nomatch (show (none : Option (Int32 × zSt)) = some (r, τ) from h)
  | succ N ih =>
    intro x3 σ h
    exact b_X12_byLaw_2 hR x1 x2 (zfix (F_X12_byLaw_2L x1 x2) N) ih x3 σ h
noncomputable def F_X12_byLaw_0 (x1 : Int32) (x2 : Int32) (σ : zSt) : Option (Int32 × zSt) :=
  zfix (F_X12_byLaw_2L x1 x2) zlim ((0 : Int32), σ)
set_option maxHeartbeats 4000000 in
set_option maxRecDepth 100000 in
theorem p_X12_byLaw_0 {G : zG} {C : zC} {r : Int32} {τ : zSt} (hR : zR G C (some .int) (some (.int r)) τ) (x1 : Int32) (x2 : Int32) (σ : zSt) (h : F_X12_byLaw_0 x1 x2 σ = some (r, τ)) : zAW G 3 RX12 cX12_byLaw 5 C 0 [(0, .ref (zad G 69)), (1, .int x1), (2, .int x2)] [] σ := by
  unfold F_X12_byLaw_0 at h
  refine z_ic e_X12_byLaw_0 ?_
  refine z_istore e_X12_byLaw_1 (by decide) [(3, .int (0 : Int32)), (0, .ref (zad G 69)), (1, .int x1), (2, .int x2)] rfl ?_
  exact z_sub [1, 2, 3, 0] rfl (l_X12_byLaw_2 hR x1 x2 zlim (0 : Int32) σ h)
noncomputable def F_X12_byLaw (x1 : Int32) (x2 : Int32) (σ : zSt) : Option (Int32 × zSt) := F_X12_byLaw_0 x1 x2 σ
set_option maxRecDepth 100000 in
theorem m_X12_byLaw (G : zG) (x1 : Int32) (x2 : Int32) (σ : zSt) (q : Int32) (τ : zSt) (h : F_X12_byLaw x1 x2 σ = some (q, τ)) : zM G 3 yX12_byLaw cX12_byLaw 5 (some .int) [.ref (zad G 69), .int x1, .int x2] σ (some (.int q)) τ := by
  unfold F_X12_byLaw at h
  refine zM.of (own := RX12) (by decide +kernel) rfl (Nat.le_of_ble_eq_true rfl) (fun C hR => ?_)
  exact z_sub [0, 1, 2] rfl (p_X12_byLaw_0 hR x1 x2 σ h)
noncomputable def F_X12_movesTo_0 (x1 : Int32) (x2 : Int32) (x3 : Int32) (x4 : Int32) (x5 : Int32) (σ : zSt) : Option (Int32 × zSt) :=
  bd (F_X12_feels x1 x2 x3 x4 x5 σ) (fun _ s1 =>
    bd (F_X12_byLaw (109 : Int32) x2 s1) (fun q5 s4 =>
      some (q5, s4)))
set_option maxHeartbeats 4000000 in
set_option maxRecDepth 100000 in
theorem p_X12_movesTo_0 {G : zG} {C : zC} {r : Int32} {τ : zSt} (hR : zR G C (some .int) (some (.int r)) τ) (x1 : Int32) (x2 : Int32) (x3 : Int32) (x4 : Int32) (x5 : Int32) (σ : zSt) (h : F_X12_movesTo_0 x1 x2 x3 x4 x5 σ = some (r, τ)) : zAW G 5 RX12 cX12_movesTo 6 C 0 [(0, .ref (zad G 69)), (1, .int x1), (2, .int x2), (3, .int x3), (4, .int x4), (5, .int x5)] [] σ := by
  unfold F_X12_movesTo_0 at h
  refine z_aload e_X12_movesTo_0 0 rfl ?_
  refine z_iload e_X12_movesTo_1 1 rfl ?_
  refine z_iload e_X12_movesTo_2 2 rfl ?_
  refine z_iload e_X12_movesTo_3 3 rfl ?_
  refine z_iload e_X12_movesTo_4 4 rfl ?_
  refine z_iload e_X12_movesTo_6 5 rfl ?_
  obtain ⟨q2, s1, e3, h⟩ := bd_e h
  refine z_callVv (c0 := 69) (As := [.int x1, .int x2, .int x3, .int x4, .int x5]) (rest := []) lk_X12_296 ob_69 e_X12_movesTo_8 (m_X12_feels G x1 x2 x3 x4 x5 σ _ _ e3) (by decide) rfl (Nat.le_of_ble_eq_true rfl) ?_
  refine z_aload e_X12_movesTo_11 0 rfl ?_
  refine z_ic e_X12_movesTo_12 ?_
  refine z_iload e_X12_movesTo_14 2 rfl ?_
  obtain ⟨q5, s4, e6, h⟩ := bd_e h
  refine z_callVi (c0 := 69) (As := [.int (109 : Int32), .int x2]) (rest := []) lk_X12_300 ob_69 e_X12_movesTo_15 (m_X12_byLaw G (109 : Int32) x2 s1 _ _ e6) (by decide) rfl (Nat.le_of_ble_eq_true rfl) ?_
  cases h
  exact z_ireturn hR e_X12_movesTo_18
noncomputable def F_X12_movesTo (x1 : Int32) (x2 : Int32) (x3 : Int32) (x4 : Int32) (x5 : Int32) (σ : zSt) : Option (Int32 × zSt) := F_X12_movesTo_0 x1 x2 x3 x4 x5 σ
set_option maxRecDepth 100000 in
theorem m_X12_movesTo (G : zG) (x1 : Int32) (x2 : Int32) (x3 : Int32) (x4 : Int32) (x5 : Int32) (σ : zSt) (q : Int32) (τ : zSt) (h : F_X12_movesTo x1 x2 x3 x4 x5 σ = some (q, τ)) : zM G 5 yX12_movesTo cX12_movesTo 6 (some .int) [.ref (zad G 69), .int x1, .int x2, .int x3, .int x4, .int x5] σ (some (.int q)) τ := by
  unfold F_X12_movesTo at h
  refine zM.of (own := RX12) (by decide +kernel) rfl (Nat.le_of_ble_eq_true rfl) (fun C hR => ?_)
  exact z_sub [0, 1, 2, 3, 4, 5] rfl (p_X12_movesTo_0 hR x1 x2 x3 x4 x5 σ h)
noncomputable def F_X12_saysOf_0 (x1 : Int32) (x2 : Int32) (x3 : Int32) (x4 : Int32) (x5 : Int32) (σ : zSt) : Option (Int32 × zSt) :=
  bd (F_X12_feels x1 x2 x3 x4 x5 σ) (fun _ s1 =>
    bd (F_X12_byLaw (108 : Int32) x2 s1) (fun q5 s4 =>
      some (q5, s4)))
set_option maxHeartbeats 4000000 in
set_option maxRecDepth 100000 in
theorem p_X12_saysOf_0 {G : zG} {C : zC} {r : Int32} {τ : zSt} (hR : zR G C (some .int) (some (.int r)) τ) (x1 : Int32) (x2 : Int32) (x3 : Int32) (x4 : Int32) (x5 : Int32) (σ : zSt) (h : F_X12_saysOf_0 x1 x2 x3 x4 x5 σ = some (r, τ)) : zAW G 5 RX12 cX12_saysOf 6 C 0 [(0, .ref (zad G 69)), (1, .int x1), (2, .int x2), (3, .int x3), (4, .int x4), (5, .int x5)] [] σ := by
  unfold F_X12_saysOf_0 at h
  refine z_aload e_X12_saysOf_0 0 rfl ?_
  refine z_iload e_X12_saysOf_1 1 rfl ?_
  refine z_iload e_X12_saysOf_2 2 rfl ?_
  refine z_iload e_X12_saysOf_3 3 rfl ?_
  refine z_iload e_X12_saysOf_4 4 rfl ?_
  refine z_iload e_X12_saysOf_6 5 rfl ?_
  obtain ⟨q2, s1, e3, h⟩ := bd_e h
  refine z_callVv (c0 := 69) (As := [.int x1, .int x2, .int x3, .int x4, .int x5]) (rest := []) lk_X12_296 ob_69 e_X12_saysOf_8 (m_X12_feels G x1 x2 x3 x4 x5 σ _ _ e3) (by decide) rfl (Nat.le_of_ble_eq_true rfl) ?_
  refine z_aload e_X12_saysOf_11 0 rfl ?_
  refine z_ic e_X12_saysOf_12 ?_
  refine z_iload e_X12_saysOf_14 2 rfl ?_
  obtain ⟨q5, s4, e6, h⟩ := bd_e h
  refine z_callVi (c0 := 69) (As := [.int (108 : Int32), .int x2]) (rest := []) lk_X12_300 ob_69 e_X12_saysOf_15 (m_X12_byLaw G (108 : Int32) x2 s1 _ _ e6) (by decide) rfl (Nat.le_of_ble_eq_true rfl) ?_
  cases h
  exact z_ireturn hR e_X12_saysOf_18
noncomputable def F_X12_saysOf (x1 : Int32) (x2 : Int32) (x3 : Int32) (x4 : Int32) (x5 : Int32) (σ : zSt) : Option (Int32 × zSt) := F_X12_saysOf_0 x1 x2 x3 x4 x5 σ
set_option maxRecDepth 100000 in
theorem m_X12_saysOf (G : zG) (x1 : Int32) (x2 : Int32) (x3 : Int32) (x4 : Int32) (x5 : Int32) (σ : zSt) (q : Int32) (τ : zSt) (h : F_X12_saysOf x1 x2 x3 x4 x5 σ = some (q, τ)) : zM G 5 yX12_saysOf cX12_saysOf 6 (some .int) [.ref (zad G 69), .int x1, .int x2, .int x3, .int x4, .int x5] σ (some (.int q)) τ := by
  unfold F_X12_saysOf at h
  refine zM.of (own := RX12) (by decide +kernel) rfl (Nat.le_of_ble_eq_true rfl) (fun C hR => ?_)
  exact z_sub [0, 1, 2, 3, 4, 5] rfl (p_X12_saysOf_0 hR x1 x2 x3 x4 x5 σ h)
noncomputable def F_X12_nightGoes_0 (x1 : Int32) (σ : zSt) : Option (Int32 × zSt) :=
  bd (F_X12_draws σ) (fun q2 s1 =>
    bd (F_X12_movesTo (s1.1 69 4) (s1.1 69 2) x1 (s1.1 69 6) q2 s1) (fun q5 s4 =>
      nm (zwr s4 69 2 q5) (fun s7 =>
        bd (F_X12_saysOf (s7.1 69 4) (s7.1 69 2) x1 (s7.1 69 6) q2 s7) (fun q9 s8 =>
          nm (zwr s8 69 6 q9) (fun s11 =>
            nm (zwr s11 69 5 x1) (fun s12 =>
              nm (zwr s12 69 4 ((s12.1 69 4) + (1 : Int32))) (fun s13 =>
                some ((s13.1 69 6), s13))))))))
set_option maxHeartbeats 4000000 in
set_option maxRecDepth 100000 in
theorem p_X12_nightGoes_0 {G : zG} {C : zC} {r : Int32} {τ : zSt} (hR : zR G C (some .int) (some (.int r)) τ) (x1 : Int32) (σ : zSt) (h : F_X12_nightGoes_0 x1 σ = some (r, τ)) : zAW G 6 RX12 cX12_nightGoes 3 C 0 [(0, .ref (zad G 69)), (1, .int x1)] [] σ := by
  unfold F_X12_nightGoes_0 at h
  refine z_aload e_X12_nightGoes_0 0 rfl ?_
  obtain ⟨q2, s1, e3, h⟩ := bd_e h
  refine z_callVi (c0 := 69) (As := []) (rest := []) lk_X12_304 ob_69 e_X12_nightGoes_1 (m_X12_draws G σ _ _ e3) (by decide) rfl (Nat.le_of_ble_eq_true rfl) ?_
  refine z_istore e_X12_nightGoes_4 (by decide) [(2, .int q2), (0, .ref (zad G 69)), (1, .int x1)] rfl ?_
  refine z_aload e_X12_nightGoes_5 1 rfl ?_
  refine z_aload e_X12_nightGoes_6 1 rfl ?_
  refine z_aload e_X12_nightGoes_7 1 rfl ?_
  refine z_geti gf_X12_307_69 e_X12_nightGoes_8 ?_
  refine z_aload e_X12_nightGoes_11 1 rfl ?_
  refine z_geti gf_X12_173_69 e_X12_nightGoes_12 ?_
  refine z_iload e_X12_nightGoes_15 2 rfl ?_
  refine z_aload e_X12_nightGoes_16 1 rfl ?_
  refine z_geti gf_X12_142_69 e_X12_nightGoes_17 ?_
  refine z_iload e_X12_nightGoes_20 0 rfl ?_
  obtain ⟨q5, s4, e6, h⟩ := bd_e h
  refine z_callVi (c0 := 69) (As := [.int (s1.1 69 4), .int (s1.1 69 2), .int x1, .int (s1.1 69 6), .int q2]) (rest := [.ref (zad G 69)]) lk_X12_310 ob_69 e_X12_nightGoes_21 (m_X12_movesTo G (s1.1 69 4) (s1.1 69 2) x1 (s1.1 69 6) q2 s1 _ _ e6) (by decide) rfl (Nat.le_of_ble_eq_true rfl) ?_
  refine z_puti pf_X12_173_69 e_X12_nightGoes_24 h (fun s7 h => ?_)
  refine z_aload e_X12_nightGoes_27 1 rfl ?_
  refine z_aload e_X12_nightGoes_28 1 rfl ?_
  refine z_aload e_X12_nightGoes_29 1 rfl ?_
  refine z_geti gf_X12_307_69 e_X12_nightGoes_30 ?_
  refine z_aload e_X12_nightGoes_33 1 rfl ?_
  refine z_geti gf_X12_173_69 e_X12_nightGoes_34 ?_
  refine z_iload e_X12_nightGoes_37 2 rfl ?_
  refine z_aload e_X12_nightGoes_38 1 rfl ?_
  refine z_geti gf_X12_142_69 e_X12_nightGoes_39 ?_
  refine z_iload e_X12_nightGoes_42 0 rfl ?_
  obtain ⟨q9, s8, e10, h⟩ := bd_e h
  refine z_callVi (c0 := 69) (As := [.int (s7.1 69 4), .int (s7.1 69 2), .int x1, .int (s7.1 69 6), .int q2]) (rest := [.ref (zad G 69)]) lk_X12_314 ob_69 e_X12_nightGoes_43 (m_X12_saysOf G (s7.1 69 4) (s7.1 69 2) x1 (s7.1 69 6) q2 s7 _ _ e10) (by decide) rfl (Nat.le_of_ble_eq_true rfl) ?_
  refine z_puti pf_X12_142_69 e_X12_nightGoes_46 h (fun s11 h => ?_)
  refine z_aload e_X12_nightGoes_49 1 rfl ?_
  refine z_iload e_X12_nightGoes_50 2 rfl ?_
  refine z_puti pf_X12_139_69 e_X12_nightGoes_51 h (fun s12 h => ?_)
  refine z_aload e_X12_nightGoes_54 1 rfl ?_
  refine z_aload e_X12_nightGoes_55 1 rfl ?_
  refine z_geti gf_X12_307_69 e_X12_nightGoes_56 ?_
  refine z_ic e_X12_nightGoes_59 ?_
  refine z_iadd e_X12_nightGoes_60 ?_
  refine z_puti pf_X12_307_69 e_X12_nightGoes_61 h (fun s13 h => ?_)
  refine z_aload e_X12_nightGoes_64 1 rfl ?_
  refine z_geti gf_X12_142_69 e_X12_nightGoes_65 ?_
  cases h
  exact z_ireturn hR e_X12_nightGoes_68
noncomputable def F_X12_nightGoes (x1 : Int32) (σ : zSt) : Option (Int32 × zSt) := F_X12_nightGoes_0 x1 σ
set_option maxRecDepth 100000 in
theorem m_X12_nightGoes (G : zG) (x1 : Int32) (σ : zSt) (q : Int32) (τ : zSt) (h : F_X12_nightGoes x1 σ = some (q, τ)) : zM G 6 yX12_nightGoes cX12_nightGoes 3 (some .int) [.ref (zad G 69), .int x1] σ (some (.int q)) τ := by
  unfold F_X12_nightGoes at h
  refine zM.of (own := RX12) (by decide +kernel) rfl (Nat.le_of_ble_eq_true rfl) (fun C hR => ?_)
  exact z_sub [0, 1] rfl (p_X12_nightGoes_0 hR x1 σ h)
noncomputable def F_X12_night_0 (x1 : Int32) (σ : zSt) : Option (Int32 × zSt) :=
  bd (F_X12_in x1 (0 : Int32) (8 : Int32) σ) (fun q2 s1 =>
    if q2 = 0 then (
      some ((-1 : Int32), s1))
    else (
      bd (F_X12_isPlace (s1.1 69 2) s1) (fun q6 s5 =>
        if q6 = 0 then (
          some ((-1 : Int32), s5))
        else (
          if (s5.1 69 4) = (9999 : Int32) then (
            some ((-1 : Int32), s5))
          else (
            bd (F_X12_nightGoes x1 s5) (fun q11 s10 =>
              some (q11, s10)))))))
set_option maxHeartbeats 4000000 in
set_option maxRecDepth 100000 in
theorem p_X12_night_0 {G : zG} {C : zC} {r : Int32} {τ : zSt} (hR : zR G C (some .int) (some (.int r)) τ) (x1 : Int32) (σ : zSt) (h : F_X12_night_0 x1 σ = some (r, τ)) : zAW G 7 RX12 cX12_night 2 C 0 [(0, .ref (zad G 69)), (1, .int x1)] [] σ := by
  unfold F_X12_night_0 at h
  refine z_iload e_X12_night_0 1 rfl ?_
  refine z_ic e_X12_night_1 ?_
  refine z_ic e_X12_night_2 ?_
  obtain ⟨q2, s1, e3, h⟩ := bd_e h
  refine z_callSi (As := [.int x1, .int (0 : Int32), .int (8 : Int32)]) (rest := []) lk_X12_163 e_X12_night_4 (m_X12_in G x1 (0 : Int32) (8 : Int32) σ _ _ e3) (by decide) rfl (Nat.le_of_ble_eq_true rfl) ?_
  refine z_if_eq e_X12_night_7 h (fun c4 h => ?_) (fun c4 h => ?_)
  · refine z_ic e_X12_night_31 ?_
    cases h
    exact z_ireturn hR e_X12_night_32
  · refine z_aload e_X12_night_10 0 rfl ?_
    refine z_aload e_X12_night_11 0 rfl ?_
    refine z_geti gf_X12_173_69 e_X12_night_12 ?_
    obtain ⟨q6, s5, e7, h⟩ := bd_e h
    refine z_callVi (c0 := 69) (As := [.int (s1.1 69 2)]) (rest := []) lk_X12_167 ob_69 e_X12_night_15 (m_X12_isPlace G (s1.1 69 2) s1 _ _ e7) (by decide) rfl (Nat.le_of_ble_eq_true rfl) ?_
    refine z_if_eq e_X12_night_18 h (fun c8 h => ?_) (fun c8 h => ?_)
    · refine z_ic e_X12_night_31 ?_
      cases h
      exact z_ireturn hR e_X12_night_32
    · refine z_aload e_X12_night_21 0 rfl ?_
      refine z_geti gf_X12_307_69 e_X12_night_22 ?_
      refine z_ic e_X12_night_25 ?_
      refine z_icmp_ne e_X12_night_28 h (fun c9 h => ?_) (fun c9 h => ?_)
      · refine z_ic e_X12_night_31 ?_
        cases h
        exact z_ireturn hR e_X12_night_32
      · refine z_aload e_X12_night_33 0 rfl ?_
        refine z_iload e_X12_night_34 1 rfl ?_
        obtain ⟨q11, s10, e12, h⟩ := bd_e h
        refine z_callVi (c0 := 69) (As := [.int x1]) (rest := []) lk_X12_317 ob_69 e_X12_night_35 (m_X12_nightGoes G x1 s5 _ _ e12) (by decide) rfl (Nat.le_of_ble_eq_true rfl) ?_
        cases h
        exact z_ireturn hR e_X12_night_38
noncomputable def F_X12_night (x1 : Int32) (σ : zSt) : Option (Int32 × zSt) := F_X12_night_0 x1 σ
set_option maxRecDepth 100000 in
theorem m_X12_night (G : zG) (x1 : Int32) (σ : zSt) (q : Int32) (τ : zSt) (h : F_X12_night x1 σ = some (q, τ)) : zM G 7 yX12_night cX12_night 2 (some .int) [.ref (zad G 69), .int x1] σ (some (.int q)) τ := by
  unfold F_X12_night at h
  refine zM.of (own := RX12) (by decide +kernel) rfl (Nat.le_of_ble_eq_true rfl) (fun C hR => ?_)
  exact z_sub [0, 1] rfl (p_X12_night_0 hR x1 σ h)
noncomputable def F_X3_trial_76 (x2 : Int32) (x3 : Int32) (x4 : Int32) (σ : zSt) : Option (Int32 × zSt) :=
  if x2 = (0 : Int32) then (
    some ((σ.1 24 3), σ))
  else (
    if x2 = (1 : Int32) then (
      some ((σ.1 24 5), σ))
    else (
      if x2 = (2 : Int32) then (
        some (x3, σ))
      else (
        some (x4, σ))))
set_option maxHeartbeats 4000000 in
set_option maxRecDepth 100000 in
theorem p_X3_trial_76 {G : zG} {C : zC} {r : Int32} {τ : zSt} (hR : zR G C (some .int) (some (.int r)) τ) (x2 : Int32) (x3 : Int32) (x4 : Int32) (σ : zSt) (h : F_X3_trial_76 x2 x3 x4 σ = some (r, τ)) : zAW G 6 RX3 cX3_trial 7 C 76 [(0, .ref (zad G 24)), (2, .int x2), (3, .int x3), (4, .int x4)] [] σ := by
  unfold F_X3_trial_76 at h
  refine z_iload e_X3_trial_76 1 rfl ?_
  by_cases c5 : x2 = (0 : Int32)
  · rw [if_pos c5] at h
    refine z_tin (tgt := 104) e_X3_trial_77 (0 : Int32) c5 (27) (by decide +kernel) ?_
    refine z_aload e_X3_trial_104 0 rfl ?_
    refine z_geti gf_X3_29_24 e_X3_trial_105 ?_
    cases h
    exact z_ireturn hR e_X3_trial_108
  · rw [if_neg c5] at h
    by_cases c6 : x2 = (1 : Int32)
    · rw [if_pos c6] at h
      refine z_tin (tgt := 109) e_X3_trial_77 (1 : Int32) c6 (32) (by decide +kernel) ?_
      refine z_aload e_X3_trial_109 0 rfl ?_
      refine z_geti gf_X3_37_24 e_X3_trial_110 ?_
      cases h
      exact z_ireturn hR e_X3_trial_113
    · rw [if_neg c6] at h
      by_cases c7 : x2 = (2 : Int32)
      · rw [if_pos c7] at h
        refine z_tin (tgt := 114) e_X3_trial_77 (2 : Int32) c7 (37) (by decide +kernel) ?_
        refine z_iload e_X3_trial_114 2 rfl ?_
        cases h
        exact z_ireturn hR e_X3_trial_115
      · rw [if_neg c7] at h
        refine z_tout (tgt := 116) e_X3_trial_77 (by
          have := lv_neT c5 (show (0 : Int32).toInt = 0 by decide)
          have := lv_neT c6 (show (1 : Int32).toInt = 1 by decide)
          have := lv_neT c7 (show (2 : Int32).toInt = 2 by decide)
          omega) (by decide) ?_
        refine z_iload e_X3_trial_116 3 rfl ?_
        cases h
        exact z_ireturn hR e_X3_trial_118
noncomputable def F_X3_trial_12 (x1 : Int32) (x2 : Int32) (w12 : (Int32 × Int32 × Int32 × zSt) → Option (Int32 × zSt)) (x3 : Int32) (x4 : Int32) (x5 : Int32) (σ : zSt) : Option (Int32 × zSt) :=
  if x1 ≤ x5 then (
    F_X3_trial_76 x2 x3 x4 σ)
  else (
    bd (F_X3_pass (σ.1 24 5) σ) (fun _ s8 =>
      nm (if (s8.1 24 5) = (s8.1 24 3) then (1 : Int32) else (0 : Int32)) (fun v11 =>
        nm (x3 + v11) (fun v12 =>
          nm (if (σ.1 24 3) = (s8.1 24 3) then (0 : Int32) else (1 : Int32)) (fun v13 =>
            nm (x4 + v13) (fun v14 =>
              nm (x5 + (1 : Int32)) (fun v15 =>
                w12 (v12, v14, v15, s8))))))))
set_option maxHeartbeats 4000000 in
set_option maxRecDepth 100000 in
theorem b_X3_trial_12 {G : zG} {C : zC} {r : Int32} {τ : zSt} (hR : zR G C (some .int) (some (.int r)) τ) (x1 : Int32) (x2 : Int32) (w12 : (Int32 × Int32 × Int32 × zSt) → Option (Int32 × zSt)) (hw12 : ∀ (x3 : Int32) (x4 : Int32) (x5 : Int32) (σ : zSt), w12 (x3, x4, x5, σ) = some (r, τ) → zAW G 6 RX3 cX3_trial 7 C 12 [(0, .ref (zad G 24)), (1, .int x1), (2, .int x2), (3, .int x3), (4, .int x4), (5, .int x5)] [] σ) (x3 : Int32) (x4 : Int32) (x5 : Int32) (σ : zSt) (h : F_X3_trial_12 x1 x2 w12 x3 x4 x5 σ = some (r, τ)) : zAW G 6 RX3 cX3_trial 7 C 12 [(0, .ref (zad G 24)), (1, .int x1), (2, .int x2), (3, .int x3), (4, .int x4), (5, .int x5)] [] σ := by
  unfold F_X3_trial_12 at h
  refine z_iload e_X3_trial_12 5 rfl ?_
  refine z_iload e_X3_trial_14 1 rfl ?_
  refine z_icmp_ge e_X3_trial_15 h (fun c4 h => ?_) (fun c4 h => ?_)
  · exact z_sub [0, 2, 3, 4] rfl (p_X3_trial_76 hR x2 x3 x4 σ h)
  · refine z_aload e_X3_trial_18 0 rfl ?_
    refine z_geti gf_X3_29_24 e_X3_trial_19 ?_
    refine z_istore e_X3_trial_22 (by decide) [(6, .int (σ.1 24 3)), (0, .ref (zad G 24)), (1, .int x1), (2, .int x2), (3, .int x3), (4, .int x4), (5, .int x5)] rfl ?_
    refine z_aload e_X3_trial_24 1 rfl ?_
    refine z_aload e_X3_trial_25 1 rfl ?_
    refine z_geti gf_X3_37_24 e_X3_trial_26 ?_
    obtain ⟨q9, s8, e10, h⟩ := bd_e h
    refine z_callVv (c0 := 24) (As := [.int (σ.1 24 5)]) (rest := []) lk_X3_80 ob_24 e_X3_trial_29 (m_X3_pass G (σ.1 24 5) σ _ _ e10) (by decide) rfl (Nat.le_of_ble_eq_true rfl) ?_
    refine z_iload e_X3_trial_32 4 rfl ?_
    refine z_aload e_X3_trial_33 1 rfl ?_
    refine z_geti gf_X3_37_24 e_X3_trial_34 ?_
    refine z_aload e_X3_trial_37 1 rfl ?_
    refine z_geti gf_X3_29_24 e_X3_trial_38 ?_
    obtain ⟨v11, ev11, h⟩ := nm_i h
    have jv11 : zAW G 6 RX3 cX3_trial 7 C 49 [(0, .ref (zad G 24)), (1, .int x1), (2, .int x2), (4, .int x4), (5, .int x5), (6, .int (σ.1 24 3))] [.int v11, .int x3] s8 := by
      refine z_iadd e_X3_trial_49 ?_
      refine z_nmI h (fun v12 h => ?_)
      refine z_istore e_X3_trial_50 (by decide) [(3, .int v12), (0, .ref (zad G 24)), (1, .int x1), (2, .int x2), (4, .int x4), (5, .int x5), (6, .int (σ.1 24 3))] rfl ?_
      refine z_iload e_X3_trial_51 4 rfl ?_
      refine z_iload e_X3_trial_53 6 rfl ?_
      refine z_aload e_X3_trial_55 1 rfl ?_
      refine z_geti gf_X3_29_24 e_X3_trial_56 ?_
      obtain ⟨v13, ev13, h⟩ := nm_i h
      have jv13 : zAW G 6 RX3 cX3_trial 7 C 67 [(0, .ref (zad G 24)), (1, .int x1), (2, .int x2), (3, .int v12), (5, .int x5)] [.int v13, .int x4] s8 := by
        refine z_iadd e_X3_trial_67 ?_
        refine z_nmI h (fun v14 h => ?_)
        refine z_istore e_X3_trial_68 (by decide) [(4, .int v14), (0, .ref (zad G 24)), (1, .int x1), (2, .int x2), (3, .int v12), (5, .int x5)] rfl ?_
        refine z_iinc e_X3_trial_70 5 rfl (by decide) (by decide) h (fun y => [(5, .int y), (4, .int v14), (0, .ref (zad G 24)), (1, .int x1), (2, .int x2), (3, .int v12)]) (fun _ => rfl) (fun v15 h => ?_)
        refine z_goto e_X3_trial_73 ?_
        exact z_sub [2, 3, 4, 5, 1, 0] rfl (hw12 v12 v14 v15 s8 h)
      refine y_icmp_eq e_X3_trial_59 (fun c16 => ?_) (fun c16 => ?_)
      · refine z_ic e_X3_trial_66 ?_
        rw [if_pos c16] at ev13
        subst ev13
        exact z_sub [1, 2, 3, 0, 5] rfl jv13
      · refine z_ic e_X3_trial_62 ?_
        refine z_goto e_X3_trial_63 ?_
        rw [if_neg c16] at ev13
        subst ev13
        exact z_sub [1, 2, 3, 0, 5] rfl jv13
    refine y_icmp_ne e_X3_trial_41 (fun c17 => ?_) (fun c17 => ?_)
    · refine z_ic e_X3_trial_44 ?_
      refine z_goto e_X3_trial_45 ?_
      rw [if_pos c17] at ev11
      subst ev11
      exact z_sub [1, 2, 3, 5, 6, 0] rfl jv11
    · refine z_ic e_X3_trial_48 ?_
      rw [if_neg c17] at ev11
      subst ev11
      exact z_sub [1, 2, 3, 5, 6, 0] rfl jv11
noncomputable def F_X3_trial_12L (x1 : Int32) (x2 : Int32) : ((Int32 × Int32 × Int32 × zSt) → Option (Int32 × zSt)) → (Int32 × Int32 × Int32 × zSt) → Option (Int32 × zSt) := fun w s => F_X3_trial_12 x1 x2 w s.1 s.2.1 s.2.2.1 s.2.2.2
set_option maxRecDepth 100000 in
theorem l_X3_trial_12 {G : zG} {C : zC} {r : Int32} {τ : zSt} (hR : zR G C (some .int) (some (.int r)) τ) (x1 : Int32) (x2 : Int32) : ∀ (N : Nat) (x3 : Int32) (x4 : Int32) (x5 : Int32) (σ : zSt), zfix (F_X3_trial_12L x1 x2) N (x3, x4, x5, σ) = some (r, τ) → zAW G 6 RX3 cX3_trial 7 C 12 [(0, .ref (zad G 24)), (1, .int x1), (2, .int x2), (3, .int x3), (4, .int x4), (5, .int x5)] [] σ := by
  intro N
  induction N with
  | zero =>
    intro x3 x4 x5 σ h
    exact nomatch (show (none : Option (Int32 × zSt)) = some (r, τ) from h)
  | succ N ih =>
    intro x3 x4 x5 σ h
    exact b_X3_trial_12 hR x1 x2 (zfix (F_X3_trial_12L x1 x2) N) ih x3 x4 x5 σ h
noncomputable def F_X3_trial_0 (x1 : Int32) (x2 : Int32) (σ : zSt) : Option (Int32 × zSt) :=
  bd (F_X3_begin σ) (fun _ s1 =>
    zfix (F_X3_trial_12L x1 x2) zlim ((0 : Int32), (0 : Int32), (0 : Int32), s1))
set_option maxHeartbeats 4000000 in
set_option maxRecDepth 100000 in
theorem p_X3_trial_0 {G : zG} {C : zC} {r : Int32} {τ : zSt} (hR : zR G C (some .int) (some (.int r)) τ) (x1 : Int32) (x2 : Int32) (σ : zSt) (h : F_X3_trial_0 x1 x2 σ = some (r, τ)) : zAW G 6 RX3 cX3_trial 7 C 0 [(0, .ref (zad G 24)), (1, .int x1), (2, .int x2)] [] σ := by
  unfold F_X3_trial_0 at h
  refine z_ic e_X3_trial_0 ?_
  refine z_istore e_X3_trial_1 (by decide) [(3, .int (0 : Int32)), (0, .ref (zad G 24)), (1, .int x1), (2, .int x2)] rfl ?_
  refine z_ic e_X3_trial_2 ?_
  refine z_istore e_X3_trial_3 (by decide) [(4, .int (0 : Int32)), (3, .int (0 : Int32)), (0, .ref (zad G 24)), (1, .int x1), (2, .int x2)] rfl ?_
  refine z_aload e_X3_trial_5 2 rfl ?_
  obtain ⟨q2, s1, e3, h⟩ := bd_e h
  refine z_callVv (c0 := 24) (As := []) (rest := []) lk_X3_77 ob_24 e_X3_trial_6 (m_X3_begin G σ _ _ e3) (by decide) rfl (Nat.le_of_ble_eq_true rfl) ?_
  refine z_ic e_X3_trial_9 ?_
  refine z_istore e_X3_trial_10 (by decide) [(5, .int (0 : Int32)), (4, .int (0 : Int32)), (3, .int (0 : Int32)), (0, .ref (zad G 24)), (1, .int x1), (2, .int x2)] rfl ?_
  exact z_sub [3, 4, 5, 2, 1, 0] rfl (l_X3_trial_12 hR x1 x2 zlim (0 : Int32) (0 : Int32) (0 : Int32) s1 h)
noncomputable def F_X3_trial (x1 : Int32) (x2 : Int32) (σ : zSt) : Option (Int32 × zSt) := F_X3_trial_0 x1 x2 σ
set_option maxRecDepth 100000 in
theorem m_X3_trial (G : zG) (x1 : Int32) (x2 : Int32) (σ : zSt) (q : Int32) (τ : zSt) (h : F_X3_trial x1 x2 σ = some (q, τ)) : zM G 6 yX3_trial cX3_trial 7 (some .int) [.ref (zad G 24), .int x1, .int x2] σ (some (.int q)) τ := by
  unfold F_X3_trial at h
  refine zM.of (own := RX3) (by decide +kernel) rfl (Nat.le_of_ble_eq_true rfl) (fun C hR => ?_)
  exact z_sub [0, 1, 2] rfl (p_X3_trial_0 hR x1 x2 σ h)
noncomputable def F_X11_tried_0 (x1 : Int32) (x2 : Int32) (σ : zSt) : Option (Int32 × zSt) :=
  if x1 < (1 : Int32) then (
    some ((-1 : Int32), σ))
  else (
    if (20 : Int32) < x1 then (
      some ((-1 : Int32), σ))
    else (
      bd (F_X11_isBelow x2 (4 : Int32) σ) (fun q4 s3 =>
        if q4 = 0 then (
          some ((-1 : Int32), s3))
        else (
          bd (F_X11_heartIsTold s3) (fun q8 s7 =>
            if q8 = 0 then (
              some ((-1 : Int32), s7))
            else (
              if (s7.1 1 9) ≤ ((9999 : Int32) - x1) then (
                bd (F_X3_trial x1 x2 s7) (fun q13 s12 =>
                  some (q13, s12)))
              else (
                some ((-1 : Int32), s7))))))))
set_option maxHeartbeats 4000000 in
set_option maxRecDepth 100000 in
theorem p_X11_tried_0 {G : zG} {C : zC} {r : Int32} {τ : zSt} (hR : zR G C (some .int) (some (.int r)) τ) (x1 : Int32) (x2 : Int32) (σ : zSt) (h : F_X11_tried_0 x1 x2 σ = some (r, τ)) : zAW G 7 RX11 cX11_tried 3 C 0 [(0, .ref (zad G 0)), (1, .int x1), (2, .int x2)] [] σ := by
  unfold F_X11_tried_0 at h
  refine z_iload e_X11_tried_0 1 rfl ?_
  refine z_ic e_X11_tried_1 ?_
  refine z_icmp_lt e_X11_tried_2 h (fun c1 h => ?_) (fun c1 h => ?_)
  · refine z_ic e_X11_tried_41 ?_
    cases h
    exact z_ireturn hR e_X11_tried_42
  · refine z_iload e_X11_tried_5 1 rfl ?_
    refine z_ic e_X11_tried_6 ?_
    refine z_icmp_gt e_X11_tried_8 h (fun c2 h => ?_) (fun c2 h => ?_)
    · refine z_ic e_X11_tried_41 ?_
      cases h
      exact z_ireturn hR e_X11_tried_42
    · refine z_iload e_X11_tried_11 2 rfl ?_
      refine z_ic e_X11_tried_12 ?_
      obtain ⟨q4, s3, e5, h⟩ := bd_e h
      refine z_callSi (As := [.int x2, .int (4 : Int32)]) (rest := []) lk_X11_104 e_X11_tried_13 (m_X11_isBelow G x2 (4 : Int32) σ _ _ e5) (by decide) rfl (Nat.le_of_ble_eq_true rfl) ?_
      refine z_if_eq e_X11_tried_16 h (fun c6 h => ?_) (fun c6 h => ?_)
      · refine z_ic e_X11_tried_41 ?_
        cases h
        exact z_ireturn hR e_X11_tried_42
      · refine z_aload e_X11_tried_19 0 rfl ?_
        obtain ⟨q8, s7, e9, h⟩ := bd_e h
        refine z_callVi (c0 := 0) (As := []) (rest := []) lk_X11_159 ob_0 e_X11_tried_20 (m_X11_heartIsTold G s3 _ _ e9) (by decide) rfl (Nat.le_of_ble_eq_true rfl) ?_
        refine z_if_eq e_X11_tried_23 h (fun c10 h => ?_) (fun c10 h => ?_)
        · refine z_ic e_X11_tried_41 ?_
          cases h
          exact z_ireturn hR e_X11_tried_42
        · refine z_aload e_X11_tried_26 0 rfl ?_
          refine z_getr gf_X11_23_0 e_X11_tried_27 ?_
          refine z_geti gf_X11_201_1 e_X11_tried_30 ?_
          refine z_ic e_X11_tried_33 ?_
          refine z_iload e_X11_tried_36 1 rfl ?_
          refine z_isub e_X11_tried_37 ?_
          refine z_icmp_le e_X11_tried_38 h (fun c11 h => ?_) (fun c11 h => ?_)
          · refine z_aload e_X11_tried_43 0 rfl ?_
            refine z_getr gf_X11_70_0 e_X11_tried_44 ?_
            refine z_iload e_X11_tried_47 1 rfl ?_
            refine z_iload e_X11_tried_48 2 rfl ?_
            obtain ⟨q13, s12, e14, h⟩ := bd_e h
            refine z_callVi (c0 := 24) (As := [.int x1, .int x2]) (rest := []) lk_X11_223 ob_24 e_X11_tried_49 (m_X3_trial G x1 x2 s7 _ _ e14) (by decide) rfl (Nat.le_of_ble_eq_true rfl) ?_
            cases h
            exact z_ireturn hR e_X11_tried_52
          · refine z_ic e_X11_tried_41 ?_
            cases h
            exact z_ireturn hR e_X11_tried_42
noncomputable def F_X11_tried (x1 : Int32) (x2 : Int32) (σ : zSt) : Option (Int32 × zSt) := F_X11_tried_0 x1 x2 σ
set_option maxRecDepth 100000 in
theorem m_X11_tried (G : zG) (x1 : Int32) (x2 : Int32) (σ : zSt) (q : Int32) (τ : zSt) (h : F_X11_tried x1 x2 σ = some (q, τ)) : zM G 7 yX11_tried cX11_tried 3 (some .int) [.ref (zad G 0), .int x1, .int x2] σ (some (.int q)) τ := by
  unfold F_X11_tried at h
  refine zM.of (own := RX11) (by decide +kernel) rfl (Nat.le_of_ble_eq_true rfl) (fun C hR => ?_)
  exact z_sub [0, 1, 2] rfl (p_X11_tried_0 hR x1 x2 σ h)
noncomputable def F_X12_tried_149 (x2 : Int32) (x3 : Int32) (x4 : Int32) (x5 : Int32) (x6 : Int32) (x7 : Int32) (x8 : Int32) (x9 : Int32) (σ : zSt) : Option (Int32 × zSt) :=
  nm (if x2 = 0 then (σ.1 69 2) else (if x2 = (1 : Int32) then (σ.1 69 6) else (if x2 = (2 : Int32) then x8 else x9))) (fun v15 =>
    nm (zwr σ 69 2 x3) (fun s16 =>
      nm (zwr s16 69 3 x4) (fun s17 =>
        nm (zwr s17 69 4 x5) (fun s18 =>
          nm (zwr s18 69 5 x6) (fun s19 =>
            nm (zwr s19 69 6 x7) (fun s20 =>
              some (v15, s20)))))))
set_option maxHeartbeats 4000000 in
set_option maxRecDepth 100000 in
theorem p_X12_tried_149 {G : zG} {C : zC} {r : Int32} {τ : zSt} (hR : zR G C (some .int) (some (.int r)) τ) (x2 : Int32) (x3 : Int32) (x4 : Int32) (x5 : Int32) (x6 : Int32) (x7 : Int32) (x8 : Int32) (x9 : Int32) (σ : zSt) (h : F_X12_tried_149 x2 x3 x4 x5 x6 x7 x8 x9 σ = some (r, τ)) : zAW G 7 RX12 cX12_tried 12 C 149 [(0, .ref (zad G 69)), (2, .int x2), (3, .int x3), (4, .int x4), (5, .int x5), (6, .int x6), (7, .int x7), (8, .int x8), (9, .int x9)] [] σ := by
  unfold F_X12_tried_149 at h
  refine z_iload e_X12_tried_149 1 rfl ?_
  obtain ⟨v15, ev15, h⟩ := nm_i h
  have jv15 : zAW G 7 RX12 cX12_tried 12 C 184 [(0, .ref (zad G 69)), (3, .int x3), (4, .int x4), (5, .int x5), (6, .int x6), (7, .int x7)] [.int v15] σ := by
    refine z_istore e_X12_tried_184 (by decide) [(10, .int v15), (0, .ref (zad G 69)), (3, .int x3), (4, .int x4), (5, .int x5), (6, .int x6), (7, .int x7)] rfl ?_
    refine z_aload e_X12_tried_186 1 rfl ?_
    refine z_iload e_X12_tried_187 2 rfl ?_
    refine z_puti pf_X12_173_69 e_X12_tried_188 h (fun s16 h => ?_)
    refine z_aload e_X12_tried_191 1 rfl ?_
    refine z_iload e_X12_tried_192 3 rfl ?_
    refine z_puti pf_X12_135_69 e_X12_tried_194 h (fun s17 h => ?_)
    refine z_aload e_X12_tried_197 1 rfl ?_
    refine z_iload e_X12_tried_198 4 rfl ?_
    refine z_puti pf_X12_307_69 e_X12_tried_200 h (fun s18 h => ?_)
    refine z_aload e_X12_tried_203 1 rfl ?_
    refine z_iload e_X12_tried_204 5 rfl ?_
    refine z_puti pf_X12_139_69 e_X12_tried_206 h (fun s19 h => ?_)
    refine z_aload e_X12_tried_209 1 rfl ?_
    refine z_iload e_X12_tried_210 6 rfl ?_
    refine z_puti pf_X12_142_69 e_X12_tried_212 h (fun s20 h => ?_)
    refine z_iload e_X12_tried_215 0 rfl ?_
    cases h
    exact z_ireturn hR e_X12_tried_217
  refine y_if_ne e_X12_tried_150 (fun c21 => ?_) (fun c21 => ?_)
  · refine z_aload e_X12_tried_153 0 rfl ?_
    refine z_geti gf_X12_173_69 e_X12_tried_154 ?_
    refine z_goto e_X12_tried_157 ?_
    rw [if_pos c21] at ev15
    subst ev15
    exact z_sub [0, 2, 3, 4, 5, 6] rfl jv15
  · refine z_iload e_X12_tried_160 1 rfl ?_
    refine z_ic e_X12_tried_161 ?_
    refine y_icmp_ne e_X12_tried_162 (fun c22 => ?_) (fun c22 => ?_)
    · refine z_aload e_X12_tried_165 0 rfl ?_
      refine z_geti gf_X12_142_69 e_X12_tried_166 ?_
      refine z_goto e_X12_tried_169 ?_
      rw [if_neg c21, if_pos c22] at ev15
      subst ev15
      exact z_sub [0, 2, 3, 4, 5, 6] rfl jv15
    · refine z_iload e_X12_tried_172 1 rfl ?_
      refine z_ic e_X12_tried_173 ?_
      refine y_icmp_ne e_X12_tried_174 (fun c23 => ?_) (fun c23 => ?_)
      · refine z_iload e_X12_tried_177 7 rfl ?_
        refine z_goto e_X12_tried_179 ?_
        rw [if_neg c21, if_neg c22, if_pos c23] at ev15
        subst ev15
        exact z_sub [0, 2, 3, 4, 5, 6] rfl jv15
      · refine z_iload e_X12_tried_182 8 rfl ?_
        rw [if_neg c21, if_neg c22, if_neg c23] at ev15
        subst ev15
        exact z_sub [0, 2, 3, 4, 5, 6] rfl jv15
noncomputable def F_X12_tried_82 (x1 : Int32) (x2 : Int32) (x3 : Int32) (x4 : Int32) (x5 : Int32) (x6 : Int32) (x7 : Int32) (w82 : (Int32 × Int32 × Int32 × zSt) → Option (Int32 × zSt)) (x8 : Int32) (x9 : Int32) (x10 : Int32) (σ : zSt) : Option (Int32 × zSt) :=
  if x1 ≤ x10 then (
    F_X12_tried_149 x2 x3 x4 x5 x6 x7 x8 x9 σ)
  else (
    bd (F_X12_nightGoes (σ.1 69 6) σ) (fun q25 s24 =>
      nm (if (s24.1 69 6) = (s24.1 69 2) then (1 : Int32) else (0 : Int32)) (fun v27 =>
        nm (x8 + v27) (fun v28 =>
          nm (if (s24.1 69 2) = (σ.1 69 2) then (0 : Int32) else (1 : Int32)) (fun v29 =>
            nm (x9 + v29) (fun v30 =>
              nm (x10 + (1 : Int32)) (fun v31 =>
                w82 (v28, v30, v31, s24))))))))
set_option maxHeartbeats 4000000 in
set_option maxRecDepth 100000 in
theorem b_X12_tried_82 {G : zG} {C : zC} {r : Int32} {τ : zSt} (hR : zR G C (some .int) (some (.int r)) τ) (x1 : Int32) (x2 : Int32) (x3 : Int32) (x4 : Int32) (x5 : Int32) (x6 : Int32) (x7 : Int32) (w82 : (Int32 × Int32 × Int32 × zSt) → Option (Int32 × zSt)) (hw82 : ∀ (x8 : Int32) (x9 : Int32) (x10 : Int32) (σ : zSt), w82 (x8, x9, x10, σ) = some (r, τ) → zAW G 7 RX12 cX12_tried 12 C 82 [(0, .ref (zad G 69)), (1, .int x1), (2, .int x2), (3, .int x3), (4, .int x4), (5, .int x5), (6, .int x6), (7, .int x7), (8, .int x8), (9, .int x9), (10, .int x10)] [] σ) (x8 : Int32) (x9 : Int32) (x10 : Int32) (σ : zSt) (h : F_X12_tried_82 x1 x2 x3 x4 x5 x6 x7 w82 x8 x9 x10 σ = some (r, τ)) : zAW G 7 RX12 cX12_tried 12 C 82 [(0, .ref (zad G 69)), (1, .int x1), (2, .int x2), (3, .int x3), (4, .int x4), (5, .int x5), (6, .int x6), (7, .int x7), (8, .int x8), (9, .int x9), (10, .int x10)] [] σ := by
  unfold F_X12_tried_82 at h
  refine z_iload e_X12_tried_82 10 rfl ?_
  refine z_iload e_X12_tried_84 1 rfl ?_
  refine z_icmp_ge e_X12_tried_85 h (fun c14 h => ?_) (fun c14 h => ?_)
  · exact z_sub [0, 2, 3, 4, 5, 6, 7, 8, 9] rfl (p_X12_tried_149 hR x2 x3 x4 x5 x6 x7 x8 x9 σ h)
  · refine z_aload e_X12_tried_88 0 rfl ?_
    refine z_geti gf_X12_173_69 e_X12_tried_89 ?_
    refine z_istore e_X12_tried_92 (by decide) [(11, .int (σ.1 69 2)), (0, .ref (zad G 69)), (1, .int x1), (2, .int x2), (3, .int x3), (4, .int x4), (5, .int x5), (6, .int x6), (7, .int x7), (8, .int x8), (9, .int x9), (10, .int x10)] rfl ?_
    refine z_aload e_X12_tried_94 1 rfl ?_
    refine z_aload e_X12_tried_95 1 rfl ?_
    refine z_geti gf_X12_142_69 e_X12_tried_96 ?_
    obtain ⟨q25, s24, e26, h⟩ := bd_e h
    refine z_callVi (c0 := 69) (As := [.int (σ.1 69 6)]) (rest := []) lk_X12_317 ob_69 e_X12_tried_99 (m_X12_nightGoes G (σ.1 69 6) σ _ _ e26) (by decide) rfl (Nat.le_of_ble_eq_true rfl) ?_
    refine z_pop e_X12_tried_102 rfl ?_
    refine z_iload e_X12_tried_103 9 rfl ?_
    refine z_aload e_X12_tried_105 1 rfl ?_
    refine z_geti gf_X12_142_69 e_X12_tried_106 ?_
    refine z_aload e_X12_tried_109 1 rfl ?_
    refine z_geti gf_X12_173_69 e_X12_tried_110 ?_
    obtain ⟨v27, ev27, h⟩ := nm_i h
    have jv27 : zAW G 7 RX12 cX12_tried 12 C 121 [(0, .ref (zad G 69)), (1, .int x1), (2, .int x2), (3, .int x3), (4, .int x4), (5, .int x5), (6, .int x6), (7, .int x7), (9, .int x9), (10, .int x10), (11, .int (σ.1 69 2))] [.int v27, .int x8] s24 := by
      refine z_iadd e_X12_tried_121 ?_
      refine z_nmI h (fun v28 h => ?_)
      refine z_istore e_X12_tried_122 (by decide) [(8, .int v28), (0, .ref (zad G 69)), (1, .int x1), (2, .int x2), (3, .int x3), (4, .int x4), (5, .int x5), (6, .int x6), (7, .int x7), (9, .int x9), (10, .int x10), (11, .int (σ.1 69 2))] rfl ?_
      refine z_iload e_X12_tried_124 9 rfl ?_
      refine z_aload e_X12_tried_126 1 rfl ?_
      refine z_geti gf_X12_173_69 e_X12_tried_127 ?_
      refine z_iload e_X12_tried_130 11 rfl ?_
      obtain ⟨v29, ev29, h⟩ := nm_i h
      have jv29 : zAW G 7 RX12 cX12_tried 12 C 140 [(0, .ref (zad G 69)), (1, .int x1), (2, .int x2), (3, .int x3), (4, .int x4), (5, .int x5), (6, .int x6), (7, .int x7), (8, .int v28), (10, .int x10)] [.int v29, .int x9] s24 := by
        refine z_iadd e_X12_tried_140 ?_
        refine z_nmI h (fun v30 h => ?_)
        refine z_istore e_X12_tried_141 (by decide) [(9, .int v30), (0, .ref (zad G 69)), (1, .int x1), (2, .int x2), (3, .int x3), (4, .int x4), (5, .int x5), (6, .int x6), (7, .int x7), (8, .int v28), (10, .int x10)] rfl ?_
        refine z_iinc e_X12_tried_143 10 rfl (by decide) (by decide) h (fun y => [(10, .int y), (9, .int v30), (0, .ref (zad G 69)), (1, .int x1), (2, .int x2), (3, .int x3), (4, .int x4), (5, .int x5), (6, .int x6), (7, .int x7), (8, .int v28)]) (fun _ => rfl) (fun v31 h => ?_)
        refine z_goto e_X12_tried_146 ?_
        exact z_sub [2, 3, 4, 5, 6, 7, 8, 9, 10, 1, 0] rfl (hw82 v28 v30 v31 s24 h)
      refine y_icmp_ne e_X12_tried_132 (fun c32 => ?_) (fun c32 => ?_)
      · refine z_ic e_X12_tried_135 ?_
        refine z_goto e_X12_tried_136 ?_
        rw [if_pos c32] at ev29
        subst ev29
        exact z_sub [1, 2, 3, 4, 5, 6, 7, 8, 0, 10] rfl jv29
      · refine z_ic e_X12_tried_139 ?_
        rw [if_neg c32] at ev29
        subst ev29
        exact z_sub [1, 2, 3, 4, 5, 6, 7, 8, 0, 10] rfl jv29
    refine y_icmp_ne e_X12_tried_113 (fun c33 => ?_) (fun c33 => ?_)
    · refine z_ic e_X12_tried_116 ?_
      refine z_goto e_X12_tried_117 ?_
      rw [if_pos c33] at ev27
      subst ev27
      exact z_sub [1, 2, 3, 4, 5, 6, 7, 8, 10, 11, 0] rfl jv27
    · refine z_ic e_X12_tried_120 ?_
      rw [if_neg c33] at ev27
      subst ev27
      exact z_sub [1, 2, 3, 4, 5, 6, 7, 8, 10, 11, 0] rfl jv27
noncomputable def F_X12_tried_82L (x1 : Int32) (x2 : Int32) (x3 : Int32) (x4 : Int32) (x5 : Int32) (x6 : Int32) (x7 : Int32) : ((Int32 × Int32 × Int32 × zSt) → Option (Int32 × zSt)) → (Int32 × Int32 × Int32 × zSt) → Option (Int32 × zSt) := fun w s => F_X12_tried_82 x1 x2 x3 x4 x5 x6 x7 w s.1 s.2.1 s.2.2.1 s.2.2.2
set_option maxRecDepth 100000 in
theorem l_X12_tried_82 {G : zG} {C : zC} {r : Int32} {τ : zSt} (hR : zR G C (some .int) (some (.int r)) τ) (x1 : Int32) (x2 : Int32) (x3 : Int32) (x4 : Int32) (x5 : Int32) (x6 : Int32) (x7 : Int32) : ∀ (N : Nat) (x8 : Int32) (x9 : Int32) (x10 : Int32) (σ : zSt), zfix (F_X12_tried_82L x1 x2 x3 x4 x5 x6 x7) N (x8, x9, x10, σ) = some (r, τ) → zAW G 7 RX12 cX12_tried 12 C 82 [(0, .ref (zad G 69)), (1, .int x1), (2, .int x2), (3, .int x3), (4, .int x4), (5, .int x5), (6, .int x6), (7, .int x7), (8, .int x8), (9, .int x9), (10, .int x10)] [] σ := by
  intro N
  induction N with
  | zero =>
    intro x8 x9 x10 σ h
    exact nomatch (show (none : Option (Int32 × zSt)) = some (r, τ) from h)
  | succ N ih =>
    intro x8 x9 x10 σ h
    exact b_X12_tried_82 hR x1 x2 x3 x4 x5 x6 x7 (zfix (F_X12_tried_82L x1 x2 x3 x4 x5 x6 x7) N) ih x8 x9 x10 σ h
noncomputable def F_X12_tried_0 (x1 : Int32) (x2 : Int32) (σ : zSt) : Option (Int32 × zSt) :=
  bd (F_X12_in x1 (1 : Int32) (20 : Int32) σ) (fun q2 s1 =>
    if q2 = 0 then (
      some ((-1 : Int32), s1))
    else (
      bd (F_X12_in x2 (0 : Int32) (3 : Int32) s1) (fun q6 s5 =>
        if q6 = 0 then (
          some ((-1 : Int32), s5))
        else (
          bd (F_X12_isPlace (s5.1 69 2) s5) (fun q10 s9 =>
            if q10 = 0 then (
              some ((-1 : Int32), s9))
            else (
              if ((s9.1 69 4) + x1) ≤ (9999 : Int32) then (
                zfix (F_X12_tried_82L x1 x2 (s9.1 69 2) (s9.1 69 3) (s9.1 69 4) (s9.1 69 5) (s9.1 69 6)) zlim ((0 : Int32), (0 : Int32), (0 : Int32), s9))
              else (
                some ((-1 : Int32), s9))))))))
set_option maxHeartbeats 4000000 in
set_option maxRecDepth 100000 in
theorem p_X12_tried_0 {G : zG} {C : zC} {r : Int32} {τ : zSt} (hR : zR G C (some .int) (some (.int r)) τ) (x1 : Int32) (x2 : Int32) (σ : zSt) (h : F_X12_tried_0 x1 x2 σ = some (r, τ)) : zAW G 7 RX12 cX12_tried 12 C 0 [(0, .ref (zad G 69)), (1, .int x1), (2, .int x2)] [] σ := by
  unfold F_X12_tried_0 at h
  refine z_iload e_X12_tried_0 1 rfl ?_
  refine z_ic e_X12_tried_1 ?_
  refine z_ic e_X12_tried_2 ?_
  obtain ⟨q2, s1, e3, h⟩ := bd_e h
  refine z_callSi (As := [.int x1, .int (1 : Int32), .int (20 : Int32)]) (rest := []) lk_X12_163 e_X12_tried_4 (m_X12_in G x1 (1 : Int32) (20 : Int32) σ _ _ e3) (by decide) rfl (Nat.le_of_ble_eq_true rfl) ?_
  refine z_if_eq e_X12_tried_7 h (fun c4 h => ?_) (fun c4 h => ?_)
  · refine z_ic e_X12_tried_42 ?_
    cases h
    exact z_ireturn hR e_X12_tried_43
  · refine z_iload e_X12_tried_10 2 rfl ?_
    refine z_ic e_X12_tried_11 ?_
    refine z_ic e_X12_tried_12 ?_
    obtain ⟨q6, s5, e7, h⟩ := bd_e h
    refine z_callSi (As := [.int x2, .int (0 : Int32), .int (3 : Int32)]) (rest := []) lk_X12_163 e_X12_tried_13 (m_X12_in G x2 (0 : Int32) (3 : Int32) s1 _ _ e7) (by decide) rfl (Nat.le_of_ble_eq_true rfl) ?_
    refine z_if_eq e_X12_tried_16 h (fun c8 h => ?_) (fun c8 h => ?_)
    · refine z_ic e_X12_tried_42 ?_
      cases h
      exact z_ireturn hR e_X12_tried_43
    · refine z_aload e_X12_tried_19 0 rfl ?_
      refine z_aload e_X12_tried_20 0 rfl ?_
      refine z_geti gf_X12_173_69 e_X12_tried_21 ?_
      obtain ⟨q10, s9, e11, h⟩ := bd_e h
      refine z_callVi (c0 := 69) (As := [.int (s5.1 69 2)]) (rest := []) lk_X12_167 ob_69 e_X12_tried_24 (m_X12_isPlace G (s5.1 69 2) s5 _ _ e11) (by decide) rfl (Nat.le_of_ble_eq_true rfl) ?_
      refine z_if_eq e_X12_tried_27 h (fun c12 h => ?_) (fun c12 h => ?_)
      · refine z_ic e_X12_tried_42 ?_
        cases h
        exact z_ireturn hR e_X12_tried_43
      · refine z_aload e_X12_tried_30 0 rfl ?_
        refine z_geti gf_X12_307_69 e_X12_tried_31 ?_
        refine z_iload e_X12_tried_34 1 rfl ?_
        refine z_iadd e_X12_tried_35 ?_
        refine z_ic e_X12_tried_36 ?_
        refine z_icmp_le e_X12_tried_39 h (fun c13 h => ?_) (fun c13 h => ?_)
        · refine z_aload e_X12_tried_44 0 rfl ?_
          refine z_geti gf_X12_173_69 e_X12_tried_45 ?_
          refine z_istore e_X12_tried_48 (by decide) [(3, .int (s9.1 69 2)), (0, .ref (zad G 69)), (1, .int x1), (2, .int x2)] rfl ?_
          refine z_aload e_X12_tried_49 1 rfl ?_
          refine z_geti gf_X12_135_69 e_X12_tried_50 ?_
          refine z_istore e_X12_tried_53 (by decide) [(4, .int (s9.1 69 3)), (3, .int (s9.1 69 2)), (0, .ref (zad G 69)), (1, .int x1), (2, .int x2)] rfl ?_
          refine z_aload e_X12_tried_55 2 rfl ?_
          refine z_geti gf_X12_307_69 e_X12_tried_56 ?_
          refine z_istore e_X12_tried_59 (by decide) [(5, .int (s9.1 69 4)), (4, .int (s9.1 69 3)), (3, .int (s9.1 69 2)), (0, .ref (zad G 69)), (1, .int x1), (2, .int x2)] rfl ?_
          refine z_aload e_X12_tried_61 3 rfl ?_
          refine z_geti gf_X12_139_69 e_X12_tried_62 ?_
          refine z_istore e_X12_tried_65 (by decide) [(6, .int (s9.1 69 5)), (5, .int (s9.1 69 4)), (4, .int (s9.1 69 3)), (3, .int (s9.1 69 2)), (0, .ref (zad G 69)), (1, .int x1), (2, .int x2)] rfl ?_
          refine z_aload e_X12_tried_67 4 rfl ?_
          refine z_geti gf_X12_142_69 e_X12_tried_68 ?_
          refine z_istore e_X12_tried_71 (by decide) [(7, .int (s9.1 69 6)), (6, .int (s9.1 69 5)), (5, .int (s9.1 69 4)), (4, .int (s9.1 69 3)), (3, .int (s9.1 69 2)), (0, .ref (zad G 69)), (1, .int x1), (2, .int x2)] rfl ?_
          refine z_ic e_X12_tried_73 ?_
          refine z_istore e_X12_tried_74 (by decide) [(8, .int (0 : Int32)), (7, .int (s9.1 69 6)), (6, .int (s9.1 69 5)), (5, .int (s9.1 69 4)), (4, .int (s9.1 69 3)), (3, .int (s9.1 69 2)), (0, .ref (zad G 69)), (1, .int x1), (2, .int x2)] rfl ?_
          refine z_ic e_X12_tried_76 ?_
          refine z_istore e_X12_tried_77 (by decide) [(9, .int (0 : Int32)), (8, .int (0 : Int32)), (7, .int (s9.1 69 6)), (6, .int (s9.1 69 5)), (5, .int (s9.1 69 4)), (4, .int (s9.1 69 3)), (3, .int (s9.1 69 2)), (0, .ref (zad G 69)), (1, .int x1), (2, .int x2)] rfl ?_
          refine z_ic e_X12_tried_79 ?_
          refine z_istore e_X12_tried_80 (by decide) [(10, .int (0 : Int32)), (9, .int (0 : Int32)), (8, .int (0 : Int32)), (7, .int (s9.1 69 6)), (6, .int (s9.1 69 5)), (5, .int (s9.1 69 4)), (4, .int (s9.1 69 3)), (3, .int (s9.1 69 2)), (0, .ref (zad G 69)), (1, .int x1), (2, .int x2)] rfl ?_
          exact z_sub [8, 9, 10, 7, 6, 5, 4, 3, 2, 1, 0] rfl (l_X12_tried_82 hR x1 x2 (s9.1 69 2) (s9.1 69 3) (s9.1 69 4) (s9.1 69 5) (s9.1 69 6) zlim (0 : Int32) (0 : Int32) (0 : Int32) s9 h)
        · refine z_ic e_X12_tried_42 ?_
          cases h
          exact z_ireturn hR e_X12_tried_43
noncomputable def F_X12_tried (x1 : Int32) (x2 : Int32) (σ : zSt) : Option (Int32 × zSt) := F_X12_tried_0 x1 x2 σ
set_option maxRecDepth 100000 in
theorem m_X12_tried (G : zG) (x1 : Int32) (x2 : Int32) (σ : zSt) (q : Int32) (τ : zSt) (h : F_X12_tried x1 x2 σ = some (q, τ)) : zM G 7 yX12_tried cX12_tried 12 (some .int) [.ref (zad G 69), .int x1, .int x2] σ (some (.int q)) τ := by
  unfold F_X12_tried at h
  refine zM.of (own := RX12) (by decide +kernel) rfl (Nat.le_of_ble_eq_true rfl) (fun C hR => ?_)
  exact z_sub [0, 1, 2] rfl (p_X12_tried_0 hR x1 x2 σ h)
noncomputable def F_X6_isPlaceSign_0 (x0 : Int32) (σ : zSt) : Option (Int32 × zSt) :=
  if x0 < (48 : Int32) then (
    some ((0 : Int32), σ))
  else (
    if (55 : Int32) < x0 then (
      some ((0 : Int32), σ))
    else (
      some ((1 : Int32), σ)))
set_option maxHeartbeats 4000000 in
set_option maxRecDepth 100000 in
theorem p_X6_isPlaceSign_0 {G : zG} {C : zC} {r : Int32} {τ : zSt} (hR : zR G C (some .boolean) (some (.int r)) τ) (x0 : Int32) (σ : zSt) (h : F_X6_isPlaceSign_0 x0 σ = some (r, τ)) : zAW G 1 RX6 cX6_isPlaceSign 1 C 0 [(0, .int x0)] [] σ := by
  unfold F_X6_isPlaceSign_0 at h
  refine z_iload e_X6_isPlaceSign_0 0 rfl ?_
  refine z_ic e_X6_isPlaceSign_1 ?_
  refine z_icmp_lt e_X6_isPlaceSign_3 h (fun c1 h => ?_) (fun c1 h => ?_)
  · refine z_ic e_X6_isPlaceSign_16 ?_
    cases h
    exact z_zreturn hR e_X6_isPlaceSign_17 (Or.inl rfl)
  · refine z_iload e_X6_isPlaceSign_6 0 rfl ?_
    refine z_ic e_X6_isPlaceSign_7 ?_
    refine z_icmp_gt e_X6_isPlaceSign_9 h (fun c2 h => ?_) (fun c2 h => ?_)
    · refine z_ic e_X6_isPlaceSign_16 ?_
      cases h
      exact z_zreturn hR e_X6_isPlaceSign_17 (Or.inl rfl)
    · refine z_ic e_X6_isPlaceSign_12 ?_
      refine z_goto e_X6_isPlaceSign_13 ?_
      cases h
      exact z_zreturn hR e_X6_isPlaceSign_17 (Or.inr rfl)
noncomputable def F_X6_isPlaceSign (x0 : Int32) (σ : zSt) : Option (Int32 × zSt) := F_X6_isPlaceSign_0 x0 σ
set_option maxRecDepth 100000 in
theorem m_X6_isPlaceSign (G : zG) (x0 : Int32) (σ : zSt) (q : Int32) (τ : zSt) (h : F_X6_isPlaceSign x0 σ = some (q, τ)) : zM G 1 yX6_isPlaceSign cX6_isPlaceSign 1 (some .boolean) [.int x0] σ (some (.int q)) τ := by
  unfold F_X6_isPlaceSign at h
  refine zM.of (own := RX6) (by decide +kernel) rfl (Nat.le_of_ble_eq_true rfl) (fun C hR => ?_)
  exact z_sub [0] rfl (p_X6_isPlaceSign_0 hR x0 σ h)
noncomputable def F_X6_read_171 (x2 : Int32) (σ : zSt) : Option (Int32 × zSt) :=
  bd (F_X11_fault (4 : Int32) x2 σ) (fun q4 s3 =>
    some (q4, s3))
set_option maxHeartbeats 4000000 in
set_option maxRecDepth 100000 in
theorem p_X6_read_171 {G : zG} {C : zC} {r : Int32} {τ : zSt} (hR : zR G C (some .int) (some (.int r)) τ) (x2 : Int32) (σ : zSt) (h : F_X6_read_171 x2 σ = some (r, τ)) : zAW G 2 RX6 cX6_read 6 C 171 [(2, .int x2)] [] σ := by
  unfold F_X6_read_171 at h
  refine z_ic e_X6_read_171 ?_
  refine z_iload e_X6_read_172 0 rfl ?_
  obtain ⟨q4, s3, e5, h⟩ := bd_e h
  refine z_callNi (As := [.int (4 : Int32), .int x2]) (rest := []) lk_X6_54 e_X6_read_173 (m_X11_fault G (4 : Int32) x2 σ _ _ e5) (by decide) rfl (Nat.le_of_ble_eq_true rfl) ?_
  cases h
  exact z_ireturn hR e_X6_read_176
noncomputable def F_X6_read_75 (x2 : Int32) (σ : zSt) : Option (Int32 × zSt) :=
  bd (F_X11_fault (1 : Int32) (x2 + (1 : Int32)) σ) (fun q19 s18 =>
    some (q19, s18))
set_option maxHeartbeats 4000000 in
set_option maxRecDepth 100000 in
theorem p_X6_read_75 {G : zG} {C : zC} {r : Int32} {τ : zSt} (hR : zR G C (some .int) (some (.int r)) τ) (x2 : Int32) (σ : zSt) (h : F_X6_read_75 x2 σ = some (r, τ)) : zAW G 2 RX6 cX6_read 6 C 75 [(2, .int x2)] [] σ := by
  unfold F_X6_read_75 at h
  refine z_ic e_X6_read_75 ?_
  refine z_iload e_X6_read_76 0 rfl ?_
  refine z_ic e_X6_read_77 ?_
  refine z_iadd e_X6_read_78 ?_
  obtain ⟨q19, s18, e20, h⟩ := bd_e h
  refine z_callNi (As := [.int (1 : Int32), .int (x2 + (1 : Int32))]) (rest := []) lk_X6_54 e_X6_read_79 (m_X11_fault G (1 : Int32) (x2 + (1 : Int32)) σ _ _ e20) (by decide) rfl (Nat.le_of_ble_eq_true rfl) ?_
  cases h
  exact z_ireturn hR e_X6_read_82
noncomputable def F_X6_read_156 (x2 : Int32) (σ : zSt) : Option (Int32 × zSt) :=
  bd (F_X11_fault (1 : Int32) x2 σ) (fun q34 s33 =>
    some (q34, s33))
set_option maxHeartbeats 4000000 in
set_option maxRecDepth 100000 in
theorem p_X6_read_156 {G : zG} {C : zC} {r : Int32} {τ : zSt} (hR : zR G C (some .int) (some (.int r)) τ) (x2 : Int32) (σ : zSt) (h : F_X6_read_156 x2 σ = some (r, τ)) : zAW G 2 RX6 cX6_read 6 C 156 [(2, .int x2)] [] σ := by
  unfold F_X6_read_156 at h
  refine z_ic e_X6_read_156 ?_
  refine z_iload e_X6_read_157 0 rfl ?_
  obtain ⟨q34, s33, e35, h⟩ := bd_e h
  refine z_callNi (As := [.int (1 : Int32), .int x2]) (rest := []) lk_X6_54 e_X6_read_158 (m_X11_fault G (1 : Int32) x2 σ _ _ e35) (by decide) rfl (Nat.le_of_ble_eq_true rfl) ?_
  cases h
  exact z_ireturn hR e_X6_read_161
noncomputable def F_X6_read_52 (x2 : Int32) (σ : zSt) : Option (Int32 × zSt) :=
  bd (F_X11_fault (4 : Int32) x2 σ) (fun q38 s37 =>
    some (q38, s37))
set_option maxHeartbeats 4000000 in
set_option maxRecDepth 100000 in
theorem p_X6_read_52 {G : zG} {C : zC} {r : Int32} {τ : zSt} (hR : zR G C (some .int) (some (.int r)) τ) (x2 : Int32) (σ : zSt) (h : F_X6_read_52 x2 σ = some (r, τ)) : zAW G 2 RX6 cX6_read 6 C 52 [(2, .int x2)] [] σ := by
  unfold F_X6_read_52 at h
  refine z_ic e_X6_read_52 ?_
  refine z_iload e_X6_read_53 0 rfl ?_
  obtain ⟨q38, s37, e39, h⟩ := bd_e h
  refine z_callNi (As := [.int (4 : Int32), .int x2]) (rest := []) lk_X6_54 e_X6_read_54 (m_X11_fault G (4 : Int32) x2 σ _ _ e39) (by decide) rfl (Nat.le_of_ble_eq_true rfl) ?_
  cases h
  exact z_ireturn hR e_X6_read_57
noncomputable def F_X6_read_43 (w9 : (Int32 × Int32 × zSt) → Option (Int32 × zSt)) (x2 : Int32) (x3 : Int32) (x4 : Int32) (σ : zSt) : Option (Int32 × zSt) :=
  if (σ.1 57 5) < (12 : Int32) then (
    bd (F_X8_at (x2 + (1 : Int32)) σ) (fun q12 s11 =>
      bd (F_X6_isPlaceSign q12 s11) (fun q15 s14 =>
        if q15 = 0 then (
          F_X6_read_75 x2 s14)
        else (
          nm (if x4 = (46 : Int32) then (8 : Int32) else (x4 - (48 : Int32))) (fun v21 =>
            gd (vp_in (s14.1 57 5) 12) (nm (zwr s14 58 (s14.1 57 5).toNatClampNeg v21) (fun s22 =>
              gd (vp_in (s22.1 57 5) 12) (nm (zwr s22 59 (s22.1 57 5).toNatClampNeg (q12 - (48 : Int32))) (fun s23 =>
                nm (zwr s23 57 5 ((s23.1 57 5) + (1 : Int32))) (fun s24 =>
                  nm (x2 + (2 : Int32)) (fun v25 =>
                    if v25 = (s24.1 33 2) then (
                      some ((0 : Int32), s24))
                    else (
                      bd (F_X8_at v25 s24) (fun q28 s27 =>
                        if q28 = (44 : Int32) then (
                          nm (v25 + (1 : Int32)) (fun v31 =>
                            nm (x3 + (1 : Int32)) (fun v32 =>
                              w9 (v31, v32, s27))))
                        else (
                          F_X6_read_156 v25 s27))))))))))))))
  else (
    F_X6_read_52 x2 σ)
set_option maxHeartbeats 4000000 in
set_option maxRecDepth 100000 in
theorem p_X6_read_43 {G : zG} {C : zC} {r : Int32} {τ : zSt} (hR : zR G C (some .int) (some (.int r)) τ) (w9 : (Int32 × Int32 × zSt) → Option (Int32 × zSt)) (x2 : Int32) (x3 : Int32) (x4 : Int32) (hw9 : ∀ (x2 : Int32) (x3 : Int32) (σ : zSt), w9 (x2, x3, σ) = some (r, τ) → zAW G 2 RX6 cX6_read 6 C 9 [(0, .ref (zad G 57)), (1, .ref (zad G 33)), (2, .int x2), (3, .int x3)] [] σ) (σ : zSt) (h : F_X6_read_43 w9 x2 x3 x4 σ = some (r, τ)) : zAW G 2 RX6 cX6_read 6 C 43 [(0, .ref (zad G 57)), (1, .ref (zad G 33)), (2, .int x2), (3, .int x3), (4, .int x4)] [] σ := by
  unfold F_X6_read_43 at h
  refine z_aload e_X6_read_43 0 rfl ?_
  refine z_geti gf_X6_40_57 e_X6_read_44 ?_
  refine z_ic e_X6_read_47 ?_
  refine z_icmp_lt e_X6_read_49 h (fun c10 h => ?_) (fun c10 h => ?_)
  · refine z_aload e_X6_read_58 1 rfl ?_
    refine z_iload e_X6_read_59 2 rfl ?_
    refine z_ic e_X6_read_60 ?_
    refine z_iadd e_X6_read_61 ?_
    obtain ⟨q12, s11, e13, h⟩ := bd_e h
    refine z_callVi (c0 := 33) (As := [.int (x2 + (1 : Int32))]) (rest := []) lk_X6_44 ob_33 e_X6_read_62 (m_X8_at G (x2 + (1 : Int32)) σ _ _ e13) (by decide) rfl (Nat.le_of_ble_eq_true rfl) ?_
    refine z_istore e_X6_read_65 (by decide) [(5, .int q12), (0, .ref (zad G 57)), (1, .ref (zad G 33)), (2, .int x2), (3, .int x3), (4, .int x4)] rfl ?_
    refine z_iload e_X6_read_67 0 rfl ?_
    obtain ⟨q15, s14, e16, h⟩ := bd_e h
    refine z_callSi (As := [.int q12]) (rest := []) lk_X6_50 e_X6_read_69 (m_X6_isPlaceSign G q12 s11 _ _ e16) (by decide) rfl (Nat.le_of_ble_eq_true rfl) ?_
    refine z_if_ne e_X6_read_72 h (fun c17 h => ?_) (fun c17 h => ?_)
    · exact z_sub [3] rfl (p_X6_read_75 hR x2 s14 h)
    · refine z_aload e_X6_read_83 1 rfl ?_
      refine z_getr gf_X6_9_57 e_X6_read_84 ?_
      refine z_aload e_X6_read_87 1 rfl ?_
      refine z_geti gf_X6_40_57 e_X6_read_88 ?_
      refine z_iload e_X6_read_91 5 rfl ?_
      refine z_ic e_X6_read_93 ?_
      obtain ⟨v21, ev21, h⟩ := nm_i h
      have jv21 : zAW G 2 RX6 cX6_read 6 C 108 [(0, .ref (zad G 57)), (1, .ref (zad G 33)), (2, .int x2), (3, .int x3), (5, .int q12)] [.int v21, .int (s14.1 57 5), .ref (zad G 58)] s14 := by
        refine z_iast sh_58 e_X6_read_108 h (fun s22 h => ?_)
        refine z_aload e_X6_read_109 0 rfl ?_
        refine z_getr gf_X6_15_57 e_X6_read_110 ?_
        refine z_aload e_X6_read_113 0 rfl ?_
        refine z_geti gf_X6_40_57 e_X6_read_114 ?_
        refine z_iload e_X6_read_117 4 rfl ?_
        refine z_ic e_X6_read_119 ?_
        refine z_isub e_X6_read_121 ?_
        refine z_iast sh_59 e_X6_read_122 h (fun s23 h => ?_)
        refine z_aload e_X6_read_123 0 rfl ?_
        refine z_dup e_X6_read_124 rfl ?_
        refine z_geti gf_X6_40_57 e_X6_read_125 ?_
        refine z_ic e_X6_read_128 ?_
        refine z_iadd e_X6_read_129 ?_
        refine z_puti pf_X6_40_57 e_X6_read_130 h (fun s24 h => ?_)
        refine z_iinc e_X6_read_133 2 rfl (by decide) (by decide) h (fun y => [(2, .int y), (0, .ref (zad G 57)), (1, .ref (zad G 33)), (3, .int x3), (5, .int q12)]) (fun _ => rfl) (fun v25 h => ?_)
        refine z_iload e_X6_read_136 0 rfl ?_
        refine z_aload e_X6_read_137 2 rfl ?_
        refine z_geti gf_X6_58_33 e_X6_read_138 ?_
        refine z_icmp_ne e_X6_read_141 h (fun c26 h => ?_) (fun c26 h => ?_)
        · refine z_ic e_X6_read_144 ?_
          cases h
          exact z_ireturn hR e_X6_read_145
        · refine z_aload e_X6_read_146 2 rfl ?_
          refine z_iload e_X6_read_147 0 rfl ?_
          obtain ⟨q28, s27, e29, h⟩ := bd_e h
          refine z_callVi (c0 := 33) (As := [.int v25]) (rest := []) lk_X6_44 ob_33 e_X6_read_148 (m_X8_at G v25 s24 _ _ e29) (by decide) rfl (Nat.le_of_ble_eq_true rfl) ?_
          refine z_ic e_X6_read_151 ?_
          refine z_icmp_eq e_X6_read_153 h (fun c30 h => ?_) (fun c30 h => ?_)
          · refine z_iinc e_X6_read_162 0 rfl (by decide) (by decide) h (fun y => [(2, .int y), (0, .ref (zad G 57)), (1, .ref (zad G 33)), (3, .int x3), (5, .int q12)]) (fun _ => rfl) (fun v31 h => ?_)
            refine z_iinc e_X6_read_165 3 rfl (by decide) (by decide) h (fun y => [(3, .int y), (2, .int v31), (0, .ref (zad G 57)), (1, .ref (zad G 33)), (5, .int q12)]) (fun _ => rfl) (fun v32 h => ?_)
            refine z_goto e_X6_read_168 ?_
            exact z_sub [2, 3, 1, 0] rfl (hw9 v31 v32 s27 h)
          · exact z_sub [0] rfl (p_X6_read_156 hR v25 s27 h)
      refine y_icmp_ne e_X6_read_95 (fun c36 => ?_) (fun c36 => ?_)
      · refine z_ic e_X6_read_98 ?_
        refine z_goto e_X6_read_100 ?_
        rw [if_pos c36] at ev21
        subst ev21
        exact z_sub [1, 2, 3, 4, 0] rfl jv21
      · refine z_iload e_X6_read_103 5 rfl ?_
        refine z_ic e_X6_read_105 ?_
        refine z_isub e_X6_read_107 ?_
        rw [if_neg c36] at ev21
        subst ev21
        exact z_sub [1, 2, 3, 4, 0] rfl jv21
  · exact z_sub [2] rfl (p_X6_read_52 hR x2 σ h)
noncomputable def F_X6_read_37 (x2 : Int32) (σ : zSt) : Option (Int32 × zSt) :=
  bd (F_X11_fault (1 : Int32) x2 σ) (fun q45 s44 =>
    some (q45, s44))
set_option maxHeartbeats 4000000 in
set_option maxRecDepth 100000 in
theorem p_X6_read_37 {G : zG} {C : zC} {r : Int32} {τ : zSt} (hR : zR G C (some .int) (some (.int r)) τ) (x2 : Int32) (σ : zSt) (h : F_X6_read_37 x2 σ = some (r, τ)) : zAW G 2 RX6 cX6_read 6 C 37 [(2, .int x2)] [] σ := by
  unfold F_X6_read_37 at h
  refine z_ic e_X6_read_37 ?_
  refine z_iload e_X6_read_38 0 rfl ?_
  obtain ⟨q45, s44, e46, h⟩ := bd_e h
  refine z_callNi (As := [.int (1 : Int32), .int x2]) (rest := []) lk_X6_54 e_X6_read_39 (m_X11_fault G (1 : Int32) x2 σ _ _ e46) (by decide) rfl (Nat.le_of_ble_eq_true rfl) ?_
  cases h
  exact z_ireturn hR e_X6_read_42
noncomputable def F_X6_read_9 (w9 : (Int32 × Int32 × zSt) → Option (Int32 × zSt)) (x2 : Int32) (x3 : Int32) (σ : zSt) : Option (Int32 × zSt) :=
  if (12 : Int32) < x3 then (
    F_X6_read_171 x2 σ)
  else (
    bd (F_X8_at x2 σ) (fun q7 s6 =>
      if q7 = (46 : Int32) then (
        F_X6_read_43 w9 x2 x3 q7 s6)
      else (
        bd (F_X6_isPlaceSign q7 s6) (fun q41 s40 =>
          if q41 = 0 then (
            F_X6_read_37 x2 s40)
          else (
            F_X6_read_43 w9 x2 x3 q7 s40)))))
set_option maxHeartbeats 4000000 in
set_option maxRecDepth 100000 in
theorem b_X6_read_9 {G : zG} {C : zC} {r : Int32} {τ : zSt} (hR : zR G C (some .int) (some (.int r)) τ) (w9 : (Int32 × Int32 × zSt) → Option (Int32 × zSt)) (hw9 : ∀ (x2 : Int32) (x3 : Int32) (σ : zSt), w9 (x2, x3, σ) = some (r, τ) → zAW G 2 RX6 cX6_read 6 C 9 [(0, .ref (zad G 57)), (1, .ref (zad G 33)), (2, .int x2), (3, .int x3)] [] σ) (x2 : Int32) (x3 : Int32) (σ : zSt) (h : F_X6_read_9 w9 x2 x3 σ = some (r, τ)) : zAW G 2 RX6 cX6_read 6 C 9 [(0, .ref (zad G 57)), (1, .ref (zad G 33)), (2, .int x2), (3, .int x3)] [] σ := by
  unfold F_X6_read_9 at h
  refine z_iload e_X6_read_9 3 rfl ?_
  refine z_ic e_X6_read_10 ?_
  refine z_icmp_gt e_X6_read_12 h (fun c2 h => ?_) (fun c2 h => ?_)
  · exact z_sub [2] rfl (p_X6_read_171 hR x2 σ h)
  · refine z_aload e_X6_read_15 1 rfl ?_
    refine z_iload e_X6_read_16 2 rfl ?_
    obtain ⟨q7, s6, e8, h⟩ := bd_e h
    refine z_callVi (c0 := 33) (As := [.int x2]) (rest := []) lk_X6_44 ob_33 e_X6_read_17 (m_X8_at G x2 σ _ _ e8) (by decide) rfl (Nat.le_of_ble_eq_true rfl) ?_
    refine z_istore e_X6_read_20 (by decide) [(4, .int q7), (0, .ref (zad G 57)), (1, .ref (zad G 33)), (2, .int x2), (3, .int x3)] rfl ?_
    refine z_iload e_X6_read_22 0 rfl ?_
    refine z_ic e_X6_read_24 ?_
    refine z_icmp_eq e_X6_read_26 h (fun c9 h => ?_) (fun c9 h => ?_)
    · exact z_sub [1, 2, 3, 4, 0] rfl (p_X6_read_43 hR w9 x2 x3 q7 hw9 s6 h)
    · refine z_iload e_X6_read_29 0 rfl ?_
      obtain ⟨q41, s40, e42, h⟩ := bd_e h
      refine z_callSi (As := [.int q7]) (rest := []) lk_X6_50 e_X6_read_31 (m_X6_isPlaceSign G q7 s6 _ _ e42) (by decide) rfl (Nat.le_of_ble_eq_true rfl) ?_
      refine z_if_ne e_X6_read_34 h (fun c43 h => ?_) (fun c43 h => ?_)
      · exact z_sub [3] rfl (p_X6_read_37 hR x2 s40 h)
      · exact z_sub [1, 2, 3, 4, 0] rfl (p_X6_read_43 hR w9 x2 x3 q7 hw9 s40 h)
noncomputable def F_X6_read_9L  : ((Int32 × Int32 × zSt) → Option (Int32 × zSt)) → (Int32 × Int32 × zSt) → Option (Int32 × zSt) := fun w s => F_X6_read_9 w s.1 s.2.1 s.2.2
set_option maxRecDepth 100000 in
theorem l_X6_read_9 {G : zG} {C : zC} {r : Int32} {τ : zSt} (hR : zR G C (some .int) (some (.int r)) τ)  : ∀ (N : Nat) (x2 : Int32) (x3 : Int32) (σ : zSt), zfix (F_X6_read_9L ) N (x2, x3, σ) = some (r, τ) → zAW G 2 RX6 cX6_read 6 C 9 [(0, .ref (zad G 57)), (1, .ref (zad G 33)), (2, .int x2), (3, .int x3)] [] σ := by
  intro N
  induction N with
  | zero =>
    intro x2 x3 σ h
    exact nomatch (show (none : Option (Int32 × zSt)) = some (r, τ) from h)
  | succ N ih =>
    intro x2 x3 σ h
    exact b_X6_read_9 hR (zfix (F_X6_read_9L ) N) ih x2 x3 σ h
noncomputable def F_X6_read_0 (σ : zSt) : Option (Int32 × zSt) :=
  nm (zwr σ 57 5 (0 : Int32)) (fun s1 =>
    zfix (F_X6_read_9L ) zlim ((0 : Int32), (0 : Int32), s1))
set_option maxHeartbeats 4000000 in
set_option maxRecDepth 100000 in
theorem p_X6_read_0 {G : zG} {C : zC} {r : Int32} {τ : zSt} (hR : zR G C (some .int) (some (.int r)) τ)  (σ : zSt) (h : F_X6_read_0 σ = some (r, τ)) : zAW G 2 RX6 cX6_read 6 C 0 [(0, .ref (zad G 57)), (1, .ref (zad G 33))] [] σ := by
  unfold F_X6_read_0 at h
  refine z_aload e_X6_read_0 0 rfl ?_
  refine z_ic e_X6_read_1 ?_
  refine z_puti pf_X6_40_57 e_X6_read_2 h (fun s1 h => ?_)
  refine z_ic e_X6_read_5 ?_
  refine z_istore e_X6_read_6 (by decide) [(2, .int (0 : Int32)), (0, .ref (zad G 57)), (1, .ref (zad G 33))] rfl ?_
  refine z_ic e_X6_read_7 ?_
  refine z_istore e_X6_read_8 (by decide) [(3, .int (0 : Int32)), (2, .int (0 : Int32)), (0, .ref (zad G 57)), (1, .ref (zad G 33))] rfl ?_
  exact z_sub [2, 3, 1, 0] rfl (l_X6_read_9 hR  zlim (0 : Int32) (0 : Int32) s1 h)
noncomputable def F_X6_read (σ : zSt) : Option (Int32 × zSt) := F_X6_read_0  σ
set_option maxRecDepth 100000 in
theorem m_X6_read (G : zG) (σ : zSt) (q : Int32) (τ : zSt) (h : F_X6_read  σ = some (q, τ)) : zM G 2 yX6_read cX6_read 6 (some .int) [.ref (zad G 57), .ref (zad G 33)] σ (some (.int q)) τ := by
  unfold F_X6_read at h
  refine zM.of (own := RX6) (by decide +kernel) rfl (Nat.le_of_ble_eq_true rfl) (fun C hR => ?_)
  exact z_sub [0, 1] rfl (p_X6_read_0 hR  σ h)
noncomputable def F_X11_refusedStory_0 (x1 : Int32) (x2 : Int32) (x3 : Int32) (σ : zSt) : Option (Int32 × zSt) :=
  if x1 < (1 : Int32) then (
    some ((-1 : Int32), σ))
  else (
    if (60 : Int32) < x1 then (
      some ((-1 : Int32), σ))
    else (
      bd (F_X8_take x1 σ) (fun q4 s3 =>
        if q4 = 0 then (
          some ((-1 : Int32), s3))
        else (
          if (s3.1 1 9) ≤ (9987 : Int32) then (
            bd (F_X6_read s3) (fun q9 s8 =>
              if q9 = 0 then (
                nm (if x2 ≤ 0 then (0 : Int32) else (if (x2 &&& ((s8.1 1 6) ^^^ (-1 : Int32))) = 0 then (1 : Int32) else (0 : Int32))) (fun v12 =>
                  if x3 = 0 then (
                    some ((-3 : Int32), s8))
                  else (
                    if v12 = 0 then (
                      some ((-3 : Int32), s8))
                    else (
                      some ((0 : Int32), s8)))))
              else (
                some (q9, s8))))
          else (
            some ((-1 : Int32), s3))))))
set_option maxHeartbeats 4000000 in
set_option maxRecDepth 100000 in
theorem p_X11_refusedStory_0 {G : zG} {C : zC} {r : Int32} {τ : zSt} (hR : zR G C (some .int) (some (.int r)) τ) (x1 : Int32) (x2 : Int32) (x3 : Int32) (σ : zSt) (h : F_X11_refusedStory_0 x1 x2 x3 σ = some (r, τ)) : zAW G 3 RX11 cX11_refusedStory 6 C 0 [(0, .ref (zad G 0)), (1, .int x1), (2, .int x2), (3, .int x3)] [] σ := by
  unfold F_X11_refusedStory_0 at h
  refine z_iload e_X11_refusedStory_0 1 rfl ?_
  refine z_ic e_X11_refusedStory_1 ?_
  refine z_icmp_lt e_X11_refusedStory_2 h (fun c1 h => ?_) (fun c1 h => ?_)
  · refine z_ic e_X11_refusedStory_22 ?_
    cases h
    exact z_ireturn hR e_X11_refusedStory_23
  · refine z_iload e_X11_refusedStory_5 1 rfl ?_
    refine z_ic e_X11_refusedStory_6 ?_
    refine z_icmp_gt e_X11_refusedStory_8 h (fun c2 h => ?_) (fun c2 h => ?_)
    · refine z_ic e_X11_refusedStory_22 ?_
      cases h
      exact z_ireturn hR e_X11_refusedStory_23
    · refine z_aload e_X11_refusedStory_11 0 rfl ?_
      refine z_getr gf_X11_39_0 e_X11_refusedStory_12 ?_
      refine z_iload e_X11_refusedStory_15 1 rfl ?_
      obtain ⟨q4, s3, e5, h⟩ := bd_e h
      refine z_callVi (c0 := 33) (As := [.int x1]) (rest := []) lk_X11_143 ob_33 e_X11_refusedStory_16 (m_X8_take G x1 σ _ _ e5) (by decide) rfl (Nat.le_of_ble_eq_true rfl) ?_
      refine z_if_ne e_X11_refusedStory_19 h (fun c6 h => ?_) (fun c6 h => ?_)
      · refine z_ic e_X11_refusedStory_22 ?_
        cases h
        exact z_ireturn hR e_X11_refusedStory_23
      · refine z_aload e_X11_refusedStory_24 0 rfl ?_
        refine z_getr gf_X11_23_0 e_X11_refusedStory_25 ?_
        refine z_geti gf_X11_201_1 e_X11_refusedStory_28 ?_
        refine z_ic e_X11_refusedStory_31 ?_
        refine z_icmp_le e_X11_refusedStory_34 h (fun c7 h => ?_) (fun c7 h => ?_)
        · refine z_aload e_X11_refusedStory_39 0 rfl ?_
          refine z_getr gf_X11_79_0 e_X11_refusedStory_40 ?_
          refine z_aload e_X11_refusedStory_43 0 rfl ?_
          refine z_getr gf_X11_39_0 e_X11_refusedStory_44 ?_
          obtain ⟨q9, s8, e10, h⟩ := bd_e h
          refine z_callVi (c0 := 57) (As := [.ref (zad G 33)]) (rest := []) lk_X11_290 ob_57 e_X11_refusedStory_47 (m_X6_read G s3 _ _ e10) (by decide) rfl (Nat.le_of_ble_eq_true rfl) ?_
          refine z_istore e_X11_refusedStory_50 (by decide) [(4, .int q9), (0, .ref (zad G 0)), (1, .int x1), (2, .int x2), (3, .int x3)] rfl ?_
          refine z_iload e_X11_refusedStory_52 0 rfl ?_
          refine z_if_eq e_X11_refusedStory_54 h (fun c11 h => ?_) (fun c11 h => ?_)
          · refine z_iload e_X11_refusedStory_60 3 rfl ?_
            obtain ⟨v12, ev12, h⟩ := nm_i h
            have jv12 : zAW G 3 RX11 cX11_refusedStory 6 C 83 [(3, .int x3)] [.int v12] s8 := by
              refine z_istore e_X11_refusedStory_83 (by decide) [(5, .int v12), (3, .int x3)] rfl ?_
              refine z_iload e_X11_refusedStory_85 1 rfl ?_
              refine z_if_eq e_X11_refusedStory_86 h (fun c13 h => ?_) (fun c13 h => ?_)
              · refine z_ic e_X11_refusedStory_98 ?_
                cases h
                exact z_ireturn hR e_X11_refusedStory_100
              · refine z_iload e_X11_refusedStory_89 0 rfl ?_
                refine z_if_eq e_X11_refusedStory_91 h (fun c14 h => ?_) (fun c14 h => ?_)
                · refine z_ic e_X11_refusedStory_98 ?_
                  cases h
                  exact z_ireturn hR e_X11_refusedStory_100
                · refine z_ic e_X11_refusedStory_94 ?_
                  refine z_goto e_X11_refusedStory_95 ?_
                  cases h
                  exact z_ireturn hR e_X11_refusedStory_100
            refine y_if_le e_X11_refusedStory_61 (fun c15 => ?_) (fun c15 => ?_)
            · refine z_ic e_X11_refusedStory_82 ?_
              rw [if_pos c15] at ev12
              subst ev12
              exact z_sub [4] rfl jv12
            · refine z_iload e_X11_refusedStory_64 3 rfl ?_
              refine z_aload e_X11_refusedStory_65 1 rfl ?_
              refine z_getr gf_X11_23_0 e_X11_refusedStory_66 ?_
              refine z_geti gf_X11_272_1 e_X11_refusedStory_69 ?_
              refine z_ic e_X11_refusedStory_72 ?_
              refine z_ixor e_X11_refusedStory_73 ?_
              refine z_iand e_X11_refusedStory_74 ?_
              refine y_if_ne e_X11_refusedStory_75 (fun c16 => ?_) (fun c16 => ?_)
              · refine z_ic e_X11_refusedStory_78 ?_
                refine z_goto e_X11_refusedStory_79 ?_
                rw [if_neg c15, if_pos c16] at ev12
                subst ev12
                exact z_sub [4] rfl jv12
              · refine z_ic e_X11_refusedStory_82 ?_
                rw [if_neg c15, if_neg c16] at ev12
                subst ev12
                exact z_sub [4] rfl jv12
          · refine z_iload e_X11_refusedStory_57 0 rfl ?_
            cases h
            exact z_ireturn hR e_X11_refusedStory_59
        · refine z_ic e_X11_refusedStory_37 ?_
          cases h
          exact z_ireturn hR e_X11_refusedStory_38
noncomputable def F_X11_refusedStory (x1 : Int32) (x2 : Int32) (x3 : Int32) (σ : zSt) : Option (Int32 × zSt) := F_X11_refusedStory_0 x1 x2 x3 σ
set_option maxRecDepth 100000 in
theorem m_X11_refusedStory (G : zG) (x1 : Int32) (x2 : Int32) (x3 : Int32) (σ : zSt) (q : Int32) (τ : zSt) (h : F_X11_refusedStory x1 x2 x3 σ = some (q, τ)) : zM G 3 yX11_refusedStory cX11_refusedStory 6 (some .int) [.ref (zad G 0), .int x1, .int x2, .int x3] σ (some (.int q)) τ := by
  unfold F_X11_refusedStory at h
  refine zM.of (own := RX11) (by decide +kernel) rfl (Nat.le_of_ble_eq_true rfl) (fun C hR => ?_)
  exact z_sub [0, 1, 2, 3] rfl (p_X11_refusedStory_0 hR x1 x2 x3 σ h)
noncomputable def F_X6_draws_0 (σ : zSt) : Option (Int32 × zSt) :=
  if (σ.1 8 8) = 0 then (
    some ((1 : Int32), σ))
  else (
    some ((10 : Int32), σ))
set_option maxHeartbeats 4000000 in
set_option maxRecDepth 100000 in
theorem p_X6_draws_0 {G : zG} {C : zC} {r : Int32} {τ : zSt} (hR : zR G C (some .int) (some (.int r)) τ)  (σ : zSt) (h : F_X6_draws_0 σ = some (r, τ)) : zAW G 1 RX6 cX6_draws 1 C 0 [(0, .ref (zad G 57))] [] σ := by
  unfold F_X6_draws_0 at h
  refine z_aload e_X6_draws_0 0 rfl ?_
  refine z_getr gf_X6_32_57 e_X6_draws_1 ?_
  refine z_geti gf_X6_81_8 e_X6_draws_4 ?_
  refine z_if_eq e_X6_draws_7 h (fun c1 h => ?_) (fun c1 h => ?_)
  · refine z_ic e_X6_draws_15 ?_
    cases h
    exact z_ireturn hR e_X6_draws_16
  · refine z_ic e_X6_draws_10 ?_
    refine z_goto e_X6_draws_12 ?_
    cases h
    exact z_ireturn hR e_X6_draws_16
noncomputable def F_X6_draws (σ : zSt) : Option (Int32 × zSt) := F_X6_draws_0  σ
set_option maxRecDepth 100000 in
theorem m_X6_draws (G : zG) (σ : zSt) (q : Int32) (τ : zSt) (h : F_X6_draws  σ = some (q, τ)) : zM G 1 yX6_draws cX6_draws 1 (some .int) [.ref (zad G 57)] σ (some (.int q)) τ := by
  unfold F_X6_draws at h
  refine zM.of (own := RX6) (by decide +kernel) rfl (Nat.le_of_ble_eq_true rfl) (fun C hR => ?_)
  exact z_sub [0] rfl (p_X6_draws_0 hR  σ h)
noncomputable def F_X3_turnTo_0 (x1 : Int32) (x2 : Int32) (σ : zSt) : Option (Unit × zSt) :=
  nm (zwr σ 24 4 x1) (fun s1 =>
    nm (zwr s1 24 5 x2) (fun s2 =>
      some ((), s2)))
set_option maxHeartbeats 4000000 in
set_option maxRecDepth 100000 in
theorem p_X3_turnTo_0 {G : zG} {C : zC} {r : Unit} {τ : zSt} (hR : zR G C none none τ) (x1 : Int32) (x2 : Int32) (σ : zSt) (h : F_X3_turnTo_0 x1 x2 σ = some (r, τ)) : zAW G 1 RX3 cX3_turnTo 3 C 0 [(0, .ref (zad G 24)), (1, .int x1), (2, .int x2)] [] σ := by
  unfold F_X3_turnTo_0 at h
  refine z_aload e_X3_turnTo_0 0 rfl ?_
  refine z_iload e_X3_turnTo_1 1 rfl ?_
  refine z_puti pf_X3_33_24 e_X3_turnTo_2 h (fun s1 h => ?_)
  refine z_aload e_X3_turnTo_5 0 rfl ?_
  refine z_iload e_X3_turnTo_6 2 rfl ?_
  refine z_puti pf_X3_37_24 e_X3_turnTo_7 h (fun s2 h => ?_)
  cases h
  exact z_vreturn hR e_X3_turnTo_10
noncomputable def F_X3_turnTo (x1 : Int32) (x2 : Int32) (σ : zSt) : Option (Unit × zSt) := F_X3_turnTo_0 x1 x2 σ
set_option maxRecDepth 100000 in
theorem m_X3_turnTo (G : zG) (x1 : Int32) (x2 : Int32) (σ : zSt) (q : Unit) (τ : zSt) (h : F_X3_turnTo x1 x2 σ = some (q, τ)) : zM G 1 yX3_turnTo cX3_turnTo 3 none [.ref (zad G 24), .int x1, .int x2] σ none τ := by
  unfold F_X3_turnTo at h
  refine zM.of (own := RX3) (by decide +kernel) rfl (Nat.le_of_ble_eq_true rfl) (fun C hR => ?_)
  exact z_sub [0, 1, 2] rfl (p_X3_turnTo_0 hR x1 x2 σ h)
noncomputable def F_X6_turnTo_41 (t0 : Int32) (t1 : Int32) (σ : zSt) : Option (Unit × zSt) :=
  bd (F_X3_turnTo t1 t0 σ) (fun _ s2 =>
    some ((), s2))
set_option maxHeartbeats 4000000 in
set_option maxRecDepth 100000 in
theorem p_X6_turnTo_41 {G : zG} {C : zC} {r : Unit} {τ : zSt} (hR : zR G C none none τ) (t0 : Int32) (t1 : Int32) (σ : zSt) (h : F_X6_turnTo_41 t0 t1 σ = some (r, τ)) : zAW G 2 RX6 cX6_turnTo 2 C 41 [] [.int t0, .int t1, .ref (zad G 24)] σ := by
  unfold F_X6_turnTo_41 at h
  obtain ⟨q3, s2, e4, h⟩ := bd_e h
  refine z_callVv (c0 := 24) (As := [.int t1, .int t0]) (rest := []) lk_X6_120 ob_24 e_X6_turnTo_41 (m_X3_turnTo G t1 t0 σ _ _ e4) (by decide) rfl (Nat.le_of_ble_eq_true rfl) ?_
  cases h
  exact z_vreturn hR e_X6_turnTo_44
noncomputable def F_X6_turnTo_34 (t0 : Int32) (σ : zSt) : Option (Unit × zSt) :=
  F_X6_turnTo_41 (σ.1 1 11) t0 σ
set_option maxHeartbeats 4000000 in
set_option maxRecDepth 100000 in
theorem p_X6_turnTo_34 {G : zG} {C : zC} {r : Unit} {τ : zSt} (hR : zR G C none none τ) (t0 : Int32) (σ : zSt) (h : F_X6_turnTo_34 t0 σ = some (r, τ)) : zAW G 2 RX6 cX6_turnTo 2 C 34 [(0, .ref (zad G 57))] [.int t0, .ref (zad G 24)] σ := by
  unfold F_X6_turnTo_34 at h
  refine z_aload e_X6_turnTo_34 0 rfl ?_
  refine z_getr gf_X6_28_57 e_X6_turnTo_35 ?_
  refine z_geti gf_X6_119_1 e_X6_turnTo_38 ?_
  exact z_sub [] rfl (p_X6_turnTo_41 hR (σ.1 1 11) t0 σ h)
noncomputable def F_X6_turnTo_0 (x1 : Int32) (σ : zSt) : Option (Unit × zSt) :=
  if x1 ≤ 0 then (
    F_X6_turnTo_34 ((σ.1 1 9) + x1) σ)
  else (
    if (12 : Int32) < x1 then (
      F_X6_turnTo_34 ((σ.1 1 9) + x1) σ)
    else (
      gd (vp_in (x1 - (1 : Int32)) 12) (
        F_X6_turnTo_41 (σ.1 59 (x1 - (1 : Int32)).toNatClampNeg) ((σ.1 1 9) + x1) σ)))
set_option maxHeartbeats 4000000 in
set_option maxRecDepth 100000 in
theorem p_X6_turnTo_0 {G : zG} {C : zC} {r : Unit} {τ : zSt} (hR : zR G C none none τ) (x1 : Int32) (σ : zSt) (h : F_X6_turnTo_0 x1 σ = some (r, τ)) : zAW G 2 RX6 cX6_turnTo 2 C 0 [(0, .ref (zad G 57)), (1, .int x1)] [] σ := by
  unfold F_X6_turnTo_0 at h
  refine z_aload e_X6_turnTo_0 0 rfl ?_
  refine z_getr gf_X6_36_57 e_X6_turnTo_1 ?_
  refine z_aload e_X6_turnTo_4 0 rfl ?_
  refine z_getr gf_X6_28_57 e_X6_turnTo_5 ?_
  refine z_geti gf_X6_114_1 e_X6_turnTo_8 ?_
  refine z_iload e_X6_turnTo_11 1 rfl ?_
  refine z_iadd e_X6_turnTo_12 ?_
  refine z_iload e_X6_turnTo_13 1 rfl ?_
  refine z_if_le e_X6_turnTo_14 h (fun c1 h => ?_) (fun c1 h => ?_)
  · exact z_sub [0] rfl (p_X6_turnTo_34 hR ((σ.1 1 9) + x1) σ h)
  · refine z_iload e_X6_turnTo_17 1 rfl ?_
    refine z_ic e_X6_turnTo_18 ?_
    refine z_icmp_gt e_X6_turnTo_20 h (fun c5 h => ?_) (fun c5 h => ?_)
    · exact z_sub [0] rfl (p_X6_turnTo_34 hR ((σ.1 1 9) + x1) σ h)
    · refine z_aload e_X6_turnTo_23 0 rfl ?_
      refine z_getr gf_X6_15_57 e_X6_turnTo_24 ?_
      refine z_iload e_X6_turnTo_27 1 rfl ?_
      refine z_ic e_X6_turnTo_28 ?_
      refine z_isub e_X6_turnTo_29 ?_
      refine z_iald sh_59 e_X6_turnTo_30 h (fun h => ?_)
      refine z_goto e_X6_turnTo_31 ?_
      exact z_sub [] rfl (p_X6_turnTo_41 hR (σ.1 59 (x1 - (1 : Int32)).toNatClampNeg) ((σ.1 1 9) + x1) σ h)
noncomputable def F_X6_turnTo (x1 : Int32) (σ : zSt) : Option (Unit × zSt) := F_X6_turnTo_0 x1 σ
set_option maxRecDepth 100000 in
theorem m_X6_turnTo (G : zG) (x1 : Int32) (σ : zSt) (q : Unit) (τ : zSt) (h : F_X6_turnTo x1 σ = some (q, τ)) : zM G 2 yX6_turnTo cX6_turnTo 2 none [.ref (zad G 57), .int x1] σ none τ := by
  unfold F_X6_turnTo at h
  refine zM.of (own := RX6) (by decide +kernel) rfl (Nat.le_of_ble_eq_true rfl) (fun C hR => ?_)
  exact z_sub [0, 1] rfl (p_X6_turnTo_0 hR x1 σ h)
noncomputable def F_X6_weighNight_134 (σ : zSt) : Option (Unit × zSt) :=
  nm (zrowL σ 60 (va_cpy (σ.2 61) (σ.2 60) 0 0 8)) (fun s3 =>
    some ((), s3))
set_option maxHeartbeats 4000000 in
set_option maxRecDepth 100000 in
theorem p_X6_weighNight_134 {G : zG} {C : zC} {r : Unit} {τ : zSt} (hR : zR G C none none τ)  (σ : zSt) (h : F_X6_weighNight_134 σ = some (r, τ)) : zAW G 5 RX6 cX6_weighNight 4 C 134 [(0, .ref (zad G 57))] [] σ := by
  unfold F_X6_weighNight_134 at h
  refine z_aload e_X6_weighNight_134 0 rfl ?_
  refine z_getr gf_X6_22_57 e_X6_weighNight_135 ?_
  refine z_ic e_X6_weighNight_138 ?_
  refine z_aload e_X6_weighNight_139 0 rfl ?_
  refine z_getr gf_X6_18_57 e_X6_weighNight_140 ?_
  refine z_ic e_X6_weighNight_143 ?_
  refine z_ic e_X6_weighNight_144 ?_
  refine z_copyl ac_X6_108 sh_61 sh_60 ⟨by decide, rfl⟩ ⟨by decide, by decide⟩ (by decide) e_X6_weighNight_146 h (fun s3 h => ?_)
  cases h
  exact z_vreturn hR e_X6_weighNight_149
noncomputable def F_X6_weighNight_128 (w23 : (Int32 × zSt) → Option (Unit × zSt)) (x1 : Int32) (x2 : Int32) (σ : zSt) : Option (Unit × zSt) :=
  nm (x2 + (1 : Int32)) (fun v8 =>
    w23 (v8, σ))
set_option maxHeartbeats 4000000 in
set_option maxRecDepth 100000 in
theorem p_X6_weighNight_128 {G : zG} {C : zC} {r : Unit} {τ : zSt} (hR : zR G C none none τ) (w23 : (Int32 × zSt) → Option (Unit × zSt)) (x1 : Int32) (x2 : Int32) (hw23 : ∀ (x2 : Int32) (σ : zSt), w23 (x2, σ) = some (r, τ) → zAW G 5 RX6 cX6_weighNight 4 C 23 [(0, .ref (zad G 57)), (1, .int x1), (2, .int x2)] [] σ) (σ : zSt) (h : F_X6_weighNight_128 w23 x1 x2 σ = some (r, τ)) : zAW G 5 RX6 cX6_weighNight 4 C 128 [(0, .ref (zad G 57)), (1, .int x1), (2, .int x2)] [] σ := by
  unfold F_X6_weighNight_128 at h
  refine z_iinc e_X6_weighNight_128 2 rfl (by decide) (by decide) h (fun y => [(2, .int y), (0, .ref (zad G 57)), (1, .int x1)]) (fun _ => rfl) (fun v8 h => ?_)
  refine z_goto e_X6_weighNight_131 ?_
  exact z_sub [1, 2, 0] rfl (hw23 v8 σ h)
noncomputable def F_X6_weighNight_122 (w23 : (Int32 × zSt) → Option (Unit × zSt)) (w31 : (Int32 × zSt) → Option (Unit × zSt)) (x1 : Int32) (x2 : Int32) (x3 : Int32) (σ : zSt) : Option (Unit × zSt) :=
  nm (x3 + (1 : Int32)) (fun v21 =>
    w31 (v21, σ))
set_option maxHeartbeats 4000000 in
set_option maxRecDepth 100000 in
theorem p_X6_weighNight_122 {G : zG} {C : zC} {r : Unit} {τ : zSt} (hR : zR G C none none τ) (w23 : (Int32 × zSt) → Option (Unit × zSt)) (w31 : (Int32 × zSt) → Option (Unit × zSt)) (x1 : Int32) (x2 : Int32) (x3 : Int32) (hw23 : ∀ (x2 : Int32) (σ : zSt), w23 (x2, σ) = some (r, τ) → zAW G 5 RX6 cX6_weighNight 4 C 23 [(0, .ref (zad G 57)), (1, .int x1), (2, .int x2)] [] σ) (hw31 : ∀ (x3 : Int32) (σ : zSt), w31 (x3, σ) = some (r, τ) → zAW G 5 RX6 cX6_weighNight 4 C 31 [(0, .ref (zad G 57)), (1, .int x1), (2, .int x2), (3, .int x3)] [] σ) (σ : zSt) (h : F_X6_weighNight_122 w23 w31 x1 x2 x3 σ = some (r, τ)) : zAW G 5 RX6 cX6_weighNight 4 C 122 [(0, .ref (zad G 57)), (1, .int x1), (2, .int x2), (3, .int x3)] [] σ := by
  unfold F_X6_weighNight_122 at h
  refine z_iinc e_X6_weighNight_122 3 rfl (by decide) (by decide) h (fun y => [(3, .int y), (0, .ref (zad G 57)), (1, .int x1), (2, .int x2)]) (fun _ => rfl) (fun v21 h => ?_)
  refine z_goto e_X6_weighNight_125 ?_
  exact z_sub [1, 2, 3, 0] rfl (hw31 v21 σ h)
noncomputable def F_X6_weighNight_31 (w23 : (Int32 × zSt) → Option (Unit × zSt)) (x1 : Int32) (x2 : Int32) (w31 : (Int32 × zSt) → Option (Unit × zSt)) (x3 : Int32) (σ : zSt) : Option (Unit × zSt) :=
  bd (F_X6_draws σ) (fun q5 s4 =>
    if q5 ≤ x3 then (
      F_X6_weighNight_128 w23 x1 x2 s4)
    else (
      gd (vp_in x2 8) (
        if (lg_cmp (s4.2 60 x2.toNatClampNeg) (0 : Int64)) ≤ 0 then (
          F_X6_weighNight_128 w23 x1 x2 s4)
        else (
          bd (F_X6_turnTo x1 s4) (fun _ s10 =>
            gd (vp_in x1 12) (
              bd (F_X3_passFrom x2 (s10.1 58 x1.toNatClampNeg) x3 s10) (fun _ s13 =>
                gd (vp_in x1 12) (
                  if (s13.1 24 5) = (s13.1 59 x1.toNatClampNeg) then (
                    bd (F_X11_isBelow (s13.1 24 3) (8 : Int32) s13) (fun q18 s17 =>
                      if q18 = 0 then (
                        F_X6_weighNight_122 w23 w31 x1 x2 x3 s17)
                      else (
                        gd (vp_in (s17.1 24 3) 8) (
                          gd (vp_in x2 8) (
                            gd (vp_in (s17.1 24 3) 8) (nm (zwrL s17 61 (s17.1 24 3).toNatClampNeg ((s17.2 61 (s17.1 24 3).toNatClampNeg) + (s17.2 60 x2.toNatClampNeg))) (fun s22 =>
                              F_X6_weighNight_122 w23 w31 x1 x2 x3 s22)))))))
                  else (
                    F_X6_weighNight_122 w23 w31 x1 x2 x3 s13)))))))))
set_option maxHeartbeats 4000000 in
set_option maxRecDepth 100000 in
theorem b_X6_weighNight_31 {G : zG} {C : zC} {r : Unit} {τ : zSt} (hR : zR G C none none τ) (w23 : (Int32 × zSt) → Option (Unit × zSt)) (x1 : Int32) (x2 : Int32) (hw23 : ∀ (x2 : Int32) (σ : zSt), w23 (x2, σ) = some (r, τ) → zAW G 5 RX6 cX6_weighNight 4 C 23 [(0, .ref (zad G 57)), (1, .int x1), (2, .int x2)] [] σ) (w31 : (Int32 × zSt) → Option (Unit × zSt)) (hw31 : ∀ (x3 : Int32) (σ : zSt), w31 (x3, σ) = some (r, τ) → zAW G 5 RX6 cX6_weighNight 4 C 31 [(0, .ref (zad G 57)), (1, .int x1), (2, .int x2), (3, .int x3)] [] σ) (x3 : Int32) (σ : zSt) (h : F_X6_weighNight_31 w23 x1 x2 w31 x3 σ = some (r, τ)) : zAW G 5 RX6 cX6_weighNight 4 C 31 [(0, .ref (zad G 57)), (1, .int x1), (2, .int x2), (3, .int x3)] [] σ := by
  unfold F_X6_weighNight_31 at h
  refine z_iload e_X6_weighNight_31 3 rfl ?_
  refine z_aload e_X6_weighNight_32 0 rfl ?_
  obtain ⟨q5, s4, e6, h⟩ := bd_e h
  refine z_callVi (c0 := 57) (As := []) (rest := [.int x3]) lk_X6_91 ob_57 e_X6_weighNight_33 (m_X6_draws G σ _ _ e6) (by decide) rfl (Nat.le_of_ble_eq_true rfl) ?_
  refine z_icmp_ge e_X6_weighNight_36 h (fun c7 h => ?_) (fun c7 h => ?_)
  · exact z_sub [0, 1, 2] rfl (p_X6_weighNight_128 hR w23 x1 x2 hw23 s4 h)
  · refine z_aload e_X6_weighNight_39 0 rfl ?_
    refine z_getr gf_X6_18_57 e_X6_weighNight_40 ?_
    refine z_iload e_X6_weighNight_43 2 rfl ?_
    refine z_lald sh_60 e_X6_weighNight_44 h (fun h => ?_)
    refine z_lconst 0 e_X6_weighNight_45 rfl ?_
    refine z_lcmp e_X6_weighNight_46 ?_
    refine z_if_le e_X6_weighNight_47 h (fun c9 h => ?_) (fun c9 h => ?_)
    · exact z_sub [0, 1, 2] rfl (p_X6_weighNight_128 hR w23 x1 x2 hw23 s4 h)
    · refine z_aload e_X6_weighNight_50 0 rfl ?_
      refine z_iload e_X6_weighNight_51 1 rfl ?_
      obtain ⟨q11, s10, e12, h⟩ := bd_e h
      refine z_callVv (c0 := 57) (As := [.int x1]) (rest := []) lk_X6_94 ob_57 e_X6_weighNight_52 (m_X6_turnTo G x1 s4 _ _ e12) (by decide) rfl (Nat.le_of_ble_eq_true rfl) ?_
      refine z_aload e_X6_weighNight_55 0 rfl ?_
      refine z_getr gf_X6_36_57 e_X6_weighNight_56 ?_
      refine z_iload e_X6_weighNight_59 2 rfl ?_
      refine z_aload e_X6_weighNight_60 0 rfl ?_
      refine z_getr gf_X6_9_57 e_X6_weighNight_61 ?_
      refine z_iload e_X6_weighNight_64 1 rfl ?_
      refine z_iald sh_58 e_X6_weighNight_65 h (fun h => ?_)
      refine z_iload e_X6_weighNight_66 3 rfl ?_
      obtain ⟨q14, s13, e15, h⟩ := bd_e h
      refine z_callVv (c0 := 24) (As := [.int x2, .int (s10.1 58 x1.toNatClampNeg), .int x3]) (rest := []) lk_X6_97 ob_24 e_X6_weighNight_67 (m_X3_passFrom G x2 (s10.1 58 x1.toNatClampNeg) x3 s10 _ _ e15) (by decide) rfl (Nat.le_of_ble_eq_true rfl) ?_
      refine z_aload e_X6_weighNight_70 0 rfl ?_
      refine z_getr gf_X6_36_57 e_X6_weighNight_71 ?_
      refine z_geti gf_X6_103_24 e_X6_weighNight_74 ?_
      refine z_aload e_X6_weighNight_77 0 rfl ?_
      refine z_getr gf_X6_15_57 e_X6_weighNight_78 ?_
      refine z_iload e_X6_weighNight_81 1 rfl ?_
      refine z_iald sh_59 e_X6_weighNight_82 h (fun h => ?_)
      refine z_icmp_ne e_X6_weighNight_83 h (fun c16 h => ?_) (fun c16 h => ?_)
      · refine z_aload e_X6_weighNight_86 0 rfl ?_
        refine z_getr gf_X6_36_57 e_X6_weighNight_87 ?_
        refine z_geti gf_X6_105_24 e_X6_weighNight_90 ?_
        refine z_ic e_X6_weighNight_93 ?_
        obtain ⟨q18, s17, e19, h⟩ := bd_e h
        refine z_callNi (As := [.int (s13.1 24 3), .int (8 : Int32)]) (rest := []) lk_X6_71 e_X6_weighNight_95 (m_X11_isBelow G (s13.1 24 3) (8 : Int32) s13 _ _ e19) (by decide) rfl (Nat.le_of_ble_eq_true rfl) ?_
        refine z_if_eq e_X6_weighNight_98 h (fun c20 h => ?_) (fun c20 h => ?_)
        · exact z_sub [0, 1, 2, 3] rfl (p_X6_weighNight_122 hR w23 w31 x1 x2 x3 hw23 hw31 s17 h)
        · refine z_aload e_X6_weighNight_101 0 rfl ?_
          refine z_getr gf_X6_22_57 e_X6_weighNight_102 ?_
          refine z_aload e_X6_weighNight_105 0 rfl ?_
          refine z_getr gf_X6_36_57 e_X6_weighNight_106 ?_
          refine z_geti gf_X6_105_24 e_X6_weighNight_109 ?_
          refine z_dup2 e_X6_weighNight_112 rfl rfl ?_
          refine z_lald sh_61 e_X6_weighNight_113 h (fun h => ?_)
          refine z_aload e_X6_weighNight_114 0 rfl ?_
          refine z_getr gf_X6_18_57 e_X6_weighNight_115 ?_
          refine z_iload e_X6_weighNight_118 2 rfl ?_
          refine z_lald sh_60 e_X6_weighNight_119 h (fun h => ?_)
          refine z_ladd e_X6_weighNight_120 ?_
          refine z_last sh_61 e_X6_weighNight_121 h (fun s22 h => ?_)
          exact z_sub [0, 1, 2, 3] rfl (p_X6_weighNight_122 hR w23 w31 x1 x2 x3 hw23 hw31 s22 h)
      · exact z_sub [0, 1, 2, 3] rfl (p_X6_weighNight_122 hR w23 w31 x1 x2 x3 hw23 hw31 s13 h)
noncomputable def F_X6_weighNight_31L (w23 : (Int32 × zSt) → Option (Unit × zSt)) (x1 : Int32) (x2 : Int32) : ((Int32 × zSt) → Option (Unit × zSt)) → (Int32 × zSt) → Option (Unit × zSt) := fun w s => F_X6_weighNight_31 w23 x1 x2 w s.1 s.2
set_option maxRecDepth 100000 in
theorem l_X6_weighNight_31 {G : zG} {C : zC} {r : Unit} {τ : zSt} (hR : zR G C none none τ) (w23 : (Int32 × zSt) → Option (Unit × zSt)) (x1 : Int32) (x2 : Int32) (hw23 : ∀ (x2 : Int32) (σ : zSt), w23 (x2, σ) = some (r, τ) → zAW G 5 RX6 cX6_weighNight 4 C 23 [(0, .ref (zad G 57)), (1, .int x1), (2, .int x2)] [] σ) : ∀ (N : Nat) (x3 : Int32) (σ : zSt), zfix (F_X6_weighNight_31L w23 x1 x2) N (x3, σ) = some (r, τ) → zAW G 5 RX6 cX6_weighNight 4 C 31 [(0, .ref (zad G 57)), (1, .int x1), (2, .int x2), (3, .int x3)] [] σ := by
  intro N
  induction N with
  | zero =>
    intro x3 σ h
    exact nomatch (show (none : Option (Unit × zSt)) = some (r, τ) from h)
  | succ N ih =>
    intro x3 σ h
    exact b_X6_weighNight_31 hR w23 x1 x2 hw23 (zfix (F_X6_weighNight_31L w23 x1 x2) N) ih x3 σ h
noncomputable def F_X6_weighNight_23 (x1 : Int32) (w23 : (Int32 × zSt) → Option (Unit × zSt)) (x2 : Int32) (σ : zSt) : Option (Unit × zSt) :=
  if (8 : Int32) ≤ x2 then (
    F_X6_weighNight_134  σ)
  else (
    zfix (F_X6_weighNight_31L w23 x1 x2) zlim ((0 : Int32), σ))
set_option maxHeartbeats 4000000 in
set_option maxRecDepth 100000 in
theorem b_X6_weighNight_23 {G : zG} {C : zC} {r : Unit} {τ : zSt} (hR : zR G C none none τ) (x1 : Int32) (w23 : (Int32 × zSt) → Option (Unit × zSt)) (hw23 : ∀ (x2 : Int32) (σ : zSt), w23 (x2, σ) = some (r, τ) → zAW G 5 RX6 cX6_weighNight 4 C 23 [(0, .ref (zad G 57)), (1, .int x1), (2, .int x2)] [] σ) (x2 : Int32) (σ : zSt) (h : F_X6_weighNight_23 x1 w23 x2 σ = some (r, τ)) : zAW G 5 RX6 cX6_weighNight 4 C 23 [(0, .ref (zad G 57)), (1, .int x1), (2, .int x2)] [] σ := by
  unfold F_X6_weighNight_23 at h
  refine z_iload e_X6_weighNight_23 2 rfl ?_
  refine z_ic e_X6_weighNight_24 ?_
  refine z_icmp_ge e_X6_weighNight_26 h (fun c2 h => ?_) (fun c2 h => ?_)
  · exact z_sub [0] rfl (p_X6_weighNight_134 hR  σ h)
  · refine z_ic e_X6_weighNight_29 ?_
    refine z_istore e_X6_weighNight_30 (by decide) [(3, .int (0 : Int32)), (0, .ref (zad G 57)), (1, .int x1), (2, .int x2)] rfl ?_
    exact z_sub [1, 2, 3, 0] rfl (l_X6_weighNight_31 hR w23 x1 x2 hw23 zlim (0 : Int32) σ h)
noncomputable def F_X6_weighNight_23L (x1 : Int32) : ((Int32 × zSt) → Option (Unit × zSt)) → (Int32 × zSt) → Option (Unit × zSt) := fun w s => F_X6_weighNight_23 x1 w s.1 s.2
set_option maxRecDepth 100000 in
theorem l_X6_weighNight_23 {G : zG} {C : zC} {r : Unit} {τ : zSt} (hR : zR G C none none τ) (x1 : Int32) : ∀ (N : Nat) (x2 : Int32) (σ : zSt), zfix (F_X6_weighNight_23L x1) N (x2, σ) = some (r, τ) → zAW G 5 RX6 cX6_weighNight 4 C 23 [(0, .ref (zad G 57)), (1, .int x1), (2, .int x2)] [] σ := by
  intro N
  induction N with
  | zero =>
    intro x2 σ h
    exact nomatch (show (none : Option (Unit × zSt)) = some (r, τ) from h)
  | succ N ih =>
    intro x2 σ h
    exact b_X6_weighNight_23 hR x1 (zfix (F_X6_weighNight_23L x1) N) ih x2 σ h
noncomputable def F_X6_weighNight_21 (x1 : Int32) (σ : zSt) : Option (Unit × zSt) :=
  zfix (F_X6_weighNight_23L x1) zlim ((0 : Int32), σ)
set_option maxHeartbeats 4000000 in
set_option maxRecDepth 100000 in
theorem p_X6_weighNight_21 {G : zG} {C : zC} {r : Unit} {τ : zSt} (hR : zR G C none none τ) (x1 : Int32) (σ : zSt) (h : F_X6_weighNight_21 x1 σ = some (r, τ)) : zAW G 5 RX6 cX6_weighNight 4 C 21 [(0, .ref (zad G 57)), (1, .int x1)] [] σ := by
  unfold F_X6_weighNight_21 at h
  refine z_ic e_X6_weighNight_21 ?_
  refine z_istore e_X6_weighNight_22 (by decide) [(2, .int (0 : Int32)), (0, .ref (zad G 57)), (1, .int x1)] rfl ?_
  exact z_sub [1, 2, 0] rfl (l_X6_weighNight_23 hR x1 zlim (0 : Int32) σ h)
noncomputable def F_X6_weighNight_2 (x1 : Int32) (w2 : (Int32 × zSt) → Option (Unit × zSt)) (x2 : Int32) (σ : zSt) : Option (Unit × zSt) :=
  if (8 : Int32) ≤ x2 then (
    F_X6_weighNight_21 x1 σ)
  else (
    gd (vp_in x2 8) (nm (zwrL σ 61 x2.toNatClampNeg (0 : Int64)) (fun s23 =>
      nm (x2 + (1 : Int32)) (fun v24 =>
        w2 (v24, s23)))))
set_option maxHeartbeats 4000000 in
set_option maxRecDepth 100000 in
theorem b_X6_weighNight_2 {G : zG} {C : zC} {r : Unit} {τ : zSt} (hR : zR G C none none τ) (x1 : Int32) (w2 : (Int32 × zSt) → Option (Unit × zSt)) (hw2 : ∀ (x2 : Int32) (σ : zSt), w2 (x2, σ) = some (r, τ) → zAW G 5 RX6 cX6_weighNight 4 C 2 [(0, .ref (zad G 57)), (1, .int x1), (2, .int x2)] [] σ) (x2 : Int32) (σ : zSt) (h : F_X6_weighNight_2 x1 w2 x2 σ = some (r, τ)) : zAW G 5 RX6 cX6_weighNight 4 C 2 [(0, .ref (zad G 57)), (1, .int x1), (2, .int x2)] [] σ := by
  unfold F_X6_weighNight_2 at h
  refine z_iload e_X6_weighNight_2 2 rfl ?_
  refine z_ic e_X6_weighNight_3 ?_
  refine z_icmp_ge e_X6_weighNight_5 h (fun c1 h => ?_) (fun c1 h => ?_)
  · exact z_sub [0, 1] rfl (p_X6_weighNight_21 hR x1 σ h)
  · refine z_aload e_X6_weighNight_8 0 rfl ?_
    refine z_getr gf_X6_22_57 e_X6_weighNight_9 ?_
    refine z_iload e_X6_weighNight_12 2 rfl ?_
    refine z_lconst 0 e_X6_weighNight_13 rfl ?_
    refine z_last sh_61 e_X6_weighNight_14 h (fun s23 h => ?_)
    refine z_iinc e_X6_weighNight_15 2 rfl (by decide) (by decide) h (fun y => [(2, .int y), (0, .ref (zad G 57)), (1, .int x1)]) (fun _ => rfl) (fun v24 h => ?_)
    refine z_goto e_X6_weighNight_18 ?_
    exact z_sub [1, 2, 0] rfl (hw2 v24 s23 h)
noncomputable def F_X6_weighNight_2L (x1 : Int32) : ((Int32 × zSt) → Option (Unit × zSt)) → (Int32 × zSt) → Option (Unit × zSt) := fun w s => F_X6_weighNight_2 x1 w s.1 s.2
set_option maxRecDepth 100000 in
theorem l_X6_weighNight_2 {G : zG} {C : zC} {r : Unit} {τ : zSt} (hR : zR G C none none τ) (x1 : Int32) : ∀ (N : Nat) (x2 : Int32) (σ : zSt), zfix (F_X6_weighNight_2L x1) N (x2, σ) = some (r, τ) → zAW G 5 RX6 cX6_weighNight 4 C 2 [(0, .ref (zad G 57)), (1, .int x1), (2, .int x2)] [] σ := by
  intro N
  induction N with
  | zero =>
    intro x2 σ h
    exact nomatch (show (none : Option (Unit × zSt)) = some (r, τ) from h)
  | succ N ih =>
    intro x2 σ h
    exact b_X6_weighNight_2 hR x1 (zfix (F_X6_weighNight_2L x1) N) ih x2 σ h
noncomputable def F_X6_weighNight_0 (x1 : Int32) (σ : zSt) : Option (Unit × zSt) :=
  zfix (F_X6_weighNight_2L x1) zlim ((0 : Int32), σ)
set_option maxHeartbeats 4000000 in
set_option maxRecDepth 100000 in
theorem p_X6_weighNight_0 {G : zG} {C : zC} {r : Unit} {τ : zSt} (hR : zR G C none none τ) (x1 : Int32) (σ : zSt) (h : F_X6_weighNight_0 x1 σ = some (r, τ)) : zAW G 5 RX6 cX6_weighNight 4 C 0 [(0, .ref (zad G 57)), (1, .int x1)] [] σ := by
  unfold F_X6_weighNight_0 at h
  refine z_ic e_X6_weighNight_0 ?_
  refine z_istore e_X6_weighNight_1 (by decide) [(2, .int (0 : Int32)), (0, .ref (zad G 57)), (1, .int x1)] rfl ?_
  exact z_sub [1, 2, 0] rfl (l_X6_weighNight_2 hR x1 zlim (0 : Int32) σ h)
noncomputable def F_X6_weighNight (x1 : Int32) (σ : zSt) : Option (Unit × zSt) := F_X6_weighNight_0 x1 σ
set_option maxRecDepth 100000 in
theorem m_X6_weighNight (G : zG) (x1 : Int32) (σ : zSt) (q : Unit) (τ : zSt) (h : F_X6_weighNight x1 σ = some (q, τ)) : zM G 5 yX6_weighNight cX6_weighNight 4 none [.ref (zad G 57), .int x1] σ none τ := by
  unfold F_X6_weighNight at h
  refine zM.of (own := RX6) (by decide +kernel) rfl (Nat.le_of_ble_eq_true rfl) (fun C hR => ?_)
  exact z_sub [0, 1] rfl (p_X6_weighNight_0 hR x1 σ h)
noncomputable def F_X6_weigh_58 (w58 : (Int64 × Int32 × zSt) → Option (Int64 × zSt)) (x2 : Int64) (x4 : Int32) (σ : zSt) : Option (Int64 × zSt) :=
  if (8 : Int32) ≤ x4 then (
    some (x2, σ))
  else (
    gd (vp_in x4 8) (
      nm (x2 + (σ.2 60 x4.toNatClampNeg)) (fun v4 =>
        nm (x4 + (1 : Int32)) (fun v5 =>
          w58 (v4, v5, σ)))))
set_option maxHeartbeats 4000000 in
set_option maxRecDepth 100000 in
theorem b_X6_weigh_58 {G : zG} {C : zC} {r : Int64} {τ : zSt} (hR : zR G C (some .long) (some (.long r)) τ) (w58 : (Int64 × Int32 × zSt) → Option (Int64 × zSt)) (hw58 : ∀ (x2 : Int64) (x4 : Int32) (σ : zSt), w58 (x2, x4, σ) = some (r, τ) → zAW G 6 RX6 cX6_weigh 5 C 58 [(0, .ref (zad G 57)), (2, .long x2), (4, .int x4)] [] σ) (x2 : Int64) (x4 : Int32) (σ : zSt) (h : F_X6_weigh_58 w58 x2 x4 σ = some (r, τ)) : zAW G 6 RX6 cX6_weigh 5 C 58 [(0, .ref (zad G 57)), (2, .long x2), (4, .int x4)] [] σ := by
  unfold F_X6_weigh_58 at h
  refine z_iload e_X6_weigh_58 2 rfl ?_
  refine z_ic e_X6_weigh_60 ?_
  refine z_icmp_ge e_X6_weigh_62 h (fun c3 h => ?_) (fun c3 h => ?_)
  · refine z_lload e_X6_weigh_81 1 rfl ?_
    cases h
    exact z_lreturn hR e_X6_weigh_82
  · refine z_lload e_X6_weigh_65 1 rfl ?_
    refine z_aload e_X6_weigh_66 0 rfl ?_
    refine z_getr gf_X6_18_57 e_X6_weigh_67 ?_
    refine z_iload e_X6_weigh_70 2 rfl ?_
    refine z_lald sh_60 e_X6_weigh_72 h (fun h => ?_)
    refine z_ladd e_X6_weigh_73 ?_
    refine z_nmL h (fun v4 h => ?_)
    refine z_lstore e_X6_weigh_74 (by decide) [(2, .long v4), (0, .ref (zad G 57)), (4, .int x4)] rfl ?_
    refine z_iinc e_X6_weigh_75 2 rfl (by decide) (by decide) h (fun y => [(4, .int y), (2, .long v4), (0, .ref (zad G 57))]) (fun _ => rfl) (fun v5 h => ?_)
    refine z_goto e_X6_weigh_78 ?_
    exact z_sub [2, 1, 0] rfl (hw58 v4 v5 σ h)
noncomputable def F_X6_weigh_58L  : ((Int64 × Int32 × zSt) → Option (Int64 × zSt)) → (Int64 × Int32 × zSt) → Option (Int64 × zSt) := fun w s => F_X6_weigh_58 w s.1 s.2.1 s.2.2
set_option maxRecDepth 100000 in
theorem l_X6_weigh_58 {G : zG} {C : zC} {r : Int64} {τ : zSt} (hR : zR G C (some .long) (some (.long r)) τ)  : ∀ (N : Nat) (x2 : Int64) (x4 : Int32) (σ : zSt), zfix (F_X6_weigh_58L ) N (x2, x4, σ) = some (r, τ) → zAW G 6 RX6 cX6_weigh 5 C 58 [(0, .ref (zad G 57)), (2, .long x2), (4, .int x4)] [] σ := by
  intro N
  induction N with
  | zero =>
    intro x2 x4 σ h
    exact nomatch (show (none : Option (Int64 × zSt)) = some (r, τ) from h)
  | succ N ih =>
    intro x2 x4 σ h
    exact b_X6_weigh_58 hR (zfix (F_X6_weigh_58L ) N) ih x2 x4 σ h
noncomputable def F_X6_weigh_53 (σ : zSt) : Option (Int64 × zSt) :=
  zfix (F_X6_weigh_58L ) zlim ((0 : Int64), (0 : Int32), σ)
set_option maxHeartbeats 4000000 in
set_option maxRecDepth 100000 in
theorem p_X6_weigh_53 {G : zG} {C : zC} {r : Int64} {τ : zSt} (hR : zR G C (some .long) (some (.long r)) τ)  (σ : zSt) (h : F_X6_weigh_53 σ = some (r, τ)) : zAW G 6 RX6 cX6_weigh 5 C 53 [(0, .ref (zad G 57))] [] σ := by
  unfold F_X6_weigh_53 at h
  refine z_lconst 0 e_X6_weigh_53 rfl ?_
  refine z_lstore e_X6_weigh_54 (by decide) [(2, .long (0 : Int64)), (0, .ref (zad G 57))] rfl ?_
  refine z_ic e_X6_weigh_55 ?_
  refine z_istore e_X6_weigh_56 (by decide) [(4, .int (0 : Int32)), (2, .long (0 : Int64)), (0, .ref (zad G 57))] rfl ?_
  exact z_sub [2, 1, 0] rfl (l_X6_weigh_58 hR  zlim (0 : Int64) (0 : Int32) σ h)
noncomputable def F_X6_weigh_28 (w28 : (Int32 × zSt) → Option (Int64 × zSt)) (x2 : Int32) (σ : zSt) : Option (Int64 × zSt) :=
  if (σ.1 57 5) ≤ x2 then (
    F_X6_weigh_53  σ)
  else (
    if (12 : Int32) ≤ x2 then (
      F_X6_weigh_53  σ)
    else (
      bd (F_X6_weighNight x2 σ) (fun _ s7 =>
        nm (x2 + (1 : Int32)) (fun v10 =>
          w28 (v10, s7)))))
set_option maxHeartbeats 4000000 in
set_option maxRecDepth 100000 in
theorem b_X6_weigh_28 {G : zG} {C : zC} {r : Int64} {τ : zSt} (hR : zR G C (some .long) (some (.long r)) τ) (w28 : (Int32 × zSt) → Option (Int64 × zSt)) (hw28 : ∀ (x2 : Int32) (σ : zSt), w28 (x2, σ) = some (r, τ) → zAW G 6 RX6 cX6_weigh 5 C 28 [(0, .ref (zad G 57)), (2, .int x2)] [] σ) (x2 : Int32) (σ : zSt) (h : F_X6_weigh_28 w28 x2 σ = some (r, τ)) : zAW G 6 RX6 cX6_weigh 5 C 28 [(0, .ref (zad G 57)), (2, .int x2)] [] σ := by
  unfold F_X6_weigh_28 at h
  refine z_iload e_X6_weigh_28 1 rfl ?_
  refine z_aload e_X6_weigh_29 0 rfl ?_
  refine z_geti gf_X6_40_57 e_X6_weigh_30 ?_
  refine z_icmp_ge e_X6_weigh_33 h (fun c2 h => ?_) (fun c2 h => ?_)
  · exact z_sub [0] rfl (p_X6_weigh_53 hR  σ h)
  · refine z_iload e_X6_weigh_36 1 rfl ?_
    refine z_ic e_X6_weigh_37 ?_
    refine z_icmp_ge e_X6_weigh_39 h (fun c6 h => ?_) (fun c6 h => ?_)
    · exact z_sub [0] rfl (p_X6_weigh_53 hR  σ h)
    · refine z_aload e_X6_weigh_42 0 rfl ?_
      refine z_iload e_X6_weigh_43 1 rfl ?_
      obtain ⟨q8, s7, e9, h⟩ := bd_e h
      refine z_callVv (c0 := 57) (As := [.int x2]) (rest := []) lk_X6_87 ob_57 e_X6_weigh_44 (m_X6_weighNight G x2 σ _ _ e9) (by decide) rfl (Nat.le_of_ble_eq_true rfl) ?_
      refine z_iinc e_X6_weigh_47 1 rfl (by decide) (by decide) h (fun y => [(2, .int y), (0, .ref (zad G 57))]) (fun _ => rfl) (fun v10 h => ?_)
      refine z_goto e_X6_weigh_50 ?_
      exact z_sub [1, 0] rfl (hw28 v10 s7 h)
noncomputable def F_X6_weigh_28L  : ((Int32 × zSt) → Option (Int64 × zSt)) → (Int32 × zSt) → Option (Int64 × zSt) := fun w s => F_X6_weigh_28 w s.1 s.2
set_option maxRecDepth 100000 in
theorem l_X6_weigh_28 {G : zG} {C : zC} {r : Int64} {τ : zSt} (hR : zR G C (some .long) (some (.long r)) τ)  : ∀ (N : Nat) (x2 : Int32) (σ : zSt), zfix (F_X6_weigh_28L ) N (x2, σ) = some (r, τ) → zAW G 6 RX6 cX6_weigh 5 C 28 [(0, .ref (zad G 57)), (2, .int x2)] [] σ := by
  intro N
  induction N with
  | zero =>
    intro x2 σ h
    exact nomatch (show (none : Option (Int64 × zSt)) = some (r, τ) from h)
  | succ N ih =>
    intro x2 σ h
    exact b_X6_weigh_28 hR (zfix (F_X6_weigh_28L ) N) ih x2 σ h
noncomputable def F_X6_weigh_26 (σ : zSt) : Option (Int64 × zSt) :=
  zfix (F_X6_weigh_28L ) zlim ((0 : Int32), σ)
set_option maxHeartbeats 4000000 in
set_option maxRecDepth 100000 in
theorem p_X6_weigh_26 {G : zG} {C : zC} {r : Int64} {τ : zSt} (hR : zR G C (some .long) (some (.long r)) τ)  (σ : zSt) (h : F_X6_weigh_26 σ = some (r, τ)) : zAW G 6 RX6 cX6_weigh 5 C 26 [(0, .ref (zad G 57))] [] σ := by
  unfold F_X6_weigh_26 at h
  refine z_ic e_X6_weigh_26 ?_
  refine z_istore e_X6_weigh_27 (by decide) [(2, .int (0 : Int32)), (0, .ref (zad G 57))] rfl ?_
  exact z_sub [1, 0] rfl (l_X6_weigh_28 hR  zlim (0 : Int32) σ h)
noncomputable def F_X6_weigh_2 (x1 : Int32) (w2 : (Int32 × zSt) → Option (Int64 × zSt)) (x2 : Int32) (σ : zSt) : Option (Int64 × zSt) :=
  if (8 : Int32) ≤ x2 then (
    F_X6_weigh_26  σ)
  else (
    gd (vp_in x2 8) (nm (zwrL σ 60 x2.toNatClampNeg (((x1 >>> (x2 &&& 31)) &&& (1 : Int32)).toInt64)) (fun s11 =>
      nm (x2 + (1 : Int32)) (fun v12 =>
        w2 (v12, s11)))))
set_option maxHeartbeats 4000000 in
set_option maxRecDepth 100000 in
theorem b_X6_weigh_2 {G : zG} {C : zC} {r : Int64} {τ : zSt} (hR : zR G C (some .long) (some (.long r)) τ) (x1 : Int32) (w2 : (Int32 × zSt) → Option (Int64 × zSt)) (hw2 : ∀ (x2 : Int32) (σ : zSt), w2 (x2, σ) = some (r, τ) → zAW G 6 RX6 cX6_weigh 5 C 2 [(0, .ref (zad G 57)), (1, .int x1), (2, .int x2)] [] σ) (x2 : Int32) (σ : zSt) (h : F_X6_weigh_2 x1 w2 x2 σ = some (r, τ)) : zAW G 6 RX6 cX6_weigh 5 C 2 [(0, .ref (zad G 57)), (1, .int x1), (2, .int x2)] [] σ := by
  unfold F_X6_weigh_2 at h
  refine z_iload e_X6_weigh_2 2 rfl ?_
  refine z_ic e_X6_weigh_3 ?_
  refine z_icmp_ge e_X6_weigh_5 h (fun c1 h => ?_) (fun c1 h => ?_)
  · exact z_sub [0] rfl (p_X6_weigh_26 hR  σ h)
  · refine z_aload e_X6_weigh_8 0 rfl ?_
    refine z_getr gf_X6_18_57 e_X6_weigh_9 ?_
    refine z_iload e_X6_weigh_12 2 rfl ?_
    refine z_iload e_X6_weigh_13 1 rfl ?_
    refine z_iload e_X6_weigh_14 2 rfl ?_
    refine z_ishr e_X6_weigh_15 ?_
    refine z_ic e_X6_weigh_16 ?_
    refine z_iand e_X6_weigh_17 ?_
    refine z_i2l e_X6_weigh_18 ?_
    refine z_last sh_60 e_X6_weigh_19 h (fun s11 h => ?_)
    refine z_iinc e_X6_weigh_20 2 rfl (by decide) (by decide) h (fun y => [(2, .int y), (0, .ref (zad G 57)), (1, .int x1)]) (fun _ => rfl) (fun v12 h => ?_)
    refine z_goto e_X6_weigh_23 ?_
    exact z_sub [1, 2, 0] rfl (hw2 v12 s11 h)
noncomputable def F_X6_weigh_2L (x1 : Int32) : ((Int32 × zSt) → Option (Int64 × zSt)) → (Int32 × zSt) → Option (Int64 × zSt) := fun w s => F_X6_weigh_2 x1 w s.1 s.2
set_option maxRecDepth 100000 in
theorem l_X6_weigh_2 {G : zG} {C : zC} {r : Int64} {τ : zSt} (hR : zR G C (some .long) (some (.long r)) τ) (x1 : Int32) : ∀ (N : Nat) (x2 : Int32) (σ : zSt), zfix (F_X6_weigh_2L x1) N (x2, σ) = some (r, τ) → zAW G 6 RX6 cX6_weigh 5 C 2 [(0, .ref (zad G 57)), (1, .int x1), (2, .int x2)] [] σ := by
  intro N
  induction N with
  | zero =>
    intro x2 σ h
    exact nomatch (show (none : Option (Int64 × zSt)) = some (r, τ) from h)
  | succ N ih =>
    intro x2 σ h
    exact b_X6_weigh_2 hR x1 (zfix (F_X6_weigh_2L x1) N) ih x2 σ h
noncomputable def F_X6_weigh_0 (x1 : Int32) (σ : zSt) : Option (Int64 × zSt) :=
  zfix (F_X6_weigh_2L x1) zlim ((0 : Int32), σ)
set_option maxHeartbeats 4000000 in
set_option maxRecDepth 100000 in
theorem p_X6_weigh_0 {G : zG} {C : zC} {r : Int64} {τ : zSt} (hR : zR G C (some .long) (some (.long r)) τ) (x1 : Int32) (σ : zSt) (h : F_X6_weigh_0 x1 σ = some (r, τ)) : zAW G 6 RX6 cX6_weigh 5 C 0 [(0, .ref (zad G 57)), (1, .int x1)] [] σ := by
  unfold F_X6_weigh_0 at h
  refine z_ic e_X6_weigh_0 ?_
  refine z_istore e_X6_weigh_1 (by decide) [(2, .int (0 : Int32)), (0, .ref (zad G 57)), (1, .int x1)] rfl ?_
  exact z_sub [1, 2, 0] rfl (l_X6_weigh_2 hR x1 zlim (0 : Int32) σ h)
noncomputable def F_X6_weigh (x1 : Int32) (σ : zSt) : Option (Int64 × zSt) := F_X6_weigh_0 x1 σ
set_option maxRecDepth 100000 in
theorem m_X6_weigh (G : zG) (x1 : Int32) (σ : zSt) (q : Int64) (τ : zSt) (h : F_X6_weigh x1 σ = some (q, τ)) : zM G 6 yX6_weigh cX6_weigh 5 (some .long) [.ref (zad G 57), .int x1] σ (some (.long q)) τ := by
  unfold F_X6_weigh at h
  refine zM.of (own := RX6) (by decide +kernel) rfl (Nat.le_of_ble_eq_true rfl) (fun C hR => ?_)
  exact z_sub [0, 1] rfl (p_X6_weigh_0 hR x1 σ h)
noncomputable def F_X11_commonDivisor_45 (x4 : Int64) (σ : zSt) : Option (Int64 × zSt) :=
  if (lg_cmp x4 (0 : Int64)) ≤ 0 then (
    some ((1 : Int64), σ))
  else (
    some (x4, σ))
set_option maxHeartbeats 4000000 in
set_option maxRecDepth 100000 in
theorem p_X11_commonDivisor_45 {G : zG} {C : zC} {r : Int64} {τ : zSt} (hR : zR G C (some .long) (some (.long r)) τ) (x4 : Int64) (σ : zSt) (h : F_X11_commonDivisor_45 x4 σ = some (r, τ)) : zAW G 1 RX11 cX11_commonDivisor 11 C 45 [(4, .long x4)] [] σ := by
  unfold F_X11_commonDivisor_45 at h
  refine z_lload e_X11_commonDivisor_45 0 rfl ?_
  refine z_lconst 0 e_X11_commonDivisor_47 rfl ?_
  refine z_lcmp e_X11_commonDivisor_48 ?_
  refine z_if_le e_X11_commonDivisor_49 h (fun c2 h => ?_) (fun c2 h => ?_)
  · refine z_lconst 1 e_X11_commonDivisor_57 rfl ?_
    cases h
    exact z_lreturn hR e_X11_commonDivisor_58
  · refine z_lload e_X11_commonDivisor_52 0 rfl ?_
    refine z_goto e_X11_commonDivisor_54 ?_
    cases h
    exact z_lreturn hR e_X11_commonDivisor_58
noncomputable def F_X11_commonDivisor_9 (w9 : (Int64 × Int64 × Int32 × zSt) → Option (Int64 × zSt)) (x4 : Int64) (x6 : Int64) (x8 : Int32) (σ : zSt) : Option (Int64 × zSt) :=
  if (1000 : Int32) ≤ x8 then (
    F_X11_commonDivisor_45 x4 σ)
  else (
    if (lg_cmp x6 (0 : Int64)) = 0 then (
      F_X11_commonDivisor_45 x4 σ)
    else (
      gd (¬ x6 = 0) (
        nm (x4 % x6) (fun v5 =>
          nm (x8 + (1 : Int32)) (fun v6 =>
            w9 (x6, v5, v6, σ))))))
set_option maxHeartbeats 4000000 in
set_option maxRecDepth 100000 in
theorem b_X11_commonDivisor_9 {G : zG} {C : zC} {r : Int64} {τ : zSt} (hR : zR G C (some .long) (some (.long r)) τ) (w9 : (Int64 × Int64 × Int32 × zSt) → Option (Int64 × zSt)) (hw9 : ∀ (x4 : Int64) (x6 : Int64) (x8 : Int32) (σ : zSt), w9 (x4, x6, x8, σ) = some (r, τ) → zAW G 1 RX11 cX11_commonDivisor 11 C 9 [(4, .long x4), (6, .long x6), (8, .int x8)] [] σ) (x4 : Int64) (x6 : Int64) (x8 : Int32) (σ : zSt) (h : F_X11_commonDivisor_9 w9 x4 x6 x8 σ = some (r, τ)) : zAW G 1 RX11 cX11_commonDivisor 11 C 9 [(4, .long x4), (6, .long x6), (8, .int x8)] [] σ := by
  unfold F_X11_commonDivisor_9 at h
  refine z_iload e_X11_commonDivisor_9 2 rfl ?_
  refine z_ic e_X11_commonDivisor_11 ?_
  refine z_icmp_ge e_X11_commonDivisor_14 h (fun c1 h => ?_) (fun c1 h => ?_)
  · exact z_sub [0] rfl (p_X11_commonDivisor_45 hR x4 σ h)
  · refine z_lload e_X11_commonDivisor_17 1 rfl ?_
    refine z_lconst 0 e_X11_commonDivisor_19 rfl ?_
    refine z_lcmp e_X11_commonDivisor_20 ?_
    refine z_if_eq e_X11_commonDivisor_21 h (fun c3 h => ?_) (fun c3 h => ?_)
    · exact z_sub [0] rfl (p_X11_commonDivisor_45 hR x4 σ h)
    · refine z_lload e_X11_commonDivisor_24 0 rfl ?_
      refine z_lload e_X11_commonDivisor_26 1 rfl ?_
      obtain ⟨hy4, h⟩ := gd_e h
      refine z_lrem e_X11_commonDivisor_28 hy4 ?_
      refine z_nmL h (fun v5 h => ?_)
      refine z_lstore e_X11_commonDivisor_29 (by decide) [(9, .long v5), (4, .long x4), (6, .long x6), (8, .int x8)] rfl ?_
      refine z_lload e_X11_commonDivisor_31 2 rfl ?_
      refine z_lstore e_X11_commonDivisor_33 (by decide) [(4, .long x6), (9, .long v5), (6, .long x6), (8, .int x8)] rfl ?_
      refine z_lload e_X11_commonDivisor_35 1 rfl ?_
      refine z_lstore e_X11_commonDivisor_37 (by decide) [(6, .long v5), (4, .long x6), (9, .long v5), (8, .int x8)] rfl ?_
      refine z_iinc e_X11_commonDivisor_39 3 rfl (by decide) (by decide) h (fun y => [(8, .int y), (6, .long v5), (4, .long x6), (9, .long v5)]) (fun _ => rfl) (fun v6 h => ?_)
      refine z_goto e_X11_commonDivisor_42 ?_
      exact z_sub [2, 1, 0] rfl (hw9 x6 v5 v6 σ h)
noncomputable def F_X11_commonDivisor_9L  : ((Int64 × Int64 × Int32 × zSt) → Option (Int64 × zSt)) → (Int64 × Int64 × Int32 × zSt) → Option (Int64 × zSt) := fun w s => F_X11_commonDivisor_9 w s.1 s.2.1 s.2.2.1 s.2.2.2
set_option maxRecDepth 100000 in
theorem l_X11_commonDivisor_9 {G : zG} {C : zC} {r : Int64} {τ : zSt} (hR : zR G C (some .long) (some (.long r)) τ)  : ∀ (N : Nat) (x4 : Int64) (x6 : Int64) (x8 : Int32) (σ : zSt), zfix (F_X11_commonDivisor_9L ) N (x4, x6, x8, σ) = some (r, τ) → zAW G 1 RX11 cX11_commonDivisor 11 C 9 [(4, .long x4), (6, .long x6), (8, .int x8)] [] σ := by
  intro N
  induction N with
  | zero =>
    intro x4 x6 x8 σ h
    exact nomatch (show (none : Option (Int64 × zSt)) = some (r, τ) from h)
  | succ N ih =>
    intro x4 x6 x8 σ h
    exact b_X11_commonDivisor_9 hR (zfix (F_X11_commonDivisor_9L ) N) ih x4 x6 x8 σ h
noncomputable def F_X11_commonDivisor_0 (x0 : Int64) (x2 : Int64) (σ : zSt) : Option (Int64 × zSt) :=
  zfix (F_X11_commonDivisor_9L ) zlim (x0, x2, (0 : Int32), σ)
set_option maxHeartbeats 4000000 in
set_option maxRecDepth 100000 in
theorem p_X11_commonDivisor_0 {G : zG} {C : zC} {r : Int64} {τ : zSt} (hR : zR G C (some .long) (some (.long r)) τ) (x0 : Int64) (x2 : Int64) (σ : zSt) (h : F_X11_commonDivisor_0 x0 x2 σ = some (r, τ)) : zAW G 1 RX11 cX11_commonDivisor 11 C 0 [(0, .long x0), (2, .long x2)] [] σ := by
  unfold F_X11_commonDivisor_0 at h
  refine z_lload e_X11_commonDivisor_0 0 rfl ?_
  refine z_lstore e_X11_commonDivisor_1 (by decide) [(4, .long x0), (0, .long x0), (2, .long x2)] rfl ?_
  refine z_lload e_X11_commonDivisor_3 2 rfl ?_
  refine z_lstore e_X11_commonDivisor_4 (by decide) [(6, .long x2), (4, .long x0), (0, .long x0), (2, .long x2)] rfl ?_
  refine z_ic e_X11_commonDivisor_6 ?_
  refine z_istore e_X11_commonDivisor_7 (by decide) [(8, .int (0 : Int32)), (6, .long x2), (4, .long x0), (0, .long x0), (2, .long x2)] rfl ?_
  exact z_sub [2, 1, 0] rfl (l_X11_commonDivisor_9 hR  zlim x0 x2 (0 : Int32) σ h)
noncomputable def F_X11_commonDivisor (x0 : Int64) (x2 : Int64) (σ : zSt) : Option (Int64 × zSt) := F_X11_commonDivisor_0 x0 x2 σ
set_option maxRecDepth 100000 in
theorem m_X11_commonDivisor (G : zG) (x0 : Int64) (x2 : Int64) (σ : zSt) (q : Int64) (τ : zSt) (h : F_X11_commonDivisor x0 x2 σ = some (q, τ)) : zM G 1 yX11_commonDivisor cX11_commonDivisor 11 (some .long) [.long x0, .long x2] σ (some (.long q)) τ := by
  unfold F_X11_commonDivisor at h
  refine zM.of (own := RX11) (by decide +kernel) rfl (Nat.le_of_ble_eq_true rfl) (fun C hR => ?_)
  exact z_sub [0, 1] rfl (p_X11_commonDivisor_0 hR x0 x2 σ h)
noncomputable def F_X6_possible_4 (w4 : (Int32 × Int32 × zSt) → Option (Int32 × zSt)) (x1 : Int32) (x2 : Int32) (σ : zSt) : Option (Int32 × zSt) :=
  if (8 : Int32) ≤ x2 then (
    some (x1, σ))
  else (
    gd (vp_in x2 8) (
      nm (if (lg_cmp (σ.2 60 x2.toNatClampNeg) (0 : Int64)) ≤ 0 then (0 : Int32) else (1 : Int32)) (fun v2 =>
        nm (x1 + v2) (fun v3 =>
          nm (x2 + (1 : Int32)) (fun v4 =>
            w4 (v3, v4, σ))))))
set_option maxHeartbeats 4000000 in
set_option maxRecDepth 100000 in
theorem b_X6_possible_4 {G : zG} {C : zC} {r : Int32} {τ : zSt} (hR : zR G C (some .int) (some (.int r)) τ) (w4 : (Int32 × Int32 × zSt) → Option (Int32 × zSt)) (hw4 : ∀ (x1 : Int32) (x2 : Int32) (σ : zSt), w4 (x1, x2, σ) = some (r, τ) → zAW G 1 RX6 cX6_possible 3 C 4 [(0, .ref (zad G 57)), (1, .int x1), (2, .int x2)] [] σ) (x1 : Int32) (x2 : Int32) (σ : zSt) (h : F_X6_possible_4 w4 x1 x2 σ = some (r, τ)) : zAW G 1 RX6 cX6_possible 3 C 4 [(0, .ref (zad G 57)), (1, .int x1), (2, .int x2)] [] σ := by
  unfold F_X6_possible_4 at h
  refine z_iload e_X6_possible_4 2 rfl ?_
  refine z_ic e_X6_possible_5 ?_
  refine z_icmp_ge e_X6_possible_7 h (fun c1 h => ?_) (fun c1 h => ?_)
  · refine z_iload e_X6_possible_35 1 rfl ?_
    cases h
    exact z_ireturn hR e_X6_possible_36
  · refine z_iload e_X6_possible_10 1 rfl ?_
    refine z_aload e_X6_possible_11 0 rfl ?_
    refine z_getr gf_X6_18_57 e_X6_possible_12 ?_
    refine z_iload e_X6_possible_15 2 rfl ?_
    refine z_lald sh_60 e_X6_possible_16 h (fun h => ?_)
    refine z_lconst 0 e_X6_possible_17 rfl ?_
    refine z_lcmp e_X6_possible_18 ?_
    obtain ⟨v2, ev2, h⟩ := nm_i h
    have jv2 : zAW G 1 RX6 cX6_possible 3 C 27 [(0, .ref (zad G 57)), (2, .int x2)] [.int v2, .int x1] σ := by
      refine z_iadd e_X6_possible_27 ?_
      refine z_nmI h (fun v3 h => ?_)
      refine z_istore e_X6_possible_28 (by decide) [(1, .int v3), (0, .ref (zad G 57)), (2, .int x2)] rfl ?_
      refine z_iinc e_X6_possible_29 2 rfl (by decide) (by decide) h (fun y => [(2, .int y), (1, .int v3), (0, .ref (zad G 57))]) (fun _ => rfl) (fun v4 h => ?_)
      refine z_goto e_X6_possible_32 ?_
      exact z_sub [2, 1, 0] rfl (hw4 v3 v4 σ h)
    refine y_if_le e_X6_possible_19 (fun c5 => ?_) (fun c5 => ?_)
    · refine z_ic e_X6_possible_26 ?_
      rw [if_pos c5] at ev2
      subst ev2
      exact z_sub [0, 2] rfl jv2
    · refine z_ic e_X6_possible_22 ?_
      refine z_goto e_X6_possible_23 ?_
      rw [if_neg c5] at ev2
      subst ev2
      exact z_sub [0, 2] rfl jv2
noncomputable def F_X6_possible_4L  : ((Int32 × Int32 × zSt) → Option (Int32 × zSt)) → (Int32 × Int32 × zSt) → Option (Int32 × zSt) := fun w s => F_X6_possible_4 w s.1 s.2.1 s.2.2
set_option maxRecDepth 100000 in
theorem l_X6_possible_4 {G : zG} {C : zC} {r : Int32} {τ : zSt} (hR : zR G C (some .int) (some (.int r)) τ)  : ∀ (N : Nat) (x1 : Int32) (x2 : Int32) (σ : zSt), zfix (F_X6_possible_4L ) N (x1, x2, σ) = some (r, τ) → zAW G 1 RX6 cX6_possible 3 C 4 [(0, .ref (zad G 57)), (1, .int x1), (2, .int x2)] [] σ := by
  intro N
  induction N with
  | zero =>
    intro x1 x2 σ h
    exact nomatch (show (none : Option (Int32 × zSt)) = some (r, τ) from h)
  | succ N ih =>
    intro x1 x2 σ h
    exact b_X6_possible_4 hR (zfix (F_X6_possible_4L ) N) ih x1 x2 σ h
noncomputable def F_X6_possible_0 (σ : zSt) : Option (Int32 × zSt) :=
  zfix (F_X6_possible_4L ) zlim ((0 : Int32), (0 : Int32), σ)
set_option maxHeartbeats 4000000 in
set_option maxRecDepth 100000 in
theorem p_X6_possible_0 {G : zG} {C : zC} {r : Int32} {τ : zSt} (hR : zR G C (some .int) (some (.int r)) τ)  (σ : zSt) (h : F_X6_possible_0 σ = some (r, τ)) : zAW G 1 RX6 cX6_possible 3 C 0 [(0, .ref (zad G 57))] [] σ := by
  unfold F_X6_possible_0 at h
  refine z_ic e_X6_possible_0 ?_
  refine z_istore e_X6_possible_1 (by decide) [(1, .int (0 : Int32)), (0, .ref (zad G 57))] rfl ?_
  refine z_ic e_X6_possible_2 ?_
  refine z_istore e_X6_possible_3 (by decide) [(2, .int (0 : Int32)), (1, .int (0 : Int32)), (0, .ref (zad G 57))] rfl ?_
  exact z_sub [2, 1, 0] rfl (l_X6_possible_4 hR  zlim (0 : Int32) (0 : Int32) σ h)
noncomputable def F_X6_possible (σ : zSt) : Option (Int32 × zSt) := F_X6_possible_0  σ
set_option maxRecDepth 100000 in
theorem m_X6_possible (G : zG) (σ : zSt) (q : Int32) (τ : zSt) (h : F_X6_possible  σ = some (q, τ)) : zM G 1 yX6_possible cX6_possible 3 (some .int) [.ref (zad G 57)] σ (some (.int q)) τ := by
  unfold F_X6_possible at h
  refine zM.of (own := RX6) (by decide +kernel) rfl (Nat.le_of_ble_eq_true rfl) (fun C hR => ?_)
  exact z_sub [0] rfl (p_X6_possible_0 hR  σ h)
noncomputable def F_X6_odds_0 (x1 : Int32) (x2 : Int32) (σ : zSt) : Option (Int64 × zSt) :=
  bd (F_X6_weigh x1 σ) (fun q2 s1 =>
    if (lg_cmp q2 (0 : Int64)) = 0 then (
      some ((-2 : Int64), s1))
    else (
      if x2 = (16 : Int32) then (
        bd (F_X6_possible s1) (fun q7 s6 =>
          some (q7.toInt64, s6)))
      else (
        bd (F_X11_isBelow x2 (16 : Int32) s1) (fun q10 s9 =>
          if q10 = 0 then (
            some ((-1 : Int64), s9))
          else (
            gd (vp_in (x2 % (8 : Int32)) 8) (
              nm (s9.2 60 (x2 % (8 : Int32)).toNatClampNeg) (fun v13 =>
                nm (if (8 : Int32) ≤ x2 then q2 else v13) (fun v14 =>
                  bd (F_X11_commonDivisor v13 q2 s9) (fun q16 s15 =>
                    gd (¬ q16 = 0) (
                      some ((v14 / q16), s15)))))))))))
set_option maxHeartbeats 4000000 in
set_option maxRecDepth 100000 in
theorem p_X6_odds_0 {G : zG} {C : zC} {r : Int64} {τ : zSt} (hR : zR G C (some .long) (some (.long r)) τ) (x1 : Int32) (x2 : Int32) (σ : zSt) (h : F_X6_odds_0 x1 x2 σ = some (r, τ)) : zAW G 7 RX6 cX6_odds 7 C 0 [(0, .ref (zad G 57)), (1, .int x1), (2, .int x2)] [] σ := by
  unfold F_X6_odds_0 at h
  refine z_aload e_X6_odds_0 0 rfl ?_
  refine z_iload e_X6_odds_1 1 rfl ?_
  obtain ⟨q2, s1, e3, h⟩ := bd_e h
  refine z_callVl (c0 := 57) (As := [.int x1]) (rest := []) lk_X6_61 ob_57 e_X6_odds_2 (m_X6_weigh G x1 σ _ _ e3) (by decide) rfl (Nat.le_of_ble_eq_true rfl) ?_
  refine z_lstore e_X6_odds_5 (by decide) [(3, .long q2), (0, .ref (zad G 57)), (1, .int x1), (2, .int x2)] rfl ?_
  refine z_lload e_X6_odds_6 0 rfl ?_
  refine z_lconst 0 e_X6_odds_7 rfl ?_
  refine z_lcmp e_X6_odds_8 ?_
  refine z_if_ne e_X6_odds_9 h (fun c4 h => ?_) (fun c4 h => ?_)
  · refine z_ldc2 cs_X6_65 e_X6_odds_12 ?_
    cases h
    exact z_lreturn hR e_X6_odds_15
  · refine z_iload e_X6_odds_16 3 rfl ?_
    refine z_ic e_X6_odds_17 ?_
    refine z_icmp_ne e_X6_odds_19 h (fun c5 h => ?_) (fun c5 h => ?_)
    · refine z_aload e_X6_odds_22 1 rfl ?_
      obtain ⟨q7, s6, e8, h⟩ := bd_e h
      refine z_callVi (c0 := 57) (As := []) (rest := []) lk_X6_67 ob_57 e_X6_odds_23 (m_X6_possible G s1 _ _ e8) (by decide) rfl (Nat.le_of_ble_eq_true rfl) ?_
      refine z_i2l e_X6_odds_26 ?_
      cases h
      exact z_lreturn hR e_X6_odds_27
    · refine z_iload e_X6_odds_28 3 rfl ?_
      refine z_ic e_X6_odds_29 ?_
      obtain ⟨q10, s9, e11, h⟩ := bd_e h
      refine z_callNi (As := [.int x2, .int (16 : Int32)]) (rest := []) lk_X6_71 e_X6_odds_31 (m_X11_isBelow G x2 (16 : Int32) s1 _ _ e11) (by decide) rfl (Nat.le_of_ble_eq_true rfl) ?_
      refine z_if_ne e_X6_odds_34 h (fun c12 h => ?_) (fun c12 h => ?_)
      · refine z_ldc2 cs_X6_75 e_X6_odds_37 ?_
        cases h
        exact z_lreturn hR e_X6_odds_40
      · refine z_aload e_X6_odds_41 1 rfl ?_
        refine z_getr gf_X6_18_57 e_X6_odds_42 ?_
        refine z_iload e_X6_odds_45 3 rfl ?_
        refine z_ic e_X6_odds_46 ?_
        refine z_irem e_X6_odds_48 (by decide) ?_
        refine z_lald sh_60 e_X6_odds_49 h (fun h => ?_)
        refine z_nmL h (fun v13 h => ?_)
        refine z_lstore e_X6_odds_50 (by decide) [(5, .long v13), (3, .long q2), (0, .ref (zad G 57)), (1, .int x1), (2, .int x2)] rfl ?_
        refine z_iload e_X6_odds_52 4 rfl ?_
        refine z_ic e_X6_odds_53 ?_
        obtain ⟨v14, ev14, h⟩ := nm_i h
        have jv14 : zAW G 7 RX6 cX6_odds 7 C 64 [(3, .long q2), (5, .long v13)] [.long v14] s9 := by
          refine z_lload e_X6_odds_64 1 rfl ?_
          refine z_lload e_X6_odds_66 0 rfl ?_
          obtain ⟨q16, s15, e17, h⟩ := bd_e h
          refine z_callNl (As := [.long v13, .long q2]) (rest := [.long v14]) lk_X6_77 e_X6_odds_67 (m_X11_commonDivisor G v13 q2 s9 _ _ e17) (by decide) rfl (Nat.le_of_ble_eq_true rfl) ?_
          obtain ⟨hy18, h⟩ := gd_e h
          refine z_ldiv e_X6_odds_70 hy18 ?_
          cases h
          exact z_lreturn hR e_X6_odds_71
        refine y_icmp_ge e_X6_odds_55 (fun c19 => ?_) (fun c19 => ?_)
        · refine z_lload e_X6_odds_63 1 rfl ?_
          rw [if_pos c19] at ev14
          subst ev14
          exact z_sub [1, 0] rfl jv14
        · refine z_lload e_X6_odds_58 0 rfl ?_
          refine z_goto e_X6_odds_60 ?_
          rw [if_neg c19] at ev14
          subst ev14
          exact z_sub [1, 0] rfl jv14
noncomputable def F_X6_odds (x1 : Int32) (x2 : Int32) (σ : zSt) : Option (Int64 × zSt) := F_X6_odds_0 x1 x2 σ
set_option maxRecDepth 100000 in
theorem m_X6_odds (G : zG) (x1 : Int32) (x2 : Int32) (σ : zSt) (q : Int64) (τ : zSt) (h : F_X6_odds x1 x2 σ = some (q, τ)) : zM G 7 yX6_odds cX6_odds 7 (some .long) [.ref (zad G 57), .int x1, .int x2] σ (some (.long q)) τ := by
  unfold F_X6_odds at h
  refine zM.of (own := RX6) (by decide +kernel) rfl (Nat.le_of_ble_eq_true rfl) (fun C hR => ?_)
  exact z_sub [0, 1, 2] rfl (p_X6_odds_0 hR x1 x2 σ h)
noncomputable def F_X11_story_0 (x1 : Int32) (x2 : Int32) (x3 : Int32) (σ : zSt) : Option (Int64 × zSt) :=
  bd (F_X11_isBelow x3 (17 : Int32) σ) (fun q2 s1 =>
    bd (F_X11_refusedStory x1 x2 q2 s1) (fun q5 s4 =>
      if q5 = 0 then (
        bd (F_X6_odds x2 x3 s4) (fun q9 s8 =>
          some (q9, s8)))
      else (
        some (q5.toInt64, s4))))
set_option maxHeartbeats 4000000 in
set_option maxRecDepth 100000 in
theorem p_X11_story_0 {G : zG} {C : zC} {r : Int64} {τ : zSt} (hR : zR G C (some .long) (some (.long r)) τ) (x1 : Int32) (x2 : Int32) (x3 : Int32) (σ : zSt) (h : F_X11_story_0 x1 x2 x3 σ = some (r, τ)) : zAW G 8 RX11 cX11_story 5 C 0 [(0, .ref (zad G 0)), (1, .int x1), (2, .int x2), (3, .int x3)] [] σ := by
  unfold F_X11_story_0 at h
  refine z_aload e_X11_story_0 0 rfl ?_
  refine z_iload e_X11_story_1 1 rfl ?_
  refine z_iload e_X11_story_2 2 rfl ?_
  refine z_iload e_X11_story_3 3 rfl ?_
  refine z_ic e_X11_story_4 ?_
  obtain ⟨q2, s1, e3, h⟩ := bd_e h
  refine z_callSi (As := [.int x3, .int (17 : Int32)]) (rest := [.int x2, .int x1, .ref (zad G 0)]) lk_X11_104 e_X11_story_6 (m_X11_isBelow G x3 (17 : Int32) σ _ _ e3) (by decide) rfl (Nat.le_of_ble_eq_true rfl) ?_
  obtain ⟨q5, s4, e6, h⟩ := bd_e h
  refine z_callVi (c0 := 0) (As := [.int x1, .int x2, .int q2]) (rest := []) lk_X11_227 ob_0 e_X11_story_9 (m_X11_refusedStory G x1 x2 q2 s1 _ _ e6) (by decide) rfl (Nat.le_of_ble_eq_true rfl) ?_
  refine z_istore e_X11_story_12 (by decide) [(4, .int q5), (0, .ref (zad G 0)), (1, .int x1), (2, .int x2), (3, .int x3)] rfl ?_
  refine z_iload e_X11_story_14 0 rfl ?_
  refine z_if_eq e_X11_story_16 h (fun c7 h => ?_) (fun c7 h => ?_)
  · refine z_aload e_X11_story_25 1 rfl ?_
    refine z_getr gf_X11_79_0 e_X11_story_26 ?_
    refine z_iload e_X11_story_29 3 rfl ?_
    refine z_iload e_X11_story_30 4 rfl ?_
    obtain ⟨q9, s8, e10, h⟩ := bd_e h
    refine z_callVl (c0 := 57) (As := [.int x2, .int x3]) (rest := []) lk_X11_231 ob_57 e_X11_story_31 (m_X6_odds G x2 x3 s4 _ _ e10) (by decide) rfl (Nat.le_of_ble_eq_true rfl) ?_
    cases h
    exact z_lreturn hR e_X11_story_34
  · refine z_iload e_X11_story_19 0 rfl ?_
    refine z_i2l e_X11_story_21 ?_
    refine z_goto e_X11_story_22 ?_
    cases h
    exact z_lreturn hR e_X11_story_34
noncomputable def F_X11_story (x1 : Int32) (x2 : Int32) (x3 : Int32) (σ : zSt) : Option (Int64 × zSt) := F_X11_story_0 x1 x2 x3 σ
set_option maxRecDepth 100000 in
theorem m_X11_story (G : zG) (x1 : Int32) (x2 : Int32) (x3 : Int32) (σ : zSt) (q : Int64) (τ : zSt) (h : F_X11_story x1 x2 x3 σ = some (q, τ)) : zM G 8 yX11_story cX11_story 5 (some .long) [.ref (zad G 0), .int x1, .int x2, .int x3] σ (some (.long q)) τ := by
  unfold F_X11_story at h
  refine zM.of (own := RX11) (by decide +kernel) rfl (Nat.le_of_ble_eq_true rfl) (fun C hR => ?_)
  exact z_sub [0, 1, 2, 3] rfl (p_X11_story_0 hR x1 x2 x3 σ h)
noncomputable def F_X12_readsNight_32 (x1 : Int32) (σ : zSt) : Option (Int32 × zSt) :=
  if (σ.1 69 54) = (12 : Int32) then (
    bd (F_X12_wrongAt (4 : Int32) (σ.1 69 15) σ) (fun q11 s10 =>
      gd (q11 = 0 ∨ q11 = 1) (some (q11, s10))))
  else (
    nm (if x1 = (46 : Int32) then (8 : Int32) else (x1 - (48 : Int32))) (fun v14 =>
      gd (vp_in (σ.1 69 54) 12) (nm (zwr σ 99 (σ.1 69 54).toNatClampNeg v14) (fun s15 =>
        nm (zwr s15 69 15 ((s15.1 69 15) + (1 : Int32))) (fun s16 =>
          bd (F_X12_here s16) (fun q18 s17 =>
            bd (F_X12_in q18 (48 : Int32) (55 : Int32) s17) (fun q21 s20 =>
              if q21 = 0 then (
                bd (F_X12_wrongAt (1 : Int32) (s20.1 69 15) s20) (fun q25 s24 =>
                  gd (q25 = 0 ∨ q25 = 1) (some (q25, s24))))
              else (
                bd (F_X12_here s20) (fun q29 s28 =>
                  gd (vp_in (s20.1 69 54) 12) (nm (zwr s28 100 (s20.1 69 54).toNatClampNeg (q29 - (48 : Int32))) (fun s31 =>
                    nm (zwr s31 69 15 ((s31.1 69 15) + (1 : Int32))) (fun s32 =>
                      nm (zwr s32 69 54 ((s32.1 69 54) + (1 : Int32))) (fun s33 =>
                        some ((1 : Int32), s33))))))))))))))
set_option maxHeartbeats 4000000 in
set_option maxRecDepth 100000 in
theorem p_X12_readsNight_32 {G : zG} {C : zC} {r : Int32} {τ : zSt} (hR : zR G C (some .boolean) (some (.int r)) τ) (x1 : Int32) (σ : zSt) (h : F_X12_readsNight_32 x1 σ = some (r, τ)) : zAW G 2 RX12 cX12_readsNight 2 C 32 [(0, .ref (zad G 69)), (1, .int x1)] [] σ := by
  unfold F_X12_readsNight_32 at h
  refine z_aload e_X12_readsNight_32 0 rfl ?_
  refine z_geti gf_X12_425_69 e_X12_readsNight_33 ?_
  refine z_ic e_X12_readsNight_36 ?_
  refine z_icmp_ne e_X12_readsNight_38 h (fun c9 h => ?_) (fun c9 h => ?_)
  · refine z_aload e_X12_readsNight_41 0 rfl ?_
    refine z_ic e_X12_readsNight_42 ?_
    refine z_aload e_X12_readsNight_43 0 rfl ?_
    refine z_geti gf_X12_193_69 e_X12_readsNight_44 ?_
    obtain ⟨q11, s10, e12, h⟩ := bd_e h
    refine z_callVi (c0 := 69) (As := [.int (4 : Int32), .int (σ.1 69 15)]) (rest := []) lk_X12_206 ob_69 e_X12_readsNight_47 (m_X12_wrongAt G (4 : Int32) (σ.1 69 15) σ _ _ e12) (by decide) rfl (Nat.le_of_ble_eq_true rfl) ?_
    obtain ⟨hb13, h⟩ := gd_e h
    cases h
    exact z_zreturn hR e_X12_readsNight_50 hb13
  · refine z_aload e_X12_readsNight_51 0 rfl ?_
    refine z_getr gf_X12_98_69 e_X12_readsNight_52 ?_
    refine z_aload e_X12_readsNight_55 0 rfl ?_
    refine z_geti gf_X12_425_69 e_X12_readsNight_56 ?_
    refine z_iload e_X12_readsNight_59 1 rfl ?_
    refine z_ic e_X12_readsNight_60 ?_
    obtain ⟨v14, ev14, h⟩ := nm_i h
    have jv14 : zAW G 2 RX12 cX12_readsNight 2 C 74 [(0, .ref (zad G 69))] [.int v14, .int (σ.1 69 54), .ref (zad G 99)] σ := by
      refine z_iast sh_99 e_X12_readsNight_74 h (fun s15 h => ?_)
      refine z_aload e_X12_readsNight_75 0 rfl ?_
      refine z_aload e_X12_readsNight_76 0 rfl ?_
      refine z_geti gf_X12_193_69 e_X12_readsNight_77 ?_
      refine z_ic e_X12_readsNight_80 ?_
      refine z_iadd e_X12_readsNight_81 ?_
      refine z_puti pf_X12_193_69 e_X12_readsNight_82 h (fun s16 h => ?_)
      refine z_aload e_X12_readsNight_85 0 rfl ?_
      obtain ⟨q18, s17, e19, h⟩ := bd_e h
      refine z_callVi (c0 := 69) (As := []) (rest := []) lk_X12_199 ob_69 e_X12_readsNight_86 (m_X12_here G s16 _ _ e19) (by decide) rfl (Nat.le_of_ble_eq_true rfl) ?_
      refine z_ic e_X12_readsNight_89 ?_
      refine z_ic e_X12_readsNight_91 ?_
      obtain ⟨q21, s20, e22, h⟩ := bd_e h
      refine z_callSi (As := [.int q18, .int (48 : Int32), .int (55 : Int32)]) (rest := []) lk_X12_163 e_X12_readsNight_93 (m_X12_in G q18 (48 : Int32) (55 : Int32) s17 _ _ e22) (by decide) rfl (Nat.le_of_ble_eq_true rfl) ?_
      refine z_if_ne e_X12_readsNight_96 h (fun c23 h => ?_) (fun c23 h => ?_)
      · refine z_aload e_X12_readsNight_99 0 rfl ?_
        refine z_ic e_X12_readsNight_100 ?_
        refine z_aload e_X12_readsNight_101 0 rfl ?_
        refine z_geti gf_X12_193_69 e_X12_readsNight_102 ?_
        obtain ⟨q25, s24, e26, h⟩ := bd_e h
        refine z_callVi (c0 := 69) (As := [.int (1 : Int32), .int (s20.1 69 15)]) (rest := []) lk_X12_206 ob_69 e_X12_readsNight_105 (m_X12_wrongAt G (1 : Int32) (s20.1 69 15) s20 _ _ e26) (by decide) rfl (Nat.le_of_ble_eq_true rfl) ?_
        obtain ⟨hb27, h⟩ := gd_e h
        cases h
        exact z_zreturn hR e_X12_readsNight_108 hb27
      · refine z_aload e_X12_readsNight_109 0 rfl ?_
        refine z_getr gf_X12_101_69 e_X12_readsNight_110 ?_
        refine z_aload e_X12_readsNight_113 0 rfl ?_
        refine z_geti gf_X12_425_69 e_X12_readsNight_114 ?_
        refine z_aload e_X12_readsNight_117 0 rfl ?_
        obtain ⟨q29, s28, e30, h⟩ := bd_e h
        refine z_callVi (c0 := 69) (As := []) (rest := [.int (s20.1 69 54), .ref (zad G 100)]) lk_X12_199 ob_69 e_X12_readsNight_118 (m_X12_here G s20 _ _ e30) (by decide) rfl (Nat.le_of_ble_eq_true rfl) ?_
        refine z_ic e_X12_readsNight_121 ?_
        refine z_isub e_X12_readsNight_123 ?_
        refine z_iast sh_100 e_X12_readsNight_124 h (fun s31 h => ?_)
        refine z_aload e_X12_readsNight_125 0 rfl ?_
        refine z_aload e_X12_readsNight_126 0 rfl ?_
        refine z_geti gf_X12_193_69 e_X12_readsNight_127 ?_
        refine z_ic e_X12_readsNight_130 ?_
        refine z_iadd e_X12_readsNight_131 ?_
        refine z_puti pf_X12_193_69 e_X12_readsNight_132 h (fun s32 h => ?_)
        refine z_aload e_X12_readsNight_135 0 rfl ?_
        refine z_aload e_X12_readsNight_136 0 rfl ?_
        refine z_geti gf_X12_425_69 e_X12_readsNight_137 ?_
        refine z_ic e_X12_readsNight_140 ?_
        refine z_iadd e_X12_readsNight_141 ?_
        refine z_puti pf_X12_425_69 e_X12_readsNight_142 h (fun s33 h => ?_)
        refine z_ic e_X12_readsNight_145 ?_
        cases h
        exact z_zreturn hR e_X12_readsNight_146 (Or.inr rfl)
    refine y_icmp_ne e_X12_readsNight_62 (fun c34 => ?_) (fun c34 => ?_)
    · refine z_ic e_X12_readsNight_65 ?_
      refine z_goto e_X12_readsNight_67 ?_
      rw [if_pos c34] at ev14
      subst ev14
      exact z_sub [0] rfl jv14
    · refine z_iload e_X12_readsNight_70 1 rfl ?_
      refine z_ic e_X12_readsNight_71 ?_
      refine z_isub e_X12_readsNight_73 ?_
      rw [if_neg c34] at ev14
      subst ev14
      exact z_sub [0] rfl jv14
noncomputable def F_X12_readsNight_0 (σ : zSt) : Option (Int32 × zSt) :=
  bd (F_X12_here σ) (fun q2 s1 =>
    bd (F_X12_in q2 (48 : Int32) (55 : Int32) s1) (fun q5 s4 =>
      if q5 = 0 then (
        if q2 = (46 : Int32) then (
          F_X12_readsNight_32 q2 s4)
        else (
          bd (F_X12_wrongAt (1 : Int32) (s4.1 69 15) s4) (fun q36 s35 =>
            gd (q36 = 0 ∨ q36 = 1) (some (q36, s35)))))
      else (
        F_X12_readsNight_32 q2 s4)))
set_option maxHeartbeats 4000000 in
set_option maxRecDepth 100000 in
theorem p_X12_readsNight_0 {G : zG} {C : zC} {r : Int32} {τ : zSt} (hR : zR G C (some .boolean) (some (.int r)) τ)  (σ : zSt) (h : F_X12_readsNight_0 σ = some (r, τ)) : zAW G 2 RX12 cX12_readsNight 2 C 0 [(0, .ref (zad G 69))] [] σ := by
  unfold F_X12_readsNight_0 at h
  refine z_aload e_X12_readsNight_0 0 rfl ?_
  obtain ⟨q2, s1, e3, h⟩ := bd_e h
  refine z_callVi (c0 := 69) (As := []) (rest := []) lk_X12_199 ob_69 e_X12_readsNight_1 (m_X12_here G σ _ _ e3) (by decide) rfl (Nat.le_of_ble_eq_true rfl) ?_
  refine z_istore e_X12_readsNight_4 (by decide) [(1, .int q2), (0, .ref (zad G 69))] rfl ?_
  refine z_iload e_X12_readsNight_5 0 rfl ?_
  refine z_ic e_X12_readsNight_6 ?_
  refine z_ic e_X12_readsNight_8 ?_
  obtain ⟨q5, s4, e6, h⟩ := bd_e h
  refine z_callSi (As := [.int q2, .int (48 : Int32), .int (55 : Int32)]) (rest := []) lk_X12_163 e_X12_readsNight_10 (m_X12_in G q2 (48 : Int32) (55 : Int32) s1 _ _ e6) (by decide) rfl (Nat.le_of_ble_eq_true rfl) ?_
  refine z_if_ne e_X12_readsNight_13 h (fun c7 h => ?_) (fun c7 h => ?_)
  · refine z_iload e_X12_readsNight_16 0 rfl ?_
    refine z_ic e_X12_readsNight_17 ?_
    refine z_icmp_eq e_X12_readsNight_19 h (fun c8 h => ?_) (fun c8 h => ?_)
    · exact z_sub [1, 0] rfl (p_X12_readsNight_32 hR q2 s4 h)
    · refine z_aload e_X12_readsNight_22 1 rfl ?_
      refine z_ic e_X12_readsNight_23 ?_
      refine z_aload e_X12_readsNight_24 1 rfl ?_
      refine z_geti gf_X12_193_69 e_X12_readsNight_25 ?_
      obtain ⟨q36, s35, e37, h⟩ := bd_e h
      refine z_callVi (c0 := 69) (As := [.int (1 : Int32), .int (s4.1 69 15)]) (rest := []) lk_X12_206 ob_69 e_X12_readsNight_28 (m_X12_wrongAt G (1 : Int32) (s4.1 69 15) s4 _ _ e37) (by decide) rfl (Nat.le_of_ble_eq_true rfl) ?_
      obtain ⟨hb38, h⟩ := gd_e h
      cases h
      exact z_zreturn hR e_X12_readsNight_31 hb38
  · exact z_sub [1, 0] rfl (p_X12_readsNight_32 hR q2 s4 h)
noncomputable def F_X12_readsNight (σ : zSt) : Option (Int32 × zSt) := F_X12_readsNight_0  σ
set_option maxRecDepth 100000 in
theorem m_X12_readsNight (G : zG) (σ : zSt) (q : Int32) (τ : zSt) (h : F_X12_readsNight  σ = some (q, τ)) : zM G 2 yX12_readsNight cX12_readsNight 2 (some .boolean) [.ref (zad G 69)] σ (some (.int q)) τ := by
  unfold F_X12_readsNight at h
  refine zM.of (own := RX12) (by decide +kernel) rfl (Nat.le_of_ble_eq_true rfl) (fun C hR => ?_)
  exact z_sub [0] rfl (p_X12_readsNight_0 hR  σ h)
noncomputable def F_X12_readsStory_60 (x2 : Int32) (σ : zSt) : Option (Int32 × zSt) :=
  nm (zwr σ 69 14 (0 : Int32)) (fun s8 =>
    gd (x2 = 0 ∨ x2 = 1) (some (x2, s8)))
set_option maxHeartbeats 4000000 in
set_option maxRecDepth 100000 in
theorem p_X12_readsStory_60 {G : zG} {C : zC} {r : Int32} {τ : zSt} (hR : zR G C (some .boolean) (some (.int r)) τ) (x2 : Int32) (σ : zSt) (h : F_X12_readsStory_60 x2 σ = some (r, τ)) : zAW G 3 RX12 cX12_readsStory 3 C 60 [(0, .ref (zad G 69)), (2, .int x2)] [] σ := by
  unfold F_X12_readsStory_60 at h
  refine z_aload e_X12_readsStory_60 0 rfl ?_
  refine z_ic e_X12_readsStory_61 ?_
  refine z_puti pf_X12_186_69 e_X12_readsStory_62 h (fun s8 h => ?_)
  refine z_iload e_X12_readsStory_65 1 rfl ?_
  obtain ⟨hb9, h⟩ := gd_e h
  cases h
  exact z_zreturn hR e_X12_readsStory_66 hb9
noncomputable def F_X12_readsStory_56 (w20 : (Int32 × zSt) → Option (Int32 × zSt)) (t0 : Int32) (σ : zSt) : Option (Int32 × zSt) :=
  w20 (t0, σ)
set_option maxHeartbeats 4000000 in
set_option maxRecDepth 100000 in
theorem p_X12_readsStory_56 {G : zG} {C : zC} {r : Int32} {τ : zSt} (hR : zR G C (some .boolean) (some (.int r)) τ) (w20 : (Int32 × zSt) → Option (Int32 × zSt)) (t0 : Int32) (hw20 : ∀ (x2 : Int32) (σ : zSt), w20 (x2, σ) = some (r, τ) → zAW G 3 RX12 cX12_readsStory 3 C 20 [(0, .ref (zad G 69)), (2, .int x2)] [] σ) (σ : zSt) (h : F_X12_readsStory_56 w20 t0 σ = some (r, τ)) : zAW G 3 RX12 cX12_readsStory 3 C 56 [(0, .ref (zad G 69))] [.int t0] σ := by
  unfold F_X12_readsStory_56 at h
  refine z_istore e_X12_readsStory_56 (by decide) [(2, .int t0), (0, .ref (zad G 69))] rfl ?_
  refine z_goto e_X12_readsStory_57 ?_
  exact z_sub [1, 0] rfl (hw20 t0 σ h)
noncomputable def F_X12_readsStory_55 (w20 : (Int32 × zSt) → Option (Int32 × zSt)) (σ : zSt) : Option (Int32 × zSt) :=
  F_X12_readsStory_56 w20 (0 : Int32) σ
set_option maxHeartbeats 4000000 in
set_option maxRecDepth 100000 in
theorem p_X12_readsStory_55 {G : zG} {C : zC} {r : Int32} {τ : zSt} (hR : zR G C (some .boolean) (some (.int r)) τ) (w20 : (Int32 × zSt) → Option (Int32 × zSt)) (hw20 : ∀ (x2 : Int32) (σ : zSt), w20 (x2, σ) = some (r, τ) → zAW G 3 RX12 cX12_readsStory 3 C 20 [(0, .ref (zad G 69)), (2, .int x2)] [] σ) (σ : zSt) (h : F_X12_readsStory_55 w20 σ = some (r, τ)) : zAW G 3 RX12 cX12_readsStory 3 C 55 [(0, .ref (zad G 69))] [] σ := by
  unfold F_X12_readsStory_55 at h
  refine z_ic e_X12_readsStory_55 ?_
  exact z_sub [0] rfl (p_X12_readsStory_56 hR w20 (0 : Int32) hw20 σ h)
noncomputable def F_X12_readsStory_20 (w20 : (Int32 × zSt) → Option (Int32 × zSt)) (x2 : Int32) (σ : zSt) : Option (Int32 × zSt) :=
  if x2 = 0 then (
    F_X12_readsStory_60 x2 σ)
  else (
    if (σ.1 69 16) ≤ (σ.1 69 15) then (
      F_X12_readsStory_60 x2 σ)
    else (
      bd (F_X12_takes (44 : Int32) σ) (fun q12 s11 =>
        if q12 = 0 then (
          F_X12_readsStory_55 w20 s11)
        else (
          bd (F_X12_readsNight s11) (fun q16 s15 =>
            nm (if q16 = 0 then (0 : Int32) else (1 : Int32)) (fun v18 =>
              w20 (v18, s15)))))))
set_option maxHeartbeats 4000000 in
set_option maxRecDepth 100000 in
theorem b_X12_readsStory_20 {G : zG} {C : zC} {r : Int32} {τ : zSt} (hR : zR G C (some .boolean) (some (.int r)) τ) (w20 : (Int32 × zSt) → Option (Int32 × zSt)) (hw20 : ∀ (x2 : Int32) (σ : zSt), w20 (x2, σ) = some (r, τ) → zAW G 3 RX12 cX12_readsStory 3 C 20 [(0, .ref (zad G 69)), (2, .int x2)] [] σ) (x2 : Int32) (σ : zSt) (h : F_X12_readsStory_20 w20 x2 σ = some (r, τ)) : zAW G 3 RX12 cX12_readsStory 3 C 20 [(0, .ref (zad G 69)), (2, .int x2)] [] σ := by
  unfold F_X12_readsStory_20 at h
  refine z_iload e_X12_readsStory_20 1 rfl ?_
  refine z_if_eq e_X12_readsStory_21 h (fun c7 h => ?_) (fun c7 h => ?_)
  · exact z_sub [0, 1] rfl (p_X12_readsStory_60 hR x2 σ h)
  · refine z_aload e_X12_readsStory_24 0 rfl ?_
    refine z_geti gf_X12_193_69 e_X12_readsStory_25 ?_
    refine z_aload e_X12_readsStory_28 0 rfl ?_
    refine z_geti gf_X12_196_69 e_X12_readsStory_29 ?_
    refine z_icmp_ge e_X12_readsStory_32 h (fun c10 h => ?_) (fun c10 h => ?_)
    · exact z_sub [0, 1] rfl (p_X12_readsStory_60 hR x2 σ h)
    · refine z_aload e_X12_readsStory_35 0 rfl ?_
      refine z_ic e_X12_readsStory_36 ?_
      obtain ⟨q12, s11, e13, h⟩ := bd_e h
      refine z_callVi (c0 := 69) (As := [.int (44 : Int32)]) (rest := []) lk_X12_279 ob_69 e_X12_readsStory_38 (m_X12_takes G (44 : Int32) σ _ _ e13) (by decide) rfl (Nat.le_of_ble_eq_true rfl) ?_
      refine z_if_eq e_X12_readsStory_41 h (fun c14 h => ?_) (fun c14 h => ?_)
      · exact z_sub [0] rfl (p_X12_readsStory_55 hR w20 hw20 s11 h)
      · refine z_aload e_X12_readsStory_44 0 rfl ?_
        obtain ⟨q16, s15, e17, h⟩ := bd_e h
        refine z_callVi (c0 := 69) (As := []) (rest := []) lk_X12_428 ob_69 e_X12_readsStory_45 (m_X12_readsNight G s11 _ _ e17) (by decide) rfl (Nat.le_of_ble_eq_true rfl) ?_
        obtain ⟨v18, ev18, h⟩ := nm_i h
        have jv18 : zAW G 3 RX12 cX12_readsStory 3 C 56 [(0, .ref (zad G 69))] [.int v18] s15 := by
          refine z_istore e_X12_readsStory_56 (by decide) [(2, .int v18), (0, .ref (zad G 69))] rfl ?_
          refine z_goto e_X12_readsStory_57 ?_
          exact z_sub [1, 0] rfl (hw20 v18 s15 h)
        refine y_if_eq e_X12_readsStory_48 (fun c19 => ?_) (fun c19 => ?_)
        · refine z_ic e_X12_readsStory_55 ?_
          rw [if_pos c19] at ev18
          subst ev18
          exact z_sub [0] rfl jv18
        · refine z_ic e_X12_readsStory_51 ?_
          refine z_goto e_X12_readsStory_52 ?_
          rw [if_neg c19] at ev18
          subst ev18
          exact z_sub [0] rfl jv18
noncomputable def F_X12_readsStory_20L  : ((Int32 × zSt) → Option (Int32 × zSt)) → (Int32 × zSt) → Option (Int32 × zSt) := fun w s => F_X12_readsStory_20 w s.1 s.2
set_option maxRecDepth 100000 in
theorem l_X12_readsStory_20 {G : zG} {C : zC} {r : Int32} {τ : zSt} (hR : zR G C (some .boolean) (some (.int r)) τ)  : ∀ (N : Nat) (x2 : Int32) (σ : zSt), zfix (F_X12_readsStory_20L ) N (x2, σ) = some (r, τ) → zAW G 3 RX12 cX12_readsStory 3 C 20 [(0, .ref (zad G 69)), (2, .int x2)] [] σ := by
  intro N
  induction N with
  | zero =>
    intro x2 σ h
    exact nomatch (show (none : Option (Int32 × zSt)) = some (r, τ) from h)
  | succ N ih =>
    intro x2 σ h
    exact b_X12_readsStory_20 hR (zfix (F_X12_readsStory_20L ) N) ih x2 σ h
noncomputable def F_X12_readsStory_0 (x1 : Int32) (σ : zSt) : Option (Int32 × zSt) :=
  nm (zwr σ 69 15 (0 : Int32)) (fun s1 =>
    nm (zwr s1 69 16 x1) (fun s2 =>
      nm (zwr s2 69 54 (0 : Int32)) (fun s3 =>
        bd (F_X12_readsNight s3) (fun q5 s4 =>
          zfix (F_X12_readsStory_20L ) zlim (q5, s4)))))
set_option maxHeartbeats 4000000 in
set_option maxRecDepth 100000 in
theorem p_X12_readsStory_0 {G : zG} {C : zC} {r : Int32} {τ : zSt} (hR : zR G C (some .boolean) (some (.int r)) τ) (x1 : Int32) (σ : zSt) (h : F_X12_readsStory_0 x1 σ = some (r, τ)) : zAW G 3 RX12 cX12_readsStory 3 C 0 [(0, .ref (zad G 69)), (1, .int x1)] [] σ := by
  unfold F_X12_readsStory_0 at h
  refine z_aload e_X12_readsStory_0 0 rfl ?_
  refine z_ic e_X12_readsStory_1 ?_
  refine z_puti pf_X12_193_69 e_X12_readsStory_2 h (fun s1 h => ?_)
  refine z_aload e_X12_readsStory_5 0 rfl ?_
  refine z_iload e_X12_readsStory_6 1 rfl ?_
  refine z_puti pf_X12_196_69 e_X12_readsStory_7 h (fun s2 h => ?_)
  refine z_aload e_X12_readsStory_10 0 rfl ?_
  refine z_ic e_X12_readsStory_11 ?_
  refine z_puti pf_X12_425_69 e_X12_readsStory_12 h (fun s3 h => ?_)
  refine z_aload e_X12_readsStory_15 0 rfl ?_
  obtain ⟨q5, s4, e6, h⟩ := bd_e h
  refine z_callVi (c0 := 69) (As := []) (rest := []) lk_X12_428 ob_69 e_X12_readsStory_16 (m_X12_readsNight G s3 _ _ e6) (by decide) rfl (Nat.le_of_ble_eq_true rfl) ?_
  refine z_istore e_X12_readsStory_19 (by decide) [(2, .int q5), (0, .ref (zad G 69)), (1, .int x1)] rfl ?_
  exact z_sub [1, 0] rfl (l_X12_readsStory_20 hR  zlim q5 s4 h)
noncomputable def F_X12_readsStory (x1 : Int32) (σ : zSt) : Option (Int32 × zSt) := F_X12_readsStory_0 x1 σ
set_option maxRecDepth 100000 in
theorem m_X12_readsStory (G : zG) (x1 : Int32) (σ : zSt) (q : Int32) (τ : zSt) (h : F_X12_readsStory x1 σ = some (q, τ)) : zM G 3 yX12_readsStory cX12_readsStory 3 (some .boolean) [.ref (zad G 69), .int x1] σ (some (.int q)) τ := by
  unfold F_X12_readsStory at h
  refine zM.of (own := RX12) (by decide +kernel) rfl (Nat.le_of_ble_eq_true rfl) (fun C hR => ?_)
  exact z_sub [0, 1] rfl (p_X12_readsStory_0 hR x1 σ h)
noncomputable def F_X12_arePlaces_0 (x1 : Int32) (σ : zSt) : Option (Int32 × zSt) :=
  if x1 ≤ 0 then (
    some ((0 : Int32), σ))
  else (
    if (x1 &&& ((σ.1 69 0) ^^^ (-1 : Int32))) = 0 then (
      some ((1 : Int32), σ))
    else (
      some ((0 : Int32), σ)))
set_option maxHeartbeats 4000000 in
set_option maxRecDepth 100000 in
theorem p_X12_arePlaces_0 {G : zG} {C : zC} {r : Int32} {τ : zSt} (hR : zR G C (some .boolean) (some (.int r)) τ) (x1 : Int32) (σ : zSt) (h : F_X12_arePlaces_0 x1 σ = some (r, τ)) : zAW G 1 RX12 cX12_arePlaces 2 C 0 [(0, .ref (zad G 69)), (1, .int x1)] [] σ := by
  unfold F_X12_arePlaces_0 at h
  refine z_iload e_X12_arePlaces_0 1 rfl ?_
  refine z_if_le e_X12_arePlaces_1 h (fun c1 h => ?_) (fun c1 h => ?_)
  · refine z_ic e_X12_arePlaces_19 ?_
    cases h
    exact z_zreturn hR e_X12_arePlaces_20 (Or.inl rfl)
  · refine z_iload e_X12_arePlaces_4 1 rfl ?_
    refine z_aload e_X12_arePlaces_5 0 rfl ?_
    refine z_geti gf_X12_153_69 e_X12_arePlaces_6 ?_
    refine z_ic e_X12_arePlaces_9 ?_
    refine z_ixor e_X12_arePlaces_10 ?_
    refine z_iand e_X12_arePlaces_11 ?_
    refine z_if_ne e_X12_arePlaces_12 h (fun c2 h => ?_) (fun c2 h => ?_)
    · refine z_ic e_X12_arePlaces_15 ?_
      refine z_goto e_X12_arePlaces_16 ?_
      cases h
      exact z_zreturn hR e_X12_arePlaces_20 (Or.inr rfl)
    · refine z_ic e_X12_arePlaces_19 ?_
      cases h
      exact z_zreturn hR e_X12_arePlaces_20 (Or.inl rfl)
noncomputable def F_X12_arePlaces (x1 : Int32) (σ : zSt) : Option (Int32 × zSt) := F_X12_arePlaces_0 x1 σ
set_option maxRecDepth 100000 in
theorem m_X12_arePlaces (G : zG) (x1 : Int32) (σ : zSt) (q : Int32) (τ : zSt) (h : F_X12_arePlaces x1 σ = some (q, τ)) : zM G 1 yX12_arePlaces cX12_arePlaces 2 (some .boolean) [.ref (zad G 69), .int x1] σ (some (.int q)) τ := by
  unfold F_X12_arePlaces at h
  refine zM.of (own := RX12) (by decide +kernel) rfl (Nat.le_of_ble_eq_true rfl) (fun C hR => ?_)
  exact z_sub [0, 1] rfl (p_X12_arePlaces_0 hR x1 σ h)
noncomputable def F_X12_weights_4 (w4 : (Int64 × Int32 × zSt) → Option (Int64 × zSt)) (x1 : Int64) (x3 : Int32) (σ : zSt) : Option (Int64 × zSt) :=
  if (8 : Int32) ≤ x3 then (
    some (x1, σ))
  else (
    gd (vp_in x3 8) (
      nm (x1 + (σ.2 101 x3.toNatClampNeg)) (fun v2 =>
        nm (x3 + (1 : Int32)) (fun v3 =>
          w4 (v2, v3, σ)))))
set_option maxHeartbeats 4000000 in
set_option maxRecDepth 100000 in
theorem b_X12_weights_4 {G : zG} {C : zC} {r : Int64} {τ : zSt} (hR : zR G C (some .long) (some (.long r)) τ) (w4 : (Int64 × Int32 × zSt) → Option (Int64 × zSt)) (hw4 : ∀ (x1 : Int64) (x3 : Int32) (σ : zSt), w4 (x1, x3, σ) = some (r, τ) → zAW G 1 RX12 cX12_weights 4 C 4 [(0, .ref (zad G 69)), (1, .long x1), (3, .int x3)] [] σ) (x1 : Int64) (x3 : Int32) (σ : zSt) (h : F_X12_weights_4 w4 x1 x3 σ = some (r, τ)) : zAW G 1 RX12 cX12_weights 4 C 4 [(0, .ref (zad G 69)), (1, .long x1), (3, .int x3)] [] σ := by
  unfold F_X12_weights_4 at h
  refine z_iload e_X12_weights_4 2 rfl ?_
  refine z_ic e_X12_weights_5 ?_
  refine z_icmp_ge e_X12_weights_7 h (fun c1 h => ?_) (fun c1 h => ?_)
  · refine z_lload e_X12_weights_25 1 rfl ?_
    cases h
    exact z_lreturn hR e_X12_weights_26
  · refine z_lload e_X12_weights_10 1 rfl ?_
    refine z_aload e_X12_weights_11 0 rfl ?_
    refine z_getr gf_X12_104_69 e_X12_weights_12 ?_
    refine z_iload e_X12_weights_15 2 rfl ?_
    refine z_lald sh_101 e_X12_weights_16 h (fun h => ?_)
    refine z_ladd e_X12_weights_17 ?_
    refine z_nmL h (fun v2 h => ?_)
    refine z_lstore e_X12_weights_18 (by decide) [(1, .long v2), (0, .ref (zad G 69)), (3, .int x3)] rfl ?_
    refine z_iinc e_X12_weights_19 2 rfl (by decide) (by decide) h (fun y => [(3, .int y), (1, .long v2), (0, .ref (zad G 69))]) (fun _ => rfl) (fun v3 h => ?_)
    refine z_goto e_X12_weights_22 ?_
    exact z_sub [2, 1, 0] rfl (hw4 v2 v3 σ h)
noncomputable def F_X12_weights_4L  : ((Int64 × Int32 × zSt) → Option (Int64 × zSt)) → (Int64 × Int32 × zSt) → Option (Int64 × zSt) := fun w s => F_X12_weights_4 w s.1 s.2.1 s.2.2
set_option maxRecDepth 100000 in
theorem l_X12_weights_4 {G : zG} {C : zC} {r : Int64} {τ : zSt} (hR : zR G C (some .long) (some (.long r)) τ)  : ∀ (N : Nat) (x1 : Int64) (x3 : Int32) (σ : zSt), zfix (F_X12_weights_4L ) N (x1, x3, σ) = some (r, τ) → zAW G 1 RX12 cX12_weights 4 C 4 [(0, .ref (zad G 69)), (1, .long x1), (3, .int x3)] [] σ := by
  intro N
  induction N with
  | zero =>
    intro x1 x3 σ h
    exact nomatch (show (none : Option (Int64 × zSt)) = some (r, τ) from h)
  | succ N ih =>
    intro x1 x3 σ h
    exact b_X12_weights_4 hR (zfix (F_X12_weights_4L ) N) ih x1 x3 σ h
noncomputable def F_X12_weights_0 (σ : zSt) : Option (Int64 × zSt) :=
  zfix (F_X12_weights_4L ) zlim ((0 : Int64), (0 : Int32), σ)
set_option maxHeartbeats 4000000 in
set_option maxRecDepth 100000 in
theorem p_X12_weights_0 {G : zG} {C : zC} {r : Int64} {τ : zSt} (hR : zR G C (some .long) (some (.long r)) τ)  (σ : zSt) (h : F_X12_weights_0 σ = some (r, τ)) : zAW G 1 RX12 cX12_weights 4 C 0 [(0, .ref (zad G 69))] [] σ := by
  unfold F_X12_weights_0 at h
  refine z_lconst 0 e_X12_weights_0 rfl ?_
  refine z_lstore e_X12_weights_1 (by decide) [(1, .long (0 : Int64)), (0, .ref (zad G 69))] rfl ?_
  refine z_ic e_X12_weights_2 ?_
  refine z_istore e_X12_weights_3 (by decide) [(3, .int (0 : Int32)), (1, .long (0 : Int64)), (0, .ref (zad G 69))] rfl ?_
  exact z_sub [2, 1, 0] rfl (l_X12_weights_4 hR  zlim (0 : Int64) (0 : Int32) σ h)
noncomputable def F_X12_weights (σ : zSt) : Option (Int64 × zSt) := F_X12_weights_0  σ
set_option maxRecDepth 100000 in
theorem m_X12_weights (G : zG) (σ : zSt) (q : Int64) (τ : zSt) (h : F_X12_weights  σ = some (q, τ)) : zM G 1 yX12_weights cX12_weights 4 (some .long) [.ref (zad G 69)] σ (some (.long q)) τ := by
  unfold F_X12_weights at h
  refine zM.of (own := RX12) (by decide +kernel) rfl (Nat.le_of_ble_eq_true rfl) (fun C hR => ?_)
  exact z_sub [0] rfl (p_X12_weights_0 hR  σ h)
noncomputable def F_X12_spreads_122 (w27 : (Int32 × zSt) → Option (Unit × zSt)) (x1 : Int32) (x2 : Int32) (x3 : Int32) (x4 : Int32) (σ : zSt) : Option (Unit × zSt) :=
  nm (x4 + (1 : Int32)) (fun v4 =>
    w27 (v4, σ))
set_option maxHeartbeats 4000000 in
set_option maxRecDepth 100000 in
theorem p_X12_spreads_122 {G : zG} {C : zC} {r : Unit} {τ : zSt} (hR : zR G C none none τ) (w27 : (Int32 × zSt) → Option (Unit × zSt)) (x1 : Int32) (x2 : Int32) (x3 : Int32) (x4 : Int32) (hw27 : ∀ (x4 : Int32) (σ : zSt), w27 (x4, σ) = some (r, τ) → zAW G 6 RX12 cX12_spreads 8 C 27 [(0, .ref (zad G 69)), (1, .int x1), (2, .int x2), (3, .int x3), (4, .int x4)] [] σ) (σ : zSt) (h : F_X12_spreads_122 w27 x1 x2 x3 x4 σ = some (r, τ)) : zAW G 6 RX12 cX12_spreads 8 C 122 [(0, .ref (zad G 69)), (1, .int x1), (2, .int x2), (3, .int x3), (4, .int x4)] [] σ := by
  unfold F_X12_spreads_122 at h
  refine z_iinc e_X12_spreads_122 4 rfl (by decide) (by decide) h (fun y => [(4, .int y), (0, .ref (zad G 69)), (1, .int x1), (2, .int x2), (3, .int x3)]) (fun _ => rfl) (fun v4 h => ?_)
  refine z_goto e_X12_spreads_125 ?_
  exact z_sub [1, 2, 3, 4, 0] rfl (hw27 v4 σ h)
noncomputable def F_X12_spreads_37 (w27 : (Int32 × zSt) → Option (Unit × zSt)) (x1 : Int32) (x2 : Int32) (x3 : Int32) (x4 : Int32) (w37 : (Int32 × zSt) → Option (Unit × zSt)) (x5 : Int32) (σ : zSt) : Option (Unit × zSt) :=
  if (10 : Int32) ≤ x5 then (
    F_X12_spreads_122 w27 x1 x2 x3 x4 σ)
  else (
    gd (vp_in x4 8) (
      if (lg_cmp (σ.2 101 x4.toNatClampNeg) (0 : Int64)) ≤ 0 then (
        F_X12_spreads_122 w27 x1 x2 x3 x4 σ)
      else (
        bd (F_X12_movesTo x1 x4 x2 x3 x5 σ) (fun q7 s6 =>
          bd (F_X12_saysOf x1 q7 x2 x3 x5 s6) (fun q10 s9 =>
            gd (vp_in (((8 : Int32) * q10) + q7) 64) (
              gd (vp_in x4 8) (
                gd (vp_in (((8 : Int32) * q10) + q7) 64) (nm (zwrL s9 102 (((8 : Int32) * q10) + q7).toNatClampNeg ((s9.2 102 (((8 : Int32) * q10) + q7).toNatClampNeg) + (s9.2 101 x4.toNatClampNeg))) (fun s12 =>
                  nm (x5 + (1 : Int32)) (fun v13 =>
                    w37 (v13, s12)))))))))))
set_option maxHeartbeats 4000000 in
set_option maxRecDepth 100000 in
theorem b_X12_spreads_37 {G : zG} {C : zC} {r : Unit} {τ : zSt} (hR : zR G C none none τ) (w27 : (Int32 × zSt) → Option (Unit × zSt)) (x1 : Int32) (x2 : Int32) (x3 : Int32) (x4 : Int32) (hw27 : ∀ (x4 : Int32) (σ : zSt), w27 (x4, σ) = some (r, τ) → zAW G 6 RX12 cX12_spreads 8 C 27 [(0, .ref (zad G 69)), (1, .int x1), (2, .int x2), (3, .int x3), (4, .int x4)] [] σ) (w37 : (Int32 × zSt) → Option (Unit × zSt)) (hw37 : ∀ (x5 : Int32) (σ : zSt), w37 (x5, σ) = some (r, τ) → zAW G 6 RX12 cX12_spreads 8 C 37 [(0, .ref (zad G 69)), (1, .int x1), (2, .int x2), (3, .int x3), (4, .int x4), (5, .int x5)] [] σ) (x5 : Int32) (σ : zSt) (h : F_X12_spreads_37 w27 x1 x2 x3 x4 w37 x5 σ = some (r, τ)) : zAW G 6 RX12 cX12_spreads 8 C 37 [(0, .ref (zad G 69)), (1, .int x1), (2, .int x2), (3, .int x3), (4, .int x4), (5, .int x5)] [] σ := by
  unfold F_X12_spreads_37 at h
  refine z_iload e_X12_spreads_37 5 rfl ?_
  refine z_ic e_X12_spreads_39 ?_
  refine z_icmp_ge e_X12_spreads_41 h (fun c3 h => ?_) (fun c3 h => ?_)
  · exact z_sub [0, 1, 2, 3, 4] rfl (p_X12_spreads_122 hR w27 x1 x2 x3 x4 hw27 σ h)
  · refine z_aload e_X12_spreads_44 0 rfl ?_
    refine z_getr gf_X12_104_69 e_X12_spreads_45 ?_
    refine z_iload e_X12_spreads_48 4 rfl ?_
    refine z_lald sh_101 e_X12_spreads_50 h (fun h => ?_)
    refine z_lconst 0 e_X12_spreads_51 rfl ?_
    refine z_lcmp e_X12_spreads_52 ?_
    refine z_if_le e_X12_spreads_53 h (fun c5 h => ?_) (fun c5 h => ?_)
    · exact z_sub [0, 1, 2, 3, 4] rfl (p_X12_spreads_122 hR w27 x1 x2 x3 x4 hw27 σ h)
    · refine z_aload e_X12_spreads_56 0 rfl ?_
      refine z_iload e_X12_spreads_57 1 rfl ?_
      refine z_iload e_X12_spreads_58 4 rfl ?_
      refine z_iload e_X12_spreads_60 2 rfl ?_
      refine z_iload e_X12_spreads_61 3 rfl ?_
      refine z_iload e_X12_spreads_62 5 rfl ?_
      obtain ⟨q7, s6, e8, h⟩ := bd_e h
      refine z_callVi (c0 := 69) (As := [.int x1, .int x4, .int x2, .int x3, .int x5]) (rest := []) lk_X12_310 ob_69 e_X12_spreads_64 (m_X12_movesTo G x1 x4 x2 x3 x5 σ _ _ e8) (by decide) rfl (Nat.le_of_ble_eq_true rfl) ?_
      refine z_istore e_X12_spreads_67 (by decide) [(6, .int q7), (0, .ref (zad G 69)), (1, .int x1), (2, .int x2), (3, .int x3), (4, .int x4), (5, .int x5)] rfl ?_
      refine z_aload e_X12_spreads_69 1 rfl ?_
      refine z_iload e_X12_spreads_70 2 rfl ?_
      refine z_iload e_X12_spreads_71 0 rfl ?_
      refine z_iload e_X12_spreads_73 3 rfl ?_
      refine z_iload e_X12_spreads_74 4 rfl ?_
      refine z_iload e_X12_spreads_75 6 rfl ?_
      obtain ⟨q10, s9, e11, h⟩ := bd_e h
      refine z_callVi (c0 := 69) (As := [.int x1, .int q7, .int x2, .int x3, .int x5]) (rest := []) lk_X12_314 ob_69 e_X12_spreads_77 (m_X12_saysOf G x1 q7 x2 x3 x5 s6 _ _ e11) (by decide) rfl (Nat.le_of_ble_eq_true rfl) ?_
      refine z_istore e_X12_spreads_80 (by decide) [(7, .int q10), (6, .int q7), (0, .ref (zad G 69)), (1, .int x1), (2, .int x2), (3, .int x3), (4, .int x4), (5, .int x5)] rfl ?_
      refine z_aload e_X12_spreads_82 2 rfl ?_
      refine z_getr gf_X12_108_69 e_X12_spreads_83 ?_
      refine z_ic e_X12_spreads_86 ?_
      refine z_iload e_X12_spreads_88 0 rfl ?_
      refine z_imul e_X12_spreads_90 ?_
      refine z_iload e_X12_spreads_91 1 rfl ?_
      refine z_iadd e_X12_spreads_93 ?_
      refine z_aload e_X12_spreads_94 2 rfl ?_
      refine z_getr gf_X12_108_69 e_X12_spreads_95 ?_
      refine z_ic e_X12_spreads_98 ?_
      refine z_iload e_X12_spreads_100 0 rfl ?_
      refine z_imul e_X12_spreads_102 ?_
      refine z_iload e_X12_spreads_103 1 rfl ?_
      refine z_iadd e_X12_spreads_105 ?_
      refine z_lald sh_102 e_X12_spreads_106 h (fun h => ?_)
      refine z_aload e_X12_spreads_107 2 rfl ?_
      refine z_getr gf_X12_104_69 e_X12_spreads_108 ?_
      refine z_iload e_X12_spreads_111 6 rfl ?_
      refine z_lald sh_101 e_X12_spreads_113 h (fun h => ?_)
      refine z_ladd e_X12_spreads_114 ?_
      refine z_last sh_102 e_X12_spreads_115 h (fun s12 h => ?_)
      refine z_iinc e_X12_spreads_116 7 rfl (by decide) (by decide) h (fun y => [(5, .int y), (7, .int q10), (6, .int q7), (0, .ref (zad G 69)), (1, .int x1), (2, .int x2), (3, .int x3), (4, .int x4)]) (fun _ => rfl) (fun v13 h => ?_)
      refine z_goto e_X12_spreads_119 ?_
      exact z_sub [3, 4, 5, 6, 7, 0] rfl (hw37 v13 s12 h)
noncomputable def F_X12_spreads_37L (w27 : (Int32 × zSt) → Option (Unit × zSt)) (x1 : Int32) (x2 : Int32) (x3 : Int32) (x4 : Int32) : ((Int32 × zSt) → Option (Unit × zSt)) → (Int32 × zSt) → Option (Unit × zSt) := fun w s => F_X12_spreads_37 w27 x1 x2 x3 x4 w s.1 s.2
set_option maxRecDepth 100000 in
theorem l_X12_spreads_37 {G : zG} {C : zC} {r : Unit} {τ : zSt} (hR : zR G C none none τ) (w27 : (Int32 × zSt) → Option (Unit × zSt)) (x1 : Int32) (x2 : Int32) (x3 : Int32) (x4 : Int32) (hw27 : ∀ (x4 : Int32) (σ : zSt), w27 (x4, σ) = some (r, τ) → zAW G 6 RX12 cX12_spreads 8 C 27 [(0, .ref (zad G 69)), (1, .int x1), (2, .int x2), (3, .int x3), (4, .int x4)] [] σ) : ∀ (N : Nat) (x5 : Int32) (σ : zSt), zfix (F_X12_spreads_37L w27 x1 x2 x3 x4) N (x5, σ) = some (r, τ) → zAW G 6 RX12 cX12_spreads 8 C 37 [(0, .ref (zad G 69)), (1, .int x1), (2, .int x2), (3, .int x3), (4, .int x4), (5, .int x5)] [] σ := by
  intro N
  induction N with
  | zero =>
    intro x5 σ h
    exact nomatch (show (none : Option (Unit × zSt)) = some (r, τ) from h)
  | succ N ih =>
    intro x5 σ h
    exact b_X12_spreads_37 hR w27 x1 x2 x3 x4 hw27 (zfix (F_X12_spreads_37L w27 x1 x2 x3 x4) N) ih x5 σ h
noncomputable def F_X12_spreads_27 (x1 : Int32) (x2 : Int32) (x3 : Int32) (w27 : (Int32 × zSt) → Option (Unit × zSt)) (x4 : Int32) (σ : zSt) : Option (Unit × zSt) :=
  if (8 : Int32) ≤ x4 then (
    some ((), σ))
  else (
    zfix (F_X12_spreads_37L w27 x1 x2 x3 x4) zlim ((0 : Int32), σ))
set_option maxHeartbeats 4000000 in
set_option maxRecDepth 100000 in
theorem b_X12_spreads_27 {G : zG} {C : zC} {r : Unit} {τ : zSt} (hR : zR G C none none τ) (x1 : Int32) (x2 : Int32) (x3 : Int32) (w27 : (Int32 × zSt) → Option (Unit × zSt)) (hw27 : ∀ (x4 : Int32) (σ : zSt), w27 (x4, σ) = some (r, τ) → zAW G 6 RX12 cX12_spreads 8 C 27 [(0, .ref (zad G 69)), (1, .int x1), (2, .int x2), (3, .int x3), (4, .int x4)] [] σ) (x4 : Int32) (σ : zSt) (h : F_X12_spreads_27 x1 x2 x3 w27 x4 σ = some (r, τ)) : zAW G 6 RX12 cX12_spreads 8 C 27 [(0, .ref (zad G 69)), (1, .int x1), (2, .int x2), (3, .int x3), (4, .int x4)] [] σ := by
  unfold F_X12_spreads_27 at h
  refine z_iload e_X12_spreads_27 4 rfl ?_
  refine z_ic e_X12_spreads_29 ?_
  refine z_icmp_ge e_X12_spreads_31 h (fun c2 h => ?_) (fun c2 h => ?_)
  · cases h
    exact z_vreturn hR e_X12_spreads_128
  · refine z_ic e_X12_spreads_34 ?_
    refine z_istore e_X12_spreads_35 (by decide) [(5, .int (0 : Int32)), (0, .ref (zad G 69)), (1, .int x1), (2, .int x2), (3, .int x3), (4, .int x4)] rfl ?_
    exact z_sub [1, 2, 3, 4, 5, 0] rfl (l_X12_spreads_37 hR w27 x1 x2 x3 x4 hw27 zlim (0 : Int32) σ h)
noncomputable def F_X12_spreads_27L (x1 : Int32) (x2 : Int32) (x3 : Int32) : ((Int32 × zSt) → Option (Unit × zSt)) → (Int32 × zSt) → Option (Unit × zSt) := fun w s => F_X12_spreads_27 x1 x2 x3 w s.1 s.2
set_option maxRecDepth 100000 in
theorem l_X12_spreads_27 {G : zG} {C : zC} {r : Unit} {τ : zSt} (hR : zR G C none none τ) (x1 : Int32) (x2 : Int32) (x3 : Int32) : ∀ (N : Nat) (x4 : Int32) (σ : zSt), zfix (F_X12_spreads_27L x1 x2 x3) N (x4, σ) = some (r, τ) → zAW G 6 RX12 cX12_spreads 8 C 27 [(0, .ref (zad G 69)), (1, .int x1), (2, .int x2), (3, .int x3), (4, .int x4)] [] σ := by
  intro N
  induction N with
  | zero =>
    intro x4 σ h
    exact nomatch (show (none : Option (Unit × zSt)) = some (r, τ) from h)
  | succ N ih =>
    intro x4 σ h
    exact b_X12_spreads_27 hR x1 x2 x3 (zfix (F_X12_spreads_27L x1 x2 x3) N) ih x4 σ h
noncomputable def F_X12_spreads_24 (x1 : Int32) (x2 : Int32) (x3 : Int32) (σ : zSt) : Option (Unit × zSt) :=
  zfix (F_X12_spreads_27L x1 x2 x3) zlim ((0 : Int32), σ)
set_option maxHeartbeats 4000000 in
set_option maxRecDepth 100000 in
theorem p_X12_spreads_24 {G : zG} {C : zC} {r : Unit} {τ : zSt} (hR : zR G C none none τ) (x1 : Int32) (x2 : Int32) (x3 : Int32) (σ : zSt) (h : F_X12_spreads_24 x1 x2 x3 σ = some (r, τ)) : zAW G 6 RX12 cX12_spreads 8 C 24 [(0, .ref (zad G 69)), (1, .int x1), (2, .int x2), (3, .int x3)] [] σ := by
  unfold F_X12_spreads_24 at h
  refine z_ic e_X12_spreads_24 ?_
  refine z_istore e_X12_spreads_25 (by decide) [(4, .int (0 : Int32)), (0, .ref (zad G 69)), (1, .int x1), (2, .int x2), (3, .int x3)] rfl ?_
  exact z_sub [1, 2, 3, 4, 0] rfl (l_X12_spreads_27 hR x1 x2 x3 zlim (0 : Int32) σ h)
noncomputable def F_X12_spreads_3 (x1 : Int32) (x2 : Int32) (x3 : Int32) (w3 : (Int32 × zSt) → Option (Unit × zSt)) (x4 : Int32) (σ : zSt) : Option (Unit × zSt) :=
  if (64 : Int32) ≤ x4 then (
    F_X12_spreads_24 x1 x2 x3 σ)
  else (
    gd (vp_in x4 64) (nm (zwrL σ 102 x4.toNatClampNeg (0 : Int64)) (fun s14 =>
      nm (x4 + (1 : Int32)) (fun v15 =>
        w3 (v15, s14)))))
set_option maxHeartbeats 4000000 in
set_option maxRecDepth 100000 in
theorem b_X12_spreads_3 {G : zG} {C : zC} {r : Unit} {τ : zSt} (hR : zR G C none none τ) (x1 : Int32) (x2 : Int32) (x3 : Int32) (w3 : (Int32 × zSt) → Option (Unit × zSt)) (hw3 : ∀ (x4 : Int32) (σ : zSt), w3 (x4, σ) = some (r, τ) → zAW G 6 RX12 cX12_spreads 8 C 3 [(0, .ref (zad G 69)), (1, .int x1), (2, .int x2), (3, .int x3), (4, .int x4)] [] σ) (x4 : Int32) (σ : zSt) (h : F_X12_spreads_3 x1 x2 x3 w3 x4 σ = some (r, τ)) : zAW G 6 RX12 cX12_spreads 8 C 3 [(0, .ref (zad G 69)), (1, .int x1), (2, .int x2), (3, .int x3), (4, .int x4)] [] σ := by
  unfold F_X12_spreads_3 at h
  refine z_iload e_X12_spreads_3 4 rfl ?_
  refine z_ic e_X12_spreads_5 ?_
  refine z_icmp_ge e_X12_spreads_7 h (fun c1 h => ?_) (fun c1 h => ?_)
  · exact z_sub [0, 1, 2, 3] rfl (p_X12_spreads_24 hR x1 x2 x3 σ h)
  · refine z_aload e_X12_spreads_10 0 rfl ?_
    refine z_getr gf_X12_108_69 e_X12_spreads_11 ?_
    refine z_iload e_X12_spreads_14 4 rfl ?_
    refine z_lconst 0 e_X12_spreads_16 rfl ?_
    refine z_last sh_102 e_X12_spreads_17 h (fun s14 h => ?_)
    refine z_iinc e_X12_spreads_18 4 rfl (by decide) (by decide) h (fun y => [(4, .int y), (0, .ref (zad G 69)), (1, .int x1), (2, .int x2), (3, .int x3)]) (fun _ => rfl) (fun v15 h => ?_)
    refine z_goto e_X12_spreads_21 ?_
    exact z_sub [1, 2, 3, 4, 0] rfl (hw3 v15 s14 h)
noncomputable def F_X12_spreads_3L (x1 : Int32) (x2 : Int32) (x3 : Int32) : ((Int32 × zSt) → Option (Unit × zSt)) → (Int32 × zSt) → Option (Unit × zSt) := fun w s => F_X12_spreads_3 x1 x2 x3 w s.1 s.2
set_option maxRecDepth 100000 in
theorem l_X12_spreads_3 {G : zG} {C : zC} {r : Unit} {τ : zSt} (hR : zR G C none none τ) (x1 : Int32) (x2 : Int32) (x3 : Int32) : ∀ (N : Nat) (x4 : Int32) (σ : zSt), zfix (F_X12_spreads_3L x1 x2 x3) N (x4, σ) = some (r, τ) → zAW G 6 RX12 cX12_spreads 8 C 3 [(0, .ref (zad G 69)), (1, .int x1), (2, .int x2), (3, .int x3), (4, .int x4)] [] σ := by
  intro N
  induction N with
  | zero =>
    intro x4 σ h
    exact nomatch (show (none : Option (Unit × zSt)) = some (r, τ) from h)
  | succ N ih =>
    intro x4 σ h
    exact b_X12_spreads_3 hR x1 x2 x3 (zfix (F_X12_spreads_3L x1 x2 x3) N) ih x4 σ h
noncomputable def F_X12_spreads_0 (x1 : Int32) (x2 : Int32) (x3 : Int32) (σ : zSt) : Option (Unit × zSt) :=
  zfix (F_X12_spreads_3L x1 x2 x3) zlim ((0 : Int32), σ)
set_option maxHeartbeats 4000000 in
set_option maxRecDepth 100000 in
theorem p_X12_spreads_0 {G : zG} {C : zC} {r : Unit} {τ : zSt} (hR : zR G C none none τ) (x1 : Int32) (x2 : Int32) (x3 : Int32) (σ : zSt) (h : F_X12_spreads_0 x1 x2 x3 σ = some (r, τ)) : zAW G 6 RX12 cX12_spreads 8 C 0 [(0, .ref (zad G 69)), (1, .int x1), (2, .int x2), (3, .int x3)] [] σ := by
  unfold F_X12_spreads_0 at h
  refine z_ic e_X12_spreads_0 ?_
  refine z_istore e_X12_spreads_1 (by decide) [(4, .int (0 : Int32)), (0, .ref (zad G 69)), (1, .int x1), (2, .int x2), (3, .int x3)] rfl ?_
  exact z_sub [1, 2, 3, 4, 0] rfl (l_X12_spreads_3 hR x1 x2 x3 zlim (0 : Int32) σ h)
noncomputable def F_X12_spreads (x1 : Int32) (x2 : Int32) (x3 : Int32) (σ : zSt) : Option (Unit × zSt) := F_X12_spreads_0 x1 x2 x3 σ
set_option maxRecDepth 100000 in
theorem m_X12_spreads (G : zG) (x1 : Int32) (x2 : Int32) (x3 : Int32) (σ : zSt) (q : Unit) (τ : zSt) (h : F_X12_spreads x1 x2 x3 σ = some (q, τ)) : zM G 6 yX12_spreads cX12_spreads 8 none [.ref (zad G 69), .int x1, .int x2, .int x3] σ none τ := by
  unfold F_X12_spreads at h
  refine zM.of (own := RX12) (by decide +kernel) rfl (Nat.le_of_ble_eq_true rfl) (fun C hR => ?_)
  exact z_sub [0, 1, 2, 3] rfl (p_X12_spreads_0 hR x1 x2 x3 σ h)
noncomputable def F_X12_goesThrough_113 (σ : zSt) : Option (Int64 × zSt) :=
  bd (F_X12_weights σ) (fun q4 s3 =>
    some (q4, s3))
set_option maxHeartbeats 4000000 in
set_option maxRecDepth 100000 in
theorem p_X12_goesThrough_113 {G : zG} {C : zC} {r : Int64} {τ : zSt} (hR : zR G C (some .long) (some (.long r)) τ)  (σ : zSt) (h : F_X12_goesThrough_113 σ = some (r, τ)) : zAW G 7 RX12 cX12_goesThrough 5 C 113 [(0, .ref (zad G 69))] [] σ := by
  unfold F_X12_goesThrough_113 at h
  refine z_aload e_X12_goesThrough_113 0 rfl ?_
  obtain ⟨q4, s3, e5, h⟩ := bd_e h
  refine z_callVl (c0 := 69) (As := []) (rest := []) lk_X12_435 ob_69 e_X12_goesThrough_114 (m_X12_weights G σ _ _ e5) (by decide) rfl (Nat.le_of_ble_eq_true rfl) ?_
  cases h
  exact z_lreturn hR e_X12_goesThrough_117
noncomputable def F_X12_goesThrough_107 (w40 : (Int32 × Int32 × zSt) → Option (Int64 × zSt)) (x2 : Int32) (x3 : Int32) (σ : zSt) : Option (Int64 × zSt) :=
  nm (x3 + (1 : Int32)) (fun v11 =>
    w40 (x2, v11, σ))
set_option maxHeartbeats 4000000 in
set_option maxRecDepth 100000 in
theorem p_X12_goesThrough_107 {G : zG} {C : zC} {r : Int64} {τ : zSt} (hR : zR G C (some .long) (some (.long r)) τ) (w40 : (Int32 × Int32 × zSt) → Option (Int64 × zSt)) (x2 : Int32) (x3 : Int32) (hw40 : ∀ (x2 : Int32) (x3 : Int32) (σ : zSt), w40 (x2, x3, σ) = some (r, τ) → zAW G 7 RX12 cX12_goesThrough 5 C 40 [(0, .ref (zad G 69)), (2, .int x2), (3, .int x3)] [] σ) (σ : zSt) (h : F_X12_goesThrough_107 w40 x2 x3 σ = some (r, τ)) : zAW G 7 RX12 cX12_goesThrough 5 C 107 [(0, .ref (zad G 69)), (2, .int x2), (3, .int x3)] [] σ := by
  unfold F_X12_goesThrough_107 at h
  refine z_iinc e_X12_goesThrough_107 2 rfl (by decide) (by decide) h (fun y => [(3, .int y), (0, .ref (zad G 69)), (2, .int x2)]) (fun _ => rfl) (fun v11 h => ?_)
  refine z_goto e_X12_goesThrough_110 ?_
  exact z_sub [1, 2, 0] rfl (hw40 x2 v11 σ h)
noncomputable def F_X12_goesThrough_75 (w40 : (Int32 × Int32 × zSt) → Option (Int64 × zSt)) (x2 : Int32) (x3 : Int32) (w75 : (Int32 × zSt) → Option (Int64 × zSt)) (x4 : Int32) (σ : zSt) : Option (Int64 × zSt) :=
  if (8 : Int32) ≤ x4 then (
    F_X12_goesThrough_107 w40 x2 x3 σ)
  else (
    gd (vp_in (((8 : Int32) * x2) + x4) 64) (
      gd (vp_in x4 8) (nm (zwrL σ 101 x4.toNatClampNeg (σ.2 102 (((8 : Int32) * x2) + x4).toNatClampNeg)) (fun s12 =>
        nm (x4 + (1 : Int32)) (fun v13 =>
          w75 (v13, s12))))))
set_option maxHeartbeats 4000000 in
set_option maxRecDepth 100000 in
theorem b_X12_goesThrough_75 {G : zG} {C : zC} {r : Int64} {τ : zSt} (hR : zR G C (some .long) (some (.long r)) τ) (w40 : (Int32 × Int32 × zSt) → Option (Int64 × zSt)) (x2 : Int32) (x3 : Int32) (hw40 : ∀ (x2 : Int32) (x3 : Int32) (σ : zSt), w40 (x2, x3, σ) = some (r, τ) → zAW G 7 RX12 cX12_goesThrough 5 C 40 [(0, .ref (zad G 69)), (2, .int x2), (3, .int x3)] [] σ) (w75 : (Int32 × zSt) → Option (Int64 × zSt)) (hw75 : ∀ (x4 : Int32) (σ : zSt), w75 (x4, σ) = some (r, τ) → zAW G 7 RX12 cX12_goesThrough 5 C 75 [(0, .ref (zad G 69)), (2, .int x2), (3, .int x3), (4, .int x4)] [] σ) (x4 : Int32) (σ : zSt) (h : F_X12_goesThrough_75 w40 x2 x3 w75 x4 σ = some (r, τ)) : zAW G 7 RX12 cX12_goesThrough 5 C 75 [(0, .ref (zad G 69)), (2, .int x2), (3, .int x3), (4, .int x4)] [] σ := by
  unfold F_X12_goesThrough_75 at h
  refine z_iload e_X12_goesThrough_75 3 rfl ?_
  refine z_ic e_X12_goesThrough_77 ?_
  refine z_icmp_ge e_X12_goesThrough_79 h (fun c10 h => ?_) (fun c10 h => ?_)
  · exact z_sub [0, 1, 2] rfl (p_X12_goesThrough_107 hR w40 x2 x3 hw40 σ h)
  · refine z_aload e_X12_goesThrough_82 0 rfl ?_
    refine z_getr gf_X12_104_69 e_X12_goesThrough_83 ?_
    refine z_iload e_X12_goesThrough_86 3 rfl ?_
    refine z_aload e_X12_goesThrough_88 0 rfl ?_
    refine z_getr gf_X12_108_69 e_X12_goesThrough_89 ?_
    refine z_ic e_X12_goesThrough_92 ?_
    refine z_iload e_X12_goesThrough_94 1 rfl ?_
    refine z_imul e_X12_goesThrough_95 ?_
    refine z_iload e_X12_goesThrough_96 3 rfl ?_
    refine z_iadd e_X12_goesThrough_98 ?_
    refine z_lald sh_102 e_X12_goesThrough_99 h (fun h => ?_)
    refine z_last sh_101 e_X12_goesThrough_100 h (fun s12 h => ?_)
    refine z_iinc e_X12_goesThrough_101 3 rfl (by decide) (by decide) h (fun y => [(4, .int y), (0, .ref (zad G 69)), (2, .int x2), (3, .int x3)]) (fun _ => rfl) (fun v13 h => ?_)
    refine z_goto e_X12_goesThrough_104 ?_
    exact z_sub [1, 2, 3, 0] rfl (hw75 v13 s12 h)
noncomputable def F_X12_goesThrough_75L (w40 : (Int32 × Int32 × zSt) → Option (Int64 × zSt)) (x2 : Int32) (x3 : Int32) : ((Int32 × zSt) → Option (Int64 × zSt)) → (Int32 × zSt) → Option (Int64 × zSt) := fun w s => F_X12_goesThrough_75 w40 x2 x3 w s.1 s.2
set_option maxRecDepth 100000 in
theorem l_X12_goesThrough_75 {G : zG} {C : zC} {r : Int64} {τ : zSt} (hR : zR G C (some .long) (some (.long r)) τ) (w40 : (Int32 × Int32 × zSt) → Option (Int64 × zSt)) (x2 : Int32) (x3 : Int32) (hw40 : ∀ (x2 : Int32) (x3 : Int32) (σ : zSt), w40 (x2, x3, σ) = some (r, τ) → zAW G 7 RX12 cX12_goesThrough 5 C 40 [(0, .ref (zad G 69)), (2, .int x2), (3, .int x3)] [] σ) : ∀ (N : Nat) (x4 : Int32) (σ : zSt), zfix (F_X12_goesThrough_75L w40 x2 x3) N (x4, σ) = some (r, τ) → zAW G 7 RX12 cX12_goesThrough 5 C 75 [(0, .ref (zad G 69)), (2, .int x2), (3, .int x3), (4, .int x4)] [] σ := by
  intro N
  induction N with
  | zero =>
    intro x4 σ h
    exact nomatch (show (none : Option (Int64 × zSt)) = some (r, τ) from h)
  | succ N ih =>
    intro x4 σ h
    exact b_X12_goesThrough_75 hR w40 x2 x3 hw40 (zfix (F_X12_goesThrough_75L w40 x2 x3) N) ih x4 σ h
noncomputable def F_X12_goesThrough_40 (w40 : (Int32 × Int32 × zSt) → Option (Int64 × zSt)) (x2 : Int32) (x3 : Int32) (σ : zSt) : Option (Int64 × zSt) :=
  if (σ.1 69 54) ≤ x3 then (
    F_X12_goesThrough_113  σ)
  else (
    gd (vp_in x3 12) (
      bd (F_X12_spreads ((σ.1 69 4) + x3) (σ.1 99 x3.toNatClampNeg) x2 σ) (fun _ s6 =>
        gd (vp_in x3 12) (
          nm (s6.1 100 x3.toNatClampNeg) (fun v9 =>
            zfix (F_X12_goesThrough_75L w40 v9 x3) zlim ((0 : Int32), s6))))))
set_option maxHeartbeats 4000000 in
set_option maxRecDepth 100000 in
theorem b_X12_goesThrough_40 {G : zG} {C : zC} {r : Int64} {τ : zSt} (hR : zR G C (some .long) (some (.long r)) τ) (w40 : (Int32 × Int32 × zSt) → Option (Int64 × zSt)) (hw40 : ∀ (x2 : Int32) (x3 : Int32) (σ : zSt), w40 (x2, x3, σ) = some (r, τ) → zAW G 7 RX12 cX12_goesThrough 5 C 40 [(0, .ref (zad G 69)), (2, .int x2), (3, .int x3)] [] σ) (x2 : Int32) (x3 : Int32) (σ : zSt) (h : F_X12_goesThrough_40 w40 x2 x3 σ = some (r, τ)) : zAW G 7 RX12 cX12_goesThrough 5 C 40 [(0, .ref (zad G 69)), (2, .int x2), (3, .int x3)] [] σ := by
  unfold F_X12_goesThrough_40 at h
  refine z_iload e_X12_goesThrough_40 2 rfl ?_
  refine z_aload e_X12_goesThrough_41 0 rfl ?_
  refine z_geti gf_X12_425_69 e_X12_goesThrough_42 ?_
  refine z_icmp_ge e_X12_goesThrough_45 h (fun c2 h => ?_) (fun c2 h => ?_)
  · exact z_sub [0] rfl (p_X12_goesThrough_113 hR  σ h)
  · refine z_aload e_X12_goesThrough_48 0 rfl ?_
    refine z_aload e_X12_goesThrough_49 0 rfl ?_
    refine z_geti gf_X12_307_69 e_X12_goesThrough_50 ?_
    refine z_iload e_X12_goesThrough_53 2 rfl ?_
    refine z_iadd e_X12_goesThrough_54 ?_
    refine z_aload e_X12_goesThrough_55 0 rfl ?_
    refine z_getr gf_X12_98_69 e_X12_goesThrough_56 ?_
    refine z_iload e_X12_goesThrough_59 2 rfl ?_
    refine z_iald sh_99 e_X12_goesThrough_60 h (fun h => ?_)
    refine z_iload e_X12_goesThrough_61 1 rfl ?_
    obtain ⟨q7, s6, e8, h⟩ := bd_e h
    refine z_callVv (c0 := 69) (As := [.int ((σ.1 69 4) + x3), .int (σ.1 99 x3.toNatClampNeg), .int x2]) (rest := []) lk_X12_431 ob_69 e_X12_goesThrough_62 (m_X12_spreads G ((σ.1 69 4) + x3) (σ.1 99 x3.toNatClampNeg) x2 σ _ _ e8) (by decide) rfl (Nat.le_of_ble_eq_true rfl) ?_
    refine z_aload e_X12_goesThrough_65 0 rfl ?_
    refine z_getr gf_X12_101_69 e_X12_goesThrough_66 ?_
    refine z_iload e_X12_goesThrough_69 2 rfl ?_
    refine z_iald sh_100 e_X12_goesThrough_70 h (fun h => ?_)
    refine z_nmI h (fun v9 h => ?_)
    refine z_istore e_X12_goesThrough_71 (by decide) [(2, .int v9), (0, .ref (zad G 69)), (3, .int x3)] rfl ?_
    refine z_ic e_X12_goesThrough_72 ?_
    refine z_istore e_X12_goesThrough_73 (by decide) [(4, .int (0 : Int32)), (2, .int v9), (0, .ref (zad G 69)), (3, .int x3)] rfl ?_
    exact z_sub [2, 1, 3, 0] rfl (l_X12_goesThrough_75 hR w40 v9 x3 hw40 zlim (0 : Int32) s6 h)
noncomputable def F_X12_goesThrough_40L  : ((Int32 × Int32 × zSt) → Option (Int64 × zSt)) → (Int32 × Int32 × zSt) → Option (Int64 × zSt) := fun w s => F_X12_goesThrough_40 w s.1 s.2.1 s.2.2
set_option maxRecDepth 100000 in
theorem l_X12_goesThrough_40 {G : zG} {C : zC} {r : Int64} {τ : zSt} (hR : zR G C (some .long) (some (.long r)) τ)  : ∀ (N : Nat) (x2 : Int32) (x3 : Int32) (σ : zSt), zfix (F_X12_goesThrough_40L ) N (x2, x3, σ) = some (r, τ) → zAW G 7 RX12 cX12_goesThrough 5 C 40 [(0, .ref (zad G 69)), (2, .int x2), (3, .int x3)] [] σ := by
  intro N
  induction N with
  | zero =>
    intro x2 x3 σ h
    exact nomatch (show (none : Option (Int64 × zSt)) = some (r, τ) from h)
  | succ N ih =>
    intro x2 x3 σ h
    exact b_X12_goesThrough_40 hR (zfix (F_X12_goesThrough_40L ) N) ih x2 x3 σ h
noncomputable def F_X12_goesThrough_38 (x2 : Int32) (σ : zSt) : Option (Int64 × zSt) :=
  zfix (F_X12_goesThrough_40L ) zlim (x2, (0 : Int32), σ)
set_option maxHeartbeats 4000000 in
set_option maxRecDepth 100000 in
theorem p_X12_goesThrough_38 {G : zG} {C : zC} {r : Int64} {τ : zSt} (hR : zR G C (some .long) (some (.long r)) τ) (x2 : Int32) (σ : zSt) (h : F_X12_goesThrough_38 x2 σ = some (r, τ)) : zAW G 7 RX12 cX12_goesThrough 5 C 38 [(0, .ref (zad G 69)), (2, .int x2)] [] σ := by
  unfold F_X12_goesThrough_38 at h
  refine z_ic e_X12_goesThrough_38 ?_
  refine z_istore e_X12_goesThrough_39 (by decide) [(3, .int (0 : Int32)), (0, .ref (zad G 69)), (2, .int x2)] rfl ?_
  exact z_sub [1, 2, 0] rfl (l_X12_goesThrough_40 hR  zlim x2 (0 : Int32) σ h)
noncomputable def F_X12_goesThrough_7 (x1 : Int32) (x2 : Int32) (w7 : (Int32 × zSt) → Option (Int64 × zSt)) (x3 : Int32) (σ : zSt) : Option (Int64 × zSt) :=
  if (8 : Int32) ≤ x3 then (
    F_X12_goesThrough_38 x2 σ)
  else (
    bd (F_X12_has x1 x3 σ) (fun q15 s14 =>
      nm (if q15 = 0 then (0 : Int64) else (1 : Int64)) (fun v17 =>
        gd (vp_in x3 8) (nm (zwrL s14 101 x3.toNatClampNeg v17) (fun s18 =>
          nm (x3 + (1 : Int32)) (fun v19 =>
            w7 (v19, s18)))))))
set_option maxHeartbeats 4000000 in
set_option maxRecDepth 100000 in
theorem b_X12_goesThrough_7 {G : zG} {C : zC} {r : Int64} {τ : zSt} (hR : zR G C (some .long) (some (.long r)) τ) (x1 : Int32) (x2 : Int32) (w7 : (Int32 × zSt) → Option (Int64 × zSt)) (hw7 : ∀ (x3 : Int32) (σ : zSt), w7 (x3, σ) = some (r, τ) → zAW G 7 RX12 cX12_goesThrough 5 C 7 [(0, .ref (zad G 69)), (1, .int x1), (2, .int x2), (3, .int x3)] [] σ) (x3 : Int32) (σ : zSt) (h : F_X12_goesThrough_7 x1 x2 w7 x3 σ = some (r, τ)) : zAW G 7 RX12 cX12_goesThrough 5 C 7 [(0, .ref (zad G 69)), (1, .int x1), (2, .int x2), (3, .int x3)] [] σ := by
  unfold F_X12_goesThrough_7 at h
  refine z_iload e_X12_goesThrough_7 3 rfl ?_
  refine z_ic e_X12_goesThrough_8 ?_
  refine z_icmp_ge e_X12_goesThrough_10 h (fun c1 h => ?_) (fun c1 h => ?_)
  · exact z_sub [0, 2] rfl (p_X12_goesThrough_38 hR x2 σ h)
  · refine z_aload e_X12_goesThrough_13 0 rfl ?_
    refine z_getr gf_X12_104_69 e_X12_goesThrough_14 ?_
    refine z_iload e_X12_goesThrough_17 3 rfl ?_
    refine z_iload e_X12_goesThrough_18 1 rfl ?_
    refine z_iload e_X12_goesThrough_19 3 rfl ?_
    obtain ⟨q15, s14, e16, h⟩ := bd_e h
    refine z_callSi (As := [.int x1, .int x3]) (rest := [.int x3, .ref (zad G 101)]) lk_X12_156 e_X12_goesThrough_20 (m_X12_has G x1 x3 σ _ _ e16) (by decide) rfl (Nat.le_of_ble_eq_true rfl) ?_
    obtain ⟨v17, ev17, h⟩ := nm_i h
    have jv17 : zAW G 7 RX12 cX12_goesThrough 5 C 31 [(0, .ref (zad G 69)), (1, .int x1), (2, .int x2), (3, .int x3)] [.long v17, .int x3, .ref (zad G 101)] s14 := by
      refine z_last sh_101 e_X12_goesThrough_31 h (fun s18 h => ?_)
      refine z_iinc e_X12_goesThrough_32 3 rfl (by decide) (by decide) h (fun y => [(3, .int y), (0, .ref (zad G 69)), (1, .int x1), (2, .int x2)]) (fun _ => rfl) (fun v19 h => ?_)
      refine z_goto e_X12_goesThrough_35 ?_
      exact z_sub [1, 2, 3, 0] rfl (hw7 v19 s18 h)
    refine y_if_eq e_X12_goesThrough_23 (fun c20 => ?_) (fun c20 => ?_)
    · refine z_lconst 0 e_X12_goesThrough_30 rfl ?_
      rw [if_pos c20] at ev17
      subst ev17
      exact z_sub [0, 1, 2, 3] rfl jv17
    · refine z_lconst 1 e_X12_goesThrough_26 rfl ?_
      refine z_goto e_X12_goesThrough_27 ?_
      rw [if_neg c20] at ev17
      subst ev17
      exact z_sub [0, 1, 2, 3] rfl jv17
noncomputable def F_X12_goesThrough_7L (x1 : Int32) (x2 : Int32) : ((Int32 × zSt) → Option (Int64 × zSt)) → (Int32 × zSt) → Option (Int64 × zSt) := fun w s => F_X12_goesThrough_7 x1 x2 w s.1 s.2
set_option maxRecDepth 100000 in
theorem l_X12_goesThrough_7 {G : zG} {C : zC} {r : Int64} {τ : zSt} (hR : zR G C (some .long) (some (.long r)) τ) (x1 : Int32) (x2 : Int32) : ∀ (N : Nat) (x3 : Int32) (σ : zSt), zfix (F_X12_goesThrough_7L x1 x2) N (x3, σ) = some (r, τ) → zAW G 7 RX12 cX12_goesThrough 5 C 7 [(0, .ref (zad G 69)), (1, .int x1), (2, .int x2), (3, .int x3)] [] σ := by
  intro N
  induction N with
  | zero =>
    intro x3 σ h
    exact nomatch (show (none : Option (Int64 × zSt)) = some (r, τ) from h)
  | succ N ih =>
    intro x3 σ h
    exact b_X12_goesThrough_7 hR x1 x2 (zfix (F_X12_goesThrough_7L x1 x2) N) ih x3 σ h
noncomputable def F_X12_goesThrough_0 (x1 : Int32) (σ : zSt) : Option (Int64 × zSt) :=
  zfix (F_X12_goesThrough_7L x1 (σ.1 69 6)) zlim ((0 : Int32), σ)
set_option maxHeartbeats 4000000 in
set_option maxRecDepth 100000 in
theorem p_X12_goesThrough_0 {G : zG} {C : zC} {r : Int64} {τ : zSt} (hR : zR G C (some .long) (some (.long r)) τ) (x1 : Int32) (σ : zSt) (h : F_X12_goesThrough_0 x1 σ = some (r, τ)) : zAW G 7 RX12 cX12_goesThrough 5 C 0 [(0, .ref (zad G 69)), (1, .int x1)] [] σ := by
  unfold F_X12_goesThrough_0 at h
  refine z_aload e_X12_goesThrough_0 0 rfl ?_
  refine z_geti gf_X12_142_69 e_X12_goesThrough_1 ?_
  refine z_istore e_X12_goesThrough_4 (by decide) [(2, .int (σ.1 69 6)), (0, .ref (zad G 69)), (1, .int x1)] rfl ?_
  refine z_ic e_X12_goesThrough_5 ?_
  refine z_istore e_X12_goesThrough_6 (by decide) [(3, .int (0 : Int32)), (2, .int (σ.1 69 6)), (0, .ref (zad G 69)), (1, .int x1)] rfl ?_
  exact z_sub [2, 3, 1, 0] rfl (l_X12_goesThrough_7 hR x1 (σ.1 69 6) zlim (0 : Int32) σ h)
noncomputable def F_X12_goesThrough (x1 : Int32) (σ : zSt) : Option (Int64 × zSt) := F_X12_goesThrough_0 x1 σ
set_option maxRecDepth 100000 in
theorem m_X12_goesThrough (G : zG) (x1 : Int32) (σ : zSt) (q : Int64) (τ : zSt) (h : F_X12_goesThrough x1 σ = some (q, τ)) : zM G 7 yX12_goesThrough cX12_goesThrough 5 (some .long) [.ref (zad G 69), .int x1] σ (some (.long q)) τ := by
  unfold F_X12_goesThrough at h
  refine zM.of (own := RX12) (by decide +kernel) rfl (Nat.le_of_ble_eq_true rfl) (fun C hR => ?_)
  exact z_sub [0, 1] rfl (p_X12_goesThrough_0 hR x1 σ h)
