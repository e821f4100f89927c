noncomputable def F_X12_law_138 (w138 : (Int32 × zSt) → Option (Int32 × zSt)) (x3 : Int32) (σ : zSt) : Option (Int32 × zSt) :=
  if (σ.1 69 22) ≤ x3 then (
    some ((σ.1 69 22), σ))
  else (
    gd (vp_in x3 16) (
      gd (vp_in x3 16) (nm (zwr σ 84 x3.toNatClampNeg (σ.1 79 x3.toNatClampNeg)) (fun s19 =>
        gd (vp_in x3 16) (
          gd (vp_in x3 16) (nm (zwr s19 85 x3.toNatClampNeg (s19.1 80 x3.toNatClampNeg)) (fun s20 =>
            gd (vp_in x3 16) (
              gd (vp_in x3 16) (nm (zwr s20 86 x3.toNatClampNeg (s20.1 81 x3.toNatClampNeg)) (fun s21 =>
                gd (vp_in x3 16) (
                  gd (vp_in x3 16) (nm (zwr s21 87 x3.toNatClampNeg (s21.1 82 x3.toNatClampNeg)) (fun s22 =>
                    nm (x3 + (1 : Int32)) (fun v23 =>
                      w138 (v23, s22)))))))))))))))
set_option maxHeartbeats 4000000 in
set_option maxRecDepth 100000 in
theorem b_X12_law_138 {G : zG} {C : zC} {r : Int32} {τ : zSt} (hR : zR G C (some .int) (some (.int r)) τ) (w138 : (Int32 × zSt) → Option (Int32 × zSt)) (hw138 : ∀ (x3 : Int32) (σ : zSt), w138 (x3, σ) = some (r, τ) → zAW G 9 RX12 cX12_law 4 C 138 [(0, .ref (zad G 69)), (3, .int x3)] [] σ) (x3 : Int32) (σ : zSt) (h : F_X12_law_138 w138 x3 σ = some (r, τ)) : zAW G 9 RX12 cX12_law 4 C 138 [(0, .ref (zad G 69)), (3, .int x3)] [] σ := by
  unfold F_X12_law_138 at h
  refine z_iload e_X12_law_138 1 rfl ?_
  refine z_aload e_X12_law_139 0 rfl ?_
  refine z_geti gf_X12_270_69 e_X12_law_140 ?_
  refine z_icmp_ge e_X12_law_143 h (fun c18 h => ?_) (fun c18 h => ?_)
  · refine z_aload e_X12_law_200 0 rfl ?_
    refine z_geti gf_X12_270_69 e_X12_law_201 ?_
    cases h
    exact z_ireturn hR e_X12_law_204
  · refine z_aload e_X12_law_146 0 rfl ?_
    refine z_getr gf_X12_53_69 e_X12_law_147 ?_
    refine z_iload e_X12_law_150 1 rfl ?_
    refine z_aload e_X12_law_151 0 rfl ?_
    refine z_getr gf_X12_38_69 e_X12_law_152 ?_
    refine z_iload e_X12_law_155 1 rfl ?_
    refine z_iald sh_79 e_X12_law_156 h (fun h => ?_)
    refine z_iast sh_84 e_X12_law_157 h (fun s19 h => ?_)
    refine z_aload e_X12_law_158 0 rfl ?_
    refine z_getr gf_X12_56_69 e_X12_law_159 ?_
    refine z_iload e_X12_law_162 1 rfl ?_
    refine z_aload e_X12_law_163 0 rfl ?_
    refine z_getr gf_X12_41_69 e_X12_law_164 ?_
    refine z_iload e_X12_law_167 1 rfl ?_
    refine z_iald sh_80 e_X12_law_168 h (fun h => ?_)
    refine z_iast sh_85 e_X12_law_169 h (fun s20 h => ?_)
    refine z_aload e_X12_law_170 0 rfl ?_
    refine z_getr gf_X12_59_69 e_X12_law_171 ?_
    refine z_iload e_X12_law_174 1 rfl ?_
    refine z_aload e_X12_law_175 0 rfl ?_
    refine z_getr gf_X12_44_69 e_X12_law_176 ?_
    refine z_iload e_X12_law_179 1 rfl ?_
    refine z_iald sh_81 e_X12_law_180 h (fun h => ?_)
    refine z_iast sh_86 e_X12_law_181 h (fun s21 h => ?_)
    refine z_aload e_X12_law_182 0 rfl ?_
    refine z_getr gf_X12_62_69 e_X12_law_183 ?_
    refine z_iload e_X12_law_186 1 rfl ?_
    refine z_aload e_X12_law_187 0 rfl ?_
    refine z_getr gf_X12_47_69 e_X12_law_188 ?_
    refine z_iload e_X12_law_191 1 rfl ?_
    refine z_iald sh_82 e_X12_law_192 h (fun h => ?_)
    refine z_iast sh_87 e_X12_law_193 h (fun s22 h => ?_)
    refine z_iinc e_X12_law_194 1 rfl (by decide) (by decide) h (fun y => [(3, .int y), (0, .ref (zad G 69))]) (fun _ => rfl) (fun v23 h => ?_)
    refine z_goto e_X12_law_197 ?_
    exact z_sub [1, 0] rfl (hw138 v23 s22 h)
noncomputable def F_X12_law_138L  : ((Int32 × zSt) → Option (Int32 × zSt)) → (Int32 × zSt) → Option (Int32 × zSt) := fun w s => F_X12_law_138 w s.1 s.2
set_option maxRecDepth 100000 in
theorem l_X12_law_138 {G : zG} {C : zC} {r : Int32} {τ : zSt} (hR : zR G C (some .int) (some (.int r)) τ)  : ∀ (N : Nat) (x3 : Int32) (σ : zSt), zfix (F_X12_law_138L ) N (x3, σ) = some (r, τ) → zAW G 9 RX12 cX12_law 4 C 138 [(0, .ref (zad G 69)), (3, .int x3)] [] σ := by
  intro N
  induction N with
  | zero =>
    intro x3 σ h
    exact nomatch (show (none : Option (Int32 × zSt)) = some (r, τ) from h)
  | succ N ih =>
    intro x3 σ h
    exact b_X12_law_138 hR (zfix (F_X12_law_138L ) N) ih x3 σ h
noncomputable def F_X12_law_136 (σ : zSt) : Option (Int32 × zSt) :=
  zfix (F_X12_law_138L ) zlim ((0 : Int32), σ)
set_option maxHeartbeats 4000000 in
set_option maxRecDepth 100000 in
theorem p_X12_law_136 {G : zG} {C : zC} {r : Int32} {τ : zSt} (hR : zR G C (some .int) (some (.int r)) τ)  (σ : zSt) (h : F_X12_law_136 σ = some (r, τ)) : zAW G 9 RX12 cX12_law 4 C 136 [(0, .ref (zad G 69))] [] σ := by
  unfold F_X12_law_136 at h
  refine z_ic e_X12_law_136 ?_
  refine z_istore e_X12_law_137 (by decide) [(3, .int (0 : Int32)), (0, .ref (zad G 69))] rfl ?_
  exact z_sub [1, 0] rfl (l_X12_law_138 hR  zlim (0 : Int32) σ h)
noncomputable def F_X12_law_110 (w110 : (Int32 × zSt) → Option (Int32 × zSt)) (x3 : Int32) (σ : zSt) : Option (Int32 × zSt) :=
  if (σ.1 69 20) ≤ x3 then (
    F_X12_law_136  σ)
  else (
    gd (vp_in x3 260) (
      gd (vp_in x3 260) (nm (zwr σ 83 x3.toNatClampNeg (σ.1 77 x3.toNatClampNeg)) (fun s24 =>
        nm (x3 + (1 : Int32)) (fun v25 =>
          w110 (v25, s24))))))
set_option maxHeartbeats 4000000 in
set_option maxRecDepth 100000 in
theorem b_X12_law_110 {G : zG} {C : zC} {r : Int32} {τ : zSt} (hR : zR G C (some .int) (some (.int r)) τ) (w110 : (Int32 × zSt) → Option (Int32 × zSt)) (hw110 : ∀ (x3 : Int32) (σ : zSt), w110 (x3, σ) = some (r, τ) → zAW G 9 RX12 cX12_law 4 C 110 [(0, .ref (zad G 69)), (3, .int x3)] [] σ) (x3 : Int32) (σ : zSt) (h : F_X12_law_110 w110 x3 σ = some (r, τ)) : zAW G 9 RX12 cX12_law 4 C 110 [(0, .ref (zad G 69)), (3, .int x3)] [] σ := by
  unfold F_X12_law_110 at h
  refine z_iload e_X12_law_110 1 rfl ?_
  refine z_aload e_X12_law_111 0 rfl ?_
  refine z_geti gf_X12_216_69 e_X12_law_112 ?_
  refine z_icmp_ge e_X12_law_115 h (fun c17 h => ?_) (fun c17 h => ?_)
  · exact z_sub [0] rfl (p_X12_law_136 hR  σ h)
  · refine z_aload e_X12_law_118 0 rfl ?_
    refine z_getr gf_X12_50_69 e_X12_law_119 ?_
    refine z_iload e_X12_law_122 1 rfl ?_
    refine z_aload e_X12_law_123 0 rfl ?_
    refine z_getr gf_X12_32_69 e_X12_law_124 ?_
    refine z_iload e_X12_law_127 1 rfl ?_
    refine z_iald sh_77 e_X12_law_128 h (fun h => ?_)
    refine z_iast sh_83 e_X12_law_129 h (fun s24 h => ?_)
    refine z_iinc e_X12_law_130 1 rfl (by decide) (by decide) h (fun y => [(3, .int y), (0, .ref (zad G 69))]) (fun _ => rfl) (fun v25 h => ?_)
    refine z_goto e_X12_law_133 ?_
    exact z_sub [1, 0] rfl (hw110 v25 s24 h)
noncomputable def F_X12_law_110L  : ((Int32 × zSt) → Option (Int32 × zSt)) → (Int32 × zSt) → Option (Int32 × zSt) := fun w s => F_X12_law_110 w s.1 s.2
set_option maxRecDepth 100000 in
theorem l_X12_law_110 {G : zG} {C : zC} {r : Int32} {τ : zSt} (hR : zR G C (some .int) (some (.int r)) τ)  : ∀ (N : Nat) (x3 : Int32) (σ : zSt), zfix (F_X12_law_110L ) N (x3, σ) = some (r, τ) → zAW G 9 RX12 cX12_law 4 C 110 [(0, .ref (zad G 69)), (3, .int x3)] [] σ := by
  intro N
  induction N with
  | zero =>
    intro x3 σ h
    exact nomatch (show (none : Option (Int32 × zSt)) = some (r, τ) from h)
  | succ N ih =>
    intro x3 σ h
    exact b_X12_law_110 hR (zfix (F_X12_law_110L ) N) ih x3 σ h
noncomputable def F_X12_law_86 (x2 : Int32) (σ : zSt) : Option (Int32 × zSt) :=
  nm (zwr σ 69 14 (0 : Int32)) (fun s14 =>
    if x2 = 0 then (
      some ((s14.1 69 17), s14))
    else (
      nm (zwr s14 69 23 (s14.1 69 22)) (fun s16 =>
        zfix (F_X12_law_110L ) zlim ((0 : Int32), s16))))
set_option maxHeartbeats 4000000 in
set_option maxRecDepth 100000 in
theorem p_X12_law_86 {G : zG} {C : zC} {r : Int32} {τ : zSt} (hR : zR G C (some .int) (some (.int r)) τ) (x2 : Int32) (σ : zSt) (h : F_X12_law_86 x2 σ = some (r, τ)) : zAW G 9 RX12 cX12_law 4 C 86 [(0, .ref (zad G 69)), (2, .int x2)] [] σ := by
  unfold F_X12_law_86 at h
  refine z_aload e_X12_law_86 0 rfl ?_
  refine z_ic e_X12_law_87 ?_
  refine z_puti pf_X12_186_69 e_X12_law_88 h (fun s14 h => ?_)
  refine z_iload e_X12_law_91 1 rfl ?_
  refine z_if_ne e_X12_law_92 h (fun c15 h => ?_) (fun c15 h => ?_)
  · refine z_aload e_X12_law_95 0 rfl ?_
    refine z_geti gf_X12_203_69 e_X12_law_96 ?_
    cases h
    exact z_ireturn hR e_X12_law_99
  · refine z_aload e_X12_law_100 0 rfl ?_
    refine z_aload e_X12_law_101 0 rfl ?_
    refine z_geti gf_X12_270_69 e_X12_law_102 ?_
    refine z_puti pf_X12_282_69 e_X12_law_105 h (fun s16 h => ?_)
    refine z_ic e_X12_law_108 ?_
    refine z_istore e_X12_law_109 (by decide) [(3, .int (0 : Int32)), (0, .ref (zad G 69)), (2, .int x2)] rfl ?_
    exact z_sub [1, 0] rfl (l_X12_law_110 hR  zlim (0 : Int32) s16 h)
noncomputable def F_X12_law_82 (w46 : (Int32 × zSt) → Option (Int32 × zSt)) (t0 : Int32) (σ : zSt) : Option (Int32 × zSt) :=
  w46 (t0, σ)
set_option maxHeartbeats 4000000 in
set_option maxRecDepth 100000 in
theorem p_X12_law_82 {G : zG} {C : zC} {r : Int32} {τ : zSt} (hR : zR G C (some .int) (some (.int r)) τ) (w46 : (Int32 × zSt) → Option (Int32 × zSt)) (t0 : Int32) (hw46 : ∀ (x2 : Int32) (σ : zSt), w46 (x2, σ) = some (r, τ) → zAW G 9 RX12 cX12_law 4 C 46 [(0, .ref (zad G 69)), (2, .int x2)] [] σ) (σ : zSt) (h : F_X12_law_82 w46 t0 σ = some (r, τ)) : zAW G 9 RX12 cX12_law 4 C 82 [(0, .ref (zad G 69))] [.int t0] σ := by
  unfold F_X12_law_82 at h
  refine z_istore e_X12_law_82 (by decide) [(2, .int t0), (0, .ref (zad G 69))] rfl ?_
  refine z_goto e_X12_law_83 ?_
  exact z_sub [1, 0] rfl (hw46 t0 σ h)
noncomputable def F_X12_law_81 (w46 : (Int32 × zSt) → Option (Int32 × zSt)) (σ : zSt) : Option (Int32 × zSt) :=
  F_X12_law_82 w46 (0 : Int32) σ
set_option maxHeartbeats 4000000 in
set_option maxRecDepth 100000 in
theorem p_X12_law_81 {G : zG} {C : zC} {r : Int32} {τ : zSt} (hR : zR G C (some .int) (some (.int r)) τ) (w46 : (Int32 × zSt) → Option (Int32 × zSt)) (hw46 : ∀ (x2 : Int32) (σ : zSt), w46 (x2, σ) = some (r, τ) → zAW G 9 RX12 cX12_law 4 C 46 [(0, .ref (zad G 69)), (2, .int x2)] [] σ) (σ : zSt) (h : F_X12_law_81 w46 σ = some (r, τ)) : zAW G 9 RX12 cX12_law 4 C 81 [(0, .ref (zad G 69))] [] σ := by
  unfold F_X12_law_81 at h
  refine z_ic e_X12_law_81 ?_
  exact z_sub [0] rfl (p_X12_law_82 hR w46 (0 : Int32) hw46 σ h)
noncomputable def F_X12_law_46 (w46 : (Int32 × zSt) → Option (Int32 × zSt)) (x2 : Int32) (σ : zSt) : Option (Int32 × zSt) :=
  if x2 = 0 then (
    F_X12_law_86 x2 σ)
  else (
    if (σ.1 69 16) ≤ (σ.1 69 15) then (
      F_X12_law_86 x2 σ)
    else (
      bd (F_X12_takes (59 : Int32) σ) (fun q28 s27 =>
        if q28 = 0 then (
          F_X12_law_81 w46 s27)
        else (
          bd (F_X12_readsClause s27) (fun q32 s31 =>
            nm (if q32 = 0 then (0 : Int32) else (1 : Int32)) (fun v34 =>
              w46 (v34, s31)))))))
set_option maxHeartbeats 4000000 in
set_option maxRecDepth 100000 in
theorem b_X12_law_46 {G : zG} {C : zC} {r : Int32} {τ : zSt} (hR : zR G C (some .int) (some (.int r)) τ) (w46 : (Int32 × zSt) → Option (Int32 × zSt)) (hw46 : ∀ (x2 : Int32) (σ : zSt), w46 (x2, σ) = some (r, τ) → zAW G 9 RX12 cX12_law 4 C 46 [(0, .ref (zad G 69)), (2, .int x2)] [] σ) (x2 : Int32) (σ : zSt) (h : F_X12_law_46 w46 x2 σ = some (r, τ)) : zAW G 9 RX12 cX12_law 4 C 46 [(0, .ref (zad G 69)), (2, .int x2)] [] σ := by
  unfold F_X12_law_46 at h
  refine z_iload e_X12_law_46 1 rfl ?_
  refine z_if_eq e_X12_law_47 h (fun c13 h => ?_) (fun c13 h => ?_)
  · exact z_sub [0, 1] rfl (p_X12_law_86 hR x2 σ h)
  · refine z_aload e_X12_law_50 0 rfl ?_
    refine z_geti gf_X12_193_69 e_X12_law_51 ?_
    refine z_aload e_X12_law_54 0 rfl ?_
    refine z_geti gf_X12_196_69 e_X12_law_55 ?_
    refine z_icmp_ge e_X12_law_58 h (fun c26 h => ?_) (fun c26 h => ?_)
    · exact z_sub [0, 1] rfl (p_X12_law_86 hR x2 σ h)
    · refine z_aload e_X12_law_61 0 rfl ?_
      refine z_ic e_X12_law_62 ?_
      obtain ⟨q28, s27, e29, h⟩ := bd_e h
      refine z_callVi (c0 := 69) (As := [.int (59 : Int32)]) (rest := []) lk_X12_279 ob_69 e_X12_law_64 (m_X12_takes G (59 : Int32) σ _ _ e29) (by decide) rfl (Nat.le_of_ble_eq_true rfl) ?_
      refine z_if_eq e_X12_law_67 h (fun c30 h => ?_) (fun c30 h => ?_)
      · exact z_sub [0] rfl (p_X12_law_81 hR w46 hw46 s27 h)
      · refine z_aload e_X12_law_70 0 rfl ?_
        obtain ⟨q32, s31, e33, h⟩ := bd_e h
        refine z_callVi (c0 := 69) (As := []) (rest := []) lk_X12_276 ob_69 e_X12_law_71 (m_X12_readsClause G s27 _ _ e33) (by decide) rfl (Nat.le_of_ble_eq_true rfl) ?_
        obtain ⟨v34, ev34, h⟩ := nm_i h
        have jv34 : zAW G 9 RX12 cX12_law 4 C 82 [(0, .ref (zad G 69))] [.int v34] s31 := by
          refine z_istore e_X12_law_82 (by decide) [(2, .int v34), (0, .ref (zad G 69))] rfl ?_
          refine z_goto e_X12_law_83 ?_
          exact z_sub [1, 0] rfl (hw46 v34 s31 h)
        refine y_if_eq e_X12_law_74 (fun c35 => ?_) (fun c35 => ?_)
        · refine z_ic e_X12_law_81 ?_
          rw [if_pos c35] at ev34
          subst ev34
          exact z_sub [0] rfl jv34
        · refine z_ic e_X12_law_77 ?_
          refine z_goto e_X12_law_78 ?_
          rw [if_neg c35] at ev34
          subst ev34
          exact z_sub [0] rfl jv34
noncomputable def F_X12_law_46L  : ((Int32 × zSt) → Option (Int32 × zSt)) → (Int32 × zSt) → Option (Int32 × zSt) := fun w s => F_X12_law_46 w s.1 s.2
set_option maxRecDepth 100000 in
theorem l_X12_law_46 {G : zG} {C : zC} {r : Int32} {τ : zSt} (hR : zR G C (some .int) (some (.int r)) τ)  : ∀ (N : Nat) (x2 : Int32) (σ : zSt), zfix (F_X12_law_46L ) N (x2, σ) = some (r, τ) → zAW G 9 RX12 cX12_law 4 C 46 [(0, .ref (zad G 69)), (2, .int x2)] [] σ := by
  intro N
  induction N with
  | zero =>
    intro x2 σ h
    exact nomatch (show (none : Option (Int32 × zSt)) = some (r, τ) from h)
  | succ N ih =>
    intro x2 σ h
    exact b_X12_law_46 hR (zfix (F_X12_law_46L ) N) ih x2 σ h
noncomputable def F_X12_law_0 (x1 : Int32) (σ : zSt) : Option (Int32 × zSt) :=
  bd (F_X12_in x1 (1 : Int32) (240 : Int32) σ) (fun q2 s1 =>
    if q2 = 0 then (
      some ((-1 : Int32), s1))
    else (
      if x1 ≤ (s1.1 69 14) then (
        nm (zwr s1 69 15 (0 : Int32)) (fun s6 =>
          nm (zwr s6 69 16 x1) (fun s7 =>
            nm (zwr s7 69 20 (0 : Int32)) (fun s8 =>
              nm (zwr s8 69 22 (0 : Int32)) (fun s9 =>
                bd (F_X12_readsClause s9) (fun q11 s10 =>
                  zfix (F_X12_law_46L ) zlim (q11, s10)))))))
      else (
        some ((-1 : Int32), s1))))
set_option maxHeartbeats 4000000 in
set_option maxRecDepth 100000 in
theorem p_X12_law_0 {G : zG} {C : zC} {r : Int32} {τ : zSt} (hR : zR G C (some .int) (some (.int r)) τ) (x1 : Int32) (σ : zSt) (h : F_X12_law_0 x1 σ = some (r, τ)) : zAW G 9 RX12 cX12_law 4 C 0 [(0, .ref (zad G 69)), (1, .int x1)] [] σ := by
  unfold F_X12_law_0 at h
  refine z_iload e_X12_law_0 1 rfl ?_
  refine z_ic e_X12_law_1 ?_
  refine z_ic e_X12_law_2 ?_
  obtain ⟨q2, s1, e3, h⟩ := bd_e h
  refine z_callSi (As := [.int x1, .int (1 : Int32), .int (240 : Int32)]) (rest := []) lk_X12_163 e_X12_law_5 (m_X12_in G x1 (1 : Int32) (240 : Int32) σ _ _ e3) (by decide) rfl (Nat.le_of_ble_eq_true rfl) ?_
  refine z_if_eq e_X12_law_8 h (fun c4 h => ?_) (fun c4 h => ?_)
  · refine z_ic e_X12_law_19 ?_
    cases h
    exact z_ireturn hR e_X12_law_20
  · refine z_iload e_X12_law_11 1 rfl ?_
    refine z_aload e_X12_law_12 0 rfl ?_
    refine z_geti gf_X12_186_69 e_X12_law_13 ?_
    refine z_icmp_le e_X12_law_16 h (fun c5 h => ?_) (fun c5 h => ?_)
    · refine z_aload e_X12_law_21 0 rfl ?_
      refine z_ic e_X12_law_22 ?_
      refine z_puti pf_X12_193_69 e_X12_law_23 h (fun s6 h => ?_)
      refine z_aload e_X12_law_26 0 rfl ?_
      refine z_iload e_X12_law_27 1 rfl ?_
      refine z_puti pf_X12_196_69 e_X12_law_28 h (fun s7 h => ?_)
      refine z_aload e_X12_law_31 0 rfl ?_
      refine z_ic e_X12_law_32 ?_
      refine z_puti pf_X12_216_69 e_X12_law_33 h (fun s8 h => ?_)
      refine z_aload e_X12_law_36 0 rfl ?_
      refine z_ic e_X12_law_37 ?_
      refine z_puti pf_X12_270_69 e_X12_law_38 h (fun s9 h => ?_)
      refine z_aload e_X12_law_41 0 rfl ?_
      obtain ⟨q11, s10, e12, h⟩ := bd_e h
      refine z_callVi (c0 := 69) (As := []) (rest := []) lk_X12_276 ob_69 e_X12_law_42 (m_X12_readsClause G s9 _ _ e12) (by decide) rfl (Nat.le_of_ble_eq_true rfl) ?_
      refine z_istore e_X12_law_45 (by decide) [(2, .int q11), (0, .ref (zad G 69)), (1, .int x1)] rfl ?_
      exact z_sub [1, 0] rfl (l_X12_law_46 hR  zlim q11 s10 h)
    · refine z_ic e_X12_law_19 ?_
      cases h
      exact z_ireturn hR e_X12_law_20
noncomputable def F_X12_law (x1 : Int32) (σ : zSt) : Option (Int32 × zSt) := F_X12_law_0 x1 σ
set_option maxRecDepth 100000 in
theorem m_X12_law (G : zG) (x1 : Int32) (σ : zSt) (q : Int32) (τ : zSt) (h : F_X12_law x1 σ = some (q, τ)) : zM G 9 yX12_law cX12_law 4 (some .int) [.ref (zad G 69), .int x1] σ (some (.int q)) τ := by
  unfold F_X12_law at h
  refine zM.of (own := RX12) (by decide +kernel) rfl (Nat.le_of_ble_eq_true rfl) (fun C hR => ?_)
  exact z_sub [0, 1] rfl (p_X12_law_0 hR x1 σ h)
noncomputable def F_X11_fault_0 (x0 : Int32) (x1 : Int32) (σ : zSt) : Option (Int32 × zSt) :=
  some ((((-1000 : Int32) * x0) - x1), σ)
set_option maxHeartbeats 4000000 in
set_option maxRecDepth 100000 in
theorem p_X11_fault_0 {G : zG} {C : zC} {r : Int32} {τ : zSt} (hR : zR G C (some .int) (some (.int r)) τ) (x0 : Int32) (x1 : Int32) (σ : zSt) (h : F_X11_fault_0 x0 x1 σ = some (r, τ)) : zAW G 1 RX11 cX11_fault 2 C 0 [(0, .int x0), (1, .int x1)] [] σ := by
  unfold F_X11_fault_0 at h
  refine z_ic e_X11_fault_0 ?_
  refine z_iload e_X11_fault_3 0 rfl ?_
  refine z_imul e_X11_fault_4 ?_
  refine z_iload e_X11_fault_5 1 rfl ?_
  refine z_isub e_X11_fault_6 ?_
  cases h
  exact z_ireturn hR e_X11_fault_7
noncomputable def F_X11_fault (x0 : Int32) (x1 : Int32) (σ : zSt) : Option (Int32 × zSt) := F_X11_fault_0 x0 x1 σ
set_option maxRecDepth 100000 in
theorem m_X11_fault (G : zG) (x0 : Int32) (x1 : Int32) (σ : zSt) (q : Int32) (τ : zSt) (h : F_X11_fault x0 x1 σ = some (q, τ)) : zM G 1 yX11_fault cX11_fault 2 (some .int) [.int x0, .int x1] σ (some (.int q)) τ := by
  unfold F_X11_fault at h
  refine zM.of (own := RX11) (by decide +kernel) rfl (Nat.le_of_ble_eq_true rfl) (fun C hR => ?_)
  exact z_sub [0, 1] rfl (p_X11_fault_0 hR x0 x1 σ h)
noncomputable def F_J0_isLatin1_aae02_1003_0 (σ : zSt) : Option (Int32 × zSt) :=
  if (1 : Int32) = 0 then (
    some ((0 : Int32), σ))
  else (
    if (0 : Int32) = 0 then (
      some ((1 : Int32), σ))
    else (
      some ((0 : Int32), σ)))
set_option maxHeartbeats 4000000 in
set_option maxRecDepth 100000 in
theorem p_J0_isLatin1_aae02_1003_0 {G : zG} {C : zC} {r : Int32} {τ : zSt} (hR : zR G C (some .boolean) (some (.int r)) τ)  (σ : zSt) (h : F_J0_isLatin1_aae02_1003_0 σ = some (r, τ)) : zAW G 1 RJ0 cJ0_isLatin1_aae02 1 C 0 [(0, .ref (zad G 1003))] [] σ := by
  unfold F_J0_isLatin1_aae02_1003_0 at h
  refine z_gets_cs st_J0_38 e_J0_isLatin1_aae02_0 ?_
  refine z_if_eq e_J0_isLatin1_aae02_3 h (fun c1 h => ?_) (fun c1 h => ?_)
  · refine z_ic e_J0_isLatin1_aae02_17 ?_
    cases h
    exact z_zreturn hR e_J0_isLatin1_aae02_18 (Or.inl rfl)
  · refine z_aload e_J0_isLatin1_aae02_6 0 rfl ?_
    refine z_scod (i := 1) st_J0_15 (by decide) e_J0_isLatin1_aae02_7 ?_
    refine z_if_ne e_J0_isLatin1_aae02_10 h (fun c2 h => ?_) (fun c2 h => ?_)
    · refine z_ic e_J0_isLatin1_aae02_13 ?_
      refine z_goto e_J0_isLatin1_aae02_14 ?_
      cases h
      exact z_zreturn hR e_J0_isLatin1_aae02_18 (Or.inr rfl)
    · refine z_ic e_J0_isLatin1_aae02_17 ?_
      cases h
      exact z_zreturn hR e_J0_isLatin1_aae02_18 (Or.inl rfl)
noncomputable def F_J0_isLatin1_aae02_1003 (σ : zSt) : Option (Int32 × zSt) := F_J0_isLatin1_aae02_1003_0  σ
set_option maxRecDepth 100000 in
theorem m_J0_isLatin1_aae02_1003 (G : zG) (σ : zSt) (q : Int32) (τ : zSt) (h : F_J0_isLatin1_aae02_1003  σ = some (q, τ)) : zM G 1 yJ0_isLatin1_aae02 cJ0_isLatin1_aae02 1 (some .boolean) [.ref (zad G 1003)] σ (some (.int q)) τ := by
  unfold F_J0_isLatin1_aae02_1003 at h
  refine zM.of (own := RJ0) (by decide +kernel) rfl (Nat.le_of_ble_eq_true rfl) (fun C hR => ?_)
  exact z_sub [0] rfl (p_J0_isLatin1_aae02_1003_0 hR  σ h)
noncomputable def F_J0_coder_7d493_1003_0 (σ : zSt) : Option (Int32 × zSt) :=
  if (1 : Int32) = 0 then (
    some ((1 : Int32), σ))
  else (
    some ((0 : Int32), σ))
set_option maxHeartbeats 4000000 in
set_option maxRecDepth 100000 in
theorem p_J0_coder_7d493_1003_0 {G : zG} {C : zC} {r : Int32} {τ : zSt} (hR : zR G C (some .byte) (some (.int r)) τ)  (σ : zSt) (h : F_J0_coder_7d493_1003_0 σ = some (r, τ)) : zAW G 1 RJ0 cJ0_coder_7d493 1 C 0 [(0, .ref (zad G 1003))] [] σ := by
  unfold F_J0_coder_7d493_1003_0 at h
  refine z_gets_cs st_J0_38 e_J0_coder_7d493_0 ?_
  refine z_if_eq e_J0_coder_7d493_3 h (fun c1 h => ?_) (fun c1 h => ?_)
  · refine z_ic e_J0_coder_7d493_13 ?_
    cases h
    exact z_zreturnB hR e_J0_coder_7d493_14 (by decide)
  · refine z_aload e_J0_coder_7d493_6 0 rfl ?_
    refine z_scod (i := 1) st_J0_15 (by decide) e_J0_coder_7d493_7 ?_
    refine z_goto e_J0_coder_7d493_10 ?_
    cases h
    exact z_zreturnB hR e_J0_coder_7d493_14 (by decide)
noncomputable def F_J0_coder_7d493_1003 (σ : zSt) : Option (Int32 × zSt) := F_J0_coder_7d493_1003_0  σ
set_option maxRecDepth 100000 in
theorem m_J0_coder_7d493_1003 (G : zG) (σ : zSt) (q : Int32) (τ : zSt) (h : F_J0_coder_7d493_1003  σ = some (q, τ)) : zM G 1 yJ0_coder_7d493 cJ0_coder_7d493 1 (some .byte) [.ref (zad G 1003)] σ (some (.int q)) τ := by
  unfold F_J0_coder_7d493_1003 at h
  refine zM.of (own := RJ0) (by decide +kernel) rfl (Nat.le_of_ble_eq_true rfl) (fun C hR => ?_)
  exact z_sub [0] rfl (p_J0_coder_7d493_1003_0 hR  σ h)
noncomputable def F_J0_length_8abf5_1003_0 (σ : zSt) : Option (Int32 × zSt) :=
  bd (F_J0_coder_7d493_1003 σ) (fun q2 s1 =>
    some (((6 : Int32) >>> (q2 &&& 31)), s1))
set_option maxHeartbeats 4000000 in
set_option maxRecDepth 100000 in
theorem p_J0_length_8abf5_1003_0 {G : zG} {C : zC} {r : Int32} {τ : zSt} (hR : zR G C (some .int) (some (.int r)) τ)  (σ : zSt) (h : F_J0_length_8abf5_1003_0 σ = some (r, τ)) : zAW G 2 RJ0 cJ0_length_8abf5 1 C 0 [(0, .ref (zad G 1003))] [] σ := by
  unfold F_J0_length_8abf5_1003_0 at h
  refine z_aload e_J0_length_8abf5_0 0 rfl ?_
  refine z_sval (i := 1) st_J0_9 (by decide) e_J0_length_8abf5_1 ?_
  refine z_slen (i := 1) (by decide) 6 rfl e_J0_length_8abf5_4 ?_
  refine z_aload e_J0_length_8abf5_5 0 rfl ?_
  obtain ⟨q2, s1, e3, h⟩ := bd_e h
  refine z_callVsi (i := 1) (As := []) (rest := [.int (6 : Int32)]) lk_J0_335 rfl (by decide) e_J0_length_8abf5_6 (m_J0_coder_7d493_1003 G σ _ _ e3) (by decide) rfl (Nat.le_of_ble_eq_true rfl) ?_
  refine z_ishr e_J0_length_8abf5_9 ?_
  cases h
  exact z_ireturn hR e_J0_length_8abf5_10
noncomputable def F_J0_length_8abf5_1003 (σ : zSt) : Option (Int32 × zSt) := F_J0_length_8abf5_1003_0  σ
set_option maxRecDepth 100000 in
theorem m_J0_length_8abf5_1003 (G : zG) (σ : zSt) (q : Int32) (τ : zSt) (h : F_J0_length_8abf5_1003  σ = some (q, τ)) : zM G 2 yJ0_length_8abf5 cJ0_length_8abf5 1 (some .int) [.ref (zad G 1003)] σ (some (.int q)) τ := by
  unfold F_J0_length_8abf5_1003 at h
  refine zM.of (own := RJ0) (by decide +kernel) rfl (Nat.le_of_ble_eq_true rfl) (fun C hR => ?_)
  exact z_sub [0] rfl (p_J0_length_8abf5_1003_0 hR  σ h)
noncomputable def F_J1_indexOfChar_4cfef_1005_7 (x3 : Int32) (x4 : Int32) (w7 : (Int32 × zSt) → Option (Int32 × zSt)) (x5 : Int32) (σ : zSt) : Option (Int32 × zSt) :=
  if x3 ≤ x5 then (
    some ((-1 : Int32), σ))
  else (
    gd (vp_in x5 (([9, 6] : List Nat).getD 1 0)) (
      if ((zBy.getD 1 []).getD x5.toNatClampNeg 0) = x4 then (
        some (x5, σ))
      else (
        nm (x5 + (1 : Int32)) (fun v4 =>
          w7 (v4, σ)))))
set_option maxHeartbeats 4000000 in
set_option maxRecDepth 100000 in
theorem b_J1_indexOfChar_4cfef_1005_7 {G : zG} {C : zC} {r : Int32} {τ : zSt} (hR : zR G C (some .int) (some (.int r)) τ) (x3 : Int32) (x4 : Int32) (w7 : (Int32 × zSt) → Option (Int32 × zSt)) (hw7 : ∀ (x5 : Int32) (σ : zSt), w7 (x5, σ) = some (r, τ) → zAW G 1 RJ1 cJ1_indexOfChar_4cfef 6 C 7 [(0, .ref (zad G 1005)), (3, .int x3), (4, .int x4), (5, .int x5)] [] σ) (x5 : Int32) (σ : zSt) (h : F_J1_indexOfChar_4cfef_1005_7 x3 x4 w7 x5 σ = some (r, τ)) : zAW G 1 RJ1 cJ1_indexOfChar_4cfef 6 C 7 [(0, .ref (zad G 1005)), (3, .int x3), (4, .int x4), (5, .int x5)] [] σ := by
  unfold F_J1_indexOfChar_4cfef_1005_7 at h
  refine z_iload e_J1_indexOfChar_4cfef_7 3 rfl ?_
  refine z_iload e_J1_indexOfChar_4cfef_9 1 rfl ?_
  refine z_icmp_ge e_J1_indexOfChar_4cfef_10 h (fun c2 h => ?_) (fun c2 h => ?_)
  · refine z_ic e_J1_indexOfChar_4cfef_31 ?_
    cases h
    exact z_ireturn hR e_J1_indexOfChar_4cfef_32
  · refine z_aload e_J1_indexOfChar_4cfef_13 0 rfl ?_
    refine z_iload e_J1_indexOfChar_4cfef_14 3 rfl ?_
    refine z_sbald (i := 1) (by decide) e_J1_indexOfChar_4cfef_16 h (fun h => ?_)
    refine z_iload e_J1_indexOfChar_4cfef_17 2 rfl ?_
    refine z_icmp_ne e_J1_indexOfChar_4cfef_19 h (fun c3 h => ?_) (fun c3 h => ?_)
    · refine z_iload e_J1_indexOfChar_4cfef_22 3 rfl ?_
      cases h
      exact z_ireturn hR e_J1_indexOfChar_4cfef_24
    · refine z_iinc e_J1_indexOfChar_4cfef_25 3 rfl (by decide) (by decide) h (fun y => [(5, .int y), (0, .ref (zad G 1005)), (3, .int x3), (4, .int x4)]) (fun _ => rfl) (fun v4 h => ?_)
      refine z_goto e_J1_indexOfChar_4cfef_28 ?_
      exact z_sub [1, 2, 3, 0] rfl (hw7 v4 σ h)
noncomputable def F_J1_indexOfChar_4cfef_1005_7L (x3 : Int32) (x4 : Int32) : ((Int32 × zSt) → Option (Int32 × zSt)) → (Int32 × zSt) → Option (Int32 × zSt) := fun w s => F_J1_indexOfChar_4cfef_1005_7 x3 x4 w s.1 s.2
set_option maxRecDepth 100000 in
theorem l_J1_indexOfChar_4cfef_1005_7 {G : zG} {C : zC} {r : Int32} {τ : zSt} (hR : zR G C (some .int) (some (.int r)) τ) (x3 : Int32) (x4 : Int32) : ∀ (N : Nat) (x5 : Int32) (σ : zSt), zfix (F_J1_indexOfChar_4cfef_1005_7L x3 x4) N (x5, σ) = some (r, τ) → zAW G 1 RJ1 cJ1_indexOfChar_4cfef 6 C 7 [(0, .ref (zad G 1005)), (3, .int x3), (4, .int x4), (5, .int x5)] [] σ := by
  intro N
  induction N with
  | zero =>
    intro x5 σ h
    exact nomatch (show (none : Option (Int32 × zSt)) = some (r, τ) from h)
  | succ N ih =>
    intro x5 σ h
    exact b_J1_indexOfChar_4cfef_1005_7 hR x3 x4 (zfix (F_J1_indexOfChar_4cfef_1005_7L x3 x4) N) ih x5 σ h
noncomputable def F_J1_indexOfChar_4cfef_1005_0 (x1 : Int32) (x2 : Int32) (x3 : Int32) (σ : zSt) : Option (Int32 × zSt) :=
  nm (x1.toInt8.toInt32) (fun v1 =>
    zfix (F_J1_indexOfChar_4cfef_1005_7L x3 v1) zlim (x2, σ))
set_option maxHeartbeats 4000000 in
set_option maxRecDepth 100000 in
theorem p_J1_indexOfChar_4cfef_1005_0 {G : zG} {C : zC} {r : Int32} {τ : zSt} (hR : zR G C (some .int) (some (.int r)) τ) (x1 : Int32) (x2 : Int32) (x3 : Int32) (σ : zSt) (h : F_J1_indexOfChar_4cfef_1005_0 x1 x2 x3 σ = some (r, τ)) : zAW G 1 RJ1 cJ1_indexOfChar_4cfef 6 C 0 [(0, .ref (zad G 1005)), (1, .int x1), (2, .int x2), (3, .int x3)] [] σ := by
  unfold F_J1_indexOfChar_4cfef_1005_0 at h
  refine z_iload e_J1_indexOfChar_4cfef_0 1 rfl ?_
  refine z_i2b e_J1_indexOfChar_4cfef_1 ?_
  refine z_nmI h (fun v1 h => ?_)
  refine z_istore e_J1_indexOfChar_4cfef_2 (by decide) [(4, .int v1), (0, .ref (zad G 1005)), (1, .int x1), (2, .int x2), (3, .int x3)] rfl ?_
  refine z_iload e_J1_indexOfChar_4cfef_4 3 rfl ?_
  refine z_istore e_J1_indexOfChar_4cfef_5 (by decide) [(5, .int x2), (4, .int v1), (0, .ref (zad G 1005)), (1, .int x1), (2, .int x2), (3, .int x3)] rfl ?_
  exact z_sub [2, 5, 1, 0] rfl (l_J1_indexOfChar_4cfef_1005_7 hR x3 v1 zlim x2 σ h)
noncomputable def F_J1_indexOfChar_4cfef_1005 (x1 : Int32) (x2 : Int32) (x3 : Int32) (σ : zSt) : Option (Int32 × zSt) := F_J1_indexOfChar_4cfef_1005_0 x1 x2 x3 σ
set_option maxRecDepth 100000 in
theorem m_J1_indexOfChar_4cfef_1005 (G : zG) (x1 : Int32) (x2 : Int32) (x3 : Int32) (σ : zSt) (q : Int32) (τ : zSt) (h : F_J1_indexOfChar_4cfef_1005 x1 x2 x3 σ = some (q, τ)) : zM G 1 yJ1_indexOfChar_4cfef cJ1_indexOfChar_4cfef 6 (some .int) [.ref (zad G 1005), .int x1, .int x2, .int x3] σ (some (.int q)) τ := by
  unfold F_J1_indexOfChar_4cfef_1005 at h
  refine zM.of (own := RJ1) (by decide +kernel) rfl (Nat.le_of_ble_eq_true rfl) (fun C hR => ?_)
  exact z_sub [0, 1, 2, 3] rfl (p_J1_indexOfChar_4cfef_1005_0 hR x1 x2 x3 σ h)
noncomputable def F_J1_indexOf_4cfef_1005_0 (x1 : Int32) (x2 : Int32) (x3 : Int32) (σ : zSt) : Option (Int32 × zSt) :=
  bd (F_J1_canEncode_9a6ad x1 σ) (fun q2 s1 =>
    if q2 = 0 then (
      some ((-1 : Int32), s1))
    else (
      nm (jmax x2 (0 : Int32)) (fun v5 =>
        nm (jmin x3 (6 : Int32)) (fun v6 =>
          if v5 < v6 then (
            bd (F_J1_indexOfChar_4cfef_1005 x1 v5 v6 s1) (fun q9 s8 =>
              some (q9, s8)))
          else (
            some ((-1 : Int32), s1))))))
set_option maxHeartbeats 4000000 in
set_option maxRecDepth 100000 in
theorem p_J1_indexOf_4cfef_1005_0 {G : zG} {C : zC} {r : Int32} {τ : zSt} (hR : zR G C (some .int) (some (.int r)) τ) (x1 : Int32) (x2 : Int32) (x3 : Int32) (σ : zSt) (h : F_J1_indexOf_4cfef_1005_0 x1 x2 x3 σ = some (r, τ)) : zAW G 2 RJ1 cJ1_indexOf_4cfef 4 C 0 [(0, .ref (zad G 1005)), (1, .int x1), (2, .int x2), (3, .int x3)] [] σ := by
  unfold F_J1_indexOf_4cfef_1005_0 at h
  refine z_iload e_J1_indexOf_4cfef_0 1 rfl ?_
  obtain ⟨q2, s1, e3, h⟩ := bd_e h
  refine z_callSi (As := [.int x1]) (rest := []) lk_J1_88 e_J1_indexOf_4cfef_1 (m_J1_canEncode_9a6ad G x1 σ _ _ e3) (by decide) rfl (Nat.le_of_ble_eq_true rfl) ?_
  refine z_if_ne e_J1_indexOf_4cfef_4 h (fun c4 h => ?_) (fun c4 h => ?_)
  · refine z_ic e_J1_indexOf_4cfef_7 ?_
    cases h
    exact z_ireturn hR e_J1_indexOf_4cfef_8
  · refine z_iload e_J1_indexOf_4cfef_9 2 rfl ?_
    refine z_ic e_J1_indexOf_4cfef_10 ?_
    refine z_jmax mm_J1_92 (Nat.le_of_ble_eq_true rfl) (by decide) e_J1_indexOf_4cfef_11 ?_
    refine z_nmI h (fun v5 h => ?_)
    refine z_istore e_J1_indexOf_4cfef_14 (by decide) [(2, .int v5), (0, .ref (zad G 1005)), (1, .int x1), (3, .int x3)] rfl ?_
    refine z_iload e_J1_indexOf_4cfef_15 3 rfl ?_
    refine z_aload e_J1_indexOf_4cfef_16 1 rfl ?_
    refine z_slen (i := 1) (by decide) 6 rfl e_J1_indexOf_4cfef_17 ?_
    refine z_jmin mm_J1_38 (Nat.le_of_ble_eq_true rfl) (by decide) e_J1_indexOf_4cfef_18 ?_
    refine z_nmI h (fun v6 h => ?_)
    refine z_istore e_J1_indexOf_4cfef_21 (by decide) [(3, .int v6), (2, .int v5), (0, .ref (zad G 1005)), (1, .int x1)] rfl ?_
    refine z_iload e_J1_indexOf_4cfef_22 1 rfl ?_
    refine z_iload e_J1_indexOf_4cfef_23 0 rfl ?_
    refine z_icmp_lt e_J1_indexOf_4cfef_24 h (fun c7 h => ?_) (fun c7 h => ?_)
    · refine z_aload e_J1_indexOf_4cfef_29 2 rfl ?_
      refine z_iload e_J1_indexOf_4cfef_30 3 rfl ?_
      refine z_iload e_J1_indexOf_4cfef_31 1 rfl ?_
      refine z_iload e_J1_indexOf_4cfef_32 0 rfl ?_
      obtain ⟨q9, s8, e10, h⟩ := bd_e h
      refine z_callSi (As := [.ref (zad G 1005), .int x1, .int v5, .int v6]) (rest := []) lk_J1_95 e_J1_indexOf_4cfef_33 (m_J1_indexOfChar_4cfef_1005 G x1 v5 v6 s1 _ _ e10) (by decide) rfl (Nat.le_of_ble_eq_true rfl) ?_
      cases h
      exact z_ireturn hR e_J1_indexOf_4cfef_36
    · refine z_ic e_J1_indexOf_4cfef_27 ?_
      cases h
      exact z_ireturn hR e_J1_indexOf_4cfef_28
noncomputable def F_J1_indexOf_4cfef_1005 (x1 : Int32) (x2 : Int32) (x3 : Int32) (σ : zSt) : Option (Int32 × zSt) := F_J1_indexOf_4cfef_1005_0 x1 x2 x3 σ
set_option maxRecDepth 100000 in
theorem m_J1_indexOf_4cfef_1005 (G : zG) (x1 : Int32) (x2 : Int32) (x3 : Int32) (σ : zSt) (q : Int32) (τ : zSt) (h : F_J1_indexOf_4cfef_1005 x1 x2 x3 σ = some (q, τ)) : zM G 2 yJ1_indexOf_4cfef cJ1_indexOf_4cfef 4 (some .int) [.ref (zad G 1005), .int x1, .int x2, .int x3] σ (some (.int q)) τ := by
  unfold F_J1_indexOf_4cfef_1005 at h
  refine zM.of (own := RJ1) (by decide +kernel) rfl (Nat.le_of_ble_eq_true rfl) (fun C hR => ?_)
  exact z_sub [0, 1, 2, 3] rfl (p_J1_indexOf_4cfef_1005_0 hR x1 x2 x3 σ h)
noncomputable def F_J0_indexOf_7cf53_1003_0 (x1 : Int32) (x2 : Int32) (σ : zSt) : Option (Int32 × zSt) :=
  bd (F_J0_isLatin1_aae02_1003 σ) (fun q2 s1 =>
    if q2 = 0 then (
      bd (F_J0_length_8abf5_1003 s1) (fun q6 s5 =>
        none))
    else (
      bd (F_J0_length_8abf5_1003 s1) (fun q9 s8 =>
        bd (F_J1_indexOf_4cfef_1005 x1 x2 q9 s8) (fun q12 s11 =>
          some (q12, s11)))))
set_option maxHeartbeats 4000000 in
set_option maxRecDepth 100000 in
theorem p_J0_indexOf_7cf53_1003_0 {G : zG} {C : zC} {r : Int32} {τ : zSt} (hR : zR G C (some .int) (some (.int r)) τ) (x1 : Int32) (x2 : Int32) (σ : zSt) (h : F_J0_indexOf_7cf53_1003_0 x1 x2 σ = some (r, τ)) : zAW G 3 RJ0 cJ0_indexOf_7cf53 3 C 0 [(0, .ref (zad G 1003)), (1, .int x1), (2, .int x2)] [] σ := by
  unfold F_J0_indexOf_7cf53_1003_0 at h
  refine z_aload e_J0_indexOf_7cf53_0 0 rfl ?_
  obtain ⟨q2, s1, e3, h⟩ := bd_e h
  refine z_callVsi (i := 1) (As := []) (rest := []) lk_J0_492 rfl (by decide) e_J0_indexOf_7cf53_1 (m_J0_isLatin1_aae02_1003 G σ _ _ e3) (by decide) rfl (Nat.le_of_ble_eq_true rfl) ?_
  refine z_if_eq e_J0_indexOf_7cf53_4 h (fun c4 h => ?_) (fun c4 h => ?_)
  · refine z_aload e_J0_indexOf_7cf53_23 0 rfl ?_
    refine z_sval (i := 1) st_J0_9 (by decide) e_J0_indexOf_7cf53_24 ?_
    refine z_iload e_J0_indexOf_7cf53_27 1 rfl ?_
    refine z_iload e_J0_indexOf_7cf53_28 2 rfl ?_
    refine z_aload e_J0_indexOf_7cf53_29 0 rfl ?_
    obtain ⟨q6, s5, e7, h⟩ := bd_e h
    refine z_callVsi (i := 1) (As := []) (rest := [.int x2, .int x1, .ref (zad G 1005)]) lk_J0_505 rfl (by decide) e_J0_indexOf_7cf53_30 (m_J0_length_8abf5_1003 G s1 _ _ e7) (by decide) rfl (Nat.le_of_ble_eq_true rfl) ?_
    cases h
  · refine z_aload e_J0_indexOf_7cf53_7 0 rfl ?_
    refine z_sval (i := 1) st_J0_9 (by decide) e_J0_indexOf_7cf53_8 ?_
    refine z_iload e_J0_indexOf_7cf53_11 1 rfl ?_
    refine z_iload e_J0_indexOf_7cf53_12 2 rfl ?_
    refine z_aload e_J0_indexOf_7cf53_13 0 rfl ?_
    obtain ⟨q9, s8, e10, h⟩ := bd_e h
    refine z_callVsi (i := 1) (As := []) (rest := [.int x2, .int x1, .ref (zad G 1005)]) lk_J0_505 rfl (by decide) e_J0_indexOf_7cf53_14 (m_J0_length_8abf5_1003 G s1 _ _ e10) (by decide) rfl (Nat.le_of_ble_eq_true rfl) ?_
    obtain ⟨q12, s11, e13, h⟩ := bd_e h
    refine z_callSi (As := [.ref (zad G 1005), .int x1, .int x2, .int q9]) (rest := []) lk_J0_637 e_J0_indexOf_7cf53_17 (m_J1_indexOf_4cfef_1005 G x1 x2 q9 s8 _ _ e13) (by decide) rfl (Nat.le_of_ble_eq_true rfl) ?_
    refine z_goto e_J0_indexOf_7cf53_20 ?_
    cases h
    exact z_ireturn hR e_J0_indexOf_7cf53_36
noncomputable def F_J0_indexOf_7cf53_1003 (x1 : Int32) (x2 : Int32) (σ : zSt) : Option (Int32 × zSt) := F_J0_indexOf_7cf53_1003_0 x1 x2 σ
set_option maxRecDepth 100000 in
theorem m_J0_indexOf_7cf53_1003 (G : zG) (x1 : Int32) (x2 : Int32) (σ : zSt) (q : Int32) (τ : zSt) (h : F_J0_indexOf_7cf53_1003 x1 x2 σ = some (q, τ)) : zM G 3 yJ0_indexOf_7cf53 cJ0_indexOf_7cf53 3 (some .int) [.ref (zad G 1003), .int x1, .int x2] σ (some (.int q)) τ := by
  unfold F_J0_indexOf_7cf53_1003 at h
  refine zM.of (own := RJ0) (by decide +kernel) rfl (Nat.le_of_ble_eq_true rfl) (fun C hR => ?_)
  exact z_sub [0, 1, 2] rfl (p_J0_indexOf_7cf53_1003_0 hR x1 x2 σ h)
noncomputable def F_J0_indexOf_0f7a4_1003_0 (x1 : Int32) (σ : zSt) : Option (Int32 × zSt) :=
  bd (F_J0_indexOf_7cf53_1003 x1 (0 : Int32) σ) (fun q2 s1 =>
    some (q2, s1))
set_option maxHeartbeats 4000000 in
set_option maxRecDepth 100000 in
theorem p_J0_indexOf_0f7a4_1003_0 {G : zG} {C : zC} {r : Int32} {τ : zSt} (hR : zR G C (some .int) (some (.int r)) τ) (x1 : Int32) (σ : zSt) (h : F_J0_indexOf_0f7a4_1003_0 x1 σ = some (r, τ)) : zAW G 4 RJ0 cJ0_indexOf_0f7a4 2 C 0 [(0, .ref (zad G 1003)), (1, .int x1)] [] σ := by
  unfold F_J0_indexOf_0f7a4_1003_0 at h
  refine z_aload e_J0_indexOf_0f7a4_0 0 rfl ?_
  refine z_iload e_J0_indexOf_0f7a4_1 1 rfl ?_
  refine z_ic e_J0_indexOf_0f7a4_2 ?_
  obtain ⟨q2, s1, e3, h⟩ := bd_e h
  refine z_callVsi (i := 1) (As := [.int x1, .int (0 : Int32)]) (rest := []) lk_J0_633 rfl (by decide) e_J0_indexOf_0f7a4_3 (m_J0_indexOf_7cf53_1003 G x1 (0 : Int32) σ _ _ e3) (by decide) rfl (Nat.le_of_ble_eq_true rfl) ?_
  cases h
  exact z_ireturn hR e_J0_indexOf_0f7a4_6
noncomputable def F_J0_indexOf_0f7a4_1003 (x1 : Int32) (σ : zSt) : Option (Int32 × zSt) := F_J0_indexOf_0f7a4_1003_0 x1 σ
set_option maxRecDepth 100000 in
theorem m_J0_indexOf_0f7a4_1003 (G : zG) (x1 : Int32) (σ : zSt) (q : Int32) (τ : zSt) (h : F_J0_indexOf_0f7a4_1003 x1 σ = some (q, τ)) : zM G 4 yJ0_indexOf_0f7a4 cJ0_indexOf_0f7a4 2 (some .int) [.ref (zad G 1003), .int x1] σ (some (.int q)) τ := by
  unfold F_J0_indexOf_0f7a4_1003 at h
  refine zM.of (own := RJ0) (by decide +kernel) rfl (Nat.le_of_ble_eq_true rfl) (fun C hR => ?_)
  exact z_sub [0, 1] rfl (p_J0_indexOf_0f7a4_1003_0 hR x1 σ h)
noncomputable def F_X5_highest_0 (x0 : Int32) (σ : zSt) : Option (Int32 × zSt) :=
  bd (F_X11_isBelow x0 (6 : Int32) σ) (fun q2 s1 =>
    if q2 = 0 then (
      some ((-1 : Int32), s1))
    else (
      gd (vp_in x0 6) (
        some ((zHi x0.toNatClampNeg), s1))))
set_option maxHeartbeats 4000000 in
set_option maxRecDepth 100000 in
theorem p_X5_highest_0 {G : zG} {C : zC} {r : Int32} {τ : zSt} (hR : zR G C (some .int) (some (.int r)) τ) (x0 : Int32) (σ : zSt) (h : F_X5_highest_0 x0 σ = some (r, τ)) : zAW G 2 RX5 cX5_highest 1 C 0 [(0, .int x0)] [] σ := by
  unfold F_X5_highest_0 at h
  refine z_iload e_X5_highest_0 0 rfl ?_
  refine z_ic e_X5_highest_1 ?_
  obtain ⟨q2, s1, e3, h⟩ := bd_e h
  refine z_callNi (As := [.int x0, .int (6 : Int32)]) (rest := []) lk_X5_34 e_X5_highest_3 (m_X11_isBelow G x0 (6 : Int32) σ _ _ e3) (by decide) rfl (Nat.le_of_ble_eq_true rfl) ?_
  refine z_if_eq e_X5_highest_6 h (fun c4 h => ?_) (fun c4 h => ?_)
  · refine z_ic e_X5_highest_17 ?_
    cases h
    exact z_ireturn hR e_X5_highest_18
  · refine z_gets_hi st_X5_38 e_X5_highest_9 ?_
    refine z_iload e_X5_highest_12 0 rfl ?_
    refine z_kald_hi e_X5_highest_13 h (fun h => ?_)
    refine z_goto e_X5_highest_14 ?_
    cases h
    exact z_ireturn hR e_X5_highest_18
noncomputable def F_X5_highest (x0 : Int32) (σ : zSt) : Option (Int32 × zSt) := F_X5_highest_0 x0 σ
set_option maxRecDepth 100000 in
theorem m_X5_highest (G : zG) (x0 : Int32) (σ : zSt) (q : Int32) (τ : zSt) (h : F_X5_highest x0 σ = some (q, τ)) : zM G 2 yX5_highest cX5_highest 1 (some .int) [.int x0] σ (some (.int q)) τ := by
  unfold F_X5_highest at h
  refine zM.of (own := RX5) (by decide +kernel) rfl (Nat.le_of_ble_eq_true rfl) (fun C hR => ?_)
  exact z_sub [0] rfl (p_X5_highest_0 hR x0 σ h)
noncomputable def F_X7_read_185 (x2 : Int32) (σ : zSt) : Option (Int32 × zSt) :=
  bd (F_X11_fault (4 : Int32) x2 σ) (fun q4 s3 =>
    some (q4, s3))
set_option maxHeartbeats 4000000 in
set_option maxRecDepth 100000 in
theorem p_X7_read_185 {G : zG} {C : zC} {r : Int32} {τ : zSt} (hR : zR G C (some .int) (some (.int r)) τ) (x2 : Int32) (σ : zSt) (h : F_X7_read_185 x2 σ = some (r, τ)) : zAW G 5 RX7 cX7_read 7 C 185 [(2, .int x2)] [] σ := by
  unfold F_X7_read_185 at h
  refine z_ic e_X7_read_185 ?_
  refine z_iload e_X7_read_186 0 rfl ?_
  obtain ⟨q4, s3, e5, h⟩ := bd_e h
  refine z_callNi (As := [.int (4 : Int32), .int x2]) (rest := []) lk_X7_35 e_X7_read_187 (m_X11_fault G (4 : Int32) x2 σ _ _ e5) (by decide) rfl (Nat.le_of_ble_eq_true rfl) ?_
  cases h
  exact z_ireturn hR e_X7_read_190
noncomputable def F_X7_read_89 (x2 : Int32) (σ : zSt) : Option (Int32 × zSt) :=
  bd (F_X11_fault (1 : Int32) (x2 + (1 : Int32)) σ) (fun q24 s23 =>
    some (q24, s23))
set_option maxHeartbeats 4000000 in
set_option maxRecDepth 100000 in
theorem p_X7_read_89 {G : zG} {C : zC} {r : Int32} {τ : zSt} (hR : zR G C (some .int) (some (.int r)) τ) (x2 : Int32) (σ : zSt) (h : F_X7_read_89 x2 σ = some (r, τ)) : zAW G 5 RX7 cX7_read 7 C 89 [(2, .int x2)] [] σ := by
  unfold F_X7_read_89 at h
  refine z_ic e_X7_read_89 ?_
  refine z_iload e_X7_read_90 0 rfl ?_
  refine z_ic e_X7_read_91 ?_
  refine z_iadd e_X7_read_92 ?_
  obtain ⟨q24, s23, e25, h⟩ := bd_e h
  refine z_callNi (As := [.int (1 : Int32), .int (x2 + (1 : Int32))]) (rest := []) lk_X7_35 e_X7_read_93 (m_X11_fault G (1 : Int32) (x2 + (1 : Int32)) σ _ _ e25) (by decide) rfl (Nat.le_of_ble_eq_true rfl) ?_
  cases h
  exact z_ireturn hR e_X7_read_96
noncomputable def F_X7_read_170 (x2 : Int32) (σ : zSt) : Option (Int32 × zSt) :=
  bd (F_X11_fault (1 : Int32) x2 σ) (fun q42 s41 =>
    some (q42, s41))
set_option maxHeartbeats 4000000 in
set_option maxRecDepth 100000 in
theorem p_X7_read_170 {G : zG} {C : zC} {r : Int32} {τ : zSt} (hR : zR G C (some .int) (some (.int r)) τ) (x2 : Int32) (σ : zSt) (h : F_X7_read_170 x2 σ = some (r, τ)) : zAW G 5 RX7 cX7_read 7 C 170 [(2, .int x2)] [] σ := by
  unfold F_X7_read_170 at h
  refine z_ic e_X7_read_170 ?_
  refine z_iload e_X7_read_171 0 rfl ?_
  obtain ⟨q42, s41, e43, h⟩ := bd_e h
  refine z_callNi (As := [.int (1 : Int32), .int x2]) (rest := []) lk_X7_35 e_X7_read_172 (m_X11_fault G (1 : Int32) x2 σ _ _ e43) (by decide) rfl (Nat.le_of_ble_eq_true rfl) ?_
  cases h
  exact z_ireturn hR e_X7_read_175
noncomputable def F_X7_read_107 (x2 : Int32) (σ : zSt) : Option (Int32 × zSt) :=
  bd (F_X11_fault (3 : Int32) (x2 + (1 : Int32)) σ) (fun q45 s44 =>
    some (q45, s44))
set_option maxHeartbeats 4000000 in
set_option maxRecDepth 100000 in
theorem p_X7_read_107 {G : zG} {C : zC} {r : Int32} {τ : zSt} (hR : zR G C (some .int) (some (.int r)) τ) (x2 : Int32) (σ : zSt) (h : F_X7_read_107 x2 σ = some (r, τ)) : zAW G 5 RX7 cX7_read 7 C 107 [(2, .int x2)] [] σ := by
  unfold F_X7_read_107 at h
  refine z_ic e_X7_read_107 ?_
  refine z_iload e_X7_read_108 0 rfl ?_
  refine z_ic e_X7_read_109 ?_
  refine z_iadd e_X7_read_110 ?_
  obtain ⟨q45, s44, e46, h⟩ := bd_e h
  refine z_callNi (As := [.int (3 : Int32), .int (x2 + (1 : Int32))]) (rest := []) lk_X7_35 e_X7_read_111 (m_X11_fault G (3 : Int32) (x2 + (1 : Int32)) σ _ _ e46) (by decide) rfl (Nat.le_of_ble_eq_true rfl) ?_
  cases h
  exact z_ireturn hR e_X7_read_114
noncomputable def F_X7_read_61 (x2 : Int32) (σ : zSt) : Option (Int32 × zSt) :=
  bd (F_X11_fault (4 : Int32) x2 σ) (fun q48 s47 =>
    some (q48, s47))
set_option maxHeartbeats 4000000 in
set_option maxRecDepth 100000 in
theorem p_X7_read_61 {G : zG} {C : zC} {r : Int32} {τ : zSt} (hR : zR G C (some .int) (some (.int r)) τ) (x2 : Int32) (σ : zSt) (h : F_X7_read_61 x2 σ = some (r, τ)) : zAW G 5 RX7 cX7_read 7 C 61 [(2, .int x2)] [] σ := by
  unfold F_X7_read_61 at h
  refine z_ic e_X7_read_61 ?_
  refine z_iload e_X7_read_62 0 rfl ?_
  obtain ⟨q48, s47, e49, h⟩ := bd_e h
  refine z_callNi (As := [.int (4 : Int32), .int x2]) (rest := []) lk_X7_35 e_X7_read_63 (m_X11_fault G (4 : Int32) x2 σ _ _ e49) (by decide) rfl (Nat.le_of_ble_eq_true rfl) ?_
  cases h
  exact z_ireturn hR e_X7_read_66
noncomputable def F_X7_read_46 (x2 : Int32) (σ : zSt) : Option (Int32 × zSt) :=
  bd (F_X11_fault (1 : Int32) x2 σ) (fun q51 s50 =>
    some (q51, s50))
set_option maxHeartbeats 4000000 in
set_option maxRecDepth 100000 in
theorem p_X7_read_46 {G : zG} {C : zC} {r : Int32} {τ : zSt} (hR : zR G C (some .int) (some (.int r)) τ) (x2 : Int32) (σ : zSt) (h : F_X7_read_46 x2 σ = some (r, τ)) : zAW G 5 RX7 cX7_read 7 C 46 [(2, .int x2)] [] σ := by
  unfold F_X7_read_46 at h
  refine z_ic e_X7_read_46 ?_
  refine z_iload e_X7_read_47 0 rfl ?_
  obtain ⟨q51, s50, e52, h⟩ := bd_e h
  refine z_callNi (As := [.int (1 : Int32), .int x2]) (rest := []) lk_X7_35 e_X7_read_48 (m_X11_fault G (1 : Int32) x2 σ _ _ e52) (by decide) rfl (Nat.le_of_ble_eq_true rfl) ?_
  cases h
  exact z_ireturn hR e_X7_read_51
noncomputable def F_X7_read_39 (w9 : (Int32 × Int32 × zSt) → Option (Int32 × zSt)) (x2 : Int32) (x3 : Int32) (t0 : Int32) (σ : zSt) : Option (Int32 × zSt) :=
  if 0 ≤ t0 then (
    if (σ.1 44 2) < (32 : Int32) then (
      bd (F_X8_at (x2 + (1 : Int32)) σ) (fun q16 s15 =>
        nm (q16 - (48 : Int32)) (fun v18 =>
          bd (F_X11_isBelow v18 (10 : Int32) s15) (fun q20 s19 =>
            if q20 = 0 then (
              F_X7_read_89 x2 s19)
            else (
              bd (F_X5_highest t0 s19) (fun q27 s26 =>
                if v18 ≤ q27 then (
                  gd (vp_in (s26.1 44 2) 32) (nm (zwr s26 45 (s26.1 44 2).toNatClampNeg t0) (fun s30 =>
                    gd (vp_in (s30.1 44 2) 32) (nm (zwr s30 46 (s30.1 44 2).toNatClampNeg v18) (fun s31 =>
                      nm (zwr s31 44 2 ((s31.1 44 2) + (1 : Int32))) (fun s32 =>
                        nm (x2 + (2 : Int32)) (fun v33 =>
                          if v33 = (s32.1 33 2) then (
                            some ((0 : Int32), s32))
                          else (
                            bd (F_X8_at v33 s32) (fun q36 s35 =>
                              if q36 = (44 : Int32) then (
                                nm (v33 + (1 : Int32)) (fun v39 =>
                                  nm (x3 + (1 : Int32)) (fun v40 =>
                                    w9 (v39, v40, s35))))
                              else (
                                F_X7_read_170 v33 s35))))))))))
                else (
                  F_X7_read_107 x2 s26)))))))
    else (
      F_X7_read_61 x2 σ))
  else (
    F_X7_read_46 x2 σ)
set_option maxHeartbeats 4000000 in
set_option maxRecDepth 100000 in
theorem p_X7_read_39 {G : zG} {C : zC} {r : Int32} {τ : zSt} (hR : zR G C (some .int) (some (.int r)) τ) (w9 : (Int32 × Int32 × zSt) → Option (Int32 × zSt)) (x2 : Int32) (x3 : Int32) (t0 : Int32) (hw9 : ∀ (x2 : Int32) (x3 : Int32) (σ : zSt), w9 (x2, x3, σ) = some (r, τ) → zAW G 5 RX7 cX7_read 7 C 9 [(0, .ref (zad G 44)), (1, .ref (zad G 33)), (2, .int x2), (3, .int x3)] [] σ) (σ : zSt) (h : F_X7_read_39 w9 x2 x3 t0 σ = some (r, τ)) : zAW G 5 RX7 cX7_read 7 C 39 [(0, .ref (zad G 44)), (1, .ref (zad G 33)), (2, .int x2), (3, .int x3)] [.int t0] σ := by
  unfold F_X7_read_39 at h
  refine z_istore e_X7_read_39 (by decide) [(5, .int t0), (0, .ref (zad G 44)), (1, .ref (zad G 33)), (2, .int x2), (3, .int x3)] rfl ?_
  refine z_iload e_X7_read_41 0 rfl ?_
  refine z_if_ge e_X7_read_43 h (fun c13 h => ?_) (fun c13 h => ?_)
  · refine z_aload e_X7_read_52 1 rfl ?_
    refine z_geti gf_X7_18_44 e_X7_read_53 ?_
    refine z_ic e_X7_read_56 ?_
    refine z_icmp_lt e_X7_read_58 h (fun c14 h => ?_) (fun c14 h => ?_)
    · refine z_aload e_X7_read_67 2 rfl ?_
      refine z_iload e_X7_read_68 3 rfl ?_
      refine z_ic e_X7_read_69 ?_
      refine z_iadd e_X7_read_70 ?_
      obtain ⟨q16, s15, e17, h⟩ := bd_e h
      refine z_callVi (c0 := 33) (As := [.int (x2 + (1 : Int32))]) (rest := []) lk_X7_22 ob_33 e_X7_read_71 (m_X8_at G (x2 + (1 : Int32)) σ _ _ e17) (by decide) rfl (Nat.le_of_ble_eq_true rfl) ?_
      refine z_ic e_X7_read_74 ?_
      refine z_isub e_X7_read_76 ?_
      refine z_nmI h (fun v18 h => ?_)
      refine z_istore e_X7_read_77 (by decide) [(6, .int v18), (5, .int t0), (0, .ref (zad G 44)), (1, .ref (zad G 33)), (2, .int x2), (3, .int x3)] rfl ?_
      refine z_iload e_X7_read_79 0 rfl ?_
      refine z_ic e_X7_read_81 ?_
      obtain ⟨q20, s19, e21, h⟩ := bd_e h
      refine z_callNi (As := [.int v18, .int (10 : Int32)]) (rest := []) lk_X7_39 e_X7_read_83 (m_X11_isBelow G v18 (10 : Int32) s15 _ _ e21) (by decide) rfl (Nat.le_of_ble_eq_true rfl) ?_
      refine z_if_ne e_X7_read_86 h (fun c22 h => ?_) (fun c22 h => ?_)
      · exact z_sub [4] rfl (p_X7_read_89 hR x2 s19 h)
      · refine z_iload e_X7_read_97 0 rfl ?_
        refine z_iload e_X7_read_99 1 rfl ?_
        obtain ⟨q27, s26, e28, h⟩ := bd_e h
        refine z_callSi (As := [.int t0]) (rest := [.int v18]) lk_X7_43 e_X7_read_101 (m_X5_highest G t0 s19 _ _ e28) (by decide) rfl (Nat.le_of_ble_eq_true rfl) ?_
        refine z_icmp_le e_X7_read_104 h (fun c29 h => ?_) (fun c29 h => ?_)
        · refine z_aload e_X7_read_115 2 rfl ?_
          refine z_getr gf_X7_11_44 e_X7_read_116 ?_
          refine z_aload e_X7_read_119 2 rfl ?_
          refine z_geti gf_X7_18_44 e_X7_read_120 ?_
          refine z_iload e_X7_read_123 1 rfl ?_
          refine z_iast sh_45 e_X7_read_125 h (fun s30 h => ?_)
          refine z_aload e_X7_read_126 2 rfl ?_
          refine z_getr gf_X7_15_44 e_X7_read_127 ?_
          refine z_aload e_X7_read_130 2 rfl ?_
          refine z_geti gf_X7_18_44 e_X7_read_131 ?_
          refine z_iload e_X7_read_134 0 rfl ?_
          refine z_iast sh_46 e_X7_read_136 h (fun s31 h => ?_)
          refine z_aload e_X7_read_137 2 rfl ?_
          refine z_dup e_X7_read_138 rfl ?_
          refine z_geti gf_X7_18_44 e_X7_read_139 ?_
          refine z_ic e_X7_read_142 ?_
          refine z_iadd e_X7_read_143 ?_
          refine z_puti pf_X7_18_44 e_X7_read_144 h (fun s32 h => ?_)
          refine z_iinc e_X7_read_147 4 rfl (by decide) (by decide) h (fun y => [(2, .int y), (6, .int v18), (5, .int t0), (0, .ref (zad G 44)), (1, .ref (zad G 33)), (3, .int x3)]) (fun _ => rfl) (fun v33 h => ?_)
          refine z_iload e_X7_read_150 0 rfl ?_
          refine z_aload e_X7_read_151 4 rfl ?_
          refine z_geti gf_X7_48_33 e_X7_read_152 ?_
          refine z_icmp_ne e_X7_read_155 h (fun c34 h => ?_) (fun c34 h => ?_)
          · refine z_ic e_X7_read_158 ?_
            cases h
            exact z_ireturn hR e_X7_read_159
          · refine z_aload e_X7_read_160 4 rfl ?_
            refine z_iload e_X7_read_161 0 rfl ?_
            obtain ⟨q36, s35, e37, h⟩ := bd_e h
            refine z_callVi (c0 := 33) (As := [.int v33]) (rest := []) lk_X7_22 ob_33 e_X7_read_162 (m_X8_at G v33 s32 _ _ e37) (by decide) rfl (Nat.le_of_ble_eq_true rfl) ?_
            refine z_ic e_X7_read_165 ?_
            refine z_icmp_eq e_X7_read_167 h (fun c38 h => ?_) (fun c38 h => ?_)
            · refine z_iinc e_X7_read_176 0 rfl (by decide) (by decide) h (fun y => [(2, .int y), (6, .int v18), (5, .int t0), (0, .ref (zad G 44)), (1, .ref (zad G 33)), (3, .int x3)]) (fun _ => rfl) (fun v39 h => ?_)
              refine z_iinc e_X7_read_179 5 rfl (by decide) (by decide) h (fun y => [(3, .int y), (2, .int v39), (6, .int v18), (5, .int t0), (0, .ref (zad G 44)), (1, .ref (zad G 33))]) (fun _ => rfl) (fun v40 h => ?_)
              refine z_goto e_X7_read_182 ?_
              exact z_sub [4, 5, 1, 0] rfl (hw9 v39 v40 s35 h)
            · exact z_sub [0] rfl (p_X7_read_170 hR v33 s35 h)
        · exact z_sub [4] rfl (p_X7_read_107 hR x2 s26 h)
    · exact z_sub [3] rfl (p_X7_read_61 hR x2 σ h)
  · exact z_sub [3] rfl (p_X7_read_46 hR x2 σ h)
noncomputable def F_X7_read_9 (w9 : (Int32 × Int32 × zSt) → Option (Int32 × zSt)) (x2 : Int32) (x3 : Int32) (σ : zSt) : Option (Int32 × zSt) :=
  if (32 : Int32) < x3 then (
    F_X7_read_185 x2 σ)
  else (
    bd (F_X8_at x2 σ) (fun q7 s6 =>
      if 0 ≤ q7 then (
        bd (F_J0_indexOf_0f7a4_1003 ((q7.toUInt32 % 65536).toInt32) s6) (fun q11 s10 =>
          F_X7_read_39 w9 x2 x3 q11 s10))
      else (
        F_X7_read_39 w9 x2 x3 (-1 : Int32) s6)))
set_option maxHeartbeats 4000000 in
set_option maxRecDepth 100000 in
theorem b_X7_read_9 {G : zG} {C : zC} {r : Int32} {τ : zSt} (hR : zR G C (some .int) (some (.int r)) τ) (w9 : (Int32 × Int32 × zSt) → Option (Int32 × zSt)) (hw9 : ∀ (x2 : Int32) (x3 : Int32) (σ : zSt), w9 (x2, x3, σ) = some (r, τ) → zAW G 5 RX7 cX7_read 7 C 9 [(0, .ref (zad G 44)), (1, .ref (zad G 33)), (2, .int x2), (3, .int x3)] [] σ) (x2 : Int32) (x3 : Int32) (σ : zSt) (h : F_X7_read_9 w9 x2 x3 σ = some (r, τ)) : zAW G 5 RX7 cX7_read 7 C 9 [(0, .ref (zad G 44)), (1, .ref (zad G 33)), (2, .int x2), (3, .int x3)] [] σ := by
  unfold F_X7_read_9 at h
  refine z_iload e_X7_read_9 3 rfl ?_
  refine z_ic e_X7_read_10 ?_
  refine z_icmp_gt e_X7_read_12 h (fun c2 h => ?_) (fun c2 h => ?_)
  · exact z_sub [2] rfl (p_X7_read_185 hR x2 σ h)
  · refine z_aload e_X7_read_15 1 rfl ?_
    refine z_iload e_X7_read_16 2 rfl ?_
    obtain ⟨q7, s6, e8, h⟩ := bd_e h
    refine z_callVi (c0 := 33) (As := [.int x2]) (rest := []) lk_X7_22 ob_33 e_X7_read_17 (m_X8_at G x2 σ _ _ e8) (by decide) rfl (Nat.le_of_ble_eq_true rfl) ?_
    refine z_istore e_X7_read_20 (by decide) [(4, .int q7), (0, .ref (zad G 44)), (1, .ref (zad G 33)), (2, .int x2), (3, .int x3)] rfl ?_
    refine z_iload e_X7_read_22 0 rfl ?_
    refine z_if_ge e_X7_read_24 h (fun c9 h => ?_) (fun c9 h => ?_)
    · refine z_ldcS_tale rfl e_X7_read_31 ?_
      refine z_iload e_X7_read_33 0 rfl ?_
      refine z_i2c e_X7_read_35 ?_
      obtain ⟨q11, s10, e12, h⟩ := bd_e h
      refine z_callVsi (i := 1) (As := [.int (q7.toUInt32 % 65536).toInt32]) (rest := []) lk_X7_30 rfl (by decide) e_X7_read_36 (m_J0_indexOf_0f7a4_1003 G ((q7.toUInt32 % 65536).toInt32) s6 _ _ e12) (by decide) rfl (Nat.le_of_ble_eq_true rfl) ?_
      exact z_sub [1, 2, 3, 4] rfl (p_X7_read_39 hR w9 x2 x3 q11 hw9 s10 h)
    · refine z_ic e_X7_read_27 ?_
      refine z_goto e_X7_read_28 ?_
      exact z_sub [1, 2, 3, 4] rfl (p_X7_read_39 hR w9 x2 x3 (-1 : Int32) hw9 s6 h)
noncomputable def F_X7_read_9L  : ((Int32 × Int32 × zSt) → Option (Int32 × zSt)) → (Int32 × Int32 × zSt) → Option (Int32 × zSt) := fun w s => F_X7_read_9 w s.1 s.2.1 s.2.2
set_option maxRecDepth 100000 in
theorem l_X7_read_9 {G : zG} {C : zC} {r : Int32} {τ : zSt} (hR : zR G C (some .int) (some (.int r)) τ)  : ∀ (N : Nat) (x2 : Int32) (x3 : Int32) (σ : zSt), zfix (F_X7_read_9L ) N (x2, x3, σ) = some (r, τ) → zAW G 5 RX7 cX7_read 7 C 9 [(0, .ref (zad G 44)), (1, .ref (zad G 33)), (2, .int x2), (3, .int x3)] [] σ := by
  intro N
  induction N with
  | zero =>
    intro x2 x3 σ h
    exact nomatch (show (none : Option (Int32 × zSt)) = some (r, τ) from h)
  | succ N ih =>
    intro x2 x3 σ h
    exact b_X7_read_9 hR (zfix (F_X7_read_9L ) N) ih x2 x3 σ h
noncomputable def F_X7_read_0 (σ : zSt) : Option (Int32 × zSt) :=
  nm (zwr σ 44 2 (0 : Int32)) (fun s1 =>
    zfix (F_X7_read_9L ) zlim ((0 : Int32), (0 : Int32), s1))
set_option maxHeartbeats 4000000 in
set_option maxRecDepth 100000 in
theorem p_X7_read_0 {G : zG} {C : zC} {r : Int32} {τ : zSt} (hR : zR G C (some .int) (some (.int r)) τ)  (σ : zSt) (h : F_X7_read_0 σ = some (r, τ)) : zAW G 5 RX7 cX7_read 7 C 0 [(0, .ref (zad G 44)), (1, .ref (zad G 33))] [] σ := by
  unfold F_X7_read_0 at h
  refine z_aload e_X7_read_0 0 rfl ?_
  refine z_ic e_X7_read_1 ?_
  refine z_puti pf_X7_18_44 e_X7_read_2 h (fun s1 h => ?_)
  refine z_ic e_X7_read_5 ?_
  refine z_istore e_X7_read_6 (by decide) [(2, .int (0 : Int32)), (0, .ref (zad G 44)), (1, .ref (zad G 33))] rfl ?_
  refine z_ic e_X7_read_7 ?_
  refine z_istore e_X7_read_8 (by decide) [(3, .int (0 : Int32)), (2, .int (0 : Int32)), (0, .ref (zad G 44)), (1, .ref (zad G 33))] rfl ?_
  exact z_sub [2, 3, 1, 0] rfl (l_X7_read_9 hR  zlim (0 : Int32) (0 : Int32) s1 h)
noncomputable def F_X7_read (σ : zSt) : Option (Int32 × zSt) := F_X7_read_0  σ
set_option maxRecDepth 100000 in
theorem m_X7_read (G : zG) (σ : zSt) (q : Int32) (τ : zSt) (h : F_X7_read  σ = some (q, τ)) : zM G 5 yX7_read cX7_read 7 (some .int) [.ref (zad G 44), .ref (zad G 33)] σ (some (.int q)) τ := by
  unfold F_X7_read at h
  refine zM.of (own := RX7) (by decide +kernel) rfl (Nat.le_of_ble_eq_true rfl) (fun C hR => ?_)
  exact z_sub [0, 1] rfl (p_X7_read_0 hR  σ h)
noncomputable def F_X5_learnMouths_57 (w2 : (Int32 × zSt) → Option (Unit × zSt)) (x1 : Int32) (σ : zSt) : Option (Unit × zSt) :=
  nm (x1 + (1 : Int32)) (fun v4 =>
    w2 (v4, σ))
set_option maxHeartbeats 4000000 in
set_option maxRecDepth 100000 in
theorem p_X5_learnMouths_57 {G : zG} {C : zC} {r : Unit} {τ : zSt} (hR : zR G C none none τ) (w2 : (Int32 × zSt) → Option (Unit × zSt)) (x1 : Int32) (hw2 : ∀ (x1 : Int32) (σ : zSt), w2 (x1, σ) = some (r, τ) → zAW G 1 RX5 cX5_learnMouths 3 C 2 [(0, .ref (zad G 17)), (1, .int x1)] [] σ) (σ : zSt) (h : F_X5_learnMouths_57 w2 x1 σ = some (r, τ)) : zAW G 1 RX5 cX5_learnMouths 3 C 57 [(0, .ref (zad G 17)), (1, .int x1)] [] σ := by
  unfold F_X5_learnMouths_57 at h
  refine z_iinc e_X5_learnMouths_57 1 rfl (by decide) (by decide) h (fun y => [(1, .int y), (0, .ref (zad G 17))]) (fun _ => rfl) (fun v4 h => ?_)
  refine z_goto e_X5_learnMouths_60 ?_
  exact z_sub [1, 0] rfl (hw2 v4 σ h)
noncomputable def F_X5_learnMouths_16 (w2 : (Int32 × zSt) → Option (Unit × zSt)) (x1 : Int32) (w16 : (Int32 × zSt) → Option (Unit × zSt)) (x2 : Int32) (σ : zSt) : Option (Unit × zSt) :=
  if (8 : Int32) ≤ x2 then (
    F_X5_learnMouths_57 w2 x1 σ)
  else (
    gd (vp_in x1 3) (
      gd (vp_in x2 8) (
        nm (if (σ.1 21 x2.toNatClampNeg) = ((8 : Int32) + x1) then ((1 : Int32) <<< (x2 &&& 31)) else (0 : Int32)) (fun v5 =>
          gd (vp_in x1 3) (nm (zwr σ 22 x1.toNatClampNeg ((σ.1 22 x1.toNatClampNeg) ||| v5)) (fun s6 =>
            nm (x2 + (1 : Int32)) (fun v7 =>
              w16 (v7, s6))))))))
set_option maxHeartbeats 4000000 in
set_option maxRecDepth 100000 in
theorem b_X5_learnMouths_16 {G : zG} {C : zC} {r : Unit} {τ : zSt} (hR : zR G C none none τ) (w2 : (Int32 × zSt) → Option (Unit × zSt)) (x1 : Int32) (hw2 : ∀ (x1 : Int32) (σ : zSt), w2 (x1, σ) = some (r, τ) → zAW G 1 RX5 cX5_learnMouths 3 C 2 [(0, .ref (zad G 17)), (1, .int x1)] [] σ) (w16 : (Int32 × zSt) → Option (Unit × zSt)) (hw16 : ∀ (x2 : Int32) (σ : zSt), w16 (x2, σ) = some (r, τ) → zAW G 1 RX5 cX5_learnMouths 3 C 16 [(0, .ref (zad G 17)), (1, .int x1), (2, .int x2)] [] σ) (x2 : Int32) (σ : zSt) (h : F_X5_learnMouths_16 w2 x1 w16 x2 σ = some (r, τ)) : zAW G 1 RX5 cX5_learnMouths 3 C 16 [(0, .ref (zad G 17)), (1, .int x1), (2, .int x2)] [] σ := by
  unfold F_X5_learnMouths_16 at h
  refine z_iload e_X5_learnMouths_16 2 rfl ?_
  refine z_ic e_X5_learnMouths_17 ?_
  refine z_icmp_ge e_X5_learnMouths_19 h (fun c3 h => ?_) (fun c3 h => ?_)
  · exact z_sub [0, 1] rfl (p_X5_learnMouths_57 hR w2 x1 hw2 σ h)
  · refine z_aload e_X5_learnMouths_22 0 rfl ?_
    refine z_getr gf_X5_24_17 e_X5_learnMouths_23 ?_
    refine z_iload e_X5_learnMouths_26 1 rfl ?_
    refine z_dup2 e_X5_learnMouths_27 rfl rfl ?_
    refine z_iald sh_22 e_X5_learnMouths_28 h (fun h => ?_)
    refine z_aload e_X5_learnMouths_29 0 rfl ?_
    refine z_getr gf_X5_21_17 e_X5_learnMouths_30 ?_
    refine z_iload e_X5_learnMouths_33 2 rfl ?_
    refine z_iald sh_21 e_X5_learnMouths_34 h (fun h => ?_)
    refine z_ic e_X5_learnMouths_35 ?_
    refine z_iload e_X5_learnMouths_37 1 rfl ?_
    refine z_iadd e_X5_learnMouths_38 ?_
    obtain ⟨v5, ev5, h⟩ := nm_i h
    have jv5 : zAW G 1 RX5 cX5_learnMouths 3 C 49 [(0, .ref (zad G 17)), (1, .int x1), (2, .int x2)] [.int v5, .int (σ.1 22 x1.toNatClampNeg), .int x1, .ref (zad G 22)] σ := by
      refine z_ior e_X5_learnMouths_49 ?_
      refine z_iast sh_22 e_X5_learnMouths_50 h (fun s6 h => ?_)
      refine z_iinc e_X5_learnMouths_51 2 rfl (by decide) (by decide) h (fun y => [(2, .int y), (0, .ref (zad G 17)), (1, .int x1)]) (fun _ => rfl) (fun v7 h => ?_)
      refine z_goto e_X5_learnMouths_54 ?_
      exact z_sub [1, 2, 0] rfl (hw16 v7 s6 h)
    refine y_icmp_ne e_X5_learnMouths_39 (fun c8 => ?_) (fun c8 => ?_)
    · refine z_ic e_X5_learnMouths_42 ?_
      refine z_iload e_X5_learnMouths_43 2 rfl ?_
      refine z_ishl e_X5_learnMouths_44 ?_
      refine z_goto e_X5_learnMouths_45 ?_
      rw [if_pos c8] at ev5
      subst ev5
      exact z_sub [0, 1, 2] rfl jv5
    · refine z_ic e_X5_learnMouths_48 ?_
      rw [if_neg c8] at ev5
      subst ev5
      exact z_sub [0, 1, 2] rfl jv5
noncomputable def F_X5_learnMouths_16L (w2 : (Int32 × zSt) → Option (Unit × zSt)) (x1 : Int32) : ((Int32 × zSt) → Option (Unit × zSt)) → (Int32 × zSt) → Option (Unit × zSt) := fun w s => F_X5_learnMouths_16 w2 x1 w s.1 s.2
set_option maxRecDepth 100000 in
theorem l_X5_learnMouths_16 {G : zG} {C : zC} {r : Unit} {τ : zSt} (hR : zR G C none none τ) (w2 : (Int32 × zSt) → Option (Unit × zSt)) (x1 : Int32) (hw2 : ∀ (x1 : Int32) (σ : zSt), w2 (x1, σ) = some (r, τ) → zAW G 1 RX5 cX5_learnMouths 3 C 2 [(0, .ref (zad G 17)), (1, .int x1)] [] σ) : ∀ (N : Nat) (x2 : Int32) (σ : zSt), zfix (F_X5_learnMouths_16L w2 x1) N (x2, σ) = some (r, τ) → zAW G 1 RX5 cX5_learnMouths 3 C 16 [(0, .ref (zad G 17)), (1, .int x1), (2, .int x2)] [] σ := by
  intro N
  induction N with
  | zero =>
    intro x2 σ h
    exact nomatch (show (none : Option (Unit × zSt)) = some (r, τ) from h)
  | succ N ih =>
    intro x2 σ h
    exact b_X5_learnMouths_16 hR w2 x1 hw2 (zfix (F_X5_learnMouths_16L w2 x1) N) ih x2 σ h
noncomputable def F_X5_learnMouths_2 (w2 : (Int32 × zSt) → Option (Unit × zSt)) (x1 : Int32) (σ : zSt) : Option (Unit × zSt) :=
  if (3 : Int32) ≤ x1 then (
    some ((), σ))
  else (
    gd (vp_in x1 3) (nm (zwr σ 22 x1.toNatClampNeg (0 : Int32)) (fun s2 =>
      zfix (F_X5_learnMouths_16L w2 x1) zlim ((0 : Int32), s2))))
set_option maxHeartbeats 4000000 in
set_option maxRecDepth 100000 in
theorem b_X5_learnMouths_2 {G : zG} {C : zC} {r : Unit} {τ : zSt} (hR : zR G C none none τ) (w2 : (Int32 × zSt) → Option (Unit × zSt)) (hw2 : ∀ (x1 : Int32) (σ : zSt), w2 (x1, σ) = some (r, τ) → zAW G 1 RX5 cX5_learnMouths 3 C 2 [(0, .ref (zad G 17)), (1, .int x1)] [] σ) (x1 : Int32) (σ : zSt) (h : F_X5_learnMouths_2 w2 x1 σ = some (r, τ)) : zAW G 1 RX5 cX5_learnMouths 3 C 2 [(0, .ref (zad G 17)), (1, .int x1)] [] σ := by
  unfold F_X5_learnMouths_2 at h
  refine z_iload e_X5_learnMouths_2 1 rfl ?_
  refine z_ic e_X5_learnMouths_3 ?_
  refine z_icmp_ge e_X5_learnMouths_4 h (fun c1 h => ?_) (fun c1 h => ?_)
  · cases h
    exact z_vreturn hR e_X5_learnMouths_63
  · refine z_aload e_X5_learnMouths_7 0 rfl ?_
    refine z_getr gf_X5_24_17 e_X5_learnMouths_8 ?_
    refine z_iload e_X5_learnMouths_11 1 rfl ?_
    refine z_ic e_X5_learnMouths_12 ?_
    refine z_iast sh_22 e_X5_learnMouths_13 h (fun s2 h => ?_)
    refine z_ic e_X5_learnMouths_14 ?_
    refine z_istore e_X5_learnMouths_15 (by decide) [(2, .int (0 : Int32)), (0, .ref (zad G 17)), (1, .int x1)] rfl ?_
    exact z_sub [1, 2, 0] rfl (l_X5_learnMouths_16 hR w2 x1 hw2 zlim (0 : Int32) s2 h)
noncomputable def F_X5_learnMouths_2L  : ((Int32 × zSt) → Option (Unit × zSt)) → (Int32 × zSt) → Option (Unit × zSt) := fun w s => F_X5_learnMouths_2 w s.1 s.2
set_option maxRecDepth 100000 in
theorem l_X5_learnMouths_2 {G : zG} {C : zC} {r : Unit} {τ : zSt} (hR : zR G C none none τ)  : ∀ (N : Nat) (x1 : Int32) (σ : zSt), zfix (F_X5_learnMouths_2L ) N (x1, σ) = some (r, τ) → zAW G 1 RX5 cX5_learnMouths 3 C 2 [(0, .ref (zad G 17)), (1, .int x1)] [] σ := by
  intro N
  induction N with
  | zero =>
    intro x1 σ h
    exact nomatch (show (none : Option (Unit × zSt)) = some (r, τ) from h)
  | succ N ih =>
    intro x1 σ h
    exact b_X5_learnMouths_2 hR (zfix (F_X5_learnMouths_2L ) N) ih x1 σ h
noncomputable def F_X5_learnMouths_0 (σ : zSt) : Option (Unit × zSt) :=
  zfix (F_X5_learnMouths_2L ) zlim ((0 : Int32), σ)
set_option maxHeartbeats 4000000 in
set_option maxRecDepth 100000 in
theorem p_X5_learnMouths_0 {G : zG} {C : zC} {r : Unit} {τ : zSt} (hR : zR G C none none τ)  (σ : zSt) (h : F_X5_learnMouths_0 σ = some (r, τ)) : zAW G 1 RX5 cX5_learnMouths 3 C 0 [(0, .ref (zad G 17))] [] σ := by
  unfold F_X5_learnMouths_0 at h
  refine z_ic e_X5_learnMouths_0 ?_
  refine z_istore e_X5_learnMouths_1 (by decide) [(1, .int (0 : Int32)), (0, .ref (zad G 17))] rfl ?_
  exact z_sub [1, 0] rfl (l_X5_learnMouths_2 hR  zlim (0 : Int32) σ h)
noncomputable def F_X5_learnMouths (σ : zSt) : Option (Unit × zSt) := F_X5_learnMouths_0  σ
set_option maxRecDepth 100000 in
theorem m_X5_learnMouths (G : zG) (σ : zSt) (q : Unit) (τ : zSt) (h : F_X5_learnMouths  σ = some (q, τ)) : zM G 1 yX5_learnMouths cX5_learnMouths 3 none [.ref (zad G 17)] σ none τ := by
  unfold F_X5_learnMouths at h
  refine zM.of (own := RX5) (by decide +kernel) rfl (Nat.le_of_ble_eq_true rfl) (fun C hR => ?_)
  exact z_sub [0] rfl (p_X5_learnMouths_0 hR  σ h)
noncomputable def F_X10_around_7 (w7 : (Int32 × Int32 × Int32 × zSt) → Option (Int32 × zSt)) (x2 : Int32) (x3 : Int32) (x4 : Int32) (σ : zSt) : Option (Int32 × zSt) :=
  if (8 : Int32) ≤ x4 then (
    some (x2, σ))
  else (
    bd (F_X11_isBelow x3 (8 : Int32) σ) (fun q3 s2 =>
      if q3 = 0 then (
        some (x2, s2))
      else (
        gd (vp_in x3 8) (
          nm (s2.1 4 x3.toNatClampNeg) (fun v6 =>
            bd (F_X11_isBelow v6 (8 : Int32) s2) (fun q8 s7 =>
              nm (if q8 = 0 then (0 : Int32) else ((1 : Int32) <<< (v6 &&& 31))) (fun v10 =>
                nm (x2 ||| v10) (fun v11 =>
                  nm (x4 + (1 : Int32)) (fun v12 =>
                    w7 (v11, v6, v12, s7))))))))))
set_option maxHeartbeats 4000000 in
set_option maxRecDepth 100000 in
theorem b_X10_around_7 {G : zG} {C : zC} {r : Int32} {τ : zSt} (hR : zR G C (some .int) (some (.int r)) τ) (w7 : (Int32 × Int32 × Int32 × zSt) → Option (Int32 × zSt)) (hw7 : ∀ (x2 : Int32) (x3 : Int32) (x4 : Int32) (σ : zSt), w7 (x2, x3, x4, σ) = some (r, τ) → zAW G 2 RX10 cX10_around 5 C 7 [(0, .ref (zad G 1)), (2, .int x2), (3, .int x3), (4, .int x4)] [] σ) (x2 : Int32) (x3 : Int32) (x4 : Int32) (σ : zSt) (h : F_X10_around_7 w7 x2 x3 x4 σ = some (r, τ)) : zAW G 2 RX10 cX10_around 5 C 7 [(0, .ref (zad G 1)), (2, .int x2), (3, .int x3), (4, .int x4)] [] σ := by
  unfold F_X10_around_7 at h
  refine z_iload e_X10_around_7 3 rfl ?_
  refine z_ic e_X10_around_9 ?_
  refine z_icmp_ge e_X10_around_11 h (fun c1 h => ?_) (fun c1 h => ?_)
  · refine z_iload e_X10_around_55 1 rfl ?_
    cases h
    exact z_ireturn hR e_X10_around_56
  · refine z_iload e_X10_around_14 2 rfl ?_
    refine z_ic e_X10_around_15 ?_
    obtain ⟨q3, s2, e4, h⟩ := bd_e h
    refine z_callNi (As := [.int x3, .int (8 : Int32)]) (rest := []) lk_X10_58 e_X10_around_17 (m_X11_isBelow G x3 (8 : Int32) σ _ _ e4) (by decide) rfl (Nat.le_of_ble_eq_true rfl) ?_
    refine z_if_eq e_X10_around_20 h (fun c5 h => ?_) (fun c5 h => ?_)
    · refine z_iload e_X10_around_55 1 rfl ?_
      cases h
      exact z_ireturn hR e_X10_around_56
    · refine z_aload e_X10_around_23 0 rfl ?_
      refine z_getr gf_X10_18_1 e_X10_around_24 ?_
      refine z_iload e_X10_around_27 2 rfl ?_
      refine z_iald sh_4 e_X10_around_28 h (fun h => ?_)
      refine z_nmI h (fun v6 h => ?_)
      refine z_istore e_X10_around_29 (by decide) [(3, .int v6), (0, .ref (zad G 1)), (2, .int x2), (4, .int x4)] rfl ?_
      refine z_iload e_X10_around_30 2 rfl ?_
      refine z_iload e_X10_around_31 0 rfl ?_
      refine z_ic e_X10_around_32 ?_
      obtain ⟨q8, s7, e9, h⟩ := bd_e h
      refine z_callNi (As := [.int v6, .int (8 : Int32)]) (rest := [.int x2]) lk_X10_58 e_X10_around_34 (m_X11_isBelow G v6 (8 : Int32) s2 _ _ e9) (by decide) rfl (Nat.le_of_ble_eq_true rfl) ?_
      obtain ⟨v10, ev10, h⟩ := nm_i h
      have jv10 : zAW G 2 RX10 cX10_around 5 C 47 [(0, .ref (zad G 1)), (3, .int v6), (4, .int x4)] [.int v10, .int x2] s7 := by
        refine z_ior e_X10_around_47 ?_
        refine z_nmI h (fun v11 h => ?_)
        refine z_istore e_X10_around_48 (by decide) [(2, .int v11), (0, .ref (zad G 1)), (3, .int v6), (4, .int x4)] rfl ?_
        refine z_iinc e_X10_around_49 3 rfl (by decide) (by decide) h (fun y => [(4, .int y), (2, .int v11), (0, .ref (zad G 1)), (3, .int v6)]) (fun _ => rfl) (fun v12 h => ?_)
        refine z_goto e_X10_around_52 ?_
        exact z_sub [2, 1, 3, 0] rfl (hw7 v11 v6 v12 s7 h)
      refine y_if_eq e_X10_around_37 (fun c13 => ?_) (fun c13 => ?_)
      · refine z_ic e_X10_around_46 ?_
        rw [if_pos c13] at ev10
        subst ev10
        exact z_sub [1, 0, 3] rfl jv10
      · refine z_ic e_X10_around_40 ?_
        refine z_iload e_X10_around_41 0 rfl ?_
        refine z_ishl e_X10_around_42 ?_
        refine z_goto e_X10_around_43 ?_
        rw [if_neg c13] at ev10
        subst ev10
        exact z_sub [1, 0, 3] rfl jv10
noncomputable def F_X10_around_7L  : ((Int32 × Int32 × Int32 × zSt) → Option (Int32 × zSt)) → (Int32 × Int32 × Int32 × zSt) → Option (Int32 × zSt) := fun w s => F_X10_around_7 w s.1 s.2.1 s.2.2.1 s.2.2.2
set_option maxRecDepth 100000 in
theorem l_X10_around_7 {G : zG} {C : zC} {r : Int32} {τ : zSt} (hR : zR G C (some .int) (some (.int r)) τ)  : ∀ (N : Nat) (x2 : Int32) (x3 : Int32) (x4 : Int32) (σ : zSt), zfix (F_X10_around_7L ) N (x2, x3, x4, σ) = some (r, τ) → zAW G 2 RX10 cX10_around 5 C 7 [(0, .ref (zad G 1)), (2, .int x2), (3, .int x3), (4, .int x4)] [] σ := by
  intro N
  induction N with
  | zero =>
    intro x2 x3 x4 σ h
    exact nomatch (show (none : Option (Int32 × zSt)) = some (r, τ) from h)
  | succ N ih =>
    intro x2 x3 x4 σ h
    exact b_X10_around_7 hR (zfix (F_X10_around_7L ) N) ih x2 x3 x4 σ h
noncomputable def F_X10_around_0 (x1 : Int32) (σ : zSt) : Option (Int32 × zSt) :=
  zfix (F_X10_around_7L ) zlim ((0 : Int32), x1, (0 : Int32), σ)
set_option maxHeartbeats 4000000 in
set_option maxRecDepth 100000 in
theorem p_X10_around_0 {G : zG} {C : zC} {r : Int32} {τ : zSt} (hR : zR G C (some .int) (some (.int r)) τ) (x1 : Int32) (σ : zSt) (h : F_X10_around_0 x1 σ = some (r, τ)) : zAW G 2 RX10 cX10_around 5 C 0 [(0, .ref (zad G 1)), (1, .int x1)] [] σ := by
  unfold F_X10_around_0 at h
  refine z_ic e_X10_around_0 ?_
  refine z_istore e_X10_around_1 (by decide) [(2, .int (0 : Int32)), (0, .ref (zad G 1)), (1, .int x1)] rfl ?_
  refine z_iload e_X10_around_2 2 rfl ?_
  refine z_istore e_X10_around_3 (by decide) [(3, .int x1), (2, .int (0 : Int32)), (0, .ref (zad G 1)), (1, .int x1)] rfl ?_
  refine z_ic e_X10_around_4 ?_
  refine z_istore e_X10_around_5 (by decide) [(4, .int (0 : Int32)), (3, .int x1), (2, .int (0 : Int32)), (0, .ref (zad G 1)), (1, .int x1)] rfl ?_
  exact z_sub [3, 2, 1, 0] rfl (l_X10_around_7 hR  zlim (0 : Int32) x1 (0 : Int32) σ h)
noncomputable def F_X10_around (x1 : Int32) (σ : zSt) : Option (Int32 × zSt) := F_X10_around_0 x1 σ
set_option maxRecDepth 100000 in
theorem m_X10_around (G : zG) (x1 : Int32) (σ : zSt) (q : Int32) (τ : zSt) (h : F_X10_around x1 σ = some (q, τ)) : zM G 2 yX10_around cX10_around 5 (some .int) [.ref (zad G 1), .int x1] σ (some (.int q)) τ := by
  unfold F_X10_around at h
  refine zM.of (own := RX10) (by decide +kernel) rfl (Nat.le_of_ble_eq_true rfl) (fun C hR => ?_)
  exact z_sub [0, 1] rfl (p_X10_around_0 hR x1 σ h)
noncomputable def F_X5_daysTo_0 (x1 : Int32) (x2 : Int32) (σ : zSt) : Option (Int32 × zSt) :=
  bd (F_X11_isBelow x1 (4 : Int32) σ) (fun q2 s1 =>
    if q2 = 0 then (
      some ((0 : Int32), s1))
    else (
      bd (F_X11_isBelow x2 (4 : Int32) s1) (fun q6 s5 =>
        if q6 = 0 then (
          some ((0 : Int32), s5))
        else (
          gd (vp_in (((4 : Int32) * x1) + x2) 16) (
            some ((s5.1 2 (((4 : Int32) * x1) + x2).toNatClampNeg), s5))))))
set_option maxHeartbeats 4000000 in
set_option maxRecDepth 100000 in
theorem p_X5_daysTo_0 {G : zG} {C : zC} {r : Int32} {τ : zSt} (hR : zR G C (some .int) (some (.int r)) τ) (x1 : Int32) (x2 : Int32) (σ : zSt) (h : F_X5_daysTo_0 x1 x2 σ = some (r, τ)) : zAW G 2 RX5 cX5_daysTo 3 C 0 [(0, .ref (zad G 17)), (1, .int x1), (2, .int x2)] [] σ := by
  unfold F_X5_daysTo_0 at h
  refine z_iload e_X5_daysTo_0 1 rfl ?_
  refine z_ic e_X5_daysTo_1 ?_
  obtain ⟨q2, s1, e3, h⟩ := bd_e h
  refine z_callNi (As := [.int x1, .int (4 : Int32)]) (rest := []) lk_X5_34 e_X5_daysTo_2 (m_X11_isBelow G x1 (4 : Int32) σ _ _ e3) (by decide) rfl (Nat.le_of_ble_eq_true rfl) ?_
  refine z_if_eq e_X5_daysTo_5 h (fun c4 h => ?_) (fun c4 h => ?_)
  · refine z_ic e_X5_daysTo_32 ?_
    cases h
    exact z_ireturn hR e_X5_daysTo_33
  · refine z_iload e_X5_daysTo_8 2 rfl ?_
    refine z_ic e_X5_daysTo_9 ?_
    obtain ⟨q6, s5, e7, h⟩ := bd_e h
    refine z_callNi (As := [.int x2, .int (4 : Int32)]) (rest := []) lk_X5_34 e_X5_daysTo_10 (m_X11_isBelow G x2 (4 : Int32) s1 _ _ e7) (by decide) rfl (Nat.le_of_ble_eq_true rfl) ?_
    refine z_if_eq e_X5_daysTo_13 h (fun c8 h => ?_) (fun c8 h => ?_)
    · refine z_ic e_X5_daysTo_32 ?_
      cases h
      exact z_ireturn hR e_X5_daysTo_33
    · refine z_aload e_X5_daysTo_16 0 rfl ?_
      refine z_getr gf_X5_30_17 e_X5_daysTo_17 ?_
      refine z_getr gf_X5_133_1 e_X5_daysTo_20 ?_
      refine z_ic e_X5_daysTo_23 ?_
      refine z_iload e_X5_daysTo_24 1 rfl ?_
      refine z_imul e_X5_daysTo_25 ?_
      refine z_iload e_X5_daysTo_26 2 rfl ?_
      refine z_iadd e_X5_daysTo_27 ?_
      refine z_iald sh_2 e_X5_daysTo_28 h (fun h => ?_)
      refine z_goto e_X5_daysTo_29 ?_
      cases h
      exact z_ireturn hR e_X5_daysTo_33
noncomputable def F_X5_daysTo (x1 : Int32) (x2 : Int32) (σ : zSt) : Option (Int32 × zSt) := F_X5_daysTo_0 x1 x2 σ
set_option maxRecDepth 100000 in
theorem m_X5_daysTo (G : zG) (x1 : Int32) (x2 : Int32) (σ : zSt) (q : Int32) (τ : zSt) (h : F_X5_daysTo x1 x2 σ = some (q, τ)) : zM G 2 yX5_daysTo cX5_daysTo 3 (some .int) [.ref (zad G 17), .int x1, .int x2] σ (some (.int q)) τ := by
  unfold F_X5_daysTo at h
  refine zM.of (own := RX5) (by decide +kernel) rfl (Nat.le_of_ble_eq_true rfl) (fun C hR => ?_)
  exact z_sub [0, 1, 2] rfl (p_X5_daysTo_0 hR x1 x2 σ h)
noncomputable def F_X10_islandOf_31 (x2 : Int32) (σ : zSt) : Option (Int32 × zSt) :=
  gd (vp_in x2 8) (
    some ((σ.1 3 x2.toNatClampNeg), σ))
set_option maxHeartbeats 4000000 in
set_option maxRecDepth 100000 in
theorem p_X10_islandOf_31 {G : zG} {C : zC} {r : Int32} {τ : zSt} (hR : zR G C (some .int) (some (.int r)) τ) (x2 : Int32) (σ : zSt) (h : F_X10_islandOf_31 x2 σ = some (r, τ)) : zAW G 2 RX10 cX10_islandOf 4 C 31 [(0, .ref (zad G 1)), (2, .int x2)] [] σ := by
  unfold F_X10_islandOf_31 at h
  refine z_aload e_X10_islandOf_31 0 rfl ?_
  refine z_getr gf_X10_15_1 e_X10_islandOf_32 ?_
  refine z_iload e_X10_islandOf_35 1 rfl ?_
  refine z_iald sh_3 e_X10_islandOf_36 h (fun h => ?_)
  cases h
  exact z_ireturn hR e_X10_islandOf_37
noncomputable def F_X10_islandOf_4 (w4 : (Int32 × Int32 × zSt) → Option (Int32 × zSt)) (x2 : Int32) (x3 : Int32) (σ : zSt) : Option (Int32 × zSt) :=
  if (8 : Int32) ≤ x3 then (
    some ((0 : Int32), σ))
  else (
    bd (F_X11_isBelow x2 (8 : Int32) σ) (fun q3 s2 =>
      if q3 = 0 then (
        some ((0 : Int32), s2))
      else (
        gd (vp_in x2 8) (
          if (s2.1 4 x2.toNatClampNeg) = (-1 : Int32) then (
            F_X10_islandOf_31 x2 s2)
          else (
            gd (vp_in x2 8) (
              nm (s2.1 4 x2.toNatClampNeg) (fun v7 =>
                nm (x3 + (1 : Int32)) (fun v8 =>
                  w4 (v7, v8, s2)))))))))
set_option maxHeartbeats 4000000 in
set_option maxRecDepth 100000 in
theorem b_X10_islandOf_4 {G : zG} {C : zC} {r : Int32} {τ : zSt} (hR : zR G C (some .int) (some (.int r)) τ) (w4 : (Int32 × Int32 × zSt) → Option (Int32 × zSt)) (hw4 : ∀ (x2 : Int32) (x3 : Int32) (σ : zSt), w4 (x2, x3, σ) = some (r, τ) → zAW G 2 RX10 cX10_islandOf 4 C 4 [(0, .ref (zad G 1)), (2, .int x2), (3, .int x3)] [] σ) (x2 : Int32) (x3 : Int32) (σ : zSt) (h : F_X10_islandOf_4 w4 x2 x3 σ = some (r, τ)) : zAW G 2 RX10 cX10_islandOf 4 C 4 [(0, .ref (zad G 1)), (2, .int x2), (3, .int x3)] [] σ := by
  unfold F_X10_islandOf_4 at h
  refine z_iload e_X10_islandOf_4 2 rfl ?_
  refine z_ic e_X10_islandOf_5 ?_
  refine z_icmp_ge e_X10_islandOf_7 h (fun c1 h => ?_) (fun c1 h => ?_)
  · refine z_ic e_X10_islandOf_51 ?_
    cases h
    exact z_ireturn hR e_X10_islandOf_52
  · refine z_iload e_X10_islandOf_10 1 rfl ?_
    refine z_ic e_X10_islandOf_11 ?_
    obtain ⟨q3, s2, e4, h⟩ := bd_e h
    refine z_callNi (As := [.int x2, .int (8 : Int32)]) (rest := []) lk_X10_58 e_X10_islandOf_13 (m_X11_isBelow G x2 (8 : Int32) σ _ _ e4) (by decide) rfl (Nat.le_of_ble_eq_true rfl) ?_
    refine z_if_ne e_X10_islandOf_16 h (fun c5 h => ?_) (fun c5 h => ?_)
    · refine z_ic e_X10_islandOf_19 ?_
      cases h
      exact z_ireturn hR e_X10_islandOf_20
    · refine z_aload e_X10_islandOf_21 0 rfl ?_
      refine z_getr gf_X10_18_1 e_X10_islandOf_22 ?_
      refine z_iload e_X10_islandOf_25 1 rfl ?_
      refine z_iald sh_4 e_X10_islandOf_26 h (fun h => ?_)
      refine z_ic e_X10_islandOf_27 ?_
      refine z_icmp_ne e_X10_islandOf_28 h (fun c6 h => ?_) (fun c6 h => ?_)
      · exact z_sub [0, 1] rfl (p_X10_islandOf_31 hR x2 s2 h)
      · refine z_aload e_X10_islandOf_38 0 rfl ?_
        refine z_getr gf_X10_18_1 e_X10_islandOf_39 ?_
        refine z_iload e_X10_islandOf_42 1 rfl ?_
        refine z_iald sh_4 e_X10_islandOf_43 h (fun h => ?_)
        refine z_nmI h (fun v7 h => ?_)
        refine z_istore e_X10_islandOf_44 (by decide) [(2, .int v7), (0, .ref (zad G 1)), (3, .int x3)] rfl ?_
        refine z_iinc e_X10_islandOf_45 2 rfl (by decide) (by decide) h (fun y => [(3, .int y), (2, .int v7), (0, .ref (zad G 1))]) (fun _ => rfl) (fun v8 h => ?_)
        refine z_goto e_X10_islandOf_48 ?_
        exact z_sub [2, 1, 0] rfl (hw4 v7 v8 s2 h)
noncomputable def F_X10_islandOf_4L  : ((Int32 × Int32 × zSt) → Option (Int32 × zSt)) → (Int32 × Int32 × zSt) → Option (Int32 × zSt) := fun w s => F_X10_islandOf_4 w s.1 s.2.1 s.2.2
set_option maxRecDepth 100000 in
theorem l_X10_islandOf_4 {G : zG} {C : zC} {r : Int32} {τ : zSt} (hR : zR G C (some .int) (some (.int r)) τ)  : ∀ (N : Nat) (x2 : Int32) (x3 : Int32) (σ : zSt), zfix (F_X10_islandOf_4L ) N (x2, x3, σ) = some (r, τ) → zAW G 2 RX10 cX10_islandOf 4 C 4 [(0, .ref (zad G 1)), (2, .int x2), (3, .int x3)] [] σ := by
  intro N
  induction N with
  | zero =>
    intro x2 x3 σ h
    exact nomatch (show (none : Option (Int32 × zSt)) = some (r, τ) from h)
  | succ N ih =>
    intro x2 x3 σ h
    exact b_X10_islandOf_4 hR (zfix (F_X10_islandOf_4L ) N) ih x2 x3 σ h
noncomputable def F_X10_islandOf_0 (x1 : Int32) (σ : zSt) : Option (Int32 × zSt) :=
  zfix (F_X10_islandOf_4L ) zlim (x1, (0 : Int32), σ)
set_option maxHeartbeats 4000000 in
set_option maxRecDepth 100000 in
theorem p_X10_islandOf_0 {G : zG} {C : zC} {r : Int32} {τ : zSt} (hR : zR G C (some .int) (some (.int r)) τ) (x1 : Int32) (σ : zSt) (h : F_X10_islandOf_0 x1 σ = some (r, τ)) : zAW G 2 RX10 cX10_islandOf 4 C 0 [(0, .ref (zad G 1)), (1, .int x1)] [] σ := by
  unfold F_X10_islandOf_0 at h
  refine z_iload e_X10_islandOf_0 1 rfl ?_
  refine z_istore e_X10_islandOf_1 (by decide) [(2, .int x1), (0, .ref (zad G 1)), (1, .int x1)] rfl ?_
  refine z_ic e_X10_islandOf_2 ?_
  refine z_istore e_X10_islandOf_3 (by decide) [(3, .int (0 : Int32)), (2, .int x1), (0, .ref (zad G 1)), (1, .int x1)] rfl ?_
  exact z_sub [2, 1, 0] rfl (l_X10_islandOf_4 hR  zlim x1 (0 : Int32) σ h)
noncomputable def F_X10_islandOf (x1 : Int32) (σ : zSt) : Option (Int32 × zSt) := F_X10_islandOf_0 x1 σ
set_option maxRecDepth 100000 in
theorem m_X10_islandOf (G : zG) (x1 : Int32) (σ : zSt) (q : Int32) (τ : zSt) (h : F_X10_islandOf x1 σ = some (q, τ)) : zM G 2 yX10_islandOf cX10_islandOf 4 (some .int) [.ref (zad G 1), .int x1] σ (some (.int q)) τ := by
  unfold F_X10_islandOf at h
  refine zM.of (own := RX10) (by decide +kernel) rfl (Nat.le_of_ble_eq_true rfl) (fun C hR => ?_)
  exact z_sub [0, 1] rfl (p_X10_islandOf_0 hR x1 σ h)
noncomputable def F_X5_learn_183 (w183 : (Int32 × Int32 × zSt) → Option (Unit × zSt)) (x1 : Int32) (x2 : Int32) (σ : zSt) : Option (Unit × zSt) :=
  if (8 : Int32) ≤ x2 then (
    some ((), σ))
  else (
    bd (F_X11_isBelow x1 (8 : Int32) σ) (fun q10 s9 =>
      if q10 = 0 then (
        some ((), s9))
      else (
        nm (zwr s9 17 6 ((s9.1 17 6) ||| ((1 : Int32) <<< (x1 &&& 31)))) (fun s13 =>
          gd (vp_in x1 8) (
            nm (s13.1 6 x1.toNatClampNeg) (fun v14 =>
              nm (x2 + (1 : Int32)) (fun v15 =>
                w183 (v14, v15, s13))))))))
set_option maxHeartbeats 4000000 in
set_option maxRecDepth 100000 in
theorem b_X5_learn_183 {G : zG} {C : zC} {r : Unit} {τ : zSt} (hR : zR G C none none τ) (w183 : (Int32 × Int32 × zSt) → Option (Unit × zSt)) (hw183 : ∀ (x1 : Int32) (x2 : Int32) (σ : zSt), w183 (x1, x2, σ) = some (r, τ) → zAW G 3 RX5 cX5_learn 3 C 183 [(0, .ref (zad G 17)), (1, .int x1), (2, .int x2)] [] σ) (x1 : Int32) (x2 : Int32) (σ : zSt) (h : F_X5_learn_183 w183 x1 x2 σ = some (r, τ)) : zAW G 3 RX5 cX5_learn 3 C 183 [(0, .ref (zad G 17)), (1, .int x1), (2, .int x2)] [] σ := by
  unfold F_X5_learn_183 at h
  refine z_iload e_X5_learn_183 2 rfl ?_
  refine z_ic e_X5_learn_184 ?_
  refine z_icmp_ge e_X5_learn_186 h (fun c8 h => ?_) (fun c8 h => ?_)
  · cases h
    exact z_vreturn hR e_X5_learn_226
  · refine z_iload e_X5_learn_189 1 rfl ?_
    refine z_ic e_X5_learn_190 ?_
    obtain ⟨q10, s9, e11, h⟩ := bd_e h
    refine z_callNi (As := [.int x1, .int (8 : Int32)]) (rest := []) lk_X5_34 e_X5_learn_192 (m_X11_isBelow G x1 (8 : Int32) σ _ _ e11) (by decide) rfl (Nat.le_of_ble_eq_true rfl) ?_
    refine z_if_eq e_X5_learn_195 h (fun c12 h => ?_) (fun c12 h => ?_)
    · cases h
      exact z_vreturn hR e_X5_learn_226
    · refine z_aload e_X5_learn_198 0 rfl ?_
      refine z_dup e_X5_learn_199 rfl ?_
      refine z_geti gf_X5_69_17 e_X5_learn_200 ?_
      refine z_ic e_X5_learn_203 ?_
      refine z_iload e_X5_learn_204 1 rfl ?_
      refine z_ishl e_X5_learn_205 ?_
      refine z_ior e_X5_learn_206 ?_
      refine z_puti pf_X5_69_17 e_X5_learn_207 h (fun s13 h => ?_)
      refine z_aload e_X5_learn_210 0 rfl ?_
      refine z_getr gf_X5_30_17 e_X5_learn_211 ?_
      refine z_getr gf_X5_76_1 e_X5_learn_214 ?_
      refine z_iload e_X5_learn_217 1 rfl ?_
      refine z_iald sh_6 e_X5_learn_218 h (fun h => ?_)
      refine z_nmI h (fun v14 h => ?_)
      refine z_istore e_X5_learn_219 (by decide) [(1, .int v14), (0, .ref (zad G 17)), (2, .int x2)] rfl ?_
      refine z_iinc e_X5_learn_220 2 rfl (by decide) (by decide) h (fun y => [(2, .int y), (1, .int v14), (0, .ref (zad G 17))]) (fun _ => rfl) (fun v15 h => ?_)
      refine z_goto e_X5_learn_223 ?_
      exact z_sub [2, 1, 0] rfl (hw183 v14 v15 s13 h)
noncomputable def F_X5_learn_183L  : ((Int32 × Int32 × zSt) → Option (Unit × zSt)) → (Int32 × Int32 × zSt) → Option (Unit × zSt) := fun w s => F_X5_learn_183 w s.1 s.2.1 s.2.2
set_option maxRecDepth 100000 in
theorem l_X5_learn_183 {G : zG} {C : zC} {r : Unit} {τ : zSt} (hR : zR G C none none τ)  : ∀ (N : Nat) (x1 : Int32) (x2 : Int32) (σ : zSt), zfix (F_X5_learn_183L ) N (x1, x2, σ) = some (r, τ) → zAW G 3 RX5 cX5_learn 3 C 183 [(0, .ref (zad G 17)), (1, .int x1), (2, .int x2)] [] σ := by
  intro N
  induction N with
  | zero =>
    intro x1 x2 σ h
    exact nomatch (show (none : Option (Unit × zSt)) = some (r, τ) from h)
  | succ N ih =>
    intro x1 x2 σ h
    exact b_X5_learn_183 hR (zfix (F_X5_learn_183L ) N) ih x1 x2 σ h
noncomputable def F_X5_learn_146 (σ : zSt) : Option (Unit × zSt) :=
  nm (zrow σ 21 (va_cpy (σ.1 7) (σ.1 21) 0 0 8)) (fun s3 =>
    bd (F_X5_learnMouths s3) (fun _ s4 =>
      nm (zwr s4 17 6 (0 : Int32)) (fun s7 =>
        zfix (F_X5_learn_183L ) zlim ((s7.1 1 8), (0 : Int32), s7))))
set_option maxHeartbeats 4000000 in
set_option maxRecDepth 100000 in
theorem p_X5_learn_146 {G : zG} {C : zC} {r : Unit} {τ : zSt} (hR : zR G C none none τ)  (σ : zSt) (h : F_X5_learn_146 σ = some (r, τ)) : zAW G 3 RX5 cX5_learn 3 C 146 [(0, .ref (zad G 17))] [] σ := by
  unfold F_X5_learn_146 at h
  refine z_aload e_X5_learn_146 0 rfl ?_
  refine z_getr gf_X5_30_17 e_X5_learn_147 ?_
  refine z_getr gf_X5_57_1 e_X5_learn_150 ?_
  refine z_ic e_X5_learn_153 ?_
  refine z_aload e_X5_learn_154 0 rfl ?_
  refine z_getr gf_X5_21_17 e_X5_learn_155 ?_
  refine z_ic e_X5_learn_158 ?_
  refine z_ic e_X5_learn_159 ?_
  refine z_copyi ac_X5_60 sh_7 sh_21 ⟨by decide, rfl⟩ ⟨by decide, by decide⟩ (by decide) e_X5_learn_161 h (fun s3 h => ?_)
  refine z_aload e_X5_learn_164 0 rfl ?_
  obtain ⟨q5, s4, e6, h⟩ := bd_e h
  refine z_callVv (c0 := 17) (As := []) (rest := []) lk_X5_66 ob_17 e_X5_learn_165 (m_X5_learnMouths G s3 _ _ e6) (by decide) rfl (Nat.le_of_ble_eq_true rfl) ?_
  refine z_aload e_X5_learn_168 0 rfl ?_
  refine z_ic e_X5_learn_169 ?_
  refine z_puti pf_X5_69_17 e_X5_learn_170 h (fun s7 h => ?_)
  refine z_aload e_X5_learn_173 0 rfl ?_
  refine z_getr gf_X5_30_17 e_X5_learn_174 ?_
  refine z_geti gf_X5_73_1 e_X5_learn_177 ?_
  refine z_istore e_X5_learn_180 (by decide) [(1, .int (s7.1 1 8)), (0, .ref (zad G 17))] rfl ?_
  refine z_ic e_X5_learn_181 ?_
  refine z_istore e_X5_learn_182 (by decide) [(2, .int (0 : Int32)), (1, .int (s7.1 1 8)), (0, .ref (zad G 17))] rfl ?_
  exact z_sub [2, 1, 0] rfl (l_X5_learn_183 hR  zlim (s7.1 1 8) (0 : Int32) s7 h)
noncomputable def F_X5_learn_120 (w120 : (Int32 × zSt) → Option (Unit × zSt)) (x1 : Int32) (σ : zSt) : Option (Unit × zSt) :=
  if (8 : Int32) ≤ x1 then (
    F_X5_learn_146  σ)
  else (
    bd (F_X10_around x1 σ) (fun q17 s16 =>
      gd (vp_in x1 8) (nm (zwr s16 20 x1.toNatClampNeg q17) (fun s19 =>
        nm (x1 + (1 : Int32)) (fun v20 =>
          w120 (v20, s19))))))
set_option maxHeartbeats 4000000 in
set_option maxRecDepth 100000 in
theorem b_X5_learn_120 {G : zG} {C : zC} {r : Unit} {τ : zSt} (hR : zR G C none none τ) (w120 : (Int32 × zSt) → Option (Unit × zSt)) (hw120 : ∀ (x1 : Int32) (σ : zSt), w120 (x1, σ) = some (r, τ) → zAW G 3 RX5 cX5_learn 3 C 120 [(0, .ref (zad G 17)), (1, .int x1)] [] σ) (x1 : Int32) (σ : zSt) (h : F_X5_learn_120 w120 x1 σ = some (r, τ)) : zAW G 3 RX5 cX5_learn 3 C 120 [(0, .ref (zad G 17)), (1, .int x1)] [] σ := by
  unfold F_X5_learn_120 at h
  refine z_iload e_X5_learn_120 1 rfl ?_
  refine z_ic e_X5_learn_121 ?_
  refine z_icmp_ge e_X5_learn_123 h (fun c2 h => ?_) (fun c2 h => ?_)
  · exact z_sub [0] rfl (p_X5_learn_146 hR  σ h)
  · refine z_aload e_X5_learn_126 0 rfl ?_
    refine z_getr gf_X5_18_17 e_X5_learn_127 ?_
    refine z_iload e_X5_learn_130 1 rfl ?_
    refine z_aload e_X5_learn_131 0 rfl ?_
    refine z_getr gf_X5_30_17 e_X5_learn_132 ?_
    refine z_iload e_X5_learn_135 1 rfl ?_
    obtain ⟨q17, s16, e18, h⟩ := bd_e h
    refine z_callVi (c0 := 1) (As := [.int x1]) (rest := [.int x1, .ref (zad G 20)]) lk_X5_55 ob_1 e_X5_learn_136 (m_X10_around G x1 σ _ _ e18) (by decide) rfl (Nat.le_of_ble_eq_true rfl) ?_
    refine z_iast sh_20 e_X5_learn_139 h (fun s19 h => ?_)
    refine z_iinc e_X5_learn_140 1 rfl (by decide) (by decide) h (fun y => [(1, .int y), (0, .ref (zad G 17))]) (fun _ => rfl) (fun v20 h => ?_)
    refine z_goto e_X5_learn_143 ?_
    exact z_sub [1, 0] rfl (hw120 v20 s19 h)
noncomputable def F_X5_learn_120L  : ((Int32 × zSt) → Option (Unit × zSt)) → (Int32 × zSt) → Option (Unit × zSt) := fun w s => F_X5_learn_120 w s.1 s.2
set_option maxRecDepth 100000 in
theorem l_X5_learn_120 {G : zG} {C : zC} {r : Unit} {τ : zSt} (hR : zR G C none none τ)  : ∀ (N : Nat) (x1 : Int32) (σ : zSt), zfix (F_X5_learn_120L ) N (x1, σ) = some (r, τ) → zAW G 3 RX5 cX5_learn 3 C 120 [(0, .ref (zad G 17)), (1, .int x1)] [] σ := by
  intro N
  induction N with
  | zero =>
    intro x1 σ h
    exact nomatch (show (none : Option (Unit × zSt)) = some (r, τ) from h)
  | succ N ih =>
    intro x1 σ h
    exact b_X5_learn_120 hR (zfix (F_X5_learn_120L ) N) ih x1 σ h
noncomputable def F_X5_learn_118 (σ : zSt) : Option (Unit × zSt) :=
  zfix (F_X5_learn_120L ) zlim ((0 : Int32), σ)
set_option maxHeartbeats 4000000 in
set_option maxRecDepth 100000 in
theorem p_X5_learn_118 {G : zG} {C : zC} {r : Unit} {τ : zSt} (hR : zR G C none none τ)  (σ : zSt) (h : F_X5_learn_118 σ = some (r, τ)) : zAW G 3 RX5 cX5_learn 3 C 118 [(0, .ref (zad G 17))] [] σ := by
  unfold F_X5_learn_118 at h
  refine z_ic e_X5_learn_118 ?_
  refine z_istore e_X5_learn_119 (by decide) [(1, .int (0 : Int32)), (0, .ref (zad G 17))] rfl ?_
  exact z_sub [1, 0] rfl (l_X5_learn_120 hR  zlim (0 : Int32) σ h)
noncomputable def F_X5_learn_112 (w2 : (Int32 × zSt) → Option (Unit × zSt)) (x1 : Int32) (σ : zSt) : Option (Unit × zSt) :=
  nm (x1 + (1 : Int32)) (fun v25 =>
    w2 (v25, σ))
set_option maxHeartbeats 4000000 in
set_option maxRecDepth 100000 in
theorem p_X5_learn_112 {G : zG} {C : zC} {r : Unit} {τ : zSt} (hR : zR G C none none τ) (w2 : (Int32 × zSt) → Option (Unit × zSt)) (x1 : Int32) (hw2 : ∀ (x1 : Int32) (σ : zSt), w2 (x1, σ) = some (r, τ) → zAW G 3 RX5 cX5_learn 3 C 2 [(0, .ref (zad G 17)), (1, .int x1)] [] σ) (σ : zSt) (h : F_X5_learn_112 w2 x1 σ = some (r, τ)) : zAW G 3 RX5 cX5_learn 3 C 112 [(0, .ref (zad G 17)), (1, .int x1)] [] σ := by
  unfold F_X5_learn_112 at h
  refine z_iinc e_X5_learn_112 1 rfl (by decide) (by decide) h (fun y => [(1, .int y), (0, .ref (zad G 17))]) (fun _ => rfl) (fun v25 h => ?_)
  refine z_goto e_X5_learn_115 ?_
  exact z_sub [1, 0] rfl (hw2 v25 σ h)
noncomputable def F_X5_learn_76 (w2 : (Int32 × zSt) → Option (Unit × zSt)) (x1 : Int32) (w76 : (Int32 × zSt) → Option (Unit × zSt)) (x2 : Int32) (σ : zSt) : Option (Unit × zSt) :=
  if (4 : Int32) ≤ x2 then (
    F_X5_learn_112 w2 x1 σ)
  else (
    gd (vp_in x1 4) (
      bd (F_X5_daysTo x1 x2 σ) (fun q27 s26 =>
        nm (if q27 ≤ 0 then (0 : Int32) else ((1 : Int32) <<< (x2 &&& 31))) (fun v29 =>
          gd (vp_in x1 4) (nm (zwr s26 19 x1.toNatClampNeg ((σ.1 19 x1.toNatClampNeg) ||| v29)) (fun s30 =>
            nm (x2 + (1 : Int32)) (fun v31 =>
              w76 (v31, s30))))))))
set_option maxHeartbeats 4000000 in
set_option maxRecDepth 100000 in
theorem b_X5_learn_76 {G : zG} {C : zC} {r : Unit} {τ : zSt} (hR : zR G C none none τ) (w2 : (Int32 × zSt) → Option (Unit × zSt)) (x1 : Int32) (hw2 : ∀ (x1 : Int32) (σ : zSt), w2 (x1, σ) = some (r, τ) → zAW G 3 RX5 cX5_learn 3 C 2 [(0, .ref (zad G 17)), (1, .int x1)] [] σ) (w76 : (Int32 × zSt) → Option (Unit × zSt)) (hw76 : ∀ (x2 : Int32) (σ : zSt), w76 (x2, σ) = some (r, τ) → zAW G 3 RX5 cX5_learn 3 C 76 [(0, .ref (zad G 17)), (1, .int x1), (2, .int x2)] [] σ) (x2 : Int32) (σ : zSt) (h : F_X5_learn_76 w2 x1 w76 x2 σ = some (r, τ)) : zAW G 3 RX5 cX5_learn 3 C 76 [(0, .ref (zad G 17)), (1, .int x1), (2, .int x2)] [] σ := by
  unfold F_X5_learn_76 at h
  refine z_iload e_X5_learn_76 2 rfl ?_
  refine z_ic e_X5_learn_77 ?_
  refine z_icmp_ge e_X5_learn_78 h (fun c24 h => ?_) (fun c24 h => ?_)
  · exact z_sub [0, 1] rfl (p_X5_learn_112 hR w2 x1 hw2 σ h)
  · refine z_aload e_X5_learn_81 0 rfl ?_
    refine z_getr gf_X5_15_17 e_X5_learn_82 ?_
    refine z_iload e_X5_learn_85 1 rfl ?_
    refine z_dup2 e_X5_learn_86 rfl rfl ?_
    refine z_iald sh_19 e_X5_learn_87 h (fun h => ?_)
    refine z_aload e_X5_learn_88 0 rfl ?_
    refine z_iload e_X5_learn_89 1 rfl ?_
    refine z_iload e_X5_learn_90 2 rfl ?_
    obtain ⟨q27, s26, e28, h⟩ := bd_e h
    refine z_callVi (c0 := 17) (As := [.int x1, .int x2]) (rest := [.int (σ.1 19 x1.toNatClampNeg), .int x1, .ref (zad G 19)]) lk_X5_51 ob_17 e_X5_learn_91 (m_X5_daysTo G x1 x2 σ _ _ e28) (by decide) rfl (Nat.le_of_ble_eq_true rfl) ?_
    obtain ⟨v29, ev29, h⟩ := nm_i h
    have jv29 : zAW G 3 RX5 cX5_learn 3 C 104 [(0, .ref (zad G 17)), (1, .int x1), (2, .int x2)] [.int v29, .int (σ.1 19 x1.toNatClampNeg), .int x1, .ref (zad G 19)] s26 := by
      refine z_ior e_X5_learn_104 ?_
      refine z_iast sh_19 e_X5_learn_105 h (fun s30 h => ?_)
      refine z_iinc e_X5_learn_106 2 rfl (by decide) (by decide) h (fun y => [(2, .int y), (0, .ref (zad G 17)), (1, .int x1)]) (fun _ => rfl) (fun v31 h => ?_)
      refine z_goto e_X5_learn_109 ?_
      exact z_sub [1, 2, 0] rfl (hw76 v31 s30 h)
    refine y_if_le e_X5_learn_94 (fun c32 => ?_) (fun c32 => ?_)
    · refine z_ic e_X5_learn_103 ?_
      rw [if_pos c32] at ev29
      subst ev29
      exact z_sub [0, 1, 2] rfl jv29
    · refine z_ic e_X5_learn_97 ?_
      refine z_iload e_X5_learn_98 2 rfl ?_
      refine z_ishl e_X5_learn_99 ?_
      refine z_goto e_X5_learn_100 ?_
      rw [if_neg c32] at ev29
      subst ev29
      exact z_sub [0, 1, 2] rfl jv29
noncomputable def F_X5_learn_76L (w2 : (Int32 × zSt) → Option (Unit × zSt)) (x1 : Int32) : ((Int32 × zSt) → Option (Unit × zSt)) → (Int32 × zSt) → Option (Unit × zSt) := fun w s => F_X5_learn_76 w2 x1 w s.1 s.2
set_option maxRecDepth 100000 in
theorem l_X5_learn_76 {G : zG} {C : zC} {r : Unit} {τ : zSt} (hR : zR G C none none τ) (w2 : (Int32 × zSt) → Option (Unit × zSt)) (x1 : Int32) (hw2 : ∀ (x1 : Int32) (σ : zSt), w2 (x1, σ) = some (r, τ) → zAW G 3 RX5 cX5_learn 3 C 2 [(0, .ref (zad G 17)), (1, .int x1)] [] σ) : ∀ (N : Nat) (x2 : Int32) (σ : zSt), zfix (F_X5_learn_76L w2 x1) N (x2, σ) = some (r, τ) → zAW G 3 RX5 cX5_learn 3 C 76 [(0, .ref (zad G 17)), (1, .int x1), (2, .int x2)] [] σ := by
  intro N
  induction N with
  | zero =>
    intro x2 σ h
    exact nomatch (show (none : Option (Unit × zSt)) = some (r, τ) from h)
  | succ N ih =>
    intro x2 σ h
    exact b_X5_learn_76 hR w2 x1 hw2 (zfix (F_X5_learn_76L w2 x1) N) ih x2 σ h
noncomputable def F_X5_learn_67 (w2 : (Int32 × zSt) → Option (Unit × zSt)) (x1 : Int32) (σ : zSt) : Option (Unit × zSt) :=
  gd (vp_in x1 4) (nm (zwr σ 19 x1.toNatClampNeg (0 : Int32)) (fun s23 =>
    zfix (F_X5_learn_76L w2 x1) zlim ((0 : Int32), s23)))
set_option maxHeartbeats 4000000 in
set_option maxRecDepth 100000 in
theorem p_X5_learn_67 {G : zG} {C : zC} {r : Unit} {τ : zSt} (hR : zR G C none none τ) (w2 : (Int32 × zSt) → Option (Unit × zSt)) (x1 : Int32) (hw2 : ∀ (x1 : Int32) (σ : zSt), w2 (x1, σ) = some (r, τ) → zAW G 3 RX5 cX5_learn 3 C 2 [(0, .ref (zad G 17)), (1, .int x1)] [] σ) (σ : zSt) (h : F_X5_learn_67 w2 x1 σ = some (r, τ)) : zAW G 3 RX5 cX5_learn 3 C 67 [(0, .ref (zad G 17)), (1, .int x1)] [] σ := by
  unfold F_X5_learn_67 at h
  refine z_aload e_X5_learn_67 0 rfl ?_
  refine z_getr gf_X5_15_17 e_X5_learn_68 ?_
  refine z_iload e_X5_learn_71 1 rfl ?_
  refine z_ic e_X5_learn_72 ?_
  refine z_iast sh_19 e_X5_learn_73 h (fun s23 h => ?_)
  refine z_ic e_X5_learn_74 ?_
  refine z_istore e_X5_learn_75 (by decide) [(2, .int (0 : Int32)), (0, .ref (zad G 17)), (1, .int x1)] rfl ?_
  exact z_sub [1, 2, 0] rfl (l_X5_learn_76 hR w2 x1 hw2 zlim (0 : Int32) s23 h)
noncomputable def F_X5_learn_59 (w2 : (Int32 × zSt) → Option (Unit × zSt)) (w16 : (Int32 × zSt) → Option (Unit × zSt)) (x1 : Int32) (x2 : Int32) (t0 : Int32) (t1 : Int32) (t2 : Int32) (σ : zSt) : Option (Unit × zSt) :=
  gd (vp_in t2 4) (nm (zwr σ 18 t2.toNatClampNeg (t1 ||| t0)) (fun s37 =>
    nm (x2 + (1 : Int32)) (fun v38 =>
      w16 (v38, s37))))
set_option maxHeartbeats 4000000 in
set_option maxRecDepth 100000 in
theorem p_X5_learn_59 {G : zG} {C : zC} {r : Unit} {τ : zSt} (hR : zR G C none none τ) (w2 : (Int32 × zSt) → Option (Unit × zSt)) (w16 : (Int32 × zSt) → Option (Unit × zSt)) (x1 : Int32) (x2 : Int32) (t0 : Int32) (t1 : Int32) (t2 : Int32) (hw2 : ∀ (x1 : Int32) (σ : zSt), w2 (x1, σ) = some (r, τ) → zAW G 3 RX5 cX5_learn 3 C 2 [(0, .ref (zad G 17)), (1, .int x1)] [] σ) (hw16 : ∀ (x2 : Int32) (σ : zSt), w16 (x2, σ) = some (r, τ) → zAW G 3 RX5 cX5_learn 3 C 16 [(0, .ref (zad G 17)), (1, .int x1), (2, .int x2)] [] σ) (σ : zSt) (h : F_X5_learn_59 w2 w16 x1 x2 t0 t1 t2 σ = some (r, τ)) : zAW G 3 RX5 cX5_learn 3 C 59 [(0, .ref (zad G 17)), (1, .int x1), (2, .int x2)] [.int t0, .int t1, .int t2, .ref (zad G 18)] σ := by
  unfold F_X5_learn_59 at h
  refine z_ior e_X5_learn_59 ?_
  refine z_iast sh_18 e_X5_learn_60 h (fun s37 h => ?_)
  refine z_iinc e_X5_learn_61 2 rfl (by decide) (by decide) h (fun y => [(2, .int y), (0, .ref (zad G 17)), (1, .int x1)]) (fun _ => rfl) (fun v38 h => ?_)
  refine z_goto e_X5_learn_64 ?_
  exact z_sub [1, 2, 0] rfl (hw16 v38 s37 h)
noncomputable def F_X5_learn_58 (w2 : (Int32 × zSt) → Option (Unit × zSt)) (w16 : (Int32 × zSt) → Option (Unit × zSt)) (x1 : Int32) (x2 : Int32) (t0 : Int32) (t1 : Int32) (σ : zSt) : Option (Unit × zSt) :=
  F_X5_learn_59 w2 w16 x1 x2 (0 : Int32) t0 t1 σ
set_option maxHeartbeats 4000000 in
set_option maxRecDepth 100000 in
theorem p_X5_learn_58 {G : zG} {C : zC} {r : Unit} {τ : zSt} (hR : zR G C none none τ) (w2 : (Int32 × zSt) → Option (Unit × zSt)) (w16 : (Int32 × zSt) → Option (Unit × zSt)) (x1 : Int32) (x2 : Int32) (t0 : Int32) (t1 : Int32) (hw2 : ∀ (x1 : Int32) (σ : zSt), w2 (x1, σ) = some (r, τ) → zAW G 3 RX5 cX5_learn 3 C 2 [(0, .ref (zad G 17)), (1, .int x1)] [] σ) (hw16 : ∀ (x2 : Int32) (σ : zSt), w16 (x2, σ) = some (r, τ) → zAW G 3 RX5 cX5_learn 3 C 16 [(0, .ref (zad G 17)), (1, .int x1), (2, .int x2)] [] σ) (σ : zSt) (h : F_X5_learn_58 w2 w16 x1 x2 t0 t1 σ = some (r, τ)) : zAW G 3 RX5 cX5_learn 3 C 58 [(0, .ref (zad G 17)), (1, .int x1), (2, .int x2)] [.int t0, .int t1, .ref (zad G 18)] σ := by
  unfold F_X5_learn_58 at h
  refine z_ic e_X5_learn_58 ?_
  exact z_sub [0, 1, 2] rfl (p_X5_learn_59 hR w2 w16 x1 x2 (0 : Int32) t0 t1 hw2 hw16 σ h)
noncomputable def F_X5_learn_16 (w2 : (Int32 × zSt) → Option (Unit × zSt)) (x1 : Int32) (w16 : (Int32 × zSt) → Option (Unit × zSt)) (x2 : Int32) (σ : zSt) : Option (Unit × zSt) :=
  if (8 : Int32) ≤ x2 then (
    F_X5_learn_67 w2 x1 σ)
  else (
    gd (vp_in x1 4) (
      bd (F_X10_isTold x2 σ) (fun q34 s33 =>
        if q34 = 0 then (
          F_X5_learn_58 w2 w16 x1 x2 (σ.1 18 x1.toNatClampNeg) x1 s33)
        else (
          bd (F_X10_islandOf x2 s33) (fun q40 s39 =>
            nm (if q40 = x1 then ((1 : Int32) <<< (x2 &&& 31)) else (0 : Int32)) (fun v42 =>
              gd (vp_in x1 4) (nm (zwr s39 18 x1.toNatClampNeg ((σ.1 18 x1.toNatClampNeg) ||| v42)) (fun s43 =>
                nm (x2 + (1 : Int32)) (fun v44 =>
                  w16 (v44, s43))))))))))
set_option maxHeartbeats 4000000 in
set_option maxRecDepth 100000 in
theorem b_X5_learn_16 {G : zG} {C : zC} {r : Unit} {τ : zSt} (hR : zR G C none none τ) (w2 : (Int32 × zSt) → Option (Unit × zSt)) (x1 : Int32) (hw2 : ∀ (x1 : Int32) (σ : zSt), w2 (x1, σ) = some (r, τ) → zAW G 3 RX5 cX5_learn 3 C 2 [(0, .ref (zad G 17)), (1, .int x1)] [] σ) (w16 : (Int32 × zSt) → Option (Unit × zSt)) (hw16 : ∀ (x2 : Int32) (σ : zSt), w16 (x2, σ) = some (r, τ) → zAW G 3 RX5 cX5_learn 3 C 16 [(0, .ref (zad G 17)), (1, .int x1), (2, .int x2)] [] σ) (x2 : Int32) (σ : zSt) (h : F_X5_learn_16 w2 x1 w16 x2 σ = some (r, τ)) : zAW G 3 RX5 cX5_learn 3 C 16 [(0, .ref (zad G 17)), (1, .int x1), (2, .int x2)] [] σ := by
  unfold F_X5_learn_16 at h
  refine z_iload e_X5_learn_16 2 rfl ?_
  refine z_ic e_X5_learn_17 ?_
  refine z_icmp_ge e_X5_learn_19 h (fun c22 h => ?_) (fun c22 h => ?_)
  · exact z_sub [0, 1] rfl (p_X5_learn_67 hR w2 x1 hw2 σ h)
  · refine z_aload e_X5_learn_22 0 rfl ?_
    refine z_getr gf_X5_9_17 e_X5_learn_23 ?_
    refine z_iload e_X5_learn_26 1 rfl ?_
    refine z_dup2 e_X5_learn_27 rfl rfl ?_
    refine z_iald sh_18 e_X5_learn_28 h (fun h => ?_)
    refine z_aload e_X5_learn_29 0 rfl ?_
    refine z_getr gf_X5_30_17 e_X5_learn_30 ?_
    refine z_iload e_X5_learn_33 2 rfl ?_
    obtain ⟨q34, s33, e35, h⟩ := bd_e h
    refine z_callVi (c0 := 1) (As := [.int x2]) (rest := [.int (σ.1 18 x1.toNatClampNeg), .int x1, .ref (zad G 18)]) lk_X5_41 ob_1 e_X5_learn_34 (m_X10_isTold G x2 σ _ _ e35) (by decide) rfl (Nat.le_of_ble_eq_true rfl) ?_
    refine z_if_eq e_X5_learn_37 h (fun c36 h => ?_) (fun c36 h => ?_)
    · exact z_sub [0, 1, 2] rfl (p_X5_learn_58 hR w2 w16 x1 x2 (σ.1 18 x1.toNatClampNeg) x1 hw2 hw16 s33 h)
    · refine z_aload e_X5_learn_40 0 rfl ?_
      refine z_getr gf_X5_30_17 e_X5_learn_41 ?_
      refine z_iload e_X5_learn_44 2 rfl ?_
      obtain ⟨q40, s39, e41, h⟩ := bd_e h
      refine z_callVi (c0 := 1) (As := [.int x2]) (rest := [.int (σ.1 18 x1.toNatClampNeg), .int x1, .ref (zad G 18)]) lk_X5_47 ob_1 e_X5_learn_45 (m_X10_islandOf G x2 s33 _ _ e41) (by decide) rfl (Nat.le_of_ble_eq_true rfl) ?_
      refine z_iload e_X5_learn_48 1 rfl ?_
      obtain ⟨v42, ev42, h⟩ := nm_i h
      have jv42 : zAW G 3 RX5 cX5_learn 3 C 59 [(0, .ref (zad G 17)), (1, .int x1), (2, .int x2)] [.int v42, .int (σ.1 18 x1.toNatClampNeg), .int x1, .ref (zad G 18)] s39 := by
        refine z_ior e_X5_learn_59 ?_
        refine z_iast sh_18 e_X5_learn_60 h (fun s43 h => ?_)
        refine z_iinc e_X5_learn_61 2 rfl (by decide) (by decide) h (fun y => [(2, .int y), (0, .ref (zad G 17)), (1, .int x1)]) (fun _ => rfl) (fun v44 h => ?_)
        refine z_goto e_X5_learn_64 ?_
        exact z_sub [1, 2, 0] rfl (hw16 v44 s43 h)
      refine y_icmp_ne e_X5_learn_49 (fun c45 => ?_) (fun c45 => ?_)
      · refine z_ic e_X5_learn_52 ?_
        refine z_iload e_X5_learn_53 2 rfl ?_
        refine z_ishl e_X5_learn_54 ?_
        refine z_goto e_X5_learn_55 ?_
        rw [if_pos c45] at ev42
        subst ev42
        exact z_sub [0, 1, 2] rfl jv42
      · refine z_ic e_X5_learn_58 ?_
        rw [if_neg c45] at ev42
        subst ev42
        exact z_sub [0, 1, 2] rfl jv42
noncomputable def F_X5_learn_16L (w2 : (Int32 × zSt) → Option (Unit × zSt)) (x1 : Int32) : ((Int32 × zSt) → Option (Unit × zSt)) → (Int32 × zSt) → Option (Unit × zSt) := fun w s => F_X5_learn_16 w2 x1 w s.1 s.2
set_option maxRecDepth 100000 in
theorem l_X5_learn_16 {G : zG} {C : zC} {r : Unit} {τ : zSt} (hR : zR G C none none τ) (w2 : (Int32 × zSt) → Option (Unit × zSt)) (x1 : Int32) (hw2 : ∀ (x1 : Int32) (σ : zSt), w2 (x1, σ) = some (r, τ) → zAW G 3 RX5 cX5_learn 3 C 2 [(0, .ref (zad G 17)), (1, .int x1)] [] σ) : ∀ (N : Nat) (x2 : Int32) (σ : zSt), zfix (F_X5_learn_16L w2 x1) N (x2, σ) = some (r, τ) → zAW G 3 RX5 cX5_learn 3 C 16 [(0, .ref (zad G 17)), (1, .int x1), (2, .int x2)] [] σ := by
  intro N
  induction N with
  | zero =>
    intro x2 σ h
    exact nomatch (show (none : Option (Unit × zSt)) = some (r, τ) from h)
  | succ N ih =>
    intro x2 σ h
    exact b_X5_learn_16 hR w2 x1 hw2 (zfix (F_X5_learn_16L w2 x1) N) ih x2 σ h
noncomputable def F_X5_learn_2 (w2 : (Int32 × zSt) → Option (Unit × zSt)) (x1 : Int32) (σ : zSt) : Option (Unit × zSt) :=
  if (4 : Int32) ≤ x1 then (
    F_X5_learn_118  σ)
  else (
    gd (vp_in x1 4) (nm (zwr σ 18 x1.toNatClampNeg (0 : Int32)) (fun s21 =>
      zfix (F_X5_learn_16L w2 x1) zlim ((0 : Int32), s21))))
set_option maxHeartbeats 4000000 in
set_option maxRecDepth 100000 in
theorem b_X5_learn_2 {G : zG} {C : zC} {r : Unit} {τ : zSt} (hR : zR G C none none τ) (w2 : (Int32 × zSt) → Option (Unit × zSt)) (hw2 : ∀ (x1 : Int32) (σ : zSt), w2 (x1, σ) = some (r, τ) → zAW G 3 RX5 cX5_learn 3 C 2 [(0, .ref (zad G 17)), (1, .int x1)] [] σ) (x1 : Int32) (σ : zSt) (h : F_X5_learn_2 w2 x1 σ = some (r, τ)) : zAW G 3 RX5 cX5_learn 3 C 2 [(0, .ref (zad G 17)), (1, .int x1)] [] σ := by
  unfold F_X5_learn_2 at h
  refine z_iload e_X5_learn_2 1 rfl ?_
  refine z_ic e_X5_learn_3 ?_
  refine z_icmp_ge e_X5_learn_4 h (fun c1 h => ?_) (fun c1 h => ?_)
  · exact z_sub [0] rfl (p_X5_learn_118 hR  σ h)
  · refine z_aload e_X5_learn_7 0 rfl ?_
    refine z_getr gf_X5_9_17 e_X5_learn_8 ?_
    refine z_iload e_X5_learn_11 1 rfl ?_
    refine z_ic e_X5_learn_12 ?_
    refine z_iast sh_18 e_X5_learn_13 h (fun s21 h => ?_)
    refine z_ic e_X5_learn_14 ?_
    refine z_istore e_X5_learn_15 (by decide) [(2, .int (0 : Int32)), (0, .ref (zad G 17)), (1, .int x1)] rfl ?_
    exact z_sub [1, 2, 0] rfl (l_X5_learn_16 hR w2 x1 hw2 zlim (0 : Int32) s21 h)
noncomputable def F_X5_learn_2L  : ((Int32 × zSt) → Option (Unit × zSt)) → (Int32 × zSt) → Option (Unit × zSt) := fun w s => F_X5_learn_2 w s.1 s.2
set_option maxRecDepth 100000 in
theorem l_X5_learn_2 {G : zG} {C : zC} {r : Unit} {τ : zSt} (hR : zR G C none none τ)  : ∀ (N : Nat) (x1 : Int32) (σ : zSt), zfix (F_X5_learn_2L ) N (x1, σ) = some (r, τ) → zAW G 3 RX5 cX5_learn 3 C 2 [(0, .ref (zad G 17)), (1, .int x1)] [] σ := by
  intro N
  induction N with
  | zero =>
    intro x1 σ h
    exact nomatch (show (none : Option (Unit × zSt)) = some (r, τ) from h)
  | succ N ih =>
    intro x1 σ h
    exact b_X5_learn_2 hR (zfix (F_X5_learn_2L ) N) ih x1 σ h
noncomputable def F_X5_learn_0 (σ : zSt) : Option (Unit × zSt) :=
  zfix (F_X5_learn_2L ) zlim ((0 : Int32), σ)
set_option maxHeartbeats 4000000 in
set_option maxRecDepth 100000 in
theorem p_X5_learn_0 {G : zG} {C : zC} {r : Unit} {τ : zSt} (hR : zR G C none none τ)  (σ : zSt) (h : F_X5_learn_0 σ = some (r, τ)) : zAW G 3 RX5 cX5_learn 3 C 0 [(0, .ref (zad G 17))] [] σ := by
  unfold F_X5_learn_0 at h
  refine z_ic e_X5_learn_0 ?_
  refine z_istore e_X5_learn_1 (by decide) [(1, .int (0 : Int32)), (0, .ref (zad G 17))] rfl ?_
  exact z_sub [1, 0] rfl (l_X5_learn_2 hR  zlim (0 : Int32) σ h)
noncomputable def F_X5_learn (σ : zSt) : Option (Unit × zSt) := F_X5_learn_0  σ
set_option maxRecDepth 100000 in
theorem m_X5_learn (G : zG) (σ : zSt) (q : Unit) (τ : zSt) (h : F_X5_learn  σ = some (q, τ)) : zM G 3 yX5_learn cX5_learn 3 none [.ref (zad G 17)] σ none τ := by
  unfold F_X5_learn at h
  refine zM.of (own := RX5) (by decide +kernel) rfl (Nat.le_of_ble_eq_true rfl) (fun C hR => ?_)
  exact z_sub [0] rfl (p_X5_learn_0 hR  σ h)
noncomputable def F_X5_done_0 (x1 : Int32) (σ : zSt) : Option (Int32 × zSt) :=
  if x1 < 0 then (
    some ((-1 : Int32), σ))
  else (
    if (3 : Int32) ≤ x1 then (
      some ((-1 : Int32), σ))
    else (
      gd (vp_in x1 3) (
        gd (¬ (zPo x1.toNatClampNeg) = 0) (
          some ((((σ.1 17 9) / (zPo x1.toNatClampNeg)) % (3 : Int32)), σ)))))
set_option maxHeartbeats 4000000 in
set_option maxRecDepth 100000 in
theorem p_X5_done_0 {G : zG} {C : zC} {r : Int32} {τ : zSt} (hR : zR G C (some .int) (some (.int r)) τ) (x1 : Int32) (σ : zSt) (h : F_X5_done_0 x1 σ = some (r, τ)) : zAW G 1 RX5 cX5_done 2 C 0 [(0, .ref (zad G 17)), (1, .int x1)] [] σ := by
  unfold F_X5_done_0 at h
  refine z_iload e_X5_done_0 1 rfl ?_
  refine z_if_lt e_X5_done_1 h (fun c1 h => ?_) (fun c1 h => ?_)
  · refine z_ic e_X5_done_24 ?_
    cases h
    exact z_ireturn hR e_X5_done_25
  · refine z_iload e_X5_done_4 1 rfl ?_
    refine z_ic e_X5_done_5 ?_
    refine z_icmp_ge e_X5_done_6 h (fun c2 h => ?_) (fun c2 h => ?_)
    · refine z_ic e_X5_done_24 ?_
      cases h
      exact z_ireturn hR e_X5_done_25
    · refine z_aload e_X5_done_9 0 rfl ?_
      refine z_geti gf_X5_94_17 e_X5_done_10 ?_
      refine z_gets_po st_X5_130 e_X5_done_13 ?_
      refine z_iload e_X5_done_16 1 rfl ?_
      refine z_kald_po e_X5_done_17 h (fun h => ?_)
      obtain ⟨hy3, h⟩ := gd_e h
      refine z_idiv e_X5_done_18 hy3 ?_
      refine z_ic e_X5_done_19 ?_
      refine z_irem e_X5_done_20 (by decide) ?_
      refine z_goto e_X5_done_21 ?_
      cases h
      exact z_ireturn hR e_X5_done_25
noncomputable def F_X5_done (x1 : Int32) (σ : zSt) : Option (Int32 × zSt) := F_X5_done_0 x1 σ
set_option maxRecDepth 100000 in
theorem m_X5_done (G : zG) (x1 : Int32) (σ : zSt) (q : Int32) (τ : zSt) (h : F_X5_done x1 σ = some (q, τ)) : zM G 1 yX5_done cX5_done 2 (some .int) [.ref (zad G 17), .int x1] σ (some (.int q)) τ := by
  unfold F_X5_done at h
  refine zM.of (own := RX5) (by decide +kernel) rfl (Nat.le_of_ble_eq_true rfl) (fun C hR => ?_)
  exact z_sub [0, 1] rfl (p_X5_done_0 hR x1 σ h)
noncomputable def F_X5_gatherKeys_43 (w7 : (Int32 × zSt) → Option (Unit × zSt)) (x1 : Int32) (x2 : Int32) (t0 : Int32) (σ : zSt) : Option (Unit × zSt) :=
  nm (if x2 < 0 then (0 : Int32) else (if (8 : Int32) ≤ x2 then (0 : Int32) else (if (((σ.1 17 8) >>> (x2 &&& 31)) &&& (1 : Int32)) = (1 : Int32) then (1 : Int32) else (0 : Int32)))) (fun v5 =>
    nm (if t0 = 0 then (if v5 = 0 then (0 : Int32) else ((1 : Int32) <<< (x1 &&& 31))) else ((1 : Int32) <<< (x1 &&& 31))) (fun v6 =>
      nm (zwr σ 17 10 ((σ.1 17 10) ||| v6)) (fun s7 =>
        nm (x1 + (1 : Int32)) (fun v8 =>
          w7 (v8, s7)))))
set_option maxHeartbeats 4000000 in
set_option maxRecDepth 100000 in
theorem p_X5_gatherKeys_43 {G : zG} {C : zC} {r : Unit} {τ : zSt} (hR : zR G C none none τ) (w7 : (Int32 × zSt) → Option (Unit × zSt)) (x1 : Int32) (x2 : Int32) (t0 : Int32) (hw7 : ∀ (x1 : Int32) (σ : zSt), w7 (x1, σ) = some (r, τ) → zAW G 2 RX5 cX5_gatherKeys 5 C 7 [(0, .ref (zad G 17)), (1, .int x1)] [] σ) (σ : zSt) (h : F_X5_gatherKeys_43 w7 x1 x2 t0 σ = some (r, τ)) : zAW G 2 RX5 cX5_gatherKeys 5 C 43 [(0, .ref (zad G 17)), (1, .int x1), (2, .int x2)] [.int t0] σ := by
  unfold F_X5_gatherKeys_43 at h
  refine z_istore e_X5_gatherKeys_43 (by decide) [(3, .int t0), (0, .ref (zad G 17)), (1, .int x1), (2, .int x2)] rfl ?_
  refine z_iload e_X5_gatherKeys_44 3 rfl ?_
  obtain ⟨v5, ev5, h⟩ := nm_i h
  have jv5 : zAW G 2 RX5 cX5_gatherKeys 5 C 71 [(0, .ref (zad G 17)), (1, .int x1), (3, .int t0)] [.int v5] σ := by
    refine z_istore e_X5_gatherKeys_71 (by decide) [(4, .int v5), (0, .ref (zad G 17)), (1, .int x1), (3, .int t0)] rfl ?_
    refine z_aload e_X5_gatherKeys_73 1 rfl ?_
    refine z_dup e_X5_gatherKeys_74 rfl ?_
    refine z_geti gf_X5_124_17 e_X5_gatherKeys_75 ?_
    refine z_iload e_X5_gatherKeys_78 3 rfl ?_
    obtain ⟨v6, ev6, h⟩ := nm_i h
    have jv6 : zAW G 2 RX5 cX5_gatherKeys 5 C 94 [(0, .ref (zad G 17)), (1, .int x1)] [.int v6, .int (σ.1 17 10), .ref (zad G 17)] σ := by
      refine z_ior e_X5_gatherKeys_94 ?_
      refine z_puti pf_X5_124_17 e_X5_gatherKeys_95 h (fun s7 h => ?_)
      refine z_iinc e_X5_gatherKeys_98 1 rfl (by decide) (by decide) h (fun y => [(1, .int y), (0, .ref (zad G 17))]) (fun _ => rfl) (fun v8 h => ?_)
      refine z_goto e_X5_gatherKeys_101 ?_
      exact z_sub [1, 0] rfl (hw7 v8 s7 h)
    refine y_if_ne e_X5_gatherKeys_79 (fun c9 => ?_) (fun c9 => ?_)
    · refine z_iload e_X5_gatherKeys_82 0 rfl ?_
      refine y_if_eq e_X5_gatherKeys_84 (fun c10 => ?_) (fun c10 => ?_)
      · refine z_ic e_X5_gatherKeys_93 ?_
        rw [if_pos c9, if_pos c10] at ev6
        subst ev6
        exact z_sub [1, 2] rfl jv6
      · refine z_ic e_X5_gatherKeys_87 ?_
        refine z_iload e_X5_gatherKeys_88 2 rfl ?_
        refine z_ishl e_X5_gatherKeys_89 ?_
        refine z_goto e_X5_gatherKeys_90 ?_
        rw [if_pos c9, if_neg c10] at ev6
        subst ev6
        exact z_sub [1, 2] rfl jv6
    · refine z_ic e_X5_gatherKeys_87 ?_
      refine z_iload e_X5_gatherKeys_88 2 rfl ?_
      refine z_ishl e_X5_gatherKeys_89 ?_
      refine z_goto e_X5_gatherKeys_90 ?_
      rw [if_neg c9] at ev6
      subst ev6
      exact z_sub [1, 2] rfl jv6
  refine y_if_lt e_X5_gatherKeys_45 (fun c11 => ?_) (fun c11 => ?_)
  · refine z_ic e_X5_gatherKeys_70 ?_
    rw [if_pos c11] at ev5
    subst ev5
    exact z_sub [1, 2, 0] rfl jv5
  · refine z_iload e_X5_gatherKeys_48 3 rfl ?_
    refine z_ic e_X5_gatherKeys_49 ?_
    refine y_icmp_ge e_X5_gatherKeys_51 (fun c12 => ?_) (fun c12 => ?_)
    · refine z_ic e_X5_gatherKeys_70 ?_
      rw [if_neg c11, if_pos c12] at ev5
      subst ev5
      exact z_sub [1, 2, 0] rfl jv5
    · refine z_aload e_X5_gatherKeys_54 1 rfl ?_
      refine z_geti gf_X5_97_17 e_X5_gatherKeys_55 ?_
      refine z_iload e_X5_gatherKeys_58 3 rfl ?_
      refine z_ishr e_X5_gatherKeys_59 ?_
      refine z_ic e_X5_gatherKeys_60 ?_
      refine z_iand e_X5_gatherKeys_61 ?_
      refine z_ic e_X5_gatherKeys_62 ?_
      refine y_icmp_ne e_X5_gatherKeys_63 (fun c13 => ?_) (fun c13 => ?_)
      · refine z_ic e_X5_gatherKeys_66 ?_
        refine z_goto e_X5_gatherKeys_67 ?_
        rw [if_neg c11, if_neg c12, if_pos c13] at ev5
        subst ev5
        exact z_sub [1, 2, 0] rfl jv5
      · refine z_ic e_X5_gatherKeys_70 ?_
        rw [if_neg c11, if_neg c12, if_neg c13] at ev5
        subst ev5
        exact z_sub [1, 2, 0] rfl jv5
noncomputable def F_X5_gatherKeys_42 (w7 : (Int32 × zSt) → Option (Unit × zSt)) (x1 : Int32) (x2 : Int32) (σ : zSt) : Option (Unit × zSt) :=
  F_X5_gatherKeys_43 w7 x1 x2 (0 : Int32) σ
set_option maxHeartbeats 4000000 in
set_option maxRecDepth 100000 in
theorem p_X5_gatherKeys_42 {G : zG} {C : zC} {r : Unit} {τ : zSt} (hR : zR G C none none τ) (w7 : (Int32 × zSt) → Option (Unit × zSt)) (x1 : Int32) (x2 : Int32) (hw7 : ∀ (x1 : Int32) (σ : zSt), w7 (x1, σ) = some (r, τ) → zAW G 2 RX5 cX5_gatherKeys 5 C 7 [(0, .ref (zad G 17)), (1, .int x1)] [] σ) (σ : zSt) (h : F_X5_gatherKeys_42 w7 x1 x2 σ = some (r, τ)) : zAW G 2 RX5 cX5_gatherKeys 5 C 42 [(0, .ref (zad G 17)), (1, .int x1), (2, .int x2)] [] σ := by
  unfold F_X5_gatherKeys_42 at h
  refine z_ic e_X5_gatherKeys_42 ?_
  exact z_sub [0, 1, 2] rfl (p_X5_gatherKeys_43 hR w7 x1 x2 (0 : Int32) hw7 σ h)
noncomputable def F_X5_gatherKeys_7 (w7 : (Int32 × zSt) → Option (Unit × zSt)) (x1 : Int32) (σ : zSt) : Option (Unit × zSt) :=
  if (8 : Int32) ≤ x1 then (
    some ((), σ))
  else (
    gd (vp_in x1 8) (
      nm (σ.1 21 x1.toNatClampNeg) (fun v3 =>
        if v3 < (8 : Int32) then (
          F_X5_gatherKeys_42 w7 x1 v3 σ)
        else (
          bd (F_X5_done (v3 - (8 : Int32)) σ) (fun q15 s14 =>
            nm (if q15 = (2 : Int32) then (1 : Int32) else (0 : Int32)) (fun v17 =>
              nm (if v3 < 0 then (0 : Int32) else (if (8 : Int32) ≤ v3 then (0 : Int32) else (if (((s14.1 17 8) >>> (v3 &&& 31)) &&& (1 : Int32)) = (1 : Int32) then (1 : Int32) else (0 : Int32)))) (fun v18 =>
                nm (if v17 = 0 then (if v18 = 0 then (0 : Int32) else ((1 : Int32) <<< (x1 &&& 31))) else ((1 : Int32) <<< (x1 &&& 31))) (fun v19 =>
                  nm (zwr s14 17 10 ((s14.1 17 10) ||| v19)) (fun s20 =>
                    nm (x1 + (1 : Int32)) (fun v21 =>
                      w7 (v21, s20)))))))))))
set_option maxHeartbeats 4000000 in
set_option maxRecDepth 100000 in
theorem b_X5_gatherKeys_7 {G : zG} {C : zC} {r : Unit} {τ : zSt} (hR : zR G C none none τ) (w7 : (Int32 × zSt) → Option (Unit × zSt)) (hw7 : ∀ (x1 : Int32) (σ : zSt), w7 (x1, σ) = some (r, τ) → zAW G 2 RX5 cX5_gatherKeys 5 C 7 [(0, .ref (zad G 17)), (1, .int x1)] [] σ) (x1 : Int32) (σ : zSt) (h : F_X5_gatherKeys_7 w7 x1 σ = some (r, τ)) : zAW G 2 RX5 cX5_gatherKeys 5 C 7 [(0, .ref (zad G 17)), (1, .int x1)] [] σ := by
  unfold F_X5_gatherKeys_7 at h
  refine z_iload e_X5_gatherKeys_7 1 rfl ?_
  refine z_ic e_X5_gatherKeys_8 ?_
  refine z_icmp_ge e_X5_gatherKeys_10 h (fun c2 h => ?_) (fun c2 h => ?_)
  · cases h
    exact z_vreturn hR e_X5_gatherKeys_104
  · refine z_aload e_X5_gatherKeys_13 0 rfl ?_
    refine z_getr gf_X5_21_17 e_X5_gatherKeys_14 ?_
    refine z_iload e_X5_gatherKeys_17 1 rfl ?_
    refine z_iald sh_21 e_X5_gatherKeys_18 h (fun h => ?_)
    refine z_nmI h (fun v3 h => ?_)
    refine z_istore e_X5_gatherKeys_19 (by decide) [(2, .int v3), (0, .ref (zad G 17)), (1, .int x1)] rfl ?_
    refine z_iload e_X5_gatherKeys_20 0 rfl ?_
    refine z_ic e_X5_gatherKeys_21 ?_
    refine z_icmp_lt e_X5_gatherKeys_23 h (fun c4 h => ?_) (fun c4 h => ?_)
    · exact z_sub [1, 2, 0] rfl (p_X5_gatherKeys_42 hR w7 x1 v3 hw7 σ h)
    · refine z_aload e_X5_gatherKeys_26 1 rfl ?_
      refine z_iload e_X5_gatherKeys_27 0 rfl ?_
      refine z_ic e_X5_gatherKeys_28 ?_
      refine z_isub e_X5_gatherKeys_30 ?_
      obtain ⟨q15, s14, e16, h⟩ := bd_e h
      refine z_callVi (c0 := 17) (As := [.int (v3 - (8 : Int32))]) (rest := []) lk_X5_106 ob_17 e_X5_gatherKeys_31 (m_X5_done G (v3 - (8 : Int32)) σ _ _ e16) (by decide) rfl (Nat.le_of_ble_eq_true rfl) ?_
      refine z_ic e_X5_gatherKeys_34 ?_
      obtain ⟨v17, ev17, h⟩ := nm_i h
      have jv17 : zAW G 2 RX5 cX5_gatherKeys 5 C 43 [(0, .ref (zad G 17)), (1, .int x1), (2, .int v3)] [.int v17] s14 := by
        refine z_istore e_X5_gatherKeys_43 (by decide) [(3, .int v17), (0, .ref (zad G 17)), (1, .int x1), (2, .int v3)] rfl ?_
        refine z_iload e_X5_gatherKeys_44 3 rfl ?_
        obtain ⟨v18, ev18, h⟩ := nm_i h
        have jv18 : zAW G 2 RX5 cX5_gatherKeys 5 C 71 [(0, .ref (zad G 17)), (1, .int x1), (3, .int v17)] [.int v18] s14 := by
          refine z_istore e_X5_gatherKeys_71 (by decide) [(4, .int v18), (0, .ref (zad G 17)), (1, .int x1), (3, .int v17)] rfl ?_
          refine z_aload e_X5_gatherKeys_73 1 rfl ?_
          refine z_dup e_X5_gatherKeys_74 rfl ?_
          refine z_geti gf_X5_124_17 e_X5_gatherKeys_75 ?_
          refine z_iload e_X5_gatherKeys_78 3 rfl ?_
          obtain ⟨v19, ev19, h⟩ := nm_i h
          have jv19 : zAW G 2 RX5 cX5_gatherKeys 5 C 94 [(0, .ref (zad G 17)), (1, .int x1)] [.int v19, .int (s14.1 17 10), .ref (zad G 17)] s14 := by
            refine z_ior e_X5_gatherKeys_94 ?_
            refine z_puti pf_X5_124_17 e_X5_gatherKeys_95 h (fun s20 h => ?_)
            refine z_iinc e_X5_gatherKeys_98 1 rfl (by decide) (by decide) h (fun y => [(1, .int y), (0, .ref (zad G 17))]) (fun _ => rfl) (fun v21 h => ?_)
            refine z_goto e_X5_gatherKeys_101 ?_
            exact z_sub [1, 0] rfl (hw7 v21 s20 h)
          refine y_if_ne e_X5_gatherKeys_79 (fun c22 => ?_) (fun c22 => ?_)
          · refine z_iload e_X5_gatherKeys_82 0 rfl ?_
            refine y_if_eq e_X5_gatherKeys_84 (fun c23 => ?_) (fun c23 => ?_)
            · refine z_ic e_X5_gatherKeys_93 ?_
              rw [if_pos c22, if_pos c23] at ev19
              subst ev19
              exact z_sub [1, 2] rfl jv19
            · refine z_ic e_X5_gatherKeys_87 ?_
              refine z_iload e_X5_gatherKeys_88 2 rfl ?_
              refine z_ishl e_X5_gatherKeys_89 ?_
              refine z_goto e_X5_gatherKeys_90 ?_
              rw [if_pos c22, if_neg c23] at ev19
              subst ev19
              exact z_sub [1, 2] rfl jv19
          · refine z_ic e_X5_gatherKeys_87 ?_
            refine z_iload e_X5_gatherKeys_88 2 rfl ?_
            refine z_ishl e_X5_gatherKeys_89 ?_
            refine z_goto e_X5_gatherKeys_90 ?_
            rw [if_neg c22] at ev19
            subst ev19
            exact z_sub [1, 2] rfl jv19
        refine y_if_lt e_X5_gatherKeys_45 (fun c24 => ?_) (fun c24 => ?_)
        · refine z_ic e_X5_gatherKeys_70 ?_
          rw [if_pos c24] at ev18
          subst ev18
          exact z_sub [1, 2, 0] rfl jv18
        · refine z_iload e_X5_gatherKeys_48 3 rfl ?_
          refine z_ic e_X5_gatherKeys_49 ?_
          refine y_icmp_ge e_X5_gatherKeys_51 (fun c25 => ?_) (fun c25 => ?_)
          · refine z_ic e_X5_gatherKeys_70 ?_
            rw [if_neg c24, if_pos c25] at ev18
            subst ev18
            exact z_sub [1, 2, 0] rfl jv18
          · refine z_aload e_X5_gatherKeys_54 1 rfl ?_
            refine z_geti gf_X5_97_17 e_X5_gatherKeys_55 ?_
            refine z_iload e_X5_gatherKeys_58 3 rfl ?_
            refine z_ishr e_X5_gatherKeys_59 ?_
            refine z_ic e_X5_gatherKeys_60 ?_
            refine z_iand e_X5_gatherKeys_61 ?_
            refine z_ic e_X5_gatherKeys_62 ?_
            refine y_icmp_ne e_X5_gatherKeys_63 (fun c26 => ?_) (fun c26 => ?_)
            · refine z_ic e_X5_gatherKeys_66 ?_
              refine z_goto e_X5_gatherKeys_67 ?_
              rw [if_neg c24, if_neg c25, if_pos c26] at ev18
              subst ev18
              exact z_sub [1, 2, 0] rfl jv18
            · refine z_ic e_X5_gatherKeys_70 ?_
              rw [if_neg c24, if_neg c25, if_neg c26] at ev18
              subst ev18
              exact z_sub [1, 2, 0] rfl jv18
      refine y_icmp_ne e_X5_gatherKeys_35 (fun c27 => ?_) (fun c27 => ?_)
      · refine z_ic e_X5_gatherKeys_38 ?_
        refine z_goto e_X5_gatherKeys_39 ?_
        rw [if_pos c27] at ev17
        subst ev17
        exact z_sub [1, 2, 0] rfl jv17
      · refine z_ic e_X5_gatherKeys_42 ?_
        rw [if_neg c27] at ev17
        subst ev17
        exact z_sub [1, 2, 0] rfl jv17
noncomputable def F_X5_gatherKeys_7L  : ((Int32 × zSt) → Option (Unit × zSt)) → (Int32 × zSt) → Option (Unit × zSt) := fun w s => F_X5_gatherKeys_7 w s.1 s.2
set_option maxRecDepth 100000 in
theorem l_X5_gatherKeys_7 {G : zG} {C : zC} {r : Unit} {τ : zSt} (hR : zR G C none none τ)  : ∀ (N : Nat) (x1 : Int32) (σ : zSt), zfix (F_X5_gatherKeys_7L ) N (x1, σ) = some (r, τ) → zAW G 2 RX5 cX5_gatherKeys 5 C 7 [(0, .ref (zad G 17)), (1, .int x1)] [] σ := by
  intro N
  induction N with
  | zero =>
    intro x1 σ h
    exact nomatch (show (none : Option (Unit × zSt)) = some (r, τ) from h)
  | succ N ih =>
    intro x1 σ h
    exact b_X5_gatherKeys_7 hR (zfix (F_X5_gatherKeys_7L ) N) ih x1 σ h
noncomputable def F_X5_gatherKeys_0 (σ : zSt) : Option (Unit × zSt) :=
  nm (zwr σ 17 10 (0 : Int32)) (fun s1 =>
    zfix (F_X5_gatherKeys_7L ) zlim ((0 : Int32), s1))
set_option maxHeartbeats 4000000 in
set_option maxRecDepth 100000 in
theorem p_X5_gatherKeys_0 {G : zG} {C : zC} {r : Unit} {τ : zSt} (hR : zR G C none none τ)  (σ : zSt) (h : F_X5_gatherKeys_0 σ = some (r, τ)) : zAW G 2 RX5 cX5_gatherKeys 5 C 0 [(0, .ref (zad G 17))] [] σ := by
  unfold F_X5_gatherKeys_0 at h
  refine z_aload e_X5_gatherKeys_0 0 rfl ?_
  refine z_ic e_X5_gatherKeys_1 ?_
  refine z_puti pf_X5_124_17 e_X5_gatherKeys_2 h (fun s1 h => ?_)
  refine z_ic e_X5_gatherKeys_5 ?_
  refine z_istore e_X5_gatherKeys_6 (by decide) [(1, .int (0 : Int32)), (0, .ref (zad G 17))] rfl ?_
  exact z_sub [1, 0] rfl (l_X5_gatherKeys_7 hR  zlim (0 : Int32) s1 h)
noncomputable def F_X5_gatherKeys (σ : zSt) : Option (Unit × zSt) := F_X5_gatherKeys_0  σ
set_option maxRecDepth 100000 in
theorem m_X5_gatherKeys (G : zG) (σ : zSt) (q : Unit) (τ : zSt) (h : F_X5_gatherKeys  σ = some (q, τ)) : zM G 2 yX5_gatherKeys cX5_gatherKeys 5 none [.ref (zad G 17)] σ none τ := by
  unfold F_X5_gatherKeys at h
  refine zM.of (own := RX5) (by decide +kernel) rfl (Nat.le_of_ble_eq_true rfl) (fun C hR => ?_)
  exact z_sub [0] rfl (p_X5_gatherKeys_0 hR  σ h)
noncomputable def F_X5_findOpenable_84 (x1 : Int32) (x2 : Int32) (σ : zSt) : Option (Unit × zSt) :=
  nm (zwr σ 17 12 ((((σ.1 17 8) ^^^ (-1 : Int32)) &&& x1) &&& x2)) (fun s2 =>
    bd (F_X5_done (1 : Int32) s2) (fun q4 s3 =>
      nm (if q4 = 0 then ((((s3.1 17 8) ^^^ (-1 : Int32)) &&& x1) &&& ((s3.1 1 7) ^^^ (-1 : Int32))) else (0 : Int32)) (fun v6 =>
        nm (zwr s3 17 13 v6) (fun s7 =>
          bd (F_X5_done (2 : Int32) s7) (fun q9 s8 =>
            nm (if q9 = 0 then (((s8.1 17 8) ^^^ (-1 : Int32)) &&& (s8.1 1 7)) else (0 : Int32)) (fun v11 =>
              nm (zwr s8 17 14 v11) (fun s12 =>
                some ((), s12))))))))
set_option maxHeartbeats 4000000 in
set_option maxRecDepth 100000 in
theorem p_X5_findOpenable_84 {G : zG} {C : zC} {r : Unit} {τ : zSt} (hR : zR G C none none τ) (x1 : Int32) (x2 : Int32) (σ : zSt) (h : F_X5_findOpenable_84 x1 x2 σ = some (r, τ)) : zAW G 2 RX5 cX5_findOpenable 5 C 84 [(0, .ref (zad G 17)), (1, .int x1), (2, .int x2)] [] σ := by
  unfold F_X5_findOpenable_84 at h
  refine z_aload e_X5_findOpenable_84 0 rfl ?_
  refine z_aload e_X5_findOpenable_85 0 rfl ?_
  refine z_geti gf_X5_97_17 e_X5_findOpenable_86 ?_
  refine z_ic e_X5_findOpenable_89 ?_
  refine z_ixor e_X5_findOpenable_90 ?_
  refine z_iload e_X5_findOpenable_91 1 rfl ?_
  refine z_iand e_X5_findOpenable_92 ?_
  refine z_iload e_X5_findOpenable_93 2 rfl ?_
  refine z_iand e_X5_findOpenable_94 ?_
  refine z_puti pf_X5_115_17 e_X5_findOpenable_95 h (fun s2 h => ?_)
  refine z_aload e_X5_findOpenable_98 0 rfl ?_
  refine z_aload e_X5_findOpenable_99 0 rfl ?_
  refine z_ic e_X5_findOpenable_100 ?_
  obtain ⟨q4, s3, e5, h⟩ := bd_e h
  refine z_callVi (c0 := 17) (As := [.int (1 : Int32)]) (rest := [.ref (zad G 17)]) lk_X5_106 ob_17 e_X5_findOpenable_101 (m_X5_done G (1 : Int32) s2 _ _ e5) (by decide) rfl (Nat.le_of_ble_eq_true rfl) ?_
  obtain ⟨v6, ev6, h⟩ := nm_i h
  have jv6 : zAW G 2 RX5 cX5_findOpenable 5 C 129 [(0, .ref (zad G 17))] [.int v6, .ref (zad G 17)] s3 := by
    refine z_puti pf_X5_118_17 e_X5_findOpenable_129 h (fun s7 h => ?_)
    refine z_aload e_X5_findOpenable_132 0 rfl ?_
    refine z_aload e_X5_findOpenable_133 0 rfl ?_
    refine z_ic e_X5_findOpenable_134 ?_
    obtain ⟨q9, s8, e10, h⟩ := bd_e h
    refine z_callVi (c0 := 17) (As := [.int (2 : Int32)]) (rest := [.ref (zad G 17)]) lk_X5_106 ob_17 e_X5_findOpenable_135 (m_X5_done G (2 : Int32) s7 _ _ e10) (by decide) rfl (Nat.le_of_ble_eq_true rfl) ?_
    obtain ⟨v11, ev11, h⟩ := nm_i h
    have jv11 : zAW G 2 RX5 cX5_findOpenable 5 C 159 [] [.int v11, .ref (zad G 17)] s8 := by
      refine z_puti pf_X5_121_17 e_X5_findOpenable_159 h (fun s12 h => ?_)
      cases h
      exact z_vreturn hR e_X5_findOpenable_162
    refine y_if_ne e_X5_findOpenable_138 (fun c13 => ?_) (fun c13 => ?_)
    · refine z_aload e_X5_findOpenable_141 0 rfl ?_
      refine z_geti gf_X5_97_17 e_X5_findOpenable_142 ?_
      refine z_ic e_X5_findOpenable_145 ?_
      refine z_ixor e_X5_findOpenable_146 ?_
      refine z_aload e_X5_findOpenable_147 0 rfl ?_
      refine z_getr gf_X5_30_17 e_X5_findOpenable_148 ?_
      refine z_geti gf_X5_127_1 e_X5_findOpenable_151 ?_
      refine z_iand e_X5_findOpenable_154 ?_
      refine z_goto e_X5_findOpenable_155 ?_
      rw [if_pos c13] at ev11
      subst ev11
      exact z_sub [] rfl jv11
    · refine z_ic e_X5_findOpenable_158 ?_
      rw [if_neg c13] at ev11
      subst ev11
      exact z_sub [] rfl jv11
  refine y_if_ne e_X5_findOpenable_104 (fun c14 => ?_) (fun c14 => ?_)
  · refine z_aload e_X5_findOpenable_107 0 rfl ?_
    refine z_geti gf_X5_97_17 e_X5_findOpenable_108 ?_
    refine z_ic e_X5_findOpenable_111 ?_
    refine z_ixor e_X5_findOpenable_112 ?_
    refine z_iload e_X5_findOpenable_113 1 rfl ?_
    refine z_iand e_X5_findOpenable_114 ?_
    refine z_aload e_X5_findOpenable_115 0 rfl ?_
    refine z_getr gf_X5_30_17 e_X5_findOpenable_116 ?_
    refine z_geti gf_X5_127_1 e_X5_findOpenable_119 ?_
    refine z_ic e_X5_findOpenable_122 ?_
    refine z_ixor e_X5_findOpenable_123 ?_
    refine z_iand e_X5_findOpenable_124 ?_
    refine z_goto e_X5_findOpenable_125 ?_
    rw [if_pos c14] at ev6
    subst ev6
    exact z_sub [0] rfl jv6
  · refine z_ic e_X5_findOpenable_128 ?_
    rw [if_neg c14] at ev6
    subst ev6
    exact z_sub [0] rfl jv6
noncomputable def F_X5_findOpenable_6 (w6 : (Int32 × Int32 × Int32 × zSt) → Option (Unit × zSt)) (x1 : Int32) (x2 : Int32) (x3 : Int32) (σ : zSt) : Option (Unit × zSt) :=
  if (8 : Int32) ≤ x3 then (
    F_X5_findOpenable_84 x1 x2 σ)
  else (
    gd (vp_in x3 8) (
      nm (σ.1 5 x3.toNatClampNeg) (fun v15 =>
        gd (vp_in x3 8) (
          nm (if ((σ.1 20 x3.toNatClampNeg) &&& ((σ.1 17 8) ^^^ (-1 : Int32))) = 0 then ((1 : Int32) <<< (x3 &&& 31)) else (0 : Int32)) (fun v16 =>
            nm (x1 ||| v16) (fun v17 =>
              nm (if v15 = (-1 : Int32) then ((1 : Int32) <<< (x3 &&& 31)) else (if (((σ.1 17 10) >>> (v15 &&& 31)) &&& (1 : Int32)) = (1 : Int32) then ((1 : Int32) <<< (x3 &&& 31)) else (0 : Int32))) (fun v18 =>
                nm (x2 ||| v18) (fun v19 =>
                  nm (x3 + (1 : Int32)) (fun v20 =>
                    w6 (v17, v19, v20, σ))))))))))
set_option maxHeartbeats 4000000 in
set_option maxRecDepth 100000 in
theorem b_X5_findOpenable_6 {G : zG} {C : zC} {r : Unit} {τ : zSt} (hR : zR G C none none τ) (w6 : (Int32 × Int32 × Int32 × zSt) → Option (Unit × zSt)) (hw6 : ∀ (x1 : Int32) (x2 : Int32) (x3 : Int32) (σ : zSt), w6 (x1, x2, x3, σ) = some (r, τ) → zAW G 2 RX5 cX5_findOpenable 5 C 6 [(0, .ref (zad G 17)), (1, .int x1), (2, .int x2), (3, .int x3)] [] σ) (x1 : Int32) (x2 : Int32) (x3 : Int32) (σ : zSt) (h : F_X5_findOpenable_6 w6 x1 x2 x3 σ = some (r, τ)) : zAW G 2 RX5 cX5_findOpenable 5 C 6 [(0, .ref (zad G 17)), (1, .int x1), (2, .int x2), (3, .int x3)] [] σ := by
  unfold F_X5_findOpenable_6 at h
  refine z_iload e_X5_findOpenable_6 3 rfl ?_
  refine z_ic e_X5_findOpenable_7 ?_
  refine z_icmp_ge e_X5_findOpenable_9 h (fun c1 h => ?_) (fun c1 h => ?_)
  · exact z_sub [0, 1, 2] rfl (p_X5_findOpenable_84 hR x1 x2 σ h)
  · refine z_aload e_X5_findOpenable_12 0 rfl ?_
    refine z_getr gf_X5_30_17 e_X5_findOpenable_13 ?_
    refine z_getr gf_X5_79_1 e_X5_findOpenable_16 ?_
    refine z_iload e_X5_findOpenable_19 3 rfl ?_
    refine z_iald sh_5 e_X5_findOpenable_20 h (fun h => ?_)
    refine z_nmI h (fun v15 h => ?_)
    refine z_istore e_X5_findOpenable_21 (by decide) [(4, .int v15), (0, .ref (zad G 17)), (1, .int x1), (2, .int x2), (3, .int x3)] rfl ?_
    refine z_iload e_X5_findOpenable_23 2 rfl ?_
    refine z_aload e_X5_findOpenable_24 1 rfl ?_
    refine z_getr gf_X5_18_17 e_X5_findOpenable_25 ?_
    refine z_iload e_X5_findOpenable_28 4 rfl ?_
    refine z_iald sh_20 e_X5_findOpenable_29 h (fun h => ?_)
    refine z_aload e_X5_findOpenable_30 1 rfl ?_
    refine z_geti gf_X5_97_17 e_X5_findOpenable_31 ?_
    refine z_ic e_X5_findOpenable_34 ?_
    refine z_ixor e_X5_findOpenable_35 ?_
    refine z_iand e_X5_findOpenable_36 ?_
    obtain ⟨v16, ev16, h⟩ := nm_i h
    have jv16 : zAW G 2 RX5 cX5_findOpenable 5 C 47 [(0, .ref (zad G 17)), (2, .int x2), (3, .int x3), (4, .int v15)] [.int v16, .int x1] σ := by
      refine z_ior e_X5_findOpenable_47 ?_
      refine z_nmI h (fun v17 h => ?_)
      refine z_istore e_X5_findOpenable_48 (by decide) [(1, .int v17), (0, .ref (zad G 17)), (2, .int x2), (3, .int x3), (4, .int v15)] rfl ?_
      refine z_iload e_X5_findOpenable_49 2 rfl ?_
      refine z_iload e_X5_findOpenable_50 4 rfl ?_
      refine z_ic e_X5_findOpenable_52 ?_
      obtain ⟨v18, ev18, h⟩ := nm_i h
      have jv18 : zAW G 2 RX5 cX5_findOpenable 5 C 76 [(0, .ref (zad G 17)), (1, .int v17), (3, .int x3)] [.int v18, .int x2] σ := by
        refine z_ior e_X5_findOpenable_76 ?_
        refine z_nmI h (fun v19 h => ?_)
        refine z_istore e_X5_findOpenable_77 (by decide) [(2, .int v19), (0, .ref (zad G 17)), (1, .int v17), (3, .int x3)] rfl ?_
        refine z_iinc e_X5_findOpenable_78 3 rfl (by decide) (by decide) h (fun y => [(3, .int y), (2, .int v19), (0, .ref (zad G 17)), (1, .int v17)]) (fun _ => rfl) (fun v20 h => ?_)
        refine z_goto e_X5_findOpenable_81 ?_
        exact z_sub [2, 3, 1, 0] rfl (hw6 v17 v19 v20 σ h)
      refine y_icmp_eq e_X5_findOpenable_53 (fun c21 => ?_) (fun c21 => ?_)
      · refine z_ic e_X5_findOpenable_69 ?_
        refine z_iload e_X5_findOpenable_70 3 rfl ?_
        refine z_ishl e_X5_findOpenable_71 ?_
        refine z_goto e_X5_findOpenable_72 ?_
        rw [if_pos c21] at ev18
        subst ev18
        exact z_sub [1, 0, 3] rfl jv18
      · refine z_aload e_X5_findOpenable_56 1 rfl ?_
        refine z_geti gf_X5_124_17 e_X5_findOpenable_57 ?_
        refine z_iload e_X5_findOpenable_60 4 rfl ?_
        refine z_ishr e_X5_findOpenable_62 ?_
        refine z_ic e_X5_findOpenable_63 ?_
        refine z_iand e_X5_findOpenable_64 ?_
        refine z_ic e_X5_findOpenable_65 ?_
        refine y_icmp_ne e_X5_findOpenable_66 (fun c22 => ?_) (fun c22 => ?_)
        · refine z_ic e_X5_findOpenable_69 ?_
          refine z_iload e_X5_findOpenable_70 3 rfl ?_
          refine z_ishl e_X5_findOpenable_71 ?_
          refine z_goto e_X5_findOpenable_72 ?_
          rw [if_neg c21, if_pos c22] at ev18
          subst ev18
          exact z_sub [1, 0, 3] rfl jv18
        · refine z_ic e_X5_findOpenable_75 ?_
          rw [if_neg c21, if_neg c22] at ev18
          subst ev18
          exact z_sub [1, 0, 3] rfl jv18
    refine y_if_ne e_X5_findOpenable_37 (fun c23 => ?_) (fun c23 => ?_)
    · refine z_ic e_X5_findOpenable_40 ?_
      refine z_iload e_X5_findOpenable_41 4 rfl ?_
      refine z_ishl e_X5_findOpenable_42 ?_
      refine z_goto e_X5_findOpenable_43 ?_
      rw [if_pos c23] at ev16
      subst ev16
      exact z_sub [1, 3, 4, 0] rfl jv16
    · refine z_ic e_X5_findOpenable_46 ?_
      rw [if_neg c23] at ev16
      subst ev16
      exact z_sub [1, 3, 4, 0] rfl jv16
noncomputable def F_X5_findOpenable_6L  : ((Int32 × Int32 × Int32 × zSt) → Option (Unit × zSt)) → (Int32 × Int32 × Int32 × zSt) → Option (Unit × zSt) := fun w s => F_X5_findOpenable_6 w s.1 s.2.1 s.2.2.1 s.2.2.2
set_option maxRecDepth 100000 in
theorem l_X5_findOpenable_6 {G : zG} {C : zC} {r : Unit} {τ : zSt} (hR : zR G C none none τ)  : ∀ (N : Nat) (x1 : Int32) (x2 : Int32) (x3 : Int32) (σ : zSt), zfix (F_X5_findOpenable_6L ) N (x1, x2, x3, σ) = some (r, τ) → zAW G 2 RX5 cX5_findOpenable 5 C 6 [(0, .ref (zad G 17)), (1, .int x1), (2, .int x2), (3, .int x3)] [] σ := by
  intro N
  induction N with
  | zero =>
    intro x1 x2 x3 σ h
    exact nomatch (show (none : Option (Unit × zSt)) = some (r, τ) from h)
  | succ N ih =>
    intro x1 x2 x3 σ h
    exact b_X5_findOpenable_6 hR (zfix (F_X5_findOpenable_6L ) N) ih x1 x2 x3 σ h
noncomputable def F_X5_findOpenable_0 (σ : zSt) : Option (Unit × zSt) :=
  zfix (F_X5_findOpenable_6L ) zlim ((0 : Int32), (0 : Int32), (0 : Int32), σ)
set_option maxHeartbeats 4000000 in
set_option maxRecDepth 100000 in
theorem p_X5_findOpenable_0 {G : zG} {C : zC} {r : Unit} {τ : zSt} (hR : zR G C none none τ)  (σ : zSt) (h : F_X5_findOpenable_0 σ = some (r, τ)) : zAW G 2 RX5 cX5_findOpenable 5 C 0 [(0, .ref (zad G 17))] [] σ := by
  unfold F_X5_findOpenable_0 at h
  refine z_ic e_X5_findOpenable_0 ?_
  refine z_istore e_X5_findOpenable_1 (by decide) [(1, .int (0 : Int32)), (0, .ref (zad G 17))] rfl ?_
  refine z_ic e_X5_findOpenable_2 ?_
  refine z_istore e_X5_findOpenable_3 (by decide) [(2, .int (0 : Int32)), (1, .int (0 : Int32)), (0, .ref (zad G 17))] rfl ?_
  refine z_ic e_X5_findOpenable_4 ?_
  refine z_istore e_X5_findOpenable_5 (by decide) [(3, .int (0 : Int32)), (2, .int (0 : Int32)), (1, .int (0 : Int32)), (0, .ref (zad G 17))] rfl ?_
  exact z_sub [3, 2, 1, 0] rfl (l_X5_findOpenable_6 hR  zlim (0 : Int32) (0 : Int32) (0 : Int32) σ h)
noncomputable def F_X5_findOpenable (σ : zSt) : Option (Unit × zSt) := F_X5_findOpenable_0  σ
set_option maxRecDepth 100000 in
theorem m_X5_findOpenable (G : zG) (σ : zSt) (q : Unit) (τ : zSt) (h : F_X5_findOpenable  σ = some (q, τ)) : zM G 2 yX5_findOpenable cX5_findOpenable 5 none [.ref (zad G 17)] σ none τ := by
  unfold F_X5_findOpenable at h
  refine zM.of (own := RX5) (by decide +kernel) rfl (Nat.le_of_ble_eq_true rfl) (fun C hR => ?_)
  exact z_sub [0] rfl (p_X5_findOpenable_0 hR  σ h)
noncomputable def F_X5_enter_87 (w51 : (Int32 × zSt) → Option (Unit × zSt)) (x2 : Int32) (t0 : Int32) (t1 : Int32) (t2 : Int32) (σ : zSt) : Option (Unit × zSt) :=
  gd (vp_in t2 6) (nm (zwr σ 23 t2.toNatClampNeg (t1 ||| t0)) (fun s24 =>
    nm (x2 + (1 : Int32)) (fun v25 =>
      w51 (v25, s24))))
set_option maxHeartbeats 4000000 in
set_option maxRecDepth 100000 in
theorem p_X5_enter_87 {G : zG} {C : zC} {r : Unit} {τ : zSt} (hR : zR G C none none τ) (w51 : (Int32 × zSt) → Option (Unit × zSt)) (x2 : Int32) (t0 : Int32) (t1 : Int32) (t2 : Int32) (hw51 : ∀ (x2 : Int32) (σ : zSt), w51 (x2, σ) = some (r, τ) → zAW G 3 RX5 cX5_enter 3 C 51 [(0, .ref (zad G 17)), (2, .int x2)] [] σ) (σ : zSt) (h : F_X5_enter_87 w51 x2 t0 t1 t2 σ = some (r, τ)) : zAW G 3 RX5 cX5_enter 3 C 87 [(0, .ref (zad G 17)), (2, .int x2)] [.int t0, .int t1, .int t2, .ref (zad G 23)] σ := by
  unfold F_X5_enter_87 at h
  refine z_ior e_X5_enter_87 ?_
  refine z_iast sh_23 e_X5_enter_88 h (fun s24 h => ?_)
  refine z_iinc e_X5_enter_89 1 rfl (by decide) (by decide) h (fun y => [(2, .int y), (0, .ref (zad G 17))]) (fun _ => rfl) (fun v25 h => ?_)
  refine z_goto e_X5_enter_92 ?_
  exact z_sub [1, 0] rfl (hw51 v25 s24 h)
noncomputable def F_X5_enter_86 (w51 : (Int32 × zSt) → Option (Unit × zSt)) (x2 : Int32) (t0 : Int32) (t1 : Int32) (σ : zSt) : Option (Unit × zSt) :=
  F_X5_enter_87 w51 x2 (0 : Int32) t0 t1 σ
set_option maxHeartbeats 4000000 in
set_option maxRecDepth 100000 in
theorem p_X5_enter_86 {G : zG} {C : zC} {r : Unit} {τ : zSt} (hR : zR G C none none τ) (w51 : (Int32 × zSt) → Option (Unit × zSt)) (x2 : Int32) (t0 : Int32) (t1 : Int32) (hw51 : ∀ (x2 : Int32) (σ : zSt), w51 (x2, σ) = some (r, τ) → zAW G 3 RX5 cX5_enter 3 C 51 [(0, .ref (zad G 17)), (2, .int x2)] [] σ) (σ : zSt) (h : F_X5_enter_86 w51 x2 t0 t1 σ = some (r, τ)) : zAW G 3 RX5 cX5_enter 3 C 86 [(0, .ref (zad G 17)), (2, .int x2)] [.int t0, .int t1, .ref (zad G 23)] σ := by
  unfold F_X5_enter_86 at h
  refine z_ic e_X5_enter_86 ?_
  exact z_sub [0, 1] rfl (p_X5_enter_87 hR w51 x2 (0 : Int32) t0 t1 hw51 σ h)
noncomputable def F_X5_enter_51 (w51 : (Int32 × zSt) → Option (Unit × zSt)) (x2 : Int32) (σ : zSt) : Option (Unit × zSt) :=
  if (3 : Int32) ≤ x2 then (
    some ((), σ))
  else (
    bd (F_X5_done x2 σ) (fun q17 s16 =>
      if q17 = 0 then (
        gd (vp_in x2 3) (
          nm (if (s16.1 22 x2.toNatClampNeg) = 0 then (0 : Int32) else ((1 : Int32) <<< (x2 &&& 31))) (fun v20 =>
            nm (zwr s16 23 5 ((σ.1 23 5) ||| v20)) (fun s21 =>
              nm (x2 + (1 : Int32)) (fun v22 =>
                w51 (v22, s21))))))
      else (
        F_X5_enter_86 w51 x2 (σ.1 23 5) (5 : Int32) s16)))
set_option maxHeartbeats 4000000 in
set_option maxRecDepth 100000 in
theorem b_X5_enter_51 {G : zG} {C : zC} {r : Unit} {τ : zSt} (hR : zR G C none none τ) (w51 : (Int32 × zSt) → Option (Unit × zSt)) (hw51 : ∀ (x2 : Int32) (σ : zSt), w51 (x2, σ) = some (r, τ) → zAW G 3 RX5 cX5_enter 3 C 51 [(0, .ref (zad G 17)), (2, .int x2)] [] σ) (x2 : Int32) (σ : zSt) (h : F_X5_enter_51 w51 x2 σ = some (r, τ)) : zAW G 3 RX5 cX5_enter 3 C 51 [(0, .ref (zad G 17)), (2, .int x2)] [] σ := by
  unfold F_X5_enter_51 at h
  refine z_iload e_X5_enter_51 1 rfl ?_
  refine z_ic e_X5_enter_52 ?_
  refine z_icmp_ge e_X5_enter_53 h (fun c15 h => ?_) (fun c15 h => ?_)
  · cases h
    exact z_vreturn hR e_X5_enter_95
  · refine z_aload e_X5_enter_56 0 rfl ?_
    refine z_getr gf_X5_27_17 e_X5_enter_57 ?_
    refine z_ic e_X5_enter_60 ?_
    refine z_dup2 e_X5_enter_61 rfl rfl ?_
    refine z_iald0 (j := 5) sh_23 e_X5_enter_62 (by unfold vp_in; decide) rfl ?_
    refine z_aload e_X5_enter_63 0 rfl ?_
    refine z_iload e_X5_enter_64 1 rfl ?_
    obtain ⟨q17, s16, e18, h⟩ := bd_e h
    refine z_callVi (c0 := 17) (As := [.int x2]) (rest := [.int (σ.1 23 5), .int (5 : Int32), .ref (zad G 23)]) lk_X5_106 ob_17 e_X5_enter_65 (m_X5_done G x2 σ _ _ e18) (by decide) rfl (Nat.le_of_ble_eq_true rfl) ?_
    refine z_if_ne e_X5_enter_68 h (fun c19 h => ?_) (fun c19 h => ?_)
    · refine z_aload e_X5_enter_71 0 rfl ?_
      refine z_getr gf_X5_24_17 e_X5_enter_72 ?_
      refine z_iload e_X5_enter_75 1 rfl ?_
      refine z_iald sh_22 e_X5_enter_76 h (fun h => ?_)
      obtain ⟨v20, ev20, h⟩ := nm_i h
      have jv20 : zAW G 3 RX5 cX5_enter 3 C 87 [(0, .ref (zad G 17)), (2, .int x2)] [.int v20, .int (σ.1 23 5), .int (5 : Int32), .ref (zad G 23)] s16 := by
        refine z_ior e_X5_enter_87 ?_
        refine z_iast0 (j := 5) sh_23 e_X5_enter_88 (by unfold vp_in; decide) rfl h (fun s21 h => ?_)
        refine z_iinc e_X5_enter_89 1 rfl (by decide) (by decide) h (fun y => [(2, .int y), (0, .ref (zad G 17))]) (fun _ => rfl) (fun v22 h => ?_)
        refine z_goto e_X5_enter_92 ?_
        exact z_sub [1, 0] rfl (hw51 v22 s21 h)
      refine y_if_eq e_X5_enter_77 (fun c23 => ?_) (fun c23 => ?_)
      · refine z_ic e_X5_enter_86 ?_
        rw [if_pos c23] at ev20
        subst ev20
        exact z_sub [0, 1] rfl jv20
      · refine z_ic e_X5_enter_80 ?_
        refine z_iload e_X5_enter_81 1 rfl ?_
        refine z_ishl e_X5_enter_82 ?_
        refine z_goto e_X5_enter_83 ?_
        rw [if_neg c23] at ev20
        subst ev20
        exact z_sub [0, 1] rfl jv20
    · exact z_sub [0, 1] rfl (p_X5_enter_86 hR w51 x2 (σ.1 23 5) (5 : Int32) hw51 s16 h)
noncomputable def F_X5_enter_51L  : ((Int32 × zSt) → Option (Unit × zSt)) → (Int32 × zSt) → Option (Unit × zSt) := fun w s => F_X5_enter_51 w s.1 s.2
set_option maxRecDepth 100000 in
theorem l_X5_enter_51 {G : zG} {C : zC} {r : Unit} {τ : zSt} (hR : zR G C none none τ)  : ∀ (N : Nat) (x2 : Int32) (σ : zSt), zfix (F_X5_enter_51L ) N (x2, σ) = some (r, τ) → zAW G 3 RX5 cX5_enter 3 C 51 [(0, .ref (zad G 17)), (2, .int x2)] [] σ := by
  intro N
  induction N with
  | zero =>
    intro x2 σ h
    exact nomatch (show (none : Option (Unit × zSt)) = some (r, τ) from h)
  | succ N ih =>
    intro x2 σ h
    exact b_X5_enter_51 hR (zfix (F_X5_enter_51L ) N) ih x2 σ h
noncomputable def F_X5_enter_0 (x1 : Int32) (σ : zSt) : Option (Unit × zSt) :=
  nm (zwr σ 17 9 (x1 % (27 : Int32))) (fun s1 =>
    nm (zwr s1 17 8 (x1 / (27 : Int32))) (fun s2 =>
      bd (F_X5_gatherKeys s2) (fun _ s3 =>
        bd (F_X5_findOpenable s3) (fun _ s6 =>
          bd (F_X5_done (0 : Int32) s6) (fun q10 s9 =>
            nm (if q10 = 0 then (15 : Int32) else (0 : Int32)) (fun v12 =>
              nm (zwr s9 17 11 v12) (fun s13 =>
                nm (zwr s13 23 5 (0 : Int32)) (fun s14 =>
                  zfix (F_X5_enter_51L ) zlim ((0 : Int32), s14)))))))))
set_option maxHeartbeats 4000000 in
set_option maxRecDepth 100000 in
theorem p_X5_enter_0 {G : zG} {C : zC} {r : Unit} {τ : zSt} (hR : zR G C none none τ) (x1 : Int32) (σ : zSt) (h : F_X5_enter_0 x1 σ = some (r, τ)) : zAW G 3 RX5 cX5_enter 3 C 0 [(0, .ref (zad G 17)), (1, .int x1)] [] σ := by
  unfold F_X5_enter_0 at h
  refine z_aload e_X5_enter_0 0 rfl ?_
  refine z_iload e_X5_enter_1 1 rfl ?_
  refine z_ic e_X5_enter_2 ?_
  refine z_irem e_X5_enter_4 (by decide) ?_
  refine z_puti pf_X5_94_17 e_X5_enter_5 h (fun s1 h => ?_)
  refine z_aload e_X5_enter_8 0 rfl ?_
  refine z_iload e_X5_enter_9 1 rfl ?_
  refine z_ic e_X5_enter_10 ?_
  refine z_idiv e_X5_enter_12 (by decide) ?_
  refine z_puti pf_X5_97_17 e_X5_enter_13 h (fun s2 h => ?_)
  refine z_aload e_X5_enter_16 0 rfl ?_
  obtain ⟨q4, s3, e5, h⟩ := bd_e h
  refine z_callVv (c0 := 17) (As := []) (rest := []) lk_X5_100 ob_17 e_X5_enter_17 (m_X5_gatherKeys G s2 _ _ e5) (by decide) rfl (Nat.le_of_ble_eq_true rfl) ?_
  refine z_aload e_X5_enter_20 0 rfl ?_
  obtain ⟨q7, s6, e8, h⟩ := bd_e h
  refine z_callVv (c0 := 17) (As := []) (rest := []) lk_X5_103 ob_17 e_X5_enter_21 (m_X5_findOpenable G s3 _ _ e8) (by decide) rfl (Nat.le_of_ble_eq_true rfl) ?_
  refine z_aload e_X5_enter_24 0 rfl ?_
  refine z_aload e_X5_enter_25 0 rfl ?_
  refine z_ic e_X5_enter_26 ?_
  obtain ⟨q10, s9, e11, h⟩ := bd_e h
  refine z_callVi (c0 := 17) (As := [.int (0 : Int32)]) (rest := [.ref (zad G 17)]) lk_X5_106 ob_17 e_X5_enter_27 (m_X5_done G (0 : Int32) s6 _ _ e11) (by decide) rfl (Nat.le_of_ble_eq_true rfl) ?_
  obtain ⟨v12, ev12, h⟩ := nm_i h
  have jv12 : zAW G 3 RX5 cX5_enter 3 C 39 [(0, .ref (zad G 17))] [.int v12, .ref (zad G 17)] s9 := by
    refine z_puti pf_X5_109_17 e_X5_enter_39 h (fun s13 h => ?_)
    refine z_aload e_X5_enter_42 0 rfl ?_
    refine z_getr gf_X5_27_17 e_X5_enter_43 ?_
    refine z_ic e_X5_enter_46 ?_
    refine z_ic e_X5_enter_47 ?_
    refine z_iast0 (j := 5) sh_23 e_X5_enter_48 (by unfold vp_in; decide) rfl h (fun s14 h => ?_)
    refine z_ic e_X5_enter_49 ?_
    refine z_istore e_X5_enter_50 (by decide) [(2, .int (0 : Int32)), (0, .ref (zad G 17))] rfl ?_
    exact z_sub [1, 0] rfl (l_X5_enter_51 hR  zlim (0 : Int32) s14 h)
  refine y_if_ne e_X5_enter_30 (fun c26 => ?_) (fun c26 => ?_)
  · refine z_ic e_X5_enter_33 ?_
    refine z_goto e_X5_enter_35 ?_
    rw [if_pos c26] at ev12
    subst ev12
    exact z_sub [0] rfl jv12
  · refine z_ic e_X5_enter_38 ?_
    rw [if_neg c26] at ev12
    subst ev12
    exact z_sub [0] rfl jv12
noncomputable def F_X5_enter (x1 : Int32) (σ : zSt) : Option (Unit × zSt) := F_X5_enter_0 x1 σ
set_option maxRecDepth 100000 in
theorem m_X5_enter (G : zG) (x1 : Int32) (σ : zSt) (q : Unit) (τ : zSt) (h : F_X5_enter x1 σ = some (q, τ)) : zM G 3 yX5_enter cX5_enter 3 none [.ref (zad G 17), .int x1] σ none τ := by
  unfold F_X5_enter at h
  refine zM.of (own := RX5) (by decide +kernel) rfl (Nat.le_of_ble_eq_true rfl) (fun C hR => ?_)
  exact z_sub [0, 1] rfl (p_X5_enter_0 hR x1 σ h)
noncomputable def F_X5_arrive_0 (x1 : Int32) (σ : zSt) : Option (Unit × zSt) :=
  if x1 < 0 then (
    some ((), σ))
  else (
    if x1 < (4 : Int32) then (
      nm (zwr σ 17 7 x1) (fun s3 =>
        gd (vp_in x1 4) (
          nm (zwr s3 23 0 (s3.1 19 x1.toNatClampNeg)) (fun s4 =>
            nm (zwr s4 23 1 ((s4.1 17 11) &&& (((1 : Int32) <<< (x1 &&& 31)) ^^^ (-1 : Int32)))) (fun s5 =>
              gd (vp_in x1 4) (
                nm (zwr s5 23 2 ((s5.1 17 12) &&& (s5.1 18 x1.toNatClampNeg))) (fun s6 =>
                  gd (vp_in x1 4) (
                    nm (zwr s6 23 3 ((s6.1 17 13) &&& (s6.1 18 x1.toNatClampNeg))) (fun s7 =>
                      gd (vp_in x1 4) (
                        nm (zwr s7 23 4 ((s7.1 17 14) &&& (s7.1 18 x1.toNatClampNeg))) (fun s8 =>
                          some ((), s8))))))))))))
    else (
      some ((), σ)))
set_option maxHeartbeats 4000000 in
set_option maxRecDepth 100000 in
theorem p_X5_arrive_0 {G : zG} {C : zC} {r : Unit} {τ : zSt} (hR : zR G C none none τ) (x1 : Int32) (σ : zSt) (h : F_X5_arrive_0 x1 σ = some (r, τ)) : zAW G 1 RX5 cX5_arrive 2 C 0 [(0, .ref (zad G 17)), (1, .int x1)] [] σ := by
  unfold F_X5_arrive_0 at h
  refine z_iload e_X5_arrive_0 1 rfl ?_
  refine z_if_lt e_X5_arrive_1 h (fun c1 h => ?_) (fun c1 h => ?_)
  · cases h
    exact z_vreturn hR e_X5_arrive_9
  · refine z_iload e_X5_arrive_4 1 rfl ?_
    refine z_ic e_X5_arrive_5 ?_
    refine z_icmp_lt e_X5_arrive_6 h (fun c2 h => ?_) (fun c2 h => ?_)
    · refine z_aload e_X5_arrive_10 0 rfl ?_
      refine z_iload e_X5_arrive_11 1 rfl ?_
      refine z_puti pf_X5_112_17 e_X5_arrive_12 h (fun s3 h => ?_)
      refine z_aload e_X5_arrive_15 0 rfl ?_
      refine z_getr gf_X5_27_17 e_X5_arrive_16 ?_
      refine z_ic e_X5_arrive_19 ?_
      refine z_aload e_X5_arrive_20 0 rfl ?_
      refine z_getr gf_X5_15_17 e_X5_arrive_21 ?_
      refine z_iload e_X5_arrive_24 1 rfl ?_
      refine z_iald sh_19 e_X5_arrive_25 h (fun h => ?_)
      refine z_iast0 (j := 0) sh_23 e_X5_arrive_26 (by unfold vp_in; decide) rfl h (fun s4 h => ?_)
      refine z_aload e_X5_arrive_27 0 rfl ?_
      refine z_getr gf_X5_27_17 e_X5_arrive_28 ?_
      refine z_ic e_X5_arrive_31 ?_
      refine z_aload e_X5_arrive_32 0 rfl ?_
      refine z_geti gf_X5_109_17 e_X5_arrive_33 ?_
      refine z_ic e_X5_arrive_36 ?_
      refine z_iload e_X5_arrive_37 1 rfl ?_
      refine z_ishl e_X5_arrive_38 ?_
      refine z_ic e_X5_arrive_39 ?_
      refine z_ixor e_X5_arrive_40 ?_
      refine z_iand e_X5_arrive_41 ?_
      refine z_iast0 (j := 1) sh_23 e_X5_arrive_42 (by unfold vp_in; decide) rfl h (fun s5 h => ?_)
      refine z_aload e_X5_arrive_43 0 rfl ?_
      refine z_getr gf_X5_27_17 e_X5_arrive_44 ?_
      refine z_ic e_X5_arrive_47 ?_
      refine z_aload e_X5_arrive_48 0 rfl ?_
      refine z_geti gf_X5_115_17 e_X5_arrive_49 ?_
      refine z_aload e_X5_arrive_52 0 rfl ?_
      refine z_getr gf_X5_9_17 e_X5_arrive_53 ?_
      refine z_iload e_X5_arrive_56 1 rfl ?_
      refine z_iald sh_18 e_X5_arrive_57 h (fun h => ?_)
      refine z_iand e_X5_arrive_58 ?_
      refine z_iast0 (j := 2) sh_23 e_X5_arrive_59 (by unfold vp_in; decide) rfl h (fun s6 h => ?_)
      refine z_aload e_X5_arrive_60 0 rfl ?_
      refine z_getr gf_X5_27_17 e_X5_arrive_61 ?_
      refine z_ic e_X5_arrive_64 ?_
      refine z_aload e_X5_arrive_65 0 rfl ?_
      refine z_geti gf_X5_118_17 e_X5_arrive_66 ?_
      refine z_aload e_X5_arrive_69 0 rfl ?_
      refine z_getr gf_X5_9_17 e_X5_arrive_70 ?_
      refine z_iload e_X5_arrive_73 1 rfl ?_
      refine z_iald sh_18 e_X5_arrive_74 h (fun h => ?_)
      refine z_iand e_X5_arrive_75 ?_
      refine z_iast0 (j := 3) sh_23 e_X5_arrive_76 (by unfold vp_in; decide) rfl h (fun s7 h => ?_)
      refine z_aload e_X5_arrive_77 0 rfl ?_
      refine z_getr gf_X5_27_17 e_X5_arrive_78 ?_
      refine z_ic e_X5_arrive_81 ?_
      refine z_aload e_X5_arrive_82 0 rfl ?_
      refine z_geti gf_X5_121_17 e_X5_arrive_83 ?_
      refine z_aload e_X5_arrive_86 0 rfl ?_
      refine z_getr gf_X5_9_17 e_X5_arrive_87 ?_
      refine z_iload e_X5_arrive_90 1 rfl ?_
      refine z_iald sh_18 e_X5_arrive_91 h (fun h => ?_)
      refine z_iand e_X5_arrive_92 ?_
      refine z_iast0 (j := 4) sh_23 e_X5_arrive_93 (by unfold vp_in; decide) rfl h (fun s8 h => ?_)
      cases h
      exact z_vreturn hR e_X5_arrive_94
    · cases h
      exact z_vreturn hR e_X5_arrive_9
noncomputable def F_X5_arrive (x1 : Int32) (σ : zSt) : Option (Unit × zSt) := F_X5_arrive_0 x1 σ
set_option maxRecDepth 100000 in
theorem m_X5_arrive (G : zG) (x1 : Int32) (σ : zSt) (q : Unit) (τ : zSt) (h : F_X5_arrive x1 σ = some (q, τ)) : zM G 1 yX5_arrive cX5_arrive 2 none [.ref (zad G 17), .int x1] σ none τ := by
  unfold F_X5_arrive at h
  refine zM.of (own := RX5) (by decide +kernel) rfl (Nat.le_of_ble_eq_true rfl) (fun C hR => ?_)
  exact z_sub [0, 1] rfl (p_X5_arrive_0 hR x1 σ h)
noncomputable def F_X5_stand_0 (x1 : Int32) (σ : zSt) : Option (Unit × zSt) :=
  bd (F_X5_enter ((jmax x1 (0 : Int32)) / (4 : Int32)) σ) (fun _ s1 =>
    bd (F_X5_arrive ((jmax x1 (0 : Int32)) % (4 : Int32)) s1) (fun _ s4 =>
      some ((), s4)))
set_option maxHeartbeats 4000000 in
set_option maxRecDepth 100000 in
theorem p_X5_stand_0 {G : zG} {C : zC} {r : Unit} {τ : zSt} (hR : zR G C none none τ) (x1 : Int32) (σ : zSt) (h : F_X5_stand_0 x1 σ = some (r, τ)) : zAW G 4 RX5 cX5_stand 2 C 0 [(0, .ref (zad G 17)), (1, .int x1)] [] σ := by
  unfold F_X5_stand_0 at h
  refine z_aload e_X5_stand_0 0 rfl ?_
  refine z_iload e_X5_stand_1 1 rfl ?_
  refine z_ic e_X5_stand_2 ?_
  refine z_jmax mm_X5_82 (Nat.le_of_ble_eq_true rfl) (by decide) e_X5_stand_3 ?_
  refine z_ic e_X5_stand_6 ?_
  refine z_idiv e_X5_stand_7 (by decide) ?_
  obtain ⟨q2, s1, e3, h⟩ := bd_e h
  refine z_callVv (c0 := 17) (As := [.int ((jmax x1 (0 : Int32)) / (4 : Int32))]) (rest := []) lk_X5_87 ob_17 e_X5_stand_8 (m_X5_enter G ((jmax x1 (0 : Int32)) / (4 : Int32)) σ _ _ e3) (by decide) rfl (Nat.le_of_ble_eq_true rfl) ?_
  refine z_aload e_X5_stand_11 0 rfl ?_
  refine z_iload e_X5_stand_12 1 rfl ?_
  refine z_ic e_X5_stand_13 ?_
  refine z_jmax mm_X5_82 (Nat.le_of_ble_eq_true rfl) (by decide) e_X5_stand_14 ?_
  refine z_ic e_X5_stand_17 ?_
  refine z_irem e_X5_stand_18 (by decide) ?_
  obtain ⟨q5, s4, e6, h⟩ := bd_e h
  refine z_callVv (c0 := 17) (As := [.int ((jmax x1 (0 : Int32)) % (4 : Int32))]) (rest := []) lk_X5_91 ob_17 e_X5_stand_19 (m_X5_arrive G ((jmax x1 (0 : Int32)) % (4 : Int32)) s1 _ _ e6) (by decide) rfl (Nat.le_of_ble_eq_true rfl) ?_
  cases h
  exact z_vreturn hR e_X5_stand_22
noncomputable def F_X5_stand (x1 : Int32) (σ : zSt) : Option (Unit × zSt) := F_X5_stand_0 x1 σ
set_option maxRecDepth 100000 in
theorem m_X5_stand (G : zG) (x1 : Int32) (σ : zSt) (q : Unit) (τ : zSt) (h : F_X5_stand x1 σ = some (q, τ)) : zM G 4 yX5_stand cX5_stand 2 none [.ref (zad G 17), .int x1] σ none τ := by
  unfold F_X5_stand at h
  refine zM.of (own := RX5) (by decide +kernel) rfl (Nat.le_of_ble_eq_true rfl) (fun C hR => ?_)
  exact z_sub [0, 1] rfl (p_X5_stand_0 hR x1 σ h)
noncomputable def F_X5_isHad_0 (x1 : Int32) (σ : zSt) : Option (Int32 × zSt) :=
  if ((σ.1 17 6) &&& (x1 ^^^ (-1 : Int32))) = 0 then (
    some ((1 : Int32), σ))
  else (
    some ((0 : Int32), σ))
set_option maxHeartbeats 4000000 in
set_option maxRecDepth 100000 in
theorem p_X5_isHad_0 {G : zG} {C : zC} {r : Int32} {τ : zSt} (hR : zR G C (some .boolean) (some (.int r)) τ) (x1 : Int32) (σ : zSt) (h : F_X5_isHad_0 x1 σ = some (r, τ)) : zAW G 1 RX5 cX5_isHad 2 C 0 [(0, .ref (zad G 17)), (1, .int x1)] [] σ := by
  unfold F_X5_isHad_0 at h
  refine z_aload e_X5_isHad_0 0 rfl ?_
  refine z_geti gf_X5_69_17 e_X5_isHad_1 ?_
  refine z_iload e_X5_isHad_4 1 rfl ?_
  refine z_ic e_X5_isHad_5 ?_
  refine z_ixor e_X5_isHad_6 ?_
  refine z_iand e_X5_isHad_7 ?_
  refine z_if_ne e_X5_isHad_8 h (fun c1 h => ?_) (fun c1 h => ?_)
  · refine z_ic e_X5_isHad_11 ?_
    refine z_goto e_X5_isHad_12 ?_
    cases h
    exact z_zreturn hR e_X5_isHad_16 (Or.inr rfl)
  · refine z_ic e_X5_isHad_15 ?_
    cases h
    exact z_zreturn hR e_X5_isHad_16 (Or.inl rfl)
noncomputable def F_X5_isHad (x1 : Int32) (σ : zSt) : Option (Int32 × zSt) := F_X5_isHad_0 x1 σ
set_option maxRecDepth 100000 in
theorem m_X5_isHad (G : zG) (x1 : Int32) (σ : zSt) (q : Int32) (τ : zSt) (h : F_X5_isHad x1 σ = some (q, τ)) : zM G 1 yX5_isHad cX5_isHad 2 (some .boolean) [.ref (zad G 17), .int x1] σ (some (.int q)) τ := by
  unfold F_X5_isHad at h
  refine zM.of (own := RX5) (by decide +kernel) rfl (Nat.le_of_ble_eq_true rfl) (fun C hR => ?_)
  exact z_sub [0, 1] rfl (p_X5_isHad_0 hR x1 σ h)
noncomputable def F_X5_canBits_0 (x1 : Int32) (σ : zSt) : Option (Int32 × zSt) :=
  bd (F_X11_isBelow x1 (6 : Int32) σ) (fun q2 s1 =>
    if q2 = 0 then (
      some ((0 : Int32), s1))
    else (
      gd (vp_in x1 6) (
        some ((s1.1 23 x1.toNatClampNeg), s1))))
set_option maxHeartbeats 4000000 in
set_option maxRecDepth 100000 in
theorem p_X5_canBits_0 {G : zG} {C : zC} {r : Int32} {τ : zSt} (hR : zR G C (some .int) (some (.int r)) τ) (x1 : Int32) (σ : zSt) (h : F_X5_canBits_0 x1 σ = some (r, τ)) : zAW G 2 RX5 cX5_canBits 2 C 0 [(0, .ref (zad G 17)), (1, .int x1)] [] σ := by
  unfold F_X5_canBits_0 at h
  refine z_iload e_X5_canBits_0 1 rfl ?_
  refine z_ic e_X5_canBits_1 ?_
  obtain ⟨q2, s1, e3, h⟩ := bd_e h
  refine z_callNi (As := [.int x1, .int (6 : Int32)]) (rest := []) lk_X5_34 e_X5_canBits_3 (m_X11_isBelow G x1 (6 : Int32) σ _ _ e3) (by decide) rfl (Nat.le_of_ble_eq_true rfl) ?_
  refine z_if_eq e_X5_canBits_6 h (fun c4 h => ?_) (fun c4 h => ?_)
  · refine z_ic e_X5_canBits_18 ?_
    cases h
    exact z_ireturn hR e_X5_canBits_19
  · refine z_aload e_X5_canBits_9 0 rfl ?_
    refine z_getr gf_X5_27_17 e_X5_canBits_10 ?_
    refine z_iload e_X5_canBits_13 1 rfl ?_
    refine z_iald sh_23 e_X5_canBits_14 h (fun h => ?_)
    refine z_goto e_X5_canBits_15 ?_
    cases h
    exact z_ireturn hR e_X5_canBits_19
noncomputable def F_X5_canBits (x1 : Int32) (σ : zSt) : Option (Int32 × zSt) := F_X5_canBits_0 x1 σ
set_option maxRecDepth 100000 in
theorem m_X5_canBits (G : zG) (x1 : Int32) (σ : zSt) (q : Int32) (τ : zSt) (h : F_X5_canBits x1 σ = some (q, τ)) : zM G 2 yX5_canBits cX5_canBits 2 (some .int) [.ref (zad G 17), .int x1] σ (some (.int q)) τ := by
  unfold F_X5_canBits at h
  refine zM.of (own := RX5) (by decide +kernel) rfl (Nat.le_of_ble_eq_true rfl) (fun C hR => ?_)
  exact z_sub [0, 1] rfl (p_X5_canBits_0 hR x1 σ h)
noncomputable def F_X5_daysOf_0 (x1 : Int32) (x2 : Int32) (σ : zSt) : Option (Int32 × zSt) :=
  if x1 = 0 then (
    bd (F_X5_daysTo (σ.1 17 7) x2 σ) (fun q3 s2 =>
      some (q3, s2)))
  else (
    if x1 = (5 : Int32) then (
      some ((0 : Int32), σ))
    else (
      some ((1 : Int32), σ)))
set_option maxHeartbeats 4000000 in
set_option maxRecDepth 100000 in
theorem p_X5_daysOf_0 {G : zG} {C : zC} {r : Int32} {τ : zSt} (hR : zR G C (some .int) (some (.int r)) τ) (x1 : Int32) (x2 : Int32) (σ : zSt) (h : F_X5_daysOf_0 x1 x2 σ = some (r, τ)) : zAW G 3 RX5 cX5_daysOf 3 C 0 [(0, .ref (zad G 17)), (1, .int x1), (2, .int x2)] [] σ := by
  unfold F_X5_daysOf_0 at h
  refine z_iload e_X5_daysOf_0 1 rfl ?_
  refine z_if_ne e_X5_daysOf_1 h (fun c1 h => ?_) (fun c1 h => ?_)
  · refine z_aload e_X5_daysOf_4 0 rfl ?_
    refine z_aload e_X5_daysOf_5 0 rfl ?_
    refine z_geti gf_X5_112_17 e_X5_daysOf_6 ?_
    refine z_iload e_X5_daysOf_9 2 rfl ?_
    obtain ⟨q3, s2, e4, h⟩ := bd_e h
    refine z_callVi (c0 := 17) (As := [.int (σ.1 17 7), .int x2]) (rest := []) lk_X5_51 ob_17 e_X5_daysOf_10 (m_X5_daysTo G (σ.1 17 7) x2 σ _ _ e4) (by decide) rfl (Nat.le_of_ble_eq_true rfl) ?_
    cases h
    exact z_ireturn hR e_X5_daysOf_13
  · refine z_iload e_X5_daysOf_14 1 rfl ?_
    refine z_ic e_X5_daysOf_15 ?_
    refine z_icmp_ne e_X5_daysOf_16 h (fun c5 h => ?_) (fun c5 h => ?_)
    · refine z_ic e_X5_daysOf_19 ?_
      refine z_goto e_X5_daysOf_20 ?_
      cases h
      exact z_ireturn hR e_X5_daysOf_24
    · refine z_ic e_X5_daysOf_23 ?_
      cases h
      exact z_ireturn hR e_X5_daysOf_24
noncomputable def F_X5_daysOf (x1 : Int32) (x2 : Int32) (σ : zSt) : Option (Int32 × zSt) := F_X5_daysOf_0 x1 x2 σ
set_option maxRecDepth 100000 in
theorem m_X5_daysOf (G : zG) (x1 : Int32) (x2 : Int32) (σ : zSt) (q : Int32) (τ : zSt) (h : F_X5_daysOf x1 x2 σ = some (q, τ)) : zM G 3 yX5_daysOf cX5_daysOf 3 (some .int) [.ref (zad G 17), .int x1, .int x2] σ (some (.int q)) τ := by
  unfold F_X5_daysOf at h
  refine zM.of (own := RX5) (by decide +kernel) rfl (Nat.le_of_ble_eq_true rfl) (fun C hR => ?_)
  exact z_sub [0, 1, 2] rfl (p_X5_daysOf_0 hR x1 x2 σ h)
noncomputable def F_X5_state_0 (x1 : Int32) (x2 : Int32) (x3 : Int32) (σ : zSt) : Option (Int32 × zSt) :=
  some ((((((x1 * (27 : Int32)) + (σ.1 17 9)) + x2) * (4 : Int32)) + x3), σ)
set_option maxHeartbeats 4000000 in
set_option maxRecDepth 100000 in
theorem p_X5_state_0 {G : zG} {C : zC} {r : Int32} {τ : zSt} (hR : zR G C (some .int) (some (.int r)) τ) (x1 : Int32) (x2 : Int32) (x3 : Int32) (σ : zSt) (h : F_X5_state_0 x1 x2 x3 σ = some (r, τ)) : zAW G 1 RX5 cX5_state 4 C 0 [(0, .ref (zad G 17)), (1, .int x1), (2, .int x2), (3, .int x3)] [] σ := by
  unfold F_X5_state_0 at h
  refine z_iload e_X5_state_0 1 rfl ?_
  refine z_ic e_X5_state_1 ?_
  refine z_imul e_X5_state_3 ?_
  refine z_aload e_X5_state_4 0 rfl ?_
  refine z_geti gf_X5_94_17 e_X5_state_5 ?_
  refine z_iadd e_X5_state_8 ?_
  refine z_iload e_X5_state_9 2 rfl ?_
  refine z_iadd e_X5_state_10 ?_
  refine z_ic e_X5_state_11 ?_
  refine z_imul e_X5_state_12 ?_
  refine z_iload e_X5_state_13 3 rfl ?_
  refine z_iadd e_X5_state_14 ?_
  cases h
  exact z_ireturn hR e_X5_state_15
noncomputable def F_X5_state (x1 : Int32) (x2 : Int32) (x3 : Int32) (σ : zSt) : Option (Int32 × zSt) := F_X5_state_0 x1 x2 x3 σ
set_option maxRecDepth 100000 in
theorem m_X5_state (G : zG) (x1 : Int32) (x2 : Int32) (x3 : Int32) (σ : zSt) (q : Int32) (τ : zSt) (h : F_X5_state x1 x2 x3 σ = some (q, τ)) : zM G 1 yX5_state cX5_state 4 (some .int) [.ref (zad G 17), .int x1, .int x2, .int x3] σ (some (.int q)) τ := by
  unfold F_X5_state at h
  refine zM.of (own := RX5) (by decide +kernel) rfl (Nat.le_of_ble_eq_true rfl) (fun C hR => ?_)
  exact z_sub [0, 1, 2, 3] rfl (p_X5_state_0 hR x1 x2 x3 σ h)
noncomputable def F_X5_after_148 (t0 : Int32) (t1 : Int32) (σ : zSt) : Option (Int32 × zSt) :=
  bd (F_X5_state t1 t0 (σ.1 17 7) σ) (fun q26 s25 =>
    some (q26, s25))
set_option maxHeartbeats 4000000 in
set_option maxRecDepth 100000 in
theorem p_X5_after_148 {G : zG} {C : zC} {r : Int32} {τ : zSt} (hR : zR G C (some .int) (some (.int r)) τ) (t0 : Int32) (t1 : Int32) (σ : zSt) (h : F_X5_after_148 t0 t1 σ = some (r, τ)) : zAW G 2 RX5 cX5_after 3 C 148 [(0, .ref (zad G 17))] [.int t0, .int t1, .ref (zad G 17)] σ := by
  unfold F_X5_after_148 at h
  refine z_aload e_X5_after_148 0 rfl ?_
  refine z_geti gf_X5_112_17 e_X5_after_149 ?_
  obtain ⟨q26, s25, e27, h⟩ := bd_e h
  refine z_callVi (c0 := 17) (As := [.int t1, .int t0, .int (σ.1 17 7)]) (rest := []) lk_X5_136 ob_17 e_X5_after_152 (m_X5_state G t1 t0 (σ.1 17 7) σ _ _ e27) (by decide) rfl (Nat.le_of_ble_eq_true rfl) ?_
  cases h
  exact z_ireturn hR e_X5_after_155
noncomputable def F_X5_after_0 (x1 : Int32) (x2 : Int32) (σ : zSt) : Option (Int32 × zSt) :=
  if x1 = (0 : Int32) then (
    bd (F_X5_state (σ.1 17 8) (0 : Int32) x2 σ) (fun q3 s2 =>
      some (q3, s2)))
  else (
    if x1 = (1 : Int32) then (
      bd (F_X5_state (σ.1 17 8) (1 : Int32) x2 σ) (fun q7 s6 =>
        some (q7, s6)))
    else (
      if x1 = (2 : Int32) then (
        bd (F_X5_state ((σ.1 17 8) ||| ((1 : Int32) <<< (x2 &&& 31))) (0 : Int32) (σ.1 17 7) σ) (fun q11 s10 =>
          some (q11, s10)))
      else (
        if x1 = (3 : Int32) then (
          bd (F_X5_state ((σ.1 17 8) ||| ((1 : Int32) <<< (x2 &&& 31))) (3 : Int32) (σ.1 17 7) σ) (fun q15 s14 =>
            some (q15, s14)))
        else (
          if x1 = (4 : Int32) then (
            bd (F_X5_state ((σ.1 17 8) ||| ((1 : Int32) <<< (x2 &&& 31))) (9 : Int32) (σ.1 17 7) σ) (fun q19 s18 =>
              some (q19, s18)))
          else (
            bd (F_X11_isBelow x2 (3 : Int32) σ) (fun q22 s21 =>
              if q22 = 0 then (
                F_X5_after_148 (0 : Int32) (σ.1 17 8) s21)
              else (
                gd (vp_in x2 3) (
                  F_X5_after_148 ((2 : Int32) * (zPo x2.toNatClampNeg)) (σ.1 17 8) s21))))))))
set_option maxHeartbeats 4000000 in
set_option maxRecDepth 100000 in
theorem p_X5_after_0 {G : zG} {C : zC} {r : Int32} {τ : zSt} (hR : zR G C (some .int) (some (.int r)) τ) (x1 : Int32) (x2 : Int32) (σ : zSt) (h : F_X5_after_0 x1 x2 σ = some (r, τ)) : zAW G 2 RX5 cX5_after 3 C 0 [(0, .ref (zad G 17)), (1, .int x1), (2, .int x2)] [] σ := by
  unfold F_X5_after_0 at h
  refine z_iload e_X5_after_0 1 rfl ?_
  by_cases c1 : x1 = (0 : Int32)
  · rw [if_pos c1] at h
    refine z_tin (tgt := 36) e_X5_after_1 (0 : Int32) c1 (35) (by decide +kernel) ?_
    refine z_aload e_X5_after_36 0 rfl ?_
    refine z_aload e_X5_after_37 0 rfl ?_
    refine z_geti gf_X5_97_17 e_X5_after_38 ?_
    refine z_ic e_X5_after_41 ?_
    refine z_iload e_X5_after_42 2 rfl ?_
    obtain ⟨q3, s2, e4, h⟩ := bd_e h
    refine z_callVi (c0 := 17) (As := [.int (σ.1 17 8), .int (0 : Int32), .int x2]) (rest := []) lk_X5_136 ob_17 e_X5_after_43 (m_X5_state G (σ.1 17 8) (0 : Int32) x2 σ _ _ e4) (by decide) rfl (Nat.le_of_ble_eq_true rfl) ?_
    cases h
    exact z_ireturn hR e_X5_after_46
  · rw [if_neg c1] at h
    by_cases c5 : x1 = (1 : Int32)
    · rw [if_pos c5] at h
      refine z_tin (tgt := 47) e_X5_after_1 (1 : Int32) c5 (46) (by decide +kernel) ?_
      refine z_aload e_X5_after_47 0 rfl ?_
      refine z_aload e_X5_after_48 0 rfl ?_
      refine z_geti gf_X5_97_17 e_X5_after_49 ?_
      refine z_gets_po st_X5_130 e_X5_after_52 ?_
      refine z_ic e_X5_after_55 ?_
      refine z_kald0_po 1 (by decide) (by unfold vp_in; decide) e_X5_after_56 ?_
      refine z_iload e_X5_after_57 2 rfl ?_
      obtain ⟨q7, s6, e8, h⟩ := bd_e h
      refine z_callVi (c0 := 17) (As := [.int (σ.1 17 8), .int (1 : Int32), .int x2]) (rest := []) lk_X5_136 ob_17 e_X5_after_58 (m_X5_state G (σ.1 17 8) (1 : Int32) x2 σ _ _ e8) (by decide) rfl (Nat.le_of_ble_eq_true rfl) ?_
      cases h
      exact z_ireturn hR e_X5_after_61
    · rw [if_neg c5] at h
      by_cases c9 : x1 = (2 : Int32)
      · rw [if_pos c9] at h
        refine z_tin (tgt := 62) e_X5_after_1 (2 : Int32) c9 (61) (by decide +kernel) ?_
        refine z_aload e_X5_after_62 0 rfl ?_
        refine z_aload e_X5_after_63 0 rfl ?_
        refine z_geti gf_X5_97_17 e_X5_after_64 ?_
        refine z_ic e_X5_after_67 ?_
        refine z_iload e_X5_after_68 2 rfl ?_
        refine z_ishl e_X5_after_69 ?_
        refine z_ior e_X5_after_70 ?_
        refine z_ic e_X5_after_71 ?_
        refine z_aload e_X5_after_72 0 rfl ?_
        refine z_geti gf_X5_112_17 e_X5_after_73 ?_
        obtain ⟨q11, s10, e12, h⟩ := bd_e h
        refine z_callVi (c0 := 17) (As := [.int ((σ.1 17 8) ||| ((1 : Int32) <<< (x2 &&& 31))), .int (0 : Int32), .int (σ.1 17 7)]) (rest := []) lk_X5_136 ob_17 e_X5_after_76 (m_X5_state G ((σ.1 17 8) ||| ((1 : Int32) <<< (x2 &&& 31))) (0 : Int32) (σ.1 17 7) σ _ _ e12) (by decide) rfl (Nat.le_of_ble_eq_true rfl) ?_
        cases h
        exact z_ireturn hR e_X5_after_79
      · rw [if_neg c9] at h
        by_cases c13 : x1 = (3 : Int32)
        · rw [if_pos c13] at h
          refine z_tin (tgt := 80) e_X5_after_1 (3 : Int32) c13 (79) (by decide +kernel) ?_
          refine z_aload e_X5_after_80 0 rfl ?_
          refine z_aload e_X5_after_81 0 rfl ?_
          refine z_geti gf_X5_97_17 e_X5_after_82 ?_
          refine z_ic e_X5_after_85 ?_
          refine z_iload e_X5_after_86 2 rfl ?_
          refine z_ishl e_X5_after_87 ?_
          refine z_ior e_X5_after_88 ?_
          refine z_gets_po st_X5_130 e_X5_after_89 ?_
          refine z_ic e_X5_after_92 ?_
          refine z_kald0_po 3 (by decide) (by unfold vp_in; decide) e_X5_after_93 ?_
          refine z_aload e_X5_after_94 0 rfl ?_
          refine z_geti gf_X5_112_17 e_X5_after_95 ?_
          obtain ⟨q15, s14, e16, h⟩ := bd_e h
          refine z_callVi (c0 := 17) (As := [.int ((σ.1 17 8) ||| ((1 : Int32) <<< (x2 &&& 31))), .int (3 : Int32), .int (σ.1 17 7)]) (rest := []) lk_X5_136 ob_17 e_X5_after_98 (m_X5_state G ((σ.1 17 8) ||| ((1 : Int32) <<< (x2 &&& 31))) (3 : Int32) (σ.1 17 7) σ _ _ e16) (by decide) rfl (Nat.le_of_ble_eq_true rfl) ?_
          cases h
          exact z_ireturn hR e_X5_after_101
        · rw [if_neg c13] at h
          by_cases c17 : x1 = (4 : Int32)
          · rw [if_pos c17] at h
            refine z_tin (tgt := 102) e_X5_after_1 (4 : Int32) c17 (101) (by decide +kernel) ?_
            refine z_aload e_X5_after_102 0 rfl ?_
            refine z_aload e_X5_after_103 0 rfl ?_
            refine z_geti gf_X5_97_17 e_X5_after_104 ?_
            refine z_ic e_X5_after_107 ?_
            refine z_iload e_X5_after_108 2 rfl ?_
            refine z_ishl e_X5_after_109 ?_
            refine z_ior e_X5_after_110 ?_
            refine z_gets_po st_X5_130 e_X5_after_111 ?_
            refine z_ic e_X5_after_114 ?_
            refine z_kald0_po 9 (by decide) (by unfold vp_in; decide) e_X5_after_115 ?_
            refine z_aload e_X5_after_116 0 rfl ?_
            refine z_geti gf_X5_112_17 e_X5_after_117 ?_
            obtain ⟨q19, s18, e20, h⟩ := bd_e h
            refine z_callVi (c0 := 17) (As := [.int ((σ.1 17 8) ||| ((1 : Int32) <<< (x2 &&& 31))), .int (9 : Int32), .int (σ.1 17 7)]) (rest := []) lk_X5_136 ob_17 e_X5_after_120 (m_X5_state G ((σ.1 17 8) ||| ((1 : Int32) <<< (x2 &&& 31))) (9 : Int32) (σ.1 17 7) σ _ _ e20) (by decide) rfl (Nat.le_of_ble_eq_true rfl) ?_
            cases h
            exact z_ireturn hR e_X5_after_123
          · rw [if_neg c17] at h
            refine z_tout (tgt := 124) e_X5_after_1 (by
              have := lv_neT c1 (show (0 : Int32).toInt = 0 by decide)
              have := lv_neT c5 (show (1 : Int32).toInt = 1 by decide)
              have := lv_neT c9 (show (2 : Int32).toInt = 2 by decide)
              have := lv_neT c13 (show (3 : Int32).toInt = 3 by decide)
              have := lv_neT c17 (show (4 : Int32).toInt = 4 by decide)
              omega) (by decide) ?_
            refine z_aload e_X5_after_124 0 rfl ?_
            refine z_aload e_X5_after_125 0 rfl ?_
            refine z_geti gf_X5_97_17 e_X5_after_126 ?_
            refine z_iload e_X5_after_129 2 rfl ?_
            refine z_ic e_X5_after_130 ?_
            obtain ⟨q22, s21, e23, h⟩ := bd_e h
            refine z_callNi (As := [.int x2, .int (3 : Int32)]) (rest := [.int (σ.1 17 8), .ref (zad G 17)]) lk_X5_34 e_X5_after_131 (m_X11_isBelow G x2 (3 : Int32) σ _ _ e23) (by decide) rfl (Nat.le_of_ble_eq_true rfl) ?_
            refine z_if_eq e_X5_after_134 h (fun c24 h => ?_) (fun c24 h => ?_)
            · refine z_ic e_X5_after_147 ?_
              exact z_sub [0] rfl (p_X5_after_148 hR (0 : Int32) (σ.1 17 8) s21 h)
            · refine z_ic e_X5_after_137 ?_
              refine z_gets_po st_X5_130 e_X5_after_138 ?_
              refine z_iload e_X5_after_141 2 rfl ?_
              refine z_kald_po e_X5_after_142 h (fun h => ?_)
              refine z_imul e_X5_after_143 ?_
              refine z_goto e_X5_after_144 ?_
              exact z_sub [0] rfl (p_X5_after_148 hR ((2 : Int32) * (zPo x2.toNatClampNeg)) (σ.1 17 8) s21 h)
noncomputable def F_X5_after (x1 : Int32) (x2 : Int32) (σ : zSt) : Option (Int32 × zSt) := F_X5_after_0 x1 x2 σ
set_option maxRecDepth 100000 in
theorem m_X5_after (G : zG) (x1 : Int32) (x2 : Int32) (σ : zSt) (q : Int32) (τ : zSt) (h : F_X5_after x1 x2 σ = some (q, τ)) : zM G 2 yX5_after cX5_after 3 (some .int) [.ref (zad G 17), .int x1, .int x2] σ (some (.int q)) τ := by
  unfold F_X5_after at h
  refine zM.of (own := RX5) (by decide +kernel) rfl (Nat.le_of_ble_eq_true rfl) (fun C hR => ?_)
  exact z_sub [0, 1, 2] rfl (p_X5_after_0 hR x1 x2 σ h)
noncomputable def F_X7_judged_106 (x2 : Int32) (x3 : Int32) (x4 : Int32) (σ : zSt) : Option (Int32 × zSt) :=
  if x2 = (0 : Int32) then (
    some (x4, σ))
  else (
    if x2 = (1 : Int32) then (
      some (x3, σ))
    else (
      if x2 = (2 : Int32) then (
        some ((σ.1 17 8), σ))
      else (
        if x2 = (3 : Int32) then (
          some ((σ.1 17 10), σ))
        else (
          if x2 = (4 : Int32) then (
            some ((σ.1 17 7), σ))
          else (
            bd (F_X5_isHad (σ.1 17 8) σ) (fun q14 s13 =>
              if q14 = 0 then (
                some ((0 : Int32), s13))
              else (
                some ((1 : Int32), s13))))))))
set_option maxHeartbeats 4000000 in
set_option maxRecDepth 100000 in
theorem p_X7_judged_106 {G : zG} {C : zC} {r : Int32} {τ : zSt} (hR : zR G C (some .int) (some (.int r)) τ) (x2 : Int32) (x3 : Int32) (x4 : Int32) (σ : zSt) (h : F_X7_judged_106 x2 x3 x4 σ = some (r, τ)) : zAW G 5 RX7 cX7_judged 5 C 106 [(1, .ref (zad G 17)), (2, .int x2), (3, .int x3), (4, .int x4)] [] σ := by
  unfold F_X7_judged_106 at h
  refine z_iload e_X7_judged_106 1 rfl ?_
  by_cases c8 : x2 = (0 : Int32)
  · rw [if_pos c8] at h
    refine z_tin (tgt := 140) e_X7_judged_107 (0 : Int32) c8 (33) (by decide +kernel) ?_
    refine z_iload e_X7_judged_140 3 rfl ?_
    cases h
    exact z_ireturn hR e_X7_judged_142
  · rw [if_neg c8] at h
    by_cases c9 : x2 = (1 : Int32)
    · rw [if_pos c9] at h
      refine z_tin (tgt := 143) e_X7_judged_107 (1 : Int32) c9 (36) (by decide +kernel) ?_
      refine z_iload e_X7_judged_143 2 rfl ?_
      cases h
      exact z_ireturn hR e_X7_judged_144
    · rw [if_neg c9] at h
      by_cases c10 : x2 = (2 : Int32)
      · rw [if_pos c10] at h
        refine z_tin (tgt := 145) e_X7_judged_107 (2 : Int32) c10 (38) (by decide +kernel) ?_
        refine z_aload e_X7_judged_145 0 rfl ?_
        refine z_geti gf_X7_67_17 e_X7_judged_146 ?_
        cases h
        exact z_ireturn hR e_X7_judged_149
      · rw [if_neg c10] at h
        by_cases c11 : x2 = (3 : Int32)
        · rw [if_pos c11] at h
          refine z_tin (tgt := 150) e_X7_judged_107 (3 : Int32) c11 (43) (by decide +kernel) ?_
          refine z_aload e_X7_judged_150 0 rfl ?_
          refine z_geti gf_X7_70_17 e_X7_judged_151 ?_
          cases h
          exact z_ireturn hR e_X7_judged_154
        · rw [if_neg c11] at h
          by_cases c12 : x2 = (4 : Int32)
          · rw [if_pos c12] at h
            refine z_tin (tgt := 155) e_X7_judged_107 (4 : Int32) c12 (48) (by decide +kernel) ?_
            refine z_aload e_X7_judged_155 0 rfl ?_
            refine z_geti gf_X7_73_17 e_X7_judged_156 ?_
            cases h
            exact z_ireturn hR e_X7_judged_159
          · rw [if_neg c12] at h
            refine z_tout (tgt := 160) e_X7_judged_107 (by
              have := lv_neT c8 (show (0 : Int32).toInt = 0 by decide)
              have := lv_neT c9 (show (1 : Int32).toInt = 1 by decide)
              have := lv_neT c10 (show (2 : Int32).toInt = 2 by decide)
              have := lv_neT c11 (show (3 : Int32).toInt = 3 by decide)
              have := lv_neT c12 (show (4 : Int32).toInt = 4 by decide)
              omega) (by decide) ?_
            refine z_aload e_X7_judged_160 0 rfl ?_
            refine z_aload e_X7_judged_161 0 rfl ?_
            refine z_geti gf_X7_67_17 e_X7_judged_162 ?_
            obtain ⟨q14, s13, e15, h⟩ := bd_e h
            refine z_callVi (c0 := 17) (As := [.int (σ.1 17 8)]) (rest := []) lk_X7_76 ob_17 e_X7_judged_165 (m_X5_isHad G (σ.1 17 8) σ _ _ e15) (by decide) rfl (Nat.le_of_ble_eq_true rfl) ?_
            refine z_if_eq e_X7_judged_168 h (fun c16 h => ?_) (fun c16 h => ?_)
            · refine z_ic e_X7_judged_175 ?_
              cases h
              exact z_ireturn hR e_X7_judged_176
            · refine z_ic e_X7_judged_171 ?_
              refine z_goto e_X7_judged_172 ?_
              cases h
              exact z_ireturn hR e_X7_judged_176
noncomputable def F_X7_judged_54 (x2 : Int32) (x3 : Int32) (x4 : Int32) (σ : zSt) : Option (Int32 × zSt) :=
  F_X7_judged_106 x2 x3 x4 σ
set_option maxHeartbeats 4000000 in
set_option maxRecDepth 100000 in
theorem p_X7_judged_54 {G : zG} {C : zC} {r : Int32} {τ : zSt} (hR : zR G C (some .int) (some (.int r)) τ) (x2 : Int32) (x3 : Int32) (x4 : Int32) (σ : zSt) (h : F_X7_judged_54 x2 x3 x4 σ = some (r, τ)) : zAW G 5 RX7 cX7_judged 5 C 54 [(1, .ref (zad G 17)), (2, .int x2), (3, .int x3), (4, .int x4)] [] σ := by
  unfold F_X7_judged_54 at h
  refine z_goto e_X7_judged_54 ?_
  exact z_sub [0, 1, 2, 3] rfl (p_X7_judged_106 hR x2 x3 x4 σ h)
noncomputable def F_X7_judged_14 (x2 : Int32) (w14 : (Int32 × Int32 × zSt) → Option (Int32 × zSt)) (x3 : Int32) (x4 : Int32) (σ : zSt) : Option (Int32 × zSt) :=
  if (σ.1 44 2) ≤ x4 then (
    F_X7_judged_106 x2 x3 x4 σ)
  else (
    if (32 : Int32) ≤ x4 then (
      F_X7_judged_106 x2 x3 x4 σ)
    else (
      gd (vp_in x4 32) (
        bd (F_X5_canBits (σ.1 45 x4.toNatClampNeg) σ) (fun q19 s18 =>
          gd (vp_in x4 32) (
            if ((q19 >>> ((s18.1 46 x4.toNatClampNeg) &&& 31)) &&& (1 : Int32)) = 0 then (
              F_X7_judged_54 x2 x3 x4 s18)
            else (
              gd (vp_in x4 32) (
                gd (vp_in x4 32) (
                  bd (F_X5_daysOf (s18.1 45 x4.toNatClampNeg) (s18.1 46 x4.toNatClampNeg) s18) (fun q23 s22 =>
                    nm (x3 + q23) (fun v25 =>
                      gd (vp_in x4 32) (
                        gd (vp_in x4 32) (
                          bd (F_X5_after (s22.1 45 x4.toNatClampNeg) (s22.1 46 x4.toNatClampNeg) s22) (fun q27 s26 =>
                            bd (F_X5_stand q27 s26) (fun _ s29 =>
                              nm (x4 + (1 : Int32)) (fun v32 =>
                                w14 (v25, v32, s29))))))))))))))))
set_option maxHeartbeats 4000000 in
set_option maxRecDepth 100000 in
theorem b_X7_judged_14 {G : zG} {C : zC} {r : Int32} {τ : zSt} (hR : zR G C (some .int) (some (.int r)) τ) (x2 : Int32) (w14 : (Int32 × Int32 × zSt) → Option (Int32 × zSt)) (hw14 : ∀ (x3 : Int32) (x4 : Int32) (σ : zSt), w14 (x3, x4, σ) = some (r, τ) → zAW G 5 RX7 cX7_judged 5 C 14 [(0, .ref (zad G 44)), (1, .ref (zad G 17)), (2, .int x2), (3, .int x3), (4, .int x4)] [] σ) (x3 : Int32) (x4 : Int32) (σ : zSt) (h : F_X7_judged_14 x2 w14 x3 x4 σ = some (r, τ)) : zAW G 5 RX7 cX7_judged 5 C 14 [(0, .ref (zad G 44)), (1, .ref (zad G 17)), (2, .int x2), (3, .int x3), (4, .int x4)] [] σ := by
  unfold F_X7_judged_14 at h
  refine z_iload e_X7_judged_14 4 rfl ?_
  refine z_aload e_X7_judged_16 0 rfl ?_
  refine z_geti gf_X7_18_44 e_X7_judged_17 ?_
  refine z_icmp_ge e_X7_judged_20 h (fun c7 h => ?_) (fun c7 h => ?_)
  · exact z_sub [1, 2, 3, 4] rfl (p_X7_judged_106 hR x2 x3 x4 σ h)
  · refine z_iload e_X7_judged_23 4 rfl ?_
    refine z_ic e_X7_judged_25 ?_
    refine z_icmp_ge e_X7_judged_27 h (fun c17 h => ?_) (fun c17 h => ?_)
    · exact z_sub [1, 2, 3, 4] rfl (p_X7_judged_106 hR x2 x3 x4 σ h)
    · refine z_aload e_X7_judged_30 1 rfl ?_
      refine z_aload e_X7_judged_31 0 rfl ?_
      refine z_getr gf_X7_11_44 e_X7_judged_32 ?_
      refine z_iload e_X7_judged_35 4 rfl ?_
      refine z_iald sh_45 e_X7_judged_37 h (fun h => ?_)
      obtain ⟨q19, s18, e20, h⟩ := bd_e h
      refine z_callVi (c0 := 17) (As := [.int (σ.1 45 x4.toNatClampNeg)]) (rest := []) lk_X7_58 ob_17 e_X7_judged_38 (m_X5_canBits G (σ.1 45 x4.toNatClampNeg) σ _ _ e20) (by decide) rfl (Nat.le_of_ble_eq_true rfl) ?_
      refine z_aload e_X7_judged_41 0 rfl ?_
      refine z_getr gf_X7_15_44 e_X7_judged_42 ?_
      refine z_iload e_X7_judged_45 4 rfl ?_
      refine z_iald sh_46 e_X7_judged_47 h (fun h => ?_)
      refine z_ishr e_X7_judged_48 ?_
      refine z_ic e_X7_judged_49 ?_
      refine z_iand e_X7_judged_50 ?_
      refine z_if_ne e_X7_judged_51 h (fun c21 h => ?_) (fun c21 h => ?_)
      · exact z_sub [1, 2, 3, 4] rfl (p_X7_judged_54 hR x2 x3 x4 s18 h)
      · refine z_iload e_X7_judged_57 3 rfl ?_
        refine z_aload e_X7_judged_58 1 rfl ?_
        refine z_aload e_X7_judged_59 0 rfl ?_
        refine z_getr gf_X7_11_44 e_X7_judged_60 ?_
        refine z_iload e_X7_judged_63 4 rfl ?_
        refine z_iald sh_45 e_X7_judged_65 h (fun h => ?_)
        refine z_aload e_X7_judged_66 0 rfl ?_
        refine z_getr gf_X7_15_44 e_X7_judged_67 ?_
        refine z_iload e_X7_judged_70 4 rfl ?_
        refine z_iald sh_46 e_X7_judged_72 h (fun h => ?_)
        obtain ⟨q23, s22, e24, h⟩ := bd_e h
        refine z_callVi (c0 := 17) (As := [.int (s18.1 45 x4.toNatClampNeg), .int (s18.1 46 x4.toNatClampNeg)]) (rest := [.int x3]) lk_X7_61 ob_17 e_X7_judged_73 (m_X5_daysOf G (s18.1 45 x4.toNatClampNeg) (s18.1 46 x4.toNatClampNeg) s18 _ _ e24) (by decide) rfl (Nat.le_of_ble_eq_true rfl) ?_
        refine z_iadd e_X7_judged_76 ?_
        refine z_nmI h (fun v25 h => ?_)
        refine z_istore e_X7_judged_77 (by decide) [(3, .int v25), (0, .ref (zad G 44)), (1, .ref (zad G 17)), (2, .int x2), (4, .int x4)] rfl ?_
        refine z_aload e_X7_judged_78 2 rfl ?_
        refine z_aload e_X7_judged_79 2 rfl ?_
        refine z_aload e_X7_judged_80 1 rfl ?_
        refine z_getr gf_X7_11_44 e_X7_judged_81 ?_
        refine z_iload e_X7_judged_84 4 rfl ?_
        refine z_iald sh_45 e_X7_judged_86 h (fun h => ?_)
        refine z_aload e_X7_judged_87 1 rfl ?_
        refine z_getr gf_X7_15_44 e_X7_judged_88 ?_
        refine z_iload e_X7_judged_91 4 rfl ?_
        refine z_iald sh_46 e_X7_judged_93 h (fun h => ?_)
        obtain ⟨q27, s26, e28, h⟩ := bd_e h
        refine z_callVi (c0 := 17) (As := [.int (s22.1 45 x4.toNatClampNeg), .int (s22.1 46 x4.toNatClampNeg)]) (rest := [.ref (zad G 17)]) lk_X7_64 ob_17 e_X7_judged_94 (m_X5_after G (s22.1 45 x4.toNatClampNeg) (s22.1 46 x4.toNatClampNeg) s22 _ _ e28) (by decide) rfl (Nat.le_of_ble_eq_true rfl) ?_
        obtain ⟨q30, s29, e31, h⟩ := bd_e h
        refine z_callVv (c0 := 17) (As := [.int q27]) (rest := []) lk_X7_54 ob_17 e_X7_judged_97 (m_X5_stand G q27 s26 _ _ e31) (by decide) rfl (Nat.le_of_ble_eq_true rfl) ?_
        refine z_iinc e_X7_judged_100 4 rfl (by decide) (by decide) h (fun y => [(4, .int y), (3, .int v25), (0, .ref (zad G 44)), (1, .ref (zad G 17)), (2, .int x2)]) (fun _ => rfl) (fun v32 h => ?_)
        refine z_goto e_X7_judged_103 ?_
        exact z_sub [2, 3, 4, 1, 0] rfl (hw14 v25 v32 s29 h)
noncomputable def F_X7_judged_14L (x2 : Int32) : ((Int32 × Int32 × zSt) → Option (Int32 × zSt)) → (Int32 × Int32 × zSt) → Option (Int32 × zSt) := fun w s => F_X7_judged_14 x2 w s.1 s.2.1 s.2.2
set_option maxRecDepth 100000 in
theorem l_X7_judged_14 {G : zG} {C : zC} {r : Int32} {τ : zSt} (hR : zR G C (some .int) (some (.int r)) τ) (x2 : Int32) : ∀ (N : Nat) (x3 : Int32) (x4 : Int32) (σ : zSt), zfix (F_X7_judged_14L x2) N (x3, x4, σ) = some (r, τ) → zAW G 5 RX7 cX7_judged 5 C 14 [(0, .ref (zad G 44)), (1, .ref (zad G 17)), (2, .int x2), (3, .int x3), (4, .int x4)] [] σ := by
  intro N
  induction N with
  | zero =>
    intro x3 x4 σ h
    exact nomatch (show (none : Option (Int32 × zSt)) = some (r, τ) from h)
  | succ N ih =>
    intro x3 x4 σ h
    exact b_X7_judged_14 hR x2 (zfix (F_X7_judged_14L x2) N) ih x3 x4 σ h
noncomputable def F_X7_judged_0 (x2 : Int32) (σ : zSt) : Option (Int32 × zSt) :=
  bd (F_X5_learn σ) (fun _ s1 =>
    bd (F_X5_stand (0 : Int32) s1) (fun _ s4 =>
      zfix (F_X7_judged_14L x2) zlim ((0 : Int32), (0 : Int32), s4)))
set_option maxHeartbeats 4000000 in
set_option maxRecDepth 100000 in
theorem p_X7_judged_0 {G : zG} {C : zC} {r : Int32} {τ : zSt} (hR : zR G C (some .int) (some (.int r)) τ) (x2 : Int32) (σ : zSt) (h : F_X7_judged_0 x2 σ = some (r, τ)) : zAW G 5 RX7 cX7_judged 5 C 0 [(0, .ref (zad G 44)), (1, .ref (zad G 17)), (2, .int x2)] [] σ := by
  unfold F_X7_judged_0 at h
  refine z_ic e_X7_judged_0 ?_
  refine z_istore e_X7_judged_1 (by decide) [(3, .int (0 : Int32)), (0, .ref (zad G 44)), (1, .ref (zad G 17)), (2, .int x2)] rfl ?_
  refine z_ic e_X7_judged_2 ?_
  refine z_istore e_X7_judged_3 (by decide) [(4, .int (0 : Int32)), (3, .int (0 : Int32)), (0, .ref (zad G 44)), (1, .ref (zad G 17)), (2, .int x2)] rfl ?_
  refine z_aload e_X7_judged_5 3 rfl ?_
  obtain ⟨q2, s1, e3, h⟩ := bd_e h
  refine z_callVv (c0 := 17) (As := []) (rest := []) lk_X7_51 ob_17 e_X7_judged_6 (m_X5_learn G σ _ _ e3) (by decide) rfl (Nat.le_of_ble_eq_true rfl) ?_
  refine z_aload e_X7_judged_9 3 rfl ?_
  refine z_ic e_X7_judged_10 ?_
  obtain ⟨q5, s4, e6, h⟩ := bd_e h
  refine z_callVv (c0 := 17) (As := [.int (0 : Int32)]) (rest := []) lk_X7_54 ob_17 e_X7_judged_11 (m_X5_stand G (0 : Int32) s1 _ _ e6) (by decide) rfl (Nat.le_of_ble_eq_true rfl) ?_
  exact z_sub [2, 3, 4, 1, 0] rfl (l_X7_judged_14 hR x2 zlim (0 : Int32) (0 : Int32) s4 h)
noncomputable def F_X7_judged (x2 : Int32) (σ : zSt) : Option (Int32 × zSt) := F_X7_judged_0 x2 σ
set_option maxRecDepth 100000 in
theorem m_X7_judged (G : zG) (x2 : Int32) (σ : zSt) (q : Int32) (τ : zSt) (h : F_X7_judged x2 σ = some (q, τ)) : zM G 5 yX7_judged cX7_judged 5 (some .int) [.ref (zad G 44), .ref (zad G 17), .int x2] σ (some (.int q)) τ := by
  unfold F_X7_judged at h
  refine zM.of (own := RX7) (by decide +kernel) rfl (Nat.le_of_ble_eq_true rfl) (fun C hR => ?_)
  exact z_sub [0, 1, 2] rfl (p_X7_judged_0 hR x2 σ h)
noncomputable def F_X11_tale_0 (x1 : Int32) (x2 : Int32) (σ : zSt) : Option (Int32 × zSt) :=
  if x1 < (1 : Int32) then (
    some ((-1 : Int32), σ))
  else (
    if (100 : Int32) < x1 then (
      some ((-1 : Int32), σ))
    else (
      bd (F_X11_isBelow x2 (6 : Int32) σ) (fun q4 s3 =>
        if q4 = 0 then (
          some ((-1 : Int32), s3))
        else (
          bd (F_X8_take x1 s3) (fun q8 s7 =>
            if q8 = 0 then (
              some ((-1 : Int32), s7))
            else (
              bd (F_X7_read s7) (fun q12 s11 =>
                if q12 = 0 then (
                  bd (F_X7_judged x2 s11) (fun q16 s15 =>
                    some (q16, s15)))
                else (
                  some (q12, s11)))))))))
set_option maxHeartbeats 4000000 in
set_option maxRecDepth 100000 in
theorem p_X11_tale_0 {G : zG} {C : zC} {r : Int32} {τ : zSt} (hR : zR G C (some .int) (some (.int r)) τ) (x1 : Int32) (x2 : Int32) (σ : zSt) (h : F_X11_tale_0 x1 x2 σ = some (r, τ)) : zAW G 6 RX11 cX11_tale 4 C 0 [(0, .ref (zad G 0)), (1, .int x1), (2, .int x2)] [] σ := by
  unfold F_X11_tale_0 at h
  refine z_iload e_X11_tale_0 1 rfl ?_
  refine z_ic e_X11_tale_1 ?_
  refine z_icmp_lt e_X11_tale_2 h (fun c1 h => ?_) (fun c1 h => ?_)
  · refine z_ic e_X11_tale_31 ?_
    cases h
    exact z_ireturn hR e_X11_tale_32
  · refine z_iload e_X11_tale_5 1 rfl ?_
    refine z_ic e_X11_tale_6 ?_
    refine z_icmp_gt e_X11_tale_8 h (fun c2 h => ?_) (fun c2 h => ?_)
    · refine z_ic e_X11_tale_31 ?_
      cases h
      exact z_ireturn hR e_X11_tale_32
    · refine z_iload e_X11_tale_11 2 rfl ?_
      refine z_ic e_X11_tale_12 ?_
      obtain ⟨q4, s3, e5, h⟩ := bd_e h
      refine z_callSi (As := [.int x2, .int (6 : Int32)]) (rest := []) lk_X11_104 e_X11_tale_14 (m_X11_isBelow G x2 (6 : Int32) σ _ _ e5) (by decide) rfl (Nat.le_of_ble_eq_true rfl) ?_
      refine z_if_eq e_X11_tale_17 h (fun c6 h => ?_) (fun c6 h => ?_)
      · refine z_ic e_X11_tale_31 ?_
        cases h
        exact z_ireturn hR e_X11_tale_32
      · refine z_aload e_X11_tale_20 0 rfl ?_
        refine z_getr gf_X11_39_0 e_X11_tale_21 ?_
        refine z_iload e_X11_tale_24 1 rfl ?_
        obtain ⟨q8, s7, e9, h⟩ := bd_e h
        refine z_callVi (c0 := 33) (As := [.int x1]) (rest := []) lk_X11_143 ob_33 e_X11_tale_25 (m_X8_take G x1 s3 _ _ e9) (by decide) rfl (Nat.le_of_ble_eq_true rfl) ?_
        refine z_if_ne e_X11_tale_28 h (fun c10 h => ?_) (fun c10 h => ?_)
        · refine z_ic e_X11_tale_31 ?_
          cases h
          exact z_ireturn hR e_X11_tale_32
        · refine z_aload e_X11_tale_33 0 rfl ?_
          refine z_getr gf_X11_57_0 e_X11_tale_34 ?_
          refine z_aload e_X11_tale_37 0 rfl ?_
          refine z_getr gf_X11_39_0 e_X11_tale_38 ?_
          obtain ⟨q12, s11, e13, h⟩ := bd_e h
          refine z_callVi (c0 := 44) (As := [.ref (zad G 33)]) (rest := []) lk_X11_154 ob_44 e_X11_tale_41 (m_X7_read G s7 _ _ e13) (by decide) rfl (Nat.le_of_ble_eq_true rfl) ?_
          refine z_istore e_X11_tale_44 (by decide) [(3, .int q12), (0, .ref (zad G 0)), (1, .int x1), (2, .int x2)] rfl ?_
          refine z_iload e_X11_tale_45 0 rfl ?_
          refine z_if_eq e_X11_tale_46 h (fun c14 h => ?_) (fun c14 h => ?_)
          · refine z_aload e_X11_tale_53 1 rfl ?_
            refine z_getr gf_X11_57_0 e_X11_tale_54 ?_
            refine z_aload e_X11_tale_57 1 rfl ?_
            refine z_getr gf_X11_50_0 e_X11_tale_58 ?_
            refine z_iload e_X11_tale_61 3 rfl ?_
            obtain ⟨q16, s15, e17, h⟩ := bd_e h
            refine z_callVi (c0 := 44) (As := [.ref (zad G 17), .int x2]) (rest := []) lk_X11_155 ob_44 e_X11_tale_62 (m_X7_judged G x2 s11 _ _ e17) (by decide) rfl (Nat.le_of_ble_eq_true rfl) ?_
            cases h
            exact z_ireturn hR e_X11_tale_65
          · refine z_iload e_X11_tale_49 0 rfl ?_
            refine z_goto e_X11_tale_50 ?_
            cases h
            exact z_ireturn hR e_X11_tale_65
noncomputable def F_X11_tale (x1 : Int32) (x2 : Int32) (σ : zSt) : Option (Int32 × zSt) := F_X11_tale_0 x1 x2 σ
set_option maxRecDepth 100000 in
theorem m_X11_tale (G : zG) (x1 : Int32) (x2 : Int32) (σ : zSt) (q : Int32) (τ : zSt) (h : F_X11_tale x1 x2 σ = some (q, τ)) : zM G 6 yX11_tale cX11_tale 4 (some .int) [.ref (zad G 0), .int x1, .int x2] σ (some (.int q)) τ := by
  unfold F_X11_tale at h
  refine zM.of (own := RX11) (by decide +kernel) rfl (Nat.le_of_ble_eq_true rfl) (fun C hR => ?_)
  exact z_sub [0, 1, 2] rfl (p_X11_tale_0 hR x1 x2 σ h)
noncomputable def F_X12_kindOf_0 (x0 : Int32) (σ : zSt) : Option (Int32 × zSt) :=
  if x0 = (103 : Int32) then (
    some ((0 : Int32), σ))
  else (
    if x0 = (114 : Int32) then (
      some ((1 : Int32), σ))
    else (
      if x0 = (111 : Int32) then (
        some ((2 : Int32), σ))
      else (
        if x0 = (119 : Int32) then (
          some ((3 : Int32), σ))
        else (
          if x0 = (115 : Int32) then (
            some ((4 : Int32), σ))
          else (
            if x0 = (107 : Int32) then (
              some ((5 : Int32), σ))
            else (
              some ((-1 : Int32), σ)))))))
set_option maxHeartbeats 4000000 in
set_option maxRecDepth 100000 in
theorem p_X12_kindOf_0 {G : zG} {C : zC} {r : Int32} {τ : zSt} (hR : zR G C (some .int) (some (.int r)) τ) (x0 : Int32) (σ : zSt) (h : F_X12_kindOf_0 x0 σ = some (r, τ)) : zAW G 1 RX12 cX12_kindOf 1 C 0 [(0, .int x0)] [] σ := by
  unfold F_X12_kindOf_0 at h
  refine z_iload e_X12_kindOf_0 0 rfl ?_
  refine z_ic e_X12_kindOf_1 ?_
  refine z_icmp_ne e_X12_kindOf_3 h (fun c1 h => ?_) (fun c1 h => ?_)
  · refine z_ic e_X12_kindOf_6 ?_
    refine z_goto e_X12_kindOf_7 ?_
    cases h
    exact z_ireturn hR e_X12_kindOf_61
  · refine z_iload e_X12_kindOf_10 0 rfl ?_
    refine z_ic e_X12_kindOf_11 ?_
    refine z_icmp_ne e_X12_kindOf_13 h (fun c2 h => ?_) (fun c2 h => ?_)
    · refine z_ic e_X12_kindOf_16 ?_
      refine z_goto e_X12_kindOf_17 ?_
      cases h
      exact z_ireturn hR e_X12_kindOf_61
    · refine z_iload e_X12_kindOf_20 0 rfl ?_
      refine z_ic e_X12_kindOf_21 ?_
      refine z_icmp_ne e_X12_kindOf_23 h (fun c3 h => ?_) (fun c3 h => ?_)
      · refine z_ic e_X12_kindOf_26 ?_
        refine z_goto e_X12_kindOf_27 ?_
        cases h
        exact z_ireturn hR e_X12_kindOf_61
      · refine z_iload e_X12_kindOf_30 0 rfl ?_
        refine z_ic e_X12_kindOf_31 ?_
        refine z_icmp_ne e_X12_kindOf_33 h (fun c4 h => ?_) (fun c4 h => ?_)
        · refine z_ic e_X12_kindOf_36 ?_
          refine z_goto e_X12_kindOf_37 ?_
          cases h
          exact z_ireturn hR e_X12_kindOf_61
        · refine z_iload e_X12_kindOf_40 0 rfl ?_
          refine z_ic e_X12_kindOf_41 ?_
          refine z_icmp_ne e_X12_kindOf_43 h (fun c5 h => ?_) (fun c5 h => ?_)
          · refine z_ic e_X12_kindOf_46 ?_
            refine z_goto e_X12_kindOf_47 ?_
            cases h
            exact z_ireturn hR e_X12_kindOf_61
          · refine z_iload e_X12_kindOf_50 0 rfl ?_
            refine z_ic e_X12_kindOf_51 ?_
            refine z_icmp_ne e_X12_kindOf_53 h (fun c6 h => ?_) (fun c6 h => ?_)
            · refine z_ic e_X12_kindOf_56 ?_
              refine z_goto e_X12_kindOf_57 ?_
              cases h
              exact z_ireturn hR e_X12_kindOf_61
            · refine z_ic e_X12_kindOf_60 ?_
              cases h
              exact z_ireturn hR e_X12_kindOf_61
noncomputable def F_X12_kindOf (x0 : Int32) (σ : zSt) : Option (Int32 × zSt) := F_X12_kindOf_0 x0 σ
set_option maxRecDepth 100000 in
theorem m_X12_kindOf (G : zG) (x0 : Int32) (σ : zSt) (q : Int32) (τ : zSt) (h : F_X12_kindOf x0 σ = some (q, τ)) : zM G 1 yX12_kindOf cX12_kindOf 1 (some .int) [.int x0] σ (some (.int q)) τ := by
  unfold F_X12_kindOf at h
  refine zM.of (own := RX12) (by decide +kernel) rfl (Nat.le_of_ble_eq_true rfl) (fun C hR => ?_)
  exact z_sub [0] rfl (p_X12_kindOf_0 hR x0 σ h)
noncomputable def F_X12_digitsFor_0 (x0 : Int32) (σ : zSt) : Option (Int32 × zSt) :=
  if x0 = 0 then (
    some ((4 : Int32), σ))
  else (
    if x0 = (1 : Int32) then (
      some ((4 : Int32), σ))
    else (
      if x0 = (5 : Int32) then (
        some ((3 : Int32), σ))
      else (
        some ((8 : Int32), σ))))
set_option maxHeartbeats 4000000 in
set_option maxRecDepth 100000 in
theorem p_X12_digitsFor_0 {G : zG} {C : zC} {r : Int32} {τ : zSt} (hR : zR G C (some .int) (some (.int r)) τ) (x0 : Int32) (σ : zSt) (h : F_X12_digitsFor_0 x0 σ = some (r, τ)) : zAW G 1 RX12 cX12_digitsFor 1 C 0 [(0, .int x0)] [] σ := by
  unfold F_X12_digitsFor_0 at h
  refine z_iload e_X12_digitsFor_0 0 rfl ?_
  refine z_if_eq e_X12_digitsFor_1 h (fun c1 h => ?_) (fun c1 h => ?_)
  · refine z_ic e_X12_digitsFor_9 ?_
    refine z_goto e_X12_digitsFor_10 ?_
    cases h
    exact z_ireturn hR e_X12_digitsFor_24
  · refine z_iload e_X12_digitsFor_4 0 rfl ?_
    refine z_ic e_X12_digitsFor_5 ?_
    refine z_icmp_ne e_X12_digitsFor_6 h (fun c2 h => ?_) (fun c2 h => ?_)
    · refine z_ic e_X12_digitsFor_9 ?_
      refine z_goto e_X12_digitsFor_10 ?_
      cases h
      exact z_ireturn hR e_X12_digitsFor_24
    · refine z_iload e_X12_digitsFor_13 0 rfl ?_
      refine z_ic e_X12_digitsFor_14 ?_
      refine z_icmp_ne e_X12_digitsFor_15 h (fun c3 h => ?_) (fun c3 h => ?_)
      · refine z_ic e_X12_digitsFor_18 ?_
        refine z_goto e_X12_digitsFor_19 ?_
        cases h
        exact z_ireturn hR e_X12_digitsFor_24
      · refine z_ic e_X12_digitsFor_22 ?_
        cases h
        exact z_ireturn hR e_X12_digitsFor_24
noncomputable def F_X12_digitsFor (x0 : Int32) (σ : zSt) : Option (Int32 × zSt) := F_X12_digitsFor_0 x0 σ
set_option maxRecDepth 100000 in
theorem m_X12_digitsFor (G : zG) (x0 : Int32) (σ : zSt) (q : Int32) (τ : zSt) (h : F_X12_digitsFor x0 σ = some (q, τ)) : zM G 1 yX12_digitsFor cX12_digitsFor 1 (some .int) [.int x0] σ (some (.int q)) τ := by
  unfold F_X12_digitsFor at h
  refine zM.of (own := RX12) (by decide +kernel) rfl (Nat.le_of_ble_eq_true rfl) (fun C hR => ?_)
  exact z_sub [0] rfl (p_X12_digitsFor_0 hR x0 σ h)
