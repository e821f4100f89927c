noncomputable def F_X12_gcd_6 (w6 : (Int64 × Int64 × zSt) → Option (Int64 × zSt)) (x4 : Int64) (x6 : Int64) (σ : zSt) : Option (Int64 × zSt) :=
  if (lg_cmp x6 (0 : Int64)) = 0 then (
    some (x4, σ))
  else (
    gd (¬ x6 = 0) (
      nm (x4 % x6) (fun v3 =>
        w6 (x6, v3, σ))))
set_option maxHeartbeats 4000000 in
set_option maxRecDepth 100000 in
theorem b_X12_gcd_6 {G : zG} {C : zC} {r : Int64} {τ : zSt} (hR : zR G C (some .long) (some (.long r)) τ) (w6 : (Int64 × Int64 × zSt) → Option (Int64 × zSt)) (hw6 : ∀ (x4 : Int64) (x6 : Int64) (σ : zSt), w6 (x4, x6, σ) = some (r, τ) → zAW G 1 RX12 cX12_gcd 10 C 6 [(4, .long x4), (6, .long x6)] [] σ) (x4 : Int64) (x6 : Int64) (σ : zSt) (h : F_X12_gcd_6 w6 x4 x6 σ = some (r, τ)) : zAW G 1 RX12 cX12_gcd 10 C 6 [(4, .long x4), (6, .long x6)] [] σ := by
  unfold F_X12_gcd_6 at h
  refine z_lload e_X12_gcd_6 1 rfl ?_
  refine z_lconst 0 e_X12_gcd_8 rfl ?_
  refine z_lcmp e_X12_gcd_9 ?_
  refine z_if_eq e_X12_gcd_10 h (fun c1 h => ?_) (fun c1 h => ?_)
  · refine z_lload e_X12_gcd_31 0 rfl ?_
    cases h
    exact z_lreturn hR e_X12_gcd_33
  · refine z_lload e_X12_gcd_13 0 rfl ?_
    refine z_lload e_X12_gcd_15 1 rfl ?_
    obtain ⟨hy2, h⟩ := gd_e h
    refine z_lrem e_X12_gcd_17 hy2 ?_
    refine z_nmL h (fun v3 h => ?_)
    refine z_lstore e_X12_gcd_18 (by decide) [(8, .long v3), (4, .long x4), (6, .long x6)] rfl ?_
    refine z_lload e_X12_gcd_20 2 rfl ?_
    refine z_lstore e_X12_gcd_22 (by decide) [(4, .long x6), (8, .long v3), (6, .long x6)] rfl ?_
    refine z_lload e_X12_gcd_24 1 rfl ?_
    refine z_lstore e_X12_gcd_26 (by decide) [(6, .long v3), (4, .long x6), (8, .long v3)] rfl ?_
    refine z_goto e_X12_gcd_28 ?_
    exact z_sub [1, 0] rfl (hw6 x6 v3 σ h)
noncomputable def F_X12_gcd_6L  : ((Int64 × Int64 × zSt) → Option (Int64 × zSt)) → (Int64 × Int64 × zSt) → Option (Int64 × zSt) := fun w s => F_X12_gcd_6 w s.1 s.2.1 s.2.2
set_option maxRecDepth 100000 in
theorem l_X12_gcd_6 {G : zG} {C : zC} {r : Int64} {τ : zSt} (hR : zR G C (some .long) (some (.long r)) τ)  : ∀ (N : Nat) (x4 : Int64) (x6 : Int64) (σ : zSt), zfix (F_X12_gcd_6L ) N (x4, x6, σ) = some (r, τ) → zAW G 1 RX12 cX12_gcd 10 C 6 [(4, .long x4), (6, .long x6)] [] σ := by
  intro N
  induction N with
  | zero =>
    intro x4 x6 σ h
    exact nomatch (show (none : Option (Int64 × zSt)) = some (r, τ) from h)
  | succ N ih =>
    intro x4 x6 σ h
    exact b_X12_gcd_6 hR (zfix (F_X12_gcd_6L ) N) ih x4 x6 σ h
noncomputable def F_X12_gcd_0 (x0 : Int64) (x2 : Int64) (σ : zSt) : Option (Int64 × zSt) :=
  zfix (F_X12_gcd_6L ) zlim (x0, x2, σ)
set_option maxHeartbeats 4000000 in
set_option maxRecDepth 100000 in
theorem p_X12_gcd_0 {G : zG} {C : zC} {r : Int64} {τ : zSt} (hR : zR G C (some .long) (some (.long r)) τ) (x0 : Int64) (x2 : Int64) (σ : zSt) (h : F_X12_gcd_0 x0 x2 σ = some (r, τ)) : zAW G 1 RX12 cX12_gcd 10 C 0 [(0, .long x0), (2, .long x2)] [] σ := by
  unfold F_X12_gcd_0 at h
  refine z_lload e_X12_gcd_0 0 rfl ?_
  refine z_lstore e_X12_gcd_1 (by decide) [(4, .long x0), (0, .long x0), (2, .long x2)] rfl ?_
  refine z_lload e_X12_gcd_3 2 rfl ?_
  refine z_lstore e_X12_gcd_4 (by decide) [(6, .long x2), (4, .long x0), (0, .long x0), (2, .long x2)] rfl ?_
  exact z_sub [1, 0] rfl (l_X12_gcd_6 hR  zlim x0 x2 σ h)
noncomputable def F_X12_gcd (x0 : Int64) (x2 : Int64) (σ : zSt) : Option (Int64 × zSt) := F_X12_gcd_0 x0 x2 σ
set_option maxRecDepth 100000 in
theorem m_X12_gcd (G : zG) (x0 : Int64) (x2 : Int64) (σ : zSt) (q : Int64) (τ : zSt) (h : F_X12_gcd x0 x2 σ = some (q, τ)) : zM G 1 yX12_gcd cX12_gcd 10 (some .long) [.long x0, .long x2] σ (some (.long q)) τ := by
  unfold F_X12_gcd at h
  refine zM.of (own := RX12) (by decide +kernel) rfl (Nat.le_of_ble_eq_true rfl) (fun C hR => ?_)
  exact z_sub [0, 1] rfl (p_X12_gcd_0 hR x0 x2 σ h)
noncomputable def F_X12_through_0 (x0 : Int64) (x2 : Int64) (x4 : Int32) (σ : zSt) : Option (Int64 × zSt) :=
  bd (F_X12_gcd x0 x2 σ) (fun q2 s1 =>
    if x4 = 0 then (
      gd (¬ q2 = 0) (
        some ((x0 / q2), s1)))
    else (
      gd (¬ q2 = 0) (
        some ((x2 / q2), s1))))
set_option maxHeartbeats 4000000 in
set_option maxRecDepth 100000 in
theorem p_X12_through_0 {G : zG} {C : zC} {r : Int64} {τ : zSt} (hR : zR G C (some .long) (some (.long r)) τ) (x0 : Int64) (x2 : Int64) (x4 : Int32) (σ : zSt) (h : F_X12_through_0 x0 x2 x4 σ = some (r, τ)) : zAW G 2 RX12 cX12_through 7 C 0 [(0, .long x0), (2, .long x2), (4, .int x4)] [] σ := by
  unfold F_X12_through_0 at h
  refine z_lload e_X12_through_0 0 rfl ?_
  refine z_lload e_X12_through_1 1 rfl ?_
  obtain ⟨q2, s1, e3, h⟩ := bd_e h
  refine z_callSl (As := [.long x0, .long x2]) (rest := []) lk_X12_145 e_X12_through_2 (m_X12_gcd G x0 x2 σ _ _ e3) (by decide) rfl (Nat.le_of_ble_eq_true rfl) ?_
  refine z_lstore e_X12_through_5 (by decide) [(5, .long q2), (0, .long x0), (2, .long x2), (4, .int x4)] rfl ?_
  refine z_iload e_X12_through_7 3 rfl ?_
  refine z_if_ne e_X12_through_9 h (fun c4 h => ?_) (fun c4 h => ?_)
  · refine z_lload e_X12_through_12 1 rfl ?_
    refine z_lload e_X12_through_13 0 rfl ?_
    obtain ⟨hy5, h⟩ := gd_e h
    refine z_ldiv e_X12_through_15 hy5 ?_
    refine z_goto e_X12_through_16 ?_
    cases h
    exact z_lreturn hR e_X12_through_23
  · refine z_lload e_X12_through_19 2 rfl ?_
    refine z_lload e_X12_through_20 0 rfl ?_
    obtain ⟨hy6, h⟩ := gd_e h
    refine z_ldiv e_X12_through_22 hy6 ?_
    cases h
    exact z_lreturn hR e_X12_through_23
noncomputable def F_X12_through (x0 : Int64) (x2 : Int64) (x4 : Int32) (σ : zSt) : Option (Int64 × zSt) := F_X12_through_0 x0 x2 x4 σ
set_option maxRecDepth 100000 in
theorem m_X12_through (G : zG) (x0 : Int64) (x2 : Int64) (x4 : Int32) (σ : zSt) (q : Int64) (τ : zSt) (h : F_X12_through x0 x2 x4 σ = some (q, τ)) : zM G 2 yX12_through cX12_through 7 (some .long) [.long x0, .long x2, .int x4] σ (some (.long q)) τ := by
  unfold F_X12_through at h
  refine zM.of (own := RX12) (by decide +kernel) rfl (Nat.le_of_ble_eq_true rfl) (fun C hR => ?_)
  exact z_sub [0, 1, 2] rfl (p_X12_through_0 hR x0 x2 x4 σ h)
noncomputable def F_X12_story_28 (σ : zSt) : Option (Int64 × zSt) :=
  some ((-1 : Int64), σ)
set_option maxHeartbeats 4000000 in
set_option maxRecDepth 100000 in
theorem p_X12_story_28 {G : zG} {C : zC} {r : Int64} {τ : zSt} (hR : zR G C (some .long) (some (.long r)) τ)  (σ : zSt) (h : F_X12_story_28 σ = some (r, τ)) : zAW G 8 RX12 cX12_story 8 C 28 [] [] σ := by
  unfold F_X12_story_28 at h
  refine z_ldc2 cs_X12_439 e_X12_story_28 ?_
  cases h
  exact z_lreturn hR e_X12_story_31
noncomputable def F_X12_story_64 (σ : zSt) : Option (Int64 × zSt) :=
  some ((-3 : Int64), σ)
set_option maxHeartbeats 4000000 in
set_option maxRecDepth 100000 in
theorem p_X12_story_64 {G : zG} {C : zC} {r : Int64} {τ : zSt} (hR : zR G C (some .long) (some (.long r)) τ)  (σ : zSt) (h : F_X12_story_64 σ = some (r, τ)) : zAW G 8 RX12 cX12_story 8 C 64 [] [] σ := by
  unfold F_X12_story_64 at h
  refine z_ldc2 cs_X12_447 e_X12_story_64 ?_
  cases h
  exact z_lreturn hR e_X12_story_67
noncomputable def F_X12_story_117 (w117 : (Int32 × Int32 × zSt) → Option (Int64 × zSt)) (x6 : Int32) (x7 : Int32) (σ : zSt) : Option (Int64 × zSt) :=
  if (8 : Int32) ≤ x7 then (
    some (x6.toInt64, σ))
  else (
    gd (vp_in x7 8) (
      nm (if (lg_cmp (σ.2 101 x7.toNatClampNeg) (0 : Int64)) ≤ 0 then (0 : Int32) else (1 : Int32)) (fun v25 =>
        nm (x6 + v25) (fun v26 =>
          nm (x7 + (1 : Int32)) (fun v27 =>
            w117 (v26, v27, σ))))))
set_option maxHeartbeats 4000000 in
set_option maxRecDepth 100000 in
theorem b_X12_story_117 {G : zG} {C : zC} {r : Int64} {τ : zSt} (hR : zR G C (some .long) (some (.long r)) τ) (w117 : (Int32 × Int32 × zSt) → Option (Int64 × zSt)) (hw117 : ∀ (x6 : Int32) (x7 : Int32) (σ : zSt), w117 (x6, x7, σ) = some (r, τ) → zAW G 8 RX12 cX12_story 8 C 117 [(0, .ref (zad G 69)), (6, .int x6), (7, .int x7)] [] σ) (x6 : Int32) (x7 : Int32) (σ : zSt) (h : F_X12_story_117 w117 x6 x7 σ = some (r, τ)) : zAW G 8 RX12 cX12_story 8 C 117 [(0, .ref (zad G 69)), (6, .int x6), (7, .int x7)] [] σ := by
  unfold F_X12_story_117 at h
  refine z_iload e_X12_story_117 2 rfl ?_
  refine z_ic e_X12_story_119 ?_
  refine z_icmp_ge e_X12_story_121 h (fun c24 h => ?_) (fun c24 h => ?_)
  · refine z_iload e_X12_story_152 1 rfl ?_
    refine z_i2l e_X12_story_154 ?_
    cases h
    exact z_lreturn hR e_X12_story_155
  · refine z_iload e_X12_story_124 1 rfl ?_
    refine z_aload e_X12_story_126 0 rfl ?_
    refine z_getr gf_X12_104_69 e_X12_story_127 ?_
    refine z_iload e_X12_story_130 2 rfl ?_
    refine z_lald sh_101 e_X12_story_132 h (fun h => ?_)
    refine z_lconst 0 e_X12_story_133 rfl ?_
    refine z_lcmp e_X12_story_134 ?_
    obtain ⟨v25, ev25, h⟩ := nm_i h
    have jv25 : zAW G 8 RX12 cX12_story 8 C 143 [(0, .ref (zad G 69)), (7, .int x7)] [.int v25, .int x6] σ := by
      refine z_iadd e_X12_story_143 ?_
      refine z_nmI h (fun v26 h => ?_)
      refine z_istore e_X12_story_144 (by decide) [(6, .int v26), (0, .ref (zad G 69)), (7, .int x7)] rfl ?_
      refine z_iinc e_X12_story_146 2 rfl (by decide) (by decide) h (fun y => [(7, .int y), (6, .int v26), (0, .ref (zad G 69))]) (fun _ => rfl) (fun v27 h => ?_)
      refine z_goto e_X12_story_149 ?_
      exact z_sub [2, 1, 0] rfl (hw117 v26 v27 σ h)
    refine y_if_le e_X12_story_135 (fun c28 => ?_) (fun c28 => ?_)
    · refine z_ic e_X12_story_142 ?_
      rw [if_pos c28] at ev25
      subst ev25
      exact z_sub [0, 2] rfl jv25
    · refine z_ic e_X12_story_138 ?_
      refine z_goto e_X12_story_139 ?_
      rw [if_neg c28] at ev25
      subst ev25
      exact z_sub [0, 2] rfl jv25
noncomputable def F_X12_story_117L  : ((Int32 × Int32 × zSt) → Option (Int64 × zSt)) → (Int32 × Int32 × zSt) → Option (Int64 × zSt) := fun w s => F_X12_story_117 w s.1 s.2.1 s.2.2
set_option maxRecDepth 100000 in
theorem l_X12_story_117 {G : zG} {C : zC} {r : Int64} {τ : zSt} (hR : zR G C (some .long) (some (.long r)) τ)  : ∀ (N : Nat) (x6 : Int32) (x7 : Int32) (σ : zSt), zfix (F_X12_story_117L ) N (x6, x7, σ) = some (r, τ) → zAW G 8 RX12 cX12_story 8 C 117 [(0, .ref (zad G 69)), (6, .int x6), (7, .int x7)] [] σ := by
  intro N
  induction N with
  | zero =>
    intro x6 x7 σ h
    exact nomatch (show (none : Option (Int64 × zSt)) = some (r, τ) from h)
  | succ N ih =>
    intro x6 x7 σ h
    exact b_X12_story_117 hR (zfix (F_X12_story_117L ) N) ih x6 x7 σ h
noncomputable def F_X12_story_0 (x1 : Int32) (x2 : Int32) (x3 : Int32) (σ : zSt) : Option (Int64 × zSt) :=
  bd (F_X12_in x1 (1 : Int32) (60 : Int32) σ) (fun q2 s1 =>
    if q2 = 0 then (
      F_X12_story_28  s1)
    else (
      if (s1.1 69 14) < x1 then (
        F_X12_story_28  s1)
      else (
        if (s1.1 69 4) ≤ (9987 : Int32) then (
          bd (F_X12_readsStory x1 s1) (fun q8 s7 =>
            if q8 = 0 then (
              some ((s7.1 69 17).toInt64, s7))
            else (
              bd (F_X12_arePlaces x2 s7) (fun q12 s11 =>
                if q12 = 0 then (
                  F_X12_story_64  s11)
                else (
                  bd (F_X12_in x3 (0 : Int32) (16 : Int32) s11) (fun q16 s15 =>
                    if q16 = 0 then (
                      F_X12_story_64  s15)
                    else (
                      bd (F_X12_goesThrough x2 s15) (fun q20 s19 =>
                        if (lg_cmp q20 (0 : Int64)) = 0 then (
                          some ((-2 : Int64), s19))
                        else (
                          if (16 : Int32) ≤ x3 then (
                            zfix (F_X12_story_117L ) zlim ((0 : Int32), (0 : Int32), s19))
                          else (
                            gd (vp_in (x3 % (8 : Int32)) 8) (
                              bd (F_X12_through (s19.2 101 (x3 % (8 : Int32)).toNatClampNeg) q20 (x3 / (8 : Int32)) s19) (fun q30 s29 =>
                                some (q30, s29)))))))))))))
        else (
          F_X12_story_28  s1))))
set_option maxHeartbeats 4000000 in
set_option maxRecDepth 100000 in
theorem p_X12_story_0 {G : zG} {C : zC} {r : Int64} {τ : zSt} (hR : zR G C (some .long) (some (.long r)) τ) (x1 : Int32) (x2 : Int32) (x3 : Int32) (σ : zSt) (h : F_X12_story_0 x1 x2 x3 σ = some (r, τ)) : zAW G 8 RX12 cX12_story 8 C 0 [(0, .ref (zad G 69)), (1, .int x1), (2, .int x2), (3, .int x3)] [] σ := by
  unfold F_X12_story_0 at h
  refine z_iload e_X12_story_0 1 rfl ?_
  refine z_ic e_X12_story_1 ?_
  refine z_ic e_X12_story_2 ?_
  obtain ⟨q2, s1, e3, h⟩ := bd_e h
  refine z_callSi (As := [.int x1, .int (1 : Int32), .int (60 : Int32)]) (rest := []) lk_X12_163 e_X12_story_4 (m_X12_in G x1 (1 : Int32) (60 : Int32) σ _ _ e3) (by decide) rfl (Nat.le_of_ble_eq_true rfl) ?_
  refine z_if_eq e_X12_story_7 h (fun c4 h => ?_) (fun c4 h => ?_)
  · exact z_sub [] rfl (p_X12_story_28 hR  s1 h)
  · refine z_iload e_X12_story_10 1 rfl ?_
    refine z_aload e_X12_story_11 0 rfl ?_
    refine z_geti gf_X12_186_69 e_X12_story_12 ?_
    refine z_icmp_gt e_X12_story_15 h (fun c5 h => ?_) (fun c5 h => ?_)
    · exact z_sub [] rfl (p_X12_story_28 hR  s1 h)
    · refine z_aload e_X12_story_18 0 rfl ?_
      refine z_geti gf_X12_307_69 e_X12_story_19 ?_
      refine z_ic e_X12_story_22 ?_
      refine z_icmp_le e_X12_story_25 h (fun c6 h => ?_) (fun c6 h => ?_)
      · refine z_aload e_X12_story_32 0 rfl ?_
        refine z_iload e_X12_story_33 1 rfl ?_
        obtain ⟨q8, s7, e9, h⟩ := bd_e h
        refine z_callVi (c0 := 69) (As := [.int x1]) (rest := []) lk_X12_441 ob_69 e_X12_story_34 (m_X12_readsStory G x1 s1 _ _ e9) (by decide) rfl (Nat.le_of_ble_eq_true rfl) ?_
        refine z_if_ne e_X12_story_37 h (fun c10 h => ?_) (fun c10 h => ?_)
        · refine z_aload e_X12_story_40 0 rfl ?_
          refine z_geti gf_X12_203_69 e_X12_story_41 ?_
          refine z_i2l e_X12_story_44 ?_
          cases h
          exact z_lreturn hR e_X12_story_45
        · refine z_aload e_X12_story_46 0 rfl ?_
          refine z_iload e_X12_story_47 2 rfl ?_
          obtain ⟨q12, s11, e13, h⟩ := bd_e h
          refine z_callVi (c0 := 69) (As := [.int x2]) (rest := []) lk_X12_444 ob_69 e_X12_story_48 (m_X12_arePlaces G x2 s7 _ _ e13) (by decide) rfl (Nat.le_of_ble_eq_true rfl) ?_
          refine z_if_eq e_X12_story_51 h (fun c14 h => ?_) (fun c14 h => ?_)
          · exact z_sub [] rfl (p_X12_story_64 hR  s11 h)
          · refine z_iload e_X12_story_54 3 rfl ?_
            refine z_ic e_X12_story_55 ?_
            refine z_ic e_X12_story_56 ?_
            obtain ⟨q16, s15, e17, h⟩ := bd_e h
            refine z_callSi (As := [.int x3, .int (0 : Int32), .int (16 : Int32)]) (rest := []) lk_X12_163 e_X12_story_58 (m_X12_in G x3 (0 : Int32) (16 : Int32) s11 _ _ e17) (by decide) rfl (Nat.le_of_ble_eq_true rfl) ?_
            refine z_if_ne e_X12_story_61 h (fun c18 h => ?_) (fun c18 h => ?_)
            · exact z_sub [] rfl (p_X12_story_64 hR  s15 h)
            · refine z_aload e_X12_story_68 0 rfl ?_
              refine z_iload e_X12_story_69 2 rfl ?_
              obtain ⟨q20, s19, e21, h⟩ := bd_e h
              refine z_callVl (c0 := 69) (As := [.int x2]) (rest := []) lk_X12_449 ob_69 e_X12_story_70 (m_X12_goesThrough G x2 s15 _ _ e21) (by decide) rfl (Nat.le_of_ble_eq_true rfl) ?_
              refine z_lstore e_X12_story_73 (by decide) [(4, .long q20), (0, .ref (zad G 69)), (1, .int x1), (2, .int x2), (3, .int x3)] rfl ?_
              refine z_lload e_X12_story_75 0 rfl ?_
              refine z_lconst 0 e_X12_story_77 rfl ?_
              refine z_lcmp e_X12_story_78 ?_
              refine z_if_ne e_X12_story_79 h (fun c22 h => ?_) (fun c22 h => ?_)
              · refine z_ldc2 cs_X12_453 e_X12_story_82 ?_
                cases h
                exact z_lreturn hR e_X12_story_85
              · refine z_iload e_X12_story_86 4 rfl ?_
                refine z_ic e_X12_story_87 ?_
                refine z_icmp_ge e_X12_story_89 h (fun c23 h => ?_) (fun c23 h => ?_)
                · refine z_ic e_X12_story_111 ?_
                  refine z_istore e_X12_story_112 (by decide) [(6, .int (0 : Int32)), (4, .long q20), (0, .ref (zad G 69)), (1, .int x1), (2, .int x2), (3, .int x3)] rfl ?_
                  refine z_ic e_X12_story_114 ?_
                  refine z_istore e_X12_story_115 (by decide) [(7, .int (0 : Int32)), (6, .int (0 : Int32)), (4, .long q20), (0, .ref (zad G 69)), (1, .int x1), (2, .int x2), (3, .int x3)] rfl ?_
                  exact z_sub [3, 1, 0] rfl (l_X12_story_117 hR  zlim (0 : Int32) (0 : Int32) s19 h)
                · refine z_aload e_X12_story_92 1 rfl ?_
                  refine z_getr gf_X12_104_69 e_X12_story_93 ?_
                  refine z_iload e_X12_story_96 4 rfl ?_
                  refine z_ic e_X12_story_97 ?_
                  refine z_irem e_X12_story_99 (by decide) ?_
                  refine z_lald sh_101 e_X12_story_100 h (fun h => ?_)
                  refine z_lload e_X12_story_101 0 rfl ?_
                  refine z_iload e_X12_story_103 4 rfl ?_
                  refine z_ic e_X12_story_104 ?_
                  refine z_idiv e_X12_story_106 (by decide) ?_
                  obtain ⟨q30, s29, e31, h⟩ := bd_e h
                  refine z_callSl (As := [.long (s19.2 101 (x3 % (8 : Int32)).toNatClampNeg), .long q20, .int (x3 / (8 : Int32))]) (rest := []) lk_X12_455 e_X12_story_107 (m_X12_through G (s19.2 101 (x3 % (8 : Int32)).toNatClampNeg) q20 (x3 / (8 : Int32)) s19 _ _ e31) (by decide) rfl (Nat.le_of_ble_eq_true rfl) ?_
                  cases h
                  exact z_lreturn hR e_X12_story_110
      · exact z_sub [] rfl (p_X12_story_28 hR  s1 h)
noncomputable def F_X12_story (x1 : Int32) (x2 : Int32) (x3 : Int32) (σ : zSt) : Option (Int64 × zSt) := F_X12_story_0 x1 x2 x3 σ
set_option maxRecDepth 100000 in
theorem m_X12_story (G : zG) (x1 : Int32) (x2 : Int32) (x3 : Int32) (σ : zSt) (q : Int64) (τ : zSt) (h : F_X12_story x1 x2 x3 σ = some (q, τ)) : zM G 8 yX12_story cX12_story 8 (some .long) [.ref (zad G 69), .int x1, .int x2, .int x3] σ (some (.long q)) τ := by
  unfold F_X12_story at h
  refine zM.of (own := RX12) (by decide +kernel) rfl (Nat.le_of_ble_eq_true rfl) (fun C hR => ?_)
  exact z_sub [0, 1, 2, 3] rfl (p_X12_story_0 hR x1 x2 x3 σ h)
noncomputable def F_X6_guessedBy_193 (w147 : (Int64 × Int32 × zSt) → Option (Int64 × zSt)) (x2 : Int64) (x4 : Int32) (x5 : Int64) (σ : zSt) : Option (Int64 × zSt) :=
  nm (x2 + x5) (fun v5 =>
    nm (x4 + (1 : Int32)) (fun v6 =>
      w147 (v5, v6, σ)))
set_option maxHeartbeats 4000000 in
set_option maxRecDepth 100000 in
theorem p_X6_guessedBy_193 {G : zG} {C : zC} {r : Int64} {τ : zSt} (hR : zR G C (some .long) (some (.long r)) τ) (w147 : (Int64 × Int32 × zSt) → Option (Int64 × zSt)) (x2 : Int64) (x4 : Int32) (x5 : Int64) (hw147 : ∀ (x2 : Int64) (x4 : Int32) (σ : zSt), w147 (x2, x4, σ) = some (r, τ) → zAW G 5 RX6 cX6_guessedBy 8 C 147 [(0, .ref (zad G 57)), (2, .long x2), (4, .int x4)] [] σ) (σ : zSt) (h : F_X6_guessedBy_193 w147 x2 x4 x5 σ = some (r, τ)) : zAW G 5 RX6 cX6_guessedBy 8 C 193 [(0, .ref (zad G 57)), (2, .long x2), (4, .int x4), (5, .long x5)] [] σ := by
  unfold F_X6_guessedBy_193 at h
  refine z_lload e_X6_guessedBy_193 1 rfl ?_
  refine z_lload e_X6_guessedBy_194 3 rfl ?_
  refine z_ladd e_X6_guessedBy_196 ?_
  refine z_nmL h (fun v5 h => ?_)
  refine z_lstore e_X6_guessedBy_197 (by decide) [(2, .long v5), (0, .ref (zad G 57)), (4, .int x4), (5, .long x5)] rfl ?_
  refine z_iinc e_X6_guessedBy_198 2 rfl (by decide) (by decide) h (fun y => [(4, .int y), (2, .long v5), (0, .ref (zad G 57)), (5, .long x5)]) (fun _ => rfl) (fun v6 h => ?_)
  refine z_goto e_X6_guessedBy_201 ?_
  exact z_sub [2, 1, 0] rfl (hw147 v5 v6 σ h)
noncomputable def F_X6_guessedBy_160 (w147 : (Int64 × Int32 × zSt) → Option (Int64 × zSt)) (x2 : Int64) (x4 : Int32) (w160 : (Int64 × Int32 × zSt) → Option (Int64 × zSt)) (x5 : Int64) (x7 : Int32) (σ : zSt) : Option (Int64 × zSt) :=
  if (8 : Int32) ≤ x7 then (
    F_X6_guessedBy_193 w147 x2 x4 x5 σ)
  else (
    gd (vp_in (((8 : Int32) * x4) + x7) 64) (
      nm (jmaxL x5 (σ.2 62 (((8 : Int32) * x4) + x7).toNatClampNeg)) (fun v7 =>
        nm (x7 + (1 : Int32)) (fun v8 =>
          w160 (v7, v8, σ)))))
set_option maxHeartbeats 4000000 in
set_option maxRecDepth 100000 in
theorem b_X6_guessedBy_160 {G : zG} {C : zC} {r : Int64} {τ : zSt} (hR : zR G C (some .long) (some (.long r)) τ) (w147 : (Int64 × Int32 × zSt) → Option (Int64 × zSt)) (x2 : Int64) (x4 : Int32) (hw147 : ∀ (x2 : Int64) (x4 : Int32) (σ : zSt), w147 (x2, x4, σ) = some (r, τ) → zAW G 5 RX6 cX6_guessedBy 8 C 147 [(0, .ref (zad G 57)), (2, .long x2), (4, .int x4)] [] σ) (w160 : (Int64 × Int32 × zSt) → Option (Int64 × zSt)) (hw160 : ∀ (x5 : Int64) (x7 : Int32) (σ : zSt), w160 (x5, x7, σ) = some (r, τ) → zAW G 5 RX6 cX6_guessedBy 8 C 160 [(0, .ref (zad G 57)), (2, .long x2), (4, .int x4), (5, .long x5), (7, .int x7)] [] σ) (x5 : Int64) (x7 : Int32) (σ : zSt) (h : F_X6_guessedBy_160 w147 x2 x4 w160 x5 x7 σ = some (r, τ)) : zAW G 5 RX6 cX6_guessedBy 8 C 160 [(0, .ref (zad G 57)), (2, .long x2), (4, .int x4), (5, .long x5), (7, .int x7)] [] σ := by
  unfold F_X6_guessedBy_160 at h
  refine z_iload e_X6_guessedBy_160 4 rfl ?_
  refine z_ic e_X6_guessedBy_162 ?_
  refine z_icmp_ge e_X6_guessedBy_164 h (fun c4 h => ?_) (fun c4 h => ?_)
  · exact z_sub [0, 1, 2, 3] rfl (p_X6_guessedBy_193 hR w147 x2 x4 x5 hw147 σ h)
  · refine z_lload e_X6_guessedBy_167 3 rfl ?_
    refine z_aload e_X6_guessedBy_169 0 rfl ?_
    refine z_getr gf_X6_25_57 e_X6_guessedBy_170 ?_
    refine z_ic e_X6_guessedBy_173 ?_
    refine z_iload e_X6_guessedBy_175 2 rfl ?_
    refine z_imul e_X6_guessedBy_177 ?_
    refine z_iload e_X6_guessedBy_178 4 rfl ?_
    refine z_iadd e_X6_guessedBy_180 ?_
    refine z_lald sh_62 e_X6_guessedBy_181 h (fun h => ?_)
    refine z_jmaxL mm_X6_126 (Nat.le_of_ble_eq_true rfl) (by decide) e_X6_guessedBy_182 ?_
    refine z_nmL h (fun v7 h => ?_)
    refine z_lstore e_X6_guessedBy_185 (by decide) [(5, .long v7), (0, .ref (zad G 57)), (2, .long x2), (4, .int x4), (7, .int x7)] rfl ?_
    refine z_iinc e_X6_guessedBy_187 4 rfl (by decide) (by decide) h (fun y => [(7, .int y), (5, .long v7), (0, .ref (zad G 57)), (2, .long x2), (4, .int x4)]) (fun _ => rfl) (fun v8 h => ?_)
    refine z_goto e_X6_guessedBy_190 ?_
    exact z_sub [2, 3, 4, 1, 0] rfl (hw160 v7 v8 σ h)
noncomputable def F_X6_guessedBy_160L (w147 : (Int64 × Int32 × zSt) → Option (Int64 × zSt)) (x2 : Int64) (x4 : Int32) : ((Int64 × Int32 × zSt) → Option (Int64 × zSt)) → (Int64 × Int32 × zSt) → Option (Int64 × zSt) := fun w s => F_X6_guessedBy_160 w147 x2 x4 w s.1 s.2.1 s.2.2
set_option maxRecDepth 100000 in
theorem l_X6_guessedBy_160 {G : zG} {C : zC} {r : Int64} {τ : zSt} (hR : zR G C (some .long) (some (.long r)) τ) (w147 : (Int64 × Int32 × zSt) → Option (Int64 × zSt)) (x2 : Int64) (x4 : Int32) (hw147 : ∀ (x2 : Int64) (x4 : Int32) (σ : zSt), w147 (x2, x4, σ) = some (r, τ) → zAW G 5 RX6 cX6_guessedBy 8 C 147 [(0, .ref (zad G 57)), (2, .long x2), (4, .int x4)] [] σ) : ∀ (N : Nat) (x5 : Int64) (x7 : Int32) (σ : zSt), zfix (F_X6_guessedBy_160L w147 x2 x4) N (x5, x7, σ) = some (r, τ) → zAW G 5 RX6 cX6_guessedBy 8 C 160 [(0, .ref (zad G 57)), (2, .long x2), (4, .int x4), (5, .long x5), (7, .int x7)] [] σ := by
  intro N
  induction N with
  | zero =>
    intro x5 x7 σ h
    exact nomatch (show (none : Option (Int64 × zSt)) = some (r, τ) from h)
  | succ N ih =>
    intro x5 x7 σ h
    exact b_X6_guessedBy_160 hR w147 x2 x4 hw147 (zfix (F_X6_guessedBy_160L w147 x2 x4) N) ih x5 x7 σ h
noncomputable def F_X6_guessedBy_147 (w147 : (Int64 × Int32 × zSt) → Option (Int64 × zSt)) (x2 : Int64) (x4 : Int32) (σ : zSt) : Option (Int64 × zSt) :=
  if (8 : Int32) ≤ x4 then (
    some (x2, σ))
  else (
    zfix (F_X6_guessedBy_160L w147 x2 x4) zlim ((0 : Int64), (0 : Int32), σ))
set_option maxHeartbeats 4000000 in
set_option maxRecDepth 100000 in
theorem b_X6_guessedBy_147 {G : zG} {C : zC} {r : Int64} {τ : zSt} (hR : zR G C (some .long) (some (.long r)) τ) (w147 : (Int64 × Int32 × zSt) → Option (Int64 × zSt)) (hw147 : ∀ (x2 : Int64) (x4 : Int32) (σ : zSt), w147 (x2, x4, σ) = some (r, τ) → zAW G 5 RX6 cX6_guessedBy 8 C 147 [(0, .ref (zad G 57)), (2, .long x2), (4, .int x4)] [] σ) (x2 : Int64) (x4 : Int32) (σ : zSt) (h : F_X6_guessedBy_147 w147 x2 x4 σ = some (r, τ)) : zAW G 5 RX6 cX6_guessedBy 8 C 147 [(0, .ref (zad G 57)), (2, .long x2), (4, .int x4)] [] σ := by
  unfold F_X6_guessedBy_147 at h
  refine z_iload e_X6_guessedBy_147 2 rfl ?_
  refine z_ic e_X6_guessedBy_149 ?_
  refine z_icmp_ge e_X6_guessedBy_151 h (fun c3 h => ?_) (fun c3 h => ?_)
  · refine z_lload e_X6_guessedBy_204 1 rfl ?_
    cases h
    exact z_lreturn hR e_X6_guessedBy_205
  · refine z_lconst 0 e_X6_guessedBy_154 rfl ?_
    refine z_lstore e_X6_guessedBy_155 (by decide) [(5, .long (0 : Int64)), (0, .ref (zad G 57)), (2, .long x2), (4, .int x4)] rfl ?_
    refine z_ic e_X6_guessedBy_157 ?_
    refine z_istore e_X6_guessedBy_158 (by decide) [(7, .int (0 : Int32)), (5, .long (0 : Int64)), (0, .ref (zad G 57)), (2, .long x2), (4, .int x4)] rfl ?_
    exact z_sub [2, 3, 4, 1, 0] rfl (l_X6_guessedBy_160 hR w147 x2 x4 hw147 zlim (0 : Int64) (0 : Int32) σ h)
noncomputable def F_X6_guessedBy_147L  : ((Int64 × Int32 × zSt) → Option (Int64 × zSt)) → (Int64 × Int32 × zSt) → Option (Int64 × zSt) := fun w s => F_X6_guessedBy_147 w s.1 s.2.1 s.2.2
set_option maxRecDepth 100000 in
theorem l_X6_guessedBy_147 {G : zG} {C : zC} {r : Int64} {τ : zSt} (hR : zR G C (some .long) (some (.long r)) τ)  : ∀ (N : Nat) (x2 : Int64) (x4 : Int32) (σ : zSt), zfix (F_X6_guessedBy_147L ) N (x2, x4, σ) = some (r, τ) → zAW G 5 RX6 cX6_guessedBy 8 C 147 [(0, .ref (zad G 57)), (2, .long x2), (4, .int x4)] [] σ := by
  intro N
  induction N with
  | zero =>
    intro x2 x4 σ h
    exact nomatch (show (none : Option (Int64 × zSt)) = some (r, τ) from h)
  | succ N ih =>
    intro x2 x4 σ h
    exact b_X6_guessedBy_147 hR (zfix (F_X6_guessedBy_147L ) N) ih x2 x4 σ h
noncomputable def F_X6_guessedBy_142 (σ : zSt) : Option (Int64 × zSt) :=
  zfix (F_X6_guessedBy_147L ) zlim ((0 : Int64), (0 : Int32), σ)
set_option maxHeartbeats 4000000 in
set_option maxRecDepth 100000 in
theorem p_X6_guessedBy_142 {G : zG} {C : zC} {r : Int64} {τ : zSt} (hR : zR G C (some .long) (some (.long r)) τ)  (σ : zSt) (h : F_X6_guessedBy_142 σ = some (r, τ)) : zAW G 5 RX6 cX6_guessedBy 8 C 142 [(0, .ref (zad G 57))] [] σ := by
  unfold F_X6_guessedBy_142 at h
  refine z_lconst 0 e_X6_guessedBy_142 rfl ?_
  refine z_lstore e_X6_guessedBy_143 (by decide) [(2, .long (0 : Int64)), (0, .ref (zad G 57))] rfl ?_
  refine z_ic e_X6_guessedBy_144 ?_
  refine z_istore e_X6_guessedBy_145 (by decide) [(4, .int (0 : Int32)), (2, .long (0 : Int64)), (0, .ref (zad G 57))] rfl ?_
  exact z_sub [2, 1, 0] rfl (l_X6_guessedBy_147 hR  zlim (0 : Int64) (0 : Int32) σ h)
noncomputable def F_X6_guessedBy_136 (w23 : (Int32 × zSt) → Option (Int64 × zSt)) (x1 : Int32) (x2 : Int32) (σ : zSt) : Option (Int64 × zSt) :=
  nm (x2 + (1 : Int32)) (fun v13 =>
    w23 (v13, σ))
set_option maxHeartbeats 4000000 in
set_option maxRecDepth 100000 in
theorem p_X6_guessedBy_136 {G : zG} {C : zC} {r : Int64} {τ : zSt} (hR : zR G C (some .long) (some (.long r)) τ) (w23 : (Int32 × zSt) → Option (Int64 × zSt)) (x1 : Int32) (x2 : Int32) (hw23 : ∀ (x2 : Int32) (σ : zSt), w23 (x2, σ) = some (r, τ) → zAW G 5 RX6 cX6_guessedBy 8 C 23 [(0, .ref (zad G 57)), (1, .int x1), (2, .int x2)] [] σ) (σ : zSt) (h : F_X6_guessedBy_136 w23 x1 x2 σ = some (r, τ)) : zAW G 5 RX6 cX6_guessedBy 8 C 136 [(0, .ref (zad G 57)), (1, .int x1), (2, .int x2)] [] σ := by
  unfold F_X6_guessedBy_136 at h
  refine z_iinc e_X6_guessedBy_136 2 rfl (by decide) (by decide) h (fun y => [(2, .int y), (0, .ref (zad G 57)), (1, .int x1)]) (fun _ => rfl) (fun v13 h => ?_)
  refine z_goto e_X6_guessedBy_139 ?_
  exact z_sub [1, 2, 0] rfl (hw23 v13 σ h)
noncomputable def F_X6_guessedBy_130 (w23 : (Int32 × zSt) → Option (Int64 × zSt)) (w31 : (Int32 × zSt) → Option (Int64 × zSt)) (x1 : Int32) (x2 : Int32) (x3 : Int32) (σ : zSt) : Option (Int64 × zSt) :=
  nm (x3 + (1 : Int32)) (fun v25 =>
    w31 (v25, σ))
set_option maxHeartbeats 4000000 in
set_option maxRecDepth 100000 in
theorem p_X6_guessedBy_130 {G : zG} {C : zC} {r : Int64} {τ : zSt} (hR : zR G C (some .long) (some (.long r)) τ) (w23 : (Int32 × zSt) → Option (Int64 × zSt)) (w31 : (Int32 × zSt) → Option (Int64 × zSt)) (x1 : Int32) (x2 : Int32) (x3 : Int32) (hw23 : ∀ (x2 : Int32) (σ : zSt), w23 (x2, σ) = some (r, τ) → zAW G 5 RX6 cX6_guessedBy 8 C 23 [(0, .ref (zad G 57)), (1, .int x1), (2, .int x2)] [] σ) (hw31 : ∀ (x3 : Int32) (σ : zSt), w31 (x3, σ) = some (r, τ) → zAW G 5 RX6 cX6_guessedBy 8 C 31 [(0, .ref (zad G 57)), (1, .int x1), (2, .int x2), (3, .int x3)] [] σ) (σ : zSt) (h : F_X6_guessedBy_130 w23 w31 x1 x2 x3 σ = some (r, τ)) : zAW G 5 RX6 cX6_guessedBy 8 C 130 [(0, .ref (zad G 57)), (1, .int x1), (2, .int x2), (3, .int x3)] [] σ := by
  unfold F_X6_guessedBy_130 at h
  refine z_iinc e_X6_guessedBy_130 3 rfl (by decide) (by decide) h (fun y => [(3, .int y), (0, .ref (zad G 57)), (1, .int x1), (2, .int x2)]) (fun _ => rfl) (fun v25 h => ?_)
  refine z_goto e_X6_guessedBy_133 ?_
  exact z_sub [1, 2, 3, 0] rfl (hw31 v25 σ h)
noncomputable def F_X6_guessedBy_31 (w23 : (Int32 × zSt) → Option (Int64 × zSt)) (x1 : Int32) (x2 : Int32) (w31 : (Int32 × zSt) → Option (Int64 × zSt)) (x3 : Int32) (σ : zSt) : Option (Int64 × zSt) :=
  bd (F_X6_draws σ) (fun q10 s9 =>
    if q10 ≤ x3 then (
      F_X6_guessedBy_136 w23 x1 x2 s9)
    else (
      gd (vp_in x2 8) (
        if (lg_cmp (s9.2 60 x2.toNatClampNeg) (0 : Int64)) ≤ 0 then (
          F_X6_guessedBy_136 w23 x1 x2 s9)
        else (
          bd (F_X6_turnTo (s9.1 57 5) s9) (fun _ s15 =>
            bd (F_X3_passFrom x2 x1 x3 s15) (fun _ s18 =>
              bd (F_X11_isBelow (s18.1 24 5) (8 : Int32) s18) (fun q22 s21 =>
                if q22 = 0 then (
                  F_X6_guessedBy_130 w23 w31 x1 x2 x3 s21)
                else (
                  bd (F_X11_isBelow (s21.1 24 3) (8 : Int32) s21) (fun q27 s26 =>
                    if q27 = 0 then (
                      F_X6_guessedBy_130 w23 w31 x1 x2 x3 s26)
                    else (
                      gd (vp_in (((8 : Int32) * (s26.1 24 5)) + (s26.1 24 3)) 64) (
                        gd (vp_in x2 8) (
                          gd (vp_in (((8 : Int32) * (s26.1 24 5)) + (s26.1 24 3)) 64) (nm (zwrL s26 62 (((8 : Int32) * (s26.1 24 5)) + (s26.1 24 3)).toNatClampNeg ((s26.2 62 (((8 : Int32) * (s26.1 24 5)) + (s26.1 24 3)).toNatClampNeg) + (s26.2 60 x2.toNatClampNeg))) (fun s30 =>
                            F_X6_guessedBy_130 w23 w31 x1 x2 x3 s30))))))))))))))
set_option maxHeartbeats 4000000 in
set_option maxRecDepth 100000 in
theorem b_X6_guessedBy_31 {G : zG} {C : zC} {r : Int64} {τ : zSt} (hR : zR G C (some .long) (some (.long r)) τ) (w23 : (Int32 × zSt) → Option (Int64 × zSt)) (x1 : Int32) (x2 : Int32) (hw23 : ∀ (x2 : Int32) (σ : zSt), w23 (x2, σ) = some (r, τ) → zAW G 5 RX6 cX6_guessedBy 8 C 23 [(0, .ref (zad G 57)), (1, .int x1), (2, .int x2)] [] σ) (w31 : (Int32 × zSt) → Option (Int64 × zSt)) (hw31 : ∀ (x3 : Int32) (σ : zSt), w31 (x3, σ) = some (r, τ) → zAW G 5 RX6 cX6_guessedBy 8 C 31 [(0, .ref (zad G 57)), (1, .int x1), (2, .int x2), (3, .int x3)] [] σ) (x3 : Int32) (σ : zSt) (h : F_X6_guessedBy_31 w23 x1 x2 w31 x3 σ = some (r, τ)) : zAW G 5 RX6 cX6_guessedBy 8 C 31 [(0, .ref (zad G 57)), (1, .int x1), (2, .int x2), (3, .int x3)] [] σ := by
  unfold F_X6_guessedBy_31 at h
  refine z_iload e_X6_guessedBy_31 3 rfl ?_
  refine z_aload e_X6_guessedBy_32 0 rfl ?_
  obtain ⟨q10, s9, e11, h⟩ := bd_e h
  refine z_callVi (c0 := 57) (As := []) (rest := [.int x3]) lk_X6_91 ob_57 e_X6_guessedBy_33 (m_X6_draws G σ _ _ e11) (by decide) rfl (Nat.le_of_ble_eq_true rfl) ?_
  refine z_icmp_ge e_X6_guessedBy_36 h (fun c12 h => ?_) (fun c12 h => ?_)
  · exact z_sub [0, 1, 2] rfl (p_X6_guessedBy_136 hR w23 x1 x2 hw23 s9 h)
  · refine z_aload e_X6_guessedBy_39 0 rfl ?_
    refine z_getr gf_X6_18_57 e_X6_guessedBy_40 ?_
    refine z_iload e_X6_guessedBy_43 2 rfl ?_
    refine z_lald sh_60 e_X6_guessedBy_44 h (fun h => ?_)
    refine z_lconst 0 e_X6_guessedBy_45 rfl ?_
    refine z_lcmp e_X6_guessedBy_46 ?_
    refine z_if_le e_X6_guessedBy_47 h (fun c14 h => ?_) (fun c14 h => ?_)
    · exact z_sub [0, 1, 2] rfl (p_X6_guessedBy_136 hR w23 x1 x2 hw23 s9 h)
    · refine z_aload e_X6_guessedBy_50 0 rfl ?_
      refine z_aload e_X6_guessedBy_51 0 rfl ?_
      refine z_geti gf_X6_40_57 e_X6_guessedBy_52 ?_
      obtain ⟨q16, s15, e17, h⟩ := bd_e h
      refine z_callVv (c0 := 57) (As := [.int (s9.1 57 5)]) (rest := []) lk_X6_94 ob_57 e_X6_guessedBy_55 (m_X6_turnTo G (s9.1 57 5) s9 _ _ e17) (by decide) rfl (Nat.le_of_ble_eq_true rfl) ?_
      refine z_aload e_X6_guessedBy_58 0 rfl ?_
      refine z_getr gf_X6_36_57 e_X6_guessedBy_59 ?_
      refine z_iload e_X6_guessedBy_62 2 rfl ?_
      refine z_iload e_X6_guessedBy_63 1 rfl ?_
      refine z_iload e_X6_guessedBy_64 3 rfl ?_
      obtain ⟨q19, s18, e20, h⟩ := bd_e h
      refine z_callVv (c0 := 24) (As := [.int x2, .int x1, .int x3]) (rest := []) lk_X6_97 ob_24 e_X6_guessedBy_65 (m_X3_passFrom G x2 x1 x3 s15 _ _ e20) (by decide) rfl (Nat.le_of_ble_eq_true rfl) ?_
      refine z_aload e_X6_guessedBy_68 0 rfl ?_
      refine z_getr gf_X6_36_57 e_X6_guessedBy_69 ?_
      refine z_geti gf_X6_103_24 e_X6_guessedBy_72 ?_
      refine z_ic e_X6_guessedBy_75 ?_
      obtain ⟨q22, s21, e23, h⟩ := bd_e h
      refine z_callNi (As := [.int (s18.1 24 5), .int (8 : Int32)]) (rest := []) lk_X6_71 e_X6_guessedBy_77 (m_X11_isBelow G (s18.1 24 5) (8 : Int32) s18 _ _ e23) (by decide) rfl (Nat.le_of_ble_eq_true rfl) ?_
      refine z_if_eq e_X6_guessedBy_80 h (fun c24 h => ?_) (fun c24 h => ?_)
      · exact z_sub [0, 1, 2, 3] rfl (p_X6_guessedBy_130 hR w23 w31 x1 x2 x3 hw23 hw31 s21 h)
      · refine z_aload e_X6_guessedBy_83 0 rfl ?_
        refine z_getr gf_X6_36_57 e_X6_guessedBy_84 ?_
        refine z_geti gf_X6_105_24 e_X6_guessedBy_87 ?_
        refine z_ic e_X6_guessedBy_90 ?_
        obtain ⟨q27, s26, e28, h⟩ := bd_e h
        refine z_callNi (As := [.int (s21.1 24 3), .int (8 : Int32)]) (rest := []) lk_X6_71 e_X6_guessedBy_92 (m_X11_isBelow G (s21.1 24 3) (8 : Int32) s21 _ _ e28) (by decide) rfl (Nat.le_of_ble_eq_true rfl) ?_
        refine z_if_eq e_X6_guessedBy_95 h (fun c29 h => ?_) (fun c29 h => ?_)
        · exact z_sub [0, 1, 2, 3] rfl (p_X6_guessedBy_130 hR w23 w31 x1 x2 x3 hw23 hw31 s26 h)
        · refine z_aload e_X6_guessedBy_98 0 rfl ?_
          refine z_getr gf_X6_25_57 e_X6_guessedBy_99 ?_
          refine z_ic e_X6_guessedBy_102 ?_
          refine z_aload e_X6_guessedBy_104 0 rfl ?_
          refine z_getr gf_X6_36_57 e_X6_guessedBy_105 ?_
          refine z_geti gf_X6_103_24 e_X6_guessedBy_108 ?_
          refine z_imul e_X6_guessedBy_111 ?_
          refine z_aload e_X6_guessedBy_112 0 rfl ?_
          refine z_getr gf_X6_36_57 e_X6_guessedBy_113 ?_
          refine z_geti gf_X6_105_24 e_X6_guessedBy_116 ?_
          refine z_iadd e_X6_guessedBy_119 ?_
          refine z_dup2 e_X6_guessedBy_120 rfl rfl ?_
          refine z_lald sh_62 e_X6_guessedBy_121 h (fun h => ?_)
          refine z_aload e_X6_guessedBy_122 0 rfl ?_
          refine z_getr gf_X6_18_57 e_X6_guessedBy_123 ?_
          refine z_iload e_X6_guessedBy_126 2 rfl ?_
          refine z_lald sh_60 e_X6_guessedBy_127 h (fun h => ?_)
          refine z_ladd e_X6_guessedBy_128 ?_
          refine z_last sh_62 e_X6_guessedBy_129 h (fun s30 h => ?_)
          exact z_sub [0, 1, 2, 3] rfl (p_X6_guessedBy_130 hR w23 w31 x1 x2 x3 hw23 hw31 s30 h)
noncomputable def F_X6_guessedBy_31L (w23 : (Int32 × zSt) → Option (Int64 × zSt)) (x1 : Int32) (x2 : Int32) : ((Int32 × zSt) → Option (Int64 × zSt)) → (Int32 × zSt) → Option (Int64 × zSt) := fun w s => F_X6_guessedBy_31 w23 x1 x2 w s.1 s.2
set_option maxRecDepth 100000 in
theorem l_X6_guessedBy_31 {G : zG} {C : zC} {r : Int64} {τ : zSt} (hR : zR G C (some .long) (some (.long r)) τ) (w23 : (Int32 × zSt) → Option (Int64 × zSt)) (x1 : Int32) (x2 : Int32) (hw23 : ∀ (x2 : Int32) (σ : zSt), w23 (x2, σ) = some (r, τ) → zAW G 5 RX6 cX6_guessedBy 8 C 23 [(0, .ref (zad G 57)), (1, .int x1), (2, .int x2)] [] σ) : ∀ (N : Nat) (x3 : Int32) (σ : zSt), zfix (F_X6_guessedBy_31L w23 x1 x2) N (x3, σ) = some (r, τ) → zAW G 5 RX6 cX6_guessedBy 8 C 31 [(0, .ref (zad G 57)), (1, .int x1), (2, .int x2), (3, .int x3)] [] σ := by
  intro N
  induction N with
  | zero =>
    intro x3 σ h
    exact nomatch (show (none : Option (Int64 × zSt)) = some (r, τ) from h)
  | succ N ih =>
    intro x3 σ h
    exact b_X6_guessedBy_31 hR w23 x1 x2 hw23 (zfix (F_X6_guessedBy_31L w23 x1 x2) N) ih x3 σ h
noncomputable def F_X6_guessedBy_23 (x1 : Int32) (w23 : (Int32 × zSt) → Option (Int64 × zSt)) (x2 : Int32) (σ : zSt) : Option (Int64 × zSt) :=
  if (8 : Int32) ≤ x2 then (
    F_X6_guessedBy_142  σ)
  else (
    zfix (F_X6_guessedBy_31L w23 x1 x2) zlim ((0 : Int32), σ))
set_option maxHeartbeats 4000000 in
set_option maxRecDepth 100000 in
theorem b_X6_guessedBy_23 {G : zG} {C : zC} {r : Int64} {τ : zSt} (hR : zR G C (some .long) (some (.long r)) τ) (x1 : Int32) (w23 : (Int32 × zSt) → Option (Int64 × zSt)) (hw23 : ∀ (x2 : Int32) (σ : zSt), w23 (x2, σ) = some (r, τ) → zAW G 5 RX6 cX6_guessedBy 8 C 23 [(0, .ref (zad G 57)), (1, .int x1), (2, .int x2)] [] σ) (x2 : Int32) (σ : zSt) (h : F_X6_guessedBy_23 x1 w23 x2 σ = some (r, τ)) : zAW G 5 RX6 cX6_guessedBy 8 C 23 [(0, .ref (zad G 57)), (1, .int x1), (2, .int x2)] [] σ := by
  unfold F_X6_guessedBy_23 at h
  refine z_iload e_X6_guessedBy_23 2 rfl ?_
  refine z_ic e_X6_guessedBy_24 ?_
  refine z_icmp_ge e_X6_guessedBy_26 h (fun c2 h => ?_) (fun c2 h => ?_)
  · exact z_sub [0] rfl (p_X6_guessedBy_142 hR  σ h)
  · refine z_ic e_X6_guessedBy_29 ?_
    refine z_istore e_X6_guessedBy_30 (by decide) [(3, .int (0 : Int32)), (0, .ref (zad G 57)), (1, .int x1), (2, .int x2)] rfl ?_
    exact z_sub [1, 2, 3, 0] rfl (l_X6_guessedBy_31 hR w23 x1 x2 hw23 zlim (0 : Int32) σ h)
noncomputable def F_X6_guessedBy_23L (x1 : Int32) : ((Int32 × zSt) → Option (Int64 × zSt)) → (Int32 × zSt) → Option (Int64 × zSt) := fun w s => F_X6_guessedBy_23 x1 w s.1 s.2
set_option maxRecDepth 100000 in
theorem l_X6_guessedBy_23 {G : zG} {C : zC} {r : Int64} {τ : zSt} (hR : zR G C (some .long) (some (.long r)) τ) (x1 : Int32) : ∀ (N : Nat) (x2 : Int32) (σ : zSt), zfix (F_X6_guessedBy_23L x1) N (x2, σ) = some (r, τ) → zAW G 5 RX6 cX6_guessedBy 8 C 23 [(0, .ref (zad G 57)), (1, .int x1), (2, .int x2)] [] σ := by
  intro N
  induction N with
  | zero =>
    intro x2 σ h
    exact nomatch (show (none : Option (Int64 × zSt)) = some (r, τ) from h)
  | succ N ih =>
    intro x2 σ h
    exact b_X6_guessedBy_23 hR x1 (zfix (F_X6_guessedBy_23L x1) N) ih x2 σ h
noncomputable def F_X6_guessedBy_21 (x1 : Int32) (σ : zSt) : Option (Int64 × zSt) :=
  zfix (F_X6_guessedBy_23L x1) zlim ((0 : Int32), σ)
set_option maxHeartbeats 4000000 in
set_option maxRecDepth 100000 in
theorem p_X6_guessedBy_21 {G : zG} {C : zC} {r : Int64} {τ : zSt} (hR : zR G C (some .long) (some (.long r)) τ) (x1 : Int32) (σ : zSt) (h : F_X6_guessedBy_21 x1 σ = some (r, τ)) : zAW G 5 RX6 cX6_guessedBy 8 C 21 [(0, .ref (zad G 57)), (1, .int x1)] [] σ := by
  unfold F_X6_guessedBy_21 at h
  refine z_ic e_X6_guessedBy_21 ?_
  refine z_istore e_X6_guessedBy_22 (by decide) [(2, .int (0 : Int32)), (0, .ref (zad G 57)), (1, .int x1)] rfl ?_
  exact z_sub [1, 2, 0] rfl (l_X6_guessedBy_23 hR x1 zlim (0 : Int32) σ h)
noncomputable def F_X6_guessedBy_2 (x1 : Int32) (w2 : (Int32 × zSt) → Option (Int64 × zSt)) (x2 : Int32) (σ : zSt) : Option (Int64 × zSt) :=
  if (64 : Int32) ≤ x2 then (
    F_X6_guessedBy_21 x1 σ)
  else (
    gd (vp_in x2 64) (nm (zwrL σ 62 x2.toNatClampNeg (0 : Int64)) (fun s31 =>
      nm (x2 + (1 : Int32)) (fun v32 =>
        w2 (v32, s31)))))
set_option maxHeartbeats 4000000 in
set_option maxRecDepth 100000 in
theorem b_X6_guessedBy_2 {G : zG} {C : zC} {r : Int64} {τ : zSt} (hR : zR G C (some .long) (some (.long r)) τ) (x1 : Int32) (w2 : (Int32 × zSt) → Option (Int64 × zSt)) (hw2 : ∀ (x2 : Int32) (σ : zSt), w2 (x2, σ) = some (r, τ) → zAW G 5 RX6 cX6_guessedBy 8 C 2 [(0, .ref (zad G 57)), (1, .int x1), (2, .int x2)] [] σ) (x2 : Int32) (σ : zSt) (h : F_X6_guessedBy_2 x1 w2 x2 σ = some (r, τ)) : zAW G 5 RX6 cX6_guessedBy 8 C 2 [(0, .ref (zad G 57)), (1, .int x1), (2, .int x2)] [] σ := by
  unfold F_X6_guessedBy_2 at h
  refine z_iload e_X6_guessedBy_2 2 rfl ?_
  refine z_ic e_X6_guessedBy_3 ?_
  refine z_icmp_ge e_X6_guessedBy_5 h (fun c1 h => ?_) (fun c1 h => ?_)
  · exact z_sub [0, 1] rfl (p_X6_guessedBy_21 hR x1 σ h)
  · refine z_aload e_X6_guessedBy_8 0 rfl ?_
    refine z_getr gf_X6_25_57 e_X6_guessedBy_9 ?_
    refine z_iload e_X6_guessedBy_12 2 rfl ?_
    refine z_lconst 0 e_X6_guessedBy_13 rfl ?_
    refine z_last sh_62 e_X6_guessedBy_14 h (fun s31 h => ?_)
    refine z_iinc e_X6_guessedBy_15 2 rfl (by decide) (by decide) h (fun y => [(2, .int y), (0, .ref (zad G 57)), (1, .int x1)]) (fun _ => rfl) (fun v32 h => ?_)
    refine z_goto e_X6_guessedBy_18 ?_
    exact z_sub [1, 2, 0] rfl (hw2 v32 s31 h)
noncomputable def F_X6_guessedBy_2L (x1 : Int32) : ((Int32 × zSt) → Option (Int64 × zSt)) → (Int32 × zSt) → Option (Int64 × zSt) := fun w s => F_X6_guessedBy_2 x1 w s.1 s.2
set_option maxRecDepth 100000 in
theorem l_X6_guessedBy_2 {G : zG} {C : zC} {r : Int64} {τ : zSt} (hR : zR G C (some .long) (some (.long r)) τ) (x1 : Int32) : ∀ (N : Nat) (x2 : Int32) (σ : zSt), zfix (F_X6_guessedBy_2L x1) N (x2, σ) = some (r, τ) → zAW G 5 RX6 cX6_guessedBy 8 C 2 [(0, .ref (zad G 57)), (1, .int x1), (2, .int x2)] [] σ := by
  intro N
  induction N with
  | zero =>
    intro x2 σ h
    exact nomatch (show (none : Option (Int64 × zSt)) = some (r, τ) from h)
  | succ N ih =>
    intro x2 σ h
    exact b_X6_guessedBy_2 hR x1 (zfix (F_X6_guessedBy_2L x1) N) ih x2 σ h
noncomputable def F_X6_guessedBy_0 (x1 : Int32) (σ : zSt) : Option (Int64 × zSt) :=
  zfix (F_X6_guessedBy_2L x1) zlim ((0 : Int32), σ)
set_option maxHeartbeats 4000000 in
set_option maxRecDepth 100000 in
theorem p_X6_guessedBy_0 {G : zG} {C : zC} {r : Int64} {τ : zSt} (hR : zR G C (some .long) (some (.long r)) τ) (x1 : Int32) (σ : zSt) (h : F_X6_guessedBy_0 x1 σ = some (r, τ)) : zAW G 5 RX6 cX6_guessedBy 8 C 0 [(0, .ref (zad G 57)), (1, .int x1)] [] σ := by
  unfold F_X6_guessedBy_0 at h
  refine z_ic e_X6_guessedBy_0 ?_
  refine z_istore e_X6_guessedBy_1 (by decide) [(2, .int (0 : Int32)), (0, .ref (zad G 57)), (1, .int x1)] rfl ?_
  exact z_sub [1, 2, 0] rfl (l_X6_guessedBy_2 hR x1 zlim (0 : Int32) σ h)
noncomputable def F_X6_guessedBy (x1 : Int32) (σ : zSt) : Option (Int64 × zSt) := F_X6_guessedBy_0 x1 σ
set_option maxRecDepth 100000 in
theorem m_X6_guessedBy (G : zG) (x1 : Int32) (σ : zSt) (q : Int64) (τ : zSt) (h : F_X6_guessedBy x1 σ = some (q, τ)) : zM G 5 yX6_guessedBy cX6_guessedBy 8 (some .long) [.ref (zad G 57), .int x1] σ (some (.long q)) τ := by
  unfold F_X6_guessedBy at h
  refine zM.of (own := RX6) (by decide +kernel) rfl (Nat.le_of_ble_eq_true rfl) (fun C hR => ?_)
  exact z_sub [0, 1] rfl (p_X6_guessedBy_0 hR x1 σ h)
noncomputable def F_X6_bestDust_64 (x2 : Int32) (x3 : Int64) (x5 : Int32) (x6 : Int64) (σ : zSt) : Option (Int64 × zSt) :=
  if x2 = 0 then (
    some (x5.toInt64, σ))
  else (
    bd (F_X6_draws σ) (fun q8 s7 =>
      nm (x3 * q8.toInt64) (fun v10 =>
        nm (if x2 = (1 : Int32) then x6 else v10) (fun v11 =>
          bd (F_X11_commonDivisor x6 v10 s7) (fun q13 s12 =>
            gd (¬ q13 = 0) (
              some ((v11 / q13), s12)))))))
set_option maxHeartbeats 4000000 in
set_option maxRecDepth 100000 in
theorem p_X6_bestDust_64 {G : zG} {C : zC} {r : Int64} {τ : zSt} (hR : zR G C (some .long) (some (.long r)) τ) (x2 : Int32) (x3 : Int64) (x5 : Int32) (x6 : Int64) (σ : zSt) (h : F_X6_bestDust_64 x2 x3 x5 x6 σ = some (r, τ)) : zAW G 7 RX6 cX6_bestDust 11 C 64 [(0, .ref (zad G 57)), (2, .int x2), (3, .long x3), (5, .int x5), (6, .long x6)] [] σ := by
  unfold F_X6_bestDust_64 at h
  refine z_iload e_X6_bestDust_64 1 rfl ?_
  refine z_if_ne e_X6_bestDust_65 h (fun c6 h => ?_) (fun c6 h => ?_)
  · refine z_iload e_X6_bestDust_68 3 rfl ?_
    refine z_i2l e_X6_bestDust_70 ?_
    cases h
    exact z_lreturn hR e_X6_bestDust_71
  · refine z_lload e_X6_bestDust_72 2 rfl ?_
    refine z_aload e_X6_bestDust_73 0 rfl ?_
    obtain ⟨q8, s7, e9, h⟩ := bd_e h
    refine z_callVi (c0 := 57) (As := []) (rest := [.long x3]) lk_X6_91 ob_57 e_X6_bestDust_74 (m_X6_draws G σ _ _ e9) (by decide) rfl (Nat.le_of_ble_eq_true rfl) ?_
    refine z_i2l e_X6_bestDust_77 ?_
    refine z_lmul e_X6_bestDust_78 ?_
    refine z_nmL h (fun v10 h => ?_)
    refine z_lstore e_X6_bestDust_79 (by decide) [(8, .long v10), (0, .ref (zad G 57)), (2, .int x2), (3, .long x3), (5, .int x5), (6, .long x6)] rfl ?_
    refine z_iload e_X6_bestDust_81 2 rfl ?_
    refine z_ic e_X6_bestDust_82 ?_
    obtain ⟨v11, ev11, h⟩ := nm_i h
    have jv11 : zAW G 7 RX6 cX6_bestDust 11 C 93 [(6, .long x6), (8, .long v10)] [.long v11] s7 := by
      refine z_lload e_X6_bestDust_93 0 rfl ?_
      refine z_lload e_X6_bestDust_95 1 rfl ?_
      obtain ⟨q13, s12, e14, h⟩ := bd_e h
      refine z_callNl (As := [.long x6, .long v10]) (rest := [.long v11]) lk_X6_77 e_X6_bestDust_97 (m_X11_commonDivisor G x6 v10 s7 _ _ e14) (by decide) rfl (Nat.le_of_ble_eq_true rfl) ?_
      obtain ⟨hy15, h⟩ := gd_e h
      refine z_ldiv e_X6_bestDust_100 hy15 ?_
      cases h
      exact z_lreturn hR e_X6_bestDust_101
    refine y_icmp_ne e_X6_bestDust_83 (fun c16 => ?_) (fun c16 => ?_)
    · refine z_lload e_X6_bestDust_86 5 rfl ?_
      refine z_goto e_X6_bestDust_88 ?_
      rw [if_pos c16] at ev11
      subst ev11
      exact z_sub [5, 0] rfl jv11
    · refine z_lload e_X6_bestDust_91 0 rfl ?_
      rw [if_neg c16] at ev11
      subst ev11
      exact z_sub [5, 0] rfl jv11
noncomputable def F_X6_bestDust_27 (x2 : Int32) (x3 : Int64) (w27 : (Int32 × Int64 × Int32 × zSt) → Option (Int64 × zSt)) (x5 : Int32) (x6 : Int64) (x8 : Int32) (σ : zSt) : Option (Int64 × zSt) :=
  if (8 : Int32) < x8 then (
    F_X6_bestDust_64 x2 x3 x5 x6 σ)
  else (
    bd (F_X6_guessedBy x8 σ) (fun q18 s17 =>
      nm (if (lg_cmp q18 x6) ≤ 0 then x5 else x8) (fun v20 =>
        nm (if (lg_cmp q18 x6) ≤ 0 then x6 else q18) (fun v21 =>
          nm (x8 + (1 : Int32)) (fun v22 =>
            w27 (v20, v21, v22, s17))))))
set_option maxHeartbeats 4000000 in
set_option maxRecDepth 100000 in
theorem b_X6_bestDust_27 {G : zG} {C : zC} {r : Int64} {τ : zSt} (hR : zR G C (some .long) (some (.long r)) τ) (x2 : Int32) (x3 : Int64) (w27 : (Int32 × Int64 × Int32 × zSt) → Option (Int64 × zSt)) (hw27 : ∀ (x5 : Int32) (x6 : Int64) (x8 : Int32) (σ : zSt), w27 (x5, x6, x8, σ) = some (r, τ) → zAW G 7 RX6 cX6_bestDust 11 C 27 [(0, .ref (zad G 57)), (2, .int x2), (3, .long x3), (5, .int x5), (6, .long x6), (8, .int x8)] [] σ) (x5 : Int32) (x6 : Int64) (x8 : Int32) (σ : zSt) (h : F_X6_bestDust_27 x2 x3 w27 x5 x6 x8 σ = some (r, τ)) : zAW G 7 RX6 cX6_bestDust 11 C 27 [(0, .ref (zad G 57)), (2, .int x2), (3, .long x3), (5, .int x5), (6, .long x6), (8, .int x8)] [] σ := by
  unfold F_X6_bestDust_27 at h
  refine z_iload e_X6_bestDust_27 5 rfl ?_
  refine z_ic e_X6_bestDust_29 ?_
  refine z_icmp_gt e_X6_bestDust_31 h (fun c5 h => ?_) (fun c5 h => ?_)
  · exact z_sub [0, 1, 2, 3, 4] rfl (p_X6_bestDust_64 hR x2 x3 x5 x6 σ h)
  · refine z_aload e_X6_bestDust_34 0 rfl ?_
    refine z_iload e_X6_bestDust_35 5 rfl ?_
    obtain ⟨q18, s17, e19, h⟩ := bd_e h
    refine z_callVl (c0 := 57) (As := [.int x8]) (rest := []) lk_X6_123 ob_57 e_X6_bestDust_37 (m_X6_guessedBy G x8 σ _ _ e19) (by decide) rfl (Nat.le_of_ble_eq_true rfl) ?_
    refine z_lstore e_X6_bestDust_40 (by decide) [(9, .long q18), (0, .ref (zad G 57)), (2, .int x2), (3, .long x3), (5, .int x5), (6, .long x6), (8, .int x8)] rfl ?_
    refine z_lload e_X6_bestDust_42 0 rfl ?_
    refine z_lload e_X6_bestDust_44 5 rfl ?_
    refine z_lcmp e_X6_bestDust_46 ?_
    obtain ⟨v20, ev20, h⟩ := nm_i h
    obtain ⟨v21, ev21, h⟩ := nm_i h
    have jv20 : zAW G 7 RX6 cX6_bestDust 11 C 58 [(0, .ref (zad G 57)), (2, .int x2), (3, .long x3), (5, .int v20), (6, .long v21), (8, .int x8)] [] s17 := by
      refine z_iinc e_X6_bestDust_58 5 rfl (by decide) (by decide) h (fun y => [(8, .int y), (0, .ref (zad G 57)), (2, .int x2), (3, .long x3), (5, .int v20), (6, .long v21)]) (fun _ => rfl) (fun v22 h => ?_)
      refine z_goto e_X6_bestDust_61 ?_
      exact z_sub [1, 2, 3, 4, 5, 0] rfl (hw27 v20 v21 v22 s17 h)
    refine y_if_le e_X6_bestDust_47 (fun c23 => ?_) (fun c23 => ?_)
    · rw [if_pos c23] at ev20
      rw [if_pos c23] at ev21
      subst ev20
      subst ev21
      exact z_sub [1, 2, 3, 4, 5, 6] rfl jv20
    · refine z_lload e_X6_bestDust_50 0 rfl ?_
      refine z_lstore e_X6_bestDust_52 (by decide) [(6, .long q18), (9, .long q18), (0, .ref (zad G 57)), (2, .int x2), (3, .long x3), (5, .int x5), (8, .int x8)] rfl ?_
      refine z_iload e_X6_bestDust_54 6 rfl ?_
      refine z_istore e_X6_bestDust_56 (by decide) [(5, .int x8), (6, .long q18), (9, .long q18), (0, .ref (zad G 57)), (2, .int x2), (3, .long x3), (8, .int x8)] rfl ?_
      rw [if_neg c23] at ev20
      rw [if_neg c23] at ev21
      subst ev20
      subst ev21
      exact z_sub [3, 4, 5, 0, 1, 6] rfl jv20
noncomputable def F_X6_bestDust_27L (x2 : Int32) (x3 : Int64) : ((Int32 × Int64 × Int32 × zSt) → Option (Int64 × zSt)) → (Int32 × Int64 × Int32 × zSt) → Option (Int64 × zSt) := fun w s => F_X6_bestDust_27 x2 x3 w s.1 s.2.1 s.2.2.1 s.2.2.2
set_option maxRecDepth 100000 in
theorem l_X6_bestDust_27 {G : zG} {C : zC} {r : Int64} {τ : zSt} (hR : zR G C (some .long) (some (.long r)) τ) (x2 : Int32) (x3 : Int64) : ∀ (N : Nat) (x5 : Int32) (x6 : Int64) (x8 : Int32) (σ : zSt), zfix (F_X6_bestDust_27L x2 x3) N (x5, x6, x8, σ) = some (r, τ) → zAW G 7 RX6 cX6_bestDust 11 C 27 [(0, .ref (zad G 57)), (2, .int x2), (3, .long x3), (5, .int x5), (6, .long x6), (8, .int x8)] [] σ := by
  intro N
  induction N with
  | zero =>
    intro x5 x6 x8 σ h
    exact nomatch (show (none : Option (Int64 × zSt)) = some (r, τ) from h)
  | succ N ih =>
    intro x5 x6 x8 σ h
    exact b_X6_bestDust_27 hR x2 x3 (zfix (F_X6_bestDust_27L x2 x3) N) ih x5 x6 x8 σ h
noncomputable def F_X6_bestDust_0 (x1 : Int32) (x2 : Int32) (σ : zSt) : Option (Int64 × zSt) :=
  bd (F_X6_weigh x1 σ) (fun q2 s1 =>
    if (lg_cmp q2 (0 : Int64)) = 0 then (
      some ((-2 : Int64), s1))
    else (
      zfix (F_X6_bestDust_27L x2 q2) zlim ((0 : Int32), (-1 : Int64), (0 : Int32), s1)))
set_option maxHeartbeats 4000000 in
set_option maxRecDepth 100000 in
theorem p_X6_bestDust_0 {G : zG} {C : zC} {r : Int64} {τ : zSt} (hR : zR G C (some .long) (some (.long r)) τ) (x1 : Int32) (x2 : Int32) (σ : zSt) (h : F_X6_bestDust_0 x1 x2 σ = some (r, τ)) : zAW G 7 RX6 cX6_bestDust 11 C 0 [(0, .ref (zad G 57)), (1, .int x1), (2, .int x2)] [] σ := by
  unfold F_X6_bestDust_0 at h
  refine z_aload e_X6_bestDust_0 0 rfl ?_
  refine z_iload e_X6_bestDust_1 1 rfl ?_
  obtain ⟨q2, s1, e3, h⟩ := bd_e h
  refine z_callVl (c0 := 57) (As := [.int x1]) (rest := []) lk_X6_61 ob_57 e_X6_bestDust_2 (m_X6_weigh G x1 σ _ _ e3) (by decide) rfl (Nat.le_of_ble_eq_true rfl) ?_
  refine z_lstore e_X6_bestDust_5 (by decide) [(3, .long q2), (0, .ref (zad G 57)), (1, .int x1), (2, .int x2)] rfl ?_
  refine z_lload e_X6_bestDust_6 0 rfl ?_
  refine z_lconst 0 e_X6_bestDust_7 rfl ?_
  refine z_lcmp e_X6_bestDust_8 ?_
  refine z_if_ne e_X6_bestDust_9 h (fun c4 h => ?_) (fun c4 h => ?_)
  · refine z_ldc2 cs_X6_65 e_X6_bestDust_12 ?_
    cases h
    exact z_lreturn hR e_X6_bestDust_15
  · refine z_ic e_X6_bestDust_16 ?_
    refine z_istore e_X6_bestDust_17 (by decide) [(5, .int (0 : Int32)), (3, .long q2), (0, .ref (zad G 57)), (1, .int x1), (2, .int x2)] rfl ?_
    refine z_ldc2 cs_X6_75 e_X6_bestDust_19 ?_
    refine z_lstore e_X6_bestDust_22 (by decide) [(6, .long (-1 : Int64)), (5, .int (0 : Int32)), (3, .long q2), (0, .ref (zad G 57)), (1, .int x1), (2, .int x2)] rfl ?_
    refine z_ic e_X6_bestDust_24 ?_
    refine z_istore e_X6_bestDust_25 (by decide) [(8, .int (0 : Int32)), (6, .long (-1 : Int64)), (5, .int (0 : Int32)), (3, .long q2), (0, .ref (zad G 57)), (1, .int x1), (2, .int x2)] rfl ?_
    exact z_sub [4, 6, 3, 2, 1, 0] rfl (l_X6_bestDust_27 hR x2 q2 zlim (0 : Int32) (-1 : Int64) (0 : Int32) s1 h)
noncomputable def F_X6_bestDust (x1 : Int32) (x2 : Int32) (σ : zSt) : Option (Int64 × zSt) := F_X6_bestDust_0 x1 x2 σ
set_option maxRecDepth 100000 in
theorem m_X6_bestDust (G : zG) (x1 : Int32) (x2 : Int32) (σ : zSt) (q : Int64) (τ : zSt) (h : F_X6_bestDust x1 x2 σ = some (q, τ)) : zM G 7 yX6_bestDust cX6_bestDust 11 (some .long) [.ref (zad G 57), .int x1, .int x2] σ (some (.long q)) τ := by
  unfold F_X6_bestDust at h
  refine zM.of (own := RX6) (by decide +kernel) rfl (Nat.le_of_ble_eq_true rfl) (fun C hR => ?_)
  exact z_sub [0, 1, 2] rfl (p_X6_bestDust_0 hR x1 x2 σ h)
noncomputable def F_X11_toDust_0 (x1 : Int32) (x2 : Int32) (x3 : Int32) (σ : zSt) : Option (Int64 × zSt) :=
  bd (F_X11_isBelow x3 (3 : Int32) σ) (fun q2 s1 =>
    bd (F_X11_refusedStory x1 x2 q2 s1) (fun q5 s4 =>
      if q5 = 0 then (
        bd (F_X6_bestDust x2 x3 s4) (fun q9 s8 =>
          some (q9, s8)))
      else (
        some (q5.toInt64, s4))))
set_option maxHeartbeats 4000000 in
set_option maxRecDepth 100000 in
theorem p_X11_toDust_0 {G : zG} {C : zC} {r : Int64} {τ : zSt} (hR : zR G C (some .long) (some (.long r)) τ) (x1 : Int32) (x2 : Int32) (x3 : Int32) (σ : zSt) (h : F_X11_toDust_0 x1 x2 x3 σ = some (r, τ)) : zAW G 8 RX11 cX11_toDust 5 C 0 [(0, .ref (zad G 0)), (1, .int x1), (2, .int x2), (3, .int x3)] [] σ := by
  unfold F_X11_toDust_0 at h
  refine z_aload e_X11_toDust_0 0 rfl ?_
  refine z_iload e_X11_toDust_1 1 rfl ?_
  refine z_iload e_X11_toDust_2 2 rfl ?_
  refine z_iload e_X11_toDust_3 3 rfl ?_
  refine z_ic e_X11_toDust_4 ?_
  obtain ⟨q2, s1, e3, h⟩ := bd_e h
  refine z_callSi (As := [.int x3, .int (3 : Int32)]) (rest := [.int x2, .int x1, .ref (zad G 0)]) lk_X11_104 e_X11_toDust_5 (m_X11_isBelow G x3 (3 : Int32) σ _ _ e3) (by decide) rfl (Nat.le_of_ble_eq_true rfl) ?_
  obtain ⟨q5, s4, e6, h⟩ := bd_e h
  refine z_callVi (c0 := 0) (As := [.int x1, .int x2, .int q2]) (rest := []) lk_X11_227 ob_0 e_X11_toDust_8 (m_X11_refusedStory G x1 x2 q2 s1 _ _ e6) (by decide) rfl (Nat.le_of_ble_eq_true rfl) ?_
  refine z_istore e_X11_toDust_11 (by decide) [(4, .int q5), (0, .ref (zad G 0)), (1, .int x1), (2, .int x2), (3, .int x3)] rfl ?_
  refine z_iload e_X11_toDust_13 0 rfl ?_
  refine z_if_eq e_X11_toDust_15 h (fun c7 h => ?_) (fun c7 h => ?_)
  · refine z_aload e_X11_toDust_24 1 rfl ?_
    refine z_getr gf_X11_79_0 e_X11_toDust_25 ?_
    refine z_iload e_X11_toDust_28 3 rfl ?_
    refine z_iload e_X11_toDust_29 4 rfl ?_
    obtain ⟨q9, s8, e10, h⟩ := bd_e h
    refine z_callVl (c0 := 57) (As := [.int x2, .int x3]) (rest := []) lk_X11_235 ob_57 e_X11_toDust_30 (m_X6_bestDust G x2 x3 s4 _ _ e10) (by decide) rfl (Nat.le_of_ble_eq_true rfl) ?_
    cases h
    exact z_lreturn hR e_X11_toDust_33
  · refine z_iload e_X11_toDust_18 0 rfl ?_
    refine z_i2l e_X11_toDust_20 ?_
    refine z_goto e_X11_toDust_21 ?_
    cases h
    exact z_lreturn hR e_X11_toDust_33
noncomputable def F_X11_toDust (x1 : Int32) (x2 : Int32) (x3 : Int32) (σ : zSt) : Option (Int64 × zSt) := F_X11_toDust_0 x1 x2 x3 σ
set_option maxRecDepth 100000 in
theorem m_X11_toDust (G : zG) (x1 : Int32) (x2 : Int32) (x3 : Int32) (σ : zSt) (q : Int64) (τ : zSt) (h : F_X11_toDust x1 x2 x3 σ = some (q, τ)) : zM G 8 yX11_toDust cX11_toDust 5 (some .long) [.ref (zad G 0), .int x1, .int x2, .int x3] σ (some (.long q)) τ := by
  unfold F_X11_toDust at h
  refine zM.of (own := RX11) (by decide +kernel) rfl (Nat.le_of_ble_eq_true rfl) (fun C hR => ?_)
  exact z_sub [0, 1, 2, 3] rfl (p_X11_toDust_0 hR x1 x2 x3 σ h)
noncomputable def F_X12_guessed_95 (w30 : (Int64 × Int32 × zSt) → Option (Int64 × zSt)) (x2 : Int64) (x4 : Int32) (x5 : Int64) (σ : zSt) : Option (Int64 × zSt) :=
  nm (x2 + x5) (fun v6 =>
    nm (x4 + (1 : Int32)) (fun v7 =>
      w30 (v6, v7, σ)))
set_option maxHeartbeats 4000000 in
set_option maxRecDepth 100000 in
theorem p_X12_guessed_95 {G : zG} {C : zC} {r : Int64} {τ : zSt} (hR : zR G C (some .long) (some (.long r)) τ) (w30 : (Int64 × Int32 × zSt) → Option (Int64 × zSt)) (x2 : Int64) (x4 : Int32) (x5 : Int64) (hw30 : ∀ (x2 : Int64) (x4 : Int32) (σ : zSt), w30 (x2, x4, σ) = some (r, τ) → zAW G 7 RX12 cX12_guessed 8 C 30 [(0, .ref (zad G 69)), (2, .long x2), (4, .int x4)] [] σ) (σ : zSt) (h : F_X12_guessed_95 w30 x2 x4 x5 σ = some (r, τ)) : zAW G 7 RX12 cX12_guessed 8 C 95 [(0, .ref (zad G 69)), (2, .long x2), (4, .int x4), (5, .long x5)] [] σ := by
  unfold F_X12_guessed_95 at h
  refine z_lload e_X12_guessed_95 1 rfl ?_
  refine z_lload e_X12_guessed_96 3 rfl ?_
  refine z_ladd e_X12_guessed_98 ?_
  refine z_nmL h (fun v6 h => ?_)
  refine z_lstore e_X12_guessed_99 (by decide) [(2, .long v6), (0, .ref (zad G 69)), (4, .int x4), (5, .long x5)] rfl ?_
  refine z_iinc e_X12_guessed_100 2 rfl (by decide) (by decide) h (fun y => [(4, .int y), (2, .long v6), (0, .ref (zad G 69)), (5, .long x5)]) (fun _ => rfl) (fun v7 h => ?_)
  refine z_goto e_X12_guessed_103 ?_
  exact z_sub [2, 1, 0] rfl (hw30 v6 v7 σ h)
noncomputable def F_X12_guessed_87 (w30 : (Int64 × Int32 × zSt) → Option (Int64 × zSt)) (w43 : (Int64 × Int32 × zSt) → Option (Int64 × zSt)) (x2 : Int64) (x4 : Int32) (x7 : Int32) (t0 : Int64) (σ : zSt) : Option (Int64 × zSt) :=
  nm (x7 + (1 : Int32)) (fun v9 =>
    w43 (t0, v9, σ))
set_option maxHeartbeats 4000000 in
set_option maxRecDepth 100000 in
theorem p_X12_guessed_87 {G : zG} {C : zC} {r : Int64} {τ : zSt} (hR : zR G C (some .long) (some (.long r)) τ) (w30 : (Int64 × Int32 × zSt) → Option (Int64 × zSt)) (w43 : (Int64 × Int32 × zSt) → Option (Int64 × zSt)) (x2 : Int64) (x4 : Int32) (x7 : Int32) (t0 : Int64) (hw30 : ∀ (x2 : Int64) (x4 : Int32) (σ : zSt), w30 (x2, x4, σ) = some (r, τ) → zAW G 7 RX12 cX12_guessed 8 C 30 [(0, .ref (zad G 69)), (2, .long x2), (4, .int x4)] [] σ) (hw43 : ∀ (x5 : Int64) (x7 : Int32) (σ : zSt), w43 (x5, x7, σ) = some (r, τ) → zAW G 7 RX12 cX12_guessed 8 C 43 [(0, .ref (zad G 69)), (2, .long x2), (4, .int x4), (5, .long x5), (7, .int x7)] [] σ) (σ : zSt) (h : F_X12_guessed_87 w30 w43 x2 x4 x7 t0 σ = some (r, τ)) : zAW G 7 RX12 cX12_guessed 8 C 87 [(0, .ref (zad G 69)), (2, .long x2), (4, .int x4), (7, .int x7)] [.long t0] σ := by
  unfold F_X12_guessed_87 at h
  refine z_lstore e_X12_guessed_87 (by decide) [(5, .long t0), (0, .ref (zad G 69)), (2, .long x2), (4, .int x4), (7, .int x7)] rfl ?_
  refine z_iinc e_X12_guessed_89 4 rfl (by decide) (by decide) h (fun y => [(7, .int y), (5, .long t0), (0, .ref (zad G 69)), (2, .long x2), (4, .int x4)]) (fun _ => rfl) (fun v9 h => ?_)
  refine z_goto e_X12_guessed_92 ?_
  exact z_sub [2, 3, 4, 1, 0] rfl (hw43 t0 v9 σ h)
noncomputable def F_X12_guessed_43 (w30 : (Int64 × Int32 × zSt) → Option (Int64 × zSt)) (x2 : Int64) (x4 : Int32) (w43 : (Int64 × Int32 × zSt) → Option (Int64 × zSt)) (x5 : Int64) (x7 : Int32) (σ : zSt) : Option (Int64 × zSt) :=
  if (8 : Int32) ≤ x7 then (
    F_X12_guessed_95 w30 x2 x4 x5 σ)
  else (
    gd (vp_in (((8 : Int32) * x4) + x7) 64) (
      if (lg_cmp (σ.2 102 (((8 : Int32) * x4) + x7).toNatClampNeg) x5) ≤ 0 then (
        F_X12_guessed_87 w30 w43 x2 x4 x7 x5 σ)
      else (
        gd (vp_in (((8 : Int32) * x4) + x7) 64) (
          F_X12_guessed_87 w30 w43 x2 x4 x7 (σ.2 102 (((8 : Int32) * x4) + x7).toNatClampNeg) σ))))
set_option maxHeartbeats 4000000 in
set_option maxRecDepth 100000 in
theorem b_X12_guessed_43 {G : zG} {C : zC} {r : Int64} {τ : zSt} (hR : zR G C (some .long) (some (.long r)) τ) (w30 : (Int64 × Int32 × zSt) → Option (Int64 × zSt)) (x2 : Int64) (x4 : Int32) (hw30 : ∀ (x2 : Int64) (x4 : Int32) (σ : zSt), w30 (x2, x4, σ) = some (r, τ) → zAW G 7 RX12 cX12_guessed 8 C 30 [(0, .ref (zad G 69)), (2, .long x2), (4, .int x4)] [] σ) (w43 : (Int64 × Int32 × zSt) → Option (Int64 × zSt)) (hw43 : ∀ (x5 : Int64) (x7 : Int32) (σ : zSt), w43 (x5, x7, σ) = some (r, τ) → zAW G 7 RX12 cX12_guessed 8 C 43 [(0, .ref (zad G 69)), (2, .long x2), (4, .int x4), (5, .long x5), (7, .int x7)] [] σ) (x5 : Int64) (x7 : Int32) (σ : zSt) (h : F_X12_guessed_43 w30 x2 x4 w43 x5 x7 σ = some (r, τ)) : zAW G 7 RX12 cX12_guessed 8 C 43 [(0, .ref (zad G 69)), (2, .long x2), (4, .int x4), (5, .long x5), (7, .int x7)] [] σ := by
  unfold F_X12_guessed_43 at h
  refine z_iload e_X12_guessed_43 4 rfl ?_
  refine z_ic e_X12_guessed_45 ?_
  refine z_icmp_ge e_X12_guessed_47 h (fun c5 h => ?_) (fun c5 h => ?_)
  · exact z_sub [0, 1, 2, 3] rfl (p_X12_guessed_95 hR w30 x2 x4 x5 hw30 σ h)
  · refine z_aload e_X12_guessed_50 0 rfl ?_
    refine z_getr gf_X12_108_69 e_X12_guessed_51 ?_
    refine z_ic e_X12_guessed_54 ?_
    refine z_iload e_X12_guessed_56 2 rfl ?_
    refine z_imul e_X12_guessed_58 ?_
    refine z_iload e_X12_guessed_59 4 rfl ?_
    refine z_iadd e_X12_guessed_61 ?_
    refine z_lald sh_102 e_X12_guessed_62 h (fun h => ?_)
    refine z_lload e_X12_guessed_63 3 rfl ?_
    refine z_lcmp e_X12_guessed_65 ?_
    refine z_if_le e_X12_guessed_66 h (fun c8 h => ?_) (fun c8 h => ?_)
    · refine z_lload e_X12_guessed_85 3 rfl ?_
      exact z_sub [0, 1, 2, 4] rfl (p_X12_guessed_87 hR w30 w43 x2 x4 x7 x5 hw30 hw43 σ h)
    · refine z_aload e_X12_guessed_69 0 rfl ?_
      refine z_getr gf_X12_108_69 e_X12_guessed_70 ?_
      refine z_ic e_X12_guessed_73 ?_
      refine z_iload e_X12_guessed_75 2 rfl ?_
      refine z_imul e_X12_guessed_77 ?_
      refine z_iload e_X12_guessed_78 4 rfl ?_
      refine z_iadd e_X12_guessed_80 ?_
      refine z_lald sh_102 e_X12_guessed_81 h (fun h => ?_)
      refine z_goto e_X12_guessed_82 ?_
      exact z_sub [0, 1, 2, 4] rfl (p_X12_guessed_87 hR w30 w43 x2 x4 x7 (σ.2 102 (((8 : Int32) * x4) + x7).toNatClampNeg) hw30 hw43 σ h)
noncomputable def F_X12_guessed_43L (w30 : (Int64 × Int32 × zSt) → Option (Int64 × zSt)) (x2 : Int64) (x4 : Int32) : ((Int64 × Int32 × zSt) → Option (Int64 × zSt)) → (Int64 × Int32 × zSt) → Option (Int64 × zSt) := fun w s => F_X12_guessed_43 w30 x2 x4 w s.1 s.2.1 s.2.2
set_option maxRecDepth 100000 in
theorem l_X12_guessed_43 {G : zG} {C : zC} {r : Int64} {τ : zSt} (hR : zR G C (some .long) (some (.long r)) τ) (w30 : (Int64 × Int32 × zSt) → Option (Int64 × zSt)) (x2 : Int64) (x4 : Int32) (hw30 : ∀ (x2 : Int64) (x4 : Int32) (σ : zSt), w30 (x2, x4, σ) = some (r, τ) → zAW G 7 RX12 cX12_guessed 8 C 30 [(0, .ref (zad G 69)), (2, .long x2), (4, .int x4)] [] σ) : ∀ (N : Nat) (x5 : Int64) (x7 : Int32) (σ : zSt), zfix (F_X12_guessed_43L w30 x2 x4) N (x5, x7, σ) = some (r, τ) → zAW G 7 RX12 cX12_guessed 8 C 43 [(0, .ref (zad G 69)), (2, .long x2), (4, .int x4), (5, .long x5), (7, .int x7)] [] σ := by
  intro N
  induction N with
  | zero =>
    intro x5 x7 σ h
    exact nomatch (show (none : Option (Int64 × zSt)) = some (r, τ) from h)
  | succ N ih =>
    intro x5 x7 σ h
    exact b_X12_guessed_43 hR w30 x2 x4 hw30 (zfix (F_X12_guessed_43L w30 x2 x4) N) ih x5 x7 σ h
noncomputable def F_X12_guessed_30 (w30 : (Int64 × Int32 × zSt) → Option (Int64 × zSt)) (x2 : Int64) (x4 : Int32) (σ : zSt) : Option (Int64 × zSt) :=
  if (8 : Int32) ≤ x4 then (
    some (x2, σ))
  else (
    zfix (F_X12_guessed_43L w30 x2 x4) zlim ((0 : Int64), (0 : Int32), σ))
set_option maxHeartbeats 4000000 in
set_option maxRecDepth 100000 in
theorem b_X12_guessed_30 {G : zG} {C : zC} {r : Int64} {τ : zSt} (hR : zR G C (some .long) (some (.long r)) τ) (w30 : (Int64 × Int32 × zSt) → Option (Int64 × zSt)) (hw30 : ∀ (x2 : Int64) (x4 : Int32) (σ : zSt), w30 (x2, x4, σ) = some (r, τ) → zAW G 7 RX12 cX12_guessed 8 C 30 [(0, .ref (zad G 69)), (2, .long x2), (4, .int x4)] [] σ) (x2 : Int64) (x4 : Int32) (σ : zSt) (h : F_X12_guessed_30 w30 x2 x4 σ = some (r, τ)) : zAW G 7 RX12 cX12_guessed 8 C 30 [(0, .ref (zad G 69)), (2, .long x2), (4, .int x4)] [] σ := by
  unfold F_X12_guessed_30 at h
  refine z_iload e_X12_guessed_30 2 rfl ?_
  refine z_ic e_X12_guessed_32 ?_
  refine z_icmp_ge e_X12_guessed_34 h (fun c4 h => ?_) (fun c4 h => ?_)
  · refine z_lload e_X12_guessed_106 1 rfl ?_
    cases h
    exact z_lreturn hR e_X12_guessed_107
  · refine z_lconst 0 e_X12_guessed_37 rfl ?_
    refine z_lstore e_X12_guessed_38 (by decide) [(5, .long (0 : Int64)), (0, .ref (zad G 69)), (2, .long x2), (4, .int x4)] rfl ?_
    refine z_ic e_X12_guessed_40 ?_
    refine z_istore e_X12_guessed_41 (by decide) [(7, .int (0 : Int32)), (5, .long (0 : Int64)), (0, .ref (zad G 69)), (2, .long x2), (4, .int x4)] rfl ?_
    exact z_sub [2, 3, 4, 1, 0] rfl (l_X12_guessed_43 hR w30 x2 x4 hw30 zlim (0 : Int64) (0 : Int32) σ h)
noncomputable def F_X12_guessed_30L  : ((Int64 × Int32 × zSt) → Option (Int64 × zSt)) → (Int64 × Int32 × zSt) → Option (Int64 × zSt) := fun w s => F_X12_guessed_30 w s.1 s.2.1 s.2.2
set_option maxRecDepth 100000 in
theorem l_X12_guessed_30 {G : zG} {C : zC} {r : Int64} {τ : zSt} (hR : zR G C (some .long) (some (.long r)) τ)  : ∀ (N : Nat) (x2 : Int64) (x4 : Int32) (σ : zSt), zfix (F_X12_guessed_30L ) N (x2, x4, σ) = some (r, τ) → zAW G 7 RX12 cX12_guessed 8 C 30 [(0, .ref (zad G 69)), (2, .long x2), (4, .int x4)] [] σ := by
  intro N
  induction N with
  | zero =>
    intro x2 x4 σ h
    exact nomatch (show (none : Option (Int64 × zSt)) = some (r, τ) from h)
  | succ N ih =>
    intro x2 x4 σ h
    exact b_X12_guessed_30 hR (zfix (F_X12_guessed_30L ) N) ih x2 x4 σ h
noncomputable def F_X12_guessed_0 (x1 : Int32) (σ : zSt) : Option (Int64 × zSt) :=
  gd (vp_in ((σ.1 69 54) - (1 : Int32)) 12) (
    bd (F_X12_spreads ((σ.1 69 4) + (σ.1 69 54)) x1 (σ.1 100 ((σ.1 69 54) - (1 : Int32)).toNatClampNeg) σ) (fun _ s1 =>
      zfix (F_X12_guessed_30L ) zlim ((0 : Int64), (0 : Int32), s1)))
set_option maxHeartbeats 4000000 in
set_option maxRecDepth 100000 in
theorem p_X12_guessed_0 {G : zG} {C : zC} {r : Int64} {τ : zSt} (hR : zR G C (some .long) (some (.long r)) τ) (x1 : Int32) (σ : zSt) (h : F_X12_guessed_0 x1 σ = some (r, τ)) : zAW G 7 RX12 cX12_guessed 8 C 0 [(0, .ref (zad G 69)), (1, .int x1)] [] σ := by
  unfold F_X12_guessed_0 at h
  refine z_aload e_X12_guessed_0 0 rfl ?_
  refine z_aload e_X12_guessed_1 0 rfl ?_
  refine z_geti gf_X12_307_69 e_X12_guessed_2 ?_
  refine z_aload e_X12_guessed_5 0 rfl ?_
  refine z_geti gf_X12_425_69 e_X12_guessed_6 ?_
  refine z_iadd e_X12_guessed_9 ?_
  refine z_iload e_X12_guessed_10 1 rfl ?_
  refine z_aload e_X12_guessed_11 0 rfl ?_
  refine z_getr gf_X12_101_69 e_X12_guessed_12 ?_
  refine z_aload e_X12_guessed_15 0 rfl ?_
  refine z_geti gf_X12_425_69 e_X12_guessed_16 ?_
  refine z_ic e_X12_guessed_19 ?_
  refine z_isub e_X12_guessed_20 ?_
  refine z_iald sh_100 e_X12_guessed_21 h (fun h => ?_)
  obtain ⟨q2, s1, e3, h⟩ := bd_e h
  refine z_callVv (c0 := 69) (As := [.int ((σ.1 69 4) + (σ.1 69 54)), .int x1, .int (σ.1 100 ((σ.1 69 54) - (1 : Int32)).toNatClampNeg)]) (rest := []) lk_X12_431 ob_69 e_X12_guessed_22 (m_X12_spreads G ((σ.1 69 4) + (σ.1 69 54)) x1 (σ.1 100 ((σ.1 69 54) - (1 : Int32)).toNatClampNeg) σ _ _ e3) (by decide) rfl (Nat.le_of_ble_eq_true rfl) ?_
  refine z_lconst 0 e_X12_guessed_25 rfl ?_
  refine z_lstore e_X12_guessed_26 (by decide) [(2, .long (0 : Int64)), (0, .ref (zad G 69)), (1, .int x1)] rfl ?_
  refine z_ic e_X12_guessed_27 ?_
  refine z_istore e_X12_guessed_28 (by decide) [(4, .int (0 : Int32)), (2, .long (0 : Int64)), (0, .ref (zad G 69)), (1, .int x1)] rfl ?_
  exact z_sub [2, 1, 0] rfl (l_X12_guessed_30 hR  zlim (0 : Int64) (0 : Int32) s1 h)
noncomputable def F_X12_guessed (x1 : Int32) (σ : zSt) : Option (Int64 × zSt) := F_X12_guessed_0 x1 σ
set_option maxRecDepth 100000 in
theorem m_X12_guessed (G : zG) (x1 : Int32) (σ : zSt) (q : Int64) (τ : zSt) (h : F_X12_guessed x1 σ = some (q, τ)) : zM G 7 yX12_guessed cX12_guessed 8 (some .long) [.ref (zad G 69), .int x1] σ (some (.long q)) τ := by
  unfold F_X12_guessed at h
  refine zM.of (own := RX12) (by decide +kernel) rfl (Nat.le_of_ble_eq_true rfl) (fun C hR => ?_)
  exact z_sub [0, 1] rfl (p_X12_guessed_0 hR x1 σ h)
noncomputable def F_X12_toDust_28 (σ : zSt) : Option (Int64 × zSt) :=
  some ((-1 : Int64), σ)
set_option maxHeartbeats 4000000 in
set_option maxRecDepth 100000 in
theorem p_X12_toDust_28 {G : zG} {C : zC} {r : Int64} {τ : zSt} (hR : zR G C (some .long) (some (.long r)) τ)  (σ : zSt) (h : F_X12_toDust_28 σ = some (r, τ)) : zAW G 8 RX12 cX12_toDust 12 C 28 [] [] σ := by
  unfold F_X12_toDust_28 at h
  refine z_ldc2 cs_X12_439 e_X12_toDust_28 ?_
  cases h
  exact z_lreturn hR e_X12_toDust_31
noncomputable def F_X12_toDust_63 (σ : zSt) : Option (Int64 × zSt) :=
  some ((-3 : Int64), σ)
set_option maxHeartbeats 4000000 in
set_option maxRecDepth 100000 in
theorem p_X12_toDust_63 {G : zG} {C : zC} {r : Int64} {τ : zSt} (hR : zR G C (some .long) (some (.long r)) τ)  (σ : zSt) (h : F_X12_toDust_63 σ = some (r, τ)) : zAW G 8 RX12 cX12_toDust 12 C 63 [] [] σ := by
  unfold F_X12_toDust_63 at h
  refine z_ldc2 cs_X12_447 e_X12_toDust_63 ?_
  cases h
  exact z_lreturn hR e_X12_toDust_66
noncomputable def F_X12_toDust_138 (x3 : Int32) (x4 : Int64) (x6 : Int32) (x7 : Int64) (σ : zSt) : Option (Int64 × zSt) :=
  if x3 = 0 then (
    some (x6.toInt64, σ))
  else (
    bd (F_X12_through x7 ((10 : Int64) * x4) (x3 - (1 : Int32)) σ) (fun q29 s28 =>
      some (q29, s28)))
set_option maxHeartbeats 4000000 in
set_option maxRecDepth 100000 in
theorem p_X12_toDust_138 {G : zG} {C : zC} {r : Int64} {τ : zSt} (hR : zR G C (some .long) (some (.long r)) τ) (x3 : Int32) (x4 : Int64) (x6 : Int32) (x7 : Int64) (σ : zSt) (h : F_X12_toDust_138 x3 x4 x6 x7 σ = some (r, τ)) : zAW G 8 RX12 cX12_toDust 12 C 138 [(3, .int x3), (4, .long x4), (6, .int x6), (7, .long x7)] [] σ := by
  unfold F_X12_toDust_138 at h
  refine z_iload e_X12_toDust_138 0 rfl ?_
  refine z_if_ne e_X12_toDust_139 h (fun c27 h => ?_) (fun c27 h => ?_)
  · refine z_iload e_X12_toDust_142 2 rfl ?_
    refine z_i2l e_X12_toDust_144 ?_
    refine z_goto e_X12_toDust_145 ?_
    cases h
    exact z_lreturn hR e_X12_toDust_162
  · refine z_lload e_X12_toDust_148 3 rfl ?_
    refine z_ldc2 cs_X12_462 e_X12_toDust_150 ?_
    refine z_lload e_X12_toDust_153 1 rfl ?_
    refine z_lmul e_X12_toDust_155 ?_
    refine z_iload e_X12_toDust_156 0 rfl ?_
    refine z_ic e_X12_toDust_157 ?_
    refine z_isub e_X12_toDust_158 ?_
    obtain ⟨q29, s28, e30, h⟩ := bd_e h
    refine z_callSl (As := [.long x7, .long ((10 : Int64) * x4), .int (x3 - (1 : Int32))]) (rest := []) lk_X12_455 e_X12_toDust_159 (m_X12_through G x7 ((10 : Int64) * x4) (x3 - (1 : Int32)) σ _ _ e30) (by decide) rfl (Nat.le_of_ble_eq_true rfl) ?_
    cases h
    exact z_lreturn hR e_X12_toDust_162
noncomputable def F_X12_toDust_98 (x3 : Int32) (x4 : Int64) (w98 : (Int32 × Int64 × Int32 × zSt) → Option (Int64 × zSt)) (x6 : Int32) (x7 : Int64) (x9 : Int32) (σ : zSt) : Option (Int64 × zSt) :=
  if (8 : Int32) < x9 then (
    F_X12_toDust_138 x3 x4 x6 x7 σ)
  else (
    bd (F_X12_guessed x9 σ) (fun q32 s31 =>
      nm (if 0 < (lg_cmp q32 x7) then x9 else x6) (fun v34 =>
        nm (if 0 < (lg_cmp q32 x7) then q32 else x7) (fun v35 =>
          nm (x9 + (1 : Int32)) (fun v36 =>
            w98 (v34, v35, v36, s31))))))
set_option maxHeartbeats 4000000 in
set_option maxRecDepth 100000 in
theorem b_X12_toDust_98 {G : zG} {C : zC} {r : Int64} {τ : zSt} (hR : zR G C (some .long) (some (.long r)) τ) (x3 : Int32) (x4 : Int64) (w98 : (Int32 × Int64 × Int32 × zSt) → Option (Int64 × zSt)) (hw98 : ∀ (x6 : Int32) (x7 : Int64) (x9 : Int32) (σ : zSt), w98 (x6, x7, x9, σ) = some (r, τ) → zAW G 8 RX12 cX12_toDust 12 C 98 [(0, .ref (zad G 69)), (3, .int x3), (4, .long x4), (6, .int x6), (7, .long x7), (9, .int x9)] [] σ) (x6 : Int32) (x7 : Int64) (x9 : Int32) (σ : zSt) (h : F_X12_toDust_98 x3 x4 w98 x6 x7 x9 σ = some (r, τ)) : zAW G 8 RX12 cX12_toDust 12 C 98 [(0, .ref (zad G 69)), (3, .int x3), (4, .long x4), (6, .int x6), (7, .long x7), (9, .int x9)] [] σ := by
  unfold F_X12_toDust_98 at h
  refine z_iload e_X12_toDust_98 5 rfl ?_
  refine z_ic e_X12_toDust_100 ?_
  refine z_icmp_gt e_X12_toDust_102 h (fun c26 h => ?_) (fun c26 h => ?_)
  · exact z_sub [1, 2, 3, 4] rfl (p_X12_toDust_138 hR x3 x4 x6 x7 σ h)
  · refine z_aload e_X12_toDust_105 0 rfl ?_
    refine z_iload e_X12_toDust_106 5 rfl ?_
    obtain ⟨q32, s31, e33, h⟩ := bd_e h
    refine z_callVl (c0 := 69) (As := [.int x9]) (rest := []) lk_X12_459 ob_69 e_X12_toDust_108 (m_X12_guessed G x9 σ _ _ e33) (by decide) rfl (Nat.le_of_ble_eq_true rfl) ?_
    refine z_lstore e_X12_toDust_111 (by decide) [(10, .long q32), (0, .ref (zad G 69)), (3, .int x3), (4, .long x4), (6, .int x6), (7, .long x7), (9, .int x9)] rfl ?_
    refine z_lload e_X12_toDust_113 0 rfl ?_
    refine z_lload e_X12_toDust_115 5 rfl ?_
    refine z_lcmp e_X12_toDust_117 ?_
    obtain ⟨v34, ev34, h⟩ := nm_i h
    obtain ⟨v35, ev35, h⟩ := nm_i h
    have jv34 : zAW G 8 RX12 cX12_toDust 12 C 132 [(0, .ref (zad G 69)), (3, .int x3), (4, .long x4), (6, .int v34), (7, .long v35), (9, .int x9)] [] s31 := by
      refine z_iinc e_X12_toDust_132 5 rfl (by decide) (by decide) h (fun y => [(9, .int y), (0, .ref (zad G 69)), (3, .int x3), (4, .long x4), (6, .int v34), (7, .long v35)]) (fun _ => rfl) (fun v36 h => ?_)
      refine z_goto e_X12_toDust_135 ?_
      exact z_sub [1, 2, 3, 4, 5, 0] rfl (hw98 v34 v35 v36 s31 h)
    refine y_if_gt e_X12_toDust_118 (fun c37 => ?_) (fun c37 => ?_)
    · refine z_lload e_X12_toDust_124 0 rfl ?_
      refine z_lstore e_X12_toDust_126 (by decide) [(7, .long q32), (10, .long q32), (0, .ref (zad G 69)), (3, .int x3), (4, .long x4), (6, .int x6), (9, .int x9)] rfl ?_
      refine z_iload e_X12_toDust_128 6 rfl ?_
      refine z_istore e_X12_toDust_130 (by decide) [(6, .int x9), (7, .long q32), (10, .long q32), (0, .ref (zad G 69)), (3, .int x3), (4, .long x4), (9, .int x9)] rfl ?_
      rw [if_pos c37] at ev34
      rw [if_pos c37] at ev35
      subst ev34
      subst ev35
      exact z_sub [3, 4, 5, 0, 1, 6] rfl jv34
    · refine z_goto e_X12_toDust_121 ?_
      rw [if_neg c37] at ev34
      rw [if_neg c37] at ev35
      subst ev34
      subst ev35
      exact z_sub [1, 2, 3, 4, 5, 6] rfl jv34
noncomputable def F_X12_toDust_98L (x3 : Int32) (x4 : Int64) : ((Int32 × Int64 × Int32 × zSt) → Option (Int64 × zSt)) → (Int32 × Int64 × Int32 × zSt) → Option (Int64 × zSt) := fun w s => F_X12_toDust_98 x3 x4 w s.1 s.2.1 s.2.2.1 s.2.2.2
set_option maxRecDepth 100000 in
theorem l_X12_toDust_98 {G : zG} {C : zC} {r : Int64} {τ : zSt} (hR : zR G C (some .long) (some (.long r)) τ) (x3 : Int32) (x4 : Int64) : ∀ (N : Nat) (x6 : Int32) (x7 : Int64) (x9 : Int32) (σ : zSt), zfix (F_X12_toDust_98L x3 x4) N (x6, x7, x9, σ) = some (r, τ) → zAW G 8 RX12 cX12_toDust 12 C 98 [(0, .ref (zad G 69)), (3, .int x3), (4, .long x4), (6, .int x6), (7, .long x7), (9, .int x9)] [] σ := by
  intro N
  induction N with
  | zero =>
    intro x6 x7 x9 σ h
    exact nomatch (show (none : Option (Int64 × zSt)) = some (r, τ) from h)
  | succ N ih =>
    intro x6 x7 x9 σ h
    exact b_X12_toDust_98 hR x3 x4 (zfix (F_X12_toDust_98L x3 x4) N) ih x6 x7 x9 σ h
noncomputable def F_X12_toDust_0 (x1 : Int32) (x2 : Int32) (x3 : Int32) (σ : zSt) : Option (Int64 × zSt) :=
  bd (F_X12_in x1 (1 : Int32) (60 : Int32) σ) (fun q2 s1 =>
    if q2 = 0 then (
      F_X12_toDust_28  s1)
    else (
      if (s1.1 69 14) < x1 then (
        F_X12_toDust_28  s1)
      else (
        if (s1.1 69 4) ≤ (9987 : Int32) then (
          bd (F_X12_readsStory x1 s1) (fun q8 s7 =>
            if q8 = 0 then (
              some ((s7.1 69 17).toInt64, s7))
            else (
              bd (F_X12_arePlaces x2 s7) (fun q12 s11 =>
                if q12 = 0 then (
                  F_X12_toDust_63  s11)
                else (
                  bd (F_X12_in x3 (0 : Int32) (2 : Int32) s11) (fun q16 s15 =>
                    if q16 = 0 then (
                      F_X12_toDust_63  s15)
                    else (
                      bd (F_X12_goesThrough x2 s15) (fun q20 s19 =>
                        if (lg_cmp q20 (0 : Int64)) = 0 then (
                          some ((-2 : Int64), s19))
                        else (
                          bd (F_X12_guessed (0 : Int32) s19) (fun q24 s23 =>
                            zfix (F_X12_toDust_98L x3 q20) zlim ((0 : Int32), q24, (1 : Int32), s23)))))))))))
        else (
          F_X12_toDust_28  s1))))
set_option maxHeartbeats 4000000 in
set_option maxRecDepth 100000 in
theorem p_X12_toDust_0 {G : zG} {C : zC} {r : Int64} {τ : zSt} (hR : zR G C (some .long) (some (.long r)) τ) (x1 : Int32) (x2 : Int32) (x3 : Int32) (σ : zSt) (h : F_X12_toDust_0 x1 x2 x3 σ = some (r, τ)) : zAW G 8 RX12 cX12_toDust 12 C 0 [(0, .ref (zad G 69)), (1, .int x1), (2, .int x2), (3, .int x3)] [] σ := by
  unfold F_X12_toDust_0 at h
  refine z_iload e_X12_toDust_0 1 rfl ?_
  refine z_ic e_X12_toDust_1 ?_
  refine z_ic e_X12_toDust_2 ?_
  obtain ⟨q2, s1, e3, h⟩ := bd_e h
  refine z_callSi (As := [.int x1, .int (1 : Int32), .int (60 : Int32)]) (rest := []) lk_X12_163 e_X12_toDust_4 (m_X12_in G x1 (1 : Int32) (60 : Int32) σ _ _ e3) (by decide) rfl (Nat.le_of_ble_eq_true rfl) ?_
  refine z_if_eq e_X12_toDust_7 h (fun c4 h => ?_) (fun c4 h => ?_)
  · exact z_sub [] rfl (p_X12_toDust_28 hR  s1 h)
  · refine z_iload e_X12_toDust_10 1 rfl ?_
    refine z_aload e_X12_toDust_11 0 rfl ?_
    refine z_geti gf_X12_186_69 e_X12_toDust_12 ?_
    refine z_icmp_gt e_X12_toDust_15 h (fun c5 h => ?_) (fun c5 h => ?_)
    · exact z_sub [] rfl (p_X12_toDust_28 hR  s1 h)
    · refine z_aload e_X12_toDust_18 0 rfl ?_
      refine z_geti gf_X12_307_69 e_X12_toDust_19 ?_
      refine z_ic e_X12_toDust_22 ?_
      refine z_icmp_le e_X12_toDust_25 h (fun c6 h => ?_) (fun c6 h => ?_)
      · refine z_aload e_X12_toDust_32 0 rfl ?_
        refine z_iload e_X12_toDust_33 1 rfl ?_
        obtain ⟨q8, s7, e9, h⟩ := bd_e h
        refine z_callVi (c0 := 69) (As := [.int x1]) (rest := []) lk_X12_441 ob_69 e_X12_toDust_34 (m_X12_readsStory G x1 s1 _ _ e9) (by decide) rfl (Nat.le_of_ble_eq_true rfl) ?_
        refine z_if_ne e_X12_toDust_37 h (fun c10 h => ?_) (fun c10 h => ?_)
        · refine z_aload e_X12_toDust_40 0 rfl ?_
          refine z_geti gf_X12_203_69 e_X12_toDust_41 ?_
          refine z_i2l e_X12_toDust_44 ?_
          cases h
          exact z_lreturn hR e_X12_toDust_45
        · refine z_aload e_X12_toDust_46 0 rfl ?_
          refine z_iload e_X12_toDust_47 2 rfl ?_
          obtain ⟨q12, s11, e13, h⟩ := bd_e h
          refine z_callVi (c0 := 69) (As := [.int x2]) (rest := []) lk_X12_444 ob_69 e_X12_toDust_48 (m_X12_arePlaces G x2 s7 _ _ e13) (by decide) rfl (Nat.le_of_ble_eq_true rfl) ?_
          refine z_if_eq e_X12_toDust_51 h (fun c14 h => ?_) (fun c14 h => ?_)
          · exact z_sub [] rfl (p_X12_toDust_63 hR  s11 h)
          · refine z_iload e_X12_toDust_54 3 rfl ?_
            refine z_ic e_X12_toDust_55 ?_
            refine z_ic e_X12_toDust_56 ?_
            obtain ⟨q16, s15, e17, h⟩ := bd_e h
            refine z_callSi (As := [.int x3, .int (0 : Int32), .int (2 : Int32)]) (rest := []) lk_X12_163 e_X12_toDust_57 (m_X12_in G x3 (0 : Int32) (2 : Int32) s11 _ _ e17) (by decide) rfl (Nat.le_of_ble_eq_true rfl) ?_
            refine z_if_ne e_X12_toDust_60 h (fun c18 h => ?_) (fun c18 h => ?_)
            · exact z_sub [] rfl (p_X12_toDust_63 hR  s15 h)
            · refine z_aload e_X12_toDust_67 0 rfl ?_
              refine z_iload e_X12_toDust_68 2 rfl ?_
              obtain ⟨q20, s19, e21, h⟩ := bd_e h
              refine z_callVl (c0 := 69) (As := [.int x2]) (rest := []) lk_X12_449 ob_69 e_X12_toDust_69 (m_X12_goesThrough G x2 s15 _ _ e21) (by decide) rfl (Nat.le_of_ble_eq_true rfl) ?_
              refine z_lstore e_X12_toDust_72 (by decide) [(4, .long q20), (0, .ref (zad G 69)), (1, .int x1), (2, .int x2), (3, .int x3)] rfl ?_
              refine z_lload e_X12_toDust_74 0 rfl ?_
              refine z_lconst 0 e_X12_toDust_76 rfl ?_
              refine z_lcmp e_X12_toDust_77 ?_
              refine z_if_ne e_X12_toDust_78 h (fun c22 h => ?_) (fun c22 h => ?_)
              · refine z_ldc2 cs_X12_453 e_X12_toDust_81 ?_
                cases h
                exact z_lreturn hR e_X12_toDust_84
              · refine z_ic e_X12_toDust_85 ?_
                refine z_istore e_X12_toDust_86 (by decide) [(6, .int (0 : Int32)), (4, .long q20), (0, .ref (zad G 69)), (1, .int x1), (2, .int x2), (3, .int x3)] rfl ?_
                refine z_aload e_X12_toDust_88 2 rfl ?_
                refine z_ic e_X12_toDust_89 ?_
                obtain ⟨q24, s23, e25, h⟩ := bd_e h
                refine z_callVl (c0 := 69) (As := [.int (0 : Int32)]) (rest := []) lk_X12_459 ob_69 e_X12_toDust_90 (m_X12_guessed G (0 : Int32) s19 _ _ e25) (by decide) rfl (Nat.le_of_ble_eq_true rfl) ?_
                refine z_lstore e_X12_toDust_93 (by decide) [(7, .long q24), (6, .int (0 : Int32)), (4, .long q20), (0, .ref (zad G 69)), (1, .int x1), (2, .int x2), (3, .int x3)] rfl ?_
                refine z_ic e_X12_toDust_95 ?_
                refine z_istore e_X12_toDust_96 (by decide) [(9, .int (1 : Int32)), (7, .long q24), (6, .int (0 : Int32)), (4, .long q20), (0, .ref (zad G 69)), (1, .int x1), (2, .int x2), (3, .int x3)] rfl ?_
                exact z_sub [4, 7, 3, 2, 1, 0] rfl (l_X12_toDust_98 hR x3 q20 zlim (0 : Int32) q24 (1 : Int32) s23 h)
      · exact z_sub [] rfl (p_X12_toDust_28 hR  s1 h)
noncomputable def F_X12_toDust (x1 : Int32) (x2 : Int32) (x3 : Int32) (σ : zSt) : Option (Int64 × zSt) := F_X12_toDust_0 x1 x2 x3 σ
set_option maxRecDepth 100000 in
theorem m_X12_toDust (G : zG) (x1 : Int32) (x2 : Int32) (x3 : Int32) (σ : zSt) (q : Int64) (τ : zSt) (h : F_X12_toDust x1 x2 x3 σ = some (q, τ)) : zM G 8 yX12_toDust cX12_toDust 12 (some .long) [.ref (zad G 69), .int x1, .int x2, .int x3] σ (some (.long q)) τ := by
  unfold F_X12_toDust at h
  refine zM.of (own := RX12) (by decide +kernel) rfl (Nat.le_of_ble_eq_true rfl) (fun C hR => ?_)
  exact z_sub [0, 1, 2, 3] rfl (p_X12_toDust_0 hR x1 x2 x3 σ h)
noncomputable def F_X2_othersThan_0 (x1 : Int32) (σ : zSt) : Option (Int64 × zSt) :=
  bd (F_X11_isBelow x1 (σ.1 63 1) σ) (fun q2 s1 =>
    if q2 = 0 then (
      some ((0 : Int64), s1))
    else (
      bd (F_X11_isBelow x1 (6 : Int32) s1) (fun q6 s5 =>
        if q6 = 0 then (
          some ((0 : Int64), s5))
        else (
          gd (vp_in x1 6) (
            if (s5.1 64 x1.toNatClampNeg) = 0 then (
              some ((0 : Int64), s5))
            else (
              gd (vp_in x1 6) (
                gd (¬ (s5.1 64 x1.toNatClampNeg).toInt64 = 0) (
                  some (((s5.2 63 2) / (s5.1 64 x1.toNatClampNeg).toInt64), s5)))))))))
set_option maxHeartbeats 4000000 in
set_option maxRecDepth 100000 in
theorem p_X2_othersThan_0 {G : zG} {C : zC} {r : Int64} {τ : zSt} (hR : zR G C (some .long) (some (.long r)) τ) (x1 : Int32) (σ : zSt) (h : F_X2_othersThan_0 x1 σ = some (r, τ)) : zAW G 2 RX2 cX2_othersThan 2 C 0 [(0, .ref (zad G 63)), (1, .int x1)] [] σ := by
  unfold F_X2_othersThan_0 at h
  refine z_iload e_X2_othersThan_0 1 rfl ?_
  refine z_aload e_X2_othersThan_1 0 rfl ?_
  refine z_geti gf_X2_13_63 e_X2_othersThan_2 ?_
  obtain ⟨q2, s1, e3, h⟩ := bd_e h
  refine z_callNi (As := [.int x1, .int (σ.1 63 1)]) (rest := []) lk_X2_34 e_X2_othersThan_5 (m_X11_isBelow G x1 (σ.1 63 1) σ _ _ e3) (by decide) rfl (Nat.le_of_ble_eq_true rfl) ?_
  refine z_if_eq e_X2_othersThan_8 h (fun c4 h => ?_) (fun c4 h => ?_)
  · refine z_lconst 0 e_X2_othersThan_44 rfl ?_
    cases h
    exact z_lreturn hR e_X2_othersThan_45
  · refine z_iload e_X2_othersThan_11 1 rfl ?_
    refine z_ic e_X2_othersThan_12 ?_
    obtain ⟨q6, s5, e7, h⟩ := bd_e h
    refine z_callNi (As := [.int x1, .int (6 : Int32)]) (rest := []) lk_X2_34 e_X2_othersThan_14 (m_X11_isBelow G x1 (6 : Int32) s1 _ _ e7) (by decide) rfl (Nat.le_of_ble_eq_true rfl) ?_
    refine z_if_eq e_X2_othersThan_17 h (fun c8 h => ?_) (fun c8 h => ?_)
    · refine z_lconst 0 e_X2_othersThan_44 rfl ?_
      cases h
      exact z_lreturn hR e_X2_othersThan_45
    · refine z_aload e_X2_othersThan_20 0 rfl ?_
      refine z_getr gf_X2_9_63 e_X2_othersThan_21 ?_
      refine z_iload e_X2_othersThan_24 1 rfl ?_
      refine z_iald sh_64 e_X2_othersThan_25 h (fun h => ?_)
      refine z_if_eq e_X2_othersThan_26 h (fun c9 h => ?_) (fun c9 h => ?_)
      · refine z_lconst 0 e_X2_othersThan_44 rfl ?_
        cases h
        exact z_lreturn hR e_X2_othersThan_45
      · refine z_aload e_X2_othersThan_29 0 rfl ?_
        refine z_getl gf_X2_17_63 e_X2_othersThan_30 ?_
        refine z_aload e_X2_othersThan_33 0 rfl ?_
        refine z_getr gf_X2_9_63 e_X2_othersThan_34 ?_
        refine z_iload e_X2_othersThan_37 1 rfl ?_
        refine z_iald sh_64 e_X2_othersThan_38 h (fun h => ?_)
        refine z_i2l e_X2_othersThan_39 ?_
        obtain ⟨hy10, h⟩ := gd_e h
        refine z_ldiv e_X2_othersThan_40 hy10 ?_
        refine z_goto e_X2_othersThan_41 ?_
        cases h
        exact z_lreturn hR e_X2_othersThan_45
noncomputable def F_X2_othersThan (x1 : Int32) (σ : zSt) : Option (Int64 × zSt) := F_X2_othersThan_0 x1 σ
set_option maxRecDepth 100000 in
theorem m_X2_othersThan (G : zG) (x1 : Int32) (σ : zSt) (q : Int64) (τ : zSt) (h : F_X2_othersThan x1 σ = some (q, τ)) : zM G 2 yX2_othersThan cX2_othersThan 2 (some .long) [.ref (zad G 63), .int x1] σ (some (.long q)) τ := by
  unfold F_X2_othersThan at h
  refine zM.of (own := RX2) (by decide +kernel) rfl (Nat.le_of_ble_eq_true rfl) (fun C hR => ?_)
  exact z_sub [0, 1] rfl (p_X2_othersThan_0 hR x1 σ h)
noncomputable def F_X2_read_88 (w88 : (Int32 × zSt) → Option (Int32 × zSt)) (x3 : Int32) (σ : zSt) : Option (Int32 × zSt) :=
  if (σ.1 63 1) ≤ x3 then (
    some ((1 : Int32), σ))
  else (
    bd (F_X2_othersThan x3 σ) (fun q7 s6 =>
      nm (zwrL s6 63 3 ((σ.2 63 3) + q7)) (fun s9 =>
        nm (x3 + (1 : Int32)) (fun v10 =>
          w88 (v10, s9)))))
set_option maxHeartbeats 4000000 in
set_option maxRecDepth 100000 in
theorem b_X2_read_88 {G : zG} {C : zC} {r : Int32} {τ : zSt} (hR : zR G C (some .boolean) (some (.int r)) τ) (w88 : (Int32 × zSt) → Option (Int32 × zSt)) (hw88 : ∀ (x3 : Int32) (σ : zSt), w88 (x3, σ) = some (r, τ) → zAW G 3 RX2 cX2_read 5 C 88 [(0, .ref (zad G 63)), (3, .int x3)] [] σ) (x3 : Int32) (σ : zSt) (h : F_X2_read_88 w88 x3 σ = some (r, τ)) : zAW G 3 RX2 cX2_read 5 C 88 [(0, .ref (zad G 63)), (3, .int x3)] [] σ := by
  unfold F_X2_read_88 at h
  refine z_iload e_X2_read_88 1 rfl ?_
  refine z_aload e_X2_read_89 0 rfl ?_
  refine z_geti gf_X2_13_63 e_X2_read_90 ?_
  refine z_icmp_ge e_X2_read_93 h (fun c5 h => ?_) (fun c5 h => ?_)
  · refine z_ic e_X2_read_116 ?_
    cases h
    exact z_zreturn hR e_X2_read_117 (Or.inr rfl)
  · refine z_aload e_X2_read_96 0 rfl ?_
    refine z_dup e_X2_read_97 rfl ?_
    refine z_getl gf_X2_21_63 e_X2_read_98 ?_
    refine z_aload e_X2_read_101 0 rfl ?_
    refine z_iload e_X2_read_102 1 rfl ?_
    obtain ⟨q7, s6, e8, h⟩ := bd_e h
    refine z_callVl (c0 := 63) (As := [.int x3]) (rest := [.long (σ.2 63 3), .ref (zad G 63)]) lk_X2_30 ob_63 e_X2_read_103 (m_X2_othersThan G x3 σ _ _ e8) (by decide) rfl (Nat.le_of_ble_eq_true rfl) ?_
    refine z_ladd e_X2_read_106 ?_
    refine z_putl pf_X2_21_63 e_X2_read_107 h (fun s9 h => ?_)
    refine z_iinc e_X2_read_110 1 rfl (by decide) (by decide) h (fun y => [(3, .int y), (0, .ref (zad G 63))]) (fun _ => rfl) (fun v10 h => ?_)
    refine z_goto e_X2_read_113 ?_
    exact z_sub [1, 0] rfl (hw88 v10 s9 h)
noncomputable def F_X2_read_88L  : ((Int32 × zSt) → Option (Int32 × zSt)) → (Int32 × zSt) → Option (Int32 × zSt) := fun w s => F_X2_read_88 w s.1 s.2
set_option maxRecDepth 100000 in
theorem l_X2_read_88 {G : zG} {C : zC} {r : Int32} {τ : zSt} (hR : zR G C (some .boolean) (some (.int r)) τ)  : ∀ (N : Nat) (x3 : Int32) (σ : zSt), zfix (F_X2_read_88L ) N (x3, σ) = some (r, τ) → zAW G 3 RX2 cX2_read 5 C 88 [(0, .ref (zad G 63)), (3, .int x3)] [] σ := by
  intro N
  induction N with
  | zero =>
    intro x3 σ h
    exact nomatch (show (none : Option (Int32 × zSt)) = some (r, τ) from h)
  | succ N ih =>
    intro x3 σ h
    exact b_X2_read_88 hR (zfix (F_X2_read_88L ) N) ih x3 σ h
noncomputable def F_X2_read_86 (σ : zSt) : Option (Int32 × zSt) :=
  zfix (F_X2_read_88L ) zlim ((0 : Int32), σ)
set_option maxHeartbeats 4000000 in
set_option maxRecDepth 100000 in
theorem p_X2_read_86 {G : zG} {C : zC} {r : Int32} {τ : zSt} (hR : zR G C (some .boolean) (some (.int r)) τ)  (σ : zSt) (h : F_X2_read_86 σ = some (r, τ)) : zAW G 3 RX2 cX2_read 5 C 86 [(0, .ref (zad G 63))] [] σ := by
  unfold F_X2_read_86 at h
  refine z_ic e_X2_read_86 ?_
  refine z_istore e_X2_read_87 (by decide) [(3, .int (0 : Int32)), (0, .ref (zad G 63))] rfl ?_
  exact z_sub [1, 0] rfl (l_X2_read_88 hR  zlim (0 : Int32) σ h)
noncomputable def F_X2_read_17 (x2 : Int32) (w17 : (Int32 × zSt) → Option (Int32 × zSt)) (x3 : Int32) (σ : zSt) : Option (Int32 × zSt) :=
  if x2 ≤ x3 then (
    F_X2_read_86  σ)
  else (
    if (6 : Int32) ≤ x3 then (
      F_X2_read_86  σ)
    else (
      bd (F_X8_at x3 σ) (fun q13 s12 =>
        if q13 < (1 : Int32) then (
          some ((0 : Int32), s12))
        else (
          if q13 ≤ (99 : Int32) then (
            gd (vp_in x3 6) (nm (zwr s12 64 x3.toNatClampNeg q13) (fun s17 =>
              nm (zwrL s17 63 2 ((s17.2 63 2) * q13.toInt64)) (fun s18 =>
                nm (zwr s18 63 1 ((s18.1 63 1) + (1 : Int32))) (fun s19 =>
                  nm (x3 + (1 : Int32)) (fun v20 =>
                    w17 (v20, s19)))))))
          else (
            some ((0 : Int32), s12))))))
set_option maxHeartbeats 4000000 in
set_option maxRecDepth 100000 in
theorem b_X2_read_17 {G : zG} {C : zC} {r : Int32} {τ : zSt} (hR : zR G C (some .boolean) (some (.int r)) τ) (x2 : Int32) (w17 : (Int32 × zSt) → Option (Int32 × zSt)) (hw17 : ∀ (x3 : Int32) (σ : zSt), w17 (x3, σ) = some (r, τ) → zAW G 3 RX2 cX2_read 5 C 17 [(0, .ref (zad G 63)), (1, .ref (zad G 33)), (2, .int x2), (3, .int x3)] [] σ) (x3 : Int32) (σ : zSt) (h : F_X2_read_17 x2 w17 x3 σ = some (r, τ)) : zAW G 3 RX2 cX2_read 5 C 17 [(0, .ref (zad G 63)), (1, .ref (zad G 33)), (2, .int x2), (3, .int x3)] [] σ := by
  unfold F_X2_read_17 at h
  refine z_iload e_X2_read_17 3 rfl ?_
  refine z_iload e_X2_read_18 2 rfl ?_
  refine z_icmp_ge e_X2_read_19 h (fun c4 h => ?_) (fun c4 h => ?_)
  · exact z_sub [0] rfl (p_X2_read_86 hR  σ h)
  · refine z_iload e_X2_read_22 3 rfl ?_
    refine z_ic e_X2_read_23 ?_
    refine z_icmp_ge e_X2_read_25 h (fun c11 h => ?_) (fun c11 h => ?_)
    · exact z_sub [0] rfl (p_X2_read_86 hR  σ h)
    · refine z_aload e_X2_read_28 1 rfl ?_
      refine z_iload e_X2_read_29 3 rfl ?_
      obtain ⟨q13, s12, e14, h⟩ := bd_e h
      refine z_callVi (c0 := 33) (As := [.int x3]) (rest := []) lk_X2_24 ob_33 e_X2_read_30 (m_X8_at G x3 σ _ _ e14) (by decide) rfl (Nat.le_of_ble_eq_true rfl) ?_
      refine z_istore e_X2_read_33 (by decide) [(4, .int q13), (0, .ref (zad G 63)), (1, .ref (zad G 33)), (2, .int x2), (3, .int x3)] rfl ?_
      refine z_iload e_X2_read_35 0 rfl ?_
      refine z_ic e_X2_read_37 ?_
      refine z_icmp_lt e_X2_read_38 h (fun c15 h => ?_) (fun c15 h => ?_)
      · refine z_ic e_X2_read_48 ?_
        cases h
        exact z_zreturn hR e_X2_read_49 (Or.inl rfl)
      · refine z_iload e_X2_read_41 0 rfl ?_
        refine z_ic e_X2_read_43 ?_
        refine z_icmp_le e_X2_read_45 h (fun c16 h => ?_) (fun c16 h => ?_)
        · refine z_aload e_X2_read_50 1 rfl ?_
          refine z_getr gf_X2_9_63 e_X2_read_51 ?_
          refine z_iload e_X2_read_54 4 rfl ?_
          refine z_iload e_X2_read_55 0 rfl ?_
          refine z_iast sh_64 e_X2_read_57 h (fun s17 h => ?_)
          refine z_aload e_X2_read_58 1 rfl ?_
          refine z_dup e_X2_read_59 rfl ?_
          refine z_getl gf_X2_17_63 e_X2_read_60 ?_
          refine z_iload e_X2_read_63 0 rfl ?_
          refine z_i2l e_X2_read_65 ?_
          refine z_lmul e_X2_read_66 ?_
          refine z_putl pf_X2_17_63 e_X2_read_67 h (fun s18 h => ?_)
          refine z_aload e_X2_read_70 1 rfl ?_
          refine z_dup e_X2_read_71 rfl ?_
          refine z_geti gf_X2_13_63 e_X2_read_72 ?_
          refine z_ic e_X2_read_75 ?_
          refine z_iadd e_X2_read_76 ?_
          refine z_puti pf_X2_13_63 e_X2_read_77 h (fun s19 h => ?_)
          refine z_iinc e_X2_read_80 4 rfl (by decide) (by decide) h (fun y => [(3, .int y), (4, .int q13), (0, .ref (zad G 63)), (1, .ref (zad G 33)), (2, .int x2)]) (fun _ => rfl) (fun v20 h => ?_)
          refine z_goto e_X2_read_83 ?_
          exact z_sub [2, 3, 4, 0] rfl (hw17 v20 s19 h)
        · refine z_ic e_X2_read_48 ?_
          cases h
          exact z_zreturn hR e_X2_read_49 (Or.inl rfl)
noncomputable def F_X2_read_17L (x2 : Int32) : ((Int32 × zSt) → Option (Int32 × zSt)) → (Int32 × zSt) → Option (Int32 × zSt) := fun w s => F_X2_read_17 x2 w s.1 s.2
set_option maxRecDepth 100000 in
theorem l_X2_read_17 {G : zG} {C : zC} {r : Int32} {τ : zSt} (hR : zR G C (some .boolean) (some (.int r)) τ) (x2 : Int32) : ∀ (N : Nat) (x3 : Int32) (σ : zSt), zfix (F_X2_read_17L x2) N (x3, σ) = some (r, τ) → zAW G 3 RX2 cX2_read 5 C 17 [(0, .ref (zad G 63)), (1, .ref (zad G 33)), (2, .int x2), (3, .int x3)] [] σ := by
  intro N
  induction N with
  | zero =>
    intro x3 σ h
    exact nomatch (show (none : Option (Int32 × zSt)) = some (r, τ) from h)
  | succ N ih =>
    intro x3 σ h
    exact b_X2_read_17 hR x2 (zfix (F_X2_read_17L x2) N) ih x3 σ h
noncomputable def F_X2_read_0 (x2 : Int32) (σ : zSt) : Option (Int32 × zSt) :=
  nm (zwr σ 63 1 (0 : Int32)) (fun s1 =>
    nm (zwrL s1 63 2 (1 : Int64)) (fun s2 =>
      nm (zwrL s2 63 3 (0 : Int64)) (fun s3 =>
        zfix (F_X2_read_17L x2) zlim ((0 : Int32), s3))))
set_option maxHeartbeats 4000000 in
set_option maxRecDepth 100000 in
theorem p_X2_read_0 {G : zG} {C : zC} {r : Int32} {τ : zSt} (hR : zR G C (some .boolean) (some (.int r)) τ) (x2 : Int32) (σ : zSt) (h : F_X2_read_0 x2 σ = some (r, τ)) : zAW G 3 RX2 cX2_read 5 C 0 [(0, .ref (zad G 63)), (1, .ref (zad G 33)), (2, .int x2)] [] σ := by
  unfold F_X2_read_0 at h
  refine z_aload e_X2_read_0 0 rfl ?_
  refine z_ic e_X2_read_1 ?_
  refine z_puti pf_X2_13_63 e_X2_read_2 h (fun s1 h => ?_)
  refine z_aload e_X2_read_5 0 rfl ?_
  refine z_lconst 1 e_X2_read_6 rfl ?_
  refine z_putl pf_X2_17_63 e_X2_read_7 h (fun s2 h => ?_)
  refine z_aload e_X2_read_10 0 rfl ?_
  refine z_lconst 0 e_X2_read_11 rfl ?_
  refine z_putl pf_X2_21_63 e_X2_read_12 h (fun s3 h => ?_)
  refine z_ic e_X2_read_15 ?_
  refine z_istore e_X2_read_16 (by decide) [(3, .int (0 : Int32)), (0, .ref (zad G 63)), (1, .ref (zad G 33)), (2, .int x2)] rfl ?_
  exact z_sub [1, 2, 3, 0] rfl (l_X2_read_17 hR x2 zlim (0 : Int32) s3 h)
noncomputable def F_X2_read (x2 : Int32) (σ : zSt) : Option (Int32 × zSt) := F_X2_read_0 x2 σ
set_option maxRecDepth 100000 in
theorem m_X2_read (G : zG) (x2 : Int32) (σ : zSt) (q : Int32) (τ : zSt) (h : F_X2_read x2 σ = some (q, τ)) : zM G 3 yX2_read cX2_read 5 (some .boolean) [.ref (zad G 63), .ref (zad G 33), .int x2] σ (some (.int q)) τ := by
  unfold F_X2_read at h
  refine zM.of (own := RX2) (by decide +kernel) rfl (Nat.le_of_ble_eq_true rfl) (fun C hR => ?_)
  exact z_sub [0, 1, 2] rfl (p_X2_read_0 hR x2 σ h)
noncomputable def F_X2_answer_21 (x1 : Int32) (t0 : Int64) (σ : zSt) : Option (Int64 × zSt) :=
  nm (if x1 = 0 then (1 : Int32) else (if x1 < (10 : Int32) then (0 : Int32) else (if (20 : Int32) ≤ x1 then (0 : Int32) else (1 : Int32)))) (fun v5 =>
    nm (if v5 = 0 then (σ.2 63 3) else t0) (fun v6 =>
      bd (F_X11_commonDivisor t0 (σ.2 63 3) σ) (fun q8 s7 =>
        gd (¬ q8 = 0) (
          some ((v6 / q8), s7)))))
set_option maxHeartbeats 4000000 in
set_option maxRecDepth 100000 in
theorem p_X2_answer_21 {G : zG} {C : zC} {r : Int64} {τ : zSt} (hR : zR G C (some .long) (some (.long r)) τ) (x1 : Int32) (t0 : Int64) (σ : zSt) (h : F_X2_answer_21 x1 t0 σ = some (r, τ)) : zAW G 3 RX2 cX2_answer 5 C 21 [(0, .ref (zad G 63)), (1, .int x1)] [.long t0] σ := by
  unfold F_X2_answer_21 at h
  refine z_lstore e_X2_answer_21 (by decide) [(2, .long t0), (0, .ref (zad G 63)), (1, .int x1)] rfl ?_
  refine z_iload e_X2_answer_22 2 rfl ?_
  obtain ⟨v5, ev5, h⟩ := nm_i h
  have jv5 : zAW G 3 RX2 cX2_answer 5 C 43 [(0, .ref (zad G 63)), (2, .long t0)] [.int v5] σ := by
    refine z_istore e_X2_answer_43 (by decide) [(4, .int v5), (0, .ref (zad G 63)), (2, .long t0)] rfl ?_
    refine z_iload e_X2_answer_45 0 rfl ?_
    obtain ⟨v6, ev6, h⟩ := nm_i h
    have jv6 : zAW G 3 RX2 cX2_answer 5 C 58 [(0, .ref (zad G 63)), (2, .long t0)] [.long v6] σ := by
      refine z_lload e_X2_answer_58 1 rfl ?_
      refine z_aload e_X2_answer_59 0 rfl ?_
      refine z_getl gf_X2_21_63 e_X2_answer_60 ?_
      obtain ⟨q8, s7, e9, h⟩ := bd_e h
      refine z_callNl (As := [.long t0, .long (σ.2 63 3)]) (rest := [.long v6]) lk_X2_40 e_X2_answer_63 (m_X11_commonDivisor G t0 (σ.2 63 3) σ _ _ e9) (by decide) rfl (Nat.le_of_ble_eq_true rfl) ?_
      obtain ⟨hy10, h⟩ := gd_e h
      refine z_ldiv e_X2_answer_66 hy10 ?_
      cases h
      exact z_lreturn hR e_X2_answer_67
    refine y_if_eq e_X2_answer_47 (fun c11 => ?_) (fun c11 => ?_)
    · refine z_aload e_X2_answer_54 1 rfl ?_
      refine z_getl gf_X2_21_63 e_X2_answer_55 ?_
      rw [if_pos c11] at ev6
      subst ev6
      exact z_sub [1, 2] rfl jv6
    · refine z_lload e_X2_answer_50 2 rfl ?_
      refine z_goto e_X2_answer_51 ?_
      rw [if_neg c11] at ev6
      subst ev6
      exact z_sub [1, 2] rfl jv6
  refine y_if_eq e_X2_answer_23 (fun c12 => ?_) (fun c12 => ?_)
  · refine z_ic e_X2_answer_38 ?_
    refine z_goto e_X2_answer_39 ?_
    rw [if_pos c12] at ev5
    subst ev5
    exact z_sub [1, 0] rfl jv5
  · refine z_iload e_X2_answer_26 2 rfl ?_
    refine z_ic e_X2_answer_27 ?_
    refine y_icmp_lt e_X2_answer_29 (fun c13 => ?_) (fun c13 => ?_)
    · refine z_ic e_X2_answer_42 ?_
      rw [if_neg c12, if_pos c13] at ev5
      subst ev5
      exact z_sub [1, 0] rfl jv5
    · refine z_iload e_X2_answer_32 2 rfl ?_
      refine z_ic e_X2_answer_33 ?_
      refine y_icmp_ge e_X2_answer_35 (fun c14 => ?_) (fun c14 => ?_)
      · refine z_ic e_X2_answer_42 ?_
        rw [if_neg c12, if_neg c13, if_pos c14] at ev5
        subst ev5
        exact z_sub [1, 0] rfl jv5
      · refine z_ic e_X2_answer_38 ?_
        refine z_goto e_X2_answer_39 ?_
        rw [if_neg c12, if_neg c13, if_neg c14] at ev5
        subst ev5
        exact z_sub [1, 0] rfl jv5
noncomputable def F_X2_answer_0 (x1 : Int32) (σ : zSt) : Option (Int64 × zSt) :=
  if (10 : Int32) ≤ x1 then (
    bd (F_X2_othersThan (x1 % (10 : Int32)) σ) (fun q3 s2 =>
      F_X2_answer_21 x1 q3 s2))
  else (
    F_X2_answer_21 x1 (σ.2 63 2) σ)
set_option maxHeartbeats 4000000 in
set_option maxRecDepth 100000 in
theorem p_X2_answer_0 {G : zG} {C : zC} {r : Int64} {τ : zSt} (hR : zR G C (some .long) (some (.long r)) τ) (x1 : Int32) (σ : zSt) (h : F_X2_answer_0 x1 σ = some (r, τ)) : zAW G 3 RX2 cX2_answer 5 C 0 [(0, .ref (zad G 63)), (1, .int x1)] [] σ := by
  unfold F_X2_answer_0 at h
  refine z_iload e_X2_answer_0 1 rfl ?_
  refine z_ic e_X2_answer_1 ?_
  refine z_icmp_ge e_X2_answer_3 h (fun c1 h => ?_) (fun c1 h => ?_)
  · refine z_aload e_X2_answer_13 0 rfl ?_
    refine z_iload e_X2_answer_14 1 rfl ?_
    refine z_ic e_X2_answer_15 ?_
    refine z_irem e_X2_answer_17 (by decide) ?_
    obtain ⟨q3, s2, e4, h⟩ := bd_e h
    refine z_callVl (c0 := 63) (As := [.int (x1 % (10 : Int32))]) (rest := []) lk_X2_30 ob_63 e_X2_answer_18 (m_X2_othersThan G (x1 % (10 : Int32)) σ _ _ e4) (by decide) rfl (Nat.le_of_ble_eq_true rfl) ?_
    exact z_sub [0, 1] rfl (p_X2_answer_21 hR x1 q3 s2 h)
  · refine z_aload e_X2_answer_6 0 rfl ?_
    refine z_getl gf_X2_17_63 e_X2_answer_7 ?_
    refine z_goto e_X2_answer_10 ?_
    exact z_sub [0, 1] rfl (p_X2_answer_21 hR x1 (σ.2 63 2) σ h)
noncomputable def F_X2_answer (x1 : Int32) (σ : zSt) : Option (Int64 × zSt) := F_X2_answer_0 x1 σ
set_option maxRecDepth 100000 in
theorem m_X2_answer (G : zG) (x1 : Int32) (σ : zSt) (q : Int64) (τ : zSt) (h : F_X2_answer x1 σ = some (q, τ)) : zM G 3 yX2_answer cX2_answer 5 (some .long) [.ref (zad G 63), .int x1] σ (some (.long q)) τ := by
  unfold F_X2_answer at h
  refine zM.of (own := RX2) (by decide +kernel) rfl (Nat.le_of_ble_eq_true rfl) (fun C hR => ?_)
  exact z_sub [0, 1] rfl (p_X2_answer_0 hR x1 σ h)
noncomputable def F_X11_lots_68 (σ : zSt) : Option (Int64 × zSt) :=
  some ((-1 : Int64), σ)
set_option maxHeartbeats 4000000 in
set_option maxRecDepth 100000 in
theorem p_X11_lots_68 {G : zG} {C : zC} {r : Int64} {τ : zSt} (hR : zR G C (some .long) (some (.long r)) τ)  (σ : zSt) (h : F_X11_lots_68 σ = some (r, τ)) : zAW G 4 RX11 cX11_lots 4 C 68 [] [] σ := by
  unfold F_X11_lots_68 at h
  refine z_ldc2 cs_X11_238 e_X11_lots_68 ?_
  cases h
  exact z_lreturn hR e_X11_lots_71
noncomputable def F_X11_lots_57 (x1 : Int32) (x2 : Int32) (σ : zSt) : Option (Int64 × zSt) :=
  bd (F_X8_take x1 σ) (fun q10 s9 =>
    if q10 = 0 then (
      F_X11_lots_68  s9)
    else (
      bd (F_X2_read x1 s9) (fun q14 s13 =>
        if q14 = 0 then (
          some ((-2 : Int64), s13))
        else (
          bd (F_X2_answer x2 s13) (fun q18 s17 =>
            some (q18, s17))))))
set_option maxHeartbeats 4000000 in
set_option maxRecDepth 100000 in
theorem p_X11_lots_57 {G : zG} {C : zC} {r : Int64} {τ : zSt} (hR : zR G C (some .long) (some (.long r)) τ) (x1 : Int32) (x2 : Int32) (σ : zSt) (h : F_X11_lots_57 x1 x2 σ = some (r, τ)) : zAW G 4 RX11 cX11_lots 4 C 57 [(0, .ref (zad G 0)), (1, .int x1), (2, .int x2)] [] σ := by
  unfold F_X11_lots_57 at h
  refine z_aload e_X11_lots_57 0 rfl ?_
  refine z_getr gf_X11_39_0 e_X11_lots_58 ?_
  refine z_iload e_X11_lots_61 1 rfl ?_
  obtain ⟨q10, s9, e11, h⟩ := bd_e h
  refine z_callVi (c0 := 33) (As := [.int x1]) (rest := []) lk_X11_143 ob_33 e_X11_lots_62 (m_X8_take G x1 σ _ _ e11) (by decide) rfl (Nat.le_of_ble_eq_true rfl) ?_
  refine z_if_ne e_X11_lots_65 h (fun c12 h => ?_) (fun c12 h => ?_)
  · exact z_sub [] rfl (p_X11_lots_68 hR  s9 h)
  · refine z_aload e_X11_lots_72 0 rfl ?_
    refine z_getr gf_X11_86_0 e_X11_lots_73 ?_
    refine z_aload e_X11_lots_76 0 rfl ?_
    refine z_getr gf_X11_39_0 e_X11_lots_77 ?_
    refine z_iload e_X11_lots_80 1 rfl ?_
    obtain ⟨q14, s13, e15, h⟩ := bd_e h
    refine z_callVi (c0 := 63) (As := [.ref (zad G 33), .int x1]) (rest := []) lk_X11_240 ob_63 e_X11_lots_81 (m_X2_read G x1 s9 _ _ e15) (by decide) rfl (Nat.le_of_ble_eq_true rfl) ?_
    refine z_if_eq e_X11_lots_84 h (fun c16 h => ?_) (fun c16 h => ?_)
    · refine z_ldc2 cs_X11_247 e_X11_lots_98 ?_
      cases h
      exact z_lreturn hR e_X11_lots_101
    · refine z_aload e_X11_lots_87 0 rfl ?_
      refine z_getr gf_X11_86_0 e_X11_lots_88 ?_
      refine z_iload e_X11_lots_91 2 rfl ?_
      obtain ⟨q18, s17, e19, h⟩ := bd_e h
      refine z_callVl (c0 := 63) (As := [.int x2]) (rest := []) lk_X11_243 ob_63 e_X11_lots_92 (m_X2_answer G x2 s13 _ _ e19) (by decide) rfl (Nat.le_of_ble_eq_true rfl) ?_
      refine z_goto e_X11_lots_95 ?_
      cases h
      exact z_lreturn hR e_X11_lots_101
noncomputable def F_X11_lots_0 (x1 : Int32) (x2 : Int32) (σ : zSt) : Option (Int64 × zSt) :=
  nm (if x2 < (10 : Int32) then (if x2 < (20 : Int32) then (0 : Int32) else (if ((20 : Int32) + x1) ≤ x2 then (0 : Int32) else (1 : Int32))) else (if x2 < ((10 : Int32) + x1) then (1 : Int32) else (if x2 < (20 : Int32) then (0 : Int32) else (if ((20 : Int32) + x1) ≤ x2 then (0 : Int32) else (1 : Int32))))) (fun v1 =>
    if x1 < (1 : Int32) then (
      F_X11_lots_68  σ)
    else (
      if (6 : Int32) < x1 then (
        F_X11_lots_68  σ)
      else (
        bd (F_X11_isBelow x2 (2 : Int32) σ) (fun q5 s4 =>
          if q5 = 0 then (
            if v1 = 0 then (
              F_X11_lots_68  s4)
            else (
              F_X11_lots_57 x1 x2 s4))
          else (
            F_X11_lots_57 x1 x2 s4)))))
set_option maxHeartbeats 4000000 in
set_option maxRecDepth 100000 in
theorem p_X11_lots_0 {G : zG} {C : zC} {r : Int64} {τ : zSt} (hR : zR G C (some .long) (some (.long r)) τ) (x1 : Int32) (x2 : Int32) (σ : zSt) (h : F_X11_lots_0 x1 x2 σ = some (r, τ)) : zAW G 4 RX11 cX11_lots 4 C 0 [(0, .ref (zad G 0)), (1, .int x1), (2, .int x2)] [] σ := by
  unfold F_X11_lots_0 at h
  refine z_iload e_X11_lots_0 2 rfl ?_
  refine z_ic e_X11_lots_1 ?_
  obtain ⟨v1, ev1, h⟩ := nm_i h
  have jv1 : zAW G 4 RX11 cX11_lots 4 C 33 [(0, .ref (zad G 0)), (1, .int x1), (2, .int x2)] [.int v1] σ := by
    refine z_istore e_X11_lots_33 (by decide) [(3, .int v1), (0, .ref (zad G 0)), (1, .int x1), (2, .int x2)] rfl ?_
    refine z_iload e_X11_lots_34 2 rfl ?_
    refine z_ic e_X11_lots_35 ?_
    refine z_icmp_lt e_X11_lots_36 h (fun c2 h => ?_) (fun c2 h => ?_)
    · exact z_sub [] rfl (p_X11_lots_68 hR  σ h)
    · refine z_iload e_X11_lots_39 2 rfl ?_
      refine z_ic e_X11_lots_40 ?_
      refine z_icmp_gt e_X11_lots_42 h (fun c3 h => ?_) (fun c3 h => ?_)
      · exact z_sub [] rfl (p_X11_lots_68 hR  σ h)
      · refine z_iload e_X11_lots_45 3 rfl ?_
        refine z_ic e_X11_lots_46 ?_
        obtain ⟨q5, s4, e6, h⟩ := bd_e h
        refine z_callSi (As := [.int x2, .int (2 : Int32)]) (rest := []) lk_X11_104 e_X11_lots_47 (m_X11_isBelow G x2 (2 : Int32) σ _ _ e6) (by decide) rfl (Nat.le_of_ble_eq_true rfl) ?_
        refine z_if_ne e_X11_lots_50 h (fun c7 h => ?_) (fun c7 h => ?_)
        · refine z_iload e_X11_lots_53 0 rfl ?_
          refine z_if_eq e_X11_lots_54 h (fun c8 h => ?_) (fun c8 h => ?_)
          · exact z_sub [] rfl (p_X11_lots_68 hR  s4 h)
          · exact z_sub [1, 2, 3] rfl (p_X11_lots_57 hR x1 x2 s4 h)
        · exact z_sub [1, 2, 3] rfl (p_X11_lots_57 hR x1 x2 s4 h)
  refine y_icmp_lt e_X11_lots_3 (fun c20 => ?_) (fun c20 => ?_)
  · refine z_iload e_X11_lots_14 2 rfl ?_
    refine z_ic e_X11_lots_15 ?_
    refine y_icmp_lt e_X11_lots_17 (fun c21 => ?_) (fun c21 => ?_)
    · refine z_ic e_X11_lots_32 ?_
      rw [if_pos c20, if_pos c21] at ev1
      subst ev1
      exact z_sub [0, 1, 2] rfl jv1
    · refine z_iload e_X11_lots_20 2 rfl ?_
      refine z_ic e_X11_lots_21 ?_
      refine z_iload e_X11_lots_23 1 rfl ?_
      refine z_iadd e_X11_lots_24 ?_
      refine y_icmp_ge e_X11_lots_25 (fun c22 => ?_) (fun c22 => ?_)
      · refine z_ic e_X11_lots_32 ?_
        rw [if_pos c20, if_neg c21, if_pos c22] at ev1
        subst ev1
        exact z_sub [0, 1, 2] rfl jv1
      · refine z_ic e_X11_lots_28 ?_
        refine z_goto e_X11_lots_29 ?_
        rw [if_pos c20, if_neg c21, if_neg c22] at ev1
        subst ev1
        exact z_sub [0, 1, 2] rfl jv1
  · refine z_iload e_X11_lots_6 2 rfl ?_
    refine z_ic e_X11_lots_7 ?_
    refine z_iload e_X11_lots_9 1 rfl ?_
    refine z_iadd e_X11_lots_10 ?_
    refine y_icmp_lt e_X11_lots_11 (fun c23 => ?_) (fun c23 => ?_)
    · refine z_ic e_X11_lots_28 ?_
      refine z_goto e_X11_lots_29 ?_
      rw [if_neg c20, if_pos c23] at ev1
      subst ev1
      exact z_sub [0, 1, 2] rfl jv1
    · refine z_iload e_X11_lots_14 2 rfl ?_
      refine z_ic e_X11_lots_15 ?_
      refine y_icmp_lt e_X11_lots_17 (fun c24 => ?_) (fun c24 => ?_)
      · refine z_ic e_X11_lots_32 ?_
        rw [if_neg c20, if_neg c23, if_pos c24] at ev1
        subst ev1
        exact z_sub [0, 1, 2] rfl jv1
      · refine z_iload e_X11_lots_20 2 rfl ?_
        refine z_ic e_X11_lots_21 ?_
        refine z_iload e_X11_lots_23 1 rfl ?_
        refine z_iadd e_X11_lots_24 ?_
        refine y_icmp_ge e_X11_lots_25 (fun c25 => ?_) (fun c25 => ?_)
        · refine z_ic e_X11_lots_32 ?_
          rw [if_neg c20, if_neg c23, if_neg c24, if_pos c25] at ev1
          subst ev1
          exact z_sub [0, 1, 2] rfl jv1
        · refine z_ic e_X11_lots_28 ?_
          refine z_goto e_X11_lots_29 ?_
          rw [if_neg c20, if_neg c23, if_neg c24, if_neg c25] at ev1
          subst ev1
          exact z_sub [0, 1, 2] rfl jv1
noncomputable def F_X11_lots (x1 : Int32) (x2 : Int32) (σ : zSt) : Option (Int64 × zSt) := F_X11_lots_0 x1 x2 σ
set_option maxRecDepth 100000 in
theorem m_X11_lots (G : zG) (x1 : Int32) (x2 : Int32) (σ : zSt) (q : Int64) (τ : zSt) (h : F_X11_lots x1 x2 σ = some (q, τ)) : zM G 4 yX11_lots cX11_lots 4 (some .long) [.ref (zad G 0), .int x1, .int x2] σ (some (.long q)) τ := by
  unfold F_X11_lots at h
  refine zM.of (own := RX11) (by decide +kernel) rfl (Nat.le_of_ble_eq_true rfl) (fun C hR => ?_)
  exact z_sub [0, 1, 2] rfl (p_X11_lots_0 hR x1 x2 σ h)
noncomputable def F_X12_lots_53 (σ : zSt) : Option (Int64 × zSt) :=
  some ((-1 : Int64), σ)
set_option maxHeartbeats 4000000 in
set_option maxRecDepth 100000 in
theorem p_X12_lots_53 {G : zG} {C : zC} {r : Int64} {τ : zSt} (hR : zR G C (some .long) (some (.long r)) τ)  (σ : zSt) (h : F_X12_lots_53 σ = some (r, τ)) : zAW G 3 RX12 cX12_lots 8 C 53 [] [] σ := by
  unfold F_X12_lots_53 at h
  refine z_ldc2 cs_X12_439 e_X12_lots_53 ?_
  cases h
  exact z_lreturn hR e_X12_lots_56
noncomputable def F_X12_lots_143 (x2 : Int32) (x3 : Int64) (x5 : Int64) (σ : zSt) : Option (Int64 × zSt) :=
  if (2 : Int32) ≤ x2 then (
    gd (vp_in (x2 % (10 : Int32)) 260) (
      gd (¬ (σ.1 76 (x2 % (10 : Int32)).toNatClampNeg).toInt64 = 0) (
        bd (F_X12_through (x3 / (σ.1 76 (x2 % (10 : Int32)).toNatClampNeg).toInt64) x5 ((x2 / (10 : Int32)) - (1 : Int32)) σ) (fun q24 s23 =>
          some (q24, s23)))))
  else (
    bd (F_X12_through x3 x5 x2 σ) (fun q27 s26 =>
      some (q27, s26)))
set_option maxHeartbeats 4000000 in
set_option maxRecDepth 100000 in
theorem p_X12_lots_143 {G : zG} {C : zC} {r : Int64} {τ : zSt} (hR : zR G C (some .long) (some (.long r)) τ) (x2 : Int32) (x3 : Int64) (x5 : Int64) (σ : zSt) (h : F_X12_lots_143 x2 x3 x5 σ = some (r, τ)) : zAW G 3 RX12 cX12_lots 8 C 143 [(0, .ref (zad G 69)), (2, .int x2), (3, .long x3), (5, .long x5)] [] σ := by
  unfold F_X12_lots_143 at h
  refine z_iload e_X12_lots_143 1 rfl ?_
  refine z_ic e_X12_lots_144 ?_
  refine z_icmp_ge e_X12_lots_145 h (fun c21 h => ?_) (fun c21 h => ?_)
  · refine z_lload e_X12_lots_158 2 rfl ?_
    refine z_aload e_X12_lots_159 0 rfl ?_
    refine z_getr gf_X12_28_69 e_X12_lots_160 ?_
    refine z_iload e_X12_lots_163 1 rfl ?_
    refine z_ic e_X12_lots_164 ?_
    refine z_irem e_X12_lots_166 (by decide) ?_
    refine z_bald sh_76 e_X12_lots_167 h (fun h => ?_)
    refine z_i2l e_X12_lots_168 ?_
    obtain ⟨hy22, h⟩ := gd_e h
    refine z_ldiv e_X12_lots_169 hy22 ?_
    refine z_lload e_X12_lots_170 3 rfl ?_
    refine z_iload e_X12_lots_172 1 rfl ?_
    refine z_ic e_X12_lots_173 ?_
    refine z_idiv e_X12_lots_175 (by decide) ?_
    refine z_ic e_X12_lots_176 ?_
    refine z_isub e_X12_lots_177 ?_
    obtain ⟨q24, s23, e25, h⟩ := bd_e h
    refine z_callSl (As := [.long (x3 / (σ.1 76 (x2 % (10 : Int32)).toNatClampNeg).toInt64), .long x5, .int ((x2 / (10 : Int32)) - (1 : Int32))]) (rest := []) lk_X12_455 e_X12_lots_178 (m_X12_through G (x3 / (σ.1 76 (x2 % (10 : Int32)).toNatClampNeg).toInt64) x5 ((x2 / (10 : Int32)) - (1 : Int32)) σ _ _ e25) (by decide) rfl (Nat.le_of_ble_eq_true rfl) ?_
    cases h
    exact z_lreturn hR e_X12_lots_181
  · refine z_lload e_X12_lots_148 2 rfl ?_
    refine z_lload e_X12_lots_149 3 rfl ?_
    refine z_iload e_X12_lots_151 1 rfl ?_
    obtain ⟨q27, s26, e28, h⟩ := bd_e h
    refine z_callSl (As := [.long x3, .long x5, .int x2]) (rest := []) lk_X12_455 e_X12_lots_152 (m_X12_through G x3 x5 x2 σ _ _ e28) (by decide) rfl (Nat.le_of_ble_eq_true rfl) ?_
    refine z_goto e_X12_lots_155 ?_
    cases h
    exact z_lreturn hR e_X12_lots_181
noncomputable def F_X12_lots_116 (x1 : Int32) (x2 : Int32) (x3 : Int64) (w116 : (Int64 × Int32 × zSt) → Option (Int64 × zSt)) (x5 : Int64) (x7 : Int32) (σ : zSt) : Option (Int64 × zSt) :=
  if x1 ≤ x7 then (
    F_X12_lots_143 x2 x3 x5 σ)
  else (
    gd (vp_in x7 260) (
      gd (¬ (σ.1 76 x7.toNatClampNeg).toInt64 = 0) (
        nm (x5 + (x3 / (σ.1 76 x7.toNatClampNeg).toInt64)) (fun v30 =>
          nm (x7 + (1 : Int32)) (fun v31 =>
            w116 (v30, v31, σ))))))
set_option maxHeartbeats 4000000 in
set_option maxRecDepth 100000 in
theorem b_X12_lots_116 {G : zG} {C : zC} {r : Int64} {τ : zSt} (hR : zR G C (some .long) (some (.long r)) τ) (x1 : Int32) (x2 : Int32) (x3 : Int64) (w116 : (Int64 × Int32 × zSt) → Option (Int64 × zSt)) (hw116 : ∀ (x5 : Int64) (x7 : Int32) (σ : zSt), w116 (x5, x7, σ) = some (r, τ) → zAW G 3 RX12 cX12_lots 8 C 116 [(0, .ref (zad G 69)), (1, .int x1), (2, .int x2), (3, .long x3), (5, .long x5), (7, .int x7)] [] σ) (x5 : Int64) (x7 : Int32) (σ : zSt) (h : F_X12_lots_116 x1 x2 x3 w116 x5 x7 σ = some (r, τ)) : zAW G 3 RX12 cX12_lots 8 C 116 [(0, .ref (zad G 69)), (1, .int x1), (2, .int x2), (3, .long x3), (5, .long x5), (7, .int x7)] [] σ := by
  unfold F_X12_lots_116 at h
  refine z_iload e_X12_lots_116 5 rfl ?_
  refine z_iload e_X12_lots_118 1 rfl ?_
  refine z_icmp_ge e_X12_lots_119 h (fun c20 h => ?_) (fun c20 h => ?_)
  · exact z_sub [0, 2, 3, 4] rfl (p_X12_lots_143 hR x2 x3 x5 σ h)
  · refine z_lload e_X12_lots_122 4 rfl ?_
    refine z_lload e_X12_lots_124 3 rfl ?_
    refine z_aload e_X12_lots_125 0 rfl ?_
    refine z_getr gf_X12_28_69 e_X12_lots_126 ?_
    refine z_iload e_X12_lots_129 5 rfl ?_
    refine z_bald sh_76 e_X12_lots_131 h (fun h => ?_)
    refine z_i2l e_X12_lots_132 ?_
    obtain ⟨hy29, h⟩ := gd_e h
    refine z_ldiv e_X12_lots_133 hy29 ?_
    refine z_ladd e_X12_lots_134 ?_
    refine z_nmL h (fun v30 h => ?_)
    refine z_lstore e_X12_lots_135 (by decide) [(5, .long v30), (0, .ref (zad G 69)), (1, .int x1), (2, .int x2), (3, .long x3), (7, .int x7)] rfl ?_
    refine z_iinc e_X12_lots_137 5 rfl (by decide) (by decide) h (fun y => [(7, .int y), (5, .long v30), (0, .ref (zad G 69)), (1, .int x1), (2, .int x2), (3, .long x3)]) (fun _ => rfl) (fun v31 h => ?_)
    refine z_goto e_X12_lots_140 ?_
    exact z_sub [2, 3, 4, 5, 1, 0] rfl (hw116 v30 v31 σ h)
noncomputable def F_X12_lots_116L (x1 : Int32) (x2 : Int32) (x3 : Int64) : ((Int64 × Int32 × zSt) → Option (Int64 × zSt)) → (Int64 × Int32 × zSt) → Option (Int64 × zSt) := fun w s => F_X12_lots_116 x1 x2 x3 w s.1 s.2.1 s.2.2
set_option maxRecDepth 100000 in
theorem l_X12_lots_116 {G : zG} {C : zC} {r : Int64} {τ : zSt} (hR : zR G C (some .long) (some (.long r)) τ) (x1 : Int32) (x2 : Int32) (x3 : Int64) : ∀ (N : Nat) (x5 : Int64) (x7 : Int32) (σ : zSt), zfix (F_X12_lots_116L x1 x2 x3) N (x5, x7, σ) = some (r, τ) → zAW G 3 RX12 cX12_lots 8 C 116 [(0, .ref (zad G 69)), (1, .int x1), (2, .int x2), (3, .long x3), (5, .long x5), (7, .int x7)] [] σ := by
  intro N
  induction N with
  | zero =>
    intro x5 x7 σ h
    exact nomatch (show (none : Option (Int64 × zSt)) = some (r, τ) from h)
  | succ N ih =>
    intro x5 x7 σ h
    exact b_X12_lots_116 hR x1 x2 x3 (zfix (F_X12_lots_116L x1 x2 x3) N) ih x5 x7 σ h
noncomputable def F_X12_lots_110 (x1 : Int32) (x2 : Int32) (x3 : Int64) (σ : zSt) : Option (Int64 × zSt) :=
  zfix (F_X12_lots_116L x1 x2 x3) zlim ((0 : Int64), (0 : Int32), σ)
set_option maxHeartbeats 4000000 in
set_option maxRecDepth 100000 in
theorem p_X12_lots_110 {G : zG} {C : zC} {r : Int64} {τ : zSt} (hR : zR G C (some .long) (some (.long r)) τ) (x1 : Int32) (x2 : Int32) (x3 : Int64) (σ : zSt) (h : F_X12_lots_110 x1 x2 x3 σ = some (r, τ)) : zAW G 3 RX12 cX12_lots 8 C 110 [(0, .ref (zad G 69)), (1, .int x1), (2, .int x2), (3, .long x3)] [] σ := by
  unfold F_X12_lots_110 at h
  refine z_lconst 0 e_X12_lots_110 rfl ?_
  refine z_lstore e_X12_lots_111 (by decide) [(5, .long (0 : Int64)), (0, .ref (zad G 69)), (1, .int x1), (2, .int x2), (3, .long x3)] rfl ?_
  refine z_ic e_X12_lots_113 ?_
  refine z_istore e_X12_lots_114 (by decide) [(7, .int (0 : Int32)), (5, .long (0 : Int64)), (0, .ref (zad G 69)), (1, .int x1), (2, .int x2), (3, .long x3)] rfl ?_
  exact z_sub [2, 3, 4, 5, 1, 0] rfl (l_X12_lots_116 hR x1 x2 x3 zlim (0 : Int64) (0 : Int32) σ h)
noncomputable def F_X12_lots_89 (σ : zSt) : Option (Int64 × zSt) :=
  some ((-2 : Int64), σ)
set_option maxHeartbeats 4000000 in
set_option maxRecDepth 100000 in
theorem p_X12_lots_89 {G : zG} {C : zC} {r : Int64} {τ : zSt} (hR : zR G C (some .long) (some (.long r)) τ)  (σ : zSt) (h : F_X12_lots_89 σ = some (r, τ)) : zAW G 3 RX12 cX12_lots 8 C 89 [] [] σ := by
  unfold F_X12_lots_89 at h
  refine z_ldc2 cs_X12_453 e_X12_lots_89 ?_
  cases h
  exact z_lreturn hR e_X12_lots_92
noncomputable def F_X12_lots_67 (x1 : Int32) (x2 : Int32) (w67 : (Int64 × Int32 × zSt) → Option (Int64 × zSt)) (x3 : Int64) (x5 : Int32) (σ : zSt) : Option (Int64 × zSt) :=
  if x1 ≤ x5 then (
    F_X12_lots_110 x1 x2 x3 σ)
  else (
    gd (vp_in x5 260) (
      bd (F_X12_in (σ.1 76 x5.toNatClampNeg) (1 : Int32) (99 : Int32) σ) (fun q33 s32 =>
        if q33 = 0 then (
          F_X12_lots_89  s32)
        else (
          gd (vp_in x5 260) (
            nm (x3 * (s32.1 76 x5.toNatClampNeg).toInt64) (fun v36 =>
              nm (x5 + (1 : Int32)) (fun v37 =>
                w67 (v36, v37, s32))))))))
set_option maxHeartbeats 4000000 in
set_option maxRecDepth 100000 in
theorem b_X12_lots_67 {G : zG} {C : zC} {r : Int64} {τ : zSt} (hR : zR G C (some .long) (some (.long r)) τ) (x1 : Int32) (x2 : Int32) (w67 : (Int64 × Int32 × zSt) → Option (Int64 × zSt)) (hw67 : ∀ (x3 : Int64) (x5 : Int32) (σ : zSt), w67 (x3, x5, σ) = some (r, τ) → zAW G 3 RX12 cX12_lots 8 C 67 [(0, .ref (zad G 69)), (1, .int x1), (2, .int x2), (3, .long x3), (5, .int x5)] [] σ) (x3 : Int64) (x5 : Int32) (σ : zSt) (h : F_X12_lots_67 x1 x2 w67 x3 x5 σ = some (r, τ)) : zAW G 3 RX12 cX12_lots 8 C 67 [(0, .ref (zad G 69)), (1, .int x1), (2, .int x2), (3, .long x3), (5, .int x5)] [] σ := by
  unfold F_X12_lots_67 at h
  refine z_iload e_X12_lots_67 4 rfl ?_
  refine z_iload e_X12_lots_69 1 rfl ?_
  refine z_icmp_ge e_X12_lots_70 h (fun c19 h => ?_) (fun c19 h => ?_)
  · exact z_sub [0, 1, 2, 3] rfl (p_X12_lots_110 hR x1 x2 x3 σ h)
  · refine z_aload e_X12_lots_73 0 rfl ?_
    refine z_getr gf_X12_28_69 e_X12_lots_74 ?_
    refine z_iload e_X12_lots_77 4 rfl ?_
    refine z_bald sh_76 e_X12_lots_79 h (fun h => ?_)
    refine z_ic e_X12_lots_80 ?_
    refine z_ic e_X12_lots_81 ?_
    obtain ⟨q33, s32, e34, h⟩ := bd_e h
    refine z_callSi (As := [.int (σ.1 76 x5.toNatClampNeg), .int (1 : Int32), .int (99 : Int32)]) (rest := []) lk_X12_163 e_X12_lots_83 (m_X12_in G (σ.1 76 x5.toNatClampNeg) (1 : Int32) (99 : Int32) σ _ _ e34) (by decide) rfl (Nat.le_of_ble_eq_true rfl) ?_
    refine z_if_ne e_X12_lots_86 h (fun c35 h => ?_) (fun c35 h => ?_)
    · exact z_sub [] rfl (p_X12_lots_89 hR  s32 h)
    · refine z_lload e_X12_lots_93 3 rfl ?_
      refine z_aload e_X12_lots_94 0 rfl ?_
      refine z_getr gf_X12_28_69 e_X12_lots_95 ?_
      refine z_iload e_X12_lots_98 4 rfl ?_
      refine z_bald sh_76 e_X12_lots_100 h (fun h => ?_)
      refine z_i2l e_X12_lots_101 ?_
      refine z_lmul e_X12_lots_102 ?_
      refine z_nmL h (fun v36 h => ?_)
      refine z_lstore e_X12_lots_103 (by decide) [(3, .long v36), (0, .ref (zad G 69)), (1, .int x1), (2, .int x2), (5, .int x5)] rfl ?_
      refine z_iinc e_X12_lots_104 4 rfl (by decide) (by decide) h (fun y => [(5, .int y), (3, .long v36), (0, .ref (zad G 69)), (1, .int x1), (2, .int x2)]) (fun _ => rfl) (fun v37 h => ?_)
      refine z_goto e_X12_lots_107 ?_
      exact z_sub [2, 3, 4, 1, 0] rfl (hw67 v36 v37 s32 h)
noncomputable def F_X12_lots_67L (x1 : Int32) (x2 : Int32) : ((Int64 × Int32 × zSt) → Option (Int64 × zSt)) → (Int64 × Int32 × zSt) → Option (Int64 × zSt) := fun w s => F_X12_lots_67 x1 x2 w s.1 s.2.1 s.2.2
set_option maxRecDepth 100000 in
theorem l_X12_lots_67 {G : zG} {C : zC} {r : Int64} {τ : zSt} (hR : zR G C (some .long) (some (.long r)) τ) (x1 : Int32) (x2 : Int32) : ∀ (N : Nat) (x3 : Int64) (x5 : Int32) (σ : zSt), zfix (F_X12_lots_67L x1 x2) N (x3, x5, σ) = some (r, τ) → zAW G 3 RX12 cX12_lots 8 C 67 [(0, .ref (zad G 69)), (1, .int x1), (2, .int x2), (3, .long x3), (5, .int x5)] [] σ := by
  intro N
  induction N with
  | zero =>
    intro x3 x5 σ h
    exact nomatch (show (none : Option (Int64 × zSt)) = some (r, τ) from h)
  | succ N ih =>
    intro x3 x5 σ h
    exact b_X12_lots_67 hR x1 x2 (zfix (F_X12_lots_67L x1 x2) N) ih x3 x5 σ h
noncomputable def F_X12_lots_57 (x1 : Int32) (x2 : Int32) (σ : zSt) : Option (Int64 × zSt) :=
  nm (zwr σ 69 14 (0 : Int32)) (fun s18 =>
    zfix (F_X12_lots_67L x1 x2) zlim ((1 : Int64), (0 : Int32), s18))
set_option maxHeartbeats 4000000 in
set_option maxRecDepth 100000 in
theorem p_X12_lots_57 {G : zG} {C : zC} {r : Int64} {τ : zSt} (hR : zR G C (some .long) (some (.long r)) τ) (x1 : Int32) (x2 : Int32) (σ : zSt) (h : F_X12_lots_57 x1 x2 σ = some (r, τ)) : zAW G 3 RX12 cX12_lots 8 C 57 [(0, .ref (zad G 69)), (1, .int x1), (2, .int x2)] [] σ := by
  unfold F_X12_lots_57 at h
  refine z_aload e_X12_lots_57 0 rfl ?_
  refine z_ic e_X12_lots_58 ?_
  refine z_puti pf_X12_186_69 e_X12_lots_59 h (fun s18 h => ?_)
  refine z_lconst 1 e_X12_lots_62 rfl ?_
  refine z_lstore e_X12_lots_63 (by decide) [(3, .long (1 : Int64)), (0, .ref (zad G 69)), (1, .int x1), (2, .int x2)] rfl ?_
  refine z_ic e_X12_lots_64 ?_
  refine z_istore e_X12_lots_65 (by decide) [(5, .int (0 : Int32)), (3, .long (1 : Int64)), (0, .ref (zad G 69)), (1, .int x1), (2, .int x2)] rfl ?_
  exact z_sub [2, 3, 4, 1, 0] rfl (l_X12_lots_67 hR x1 x2 zlim (1 : Int64) (0 : Int32) s18 h)
noncomputable def F_X12_lots_0 (x1 : Int32) (x2 : Int32) (σ : zSt) : Option (Int64 × zSt) :=
  bd (F_X12_in x1 (1 : Int32) (6 : Int32) σ) (fun q2 s1 =>
    if q2 = 0 then (
      F_X12_lots_53  s1)
    else (
      if (s1.1 69 14) < x1 then (
        F_X12_lots_53  s1)
      else (
        bd (F_X12_in x2 (0 : Int32) (1 : Int32) s1) (fun q7 s6 =>
          if q7 = 0 then (
            bd (F_X12_in x2 (10 : Int32) ((9 : Int32) + x1) s6) (fun q11 s10 =>
              if q11 = 0 then (
                bd (F_X12_in x2 (20 : Int32) ((19 : Int32) + x1) s10) (fun q15 s14 =>
                  if q15 = 0 then (
                    F_X12_lots_53  s14)
                  else (
                    F_X12_lots_57 x1 x2 s14)))
              else (
                F_X12_lots_57 x1 x2 s10)))
          else (
            F_X12_lots_57 x1 x2 s6)))))
set_option maxHeartbeats 4000000 in
set_option maxRecDepth 100000 in
theorem p_X12_lots_0 {G : zG} {C : zC} {r : Int64} {τ : zSt} (hR : zR G C (some .long) (some (.long r)) τ) (x1 : Int32) (x2 : Int32) (σ : zSt) (h : F_X12_lots_0 x1 x2 σ = some (r, τ)) : zAW G 3 RX12 cX12_lots 8 C 0 [(0, .ref (zad G 69)), (1, .int x1), (2, .int x2)] [] σ := by
  unfold F_X12_lots_0 at h
  refine z_iload e_X12_lots_0 1 rfl ?_
  refine z_ic e_X12_lots_1 ?_
  refine z_ic e_X12_lots_2 ?_
  obtain ⟨q2, s1, e3, h⟩ := bd_e h
  refine z_callSi (As := [.int x1, .int (1 : Int32), .int (6 : Int32)]) (rest := []) lk_X12_163 e_X12_lots_4 (m_X12_in G x1 (1 : Int32) (6 : Int32) σ _ _ e3) (by decide) rfl (Nat.le_of_ble_eq_true rfl) ?_
  refine z_if_eq e_X12_lots_7 h (fun c4 h => ?_) (fun c4 h => ?_)
  · exact z_sub [] rfl (p_X12_lots_53 hR  s1 h)
  · refine z_iload e_X12_lots_10 1 rfl ?_
    refine z_aload e_X12_lots_11 0 rfl ?_
    refine z_geti gf_X12_186_69 e_X12_lots_12 ?_
    refine z_icmp_gt e_X12_lots_15 h (fun c5 h => ?_) (fun c5 h => ?_)
    · exact z_sub [] rfl (p_X12_lots_53 hR  s1 h)
    · refine z_iload e_X12_lots_18 2 rfl ?_
      refine z_ic e_X12_lots_19 ?_
      refine z_ic e_X12_lots_20 ?_
      obtain ⟨q7, s6, e8, h⟩ := bd_e h
      refine z_callSi (As := [.int x2, .int (0 : Int32), .int (1 : Int32)]) (rest := []) lk_X12_163 e_X12_lots_21 (m_X12_in G x2 (0 : Int32) (1 : Int32) s1 _ _ e8) (by decide) rfl (Nat.le_of_ble_eq_true rfl) ?_
      refine z_if_ne e_X12_lots_24 h (fun c9 h => ?_) (fun c9 h => ?_)
      · refine z_iload e_X12_lots_27 2 rfl ?_
        refine z_ic e_X12_lots_28 ?_
        refine z_ic e_X12_lots_30 ?_
        refine z_iload e_X12_lots_32 1 rfl ?_
        refine z_iadd e_X12_lots_33 ?_
        obtain ⟨q11, s10, e12, h⟩ := bd_e h
        refine z_callSi (As := [.int x2, .int (10 : Int32), .int ((9 : Int32) + x1)]) (rest := []) lk_X12_163 e_X12_lots_34 (m_X12_in G x2 (10 : Int32) ((9 : Int32) + x1) s6 _ _ e12) (by decide) rfl (Nat.le_of_ble_eq_true rfl) ?_
        refine z_if_ne e_X12_lots_37 h (fun c13 h => ?_) (fun c13 h => ?_)
        · refine z_iload e_X12_lots_40 2 rfl ?_
          refine z_ic e_X12_lots_41 ?_
          refine z_ic e_X12_lots_43 ?_
          refine z_iload e_X12_lots_45 1 rfl ?_
          refine z_iadd e_X12_lots_46 ?_
          obtain ⟨q15, s14, e16, h⟩ := bd_e h
          refine z_callSi (As := [.int x2, .int (20 : Int32), .int ((19 : Int32) + x1)]) (rest := []) lk_X12_163 e_X12_lots_47 (m_X12_in G x2 (20 : Int32) ((19 : Int32) + x1) s10 _ _ e16) (by decide) rfl (Nat.le_of_ble_eq_true rfl) ?_
          refine z_if_ne e_X12_lots_50 h (fun c17 h => ?_) (fun c17 h => ?_)
          · exact z_sub [] rfl (p_X12_lots_53 hR  s14 h)
          · exact z_sub [0, 1, 2] rfl (p_X12_lots_57 hR x1 x2 s14 h)
        · exact z_sub [0, 1, 2] rfl (p_X12_lots_57 hR x1 x2 s10 h)
      · exact z_sub [0, 1, 2] rfl (p_X12_lots_57 hR x1 x2 s6 h)
noncomputable def F_X12_lots (x1 : Int32) (x2 : Int32) (σ : zSt) : Option (Int64 × zSt) := F_X12_lots_0 x1 x2 σ
set_option maxRecDepth 100000 in
theorem m_X12_lots (G : zG) (x1 : Int32) (x2 : Int32) (σ : zSt) (q : Int64) (τ : zSt) (h : F_X12_lots x1 x2 σ = some (q, τ)) : zM G 3 yX12_lots cX12_lots 8 (some .long) [.ref (zad G 69), .int x1, .int x2] σ (some (.long q)) τ := by
  unfold F_X12_lots at h
  refine zM.of (own := RX12) (by decide +kernel) rfl (Nat.le_of_ble_eq_true rfl) (fun C hR => ?_)
  exact z_sub [0, 1, 2] rfl (p_X12_lots_0 hR x1 x2 σ h)
noncomputable def F_X0_isTold_0 (x1 : Int32) (σ : zSt) : Option (Int32 × zSt) :=
  bd (F_X11_isBelow x1 (8 : Int32) σ) (fun q2 s1 =>
    if q2 = 0 then (
      some ((0 : Int32), s1))
    else (
      if (((s1.1 65 0) >>> (x1 &&& 31)) &&& (1 : Int32)) = (1 : Int32) then (
        some ((1 : Int32), s1))
      else (
        some ((0 : Int32), s1))))
set_option maxHeartbeats 4000000 in
set_option maxRecDepth 100000 in
theorem p_X0_isTold_0 {G : zG} {C : zC} {r : Int32} {τ : zSt} (hR : zR G C (some .boolean) (some (.int r)) τ) (x1 : Int32) (σ : zSt) (h : F_X0_isTold_0 x1 σ = some (r, τ)) : zAW G 2 RX0 cX0_isTold 2 C 0 [(0, .ref (zad G 65)), (1, .int x1)] [] σ := by
  unfold F_X0_isTold_0 at h
  refine z_iload e_X0_isTold_0 1 rfl ?_
  refine z_ic e_X0_isTold_1 ?_
  obtain ⟨q2, s1, e3, h⟩ := bd_e h
  refine z_callNi (As := [.int x1, .int (8 : Int32)]) (rest := []) lk_X0_15 e_X0_isTold_3 (m_X11_isBelow G x1 (8 : Int32) σ _ _ e3) (by decide) rfl (Nat.le_of_ble_eq_true rfl) ?_
  refine z_if_eq e_X0_isTold_6 h (fun c4 h => ?_) (fun c4 h => ?_)
  · refine z_ic e_X0_isTold_25 ?_
    cases h
    exact z_zreturn hR e_X0_isTold_26 (Or.inl rfl)
  · refine z_aload e_X0_isTold_9 0 rfl ?_
    refine z_geti gf_X0_23_65 e_X0_isTold_10 ?_
    refine z_iload e_X0_isTold_13 1 rfl ?_
    refine z_ishr e_X0_isTold_14 ?_
    refine z_ic e_X0_isTold_15 ?_
    refine z_iand e_X0_isTold_16 ?_
    refine z_ic e_X0_isTold_17 ?_
    refine z_icmp_ne e_X0_isTold_18 h (fun c5 h => ?_) (fun c5 h => ?_)
    · refine z_ic e_X0_isTold_21 ?_
      refine z_goto e_X0_isTold_22 ?_
      cases h
      exact z_zreturn hR e_X0_isTold_26 (Or.inr rfl)
    · refine z_ic e_X0_isTold_25 ?_
      cases h
      exact z_zreturn hR e_X0_isTold_26 (Or.inl rfl)
noncomputable def F_X0_isTold (x1 : Int32) (σ : zSt) : Option (Int32 × zSt) := F_X0_isTold_0 x1 σ
set_option maxRecDepth 100000 in
theorem m_X0_isTold (G : zG) (x1 : Int32) (σ : zSt) (q : Int32) (τ : zSt) (h : F_X0_isTold x1 σ = some (q, τ)) : zM G 2 yX0_isTold cX0_isTold 2 (some .boolean) [.ref (zad G 65), .int x1] σ (some (.int q)) τ := by
  unfold F_X0_isTold at h
  refine zM.of (own := RX0) (by decide +kernel) rfl (Nat.le_of_ble_eq_true rfl) (fun C hR => ?_)
  exact z_sub [0, 1] rfl (p_X0_isTold_0 hR x1 σ h)
noncomputable def F_X0_tell_0 (x1 : Int32) (x2 : Int32) (σ : zSt) : Option (Int32 × zSt) :=
  bd (F_X11_isBelow x1 (8 : Int32) σ) (fun q2 s1 =>
    if q2 = 0 then (
      some ((0 : Int32), s1))
    else (
      bd (F_X0_isTold x1 s1) (fun q6 s5 =>
        if q6 = x2 then (
          some ((0 : Int32), s5))
        else (
          nm (zwr s5 65 0 ((s5.1 65 0) ^^^ ((1 : Int32) <<< (x1 &&& 31)))) (fun s9 =>
            some ((1 : Int32), s9))))))
set_option maxHeartbeats 4000000 in
set_option maxRecDepth 100000 in
theorem p_X0_tell_0 {G : zG} {C : zC} {r : Int32} {τ : zSt} (hR : zR G C (some .boolean) (some (.int r)) τ) (x1 : Int32) (x2 : Int32) (σ : zSt) (h : F_X0_tell_0 x1 x2 σ = some (r, τ)) : zAW G 3 RX0 cX0_tell 3 C 0 [(0, .ref (zad G 65)), (1, .int x1), (2, .int x2)] [] σ := by
  unfold F_X0_tell_0 at h
  refine z_iload e_X0_tell_0 1 rfl ?_
  refine z_ic e_X0_tell_1 ?_
  obtain ⟨q2, s1, e3, h⟩ := bd_e h
  refine z_callNi (As := [.int x1, .int (8 : Int32)]) (rest := []) lk_X0_15 e_X0_tell_3 (m_X11_isBelow G x1 (8 : Int32) σ _ _ e3) (by decide) rfl (Nat.le_of_ble_eq_true rfl) ?_
  refine z_if_eq e_X0_tell_6 h (fun c4 h => ?_) (fun c4 h => ?_)
  · refine z_ic e_X0_tell_18 ?_
    cases h
    exact z_zreturn hR e_X0_tell_19 (Or.inl rfl)
  · refine z_aload e_X0_tell_9 0 rfl ?_
    refine z_iload e_X0_tell_10 1 rfl ?_
    obtain ⟨q6, s5, e7, h⟩ := bd_e h
    refine z_callVi (c0 := 65) (As := [.int x1]) (rest := []) lk_X0_19 ob_65 e_X0_tell_11 (m_X0_isTold G x1 s1 _ _ e7) (by decide) rfl (Nat.le_of_ble_eq_true rfl) ?_
    refine z_iload e_X0_tell_14 2 rfl ?_
    refine z_icmp_ne e_X0_tell_15 h (fun c8 h => ?_) (fun c8 h => ?_)
    · refine z_ic e_X0_tell_18 ?_
      cases h
      exact z_zreturn hR e_X0_tell_19 (Or.inl rfl)
    · refine z_aload e_X0_tell_20 0 rfl ?_
      refine z_dup e_X0_tell_21 rfl ?_
      refine z_geti gf_X0_23_65 e_X0_tell_22 ?_
      refine z_ic e_X0_tell_25 ?_
      refine z_iload e_X0_tell_26 1 rfl ?_
      refine z_ishl e_X0_tell_27 ?_
      refine z_ixor e_X0_tell_28 ?_
      refine z_puti pf_X0_23_65 e_X0_tell_29 h (fun s9 h => ?_)
      refine z_ic e_X0_tell_32 ?_
      cases h
      exact z_zreturn hR e_X0_tell_33 (Or.inr rfl)
noncomputable def F_X0_tell (x1 : Int32) (x2 : Int32) (σ : zSt) : Option (Int32 × zSt) := F_X0_tell_0 x1 x2 σ
set_option maxRecDepth 100000 in
theorem m_X0_tell (G : zG) (x1 : Int32) (x2 : Int32) (σ : zSt) (q : Int32) (τ : zSt) (h : F_X0_tell x1 x2 σ = some (q, τ)) : zM G 3 yX0_tell cX0_tell 3 (some .boolean) [.ref (zad G 65), .int x1, .int x2] σ (some (.int q)) τ := by
  unfold F_X0_tell at h
  refine zM.of (own := RX0) (by decide +kernel) rfl (Nat.le_of_ble_eq_true rfl) (fun C hR => ?_)
  exact z_sub [0, 1, 2] rfl (p_X0_tell_0 hR x1 x2 σ h)
noncomputable def F_X11_egg_0 (x1 : Int32) (x2 : Int32) (σ : zSt) : Option (Int32 × zSt) :=
  bd (F_X0_tell x1 x2 σ) (fun q2 s1 =>
    gd (q2 = 0 ∨ q2 = 1) (some (q2, s1)))
set_option maxHeartbeats 4000000 in
set_option maxRecDepth 100000 in
theorem p_X11_egg_0 {G : zG} {C : zC} {r : Int32} {τ : zSt} (hR : zR G C (some .boolean) (some (.int r)) τ) (x1 : Int32) (x2 : Int32) (σ : zSt) (h : F_X11_egg_0 x1 x2 σ = some (r, τ)) : zAW G 4 RX11 cX11_egg 3 C 0 [(0, .ref (zad G 0)), (1, .int x1), (2, .int x2)] [] σ := by
  unfold F_X11_egg_0 at h
  refine z_aload e_X11_egg_0 0 rfl ?_
  refine z_getr gf_X11_93_0 e_X11_egg_1 ?_
  refine z_iload e_X11_egg_4 1 rfl ?_
  refine z_iload e_X11_egg_5 2 rfl ?_
  obtain ⟨q2, s1, e3, h⟩ := bd_e h
  refine z_callVi (c0 := 65) (As := [.int x1, .int x2]) (rest := []) lk_X11_249 ob_65 e_X11_egg_6 (m_X0_tell G x1 x2 σ _ _ e3) (by decide) rfl (Nat.le_of_ble_eq_true rfl) ?_
  obtain ⟨hb4, h⟩ := gd_e h
  cases h
  exact z_zreturn hR e_X11_egg_9 hb4
noncomputable def F_X11_egg (x1 : Int32) (x2 : Int32) (σ : zSt) : Option (Int32 × zSt) := F_X11_egg_0 x1 x2 σ
set_option maxRecDepth 100000 in
theorem m_X11_egg (G : zG) (x1 : Int32) (x2 : Int32) (σ : zSt) (q : Int32) (τ : zSt) (h : F_X11_egg x1 x2 σ = some (q, τ)) : zM G 4 yX11_egg cX11_egg 3 (some .boolean) [.ref (zad G 0), .int x1, .int x2] σ (some (.int q)) τ := by
  unfold F_X11_egg at h
  refine zM.of (own := RX11) (by decide +kernel) rfl (Nat.le_of_ble_eq_true rfl) (fun C hR => ?_)
  exact z_sub [0, 1, 2] rfl (p_X11_egg_0 hR x1 x2 σ h)
noncomputable def F_X12_egg_0 (x1 : Int32) (x2 : Int32) (σ : zSt) : Option (Int32 × zSt) :=
  bd (F_X12_isEight x1 σ) (fun q2 s1 =>
    if q2 = 0 then (
      some ((0 : Int32), s1))
    else (
      bd (F_X12_has (s1.1 69 59) x1 s1) (fun q6 s5 =>
        if q6 = x2 then (
          some ((0 : Int32), s5))
        else (
          nm (if x2 = 0 then ((s5.1 69 59) &&& (((1 : Int32) <<< (x1 &&& 31)) ^^^ (-1 : Int32))) else ((s5.1 69 59) ||| ((1 : Int32) <<< (x1 &&& 31)))) (fun v9 =>
            nm (zwr s5 69 59 v9) (fun s10 =>
              some ((1 : Int32), s10)))))))
set_option maxHeartbeats 4000000 in
set_option maxRecDepth 100000 in
theorem p_X12_egg_0 {G : zG} {C : zC} {r : Int32} {τ : zSt} (hR : zR G C (some .boolean) (some (.int r)) τ) (x1 : Int32) (x2 : Int32) (σ : zSt) (h : F_X12_egg_0 x1 x2 σ = some (r, τ)) : zAW G 2 RX12 cX12_egg 3 C 0 [(0, .ref (zad G 69)), (1, .int x1), (2, .int x2)] [] σ := by
  unfold F_X12_egg_0 at h
  refine z_iload e_X12_egg_0 1 rfl ?_
  obtain ⟨q2, s1, e3, h⟩ := bd_e h
  refine z_callSi (As := [.int x1]) (rest := []) lk_X12_149 e_X12_egg_1 (m_X12_isEight G x1 σ _ _ e3) (by decide) rfl (Nat.le_of_ble_eq_true rfl) ?_
  refine z_if_eq e_X12_egg_4 h (fun c4 h => ?_) (fun c4 h => ?_)
  · refine z_ic e_X12_egg_19 ?_
    cases h
    exact z_zreturn hR e_X12_egg_20 (Or.inl rfl)
  · refine z_aload e_X12_egg_7 0 rfl ?_
    refine z_geti gf_X12_464_69 e_X12_egg_8 ?_
    refine z_iload e_X12_egg_11 1 rfl ?_
    obtain ⟨q6, s5, e7, h⟩ := bd_e h
    refine z_callSi (As := [.int (s1.1 69 59), .int x1]) (rest := []) lk_X12_156 e_X12_egg_12 (m_X12_has G (s1.1 69 59) x1 s1 _ _ e7) (by decide) rfl (Nat.le_of_ble_eq_true rfl) ?_
    refine z_iload e_X12_egg_15 2 rfl ?_
    refine z_icmp_ne e_X12_egg_16 h (fun c8 h => ?_) (fun c8 h => ?_)
    · refine z_ic e_X12_egg_19 ?_
      cases h
      exact z_zreturn hR e_X12_egg_20 (Or.inl rfl)
    · refine z_aload e_X12_egg_21 0 rfl ?_
      refine z_iload e_X12_egg_22 2 rfl ?_
      obtain ⟨v9, ev9, h⟩ := nm_i h
      have jv9 : zAW G 2 RX12 cX12_egg 3 C 47 [] [.int v9, .ref (zad G 69)] s5 := by
        refine z_puti pf_X12_464_69 e_X12_egg_47 h (fun s10 h => ?_)
        refine z_ic e_X12_egg_50 ?_
        cases h
        exact z_zreturn hR e_X12_egg_51 (Or.inr rfl)
      refine y_if_eq e_X12_egg_23 (fun c11 => ?_) (fun c11 => ?_)
      · refine z_aload e_X12_egg_37 0 rfl ?_
        refine z_geti gf_X12_464_69 e_X12_egg_38 ?_
        refine z_ic e_X12_egg_41 ?_
        refine z_iload e_X12_egg_42 1 rfl ?_
        refine z_ishl e_X12_egg_43 ?_
        refine z_ic e_X12_egg_44 ?_
        refine z_ixor e_X12_egg_45 ?_
        refine z_iand e_X12_egg_46 ?_
        rw [if_pos c11] at ev9
        subst ev9
        exact z_sub [] rfl jv9
      · refine z_aload e_X12_egg_26 0 rfl ?_
        refine z_geti gf_X12_464_69 e_X12_egg_27 ?_
        refine z_ic e_X12_egg_30 ?_
        refine z_iload e_X12_egg_31 1 rfl ?_
        refine z_ishl e_X12_egg_32 ?_
        refine z_ior e_X12_egg_33 ?_
        refine z_goto e_X12_egg_34 ?_
        rw [if_neg c11] at ev9
        subst ev9
        exact z_sub [] rfl jv9
noncomputable def F_X12_egg (x1 : Int32) (x2 : Int32) (σ : zSt) : Option (Int32 × zSt) := F_X12_egg_0 x1 x2 σ
set_option maxRecDepth 100000 in
theorem m_X12_egg (G : zG) (x1 : Int32) (x2 : Int32) (σ : zSt) (q : Int32) (τ : zSt) (h : F_X12_egg x1 x2 σ = some (q, τ)) : zM G 2 yX12_egg cX12_egg 3 (some .boolean) [.ref (zad G 69), .int x1, .int x2] σ (some (.int q)) τ := by
  unfold F_X12_egg at h
  refine zM.of (own := RX12) (by decide +kernel) rfl (Nat.le_of_ble_eq_true rfl) (fun C hR => ?_)
  exact z_sub [0, 1, 2] rfl (p_X12_egg_0 hR x1 x2 σ h)
noncomputable def F_X0_show_0 (x1 : Int32) (x2 : Int32) (σ : zSt) : Option (Int32 × zSt) :=
  bd (F_X11_isBelow x1 (6 : Int32) σ) (fun q2 s1 =>
    if q2 = 0 then (
      some ((0 : Int32), s1))
    else (
      bd (F_X11_isBelow x2 (256 : Int32) s1) (fun q6 s5 =>
        if q6 = 0 then (
          some ((0 : Int32), s5))
        else (
          gd (vp_in x1 6) (nm (zwr s5 66 x1.toNatClampNeg x2) (fun s9 =>
            some ((1 : Int32), s9)))))))
set_option maxHeartbeats 4000000 in
set_option maxRecDepth 100000 in
theorem p_X0_show_0 {G : zG} {C : zC} {r : Int32} {τ : zSt} (hR : zR G C (some .boolean) (some (.int r)) τ) (x1 : Int32) (x2 : Int32) (σ : zSt) (h : F_X0_show_0 x1 x2 σ = some (r, τ)) : zAW G 2 RX0 cX0_show 3 C 0 [(0, .ref (zad G 65)), (1, .int x1), (2, .int x2)] [] σ := by
  unfold F_X0_show_0 at h
  refine z_iload e_X0_show_0 1 rfl ?_
  refine z_ic e_X0_show_1 ?_
  obtain ⟨q2, s1, e3, h⟩ := bd_e h
  refine z_callNi (As := [.int x1, .int (6 : Int32)]) (rest := []) lk_X0_15 e_X0_show_3 (m_X11_isBelow G x1 (6 : Int32) σ _ _ e3) (by decide) rfl (Nat.le_of_ble_eq_true rfl) ?_
  refine z_if_eq e_X0_show_6 h (fun c4 h => ?_) (fun c4 h => ?_)
  · refine z_ic e_X0_show_19 ?_
    cases h
    exact z_zreturn hR e_X0_show_20 (Or.inl rfl)
  · refine z_iload e_X0_show_9 2 rfl ?_
    refine z_ic e_X0_show_10 ?_
    obtain ⟨q6, s5, e7, h⟩ := bd_e h
    refine z_callNi (As := [.int x2, .int (256 : Int32)]) (rest := []) lk_X0_15 e_X0_show_13 (m_X11_isBelow G x2 (256 : Int32) s1 _ _ e7) (by decide) rfl (Nat.le_of_ble_eq_true rfl) ?_
    refine z_if_ne e_X0_show_16 h (fun c8 h => ?_) (fun c8 h => ?_)
    · refine z_ic e_X0_show_19 ?_
      cases h
      exact z_zreturn hR e_X0_show_20 (Or.inl rfl)
    · refine z_aload e_X0_show_21 0 rfl ?_
      refine z_getr gf_X0_11_65 e_X0_show_22 ?_
      refine z_iload e_X0_show_25 1 rfl ?_
      refine z_iload e_X0_show_26 2 rfl ?_
      refine z_iast sh_66 e_X0_show_27 h (fun s9 h => ?_)
      refine z_ic e_X0_show_28 ?_
      cases h
      exact z_zreturn hR e_X0_show_29 (Or.inr rfl)
noncomputable def F_X0_show (x1 : Int32) (x2 : Int32) (σ : zSt) : Option (Int32 × zSt) := F_X0_show_0 x1 x2 σ
set_option maxRecDepth 100000 in
theorem m_X0_show (G : zG) (x1 : Int32) (x2 : Int32) (σ : zSt) (q : Int32) (τ : zSt) (h : F_X0_show x1 x2 σ = some (q, τ)) : zM G 2 yX0_show cX0_show 3 (some .boolean) [.ref (zad G 65), .int x1, .int x2] σ (some (.int q)) τ := by
  unfold F_X0_show at h
  refine zM.of (own := RX0) (by decide +kernel) rfl (Nat.le_of_ble_eq_true rfl) (fun C hR => ?_)
  exact z_sub [0, 1, 2] rfl (p_X0_show_0 hR x1 x2 σ h)
noncomputable def F_X11_test_0 (x1 : Int32) (x2 : Int32) (σ : zSt) : Option (Int32 × zSt) :=
  bd (F_X0_show x1 x2 σ) (fun q2 s1 =>
    gd (q2 = 0 ∨ q2 = 1) (some (q2, s1)))
set_option maxHeartbeats 4000000 in
set_option maxRecDepth 100000 in
theorem p_X11_test_0 {G : zG} {C : zC} {r : Int32} {τ : zSt} (hR : zR G C (some .boolean) (some (.int r)) τ) (x1 : Int32) (x2 : Int32) (σ : zSt) (h : F_X11_test_0 x1 x2 σ = some (r, τ)) : zAW G 3 RX11 cX11_test 3 C 0 [(0, .ref (zad G 0)), (1, .int x1), (2, .int x2)] [] σ := by
  unfold F_X11_test_0 at h
  refine z_aload e_X11_test_0 0 rfl ?_
  refine z_getr gf_X11_93_0 e_X11_test_1 ?_
  refine z_iload e_X11_test_4 1 rfl ?_
  refine z_iload e_X11_test_5 2 rfl ?_
  obtain ⟨q2, s1, e3, h⟩ := bd_e h
  refine z_callVi (c0 := 65) (As := [.int x1, .int x2]) (rest := []) lk_X11_252 ob_65 e_X11_test_6 (m_X0_show G x1 x2 σ _ _ e3) (by decide) rfl (Nat.le_of_ble_eq_true rfl) ?_
  obtain ⟨hb4, h⟩ := gd_e h
  cases h
  exact z_zreturn hR e_X11_test_9 hb4
noncomputable def F_X11_test (x1 : Int32) (x2 : Int32) (σ : zSt) : Option (Int32 × zSt) := F_X11_test_0 x1 x2 σ
set_option maxRecDepth 100000 in
theorem m_X11_test (G : zG) (x1 : Int32) (x2 : Int32) (σ : zSt) (q : Int32) (τ : zSt) (h : F_X11_test x1 x2 σ = some (q, τ)) : zM G 3 yX11_test cX11_test 3 (some .boolean) [.ref (zad G 0), .int x1, .int x2] σ (some (.int q)) τ := by
  unfold F_X11_test at h
  refine zM.of (own := RX11) (by decide +kernel) rfl (Nat.le_of_ble_eq_true rfl) (fun C hR => ?_)
  exact z_sub [0, 1, 2] rfl (p_X11_test_0 hR x1 x2 σ h)
noncomputable def F_X12_test_0 (x1 : Int32) (x2 : Int32) (σ : zSt) : Option (Int32 × zSt) :=
  bd (F_X12_in x1 (0 : Int32) (5 : Int32) σ) (fun q2 s1 =>
    if q2 = 0 then (
      some ((0 : Int32), s1))
    else (
      bd (F_X12_in x2 (0 : Int32) (255 : Int32) s1) (fun q6 s5 =>
        if q6 = 0 then (
          some ((0 : Int32), s5))
        else (
          gd (vp_in x1 6) (nm (zwr s5 103 x1.toNatClampNeg x2) (fun s9 =>
            some ((1 : Int32), s9)))))))
set_option maxHeartbeats 4000000 in
set_option maxRecDepth 100000 in
theorem p_X12_test_0 {G : zG} {C : zC} {r : Int32} {τ : zSt} (hR : zR G C (some .boolean) (some (.int r)) τ) (x1 : Int32) (x2 : Int32) (σ : zSt) (h : F_X12_test_0 x1 x2 σ = some (r, τ)) : zAW G 2 RX12 cX12_test 3 C 0 [(0, .ref (zad G 69)), (1, .int x1), (2, .int x2)] [] σ := by
  unfold F_X12_test_0 at h
  refine z_iload e_X12_test_0 1 rfl ?_
  refine z_ic e_X12_test_1 ?_
  refine z_ic e_X12_test_2 ?_
  obtain ⟨q2, s1, e3, h⟩ := bd_e h
  refine z_callSi (As := [.int x1, .int (0 : Int32), .int (5 : Int32)]) (rest := []) lk_X12_163 e_X12_test_3 (m_X12_in G x1 (0 : Int32) (5 : Int32) σ _ _ e3) (by decide) rfl (Nat.le_of_ble_eq_true rfl) ?_
  refine z_if_eq e_X12_test_6 h (fun c4 h => ?_) (fun c4 h => ?_)
  · refine z_ic e_X12_test_20 ?_
    cases h
    exact z_zreturn hR e_X12_test_21 (Or.inl rfl)
  · refine z_iload e_X12_test_9 2 rfl ?_
    refine z_ic e_X12_test_10 ?_
    refine z_ic e_X12_test_11 ?_
    obtain ⟨q6, s5, e7, h⟩ := bd_e h
    refine z_callSi (As := [.int x2, .int (0 : Int32), .int (255 : Int32)]) (rest := []) lk_X12_163 e_X12_test_14 (m_X12_in G x2 (0 : Int32) (255 : Int32) s1 _ _ e7) (by decide) rfl (Nat.le_of_ble_eq_true rfl) ?_
    refine z_if_ne e_X12_test_17 h (fun c8 h => ?_) (fun c8 h => ?_)
    · refine z_ic e_X12_test_20 ?_
      cases h
      exact z_zreturn hR e_X12_test_21 (Or.inl rfl)
    · refine z_aload e_X12_test_22 0 rfl ?_
      refine z_getr gf_X12_111_69 e_X12_test_23 ?_
      refine z_iload e_X12_test_26 1 rfl ?_
      refine z_iload e_X12_test_27 2 rfl ?_
      refine z_iast sh_103 e_X12_test_28 h (fun s9 h => ?_)
      refine z_ic e_X12_test_29 ?_
      cases h
      exact z_zreturn hR e_X12_test_30 (Or.inr rfl)
noncomputable def F_X12_test (x1 : Int32) (x2 : Int32) (σ : zSt) : Option (Int32 × zSt) := F_X12_test_0 x1 x2 σ
set_option maxRecDepth 100000 in
theorem m_X12_test (G : zG) (x1 : Int32) (x2 : Int32) (σ : zSt) (q : Int32) (τ : zSt) (h : F_X12_test x1 x2 σ = some (q, τ)) : zM G 2 yX12_test cX12_test 3 (some .boolean) [.ref (zad G 69), .int x1, .int x2] σ (some (.int q)) τ := by
  unfold F_X12_test at h
  refine zM.of (own := RX12) (by decide +kernel) rfl (Nat.le_of_ble_eq_true rfl) (fun C hR => ?_)
  exact z_sub [0, 1, 2] rfl (p_X12_test_0 hR x1 x2 σ h)
noncomputable def F_X0_isShownAlike_47 (w3 : (Int32 × zSt) → Option (Int32 × zSt)) (x1 : Int32) (x2 : Int32) (x3 : Int32) (x4 : Int32) (σ : zSt) : Option (Int32 × zSt) :=
  nm (x4 + (1 : Int32)) (fun v4 =>
    w3 (v4, σ))
set_option maxHeartbeats 4000000 in
set_option maxRecDepth 100000 in
theorem p_X0_isShownAlike_47 {G : zG} {C : zC} {r : Int32} {τ : zSt} (hR : zR G C (some .boolean) (some (.int r)) τ) (w3 : (Int32 × zSt) → Option (Int32 × zSt)) (x1 : Int32) (x2 : Int32) (x3 : Int32) (x4 : Int32) (hw3 : ∀ (x4 : Int32) (σ : zSt), w3 (x4, σ) = some (r, τ) → zAW G 1 RX0 cX0_isShownAlike 5 C 3 [(0, .ref (zad G 65)), (1, .int x1), (2, .int x2), (3, .int x3), (4, .int x4)] [] σ) (σ : zSt) (h : F_X0_isShownAlike_47 w3 x1 x2 x3 x4 σ = some (r, τ)) : zAW G 1 RX0 cX0_isShownAlike 5 C 47 [(0, .ref (zad G 65)), (1, .int x1), (2, .int x2), (3, .int x3), (4, .int x4)] [] σ := by
  unfold F_X0_isShownAlike_47 at h
  refine z_iinc e_X0_isShownAlike_47 4 rfl (by decide) (by decide) h (fun y => [(4, .int y), (0, .ref (zad G 65)), (1, .int x1), (2, .int x2), (3, .int x3)]) (fun _ => rfl) (fun v4 h => ?_)
  refine z_goto e_X0_isShownAlike_50 ?_
  exact z_sub [1, 2, 3, 4, 0] rfl (hw3 v4 σ h)
noncomputable def F_X0_isShownAlike_3 (x1 : Int32) (x2 : Int32) (x3 : Int32) (w3 : (Int32 × zSt) → Option (Int32 × zSt)) (x4 : Int32) (σ : zSt) : Option (Int32 × zSt) :=
  if (6 : Int32) ≤ x4 then (
    some ((1 : Int32), σ))
  else (
    if ((x3 >>> (x4 &&& 31)) &&& (1 : Int32)) = (1 : Int32) then (
      gd (vp_in x4 6) (
        gd (vp_in x4 6) (
          if (((σ.1 66 x4.toNatClampNeg) >>> (x1 &&& 31)) &&& (1 : Int32)) = (((σ.1 66 x4.toNatClampNeg) >>> (x2 &&& 31)) &&& (1 : Int32)) then (
            F_X0_isShownAlike_47 w3 x1 x2 x3 x4 σ)
          else (
            some ((0 : Int32), σ)))))
    else (
      F_X0_isShownAlike_47 w3 x1 x2 x3 x4 σ))
set_option maxHeartbeats 4000000 in
set_option maxRecDepth 100000 in
theorem b_X0_isShownAlike_3 {G : zG} {C : zC} {r : Int32} {τ : zSt} (hR : zR G C (some .boolean) (some (.int r)) τ) (x1 : Int32) (x2 : Int32) (x3 : Int32) (w3 : (Int32 × zSt) → Option (Int32 × zSt)) (hw3 : ∀ (x4 : Int32) (σ : zSt), w3 (x4, σ) = some (r, τ) → zAW G 1 RX0 cX0_isShownAlike 5 C 3 [(0, .ref (zad G 65)), (1, .int x1), (2, .int x2), (3, .int x3), (4, .int x4)] [] σ) (x4 : Int32) (σ : zSt) (h : F_X0_isShownAlike_3 x1 x2 x3 w3 x4 σ = some (r, τ)) : zAW G 1 RX0 cX0_isShownAlike 5 C 3 [(0, .ref (zad G 65)), (1, .int x1), (2, .int x2), (3, .int x3), (4, .int x4)] [] σ := by
  unfold F_X0_isShownAlike_3 at h
  refine z_iload e_X0_isShownAlike_3 4 rfl ?_
  refine z_ic e_X0_isShownAlike_5 ?_
  refine z_icmp_ge e_X0_isShownAlike_7 h (fun c1 h => ?_) (fun c1 h => ?_)
  · refine z_ic e_X0_isShownAlike_53 ?_
    cases h
    exact z_zreturn hR e_X0_isShownAlike_54 (Or.inr rfl)
  · refine z_iload e_X0_isShownAlike_10 3 rfl ?_
    refine z_iload e_X0_isShownAlike_11 4 rfl ?_
    refine z_ishr e_X0_isShownAlike_13 ?_
    refine z_ic e_X0_isShownAlike_14 ?_
    refine z_iand e_X0_isShownAlike_15 ?_
    refine z_ic e_X0_isShownAlike_16 ?_
    refine z_icmp_ne e_X0_isShownAlike_17 h (fun c2 h => ?_) (fun c2 h => ?_)
    · refine z_aload e_X0_isShownAlike_20 0 rfl ?_
      refine z_getr gf_X0_11_65 e_X0_isShownAlike_21 ?_
      refine z_iload e_X0_isShownAlike_24 4 rfl ?_
      refine z_iald sh_66 e_X0_isShownAlike_26 h (fun h => ?_)
      refine z_iload e_X0_isShownAlike_27 1 rfl ?_
      refine z_ishr e_X0_isShownAlike_28 ?_
      refine z_ic e_X0_isShownAlike_29 ?_
      refine z_iand e_X0_isShownAlike_30 ?_
      refine z_aload e_X0_isShownAlike_31 0 rfl ?_
      refine z_getr gf_X0_11_65 e_X0_isShownAlike_32 ?_
      refine z_iload e_X0_isShownAlike_35 4 rfl ?_
      refine z_iald sh_66 e_X0_isShownAlike_37 h (fun h => ?_)
      refine z_iload e_X0_isShownAlike_38 2 rfl ?_
      refine z_ishr e_X0_isShownAlike_39 ?_
      refine z_ic e_X0_isShownAlike_40 ?_
      refine z_iand e_X0_isShownAlike_41 ?_
      refine z_icmp_eq e_X0_isShownAlike_42 h (fun c3 h => ?_) (fun c3 h => ?_)
      · exact z_sub [0, 1, 2, 3, 4] rfl (p_X0_isShownAlike_47 hR w3 x1 x2 x3 x4 hw3 σ h)
      · refine z_ic e_X0_isShownAlike_45 ?_
        cases h
        exact z_zreturn hR e_X0_isShownAlike_46 (Or.inl rfl)
    · exact z_sub [0, 1, 2, 3, 4] rfl (p_X0_isShownAlike_47 hR w3 x1 x2 x3 x4 hw3 σ h)
noncomputable def F_X0_isShownAlike_3L (x1 : Int32) (x2 : Int32) (x3 : Int32) : ((Int32 × zSt) → Option (Int32 × zSt)) → (Int32 × zSt) → Option (Int32 × zSt) := fun w s => F_X0_isShownAlike_3 x1 x2 x3 w s.1 s.2
set_option maxRecDepth 100000 in
theorem l_X0_isShownAlike_3 {G : zG} {C : zC} {r : Int32} {τ : zSt} (hR : zR G C (some .boolean) (some (.int r)) τ) (x1 : Int32) (x2 : Int32) (x3 : Int32) : ∀ (N : Nat) (x4 : Int32) (σ : zSt), zfix (F_X0_isShownAlike_3L x1 x2 x3) N (x4, σ) = some (r, τ) → zAW G 1 RX0 cX0_isShownAlike 5 C 3 [(0, .ref (zad G 65)), (1, .int x1), (2, .int x2), (3, .int x3), (4, .int x4)] [] σ := by
  intro N
  induction N with
  | zero =>
    intro x4 σ h
    exact nomatch (show (none : Option (Int32 × zSt)) = some (r, τ) from h)
  | succ N ih =>
    intro x4 σ h
    exact b_X0_isShownAlike_3 hR x1 x2 x3 (zfix (F_X0_isShownAlike_3L x1 x2 x3) N) ih x4 σ h
noncomputable def F_X0_isShownAlike_0 (x1 : Int32) (x2 : Int32) (x3 : Int32) (σ : zSt) : Option (Int32 × zSt) :=
  zfix (F_X0_isShownAlike_3L x1 x2 x3) zlim ((0 : Int32), σ)
set_option maxHeartbeats 4000000 in
set_option maxRecDepth 100000 in
theorem p_X0_isShownAlike_0 {G : zG} {C : zC} {r : Int32} {τ : zSt} (hR : zR G C (some .boolean) (some (.int r)) τ) (x1 : Int32) (x2 : Int32) (x3 : Int32) (σ : zSt) (h : F_X0_isShownAlike_0 x1 x2 x3 σ = some (r, τ)) : zAW G 1 RX0 cX0_isShownAlike 5 C 0 [(0, .ref (zad G 65)), (1, .int x1), (2, .int x2), (3, .int x3)] [] σ := by
  unfold F_X0_isShownAlike_0 at h
  refine z_ic e_X0_isShownAlike_0 ?_
  refine z_istore e_X0_isShownAlike_1 (by decide) [(4, .int (0 : Int32)), (0, .ref (zad G 65)), (1, .int x1), (2, .int x2), (3, .int x3)] rfl ?_
  exact z_sub [1, 2, 3, 4, 0] rfl (l_X0_isShownAlike_3 hR x1 x2 x3 zlim (0 : Int32) σ h)
noncomputable def F_X0_isShownAlike (x1 : Int32) (x2 : Int32) (x3 : Int32) (σ : zSt) : Option (Int32 × zSt) := F_X0_isShownAlike_0 x1 x2 x3 σ
set_option maxRecDepth 100000 in
theorem m_X0_isShownAlike (G : zG) (x1 : Int32) (x2 : Int32) (x3 : Int32) (σ : zSt) (q : Int32) (τ : zSt) (h : F_X0_isShownAlike x1 x2 x3 σ = some (q, τ)) : zM G 1 yX0_isShownAlike cX0_isShownAlike 5 (some .boolean) [.ref (zad G 65), .int x1, .int x2, .int x3] σ (some (.int q)) τ := by
  unfold F_X0_isShownAlike at h
  refine zM.of (own := RX0) (by decide +kernel) rfl (Nat.le_of_ble_eq_true rfl) (fun C hR => ?_)
  exact z_sub [0, 1, 2, 3] rfl (p_X0_isShownAlike_0 hR x1 x2 x3 σ h)
noncomputable def F_X0_sameAs_60 (w24 : (Int32 × Int32 × zSt) → Option (Int32 × zSt)) (x1 : Int32) (x2 : Int32) (x4 : Int32) (t0 : Int32) (t1 : Int32) (σ : zSt) : Option (Int32 × zSt) :=
  nm (t1 ||| t0) (fun v14 =>
    nm (x4 + (1 : Int32)) (fun v15 =>
      w24 (v14, v15, σ)))
set_option maxHeartbeats 4000000 in
set_option maxRecDepth 100000 in
theorem p_X0_sameAs_60 {G : zG} {C : zC} {r : Int32} {τ : zSt} (hR : zR G C (some .int) (some (.int r)) τ) (w24 : (Int32 × Int32 × zSt) → Option (Int32 × zSt)) (x1 : Int32) (x2 : Int32) (x4 : Int32) (t0 : Int32) (t1 : Int32) (hw24 : ∀ (x3 : Int32) (x4 : Int32) (σ : zSt), w24 (x3, x4, σ) = some (r, τ) → zAW G 3 RX0 cX0_sameAs 5 C 24 [(0, .ref (zad G 65)), (1, .int x1), (2, .int x2), (3, .int x3), (4, .int x4)] [] σ) (σ : zSt) (h : F_X0_sameAs_60 w24 x1 x2 x4 t0 t1 σ = some (r, τ)) : zAW G 3 RX0 cX0_sameAs 5 C 60 [(0, .ref (zad G 65)), (1, .int x1), (2, .int x2), (4, .int x4)] [.int t0, .int t1] σ := by
  unfold F_X0_sameAs_60 at h
  refine z_ior e_X0_sameAs_60 ?_
  refine z_nmI h (fun v14 h => ?_)
  refine z_istore e_X0_sameAs_61 (by decide) [(3, .int v14), (0, .ref (zad G 65)), (1, .int x1), (2, .int x2), (4, .int x4)] rfl ?_
  refine z_iinc e_X0_sameAs_62 4 rfl (by decide) (by decide) h (fun y => [(4, .int y), (3, .int v14), (0, .ref (zad G 65)), (1, .int x1), (2, .int x2)]) (fun _ => rfl) (fun v15 h => ?_)
  refine z_goto e_X0_sameAs_65 ?_
  exact z_sub [2, 3, 4, 1, 0] rfl (hw24 v14 v15 σ h)
noncomputable def F_X0_sameAs_59 (w24 : (Int32 × Int32 × zSt) → Option (Int32 × zSt)) (x1 : Int32) (x2 : Int32) (x4 : Int32) (t0 : Int32) (σ : zSt) : Option (Int32 × zSt) :=
  F_X0_sameAs_60 w24 x1 x2 x4 (0 : Int32) t0 σ
set_option maxHeartbeats 4000000 in
set_option maxRecDepth 100000 in
theorem p_X0_sameAs_59 {G : zG} {C : zC} {r : Int32} {τ : zSt} (hR : zR G C (some .int) (some (.int r)) τ) (w24 : (Int32 × Int32 × zSt) → Option (Int32 × zSt)) (x1 : Int32) (x2 : Int32) (x4 : Int32) (t0 : Int32) (hw24 : ∀ (x3 : Int32) (x4 : Int32) (σ : zSt), w24 (x3, x4, σ) = some (r, τ) → zAW G 3 RX0 cX0_sameAs 5 C 24 [(0, .ref (zad G 65)), (1, .int x1), (2, .int x2), (3, .int x3), (4, .int x4)] [] σ) (σ : zSt) (h : F_X0_sameAs_59 w24 x1 x2 x4 t0 σ = some (r, τ)) : zAW G 3 RX0 cX0_sameAs 5 C 59 [(0, .ref (zad G 65)), (1, .int x1), (2, .int x2), (4, .int x4)] [.int t0] σ := by
  unfold F_X0_sameAs_59 at h
  refine z_ic e_X0_sameAs_59 ?_
  exact z_sub [0, 1, 2, 3] rfl (p_X0_sameAs_60 hR w24 x1 x2 x4 (0 : Int32) t0 hw24 σ h)
noncomputable def F_X0_sameAs_24 (x1 : Int32) (x2 : Int32) (w24 : (Int32 × Int32 × zSt) → Option (Int32 × zSt)) (x3 : Int32) (x4 : Int32) (σ : zSt) : Option (Int32 × zSt) :=
  if (8 : Int32) ≤ x4 then (
    some (x3, σ))
  else (
    bd (F_X0_isTold x4 σ) (fun q11 s10 =>
      if q11 = 0 then (
        F_X0_sameAs_59 w24 x1 x2 x4 x3 s10)
      else (
        bd (F_X0_isShownAlike x1 x4 x2 s10) (fun q17 s16 =>
          nm (if q17 = 0 then (0 : Int32) else ((1 : Int32) <<< (x4 &&& 31))) (fun v19 =>
            nm (x3 ||| v19) (fun v20 =>
              nm (x4 + (1 : Int32)) (fun v21 =>
                w24 (v20, v21, s16))))))))
set_option maxHeartbeats 4000000 in
set_option maxRecDepth 100000 in
theorem b_X0_sameAs_24 {G : zG} {C : zC} {r : Int32} {τ : zSt} (hR : zR G C (some .int) (some (.int r)) τ) (x1 : Int32) (x2 : Int32) (w24 : (Int32 × Int32 × zSt) → Option (Int32 × zSt)) (hw24 : ∀ (x3 : Int32) (x4 : Int32) (σ : zSt), w24 (x3, x4, σ) = some (r, τ) → zAW G 3 RX0 cX0_sameAs 5 C 24 [(0, .ref (zad G 65)), (1, .int x1), (2, .int x2), (3, .int x3), (4, .int x4)] [] σ) (x3 : Int32) (x4 : Int32) (σ : zSt) (h : F_X0_sameAs_24 x1 x2 w24 x3 x4 σ = some (r, τ)) : zAW G 3 RX0 cX0_sameAs 5 C 24 [(0, .ref (zad G 65)), (1, .int x1), (2, .int x2), (3, .int x3), (4, .int x4)] [] σ := by
  unfold F_X0_sameAs_24 at h
  refine z_iload e_X0_sameAs_24 4 rfl ?_
  refine z_ic e_X0_sameAs_26 ?_
  refine z_icmp_ge e_X0_sameAs_28 h (fun c9 h => ?_) (fun c9 h => ?_)
  · refine z_iload e_X0_sameAs_68 3 rfl ?_
    cases h
    exact z_ireturn hR e_X0_sameAs_69
  · refine z_iload e_X0_sameAs_31 3 rfl ?_
    refine z_aload e_X0_sameAs_32 0 rfl ?_
    refine z_iload e_X0_sameAs_33 4 rfl ?_
    obtain ⟨q11, s10, e12, h⟩ := bd_e h
    refine z_callVi (c0 := 65) (As := [.int x4]) (rest := [.int x3]) lk_X0_19 ob_65 e_X0_sameAs_35 (m_X0_isTold G x4 σ _ _ e12) (by decide) rfl (Nat.le_of_ble_eq_true rfl) ?_
    refine z_if_eq e_X0_sameAs_38 h (fun c13 h => ?_) (fun c13 h => ?_)
    · exact z_sub [0, 1, 2, 4] rfl (p_X0_sameAs_59 hR w24 x1 x2 x4 x3 hw24 s10 h)
    · refine z_aload e_X0_sameAs_41 0 rfl ?_
      refine z_iload e_X0_sameAs_42 1 rfl ?_
      refine z_iload e_X0_sameAs_43 4 rfl ?_
      refine z_iload e_X0_sameAs_45 2 rfl ?_
      obtain ⟨q17, s16, e18, h⟩ := bd_e h
      refine z_callVi (c0 := 65) (As := [.int x1, .int x4, .int x2]) (rest := [.int x3]) lk_X0_27 ob_65 e_X0_sameAs_46 (m_X0_isShownAlike G x1 x4 x2 s10 _ _ e18) (by decide) rfl (Nat.le_of_ble_eq_true rfl) ?_
      obtain ⟨v19, ev19, h⟩ := nm_i h
      have jv19 : zAW G 3 RX0 cX0_sameAs 5 C 60 [(0, .ref (zad G 65)), (1, .int x1), (2, .int x2), (4, .int x4)] [.int v19, .int x3] s16 := by
        refine z_ior e_X0_sameAs_60 ?_
        refine z_nmI h (fun v20 h => ?_)
        refine z_istore e_X0_sameAs_61 (by decide) [(3, .int v20), (0, .ref (zad G 65)), (1, .int x1), (2, .int x2), (4, .int x4)] rfl ?_
        refine z_iinc e_X0_sameAs_62 4 rfl (by decide) (by decide) h (fun y => [(4, .int y), (3, .int v20), (0, .ref (zad G 65)), (1, .int x1), (2, .int x2)]) (fun _ => rfl) (fun v21 h => ?_)
        refine z_goto e_X0_sameAs_65 ?_
        exact z_sub [2, 3, 4, 1, 0] rfl (hw24 v20 v21 s16 h)
      refine y_if_eq e_X0_sameAs_49 (fun c22 => ?_) (fun c22 => ?_)
      · refine z_ic e_X0_sameAs_59 ?_
        rw [if_pos c22] at ev19
        subst ev19
        exact z_sub [0, 1, 2, 4] rfl jv19
      · refine z_ic e_X0_sameAs_52 ?_
        refine z_iload e_X0_sameAs_53 4 rfl ?_
        refine z_ishl e_X0_sameAs_55 ?_
        refine z_goto e_X0_sameAs_56 ?_
        rw [if_neg c22] at ev19
        subst ev19
        exact z_sub [0, 1, 2, 4] rfl jv19
noncomputable def F_X0_sameAs_24L (x1 : Int32) (x2 : Int32) : ((Int32 × Int32 × zSt) → Option (Int32 × zSt)) → (Int32 × Int32 × zSt) → Option (Int32 × zSt) := fun w s => F_X0_sameAs_24 x1 x2 w s.1 s.2.1 s.2.2
set_option maxRecDepth 100000 in
theorem l_X0_sameAs_24 {G : zG} {C : zC} {r : Int32} {τ : zSt} (hR : zR G C (some .int) (some (.int r)) τ) (x1 : Int32) (x2 : Int32) : ∀ (N : Nat) (x3 : Int32) (x4 : Int32) (σ : zSt), zfix (F_X0_sameAs_24L x1 x2) N (x3, x4, σ) = some (r, τ) → zAW G 3 RX0 cX0_sameAs 5 C 24 [(0, .ref (zad G 65)), (1, .int x1), (2, .int x2), (3, .int x3), (4, .int x4)] [] σ := by
  intro N
  induction N with
  | zero =>
    intro x3 x4 σ h
    exact nomatch (show (none : Option (Int32 × zSt)) = some (r, τ) from h)
  | succ N ih =>
    intro x3 x4 σ h
    exact b_X0_sameAs_24 hR x1 x2 (zfix (F_X0_sameAs_24L x1 x2) N) ih x3 x4 σ h
noncomputable def F_X0_sameAs_0 (x1 : Int32) (x2 : Int32) (σ : zSt) : Option (Int32 × zSt) :=
  bd (F_X0_isTold x1 σ) (fun q2 s1 =>
    if q2 = 0 then (
      some ((-1 : Int32), s1))
    else (
      bd (F_X11_isBelow x2 (64 : Int32) s1) (fun q6 s5 =>
        if q6 = 0 then (
          some ((-1 : Int32), s5))
        else (
          zfix (F_X0_sameAs_24L x1 x2) zlim ((0 : Int32), (0 : Int32), s5)))))
set_option maxHeartbeats 4000000 in
set_option maxRecDepth 100000 in
theorem p_X0_sameAs_0 {G : zG} {C : zC} {r : Int32} {τ : zSt} (hR : zR G C (some .int) (some (.int r)) τ) (x1 : Int32) (x2 : Int32) (σ : zSt) (h : F_X0_sameAs_0 x1 x2 σ = some (r, τ)) : zAW G 3 RX0 cX0_sameAs 5 C 0 [(0, .ref (zad G 65)), (1, .int x1), (2, .int x2)] [] σ := by
  unfold F_X0_sameAs_0 at h
  refine z_aload e_X0_sameAs_0 0 rfl ?_
  refine z_iload e_X0_sameAs_1 1 rfl ?_
  obtain ⟨q2, s1, e3, h⟩ := bd_e h
  refine z_callVi (c0 := 65) (As := [.int x1]) (rest := []) lk_X0_19 ob_65 e_X0_sameAs_2 (m_X0_isTold G x1 σ _ _ e3) (by decide) rfl (Nat.le_of_ble_eq_true rfl) ?_
  refine z_if_eq e_X0_sameAs_5 h (fun c4 h => ?_) (fun c4 h => ?_)
  · refine z_ic e_X0_sameAs_17 ?_
    cases h
    exact z_ireturn hR e_X0_sameAs_18
  · refine z_iload e_X0_sameAs_8 2 rfl ?_
    refine z_ic e_X0_sameAs_9 ?_
    obtain ⟨q6, s5, e7, h⟩ := bd_e h
    refine z_callNi (As := [.int x2, .int (64 : Int32)]) (rest := []) lk_X0_15 e_X0_sameAs_11 (m_X11_isBelow G x2 (64 : Int32) s1 _ _ e7) (by decide) rfl (Nat.le_of_ble_eq_true rfl) ?_
    refine z_if_ne e_X0_sameAs_14 h (fun c8 h => ?_) (fun c8 h => ?_)
    · refine z_ic e_X0_sameAs_17 ?_
      cases h
      exact z_ireturn hR e_X0_sameAs_18
    · refine z_ic e_X0_sameAs_19 ?_
      refine z_istore e_X0_sameAs_20 (by decide) [(3, .int (0 : Int32)), (0, .ref (zad G 65)), (1, .int x1), (2, .int x2)] rfl ?_
      refine z_ic e_X0_sameAs_21 ?_
      refine z_istore e_X0_sameAs_22 (by decide) [(4, .int (0 : Int32)), (3, .int (0 : Int32)), (0, .ref (zad G 65)), (1, .int x1), (2, .int x2)] rfl ?_
      exact z_sub [2, 3, 4, 1, 0] rfl (l_X0_sameAs_24 hR x1 x2 zlim (0 : Int32) (0 : Int32) s5 h)
noncomputable def F_X0_sameAs (x1 : Int32) (x2 : Int32) (σ : zSt) : Option (Int32 × zSt) := F_X0_sameAs_0 x1 x2 σ
set_option maxRecDepth 100000 in
theorem m_X0_sameAs (G : zG) (x1 : Int32) (x2 : Int32) (σ : zSt) (q : Int32) (τ : zSt) (h : F_X0_sameAs x1 x2 σ = some (q, τ)) : zM G 3 yX0_sameAs cX0_sameAs 5 (some .int) [.ref (zad G 65), .int x1, .int x2] σ (some (.int q)) τ := by
  unfold F_X0_sameAs at h
  refine zM.of (own := RX0) (by decide +kernel) rfl (Nat.le_of_ble_eq_true rfl) (fun C hR => ?_)
  exact z_sub [0, 1, 2] rfl (p_X0_sameAs_0 hR x1 x2 σ h)
noncomputable def F_X0_areApart_30 (w2 : (Int32 × zSt) → Option (Int32 × zSt)) (x1 : Int32) (x2 : Int32) (σ : zSt) : Option (Int32 × zSt) :=
  nm (x2 + (1 : Int32)) (fun v6 =>
    w2 (v6, σ))
set_option maxHeartbeats 4000000 in
set_option maxRecDepth 100000 in
theorem p_X0_areApart_30 {G : zG} {C : zC} {r : Int32} {τ : zSt} (hR : zR G C (some .boolean) (some (.int r)) τ) (w2 : (Int32 × zSt) → Option (Int32 × zSt)) (x1 : Int32) (x2 : Int32) (hw2 : ∀ (x2 : Int32) (σ : zSt), w2 (x2, σ) = some (r, τ) → zAW G 4 RX0 cX0_areApart 3 C 2 [(0, .ref (zad G 65)), (1, .int x1), (2, .int x2)] [] σ) (σ : zSt) (h : F_X0_areApart_30 w2 x1 x2 σ = some (r, τ)) : zAW G 4 RX0 cX0_areApart 3 C 30 [(0, .ref (zad G 65)), (1, .int x1), (2, .int x2)] [] σ := by
  unfold F_X0_areApart_30 at h
  refine z_iinc e_X0_areApart_30 2 rfl (by decide) (by decide) h (fun y => [(2, .int y), (0, .ref (zad G 65)), (1, .int x1)]) (fun _ => rfl) (fun v6 h => ?_)
  refine z_goto e_X0_areApart_33 ?_
  exact z_sub [1, 2, 0] rfl (hw2 v6 σ h)
noncomputable def F_X0_areApart_2 (x1 : Int32) (w2 : (Int32 × zSt) → Option (Int32 × zSt)) (x2 : Int32) (σ : zSt) : Option (Int32 × zSt) :=
  if (8 : Int32) ≤ x2 then (
    some ((1 : Int32), σ))
  else (
    bd (F_X0_isTold x2 σ) (fun q3 s2 =>
      if q3 = 0 then (
        F_X0_areApart_30 w2 x1 x2 s2)
      else (
        bd (F_X0_sameAs x2 x1 s2) (fun q8 s7 =>
          if q8 = ((1 : Int32) <<< (x2 &&& 31)) then (
            F_X0_areApart_30 w2 x1 x2 s7)
          else (
            some ((0 : Int32), s7))))))
set_option maxHeartbeats 4000000 in
set_option maxRecDepth 100000 in
theorem b_X0_areApart_2 {G : zG} {C : zC} {r : Int32} {τ : zSt} (hR : zR G C (some .boolean) (some (.int r)) τ) (x1 : Int32) (w2 : (Int32 × zSt) → Option (Int32 × zSt)) (hw2 : ∀ (x2 : Int32) (σ : zSt), w2 (x2, σ) = some (r, τ) → zAW G 4 RX0 cX0_areApart 3 C 2 [(0, .ref (zad G 65)), (1, .int x1), (2, .int x2)] [] σ) (x2 : Int32) (σ : zSt) (h : F_X0_areApart_2 x1 w2 x2 σ = some (r, τ)) : zAW G 4 RX0 cX0_areApart 3 C 2 [(0, .ref (zad G 65)), (1, .int x1), (2, .int x2)] [] σ := by
  unfold F_X0_areApart_2 at h
  refine z_iload e_X0_areApart_2 2 rfl ?_
  refine z_ic e_X0_areApart_3 ?_
  refine z_icmp_ge e_X0_areApart_5 h (fun c1 h => ?_) (fun c1 h => ?_)
  · refine z_ic e_X0_areApart_36 ?_
    cases h
    exact z_zreturn hR e_X0_areApart_37 (Or.inr rfl)
  · refine z_aload e_X0_areApart_8 0 rfl ?_
    refine z_iload e_X0_areApart_9 2 rfl ?_
    obtain ⟨q3, s2, e4, h⟩ := bd_e h
    refine z_callVi (c0 := 65) (As := [.int x2]) (rest := []) lk_X0_19 ob_65 e_X0_areApart_10 (m_X0_isTold G x2 σ _ _ e4) (by decide) rfl (Nat.le_of_ble_eq_true rfl) ?_
    refine z_if_eq e_X0_areApart_13 h (fun c5 h => ?_) (fun c5 h => ?_)
    · exact z_sub [0, 1, 2] rfl (p_X0_areApart_30 hR w2 x1 x2 hw2 s2 h)
    · refine z_aload e_X0_areApart_16 0 rfl ?_
      refine z_iload e_X0_areApart_17 2 rfl ?_
      refine z_iload e_X0_areApart_18 1 rfl ?_
      obtain ⟨q8, s7, e9, h⟩ := bd_e h
      refine z_callVi (c0 := 65) (As := [.int x2, .int x1]) (rest := []) lk_X0_31 ob_65 e_X0_areApart_19 (m_X0_sameAs G x2 x1 s2 _ _ e9) (by decide) rfl (Nat.le_of_ble_eq_true rfl) ?_
      refine z_ic e_X0_areApart_22 ?_
      refine z_iload e_X0_areApart_23 2 rfl ?_
      refine z_ishl e_X0_areApart_24 ?_
      refine z_icmp_eq e_X0_areApart_25 h (fun c10 h => ?_) (fun c10 h => ?_)
      · exact z_sub [0, 1, 2] rfl (p_X0_areApart_30 hR w2 x1 x2 hw2 s7 h)
      · refine z_ic e_X0_areApart_28 ?_
        cases h
        exact z_zreturn hR e_X0_areApart_29 (Or.inl rfl)
noncomputable def F_X0_areApart_2L (x1 : Int32) : ((Int32 × zSt) → Option (Int32 × zSt)) → (Int32 × zSt) → Option (Int32 × zSt) := fun w s => F_X0_areApart_2 x1 w s.1 s.2
set_option maxRecDepth 100000 in
theorem l_X0_areApart_2 {G : zG} {C : zC} {r : Int32} {τ : zSt} (hR : zR G C (some .boolean) (some (.int r)) τ) (x1 : Int32) : ∀ (N : Nat) (x2 : Int32) (σ : zSt), zfix (F_X0_areApart_2L x1) N (x2, σ) = some (r, τ) → zAW G 4 RX0 cX0_areApart 3 C 2 [(0, .ref (zad G 65)), (1, .int x1), (2, .int x2)] [] σ := by
  intro N
  induction N with
  | zero =>
    intro x2 σ h
    exact nomatch (show (none : Option (Int32 × zSt)) = some (r, τ) from h)
  | succ N ih =>
    intro x2 σ h
    exact b_X0_areApart_2 hR x1 (zfix (F_X0_areApart_2L x1) N) ih x2 σ h
noncomputable def F_X0_areApart_0 (x1 : Int32) (σ : zSt) : Option (Int32 × zSt) :=
  zfix (F_X0_areApart_2L x1) zlim ((0 : Int32), σ)
set_option maxHeartbeats 4000000 in
set_option maxRecDepth 100000 in
theorem p_X0_areApart_0 {G : zG} {C : zC} {r : Int32} {τ : zSt} (hR : zR G C (some .boolean) (some (.int r)) τ) (x1 : Int32) (σ : zSt) (h : F_X0_areApart_0 x1 σ = some (r, τ)) : zAW G 4 RX0 cX0_areApart 3 C 0 [(0, .ref (zad G 65)), (1, .int x1)] [] σ := by
  unfold F_X0_areApart_0 at h
  refine z_ic e_X0_areApart_0 ?_
  refine z_istore e_X0_areApart_1 (by decide) [(2, .int (0 : Int32)), (0, .ref (zad G 65)), (1, .int x1)] rfl ?_
  exact z_sub [1, 2, 0] rfl (l_X0_areApart_2 hR x1 zlim (0 : Int32) σ h)
noncomputable def F_X0_areApart (x1 : Int32) (σ : zSt) : Option (Int32 × zSt) := F_X0_areApart_0 x1 σ
set_option maxRecDepth 100000 in
theorem m_X0_areApart (G : zG) (x1 : Int32) (σ : zSt) (q : Int32) (τ : zSt) (h : F_X0_areApart x1 σ = some (q, τ)) : zM G 4 yX0_areApart cX0_areApart 3 (some .boolean) [.ref (zad G 65), .int x1] σ (some (.int q)) τ := by
  unfold F_X0_areApart at h
  refine zM.of (own := RX0) (by decide +kernel) rfl (Nat.le_of_ble_eq_true rfl) (fun C hR => ?_)
  exact z_sub [0, 1] rfl (p_X0_areApart_0 hR x1 σ h)
noncomputable def F_X0_fewestTests_54 (x1 : Int32) (x2 : Int32) (σ : zSt) : Option (Int32 × zSt) :=
  if x2 = (-1 : Int32) then (
    some ((-2 : Int32), σ))
  else (
    if x1 = 0 then (
      bd (F_J6_bitCount_0f7a4 x2 σ) (fun q5 s4 =>
        some (q5, s4)))
    else (
      some (x2, σ)))
set_option maxHeartbeats 4000000 in
set_option maxRecDepth 100000 in
theorem p_X0_fewestTests_54 {G : zG} {C : zC} {r : Int32} {τ : zSt} (hR : zR G C (some .int) (some (.int r)) τ) (x1 : Int32) (x2 : Int32) (σ : zSt) (h : F_X0_fewestTests_54 x1 x2 σ = some (r, τ)) : zAW G 5 RX0 cX0_fewestTests 5 C 54 [(1, .int x1), (2, .int x2)] [] σ := by
  unfold F_X0_fewestTests_54 at h
  refine z_iload e_X0_fewestTests_54 1 rfl ?_
  refine z_ic e_X0_fewestTests_55 ?_
  refine z_icmp_ne e_X0_fewestTests_56 h (fun c2 h => ?_) (fun c2 h => ?_)
  · refine z_ic e_X0_fewestTests_59 ?_
    cases h
    exact z_ireturn hR e_X0_fewestTests_61
  · refine z_iload e_X0_fewestTests_62 0 rfl ?_
    refine z_if_ne e_X0_fewestTests_63 h (fun c3 h => ?_) (fun c3 h => ?_)
    · refine z_iload e_X0_fewestTests_66 1 rfl ?_
      obtain ⟨q5, s4, e6, h⟩ := bd_e h
      refine z_callSi (As := [.int x2]) (rest := []) lk_X0_35 e_X0_fewestTests_67 (m_J6_bitCount_0f7a4 G x2 σ _ _ e6) (by decide) rfl (Nat.le_of_ble_eq_true rfl) ?_
      refine z_goto e_X0_fewestTests_70 ?_
      cases h
      exact z_ireturn hR e_X0_fewestTests_74
    · refine z_iload e_X0_fewestTests_73 1 rfl ?_
      cases h
      exact z_ireturn hR e_X0_fewestTests_74
noncomputable def F_X0_fewestTests_48 (w4 : (Int32 × Int32 × zSt) → Option (Int32 × zSt)) (x1 : Int32) (x2 : Int32) (x3 : Int32) (σ : zSt) : Option (Int32 × zSt) :=
  nm (x3 + (1 : Int32)) (fun v9 =>
    w4 (x2, v9, σ))
set_option maxHeartbeats 4000000 in
set_option maxRecDepth 100000 in
theorem p_X0_fewestTests_48 {G : zG} {C : zC} {r : Int32} {τ : zSt} (hR : zR G C (some .int) (some (.int r)) τ) (w4 : (Int32 × Int32 × zSt) → Option (Int32 × zSt)) (x1 : Int32) (x2 : Int32) (x3 : Int32) (hw4 : ∀ (x2 : Int32) (x3 : Int32) (σ : zSt), w4 (x2, x3, σ) = some (r, τ) → zAW G 5 RX0 cX0_fewestTests 5 C 4 [(0, .ref (zad G 65)), (1, .int x1), (2, .int x2), (3, .int x3)] [] σ) (σ : zSt) (h : F_X0_fewestTests_48 w4 x1 x2 x3 σ = some (r, τ)) : zAW G 5 RX0 cX0_fewestTests 5 C 48 [(0, .ref (zad G 65)), (1, .int x1), (2, .int x2), (3, .int x3)] [] σ := by
  unfold F_X0_fewestTests_48 at h
  refine z_iinc e_X0_fewestTests_48 3 rfl (by decide) (by decide) h (fun y => [(3, .int y), (0, .ref (zad G 65)), (1, .int x1), (2, .int x2)]) (fun _ => rfl) (fun v9 h => ?_)
  refine z_goto e_X0_fewestTests_51 ?_
  exact z_sub [1, 2, 3, 0] rfl (hw4 x2 v9 σ h)
noncomputable def F_X0_fewestTests_31 (w4 : (Int32 × Int32 × zSt) → Option (Int32 × zSt)) (x1 : Int32) (x2 : Int32) (x3 : Int32) (t0 : Int32) (σ : zSt) : Option (Int32 × zSt) :=
  if t0 = 0 then (
    F_X0_fewestTests_48 w4 x1 x2 x3 σ)
  else (
    bd (F_X0_areApart x3 σ) (fun q11 s10 =>
      nm (if q11 = 0 then x2 else x3) (fun v13 =>
        F_X0_fewestTests_48 w4 x1 v13 x3 s10)))
set_option maxHeartbeats 4000000 in
set_option maxRecDepth 100000 in
theorem p_X0_fewestTests_31 {G : zG} {C : zC} {r : Int32} {τ : zSt} (hR : zR G C (some .int) (some (.int r)) τ) (w4 : (Int32 × Int32 × zSt) → Option (Int32 × zSt)) (x1 : Int32) (x2 : Int32) (x3 : Int32) (t0 : Int32) (hw4 : ∀ (x2 : Int32) (x3 : Int32) (σ : zSt), w4 (x2, x3, σ) = some (r, τ) → zAW G 5 RX0 cX0_fewestTests 5 C 4 [(0, .ref (zad G 65)), (1, .int x1), (2, .int x2), (3, .int x3)] [] σ) (σ : zSt) (h : F_X0_fewestTests_31 w4 x1 x2 x3 t0 σ = some (r, τ)) : zAW G 5 RX0 cX0_fewestTests 5 C 31 [(0, .ref (zad G 65)), (1, .int x1), (2, .int x2), (3, .int x3)] [.int t0] σ := by
  unfold F_X0_fewestTests_31 at h
  refine z_istore e_X0_fewestTests_31 (by decide) [(4, .int t0), (0, .ref (zad G 65)), (1, .int x1), (2, .int x2), (3, .int x3)] rfl ?_
  refine z_iload e_X0_fewestTests_33 0 rfl ?_
  refine z_if_eq e_X0_fewestTests_35 h (fun c8 h => ?_) (fun c8 h => ?_)
  · exact z_sub [1, 2, 3, 4] rfl (p_X0_fewestTests_48 hR w4 x1 x2 x3 hw4 σ h)
  · refine z_aload e_X0_fewestTests_38 1 rfl ?_
    refine z_iload e_X0_fewestTests_39 4 rfl ?_
    obtain ⟨q11, s10, e12, h⟩ := bd_e h
    refine z_callVi (c0 := 65) (As := [.int x3]) (rest := []) lk_X0_41 ob_65 e_X0_fewestTests_40 (m_X0_areApart G x3 σ _ _ e12) (by decide) rfl (Nat.le_of_ble_eq_true rfl) ?_
    obtain ⟨v13, ev13, h⟩ := nm_i h
    have jv13 : zAW G 5 RX0 cX0_fewestTests 5 C 48 [(0, .ref (zad G 65)), (1, .int x1), (2, .int v13), (3, .int x3)] [] s10 := by
      exact z_sub [0, 1, 2, 3] rfl (p_X0_fewestTests_48 hR w4 x1 v13 x3 hw4 s10 h)
    refine y_if_eq e_X0_fewestTests_43 (fun c14 => ?_) (fun c14 => ?_)
    · rw [if_pos c14] at ev13
      subst ev13
      exact z_sub [1, 2, 3, 4] rfl jv13
    · refine z_iload e_X0_fewestTests_46 4 rfl ?_
      refine z_istore e_X0_fewestTests_47 (by decide) [(2, .int x3), (4, .int t0), (0, .ref (zad G 65)), (1, .int x1), (3, .int x3)] rfl ?_
      rw [if_neg c14] at ev13
      subst ev13
      exact z_sub [2, 3, 0, 4] rfl jv13
noncomputable def F_X0_fewestTests_26 (w4 : (Int32 × Int32 × zSt) → Option (Int32 × zSt)) (x1 : Int32) (x2 : Int32) (x3 : Int32) (σ : zSt) : Option (Int32 × zSt) :=
  F_X0_fewestTests_31 w4 x1 x2 x3 (1 : Int32) σ
set_option maxHeartbeats 4000000 in
set_option maxRecDepth 100000 in
theorem p_X0_fewestTests_26 {G : zG} {C : zC} {r : Int32} {τ : zSt} (hR : zR G C (some .int) (some (.int r)) τ) (w4 : (Int32 × Int32 × zSt) → Option (Int32 × zSt)) (x1 : Int32) (x2 : Int32) (x3 : Int32) (hw4 : ∀ (x2 : Int32) (x3 : Int32) (σ : zSt), w4 (x2, x3, σ) = some (r, τ) → zAW G 5 RX0 cX0_fewestTests 5 C 4 [(0, .ref (zad G 65)), (1, .int x1), (2, .int x2), (3, .int x3)] [] σ) (σ : zSt) (h : F_X0_fewestTests_26 w4 x1 x2 x3 σ = some (r, τ)) : zAW G 5 RX0 cX0_fewestTests 5 C 26 [(0, .ref (zad G 65)), (1, .int x1), (2, .int x2), (3, .int x3)] [] σ := by
  unfold F_X0_fewestTests_26 at h
  refine z_ic e_X0_fewestTests_26 ?_
  refine z_goto e_X0_fewestTests_27 ?_
  exact z_sub [0, 1, 2, 3] rfl (p_X0_fewestTests_31 hR w4 x1 x2 x3 (1 : Int32) hw4 σ h)
noncomputable def F_X0_fewestTests_4 (x1 : Int32) (w4 : (Int32 × Int32 × zSt) → Option (Int32 × zSt)) (x2 : Int32) (x3 : Int32) (σ : zSt) : Option (Int32 × zSt) :=
  if (64 : Int32) ≤ x3 then (
    F_X0_fewestTests_54 x1 x2 σ)
  else (
    if x2 = (-1 : Int32) then (
      F_X0_fewestTests_26 w4 x1 x2 x3 σ)
    else (
      bd (F_J6_bitCount_0f7a4 x3 σ) (fun q16 s15 =>
        bd (F_J6_bitCount_0f7a4 x2 s15) (fun q19 s18 =>
          nm (if q19 ≤ q16 then (0 : Int32) else (1 : Int32)) (fun v21 =>
            if v21 = 0 then (
              F_X0_fewestTests_48 w4 x1 x2 x3 s18)
            else (
              bd (F_X0_areApart x3 s18) (fun q24 s23 =>
                nm (if q24 = 0 then x2 else x3) (fun v26 =>
                  F_X0_fewestTests_48 w4 x1 v26 x3 s23))))))))
set_option maxHeartbeats 4000000 in
set_option maxRecDepth 100000 in
theorem b_X0_fewestTests_4 {G : zG} {C : zC} {r : Int32} {τ : zSt} (hR : zR G C (some .int) (some (.int r)) τ) (x1 : Int32) (w4 : (Int32 × Int32 × zSt) → Option (Int32 × zSt)) (hw4 : ∀ (x2 : Int32) (x3 : Int32) (σ : zSt), w4 (x2, x3, σ) = some (r, τ) → zAW G 5 RX0 cX0_fewestTests 5 C 4 [(0, .ref (zad G 65)), (1, .int x1), (2, .int x2), (3, .int x3)] [] σ) (x2 : Int32) (x3 : Int32) (σ : zSt) (h : F_X0_fewestTests_4 x1 w4 x2 x3 σ = some (r, τ)) : zAW G 5 RX0 cX0_fewestTests 5 C 4 [(0, .ref (zad G 65)), (1, .int x1), (2, .int x2), (3, .int x3)] [] σ := by
  unfold F_X0_fewestTests_4 at h
  refine z_iload e_X0_fewestTests_4 3 rfl ?_
  refine z_ic e_X0_fewestTests_5 ?_
  refine z_icmp_ge e_X0_fewestTests_7 h (fun c1 h => ?_) (fun c1 h => ?_)
  · exact z_sub [1, 2] rfl (p_X0_fewestTests_54 hR x1 x2 σ h)
  · refine z_iload e_X0_fewestTests_10 2 rfl ?_
    refine z_ic e_X0_fewestTests_11 ?_
    refine z_icmp_eq e_X0_fewestTests_12 h (fun c7 h => ?_) (fun c7 h => ?_)
    · exact z_sub [0, 1, 2, 3] rfl (p_X0_fewestTests_26 hR w4 x1 x2 x3 hw4 σ h)
    · refine z_iload e_X0_fewestTests_15 3 rfl ?_
      obtain ⟨q16, s15, e17, h⟩ := bd_e h
      refine z_callSi (As := [.int x3]) (rest := []) lk_X0_35 e_X0_fewestTests_16 (m_J6_bitCount_0f7a4 G x3 σ _ _ e17) (by decide) rfl (Nat.le_of_ble_eq_true rfl) ?_
      refine z_iload e_X0_fewestTests_19 2 rfl ?_
      obtain ⟨q19, s18, e20, h⟩ := bd_e h
      refine z_callSi (As := [.int x2]) (rest := [.int q16]) lk_X0_35 e_X0_fewestTests_20 (m_J6_bitCount_0f7a4 G x2 s15 _ _ e20) (by decide) rfl (Nat.le_of_ble_eq_true rfl) ?_
      obtain ⟨v21, ev21, h⟩ := nm_i h
      have jv21 : zAW G 5 RX0 cX0_fewestTests 5 C 31 [(0, .ref (zad G 65)), (1, .int x1), (2, .int x2), (3, .int x3)] [.int v21] s18 := by
        refine z_istore e_X0_fewestTests_31 (by decide) [(4, .int v21), (0, .ref (zad G 65)), (1, .int x1), (2, .int x2), (3, .int x3)] rfl ?_
        refine z_iload e_X0_fewestTests_33 0 rfl ?_
        refine z_if_eq e_X0_fewestTests_35 h (fun c22 h => ?_) (fun c22 h => ?_)
        · exact z_sub [1, 2, 3, 4] rfl (p_X0_fewestTests_48 hR w4 x1 x2 x3 hw4 s18 h)
        · refine z_aload e_X0_fewestTests_38 1 rfl ?_
          refine z_iload e_X0_fewestTests_39 4 rfl ?_
          obtain ⟨q24, s23, e25, h⟩ := bd_e h
          refine z_callVi (c0 := 65) (As := [.int x3]) (rest := []) lk_X0_41 ob_65 e_X0_fewestTests_40 (m_X0_areApart G x3 s18 _ _ e25) (by decide) rfl (Nat.le_of_ble_eq_true rfl) ?_
          obtain ⟨v26, ev26, h⟩ := nm_i h
          have jv26 : zAW G 5 RX0 cX0_fewestTests 5 C 48 [(0, .ref (zad G 65)), (1, .int x1), (2, .int v26), (3, .int x3)] [] s23 := by
            exact z_sub [0, 1, 2, 3] rfl (p_X0_fewestTests_48 hR w4 x1 v26 x3 hw4 s23 h)
          refine y_if_eq e_X0_fewestTests_43 (fun c27 => ?_) (fun c27 => ?_)
          · rw [if_pos c27] at ev26
            subst ev26
            exact z_sub [1, 2, 3, 4] rfl jv26
          · refine z_iload e_X0_fewestTests_46 4 rfl ?_
            refine z_istore e_X0_fewestTests_47 (by decide) [(2, .int x3), (4, .int v21), (0, .ref (zad G 65)), (1, .int x1), (3, .int x3)] rfl ?_
            rw [if_neg c27] at ev26
            subst ev26
            exact z_sub [2, 3, 0, 4] rfl jv26
      refine y_icmp_ge e_X0_fewestTests_23 (fun c28 => ?_) (fun c28 => ?_)
      · refine z_ic e_X0_fewestTests_30 ?_
        rw [if_pos c28] at ev21
        subst ev21
        exact z_sub [0, 1, 2, 3] rfl jv21
      · refine z_ic e_X0_fewestTests_26 ?_
        refine z_goto e_X0_fewestTests_27 ?_
        rw [if_neg c28] at ev21
        subst ev21
        exact z_sub [0, 1, 2, 3] rfl jv21
noncomputable def F_X0_fewestTests_4L (x1 : Int32) : ((Int32 × Int32 × zSt) → Option (Int32 × zSt)) → (Int32 × Int32 × zSt) → Option (Int32 × zSt) := fun w s => F_X0_fewestTests_4 x1 w s.1 s.2.1 s.2.2
set_option maxRecDepth 100000 in
theorem l_X0_fewestTests_4 {G : zG} {C : zC} {r : Int32} {τ : zSt} (hR : zR G C (some .int) (some (.int r)) τ) (x1 : Int32) : ∀ (N : Nat) (x2 : Int32) (x3 : Int32) (σ : zSt), zfix (F_X0_fewestTests_4L x1) N (x2, x3, σ) = some (r, τ) → zAW G 5 RX0 cX0_fewestTests 5 C 4 [(0, .ref (zad G 65)), (1, .int x1), (2, .int x2), (3, .int x3)] [] σ := by
  intro N
  induction N with
  | zero =>
    intro x2 x3 σ h
    exact nomatch (show (none : Option (Int32 × zSt)) = some (r, τ) from h)
  | succ N ih =>
    intro x2 x3 σ h
    exact b_X0_fewestTests_4 hR x1 (zfix (F_X0_fewestTests_4L x1) N) ih x2 x3 σ h
noncomputable def F_X0_fewestTests_0 (x1 : Int32) (σ : zSt) : Option (Int32 × zSt) :=
  zfix (F_X0_fewestTests_4L x1) zlim ((-1 : Int32), (0 : Int32), σ)
set_option maxHeartbeats 4000000 in
set_option maxRecDepth 100000 in
theorem p_X0_fewestTests_0 {G : zG} {C : zC} {r : Int32} {τ : zSt} (hR : zR G C (some .int) (some (.int r)) τ) (x1 : Int32) (σ : zSt) (h : F_X0_fewestTests_0 x1 σ = some (r, τ)) : zAW G 5 RX0 cX0_fewestTests 5 C 0 [(0, .ref (zad G 65)), (1, .int x1)] [] σ := by
  unfold F_X0_fewestTests_0 at h
  refine z_ic e_X0_fewestTests_0 ?_
  refine z_istore e_X0_fewestTests_1 (by decide) [(2, .int (-1 : Int32)), (0, .ref (zad G 65)), (1, .int x1)] rfl ?_
  refine z_ic e_X0_fewestTests_2 ?_
  refine z_istore e_X0_fewestTests_3 (by decide) [(3, .int (0 : Int32)), (2, .int (-1 : Int32)), (0, .ref (zad G 65)), (1, .int x1)] rfl ?_
  exact z_sub [2, 3, 1, 0] rfl (l_X0_fewestTests_4 hR x1 zlim (-1 : Int32) (0 : Int32) σ h)
noncomputable def F_X0_fewestTests (x1 : Int32) (σ : zSt) : Option (Int32 × zSt) := F_X0_fewestTests_0 x1 σ
set_option maxRecDepth 100000 in
theorem m_X0_fewestTests (G : zG) (x1 : Int32) (σ : zSt) (q : Int32) (τ : zSt) (h : F_X0_fewestTests x1 σ = some (q, τ)) : zM G 5 yX0_fewestTests cX0_fewestTests 5 (some .int) [.ref (zad G 65), .int x1] σ (some (.int q)) τ := by
  unfold F_X0_fewestTests at h
  refine zM.of (own := RX0) (by decide +kernel) rfl (Nat.le_of_ble_eq_true rfl) (fun C hR => ?_)
  exact z_sub [0, 1] rfl (p_X0_fewestTests_0 hR x1 σ h)
noncomputable def F_X11_apart_0 (x1 : Int32) (σ : zSt) : Option (Int32 × zSt) :=
  bd (F_X11_isBelow x1 (2 : Int32) σ) (fun q2 s1 =>
    if q2 = 0 then (
      some ((-1 : Int32), s1))
    else (
      bd (F_X0_fewestTests x1 s1) (fun q6 s5 =>
        some (q6, s5))))
set_option maxHeartbeats 4000000 in
set_option maxRecDepth 100000 in
theorem p_X11_apart_0 {G : zG} {C : zC} {r : Int32} {τ : zSt} (hR : zR G C (some .int) (some (.int r)) τ) (x1 : Int32) (σ : zSt) (h : F_X11_apart_0 x1 σ = some (r, τ)) : zAW G 6 RX11 cX11_apart 2 C 0 [(0, .ref (zad G 0)), (1, .int x1)] [] σ := by
  unfold F_X11_apart_0 at h
  refine z_iload e_X11_apart_0 1 rfl ?_
  refine z_ic e_X11_apart_1 ?_
  obtain ⟨q2, s1, e3, h⟩ := bd_e h
  refine z_callSi (As := [.int x1, .int (2 : Int32)]) (rest := []) lk_X11_104 e_X11_apart_2 (m_X11_isBelow G x1 (2 : Int32) σ _ _ e3) (by decide) rfl (Nat.le_of_ble_eq_true rfl) ?_
  refine z_if_eq e_X11_apart_5 h (fun c4 h => ?_) (fun c4 h => ?_)
  · refine z_ic e_X11_apart_19 ?_
    cases h
    exact z_ireturn hR e_X11_apart_20
  · refine z_aload e_X11_apart_8 0 rfl ?_
    refine z_getr gf_X11_93_0 e_X11_apart_9 ?_
    refine z_iload e_X11_apart_12 1 rfl ?_
    obtain ⟨q6, s5, e7, h⟩ := bd_e h
    refine z_callVi (c0 := 65) (As := [.int x1]) (rest := []) lk_X11_255 ob_65 e_X11_apart_13 (m_X0_fewestTests G x1 s1 _ _ e7) (by decide) rfl (Nat.le_of_ble_eq_true rfl) ?_
    refine z_goto e_X11_apart_16 ?_
    cases h
    exact z_ireturn hR e_X11_apart_20
noncomputable def F_X11_apart (x1 : Int32) (σ : zSt) : Option (Int32 × zSt) := F_X11_apart_0 x1 σ
set_option maxRecDepth 100000 in
theorem m_X11_apart (G : zG) (x1 : Int32) (σ : zSt) (q : Int32) (τ : zSt) (h : F_X11_apart x1 σ = some (q, τ)) : zM G 6 yX11_apart cX11_apart 2 (some .int) [.ref (zad G 0), .int x1] σ (some (.int q)) τ := by
  unfold F_X11_apart at h
  refine zM.of (own := RX11) (by decide +kernel) rfl (Nat.le_of_ble_eq_true rfl) (fun C hR => ?_)
  exact z_sub [0, 1] rfl (p_X11_apart_0 hR x1 σ h)
noncomputable def F_X12_areAlike_46 (w3 : (Int32 × zSt) → Option (Int32 × zSt)) (x1 : Int32) (x2 : Int32) (x3 : Int32) (x4 : Int32) (σ : zSt) : Option (Int32 × zSt) :=
  nm (x4 + (1 : Int32)) (fun v6 =>
    w3 (v6, σ))
set_option maxHeartbeats 4000000 in
set_option maxRecDepth 100000 in
theorem p_X12_areAlike_46 {G : zG} {C : zC} {r : Int32} {τ : zSt} (hR : zR G C (some .boolean) (some (.int r)) τ) (w3 : (Int32 × zSt) → Option (Int32 × zSt)) (x1 : Int32) (x2 : Int32) (x3 : Int32) (x4 : Int32) (hw3 : ∀ (x4 : Int32) (σ : zSt), w3 (x4, σ) = some (r, τ) → zAW G 2 RX12 cX12_areAlike 5 C 3 [(0, .ref (zad G 69)), (1, .int x1), (2, .int x2), (3, .int x3), (4, .int x4)] [] σ) (σ : zSt) (h : F_X12_areAlike_46 w3 x1 x2 x3 x4 σ = some (r, τ)) : zAW G 2 RX12 cX12_areAlike 5 C 46 [(0, .ref (zad G 69)), (1, .int x1), (2, .int x2), (3, .int x3), (4, .int x4)] [] σ := by
  unfold F_X12_areAlike_46 at h
  refine z_iinc e_X12_areAlike_46 4 rfl (by decide) (by decide) h (fun y => [(4, .int y), (0, .ref (zad G 69)), (1, .int x1), (2, .int x2), (3, .int x3)]) (fun _ => rfl) (fun v6 h => ?_)
  refine z_goto e_X12_areAlike_49 ?_
  exact z_sub [1, 2, 3, 4, 0] rfl (hw3 v6 σ h)
noncomputable def F_X12_areAlike_3 (x1 : Int32) (x2 : Int32) (x3 : Int32) (w3 : (Int32 × zSt) → Option (Int32 × zSt)) (x4 : Int32) (σ : zSt) : Option (Int32 × zSt) :=
  if (6 : Int32) ≤ x4 then (
    some ((1 : Int32), σ))
  else (
    bd (F_X12_has x3 x4 σ) (fun q3 s2 =>
      if q3 = 0 then (
        F_X12_areAlike_46 w3 x1 x2 x3 x4 s2)
      else (
        gd (vp_in x4 6) (
          bd (F_X12_has (s2.1 103 x4.toNatClampNeg) x1 s2) (fun q8 s7 =>
            gd (vp_in x4 6) (
              bd (F_X12_has (s7.1 103 x4.toNatClampNeg) x2 s7) (fun q11 s10 =>
                if q8 = q11 then (
                  F_X12_areAlike_46 w3 x1 x2 x3 x4 s10)
                else (
                  some ((0 : Int32), s10)))))))))
set_option maxHeartbeats 4000000 in
set_option maxRecDepth 100000 in
theorem b_X12_areAlike_3 {G : zG} {C : zC} {r : Int32} {τ : zSt} (hR : zR G C (some .boolean) (some (.int r)) τ) (x1 : Int32) (x2 : Int32) (x3 : Int32) (w3 : (Int32 × zSt) → Option (Int32 × zSt)) (hw3 : ∀ (x4 : Int32) (σ : zSt), w3 (x4, σ) = some (r, τ) → zAW G 2 RX12 cX12_areAlike 5 C 3 [(0, .ref (zad G 69)), (1, .int x1), (2, .int x2), (3, .int x3), (4, .int x4)] [] σ) (x4 : Int32) (σ : zSt) (h : F_X12_areAlike_3 x1 x2 x3 w3 x4 σ = some (r, τ)) : zAW G 2 RX12 cX12_areAlike 5 C 3 [(0, .ref (zad G 69)), (1, .int x1), (2, .int x2), (3, .int x3), (4, .int x4)] [] σ := by
  unfold F_X12_areAlike_3 at h
  refine z_iload e_X12_areAlike_3 4 rfl ?_
  refine z_ic e_X12_areAlike_5 ?_
  refine z_icmp_ge e_X12_areAlike_7 h (fun c1 h => ?_) (fun c1 h => ?_)
  · refine z_ic e_X12_areAlike_52 ?_
    cases h
    exact z_zreturn hR e_X12_areAlike_53 (Or.inr rfl)
  · refine z_iload e_X12_areAlike_10 3 rfl ?_
    refine z_iload e_X12_areAlike_11 4 rfl ?_
    obtain ⟨q3, s2, e4, h⟩ := bd_e h
    refine z_callSi (As := [.int x3, .int x4]) (rest := []) lk_X12_156 e_X12_areAlike_13 (m_X12_has G x3 x4 σ _ _ e4) (by decide) rfl (Nat.le_of_ble_eq_true rfl) ?_
    refine z_if_eq e_X12_areAlike_16 h (fun c5 h => ?_) (fun c5 h => ?_)
    · exact z_sub [0, 1, 2, 3, 4] rfl (p_X12_areAlike_46 hR w3 x1 x2 x3 x4 hw3 s2 h)
    · refine z_aload e_X12_areAlike_19 0 rfl ?_
      refine z_getr gf_X12_111_69 e_X12_areAlike_20 ?_
      refine z_iload e_X12_areAlike_23 4 rfl ?_
      refine z_iald sh_103 e_X12_areAlike_25 h (fun h => ?_)
      refine z_iload e_X12_areAlike_26 1 rfl ?_
      obtain ⟨q8, s7, e9, h⟩ := bd_e h
      refine z_callSi (As := [.int (s2.1 103 x4.toNatClampNeg), .int x1]) (rest := []) lk_X12_156 e_X12_areAlike_27 (m_X12_has G (s2.1 103 x4.toNatClampNeg) x1 s2 _ _ e9) (by decide) rfl (Nat.le_of_ble_eq_true rfl) ?_
      refine z_aload e_X12_areAlike_30 0 rfl ?_
      refine z_getr gf_X12_111_69 e_X12_areAlike_31 ?_
      refine z_iload e_X12_areAlike_34 4 rfl ?_
      refine z_iald sh_103 e_X12_areAlike_36 h (fun h => ?_)
      refine z_iload e_X12_areAlike_37 2 rfl ?_
      obtain ⟨q11, s10, e12, h⟩ := bd_e h
      refine z_callSi (As := [.int (s7.1 103 x4.toNatClampNeg), .int x2]) (rest := [.int q8]) lk_X12_156 e_X12_areAlike_38 (m_X12_has G (s7.1 103 x4.toNatClampNeg) x2 s7 _ _ e12) (by decide) rfl (Nat.le_of_ble_eq_true rfl) ?_
      refine z_icmp_eq e_X12_areAlike_41 h (fun c13 h => ?_) (fun c13 h => ?_)
      · exact z_sub [0, 1, 2, 3, 4] rfl (p_X12_areAlike_46 hR w3 x1 x2 x3 x4 hw3 s10 h)
      · refine z_ic e_X12_areAlike_44 ?_
        cases h
        exact z_zreturn hR e_X12_areAlike_45 (Or.inl rfl)
noncomputable def F_X12_areAlike_3L (x1 : Int32) (x2 : Int32) (x3 : Int32) : ((Int32 × zSt) → Option (Int32 × zSt)) → (Int32 × zSt) → Option (Int32 × zSt) := fun w s => F_X12_areAlike_3 x1 x2 x3 w s.1 s.2
set_option maxRecDepth 100000 in
theorem l_X12_areAlike_3 {G : zG} {C : zC} {r : Int32} {τ : zSt} (hR : zR G C (some .boolean) (some (.int r)) τ) (x1 : Int32) (x2 : Int32) (x3 : Int32) : ∀ (N : Nat) (x4 : Int32) (σ : zSt), zfix (F_X12_areAlike_3L x1 x2 x3) N (x4, σ) = some (r, τ) → zAW G 2 RX12 cX12_areAlike 5 C 3 [(0, .ref (zad G 69)), (1, .int x1), (2, .int x2), (3, .int x3), (4, .int x4)] [] σ := by
  intro N
  induction N with
  | zero =>
    intro x4 σ h
    exact nomatch (show (none : Option (Int32 × zSt)) = some (r, τ) from h)
  | succ N ih =>
    intro x4 σ h
    exact b_X12_areAlike_3 hR x1 x2 x3 (zfix (F_X12_areAlike_3L x1 x2 x3) N) ih x4 σ h
noncomputable def F_X12_areAlike_0 (x1 : Int32) (x2 : Int32) (x3 : Int32) (σ : zSt) : Option (Int32 × zSt) :=
  zfix (F_X12_areAlike_3L x1 x2 x3) zlim ((0 : Int32), σ)
set_option maxHeartbeats 4000000 in
set_option maxRecDepth 100000 in
theorem p_X12_areAlike_0 {G : zG} {C : zC} {r : Int32} {τ : zSt} (hR : zR G C (some .boolean) (some (.int r)) τ) (x1 : Int32) (x2 : Int32) (x3 : Int32) (σ : zSt) (h : F_X12_areAlike_0 x1 x2 x3 σ = some (r, τ)) : zAW G 2 RX12 cX12_areAlike 5 C 0 [(0, .ref (zad G 69)), (1, .int x1), (2, .int x2), (3, .int x3)] [] σ := by
  unfold F_X12_areAlike_0 at h
  refine z_ic e_X12_areAlike_0 ?_
  refine z_istore e_X12_areAlike_1 (by decide) [(4, .int (0 : Int32)), (0, .ref (zad G 69)), (1, .int x1), (2, .int x2), (3, .int x3)] rfl ?_
  exact z_sub [1, 2, 3, 4, 0] rfl (l_X12_areAlike_3 hR x1 x2 x3 zlim (0 : Int32) σ h)
noncomputable def F_X12_areAlike (x1 : Int32) (x2 : Int32) (x3 : Int32) (σ : zSt) : Option (Int32 × zSt) := F_X12_areAlike_0 x1 x2 x3 σ
set_option maxRecDepth 100000 in
theorem m_X12_areAlike (G : zG) (x1 : Int32) (x2 : Int32) (x3 : Int32) (σ : zSt) (q : Int32) (τ : zSt) (h : F_X12_areAlike x1 x2 x3 σ = some (q, τ)) : zM G 2 yX12_areAlike cX12_areAlike 5 (some .boolean) [.ref (zad G 69), .int x1, .int x2, .int x3] σ (some (.int q)) τ := by
  unfold F_X12_areAlike at h
  refine zM.of (own := RX12) (by decide +kernel) rfl (Nat.le_of_ble_eq_true rfl) (fun C hR => ?_)
  exact z_sub [0, 1, 2, 3] rfl (p_X12_areAlike_0 hR x1 x2 x3 σ h)
noncomputable def F_X12_tellsAll_55 (w2 : (Int32 × zSt) → Option (Int32 × zSt)) (x1 : Int32) (x2 : Int32) (σ : zSt) : Option (Int32 × zSt) :=
  nm (x2 + (1 : Int32)) (fun v3 =>
    w2 (v3, σ))
set_option maxHeartbeats 4000000 in
set_option maxRecDepth 100000 in
theorem p_X12_tellsAll_55 {G : zG} {C : zC} {r : Int32} {τ : zSt} (hR : zR G C (some .boolean) (some (.int r)) τ) (w2 : (Int32 × zSt) → Option (Int32 × zSt)) (x1 : Int32) (x2 : Int32) (hw2 : ∀ (x2 : Int32) (σ : zSt), w2 (x2, σ) = some (r, τ) → zAW G 3 RX12 cX12_tellsAll 4 C 2 [(0, .ref (zad G 69)), (1, .int x1), (2, .int x2)] [] σ) (σ : zSt) (h : F_X12_tellsAll_55 w2 x1 x2 σ = some (r, τ)) : zAW G 3 RX12 cX12_tellsAll 4 C 55 [(0, .ref (zad G 69)), (1, .int x1), (2, .int x2)] [] σ := by
  unfold F_X12_tellsAll_55 at h
  refine z_iinc e_X12_tellsAll_55 2 rfl (by decide) (by decide) h (fun y => [(2, .int y), (0, .ref (zad G 69)), (1, .int x1)]) (fun _ => rfl) (fun v3 h => ?_)
  refine z_goto e_X12_tellsAll_58 ?_
  exact z_sub [1, 2, 0] rfl (hw2 v3 σ h)
noncomputable def F_X12_tellsAll_49 (w2 : (Int32 × zSt) → Option (Int32 × zSt)) (w10 : (Int32 × zSt) → Option (Int32 × zSt)) (x1 : Int32) (x2 : Int32) (x3 : Int32) (σ : zSt) : Option (Int32 × zSt) :=
  nm (x3 + (1 : Int32)) (fun v8 =>
    w10 (v8, σ))
set_option maxHeartbeats 4000000 in
set_option maxRecDepth 100000 in
theorem p_X12_tellsAll_49 {G : zG} {C : zC} {r : Int32} {τ : zSt} (hR : zR G C (some .boolean) (some (.int r)) τ) (w2 : (Int32 × zSt) → Option (Int32 × zSt)) (w10 : (Int32 × zSt) → Option (Int32 × zSt)) (x1 : Int32) (x2 : Int32) (x3 : Int32) (hw2 : ∀ (x2 : Int32) (σ : zSt), w2 (x2, σ) = some (r, τ) → zAW G 3 RX12 cX12_tellsAll 4 C 2 [(0, .ref (zad G 69)), (1, .int x1), (2, .int x2)] [] σ) (hw10 : ∀ (x3 : Int32) (σ : zSt), w10 (x3, σ) = some (r, τ) → zAW G 3 RX12 cX12_tellsAll 4 C 10 [(0, .ref (zad G 69)), (1, .int x1), (2, .int x2), (3, .int x3)] [] σ) (σ : zSt) (h : F_X12_tellsAll_49 w2 w10 x1 x2 x3 σ = some (r, τ)) : zAW G 3 RX12 cX12_tellsAll 4 C 49 [(0, .ref (zad G 69)), (1, .int x1), (2, .int x2), (3, .int x3)] [] σ := by
  unfold F_X12_tellsAll_49 at h
  refine z_iinc e_X12_tellsAll_49 3 rfl (by decide) (by decide) h (fun y => [(3, .int y), (0, .ref (zad G 69)), (1, .int x1), (2, .int x2)]) (fun _ => rfl) (fun v8 h => ?_)
  refine z_goto e_X12_tellsAll_52 ?_
  exact z_sub [1, 2, 3, 0] rfl (hw10 v8 σ h)
noncomputable def F_X12_tellsAll_10 (w2 : (Int32 × zSt) → Option (Int32 × zSt)) (x1 : Int32) (x2 : Int32) (w10 : (Int32 × zSt) → Option (Int32 × zSt)) (x3 : Int32) (σ : zSt) : Option (Int32 × zSt) :=
  if x2 ≤ x3 then (
    F_X12_tellsAll_55 w2 x1 x2 σ)
  else (
    bd (F_X12_has (σ.1 69 59) x2 σ) (fun q5 s4 =>
      if q5 = 0 then (
        F_X12_tellsAll_49 w2 w10 x1 x2 x3 s4)
      else (
        bd (F_X12_has (s4.1 69 59) x3 s4) (fun q10 s9 =>
          if q10 = 0 then (
            F_X12_tellsAll_49 w2 w10 x1 x2 x3 s9)
          else (
            bd (F_X12_areAlike x2 x3 x1 s9) (fun q14 s13 =>
              if q14 = 0 then (
                F_X12_tellsAll_49 w2 w10 x1 x2 x3 s13)
              else (
                some ((0 : Int32), s13))))))))
set_option maxHeartbeats 4000000 in
set_option maxRecDepth 100000 in
theorem b_X12_tellsAll_10 {G : zG} {C : zC} {r : Int32} {τ : zSt} (hR : zR G C (some .boolean) (some (.int r)) τ) (w2 : (Int32 × zSt) → Option (Int32 × zSt)) (x1 : Int32) (x2 : Int32) (hw2 : ∀ (x2 : Int32) (σ : zSt), w2 (x2, σ) = some (r, τ) → zAW G 3 RX12 cX12_tellsAll 4 C 2 [(0, .ref (zad G 69)), (1, .int x1), (2, .int x2)] [] σ) (w10 : (Int32 × zSt) → Option (Int32 × zSt)) (hw10 : ∀ (x3 : Int32) (σ : zSt), w10 (x3, σ) = some (r, τ) → zAW G 3 RX12 cX12_tellsAll 4 C 10 [(0, .ref (zad G 69)), (1, .int x1), (2, .int x2), (3, .int x3)] [] σ) (x3 : Int32) (σ : zSt) (h : F_X12_tellsAll_10 w2 x1 x2 w10 x3 σ = some (r, τ)) : zAW G 3 RX12 cX12_tellsAll 4 C 10 [(0, .ref (zad G 69)), (1, .int x1), (2, .int x2), (3, .int x3)] [] σ := by
  unfold F_X12_tellsAll_10 at h
  refine z_iload e_X12_tellsAll_10 3 rfl ?_
  refine z_iload e_X12_tellsAll_11 2 rfl ?_
  refine z_icmp_ge e_X12_tellsAll_12 h (fun c2 h => ?_) (fun c2 h => ?_)
  · exact z_sub [0, 1, 2] rfl (p_X12_tellsAll_55 hR w2 x1 x2 hw2 σ h)
  · refine z_aload e_X12_tellsAll_15 0 rfl ?_
    refine z_geti gf_X12_464_69 e_X12_tellsAll_16 ?_
    refine z_iload e_X12_tellsAll_19 2 rfl ?_
    obtain ⟨q5, s4, e6, h⟩ := bd_e h
    refine z_callSi (As := [.int (σ.1 69 59), .int x2]) (rest := []) lk_X12_156 e_X12_tellsAll_20 (m_X12_has G (σ.1 69 59) x2 σ _ _ e6) (by decide) rfl (Nat.le_of_ble_eq_true rfl) ?_
    refine z_if_eq e_X12_tellsAll_23 h (fun c7 h => ?_) (fun c7 h => ?_)
    · exact z_sub [0, 1, 2, 3] rfl (p_X12_tellsAll_49 hR w2 w10 x1 x2 x3 hw2 hw10 s4 h)
    · refine z_aload e_X12_tellsAll_26 0 rfl ?_
      refine z_geti gf_X12_464_69 e_X12_tellsAll_27 ?_
      refine z_iload e_X12_tellsAll_30 3 rfl ?_
      obtain ⟨q10, s9, e11, h⟩ := bd_e h
      refine z_callSi (As := [.int (s4.1 69 59), .int x3]) (rest := []) lk_X12_156 e_X12_tellsAll_31 (m_X12_has G (s4.1 69 59) x3 s4 _ _ e11) (by decide) rfl (Nat.le_of_ble_eq_true rfl) ?_
      refine z_if_eq e_X12_tellsAll_34 h (fun c12 h => ?_) (fun c12 h => ?_)
      · exact z_sub [0, 1, 2, 3] rfl (p_X12_tellsAll_49 hR w2 w10 x1 x2 x3 hw2 hw10 s9 h)
      · refine z_aload e_X12_tellsAll_37 0 rfl ?_
        refine z_iload e_X12_tellsAll_38 2 rfl ?_
        refine z_iload e_X12_tellsAll_39 3 rfl ?_
        refine z_iload e_X12_tellsAll_40 1 rfl ?_
        obtain ⟨q14, s13, e15, h⟩ := bd_e h
        refine z_callVi (c0 := 69) (As := [.int x2, .int x3, .int x1]) (rest := []) lk_X12_467 ob_69 e_X12_tellsAll_41 (m_X12_areAlike G x2 x3 x1 s9 _ _ e15) (by decide) rfl (Nat.le_of_ble_eq_true rfl) ?_
        refine z_if_eq e_X12_tellsAll_44 h (fun c16 h => ?_) (fun c16 h => ?_)
        · exact z_sub [0, 1, 2, 3] rfl (p_X12_tellsAll_49 hR w2 w10 x1 x2 x3 hw2 hw10 s13 h)
        · refine z_ic e_X12_tellsAll_47 ?_
          cases h
          exact z_zreturn hR e_X12_tellsAll_48 (Or.inl rfl)
noncomputable def F_X12_tellsAll_10L (w2 : (Int32 × zSt) → Option (Int32 × zSt)) (x1 : Int32) (x2 : Int32) : ((Int32 × zSt) → Option (Int32 × zSt)) → (Int32 × zSt) → Option (Int32 × zSt) := fun w s => F_X12_tellsAll_10 w2 x1 x2 w s.1 s.2
set_option maxRecDepth 100000 in
theorem l_X12_tellsAll_10 {G : zG} {C : zC} {r : Int32} {τ : zSt} (hR : zR G C (some .boolean) (some (.int r)) τ) (w2 : (Int32 × zSt) → Option (Int32 × zSt)) (x1 : Int32) (x2 : Int32) (hw2 : ∀ (x2 : Int32) (σ : zSt), w2 (x2, σ) = some (r, τ) → zAW G 3 RX12 cX12_tellsAll 4 C 2 [(0, .ref (zad G 69)), (1, .int x1), (2, .int x2)] [] σ) : ∀ (N : Nat) (x3 : Int32) (σ : zSt), zfix (F_X12_tellsAll_10L w2 x1 x2) N (x3, σ) = some (r, τ) → zAW G 3 RX12 cX12_tellsAll 4 C 10 [(0, .ref (zad G 69)), (1, .int x1), (2, .int x2), (3, .int x3)] [] σ := by
  intro N
  induction N with
  | zero =>
    intro x3 σ h
    exact nomatch (show (none : Option (Int32 × zSt)) = some (r, τ) from h)
  | succ N ih =>
    intro x3 σ h
    exact b_X12_tellsAll_10 hR w2 x1 x2 hw2 (zfix (F_X12_tellsAll_10L w2 x1 x2) N) ih x3 σ h
noncomputable def F_X12_tellsAll_2 (x1 : Int32) (w2 : (Int32 × zSt) → Option (Int32 × zSt)) (x2 : Int32) (σ : zSt) : Option (Int32 × zSt) :=
  if (8 : Int32) ≤ x2 then (
    some ((1 : Int32), σ))
  else (
    zfix (F_X12_tellsAll_10L w2 x1 x2) zlim ((0 : Int32), σ))
set_option maxHeartbeats 4000000 in
set_option maxRecDepth 100000 in
theorem b_X12_tellsAll_2 {G : zG} {C : zC} {r : Int32} {τ : zSt} (hR : zR G C (some .boolean) (some (.int r)) τ) (x1 : Int32) (w2 : (Int32 × zSt) → Option (Int32 × zSt)) (hw2 : ∀ (x2 : Int32) (σ : zSt), w2 (x2, σ) = some (r, τ) → zAW G 3 RX12 cX12_tellsAll 4 C 2 [(0, .ref (zad G 69)), (1, .int x1), (2, .int x2)] [] σ) (x2 : Int32) (σ : zSt) (h : F_X12_tellsAll_2 x1 w2 x2 σ = some (r, τ)) : zAW G 3 RX12 cX12_tellsAll 4 C 2 [(0, .ref (zad G 69)), (1, .int x1), (2, .int x2)] [] σ := by
  unfold F_X12_tellsAll_2 at h
  refine z_iload e_X12_tellsAll_2 2 rfl ?_
  refine z_ic e_X12_tellsAll_3 ?_
  refine z_icmp_ge e_X12_tellsAll_5 h (fun c1 h => ?_) (fun c1 h => ?_)
  · refine z_ic e_X12_tellsAll_61 ?_
    cases h
    exact z_zreturn hR e_X12_tellsAll_62 (Or.inr rfl)
  · refine z_ic e_X12_tellsAll_8 ?_
    refine z_istore e_X12_tellsAll_9 (by decide) [(3, .int (0 : Int32)), (0, .ref (zad G 69)), (1, .int x1), (2, .int x2)] rfl ?_
    exact z_sub [1, 2, 3, 0] rfl (l_X12_tellsAll_10 hR w2 x1 x2 hw2 zlim (0 : Int32) σ h)
noncomputable def F_X12_tellsAll_2L (x1 : Int32) : ((Int32 × zSt) → Option (Int32 × zSt)) → (Int32 × zSt) → Option (Int32 × zSt) := fun w s => F_X12_tellsAll_2 x1 w s.1 s.2
set_option maxRecDepth 100000 in
theorem l_X12_tellsAll_2 {G : zG} {C : zC} {r : Int32} {τ : zSt} (hR : zR G C (some .boolean) (some (.int r)) τ) (x1 : Int32) : ∀ (N : Nat) (x2 : Int32) (σ : zSt), zfix (F_X12_tellsAll_2L x1) N (x2, σ) = some (r, τ) → zAW G 3 RX12 cX12_tellsAll 4 C 2 [(0, .ref (zad G 69)), (1, .int x1), (2, .int x2)] [] σ := by
  intro N
  induction N with
  | zero =>
    intro x2 σ h
    exact nomatch (show (none : Option (Int32 × zSt)) = some (r, τ) from h)
  | succ N ih =>
    intro x2 σ h
    exact b_X12_tellsAll_2 hR x1 (zfix (F_X12_tellsAll_2L x1) N) ih x2 σ h
noncomputable def F_X12_tellsAll_0 (x1 : Int32) (σ : zSt) : Option (Int32 × zSt) :=
  zfix (F_X12_tellsAll_2L x1) zlim ((0 : Int32), σ)
set_option maxHeartbeats 4000000 in
set_option maxRecDepth 100000 in
theorem p_X12_tellsAll_0 {G : zG} {C : zC} {r : Int32} {τ : zSt} (hR : zR G C (some .boolean) (some (.int r)) τ) (x1 : Int32) (σ : zSt) (h : F_X12_tellsAll_0 x1 σ = some (r, τ)) : zAW G 3 RX12 cX12_tellsAll 4 C 0 [(0, .ref (zad G 69)), (1, .int x1)] [] σ := by
  unfold F_X12_tellsAll_0 at h
  refine z_ic e_X12_tellsAll_0 ?_
  refine z_istore e_X12_tellsAll_1 (by decide) [(2, .int (0 : Int32)), (0, .ref (zad G 69)), (1, .int x1)] rfl ?_
  exact z_sub [1, 2, 0] rfl (l_X12_tellsAll_2 hR x1 zlim (0 : Int32) σ h)
noncomputable def F_X12_tellsAll (x1 : Int32) (σ : zSt) : Option (Int32 × zSt) := F_X12_tellsAll_0 x1 σ
set_option maxRecDepth 100000 in
theorem m_X12_tellsAll (G : zG) (x1 : Int32) (σ : zSt) (q : Int32) (τ : zSt) (h : F_X12_tellsAll x1 σ = some (q, τ)) : zM G 3 yX12_tellsAll cX12_tellsAll 4 (some .boolean) [.ref (zad G 69), .int x1] σ (some (.int q)) τ := by
  unfold F_X12_tellsAll at h
  refine zM.of (own := RX12) (by decide +kernel) rfl (Nat.le_of_ble_eq_true rfl) (fun C hR => ?_)
  exact z_sub [0, 1] rfl (p_X12_tellsAll_0 hR x1 σ h)
noncomputable def F_X12_apart_53 (x1 : Int32) (x2 : Int32) (σ : zSt) : Option (Int32 × zSt) :=
  if x2 = (-1 : Int32) then (
    some ((-2 : Int32), σ))
  else (
    if x1 = 0 then (
      bd (F_X12_bits x2 σ) (fun q9 s8 =>
        some (q9, s8)))
    else (
      some (x2, σ)))
set_option maxHeartbeats 4000000 in
set_option maxRecDepth 100000 in
theorem p_X12_apart_53 {G : zG} {C : zC} {r : Int32} {τ : zSt} (hR : zR G C (some .int) (some (.int r)) τ) (x1 : Int32) (x2 : Int32) (σ : zSt) (h : F_X12_apart_53 x1 x2 σ = some (r, τ)) : zAW G 4 RX12 cX12_apart 4 C 53 [(1, .int x1), (2, .int x2)] [] σ := by
  unfold F_X12_apart_53 at h
  refine z_iload e_X12_apart_53 1 rfl ?_
  refine z_ic e_X12_apart_54 ?_
  refine z_icmp_ne e_X12_apart_55 h (fun c6 h => ?_) (fun c6 h => ?_)
  · refine z_ic e_X12_apart_58 ?_
    refine z_goto e_X12_apart_60 ?_
    cases h
    exact z_ireturn hR e_X12_apart_75
  · refine z_iload e_X12_apart_63 0 rfl ?_
    refine z_if_ne e_X12_apart_64 h (fun c7 h => ?_) (fun c7 h => ?_)
    · refine z_iload e_X12_apart_67 1 rfl ?_
      obtain ⟨q9, s8, e10, h⟩ := bd_e h
      refine z_callSi (As := [.int x2]) (rest := []) lk_X12_413 e_X12_apart_68 (m_X12_bits G x2 σ _ _ e10) (by decide) rfl (Nat.le_of_ble_eq_true rfl) ?_
      refine z_goto e_X12_apart_71 ?_
      cases h
      exact z_ireturn hR e_X12_apart_75
    · refine z_iload e_X12_apart_74 1 rfl ?_
      cases h
      exact z_ireturn hR e_X12_apart_75
noncomputable def F_X12_apart_47 (w15 : (Int32 × Int32 × zSt) → Option (Int32 × zSt)) (x1 : Int32) (x2 : Int32) (x3 : Int32) (σ : zSt) : Option (Int32 × zSt) :=
  nm (x3 + (1 : Int32)) (fun v16 =>
    w15 (x2, v16, σ))
set_option maxHeartbeats 4000000 in
set_option maxRecDepth 100000 in
theorem p_X12_apart_47 {G : zG} {C : zC} {r : Int32} {τ : zSt} (hR : zR G C (some .int) (some (.int r)) τ) (w15 : (Int32 × Int32 × zSt) → Option (Int32 × zSt)) (x1 : Int32) (x2 : Int32) (x3 : Int32) (hw15 : ∀ (x2 : Int32) (x3 : Int32) (σ : zSt), w15 (x2, x3, σ) = some (r, τ) → zAW G 4 RX12 cX12_apart 4 C 15 [(0, .ref (zad G 69)), (1, .int x1), (2, .int x2), (3, .int x3)] [] σ) (σ : zSt) (h : F_X12_apart_47 w15 x1 x2 x3 σ = some (r, τ)) : zAW G 4 RX12 cX12_apart 4 C 47 [(0, .ref (zad G 69)), (1, .int x1), (2, .int x2), (3, .int x3)] [] σ := by
  unfold F_X12_apart_47 at h
  refine z_iinc e_X12_apart_47 3 rfl (by decide) (by decide) h (fun y => [(3, .int y), (0, .ref (zad G 69)), (1, .int x1), (2, .int x2)]) (fun _ => rfl) (fun v16 h => ?_)
  refine z_goto e_X12_apart_50 ?_
  exact z_sub [1, 2, 3, 0] rfl (hw15 x2 v16 σ h)
noncomputable def F_X12_apart_37 (w15 : (Int32 × Int32 × zSt) → Option (Int32 × zSt)) (x1 : Int32) (x2 : Int32) (x3 : Int32) (σ : zSt) : Option (Int32 × zSt) :=
  bd (F_X12_tellsAll x3 σ) (fun q13 s12 =>
    nm (if q13 = 0 then x2 else x3) (fun v15 =>
      F_X12_apart_47 w15 x1 v15 x3 s12))
set_option maxHeartbeats 4000000 in
set_option maxRecDepth 100000 in
theorem p_X12_apart_37 {G : zG} {C : zC} {r : Int32} {τ : zSt} (hR : zR G C (some .int) (some (.int r)) τ) (w15 : (Int32 × Int32 × zSt) → Option (Int32 × zSt)) (x1 : Int32) (x2 : Int32) (x3 : Int32) (hw15 : ∀ (x2 : Int32) (x3 : Int32) (σ : zSt), w15 (x2, x3, σ) = some (r, τ) → zAW G 4 RX12 cX12_apart 4 C 15 [(0, .ref (zad G 69)), (1, .int x1), (2, .int x2), (3, .int x3)] [] σ) (σ : zSt) (h : F_X12_apart_37 w15 x1 x2 x3 σ = some (r, τ)) : zAW G 4 RX12 cX12_apart 4 C 37 [(0, .ref (zad G 69)), (1, .int x1), (2, .int x2), (3, .int x3)] [] σ := by
  unfold F_X12_apart_37 at h
  refine z_aload e_X12_apart_37 0 rfl ?_
  refine z_iload e_X12_apart_38 3 rfl ?_
  obtain ⟨q13, s12, e14, h⟩ := bd_e h
  refine z_callVi (c0 := 69) (As := [.int x3]) (rest := []) lk_X12_470 ob_69 e_X12_apart_39 (m_X12_tellsAll G x3 σ _ _ e14) (by decide) rfl (Nat.le_of_ble_eq_true rfl) ?_
  obtain ⟨v15, ev15, h⟩ := nm_i h
  have jv15 : zAW G 4 RX12 cX12_apart 4 C 47 [(0, .ref (zad G 69)), (1, .int x1), (2, .int v15), (3, .int x3)] [] s12 := by
    exact z_sub [0, 1, 2, 3] rfl (p_X12_apart_47 hR w15 x1 v15 x3 hw15 s12 h)
  refine y_if_eq e_X12_apart_42 (fun c17 => ?_) (fun c17 => ?_)
  · rw [if_pos c17] at ev15
    subst ev15
    exact z_sub [0, 1, 2, 3] rfl jv15
  · refine z_iload e_X12_apart_45 3 rfl ?_
    refine z_istore e_X12_apart_46 (by decide) [(2, .int x3), (0, .ref (zad G 69)), (1, .int x1), (3, .int x3)] rfl ?_
    rw [if_neg c17] at ev15
    subst ev15
    exact z_sub [1, 2, 0, 3] rfl jv15
noncomputable def F_X12_apart_15 (x1 : Int32) (w15 : (Int32 × Int32 × zSt) → Option (Int32 × zSt)) (x2 : Int32) (x3 : Int32) (σ : zSt) : Option (Int32 × zSt) :=
  if (64 : Int32) ≤ x3 then (
    F_X12_apart_53 x1 x2 σ)
  else (
    if x2 = (-1 : Int32) then (
      F_X12_apart_37 w15 x1 x2 x3 σ)
    else (
      bd (F_X12_bits x3 σ) (fun q19 s18 =>
        bd (F_X12_bits x2 s18) (fun q22 s21 =>
          if q22 ≤ q19 then (
            F_X12_apart_47 w15 x1 x2 x3 s21)
          else (
            F_X12_apart_37 w15 x1 x2 x3 s21)))))
set_option maxHeartbeats 4000000 in
set_option maxRecDepth 100000 in
theorem b_X12_apart_15 {G : zG} {C : zC} {r : Int32} {τ : zSt} (hR : zR G C (some .int) (some (.int r)) τ) (x1 : Int32) (w15 : (Int32 × Int32 × zSt) → Option (Int32 × zSt)) (hw15 : ∀ (x2 : Int32) (x3 : Int32) (σ : zSt), w15 (x2, x3, σ) = some (r, τ) → zAW G 4 RX12 cX12_apart 4 C 15 [(0, .ref (zad G 69)), (1, .int x1), (2, .int x2), (3, .int x3)] [] σ) (x2 : Int32) (x3 : Int32) (σ : zSt) (h : F_X12_apart_15 x1 w15 x2 x3 σ = some (r, τ)) : zAW G 4 RX12 cX12_apart 4 C 15 [(0, .ref (zad G 69)), (1, .int x1), (2, .int x2), (3, .int x3)] [] σ := by
  unfold F_X12_apart_15 at h
  refine z_iload e_X12_apart_15 3 rfl ?_
  refine z_ic e_X12_apart_16 ?_
  refine z_icmp_ge e_X12_apart_18 h (fun c5 h => ?_) (fun c5 h => ?_)
  · exact z_sub [1, 2] rfl (p_X12_apart_53 hR x1 x2 σ h)
  · refine z_iload e_X12_apart_21 2 rfl ?_
    refine z_ic e_X12_apart_22 ?_
    refine z_icmp_eq e_X12_apart_23 h (fun c11 h => ?_) (fun c11 h => ?_)
    · exact z_sub [0, 1, 2, 3] rfl (p_X12_apart_37 hR w15 x1 x2 x3 hw15 σ h)
    · refine z_iload e_X12_apart_26 3 rfl ?_
      obtain ⟨q19, s18, e20, h⟩ := bd_e h
      refine z_callSi (As := [.int x3]) (rest := []) lk_X12_413 e_X12_apart_27 (m_X12_bits G x3 σ _ _ e20) (by decide) rfl (Nat.le_of_ble_eq_true rfl) ?_
      refine z_iload e_X12_apart_30 2 rfl ?_
      obtain ⟨q22, s21, e23, h⟩ := bd_e h
      refine z_callSi (As := [.int x2]) (rest := [.int q19]) lk_X12_413 e_X12_apart_31 (m_X12_bits G x2 s18 _ _ e23) (by decide) rfl (Nat.le_of_ble_eq_true rfl) ?_
      refine z_icmp_ge e_X12_apart_34 h (fun c24 h => ?_) (fun c24 h => ?_)
      · exact z_sub [0, 1, 2, 3] rfl (p_X12_apart_47 hR w15 x1 x2 x3 hw15 s21 h)
      · exact z_sub [0, 1, 2, 3] rfl (p_X12_apart_37 hR w15 x1 x2 x3 hw15 s21 h)
noncomputable def F_X12_apart_15L (x1 : Int32) : ((Int32 × Int32 × zSt) → Option (Int32 × zSt)) → (Int32 × Int32 × zSt) → Option (Int32 × zSt) := fun w s => F_X12_apart_15 x1 w s.1 s.2.1 s.2.2
set_option maxRecDepth 100000 in
theorem l_X12_apart_15 {G : zG} {C : zC} {r : Int32} {τ : zSt} (hR : zR G C (some .int) (some (.int r)) τ) (x1 : Int32) : ∀ (N : Nat) (x2 : Int32) (x3 : Int32) (σ : zSt), zfix (F_X12_apart_15L x1) N (x2, x3, σ) = some (r, τ) → zAW G 4 RX12 cX12_apart 4 C 15 [(0, .ref (zad G 69)), (1, .int x1), (2, .int x2), (3, .int x3)] [] σ := by
  intro N
  induction N with
  | zero =>
    intro x2 x3 σ h
    exact nomatch (show (none : Option (Int32 × zSt)) = some (r, τ) from h)
  | succ N ih =>
    intro x2 x3 σ h
    exact b_X12_apart_15 hR x1 (zfix (F_X12_apart_15L x1) N) ih x2 x3 σ h
noncomputable def F_X12_apart_0 (x1 : Int32) (σ : zSt) : Option (Int32 × zSt) :=
  bd (F_X12_in x1 (0 : Int32) (1 : Int32) σ) (fun q2 s1 =>
    if q2 = 0 then (
      some ((-1 : Int32), s1))
    else (
      zfix (F_X12_apart_15L x1) zlim ((-1 : Int32), (0 : Int32), s1)))
set_option maxHeartbeats 4000000 in
set_option maxRecDepth 100000 in
theorem p_X12_apart_0 {G : zG} {C : zC} {r : Int32} {τ : zSt} (hR : zR G C (some .int) (some (.int r)) τ) (x1 : Int32) (σ : zSt) (h : F_X12_apart_0 x1 σ = some (r, τ)) : zAW G 4 RX12 cX12_apart 4 C 0 [(0, .ref (zad G 69)), (1, .int x1)] [] σ := by
  unfold F_X12_apart_0 at h
  refine z_iload e_X12_apart_0 1 rfl ?_
  refine z_ic e_X12_apart_1 ?_
  refine z_ic e_X12_apart_2 ?_
  obtain ⟨q2, s1, e3, h⟩ := bd_e h
  refine z_callSi (As := [.int x1, .int (0 : Int32), .int (1 : Int32)]) (rest := []) lk_X12_163 e_X12_apart_3 (m_X12_in G x1 (0 : Int32) (1 : Int32) σ _ _ e3) (by decide) rfl (Nat.le_of_ble_eq_true rfl) ?_
  refine z_if_ne e_X12_apart_6 h (fun c4 h => ?_) (fun c4 h => ?_)
  · refine z_ic e_X12_apart_9 ?_
    cases h
    exact z_ireturn hR e_X12_apart_10
  · refine z_ic e_X12_apart_11 ?_
    refine z_istore e_X12_apart_12 (by decide) [(2, .int (-1 : Int32)), (0, .ref (zad G 69)), (1, .int x1)] rfl ?_
    refine z_ic e_X12_apart_13 ?_
    refine z_istore e_X12_apart_14 (by decide) [(3, .int (0 : Int32)), (2, .int (-1 : Int32)), (0, .ref (zad G 69)), (1, .int x1)] rfl ?_
    exact z_sub [2, 3, 1, 0] rfl (l_X12_apart_15 hR x1 zlim (-1 : Int32) (0 : Int32) s1 h)
noncomputable def F_X12_apart (x1 : Int32) (σ : zSt) : Option (Int32 × zSt) := F_X12_apart_0 x1 σ
set_option maxRecDepth 100000 in
theorem m_X12_apart (G : zG) (x1 : Int32) (σ : zSt) (q : Int32) (τ : zSt) (h : F_X12_apart x1 σ = some (q, τ)) : zM G 4 yX12_apart cX12_apart 4 (some .int) [.ref (zad G 69), .int x1] σ (some (.int q)) τ := by
  unfold F_X12_apart at h
  refine zM.of (own := RX12) (by decide +kernel) rfl (Nat.le_of_ble_eq_true rfl) (fun C hR => ?_)
  exact z_sub [0, 1] rfl (p_X12_apart_0 hR x1 σ h)
noncomputable def F_X11_alike_0 (x1 : Int32) (x2 : Int32) (σ : zSt) : Option (Int32 × zSt) :=
  bd (F_X0_sameAs x1 x2 σ) (fun q2 s1 =>
    some (q2, s1))
set_option maxHeartbeats 4000000 in
set_option maxRecDepth 100000 in
theorem p_X11_alike_0 {G : zG} {C : zC} {r : Int32} {τ : zSt} (hR : zR G C (some .int) (some (.int r)) τ) (x1 : Int32) (x2 : Int32) (σ : zSt) (h : F_X11_alike_0 x1 x2 σ = some (r, τ)) : zAW G 4 RX11 cX11_alike 3 C 0 [(0, .ref (zad G 0)), (1, .int x1), (2, .int x2)] [] σ := by
  unfold F_X11_alike_0 at h
  refine z_aload e_X11_alike_0 0 rfl ?_
  refine z_getr gf_X11_93_0 e_X11_alike_1 ?_
  refine z_iload e_X11_alike_4 1 rfl ?_
  refine z_iload e_X11_alike_5 2 rfl ?_
  obtain ⟨q2, s1, e3, h⟩ := bd_e h
  refine z_callVi (c0 := 65) (As := [.int x1, .int x2]) (rest := []) lk_X11_258 ob_65 e_X11_alike_6 (m_X0_sameAs G x1 x2 σ _ _ e3) (by decide) rfl (Nat.le_of_ble_eq_true rfl) ?_
  cases h
  exact z_ireturn hR e_X11_alike_9
noncomputable def F_X11_alike (x1 : Int32) (x2 : Int32) (σ : zSt) : Option (Int32 × zSt) := F_X11_alike_0 x1 x2 σ
set_option maxRecDepth 100000 in
theorem m_X11_alike (G : zG) (x1 : Int32) (x2 : Int32) (σ : zSt) (q : Int32) (τ : zSt) (h : F_X11_alike x1 x2 σ = some (q, τ)) : zM G 4 yX11_alike cX11_alike 3 (some .int) [.ref (zad G 0), .int x1, .int x2] σ (some (.int q)) τ := by
  unfold F_X11_alike at h
  refine zM.of (own := RX11) (by decide +kernel) rfl (Nat.le_of_ble_eq_true rfl) (fun C hR => ?_)
  exact z_sub [0, 1, 2] rfl (p_X11_alike_0 hR x1 x2 σ h)
noncomputable def F_X12_alike_72 (w35 : (Int32 × Int32 × zSt) → Option (Int32 × zSt)) (x1 : Int32) (x2 : Int32) (x3 : Int32) (x4 : Int32) (σ : zSt) : Option (Int32 × zSt) :=
  nm (x4 + (1 : Int32)) (fun v18 =>
    w35 (x3, v18, σ))
set_option maxHeartbeats 4000000 in
set_option maxRecDepth 100000 in
theorem p_X12_alike_72 {G : zG} {C : zC} {r : Int32} {τ : zSt} (hR : zR G C (some .int) (some (.int r)) τ) (w35 : (Int32 × Int32 × zSt) → Option (Int32 × zSt)) (x1 : Int32) (x2 : Int32) (x3 : Int32) (x4 : Int32) (hw35 : ∀ (x3 : Int32) (x4 : Int32) (σ : zSt), w35 (x3, x4, σ) = some (r, τ) → zAW G 3 RX12 cX12_alike 5 C 35 [(0, .ref (zad G 69)), (1, .int x1), (2, .int x2), (3, .int x3), (4, .int x4)] [] σ) (σ : zSt) (h : F_X12_alike_72 w35 x1 x2 x3 x4 σ = some (r, τ)) : zAW G 3 RX12 cX12_alike 5 C 72 [(0, .ref (zad G 69)), (1, .int x1), (2, .int x2), (3, .int x3), (4, .int x4)] [] σ := by
  unfold F_X12_alike_72 at h
  refine z_iinc e_X12_alike_72 4 rfl (by decide) (by decide) h (fun y => [(4, .int y), (0, .ref (zad G 69)), (1, .int x1), (2, .int x2), (3, .int x3)]) (fun _ => rfl) (fun v18 h => ?_)
  refine z_goto e_X12_alike_75 ?_
  exact z_sub [1, 2, 3, 4, 0] rfl (hw35 x3 v18 σ h)
noncomputable def F_X12_alike_35 (x1 : Int32) (x2 : Int32) (w35 : (Int32 × Int32 × zSt) → Option (Int32 × zSt)) (x3 : Int32) (x4 : Int32) (σ : zSt) : Option (Int32 × zSt) :=
  if (8 : Int32) ≤ x4 then (
    some (x3, σ))
  else (
    bd (F_X12_has (σ.1 69 59) x4 σ) (fun q15 s14 =>
      if q15 = 0 then (
        F_X12_alike_72 w35 x1 x2 x3 x4 s14)
      else (
        bd (F_X12_areAlike x1 x4 x2 s14) (fun q20 s19 =>
          if q20 = 0 then (
            F_X12_alike_72 w35 x1 x2 x3 x4 s19)
          else (
            nm (x3 ||| ((1 : Int32) <<< (x4 &&& 31))) (fun v23 =>
              F_X12_alike_72 w35 x1 x2 v23 x4 s19))))))
set_option maxHeartbeats 4000000 in
set_option maxRecDepth 100000 in
theorem b_X12_alike_35 {G : zG} {C : zC} {r : Int32} {τ : zSt} (hR : zR G C (some .int) (some (.int r)) τ) (x1 : Int32) (x2 : Int32) (w35 : (Int32 × Int32 × zSt) → Option (Int32 × zSt)) (hw35 : ∀ (x3 : Int32) (x4 : Int32) (σ : zSt), w35 (x3, x4, σ) = some (r, τ) → zAW G 3 RX12 cX12_alike 5 C 35 [(0, .ref (zad G 69)), (1, .int x1), (2, .int x2), (3, .int x3), (4, .int x4)] [] σ) (x3 : Int32) (x4 : Int32) (σ : zSt) (h : F_X12_alike_35 x1 x2 w35 x3 x4 σ = some (r, τ)) : zAW G 3 RX12 cX12_alike 5 C 35 [(0, .ref (zad G 69)), (1, .int x1), (2, .int x2), (3, .int x3), (4, .int x4)] [] σ := by
  unfold F_X12_alike_35 at h
  refine z_iload e_X12_alike_35 4 rfl ?_
  refine z_ic e_X12_alike_37 ?_
  refine z_icmp_ge e_X12_alike_39 h (fun c13 h => ?_) (fun c13 h => ?_)
  · refine z_iload e_X12_alike_78 3 rfl ?_
    cases h
    exact z_ireturn hR e_X12_alike_79
  · refine z_aload e_X12_alike_42 0 rfl ?_
    refine z_geti gf_X12_464_69 e_X12_alike_43 ?_
    refine z_iload e_X12_alike_46 4 rfl ?_
    obtain ⟨q15, s14, e16, h⟩ := bd_e h
    refine z_callSi (As := [.int (σ.1 69 59), .int x4]) (rest := []) lk_X12_156 e_X12_alike_48 (m_X12_has G (σ.1 69 59) x4 σ _ _ e16) (by decide) rfl (Nat.le_of_ble_eq_true rfl) ?_
    refine z_if_eq e_X12_alike_51 h (fun c17 h => ?_) (fun c17 h => ?_)
    · exact z_sub [0, 1, 2, 3, 4] rfl (p_X12_alike_72 hR w35 x1 x2 x3 x4 hw35 s14 h)
    · refine z_aload e_X12_alike_54 0 rfl ?_
      refine z_iload e_X12_alike_55 1 rfl ?_
      refine z_iload e_X12_alike_56 4 rfl ?_
      refine z_iload e_X12_alike_58 2 rfl ?_
      obtain ⟨q20, s19, e21, h⟩ := bd_e h
      refine z_callVi (c0 := 69) (As := [.int x1, .int x4, .int x2]) (rest := []) lk_X12_467 ob_69 e_X12_alike_59 (m_X12_areAlike G x1 x4 x2 s14 _ _ e21) (by decide) rfl (Nat.le_of_ble_eq_true rfl) ?_
      refine z_if_eq e_X12_alike_62 h (fun c22 h => ?_) (fun c22 h => ?_)
      · exact z_sub [0, 1, 2, 3, 4] rfl (p_X12_alike_72 hR w35 x1 x2 x3 x4 hw35 s19 h)
      · refine z_iload e_X12_alike_65 3 rfl ?_
        refine z_ic e_X12_alike_66 ?_
        refine z_iload e_X12_alike_67 4 rfl ?_
        refine z_ishl e_X12_alike_69 ?_
        refine z_ior e_X12_alike_70 ?_
        refine z_nmI h (fun v23 h => ?_)
        refine z_istore e_X12_alike_71 (by decide) [(3, .int v23), (0, .ref (zad G 69)), (1, .int x1), (2, .int x2), (4, .int x4)] rfl ?_
        exact z_sub [1, 2, 3, 0, 4] rfl (p_X12_alike_72 hR w35 x1 x2 v23 x4 hw35 s19 h)
noncomputable def F_X12_alike_35L (x1 : Int32) (x2 : Int32) : ((Int32 × Int32 × zSt) → Option (Int32 × zSt)) → (Int32 × Int32 × zSt) → Option (Int32 × zSt) := fun w s => F_X12_alike_35 x1 x2 w s.1 s.2.1 s.2.2
set_option maxRecDepth 100000 in
theorem l_X12_alike_35 {G : zG} {C : zC} {r : Int32} {τ : zSt} (hR : zR G C (some .int) (some (.int r)) τ) (x1 : Int32) (x2 : Int32) : ∀ (N : Nat) (x3 : Int32) (x4 : Int32) (σ : zSt), zfix (F_X12_alike_35L x1 x2) N (x3, x4, σ) = some (r, τ) → zAW G 3 RX12 cX12_alike 5 C 35 [(0, .ref (zad G 69)), (1, .int x1), (2, .int x2), (3, .int x3), (4, .int x4)] [] σ := by
  intro N
  induction N with
  | zero =>
    intro x3 x4 σ h
    exact nomatch (show (none : Option (Int32 × zSt)) = some (r, τ) from h)
  | succ N ih =>
    intro x3 x4 σ h
    exact b_X12_alike_35 hR x1 x2 (zfix (F_X12_alike_35L x1 x2) N) ih x3 x4 σ h
noncomputable def F_X12_alike_0 (x1 : Int32) (x2 : Int32) (σ : zSt) : Option (Int32 × zSt) :=
  bd (F_X12_isEight x1 σ) (fun q2 s1 =>
    if q2 = 0 then (
      some ((-1 : Int32), s1))
    else (
      bd (F_X12_has (s1.1 69 59) x1 s1) (fun q6 s5 =>
        if q6 = 0 then (
          some ((-1 : Int32), s5))
        else (
          bd (F_X12_in x2 (0 : Int32) (63 : Int32) s5) (fun q10 s9 =>
            if q10 = 0 then (
              some ((-1 : Int32), s9))
            else (
              zfix (F_X12_alike_35L x1 x2) zlim ((0 : Int32), (0 : Int32), s9)))))))
set_option maxHeartbeats 4000000 in
set_option maxRecDepth 100000 in
theorem p_X12_alike_0 {G : zG} {C : zC} {r : Int32} {τ : zSt} (hR : zR G C (some .int) (some (.int r)) τ) (x1 : Int32) (x2 : Int32) (σ : zSt) (h : F_X12_alike_0 x1 x2 σ = some (r, τ)) : zAW G 3 RX12 cX12_alike 5 C 0 [(0, .ref (zad G 69)), (1, .int x1), (2, .int x2)] [] σ := by
  unfold F_X12_alike_0 at h
  refine z_iload e_X12_alike_0 1 rfl ?_
  obtain ⟨q2, s1, e3, h⟩ := bd_e h
  refine z_callSi (As := [.int x1]) (rest := []) lk_X12_149 e_X12_alike_1 (m_X12_isEight G x1 σ _ _ e3) (by decide) rfl (Nat.le_of_ble_eq_true rfl) ?_
  refine z_if_eq e_X12_alike_4 h (fun c4 h => ?_) (fun c4 h => ?_)
  · refine z_ic e_X12_alike_28 ?_
    cases h
    exact z_ireturn hR e_X12_alike_29
  · refine z_aload e_X12_alike_7 0 rfl ?_
    refine z_geti gf_X12_464_69 e_X12_alike_8 ?_
    refine z_iload e_X12_alike_11 1 rfl ?_
    obtain ⟨q6, s5, e7, h⟩ := bd_e h
    refine z_callSi (As := [.int (s1.1 69 59), .int x1]) (rest := []) lk_X12_156 e_X12_alike_12 (m_X12_has G (s1.1 69 59) x1 s1 _ _ e7) (by decide) rfl (Nat.le_of_ble_eq_true rfl) ?_
    refine z_if_eq e_X12_alike_15 h (fun c8 h => ?_) (fun c8 h => ?_)
    · refine z_ic e_X12_alike_28 ?_
      cases h
      exact z_ireturn hR e_X12_alike_29
    · refine z_iload e_X12_alike_18 2 rfl ?_
      refine z_ic e_X12_alike_19 ?_
      refine z_ic e_X12_alike_20 ?_
      obtain ⟨q10, s9, e11, h⟩ := bd_e h
      refine z_callSi (As := [.int x2, .int (0 : Int32), .int (63 : Int32)]) (rest := []) lk_X12_163 e_X12_alike_22 (m_X12_in G x2 (0 : Int32) (63 : Int32) s5 _ _ e11) (by decide) rfl (Nat.le_of_ble_eq_true rfl) ?_
      refine z_if_ne e_X12_alike_25 h (fun c12 h => ?_) (fun c12 h => ?_)
      · refine z_ic e_X12_alike_28 ?_
        cases h
        exact z_ireturn hR e_X12_alike_29
      · refine z_ic e_X12_alike_30 ?_
        refine z_istore e_X12_alike_31 (by decide) [(3, .int (0 : Int32)), (0, .ref (zad G 69)), (1, .int x1), (2, .int x2)] rfl ?_
        refine z_ic e_X12_alike_32 ?_
        refine z_istore e_X12_alike_33 (by decide) [(4, .int (0 : Int32)), (3, .int (0 : Int32)), (0, .ref (zad G 69)), (1, .int x1), (2, .int x2)] rfl ?_
        exact z_sub [2, 3, 4, 1, 0] rfl (l_X12_alike_35 hR x1 x2 zlim (0 : Int32) (0 : Int32) s9 h)
noncomputable def F_X12_alike (x1 : Int32) (x2 : Int32) (σ : zSt) : Option (Int32 × zSt) := F_X12_alike_0 x1 x2 σ
set_option maxRecDepth 100000 in
theorem m_X12_alike (G : zG) (x1 : Int32) (x2 : Int32) (σ : zSt) (q : Int32) (τ : zSt) (h : F_X12_alike x1 x2 σ = some (q, τ)) : zM G 3 yX12_alike cX12_alike 5 (some .int) [.ref (zad G 69), .int x1, .int x2] σ (some (.int q)) τ := by
  unfold F_X12_alike at h
  refine zM.of (own := RX12) (by decide +kernel) rfl (Nat.le_of_ble_eq_true rfl) (fun C hR => ?_)
  exact z_sub [0, 1, 2] rfl (p_X12_alike_0 hR x1 x2 σ h)
noncomputable def F_X9_owe_30 (x1 : Int32) (x2 : Int32) (σ : zSt) : Option (Int32 × zSt) :=
  gd (vp_in x1 12) (nm (zwr σ 68 x1.toNatClampNeg x2) (fun s7 =>
    some ((1 : Int32), s7)))
set_option maxHeartbeats 4000000 in
set_option maxRecDepth 100000 in
theorem p_X9_owe_30 {G : zG} {C : zC} {r : Int32} {τ : zSt} (hR : zR G C (some .boolean) (some (.int r)) τ) (x1 : Int32) (x2 : Int32) (σ : zSt) (h : F_X9_owe_30 x1 x2 σ = some (r, τ)) : zAW G 2 RX9 cX9_owe 3 C 30 [(0, .ref (zad G 67)), (1, .int x1), (2, .int x2)] [] σ := by
  unfold F_X9_owe_30 at h
  refine z_aload e_X9_owe_30 0 rfl ?_
  refine z_getr gf_X9_11_67 e_X9_owe_31 ?_
  refine z_iload e_X9_owe_34 1 rfl ?_
  refine z_iload e_X9_owe_35 2 rfl ?_
  refine z_iast sh_68 e_X9_owe_36 h (fun s7 h => ?_)
  refine z_ic e_X9_owe_37 ?_
  cases h
  exact z_zreturn hR e_X9_owe_38 (Or.inr rfl)
noncomputable def F_X9_owe_0 (x1 : Int32) (x2 : Int32) (σ : zSt) : Option (Int32 × zSt) :=
  bd (F_X11_isBelow x1 (12 : Int32) σ) (fun q2 s1 =>
    if q2 = 0 then (
      some ((0 : Int32), s1))
    else (
      if x1 = x2 then (
        some ((0 : Int32), s1))
      else (
        if x2 = (-1 : Int32) then (
          F_X9_owe_30 x1 x2 s1)
        else (
          bd (F_X11_isBelow x2 (12 : Int32) s1) (fun q9 s8 =>
            if q9 = 0 then (
              some ((0 : Int32), s8))
            else (
              F_X9_owe_30 x1 x2 s8))))))
set_option maxHeartbeats 4000000 in
set_option maxRecDepth 100000 in
theorem p_X9_owe_0 {G : zG} {C : zC} {r : Int32} {τ : zSt} (hR : zR G C (some .boolean) (some (.int r)) τ) (x1 : Int32) (x2 : Int32) (σ : zSt) (h : F_X9_owe_0 x1 x2 σ = some (r, τ)) : zAW G 2 RX9 cX9_owe 3 C 0 [(0, .ref (zad G 67)), (1, .int x1), (2, .int x2)] [] σ := by
  unfold F_X9_owe_0 at h
  refine z_iload e_X9_owe_0 1 rfl ?_
  refine z_ic e_X9_owe_1 ?_
  obtain ⟨q2, s1, e3, h⟩ := bd_e h
  refine z_callNi (As := [.int x1, .int (12 : Int32)]) (rest := []) lk_X9_15 e_X9_owe_3 (m_X11_isBelow G x1 (12 : Int32) σ _ _ e3) (by decide) rfl (Nat.le_of_ble_eq_true rfl) ?_
  refine z_if_eq e_X9_owe_6 h (fun c4 h => ?_) (fun c4 h => ?_)
  · refine z_ic e_X9_owe_28 ?_
    cases h
    exact z_zreturn hR e_X9_owe_29 (Or.inl rfl)
  · refine z_iload e_X9_owe_9 1 rfl ?_
    refine z_iload e_X9_owe_10 2 rfl ?_
    refine z_icmp_eq e_X9_owe_11 h (fun c5 h => ?_) (fun c5 h => ?_)
    · refine z_ic e_X9_owe_28 ?_
      cases h
      exact z_zreturn hR e_X9_owe_29 (Or.inl rfl)
    · refine z_iload e_X9_owe_14 2 rfl ?_
      refine z_ic e_X9_owe_15 ?_
      refine z_icmp_eq e_X9_owe_16 h (fun c6 h => ?_) (fun c6 h => ?_)
      · exact z_sub [0, 1, 2] rfl (p_X9_owe_30 hR x1 x2 s1 h)
      · refine z_iload e_X9_owe_19 2 rfl ?_
        refine z_ic e_X9_owe_20 ?_
        obtain ⟨q9, s8, e10, h⟩ := bd_e h
        refine z_callNi (As := [.int x2, .int (12 : Int32)]) (rest := []) lk_X9_15 e_X9_owe_22 (m_X11_isBelow G x2 (12 : Int32) s1 _ _ e10) (by decide) rfl (Nat.le_of_ble_eq_true rfl) ?_
        refine z_if_ne e_X9_owe_25 h (fun c11 h => ?_) (fun c11 h => ?_)
        · refine z_ic e_X9_owe_28 ?_
          cases h
          exact z_zreturn hR e_X9_owe_29 (Or.inl rfl)
        · exact z_sub [0, 1, 2] rfl (p_X9_owe_30 hR x1 x2 s8 h)
noncomputable def F_X9_owe (x1 : Int32) (x2 : Int32) (σ : zSt) : Option (Int32 × zSt) := F_X9_owe_0 x1 x2 σ
set_option maxRecDepth 100000 in
theorem m_X9_owe (G : zG) (x1 : Int32) (x2 : Int32) (σ : zSt) (q : Int32) (τ : zSt) (h : F_X9_owe x1 x2 σ = some (q, τ)) : zM G 2 yX9_owe cX9_owe 3 (some .boolean) [.ref (zad G 67), .int x1, .int x2] σ (some (.int q)) τ := by
  unfold F_X9_owe at h
  refine zM.of (own := RX9) (by decide +kernel) rfl (Nat.le_of_ble_eq_true rfl) (fun C hR => ?_)
  exact z_sub [0, 1, 2] rfl (p_X9_owe_0 hR x1 x2 σ h)
noncomputable def F_X11_owes_0 (x1 : Int32) (x2 : Int32) (σ : zSt) : Option (Int32 × zSt) :=
  bd (F_X9_owe x1 x2 σ) (fun q2 s1 =>
    gd (q2 = 0 ∨ q2 = 1) (some (q2, s1)))
set_option maxHeartbeats 4000000 in
set_option maxRecDepth 100000 in
theorem p_X11_owes_0 {G : zG} {C : zC} {r : Int32} {τ : zSt} (hR : zR G C (some .boolean) (some (.int r)) τ) (x1 : Int32) (x2 : Int32) (σ : zSt) (h : F_X11_owes_0 x1 x2 σ = some (r, τ)) : zAW G 3 RX11 cX11_owes 3 C 0 [(0, .ref (zad G 0)), (1, .int x1), (2, .int x2)] [] σ := by
  unfold F_X11_owes_0 at h
  refine z_aload e_X11_owes_0 0 rfl ?_
  refine z_getr gf_X11_100_0 e_X11_owes_1 ?_
  refine z_iload e_X11_owes_4 1 rfl ?_
  refine z_iload e_X11_owes_5 2 rfl ?_
  obtain ⟨q2, s1, e3, h⟩ := bd_e h
  refine z_callVi (c0 := 67) (As := [.int x1, .int x2]) (rest := []) lk_X11_261 ob_67 e_X11_owes_6 (m_X9_owe G x1 x2 σ _ _ e3) (by decide) rfl (Nat.le_of_ble_eq_true rfl) ?_
  obtain ⟨hb4, h⟩ := gd_e h
  cases h
  exact z_zreturn hR e_X11_owes_9 hb4
noncomputable def F_X11_owes (x1 : Int32) (x2 : Int32) (σ : zSt) : Option (Int32 × zSt) := F_X11_owes_0 x1 x2 σ
set_option maxRecDepth 100000 in
theorem m_X11_owes (G : zG) (x1 : Int32) (x2 : Int32) (σ : zSt) (q : Int32) (τ : zSt) (h : F_X11_owes x1 x2 σ = some (q, τ)) : zM G 3 yX11_owes cX11_owes 3 (some .boolean) [.ref (zad G 0), .int x1, .int x2] σ (some (.int q)) τ := by
  unfold F_X11_owes at h
  refine zM.of (own := RX11) (by decide +kernel) rfl (Nat.le_of_ble_eq_true rfl) (fun C hR => ?_)
  exact z_sub [0, 1, 2] rfl (p_X11_owes_0 hR x1 x2 σ h)
