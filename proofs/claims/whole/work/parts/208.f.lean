noncomputable def F_X12_owes_0 (x1 : Int32) (x2 : Int32) (σ : zSt) : Option (Int32 × zSt) :=
  bd (F_X12_in x1 (0 : Int32) (11 : Int32) σ) (fun q2 s1 =>
    if q2 = 0 then (
      some ((0 : Int32), s1))
    else (
      bd (F_X12_in x2 (-1 : Int32) (11 : Int32) s1) (fun q6 s5 =>
        if q6 = 0 then (
          some ((0 : Int32), s5))
        else (
          if x1 = x2 then (
            some ((0 : Int32), s5))
          else (
            gd (vp_in x1 12) (nm (zwr s5 104 x1.toNatClampNeg x2) (fun s10 =>
              some ((1 : Int32), s10))))))))
set_option maxHeartbeats 4000000 in
set_option maxRecDepth 100000 in
theorem p_X12_owes_0 {G : zG} {C : zC} {r : Int32} {τ : zSt} (hR : zR G C (some .boolean) (some (.int r)) τ) (x1 : Int32) (x2 : Int32) (σ : zSt) (h : F_X12_owes_0 x1 x2 σ = some (r, τ)) : zAW G 2 RX12 cX12_owes 3 C 0 [(0, .ref (zad G 69)), (1, .int x1), (2, .int x2)] [] σ := by
  unfold F_X12_owes_0 at h
  refine z_iload e_X12_owes_0 1 rfl ?_
  refine z_ic e_X12_owes_1 ?_
  refine z_ic e_X12_owes_2 ?_
  obtain ⟨q2, s1, e3, h⟩ := bd_e h
  refine z_callSi (As := [.int x1, .int (0 : Int32), .int (11 : Int32)]) (rest := []) lk_X12_163 e_X12_owes_4 (m_X12_in G x1 (0 : Int32) (11 : Int32) σ _ _ e3) (by decide) rfl (Nat.le_of_ble_eq_true rfl) ?_
  refine z_if_eq e_X12_owes_7 h (fun c4 h => ?_) (fun c4 h => ?_)
  · refine z_ic e_X12_owes_25 ?_
    cases h
    exact z_zreturn hR e_X12_owes_26 (Or.inl rfl)
  · refine z_iload e_X12_owes_10 2 rfl ?_
    refine z_ic e_X12_owes_11 ?_
    refine z_ic e_X12_owes_12 ?_
    obtain ⟨q6, s5, e7, h⟩ := bd_e h
    refine z_callSi (As := [.int x2, .int (-1 : Int32), .int (11 : Int32)]) (rest := []) lk_X12_163 e_X12_owes_14 (m_X12_in G x2 (-1 : Int32) (11 : Int32) s1 _ _ e7) (by decide) rfl (Nat.le_of_ble_eq_true rfl) ?_
    refine z_if_eq e_X12_owes_17 h (fun c8 h => ?_) (fun c8 h => ?_)
    · refine z_ic e_X12_owes_25 ?_
      cases h
      exact z_zreturn hR e_X12_owes_26 (Or.inl rfl)
    · refine z_iload e_X12_owes_20 1 rfl ?_
      refine z_iload e_X12_owes_21 2 rfl ?_
      refine z_icmp_ne e_X12_owes_22 h (fun c9 h => ?_) (fun c9 h => ?_)
      · refine z_ic e_X12_owes_25 ?_
        cases h
        exact z_zreturn hR e_X12_owes_26 (Or.inl rfl)
      · refine z_aload e_X12_owes_27 0 rfl ?_
        refine z_getr gf_X12_114_69 e_X12_owes_28 ?_
        refine z_iload e_X12_owes_31 1 rfl ?_
        refine z_iload e_X12_owes_32 2 rfl ?_
        refine z_iast sh_104 e_X12_owes_33 h (fun s10 h => ?_)
        refine z_ic e_X12_owes_34 ?_
        cases h
        exact z_zreturn hR e_X12_owes_35 (Or.inr rfl)
noncomputable def F_X12_owes (x1 : Int32) (x2 : Int32) (σ : zSt) : Option (Int32 × zSt) := F_X12_owes_0 x1 x2 σ
set_option maxRecDepth 100000 in
theorem m_X12_owes (G : zG) (x1 : Int32) (x2 : Int32) (σ : zSt) (q : Int32) (τ : zSt) (h : F_X12_owes x1 x2 σ = some (q, τ)) : zM G 2 yX12_owes cX12_owes 3 (some .boolean) [.ref (zad G 69), .int x1, .int x2] σ (some (.int q)) τ := by
  unfold F_X12_owes at h
  refine zM.of (own := RX12) (by decide +kernel) rfl (Nat.le_of_ble_eq_true rfl) (fun C hR => ?_)
  exact z_sub [0, 1, 2] rfl (p_X12_owes_0 hR x1 x2 σ h)
noncomputable def F_X9_ringOf_4 (x1 : Int32) (w4 : (Int32 × Int32 × zSt) → Option (Int32 × zSt)) (x2 : Int32) (x3 : Int32) (σ : zSt) : Option (Int32 × zSt) :=
  if (12 : Int32) < x3 then (
    some ((0 : Int32), σ))
  else (
    bd (F_X11_isBelow x2 (12 : Int32) σ) (fun q3 s2 =>
      if q3 = 0 then (
        some ((0 : Int32), s2))
      else (
        gd (vp_in x2 12) (
          nm (s2.1 68 x2.toNatClampNeg) (fun v6 =>
            if v6 = x1 then (
              some (x3, s2))
            else (
              nm (x3 + (1 : Int32)) (fun v8 =>
                w4 (v6, v8, s2))))))))
set_option maxHeartbeats 4000000 in
set_option maxRecDepth 100000 in
theorem b_X9_ringOf_4 {G : zG} {C : zC} {r : Int32} {τ : zSt} (hR : zR G C (some .int) (some (.int r)) τ) (x1 : Int32) (w4 : (Int32 × Int32 × zSt) → Option (Int32 × zSt)) (hw4 : ∀ (x2 : Int32) (x3 : Int32) (σ : zSt), w4 (x2, x3, σ) = some (r, τ) → zAW G 2 RX9 cX9_ringOf 4 C 4 [(0, .ref (zad G 67)), (1, .int x1), (2, .int x2), (3, .int x3)] [] σ) (x2 : Int32) (x3 : Int32) (σ : zSt) (h : F_X9_ringOf_4 x1 w4 x2 x3 σ = some (r, τ)) : zAW G 2 RX9 cX9_ringOf 4 C 4 [(0, .ref (zad G 67)), (1, .int x1), (2, .int x2), (3, .int x3)] [] σ := by
  unfold F_X9_ringOf_4 at h
  refine z_iload e_X9_ringOf_4 3 rfl ?_
  refine z_ic e_X9_ringOf_5 ?_
  refine z_icmp_gt e_X9_ringOf_7 h (fun c1 h => ?_) (fun c1 h => ?_)
  · refine z_ic e_X9_ringOf_39 ?_
    cases h
    exact z_ireturn hR e_X9_ringOf_40
  · refine z_iload e_X9_ringOf_10 2 rfl ?_
    refine z_ic e_X9_ringOf_11 ?_
    obtain ⟨q3, s2, e4, h⟩ := bd_e h
    refine z_callNi (As := [.int x2, .int (12 : Int32)]) (rest := []) lk_X9_15 e_X9_ringOf_13 (m_X11_isBelow G x2 (12 : Int32) σ _ _ e4) (by decide) rfl (Nat.le_of_ble_eq_true rfl) ?_
    refine z_if_eq e_X9_ringOf_16 h (fun c5 h => ?_) (fun c5 h => ?_)
    · refine z_ic e_X9_ringOf_39 ?_
      cases h
      exact z_ireturn hR e_X9_ringOf_40
    · refine z_aload e_X9_ringOf_19 0 rfl ?_
      refine z_getr gf_X9_11_67 e_X9_ringOf_20 ?_
      refine z_iload e_X9_ringOf_23 2 rfl ?_
      refine z_iald sh_68 e_X9_ringOf_24 h (fun h => ?_)
      refine z_nmI h (fun v6 h => ?_)
      refine z_istore e_X9_ringOf_25 (by decide) [(2, .int v6), (0, .ref (zad G 67)), (1, .int x1), (3, .int x3)] rfl ?_
      refine z_iload e_X9_ringOf_26 0 rfl ?_
      refine z_iload e_X9_ringOf_27 2 rfl ?_
      refine z_icmp_ne e_X9_ringOf_28 h (fun c7 h => ?_) (fun c7 h => ?_)
      · refine z_iload e_X9_ringOf_31 3 rfl ?_
        cases h
        exact z_ireturn hR e_X9_ringOf_32
      · refine z_iinc e_X9_ringOf_33 3 rfl (by decide) (by decide) h (fun y => [(3, .int y), (2, .int v6), (0, .ref (zad G 67)), (1, .int x1)]) (fun _ => rfl) (fun v8 h => ?_)
        refine z_goto e_X9_ringOf_36 ?_
        exact z_sub [2, 3, 1, 0] rfl (hw4 v6 v8 s2 h)
noncomputable def F_X9_ringOf_4L (x1 : Int32) : ((Int32 × Int32 × zSt) → Option (Int32 × zSt)) → (Int32 × Int32 × zSt) → Option (Int32 × zSt) := fun w s => F_X9_ringOf_4 x1 w s.1 s.2.1 s.2.2
set_option maxRecDepth 100000 in
theorem l_X9_ringOf_4 {G : zG} {C : zC} {r : Int32} {τ : zSt} (hR : zR G C (some .int) (some (.int r)) τ) (x1 : Int32) : ∀ (N : Nat) (x2 : Int32) (x3 : Int32) (σ : zSt), zfix (F_X9_ringOf_4L x1) N (x2, x3, σ) = some (r, τ) → zAW G 2 RX9 cX9_ringOf 4 C 4 [(0, .ref (zad G 67)), (1, .int x1), (2, .int x2), (3, .int x3)] [] σ := by
  intro N
  induction N with
  | zero =>
    intro x2 x3 σ h
    exact nomatch (show (none : Option (Int32 × zSt)) = some (r, τ) from h)
  | succ N ih =>
    intro x2 x3 σ h
    exact b_X9_ringOf_4 hR x1 (zfix (F_X9_ringOf_4L x1) N) ih x2 x3 σ h
noncomputable def F_X9_ringOf_0 (x1 : Int32) (σ : zSt) : Option (Int32 × zSt) :=
  zfix (F_X9_ringOf_4L x1) zlim (x1, (1 : Int32), σ)
set_option maxHeartbeats 4000000 in
set_option maxRecDepth 100000 in
theorem p_X9_ringOf_0 {G : zG} {C : zC} {r : Int32} {τ : zSt} (hR : zR G C (some .int) (some (.int r)) τ) (x1 : Int32) (σ : zSt) (h : F_X9_ringOf_0 x1 σ = some (r, τ)) : zAW G 2 RX9 cX9_ringOf 4 C 0 [(0, .ref (zad G 67)), (1, .int x1)] [] σ := by
  unfold F_X9_ringOf_0 at h
  refine z_iload e_X9_ringOf_0 1 rfl ?_
  refine z_istore e_X9_ringOf_1 (by decide) [(2, .int x1), (0, .ref (zad G 67)), (1, .int x1)] rfl ?_
  refine z_ic e_X9_ringOf_2 ?_
  refine z_istore e_X9_ringOf_3 (by decide) [(3, .int (1 : Int32)), (2, .int x1), (0, .ref (zad G 67)), (1, .int x1)] rfl ?_
  exact z_sub [2, 3, 1, 0] rfl (l_X9_ringOf_4 hR x1 zlim x1 (1 : Int32) σ h)
noncomputable def F_X9_ringOf (x1 : Int32) (σ : zSt) : Option (Int32 × zSt) := F_X9_ringOf_0 x1 σ
set_option maxRecDepth 100000 in
theorem m_X9_ringOf (G : zG) (x1 : Int32) (σ : zSt) (q : Int32) (τ : zSt) (h : F_X9_ringOf x1 σ = some (q, τ)) : zM G 2 yX9_ringOf cX9_ringOf 4 (some .int) [.ref (zad G 67), .int x1] σ (some (.int q)) τ := by
  unfold F_X9_ringOf at h
  refine zM.of (own := RX9) (by decide +kernel) rfl (Nat.le_of_ble_eq_true rfl) (fun C hR => ?_)
  exact z_sub [0, 1] rfl (p_X9_ringOf_0 hR x1 σ h)
noncomputable def F_X9_walk_51 (x2 : Int32) (x4 : Int32) (x5 : Int32) (σ : zSt) : Option (Int32 × zSt) :=
  if x2 = 0 then (
    some (x4, σ))
  else (
    if x5 = 0 then (
      some ((0 : Int32), σ))
    else (
      some ((1 : Int32), σ)))
set_option maxHeartbeats 4000000 in
set_option maxRecDepth 100000 in
theorem p_X9_walk_51 {G : zG} {C : zC} {r : Int32} {τ : zSt} (hR : zR G C (some .int) (some (.int r)) τ) (x2 : Int32) (x4 : Int32) (x5 : Int32) (σ : zSt) (h : F_X9_walk_51 x2 x4 x5 σ = some (r, τ)) : zAW G 3 RX9 cX9_walk 6 C 51 [(2, .int x2), (4, .int x4), (5, .int x5)] [] σ := by
  unfold F_X9_walk_51 at h
  refine z_iload e_X9_walk_51 0 rfl ?_
  refine z_if_eq e_X9_walk_52 h (fun c12 h => ?_) (fun c12 h => ?_)
  · refine z_iload e_X9_walk_68 1 rfl ?_
    cases h
    exact z_ireturn hR e_X9_walk_70
  · refine z_iload e_X9_walk_55 2 rfl ?_
    refine z_if_eq e_X9_walk_57 h (fun c13 h => ?_) (fun c13 h => ?_)
    · refine z_ic e_X9_walk_64 ?_
      refine z_goto e_X9_walk_65 ?_
      cases h
      exact z_ireturn hR e_X9_walk_70
    · refine z_ic e_X9_walk_60 ?_
      refine z_goto e_X9_walk_61 ?_
      cases h
      exact z_ireturn hR e_X9_walk_70
noncomputable def F_X9_walk_5 (x2 : Int32) (w5 : (Int32 × Int32 × zSt) → Option (Int32 × zSt)) (x3 : Int32) (x4 : Int32) (σ : zSt) : Option (Int32 × zSt) :=
  if (12 : Int32) ≤ x4 then (
    some ((0 : Int32), σ))
  else (
    bd (F_X11_isBelow x3 (12 : Int32) σ) (fun q3 s2 =>
      if q3 = 0 then (
        some ((0 : Int32), s2))
      else (
        bd (F_X9_ringOf x3 s2) (fun q7 s6 =>
          nm (if q7 ≤ 0 then (0 : Int32) else (1 : Int32)) (fun v9 =>
            if v9 = 0 then (
              gd (vp_in x3 12) (
                if (s6.1 68 x3.toNatClampNeg) = (-1 : Int32) then (
                  F_X9_walk_51 x2 x4 v9 s6)
                else (
                  gd (vp_in x3 12) (
                    nm (s6.1 68 x3.toNatClampNeg) (fun v14 =>
                      nm (x4 + (1 : Int32)) (fun v15 =>
                        w5 (v14, v15, s6)))))))
            else (
              F_X9_walk_51 x2 x4 v9 s6))))))
set_option maxHeartbeats 4000000 in
set_option maxRecDepth 100000 in
theorem b_X9_walk_5 {G : zG} {C : zC} {r : Int32} {τ : zSt} (hR : zR G C (some .int) (some (.int r)) τ) (x2 : Int32) (w5 : (Int32 × Int32 × zSt) → Option (Int32 × zSt)) (hw5 : ∀ (x3 : Int32) (x4 : Int32) (σ : zSt), w5 (x3, x4, σ) = some (r, τ) → zAW G 3 RX9 cX9_walk 6 C 5 [(0, .ref (zad G 67)), (2, .int x2), (3, .int x3), (4, .int x4)] [] σ) (x3 : Int32) (x4 : Int32) (σ : zSt) (h : F_X9_walk_5 x2 w5 x3 x4 σ = some (r, τ)) : zAW G 3 RX9 cX9_walk 6 C 5 [(0, .ref (zad G 67)), (2, .int x2), (3, .int x3), (4, .int x4)] [] σ := by
  unfold F_X9_walk_5 at h
  refine z_iload e_X9_walk_5 3 rfl ?_
  refine z_ic e_X9_walk_7 ?_
  refine z_icmp_ge e_X9_walk_9 h (fun c1 h => ?_) (fun c1 h => ?_)
  · refine z_ic e_X9_walk_84 ?_
    cases h
    exact z_ireturn hR e_X9_walk_85
  · refine z_iload e_X9_walk_12 2 rfl ?_
    refine z_ic e_X9_walk_13 ?_
    obtain ⟨q3, s2, e4, h⟩ := bd_e h
    refine z_callNi (As := [.int x3, .int (12 : Int32)]) (rest := []) lk_X9_15 e_X9_walk_15 (m_X11_isBelow G x3 (12 : Int32) σ _ _ e4) (by decide) rfl (Nat.le_of_ble_eq_true rfl) ?_
    refine z_if_eq e_X9_walk_18 h (fun c5 h => ?_) (fun c5 h => ?_)
    · refine z_ic e_X9_walk_84 ?_
      cases h
      exact z_ireturn hR e_X9_walk_85
    · refine z_aload e_X9_walk_21 0 rfl ?_
      refine z_iload e_X9_walk_22 2 rfl ?_
      obtain ⟨q7, s6, e8, h⟩ := bd_e h
      refine z_callVi (c0 := 67) (As := [.int x3]) (rest := []) lk_X9_19 ob_67 e_X9_walk_23 (m_X9_ringOf G x3 s2 _ _ e8) (by decide) rfl (Nat.le_of_ble_eq_true rfl) ?_
      obtain ⟨v9, ev9, h⟩ := nm_i h
      have jv9 : zAW G 3 RX9 cX9_walk 6 C 34 [(0, .ref (zad G 67)), (2, .int x2), (3, .int x3), (4, .int x4)] [.int v9] s6 := by
        refine z_istore e_X9_walk_34 (by decide) [(5, .int v9), (0, .ref (zad G 67)), (2, .int x2), (3, .int x3), (4, .int x4)] rfl ?_
        refine z_iload e_X9_walk_36 0 rfl ?_
        refine z_if_ne e_X9_walk_38 h (fun c10 h => ?_) (fun c10 h => ?_)
        · refine z_aload e_X9_walk_41 1 rfl ?_
          refine z_getr gf_X9_11_67 e_X9_walk_42 ?_
          refine z_iload e_X9_walk_45 3 rfl ?_
          refine z_iald sh_68 e_X9_walk_46 h (fun h => ?_)
          refine z_ic e_X9_walk_47 ?_
          refine z_icmp_ne e_X9_walk_48 h (fun c11 h => ?_) (fun c11 h => ?_)
          · exact z_sub [2, 4, 0] rfl (p_X9_walk_51 hR x2 x4 v9 s6 h)
          · refine z_aload e_X9_walk_71 1 rfl ?_
            refine z_getr gf_X9_11_67 e_X9_walk_72 ?_
            refine z_iload e_X9_walk_75 3 rfl ?_
            refine z_iald sh_68 e_X9_walk_76 h (fun h => ?_)
            refine z_nmI h (fun v14 h => ?_)
            refine z_istore e_X9_walk_77 (by decide) [(3, .int v14), (5, .int v9), (0, .ref (zad G 67)), (2, .int x2), (4, .int x4)] rfl ?_
            refine z_iinc e_X9_walk_78 4 rfl (by decide) (by decide) h (fun y => [(4, .int y), (3, .int v14), (5, .int v9), (0, .ref (zad G 67)), (2, .int x2)]) (fun _ => rfl) (fun v15 h => ?_)
            refine z_goto e_X9_walk_81 ?_
            exact z_sub [3, 4, 1, 0] rfl (hw5 v14 v15 s6 h)
        · exact z_sub [2, 4, 0] rfl (p_X9_walk_51 hR x2 x4 v9 s6 h)
      refine y_if_le e_X9_walk_26 (fun c16 => ?_) (fun c16 => ?_)
      · refine z_ic e_X9_walk_33 ?_
        rw [if_pos c16] at ev9
        subst ev9
        exact z_sub [0, 1, 2, 3] rfl jv9
      · refine z_ic e_X9_walk_29 ?_
        refine z_goto e_X9_walk_30 ?_
        rw [if_neg c16] at ev9
        subst ev9
        exact z_sub [0, 1, 2, 3] rfl jv9
noncomputable def F_X9_walk_5L (x2 : Int32) : ((Int32 × Int32 × zSt) → Option (Int32 × zSt)) → (Int32 × Int32 × zSt) → Option (Int32 × zSt) := fun w s => F_X9_walk_5 x2 w s.1 s.2.1 s.2.2
set_option maxRecDepth 100000 in
theorem l_X9_walk_5 {G : zG} {C : zC} {r : Int32} {τ : zSt} (hR : zR G C (some .int) (some (.int r)) τ) (x2 : Int32) : ∀ (N : Nat) (x3 : Int32) (x4 : Int32) (σ : zSt), zfix (F_X9_walk_5L x2) N (x3, x4, σ) = some (r, τ) → zAW G 3 RX9 cX9_walk 6 C 5 [(0, .ref (zad G 67)), (2, .int x2), (3, .int x3), (4, .int x4)] [] σ := by
  intro N
  induction N with
  | zero =>
    intro x3 x4 σ h
    exact nomatch (show (none : Option (Int32 × zSt)) = some (r, τ) from h)
  | succ N ih =>
    intro x3 x4 σ h
    exact b_X9_walk_5 hR x2 (zfix (F_X9_walk_5L x2) N) ih x3 x4 σ h
noncomputable def F_X9_walk_0 (x1 : Int32) (x2 : Int32) (σ : zSt) : Option (Int32 × zSt) :=
  zfix (F_X9_walk_5L x2) zlim (x1, (0 : Int32), σ)
set_option maxHeartbeats 4000000 in
set_option maxRecDepth 100000 in
theorem p_X9_walk_0 {G : zG} {C : zC} {r : Int32} {τ : zSt} (hR : zR G C (some .int) (some (.int r)) τ) (x1 : Int32) (x2 : Int32) (σ : zSt) (h : F_X9_walk_0 x1 x2 σ = some (r, τ)) : zAW G 3 RX9 cX9_walk 6 C 0 [(0, .ref (zad G 67)), (1, .int x1), (2, .int x2)] [] σ := by
  unfold F_X9_walk_0 at h
  refine z_iload e_X9_walk_0 1 rfl ?_
  refine z_istore e_X9_walk_1 (by decide) [(3, .int x1), (0, .ref (zad G 67)), (1, .int x1), (2, .int x2)] rfl ?_
  refine z_ic e_X9_walk_2 ?_
  refine z_istore e_X9_walk_3 (by decide) [(4, .int (0 : Int32)), (3, .int x1), (0, .ref (zad G 67)), (1, .int x1), (2, .int x2)] rfl ?_
  exact z_sub [2, 4, 1, 0] rfl (l_X9_walk_5 hR x2 zlim x1 (0 : Int32) σ h)
noncomputable def F_X9_walk (x1 : Int32) (x2 : Int32) (σ : zSt) : Option (Int32 × zSt) := F_X9_walk_0 x1 x2 σ
set_option maxRecDepth 100000 in
theorem m_X9_walk (G : zG) (x1 : Int32) (x2 : Int32) (σ : zSt) (q : Int32) (τ : zSt) (h : F_X9_walk x1 x2 σ = some (q, τ)) : zM G 3 yX9_walk cX9_walk 6 (some .int) [.ref (zad G 67), .int x1, .int x2] σ (some (.int q)) τ := by
  unfold F_X9_walk at h
  refine zM.of (own := RX9) (by decide +kernel) rfl (Nat.le_of_ble_eq_true rfl) (fun C hR => ?_)
  exact z_sub [0, 1, 2] rfl (p_X9_walk_0 hR x1 x2 σ h)
noncomputable def F_X9_longest_4 (w4 : (Int32 × Int32 × zSt) → Option (Int32 × zSt)) (x1 : Int32) (x2 : Int32) (σ : zSt) : Option (Int32 × zSt) :=
  if (12 : Int32) ≤ x2 then (
    some (x1, σ))
  else (
    bd (F_X9_ringOf x2 σ) (fun q3 s2 =>
      nm (jmax x1 q3) (fun v5 =>
        nm (x2 + (1 : Int32)) (fun v6 =>
          w4 (v5, v6, s2)))))
set_option maxHeartbeats 4000000 in
set_option maxRecDepth 100000 in
theorem b_X9_longest_4 {G : zG} {C : zC} {r : Int32} {τ : zSt} (hR : zR G C (some .int) (some (.int r)) τ) (w4 : (Int32 × Int32 × zSt) → Option (Int32 × zSt)) (hw4 : ∀ (x1 : Int32) (x2 : Int32) (σ : zSt), w4 (x1, x2, σ) = some (r, τ) → zAW G 3 RX9 cX9_longest 3 C 4 [(0, .ref (zad G 67)), (1, .int x1), (2, .int x2)] [] σ) (x1 : Int32) (x2 : Int32) (σ : zSt) (h : F_X9_longest_4 w4 x1 x2 σ = some (r, τ)) : zAW G 3 RX9 cX9_longest 3 C 4 [(0, .ref (zad G 67)), (1, .int x1), (2, .int x2)] [] σ := by
  unfold F_X9_longest_4 at h
  refine z_iload e_X9_longest_4 2 rfl ?_
  refine z_ic e_X9_longest_5 ?_
  refine z_icmp_ge e_X9_longest_7 h (fun c1 h => ?_) (fun c1 h => ?_)
  · refine z_iload e_X9_longest_26 1 rfl ?_
    cases h
    exact z_ireturn hR e_X9_longest_27
  · refine z_iload e_X9_longest_10 1 rfl ?_
    refine z_aload e_X9_longest_11 0 rfl ?_
    refine z_iload e_X9_longest_12 2 rfl ?_
    obtain ⟨q3, s2, e4, h⟩ := bd_e h
    refine z_callVi (c0 := 67) (As := [.int x2]) (rest := [.int x1]) lk_X9_19 ob_67 e_X9_longest_13 (m_X9_ringOf G x2 σ _ _ e4) (by decide) rfl (Nat.le_of_ble_eq_true rfl) ?_
    refine z_jmax mm_X9_27 (Nat.le_of_ble_eq_true rfl) (by decide) e_X9_longest_16 ?_
    refine z_nmI h (fun v5 h => ?_)
    refine z_istore e_X9_longest_19 (by decide) [(1, .int v5), (0, .ref (zad G 67)), (2, .int x2)] rfl ?_
    refine z_iinc e_X9_longest_20 2 rfl (by decide) (by decide) h (fun y => [(2, .int y), (1, .int v5), (0, .ref (zad G 67))]) (fun _ => rfl) (fun v6 h => ?_)
    refine z_goto e_X9_longest_23 ?_
    exact z_sub [2, 1, 0] rfl (hw4 v5 v6 s2 h)
noncomputable def F_X9_longest_4L  : ((Int32 × Int32 × zSt) → Option (Int32 × zSt)) → (Int32 × Int32 × zSt) → Option (Int32 × zSt) := fun w s => F_X9_longest_4 w s.1 s.2.1 s.2.2
set_option maxRecDepth 100000 in
theorem l_X9_longest_4 {G : zG} {C : zC} {r : Int32} {τ : zSt} (hR : zR G C (some .int) (some (.int r)) τ)  : ∀ (N : Nat) (x1 : Int32) (x2 : Int32) (σ : zSt), zfix (F_X9_longest_4L ) N (x1, x2, σ) = some (r, τ) → zAW G 3 RX9 cX9_longest 3 C 4 [(0, .ref (zad G 67)), (1, .int x1), (2, .int x2)] [] σ := by
  intro N
  induction N with
  | zero =>
    intro x1 x2 σ h
    exact nomatch (show (none : Option (Int32 × zSt)) = some (r, τ) from h)
  | succ N ih =>
    intro x1 x2 σ h
    exact b_X9_longest_4 hR (zfix (F_X9_longest_4L ) N) ih x1 x2 σ h
noncomputable def F_X9_longest_0 (σ : zSt) : Option (Int32 × zSt) :=
  zfix (F_X9_longest_4L ) zlim ((0 : Int32), (0 : Int32), σ)
set_option maxHeartbeats 4000000 in
set_option maxRecDepth 100000 in
theorem p_X9_longest_0 {G : zG} {C : zC} {r : Int32} {τ : zSt} (hR : zR G C (some .int) (some (.int r)) τ)  (σ : zSt) (h : F_X9_longest_0 σ = some (r, τ)) : zAW G 3 RX9 cX9_longest 3 C 0 [(0, .ref (zad G 67))] [] σ := by
  unfold F_X9_longest_0 at h
  refine z_ic e_X9_longest_0 ?_
  refine z_istore e_X9_longest_1 (by decide) [(1, .int (0 : Int32)), (0, .ref (zad G 67))] rfl ?_
  refine z_ic e_X9_longest_2 ?_
  refine z_istore e_X9_longest_3 (by decide) [(2, .int (0 : Int32)), (1, .int (0 : Int32)), (0, .ref (zad G 67))] rfl ?_
  exact z_sub [2, 1, 0] rfl (l_X9_longest_4 hR  zlim (0 : Int32) (0 : Int32) σ h)
noncomputable def F_X9_longest (σ : zSt) : Option (Int32 × zSt) := F_X9_longest_0  σ
set_option maxRecDepth 100000 in
theorem m_X9_longest (G : zG) (σ : zSt) (q : Int32) (τ : zSt) (h : F_X9_longest  σ = some (q, τ)) : zM G 3 yX9_longest cX9_longest 3 (some .int) [.ref (zad G 67)] σ (some (.int q)) τ := by
  unfold F_X9_longest at h
  refine zM.of (own := RX9) (by decide +kernel) rfl (Nat.le_of_ble_eq_true rfl) (fun C hR => ?_)
  exact z_sub [0] rfl (p_X9_longest_0 hR  σ h)
noncomputable def F_X9_inRings_4 (w4 : (Int32 × Int32 × zSt) → Option (Int32 × zSt)) (x1 : Int32) (x2 : Int32) (σ : zSt) : Option (Int32 × zSt) :=
  if (12 : Int32) ≤ x2 then (
    some (x1, σ))
  else (
    bd (F_X9_ringOf x2 σ) (fun q3 s2 =>
      nm (if q3 ≤ 0 then (0 : Int32) else (1 : Int32)) (fun v5 =>
        nm (x1 + v5) (fun v6 =>
          nm (x2 + (1 : Int32)) (fun v7 =>
            w4 (v6, v7, s2))))))
set_option maxHeartbeats 4000000 in
set_option maxRecDepth 100000 in
theorem b_X9_inRings_4 {G : zG} {C : zC} {r : Int32} {τ : zSt} (hR : zR G C (some .int) (some (.int r)) τ) (w4 : (Int32 × Int32 × zSt) → Option (Int32 × zSt)) (hw4 : ∀ (x1 : Int32) (x2 : Int32) (σ : zSt), w4 (x1, x2, σ) = some (r, τ) → zAW G 3 RX9 cX9_inRings 3 C 4 [(0, .ref (zad G 67)), (1, .int x1), (2, .int x2)] [] σ) (x1 : Int32) (x2 : Int32) (σ : zSt) (h : F_X9_inRings_4 w4 x1 x2 σ = some (r, τ)) : zAW G 3 RX9 cX9_inRings 3 C 4 [(0, .ref (zad G 67)), (1, .int x1), (2, .int x2)] [] σ := by
  unfold F_X9_inRings_4 at h
  refine z_iload e_X9_inRings_4 2 rfl ?_
  refine z_ic e_X9_inRings_5 ?_
  refine z_icmp_ge e_X9_inRings_7 h (fun c1 h => ?_) (fun c1 h => ?_)
  · refine z_iload e_X9_inRings_32 1 rfl ?_
    cases h
    exact z_ireturn hR e_X9_inRings_33
  · refine z_iload e_X9_inRings_10 1 rfl ?_
    refine z_aload e_X9_inRings_11 0 rfl ?_
    refine z_iload e_X9_inRings_12 2 rfl ?_
    obtain ⟨q3, s2, e4, h⟩ := bd_e h
    refine z_callVi (c0 := 67) (As := [.int x2]) (rest := [.int x1]) lk_X9_19 ob_67 e_X9_inRings_13 (m_X9_ringOf G x2 σ _ _ e4) (by decide) rfl (Nat.le_of_ble_eq_true rfl) ?_
    obtain ⟨v5, ev5, h⟩ := nm_i h
    have jv5 : zAW G 3 RX9 cX9_inRings 3 C 24 [(0, .ref (zad G 67)), (2, .int x2)] [.int v5, .int x1] s2 := by
      refine z_iadd e_X9_inRings_24 ?_
      refine z_nmI h (fun v6 h => ?_)
      refine z_istore e_X9_inRings_25 (by decide) [(1, .int v6), (0, .ref (zad G 67)), (2, .int x2)] rfl ?_
      refine z_iinc e_X9_inRings_26 2 rfl (by decide) (by decide) h (fun y => [(2, .int y), (1, .int v6), (0, .ref (zad G 67))]) (fun _ => rfl) (fun v7 h => ?_)
      refine z_goto e_X9_inRings_29 ?_
      exact z_sub [2, 1, 0] rfl (hw4 v6 v7 s2 h)
    refine y_if_le e_X9_inRings_16 (fun c8 => ?_) (fun c8 => ?_)
    · refine z_ic e_X9_inRings_23 ?_
      rw [if_pos c8] at ev5
      subst ev5
      exact z_sub [0, 2] rfl jv5
    · refine z_ic e_X9_inRings_19 ?_
      refine z_goto e_X9_inRings_20 ?_
      rw [if_neg c8] at ev5
      subst ev5
      exact z_sub [0, 2] rfl jv5
noncomputable def F_X9_inRings_4L  : ((Int32 × Int32 × zSt) → Option (Int32 × zSt)) → (Int32 × Int32 × zSt) → Option (Int32 × zSt) := fun w s => F_X9_inRings_4 w s.1 s.2.1 s.2.2
set_option maxRecDepth 100000 in
theorem l_X9_inRings_4 {G : zG} {C : zC} {r : Int32} {τ : zSt} (hR : zR G C (some .int) (some (.int r)) τ)  : ∀ (N : Nat) (x1 : Int32) (x2 : Int32) (σ : zSt), zfix (F_X9_inRings_4L ) N (x1, x2, σ) = some (r, τ) → zAW G 3 RX9 cX9_inRings 3 C 4 [(0, .ref (zad G 67)), (1, .int x1), (2, .int x2)] [] σ := by
  intro N
  induction N with
  | zero =>
    intro x1 x2 σ h
    exact nomatch (show (none : Option (Int32 × zSt)) = some (r, τ) from h)
  | succ N ih =>
    intro x1 x2 σ h
    exact b_X9_inRings_4 hR (zfix (F_X9_inRings_4L ) N) ih x1 x2 σ h
noncomputable def F_X9_inRings_0 (σ : zSt) : Option (Int32 × zSt) :=
  zfix (F_X9_inRings_4L ) zlim ((0 : Int32), (0 : Int32), σ)
set_option maxHeartbeats 4000000 in
set_option maxRecDepth 100000 in
theorem p_X9_inRings_0 {G : zG} {C : zC} {r : Int32} {τ : zSt} (hR : zR G C (some .int) (some (.int r)) τ)  (σ : zSt) (h : F_X9_inRings_0 σ = some (r, τ)) : zAW G 3 RX9 cX9_inRings 3 C 0 [(0, .ref (zad G 67))] [] σ := by
  unfold F_X9_inRings_0 at h
  refine z_ic e_X9_inRings_0 ?_
  refine z_istore e_X9_inRings_1 (by decide) [(1, .int (0 : Int32)), (0, .ref (zad G 67))] rfl ?_
  refine z_ic e_X9_inRings_2 ?_
  refine z_istore e_X9_inRings_3 (by decide) [(2, .int (0 : Int32)), (1, .int (0 : Int32)), (0, .ref (zad G 67))] rfl ?_
  exact z_sub [2, 1, 0] rfl (l_X9_inRings_4 hR  zlim (0 : Int32) (0 : Int32) σ h)
noncomputable def F_X9_inRings (σ : zSt) : Option (Int32 × zSt) := F_X9_inRings_0  σ
set_option maxRecDepth 100000 in
theorem m_X9_inRings (G : zG) (σ : zSt) (q : Int32) (τ : zSt) (h : F_X9_inRings  σ = some (q, τ)) : zM G 3 yX9_inRings cX9_inRings 3 (some .int) [.ref (zad G 67)] σ (some (.int q)) τ := by
  unfold F_X9_inRings at h
  refine zM.of (own := RX9) (by decide +kernel) rfl (Nat.le_of_ble_eq_true rfl) (fun C hR => ?_)
  exact z_sub [0] rfl (p_X9_inRings_0 hR  σ h)
noncomputable def F_X9_isLeastOfRing_42 (x1 : Int32) (σ : zSt) : Option (Int32 × zSt) :=
  bd (F_X9_ringOf x1 σ) (fun q6 s5 =>
    if q6 ≤ 0 then (
      some ((0 : Int32), s5))
    else (
      some ((1 : Int32), s5)))
set_option maxHeartbeats 4000000 in
set_option maxRecDepth 100000 in
theorem p_X9_isLeastOfRing_42 {G : zG} {C : zC} {r : Int32} {τ : zSt} (hR : zR G C (some .boolean) (some (.int r)) τ) (x1 : Int32) (σ : zSt) (h : F_X9_isLeastOfRing_42 x1 σ = some (r, τ)) : zAW G 3 RX9 cX9_isLeastOfRing 4 C 42 [(0, .ref (zad G 67)), (1, .int x1)] [] σ := by
  unfold F_X9_isLeastOfRing_42 at h
  refine z_aload e_X9_isLeastOfRing_42 0 rfl ?_
  refine z_iload e_X9_isLeastOfRing_43 1 rfl ?_
  obtain ⟨q6, s5, e7, h⟩ := bd_e h
  refine z_callVi (c0 := 67) (As := [.int x1]) (rest := []) lk_X9_19 ob_67 e_X9_isLeastOfRing_44 (m_X9_ringOf G x1 σ _ _ e7) (by decide) rfl (Nat.le_of_ble_eq_true rfl) ?_
  refine z_if_le e_X9_isLeastOfRing_47 h (fun c8 h => ?_) (fun c8 h => ?_)
  · refine z_ic e_X9_isLeastOfRing_54 ?_
    cases h
    exact z_zreturn hR e_X9_isLeastOfRing_55 (Or.inl rfl)
  · refine z_ic e_X9_isLeastOfRing_50 ?_
    refine z_goto e_X9_isLeastOfRing_51 ?_
    cases h
    exact z_zreturn hR e_X9_isLeastOfRing_55 (Or.inr rfl)
noncomputable def F_X9_isLeastOfRing_4 (x1 : Int32) (w4 : (Int32 × Int32 × zSt) → Option (Int32 × zSt)) (x2 : Int32) (x3 : Int32) (σ : zSt) : Option (Int32 × zSt) :=
  bd (F_X9_ringOf x1 σ) (fun q2 s1 =>
    if q2 ≤ x3 then (
      F_X9_isLeastOfRing_42 x1 s1)
    else (
      bd (F_X11_isBelow x2 (12 : Int32) s1) (fun q10 s9 =>
        if q10 = 0 then (
          F_X9_isLeastOfRing_42 x1 s9)
        else (
          if x1 ≤ x2 then (
            gd (vp_in x2 12) (
              nm (s9.1 68 x2.toNatClampNeg) (fun v14 =>
                nm (x3 + (1 : Int32)) (fun v15 =>
                  w4 (v14, v15, s9)))))
          else (
            some ((0 : Int32), s9))))))
set_option maxHeartbeats 4000000 in
set_option maxRecDepth 100000 in
theorem b_X9_isLeastOfRing_4 {G : zG} {C : zC} {r : Int32} {τ : zSt} (hR : zR G C (some .boolean) (some (.int r)) τ) (x1 : Int32) (w4 : (Int32 × Int32 × zSt) → Option (Int32 × zSt)) (hw4 : ∀ (x2 : Int32) (x3 : Int32) (σ : zSt), w4 (x2, x3, σ) = some (r, τ) → zAW G 3 RX9 cX9_isLeastOfRing 4 C 4 [(0, .ref (zad G 67)), (1, .int x1), (2, .int x2), (3, .int x3)] [] σ) (x2 : Int32) (x3 : Int32) (σ : zSt) (h : F_X9_isLeastOfRing_4 x1 w4 x2 x3 σ = some (r, τ)) : zAW G 3 RX9 cX9_isLeastOfRing 4 C 4 [(0, .ref (zad G 67)), (1, .int x1), (2, .int x2), (3, .int x3)] [] σ := by
  unfold F_X9_isLeastOfRing_4 at h
  refine z_iload e_X9_isLeastOfRing_4 3 rfl ?_
  refine z_aload e_X9_isLeastOfRing_5 0 rfl ?_
  refine z_iload e_X9_isLeastOfRing_6 1 rfl ?_
  obtain ⟨q2, s1, e3, h⟩ := bd_e h
  refine z_callVi (c0 := 67) (As := [.int x1]) (rest := [.int x3]) lk_X9_19 ob_67 e_X9_isLeastOfRing_7 (m_X9_ringOf G x1 σ _ _ e3) (by decide) rfl (Nat.le_of_ble_eq_true rfl) ?_
  refine z_icmp_ge e_X9_isLeastOfRing_10 h (fun c4 h => ?_) (fun c4 h => ?_)
  · exact z_sub [0, 1] rfl (p_X9_isLeastOfRing_42 hR x1 s1 h)
  · refine z_iload e_X9_isLeastOfRing_13 2 rfl ?_
    refine z_ic e_X9_isLeastOfRing_14 ?_
    obtain ⟨q10, s9, e11, h⟩ := bd_e h
    refine z_callNi (As := [.int x2, .int (12 : Int32)]) (rest := []) lk_X9_15 e_X9_isLeastOfRing_16 (m_X11_isBelow G x2 (12 : Int32) s1 _ _ e11) (by decide) rfl (Nat.le_of_ble_eq_true rfl) ?_
    refine z_if_eq e_X9_isLeastOfRing_19 h (fun c12 h => ?_) (fun c12 h => ?_)
    · exact z_sub [0, 1] rfl (p_X9_isLeastOfRing_42 hR x1 s9 h)
    · refine z_iload e_X9_isLeastOfRing_22 2 rfl ?_
      refine z_iload e_X9_isLeastOfRing_23 1 rfl ?_
      refine z_icmp_ge e_X9_isLeastOfRing_24 h (fun c13 h => ?_) (fun c13 h => ?_)
      · refine z_aload e_X9_isLeastOfRing_29 0 rfl ?_
        refine z_getr gf_X9_11_67 e_X9_isLeastOfRing_30 ?_
        refine z_iload e_X9_isLeastOfRing_33 2 rfl ?_
        refine z_iald sh_68 e_X9_isLeastOfRing_34 h (fun h => ?_)
        refine z_nmI h (fun v14 h => ?_)
        refine z_istore e_X9_isLeastOfRing_35 (by decide) [(2, .int v14), (0, .ref (zad G 67)), (1, .int x1), (3, .int x3)] rfl ?_
        refine z_iinc e_X9_isLeastOfRing_36 3 rfl (by decide) (by decide) h (fun y => [(3, .int y), (2, .int v14), (0, .ref (zad G 67)), (1, .int x1)]) (fun _ => rfl) (fun v15 h => ?_)
        refine z_goto e_X9_isLeastOfRing_39 ?_
        exact z_sub [2, 3, 1, 0] rfl (hw4 v14 v15 s9 h)
      · refine z_ic e_X9_isLeastOfRing_27 ?_
        cases h
        exact z_zreturn hR e_X9_isLeastOfRing_28 (Or.inl rfl)
noncomputable def F_X9_isLeastOfRing_4L (x1 : Int32) : ((Int32 × Int32 × zSt) → Option (Int32 × zSt)) → (Int32 × Int32 × zSt) → Option (Int32 × zSt) := fun w s => F_X9_isLeastOfRing_4 x1 w s.1 s.2.1 s.2.2
set_option maxRecDepth 100000 in
theorem l_X9_isLeastOfRing_4 {G : zG} {C : zC} {r : Int32} {τ : zSt} (hR : zR G C (some .boolean) (some (.int r)) τ) (x1 : Int32) : ∀ (N : Nat) (x2 : Int32) (x3 : Int32) (σ : zSt), zfix (F_X9_isLeastOfRing_4L x1) N (x2, x3, σ) = some (r, τ) → zAW G 3 RX9 cX9_isLeastOfRing 4 C 4 [(0, .ref (zad G 67)), (1, .int x1), (2, .int x2), (3, .int x3)] [] σ := by
  intro N
  induction N with
  | zero =>
    intro x2 x3 σ h
    exact nomatch (show (none : Option (Int32 × zSt)) = some (r, τ) from h)
  | succ N ih =>
    intro x2 x3 σ h
    exact b_X9_isLeastOfRing_4 hR x1 (zfix (F_X9_isLeastOfRing_4L x1) N) ih x2 x3 σ h
noncomputable def F_X9_isLeastOfRing_0 (x1 : Int32) (σ : zSt) : Option (Int32 × zSt) :=
  zfix (F_X9_isLeastOfRing_4L x1) zlim (x1, (0 : Int32), σ)
set_option maxHeartbeats 4000000 in
set_option maxRecDepth 100000 in
theorem p_X9_isLeastOfRing_0 {G : zG} {C : zC} {r : Int32} {τ : zSt} (hR : zR G C (some .boolean) (some (.int r)) τ) (x1 : Int32) (σ : zSt) (h : F_X9_isLeastOfRing_0 x1 σ = some (r, τ)) : zAW G 3 RX9 cX9_isLeastOfRing 4 C 0 [(0, .ref (zad G 67)), (1, .int x1)] [] σ := by
  unfold F_X9_isLeastOfRing_0 at h
  refine z_iload e_X9_isLeastOfRing_0 1 rfl ?_
  refine z_istore e_X9_isLeastOfRing_1 (by decide) [(2, .int x1), (0, .ref (zad G 67)), (1, .int x1)] rfl ?_
  refine z_ic e_X9_isLeastOfRing_2 ?_
  refine z_istore e_X9_isLeastOfRing_3 (by decide) [(3, .int (0 : Int32)), (2, .int x1), (0, .ref (zad G 67)), (1, .int x1)] rfl ?_
  exact z_sub [2, 3, 1, 0] rfl (l_X9_isLeastOfRing_4 hR x1 zlim x1 (0 : Int32) σ h)
noncomputable def F_X9_isLeastOfRing (x1 : Int32) (σ : zSt) : Option (Int32 × zSt) := F_X9_isLeastOfRing_0 x1 σ
set_option maxRecDepth 100000 in
theorem m_X9_isLeastOfRing (G : zG) (x1 : Int32) (σ : zSt) (q : Int32) (τ : zSt) (h : F_X9_isLeastOfRing x1 σ = some (q, τ)) : zM G 3 yX9_isLeastOfRing cX9_isLeastOfRing 4 (some .boolean) [.ref (zad G 67), .int x1] σ (some (.int q)) τ := by
  unfold F_X9_isLeastOfRing at h
  refine zM.of (own := RX9) (by decide +kernel) rfl (Nat.le_of_ble_eq_true rfl) (fun C hR => ?_)
  exact z_sub [0, 1] rfl (p_X9_isLeastOfRing_0 hR x1 σ h)
noncomputable def F_X9_howMany_4 (w4 : (Int32 × Int32 × zSt) → Option (Int32 × zSt)) (x1 : Int32) (x2 : Int32) (σ : zSt) : Option (Int32 × zSt) :=
  if (12 : Int32) ≤ x2 then (
    some (x1, σ))
  else (
    bd (F_X9_isLeastOfRing x2 σ) (fun q3 s2 =>
      nm (if q3 = 0 then (0 : Int32) else (1 : Int32)) (fun v5 =>
        nm (x1 + v5) (fun v6 =>
          nm (x2 + (1 : Int32)) (fun v7 =>
            w4 (v6, v7, s2))))))
set_option maxHeartbeats 4000000 in
set_option maxRecDepth 100000 in
theorem b_X9_howMany_4 {G : zG} {C : zC} {r : Int32} {τ : zSt} (hR : zR G C (some .int) (some (.int r)) τ) (w4 : (Int32 × Int32 × zSt) → Option (Int32 × zSt)) (hw4 : ∀ (x1 : Int32) (x2 : Int32) (σ : zSt), w4 (x1, x2, σ) = some (r, τ) → zAW G 4 RX9 cX9_howMany 3 C 4 [(0, .ref (zad G 67)), (1, .int x1), (2, .int x2)] [] σ) (x1 : Int32) (x2 : Int32) (σ : zSt) (h : F_X9_howMany_4 w4 x1 x2 σ = some (r, τ)) : zAW G 4 RX9 cX9_howMany 3 C 4 [(0, .ref (zad G 67)), (1, .int x1), (2, .int x2)] [] σ := by
  unfold F_X9_howMany_4 at h
  refine z_iload e_X9_howMany_4 2 rfl ?_
  refine z_ic e_X9_howMany_5 ?_
  refine z_icmp_ge e_X9_howMany_7 h (fun c1 h => ?_) (fun c1 h => ?_)
  · refine z_iload e_X9_howMany_32 1 rfl ?_
    cases h
    exact z_ireturn hR e_X9_howMany_33
  · refine z_iload e_X9_howMany_10 1 rfl ?_
    refine z_aload e_X9_howMany_11 0 rfl ?_
    refine z_iload e_X9_howMany_12 2 rfl ?_
    obtain ⟨q3, s2, e4, h⟩ := bd_e h
    refine z_callVi (c0 := 67) (As := [.int x2]) (rest := [.int x1]) lk_X9_23 ob_67 e_X9_howMany_13 (m_X9_isLeastOfRing G x2 σ _ _ e4) (by decide) rfl (Nat.le_of_ble_eq_true rfl) ?_
    obtain ⟨v5, ev5, h⟩ := nm_i h
    have jv5 : zAW G 4 RX9 cX9_howMany 3 C 24 [(0, .ref (zad G 67)), (2, .int x2)] [.int v5, .int x1] s2 := by
      refine z_iadd e_X9_howMany_24 ?_
      refine z_nmI h (fun v6 h => ?_)
      refine z_istore e_X9_howMany_25 (by decide) [(1, .int v6), (0, .ref (zad G 67)), (2, .int x2)] rfl ?_
      refine z_iinc e_X9_howMany_26 2 rfl (by decide) (by decide) h (fun y => [(2, .int y), (1, .int v6), (0, .ref (zad G 67))]) (fun _ => rfl) (fun v7 h => ?_)
      refine z_goto e_X9_howMany_29 ?_
      exact z_sub [2, 1, 0] rfl (hw4 v6 v7 s2 h)
    refine y_if_eq e_X9_howMany_16 (fun c8 => ?_) (fun c8 => ?_)
    · refine z_ic e_X9_howMany_23 ?_
      rw [if_pos c8] at ev5
      subst ev5
      exact z_sub [0, 2] rfl jv5
    · refine z_ic e_X9_howMany_19 ?_
      refine z_goto e_X9_howMany_20 ?_
      rw [if_neg c8] at ev5
      subst ev5
      exact z_sub [0, 2] rfl jv5
noncomputable def F_X9_howMany_4L  : ((Int32 × Int32 × zSt) → Option (Int32 × zSt)) → (Int32 × Int32 × zSt) → Option (Int32 × zSt) := fun w s => F_X9_howMany_4 w s.1 s.2.1 s.2.2
set_option maxRecDepth 100000 in
theorem l_X9_howMany_4 {G : zG} {C : zC} {r : Int32} {τ : zSt} (hR : zR G C (some .int) (some (.int r)) τ)  : ∀ (N : Nat) (x1 : Int32) (x2 : Int32) (σ : zSt), zfix (F_X9_howMany_4L ) N (x1, x2, σ) = some (r, τ) → zAW G 4 RX9 cX9_howMany 3 C 4 [(0, .ref (zad G 67)), (1, .int x1), (2, .int x2)] [] σ := by
  intro N
  induction N with
  | zero =>
    intro x1 x2 σ h
    exact nomatch (show (none : Option (Int32 × zSt)) = some (r, τ) from h)
  | succ N ih =>
    intro x1 x2 σ h
    exact b_X9_howMany_4 hR (zfix (F_X9_howMany_4L ) N) ih x1 x2 σ h
noncomputable def F_X9_howMany_0 (σ : zSt) : Option (Int32 × zSt) :=
  zfix (F_X9_howMany_4L ) zlim ((0 : Int32), (0 : Int32), σ)
set_option maxHeartbeats 4000000 in
set_option maxRecDepth 100000 in
theorem p_X9_howMany_0 {G : zG} {C : zC} {r : Int32} {τ : zSt} (hR : zR G C (some .int) (some (.int r)) τ)  (σ : zSt) (h : F_X9_howMany_0 σ = some (r, τ)) : zAW G 4 RX9 cX9_howMany 3 C 0 [(0, .ref (zad G 67))] [] σ := by
  unfold F_X9_howMany_0 at h
  refine z_ic e_X9_howMany_0 ?_
  refine z_istore e_X9_howMany_1 (by decide) [(1, .int (0 : Int32)), (0, .ref (zad G 67))] rfl ?_
  refine z_ic e_X9_howMany_2 ?_
  refine z_istore e_X9_howMany_3 (by decide) [(2, .int (0 : Int32)), (1, .int (0 : Int32)), (0, .ref (zad G 67))] rfl ?_
  exact z_sub [2, 1, 0] rfl (l_X9_howMany_4 hR  zlim (0 : Int32) (0 : Int32) σ h)
noncomputable def F_X9_howMany (σ : zSt) : Option (Int32 × zSt) := F_X9_howMany_0  σ
set_option maxRecDepth 100000 in
theorem m_X9_howMany (G : zG) (σ : zSt) (q : Int32) (τ : zSt) (h : F_X9_howMany  σ = some (q, τ)) : zM G 4 yX9_howMany cX9_howMany 3 (some .int) [.ref (zad G 67)] σ (some (.int q)) τ := by
  unfold F_X9_howMany at h
  refine zM.of (own := RX9) (by decide +kernel) rfl (Nat.le_of_ble_eq_true rfl) (fun C hR => ?_)
  exact z_sub [0] rfl (p_X9_howMany_0 hR  σ h)
noncomputable def F_X9_answer_21 (x1 : Int32) (x2 : Int32) (σ : zSt) : Option (Int32 × zSt) :=
  if x2 = (0 : Int32) then (
    bd (F_X9_howMany σ) (fun q8 s7 =>
      some (q8, s7)))
  else (
    if x2 = (1 : Int32) then (
      bd (F_X9_inRings σ) (fun q12 s11 =>
        some (q12, s11)))
    else (
      if x2 = (2 : Int32) then (
        bd (F_X9_longest σ) (fun q16 s15 =>
          some (q16, s15)))
      else (
        if x2 = (3 : Int32) then (
          bd (F_X9_walk x1 (0 : Int32) σ) (fun q20 s19 =>
            some (q20, s19)))
        else (
          if x2 = (4 : Int32) then (
            bd (F_X9_walk x1 (1 : Int32) σ) (fun q24 s23 =>
              some (q24, s23)))
          else (
            some ((-1 : Int32), σ))))))
set_option maxHeartbeats 4000000 in
set_option maxRecDepth 100000 in
theorem p_X9_answer_21 {G : zG} {C : zC} {r : Int32} {τ : zSt} (hR : zR G C (some .int) (some (.int r)) τ) (x1 : Int32) (x2 : Int32) (σ : zSt) (h : F_X9_answer_21 x1 x2 σ = some (r, τ)) : zAW G 5 RX9 cX9_answer 3 C 21 [(0, .ref (zad G 67)), (1, .int x1), (2, .int x2)] [] σ := by
  unfold F_X9_answer_21 at h
  refine z_iload e_X9_answer_21 2 rfl ?_
  by_cases c6 : x2 = (0 : Int32)
  · rw [if_pos c6] at h
    refine z_tin (tgt := 56) e_X9_answer_22 (0 : Int32) c6 (34) (by decide +kernel) ?_
    refine z_aload e_X9_answer_56 0 rfl ?_
    obtain ⟨q8, s7, e9, h⟩ := bd_e h
    refine z_callVi (c0 := 67) (As := []) (rest := []) lk_X9_33 ob_67 e_X9_answer_57 (m_X9_howMany G σ _ _ e9) (by decide) rfl (Nat.le_of_ble_eq_true rfl) ?_
    cases h
    exact z_ireturn hR e_X9_answer_60
  · rw [if_neg c6] at h
    by_cases c10 : x2 = (1 : Int32)
    · rw [if_pos c10] at h
      refine z_tin (tgt := 61) e_X9_answer_22 (1 : Int32) c10 (39) (by decide +kernel) ?_
      refine z_aload e_X9_answer_61 0 rfl ?_
      obtain ⟨q12, s11, e13, h⟩ := bd_e h
      refine z_callVi (c0 := 67) (As := []) (rest := []) lk_X9_37 ob_67 e_X9_answer_62 (m_X9_inRings G σ _ _ e13) (by decide) rfl (Nat.le_of_ble_eq_true rfl) ?_
      cases h
      exact z_ireturn hR e_X9_answer_65
    · rw [if_neg c10] at h
      by_cases c14 : x2 = (2 : Int32)
      · rw [if_pos c14] at h
        refine z_tin (tgt := 66) e_X9_answer_22 (2 : Int32) c14 (44) (by decide +kernel) ?_
        refine z_aload e_X9_answer_66 0 rfl ?_
        obtain ⟨q16, s15, e17, h⟩ := bd_e h
        refine z_callVi (c0 := 67) (As := []) (rest := []) lk_X9_40 ob_67 e_X9_answer_67 (m_X9_longest G σ _ _ e17) (by decide) rfl (Nat.le_of_ble_eq_true rfl) ?_
        cases h
        exact z_ireturn hR e_X9_answer_70
      · rw [if_neg c14] at h
        by_cases c18 : x2 = (3 : Int32)
        · rw [if_pos c18] at h
          refine z_tin (tgt := 71) e_X9_answer_22 (3 : Int32) c18 (49) (by decide +kernel) ?_
          refine z_aload e_X9_answer_71 0 rfl ?_
          refine z_iload e_X9_answer_72 1 rfl ?_
          refine z_ic e_X9_answer_73 ?_
          obtain ⟨q20, s19, e21, h⟩ := bd_e h
          refine z_callVi (c0 := 67) (As := [.int x1, .int (0 : Int32)]) (rest := []) lk_X9_43 ob_67 e_X9_answer_74 (m_X9_walk G x1 (0 : Int32) σ _ _ e21) (by decide) rfl (Nat.le_of_ble_eq_true rfl) ?_
          cases h
          exact z_ireturn hR e_X9_answer_77
        · rw [if_neg c18] at h
          by_cases c22 : x2 = (4 : Int32)
          · rw [if_pos c22] at h
            refine z_tin (tgt := 78) e_X9_answer_22 (4 : Int32) c22 (56) (by decide +kernel) ?_
            refine z_aload e_X9_answer_78 0 rfl ?_
            refine z_iload e_X9_answer_79 1 rfl ?_
            refine z_ic e_X9_answer_80 ?_
            obtain ⟨q24, s23, e25, h⟩ := bd_e h
            refine z_callVi (c0 := 67) (As := [.int x1, .int (1 : Int32)]) (rest := []) lk_X9_43 ob_67 e_X9_answer_81 (m_X9_walk G x1 (1 : Int32) σ _ _ e25) (by decide) rfl (Nat.le_of_ble_eq_true rfl) ?_
            cases h
            exact z_ireturn hR e_X9_answer_84
          · rw [if_neg c22] at h
            refine z_tout (tgt := 85) e_X9_answer_22 (by
              have := lv_neT c6 (show (0 : Int32).toInt = 0 by decide)
              have := lv_neT c10 (show (1 : Int32).toInt = 1 by decide)
              have := lv_neT c14 (show (2 : Int32).toInt = 2 by decide)
              have := lv_neT c18 (show (3 : Int32).toInt = 3 by decide)
              have := lv_neT c22 (show (4 : Int32).toInt = 4 by decide)
              omega) (by decide) ?_
            refine z_ic e_X9_answer_85 ?_
            cases h
            exact z_ireturn hR e_X9_answer_86
noncomputable def F_X9_answer_10 (x1 : Int32) (x2 : Int32) (σ : zSt) : Option (Int32 × zSt) :=
  bd (F_X11_isBelow x1 (12 : Int32) σ) (fun q3 s2 =>
    if q3 = 0 then (
      some ((-1 : Int32), s2))
    else (
      F_X9_answer_21 x1 x2 s2))
set_option maxHeartbeats 4000000 in
set_option maxRecDepth 100000 in
theorem p_X9_answer_10 {G : zG} {C : zC} {r : Int32} {τ : zSt} (hR : zR G C (some .int) (some (.int r)) τ) (x1 : Int32) (x2 : Int32) (σ : zSt) (h : F_X9_answer_10 x1 x2 σ = some (r, τ)) : zAW G 5 RX9 cX9_answer 3 C 10 [(0, .ref (zad G 67)), (1, .int x1), (2, .int x2)] [] σ := by
  unfold F_X9_answer_10 at h
  refine z_iload e_X9_answer_10 1 rfl ?_
  refine z_ic e_X9_answer_11 ?_
  obtain ⟨q3, s2, e4, h⟩ := bd_e h
  refine z_callNi (As := [.int x1, .int (12 : Int32)]) (rest := []) lk_X9_15 e_X9_answer_13 (m_X11_isBelow G x1 (12 : Int32) σ _ _ e4) (by decide) rfl (Nat.le_of_ble_eq_true rfl) ?_
  refine z_if_ne e_X9_answer_16 h (fun c5 h => ?_) (fun c5 h => ?_)
  · refine z_ic e_X9_answer_19 ?_
    cases h
    exact z_ireturn hR e_X9_answer_20
  · exact z_sub [0, 1, 2] rfl (p_X9_answer_21 hR x1 x2 s2 h)
noncomputable def F_X9_answer_0 (x1 : Int32) (x2 : Int32) (σ : zSt) : Option (Int32 × zSt) :=
  if x2 = (3 : Int32) then (
    F_X9_answer_10 x1 x2 σ)
  else (
    if x2 = (4 : Int32) then (
      F_X9_answer_10 x1 x2 σ)
    else (
      F_X9_answer_21 x1 x2 σ))
set_option maxHeartbeats 4000000 in
set_option maxRecDepth 100000 in
theorem p_X9_answer_0 {G : zG} {C : zC} {r : Int32} {τ : zSt} (hR : zR G C (some .int) (some (.int r)) τ) (x1 : Int32) (x2 : Int32) (σ : zSt) (h : F_X9_answer_0 x1 x2 σ = some (r, τ)) : zAW G 5 RX9 cX9_answer 3 C 0 [(0, .ref (zad G 67)), (1, .int x1), (2, .int x2)] [] σ := by
  unfold F_X9_answer_0 at h
  refine z_iload e_X9_answer_0 2 rfl ?_
  refine z_ic e_X9_answer_1 ?_
  refine z_icmp_eq e_X9_answer_2 h (fun c1 h => ?_) (fun c1 h => ?_)
  · exact z_sub [0, 1, 2] rfl (p_X9_answer_10 hR x1 x2 σ h)
  · refine z_iload e_X9_answer_5 2 rfl ?_
    refine z_ic e_X9_answer_6 ?_
    refine z_icmp_ne e_X9_answer_7 h (fun c26 h => ?_) (fun c26 h => ?_)
    · exact z_sub [0, 1, 2] rfl (p_X9_answer_10 hR x1 x2 σ h)
    · exact z_sub [0, 1, 2] rfl (p_X9_answer_21 hR x1 x2 σ h)
noncomputable def F_X9_answer (x1 : Int32) (x2 : Int32) (σ : zSt) : Option (Int32 × zSt) := F_X9_answer_0 x1 x2 σ
set_option maxRecDepth 100000 in
theorem m_X9_answer (G : zG) (x1 : Int32) (x2 : Int32) (σ : zSt) (q : Int32) (τ : zSt) (h : F_X9_answer x1 x2 σ = some (q, τ)) : zM G 5 yX9_answer cX9_answer 3 (some .int) [.ref (zad G 67), .int x1, .int x2] σ (some (.int q)) τ := by
  unfold F_X9_answer at h
  refine zM.of (own := RX9) (by decide +kernel) rfl (Nat.le_of_ble_eq_true rfl) (fun C hR => ?_)
  exact z_sub [0, 1, 2] rfl (p_X9_answer_0 hR x1 x2 σ h)
noncomputable def F_X11_rings_0 (x1 : Int32) (x2 : Int32) (σ : zSt) : Option (Int32 × zSt) :=
  bd (F_X9_answer x1 x2 σ) (fun q2 s1 =>
    some (q2, s1))
set_option maxHeartbeats 4000000 in
set_option maxRecDepth 100000 in
theorem p_X11_rings_0 {G : zG} {C : zC} {r : Int32} {τ : zSt} (hR : zR G C (some .int) (some (.int r)) τ) (x1 : Int32) (x2 : Int32) (σ : zSt) (h : F_X11_rings_0 x1 x2 σ = some (r, τ)) : zAW G 6 RX11 cX11_rings 3 C 0 [(0, .ref (zad G 0)), (1, .int x1), (2, .int x2)] [] σ := by
  unfold F_X11_rings_0 at h
  refine z_aload e_X11_rings_0 0 rfl ?_
  refine z_getr gf_X11_100_0 e_X11_rings_1 ?_
  refine z_iload e_X11_rings_4 1 rfl ?_
  refine z_iload e_X11_rings_5 2 rfl ?_
  obtain ⟨q2, s1, e3, h⟩ := bd_e h
  refine z_callVi (c0 := 67) (As := [.int x1, .int x2]) (rest := []) lk_X11_264 ob_67 e_X11_rings_6 (m_X9_answer G x1 x2 σ _ _ e3) (by decide) rfl (Nat.le_of_ble_eq_true rfl) ?_
  cases h
  exact z_ireturn hR e_X11_rings_9
noncomputable def F_X11_rings (x1 : Int32) (x2 : Int32) (σ : zSt) : Option (Int32 × zSt) := F_X11_rings_0 x1 x2 σ
set_option maxRecDepth 100000 in
theorem m_X11_rings (G : zG) (x1 : Int32) (x2 : Int32) (σ : zSt) (q : Int32) (τ : zSt) (h : F_X11_rings x1 x2 σ = some (q, τ)) : zM G 6 yX11_rings cX11_rings 3 (some .int) [.ref (zad G 0), .int x1, .int x2] σ (some (.int q)) τ := by
  unfold F_X11_rings at h
  refine zM.of (own := RX11) (by decide +kernel) rfl (Nat.le_of_ble_eq_true rfl) (fun C hR => ?_)
  exact z_sub [0, 1, 2] rfl (p_X11_rings_0 hR x1 x2 σ h)
noncomputable def F_X12_ringOf_9 (x1 : Int32) (w9 : (Int32 × Int32 × zSt) → Option (Int32 × zSt)) (x2 : Int32) (x3 : Int32) (σ : zSt) : Option (Int32 × zSt) :=
  if (12 : Int32) < x3 then (
    some ((0 : Int32), σ))
  else (
    if x2 = (-1 : Int32) then (
      some ((0 : Int32), σ))
    else (
      if x2 = x1 then (
        some (x3, σ))
      else (
        gd (vp_in x2 12) (
          nm (σ.1 104 x2.toNatClampNeg) (fun v5 =>
            nm (x3 + (1 : Int32)) (fun v6 =>
              w9 (v5, v6, σ)))))))
set_option maxHeartbeats 4000000 in
set_option maxRecDepth 100000 in
theorem b_X12_ringOf_9 {G : zG} {C : zC} {r : Int32} {τ : zSt} (hR : zR G C (some .int) (some (.int r)) τ) (x1 : Int32) (w9 : (Int32 × Int32 × zSt) → Option (Int32 × zSt)) (hw9 : ∀ (x2 : Int32) (x3 : Int32) (σ : zSt), w9 (x2, x3, σ) = some (r, τ) → zAW G 1 RX12 cX12_ringOf 4 C 9 [(0, .ref (zad G 69)), (1, .int x1), (2, .int x2), (3, .int x3)] [] σ) (x2 : Int32) (x3 : Int32) (σ : zSt) (h : F_X12_ringOf_9 x1 w9 x2 x3 σ = some (r, τ)) : zAW G 1 RX12 cX12_ringOf 4 C 9 [(0, .ref (zad G 69)), (1, .int x1), (2, .int x2), (3, .int x3)] [] σ := by
  unfold F_X12_ringOf_9 at h
  refine z_iload e_X12_ringOf_9 3 rfl ?_
  refine z_ic e_X12_ringOf_10 ?_
  refine z_icmp_gt e_X12_ringOf_12 h (fun c2 h => ?_) (fun c2 h => ?_)
  · refine z_ic e_X12_ringOf_40 ?_
    cases h
    exact z_ireturn hR e_X12_ringOf_41
  · refine z_iload e_X12_ringOf_15 2 rfl ?_
    refine z_ic e_X12_ringOf_16 ?_
    refine z_icmp_eq e_X12_ringOf_17 h (fun c3 h => ?_) (fun c3 h => ?_)
    · refine z_ic e_X12_ringOf_40 ?_
      cases h
      exact z_ireturn hR e_X12_ringOf_41
    · refine z_iload e_X12_ringOf_20 2 rfl ?_
      refine z_iload e_X12_ringOf_21 1 rfl ?_
      refine z_icmp_ne e_X12_ringOf_22 h (fun c4 h => ?_) (fun c4 h => ?_)
      · refine z_iload e_X12_ringOf_25 3 rfl ?_
        cases h
        exact z_ireturn hR e_X12_ringOf_26
      · refine z_aload e_X12_ringOf_27 0 rfl ?_
        refine z_getr gf_X12_114_69 e_X12_ringOf_28 ?_
        refine z_iload e_X12_ringOf_31 2 rfl ?_
        refine z_iald sh_104 e_X12_ringOf_32 h (fun h => ?_)
        refine z_nmI h (fun v5 h => ?_)
        refine z_istore e_X12_ringOf_33 (by decide) [(2, .int v5), (0, .ref (zad G 69)), (1, .int x1), (3, .int x3)] rfl ?_
        refine z_iinc e_X12_ringOf_34 3 rfl (by decide) (by decide) h (fun y => [(3, .int y), (2, .int v5), (0, .ref (zad G 69)), (1, .int x1)]) (fun _ => rfl) (fun v6 h => ?_)
        refine z_goto e_X12_ringOf_37 ?_
        exact z_sub [2, 3, 1, 0] rfl (hw9 v5 v6 σ h)
noncomputable def F_X12_ringOf_9L (x1 : Int32) : ((Int32 × Int32 × zSt) → Option (Int32 × zSt)) → (Int32 × Int32 × zSt) → Option (Int32 × zSt) := fun w s => F_X12_ringOf_9 x1 w s.1 s.2.1 s.2.2
set_option maxRecDepth 100000 in
theorem l_X12_ringOf_9 {G : zG} {C : zC} {r : Int32} {τ : zSt} (hR : zR G C (some .int) (some (.int r)) τ) (x1 : Int32) : ∀ (N : Nat) (x2 : Int32) (x3 : Int32) (σ : zSt), zfix (F_X12_ringOf_9L x1) N (x2, x3, σ) = some (r, τ) → zAW G 1 RX12 cX12_ringOf 4 C 9 [(0, .ref (zad G 69)), (1, .int x1), (2, .int x2), (3, .int x3)] [] σ := by
  intro N
  induction N with
  | zero =>
    intro x2 x3 σ h
    exact nomatch (show (none : Option (Int32 × zSt)) = some (r, τ) from h)
  | succ N ih =>
    intro x2 x3 σ h
    exact b_X12_ringOf_9 hR x1 (zfix (F_X12_ringOf_9L x1) N) ih x2 x3 σ h
noncomputable def F_X12_ringOf_0 (x1 : Int32) (σ : zSt) : Option (Int32 × zSt) :=
  gd (vp_in x1 12) (
    nm (σ.1 104 x1.toNatClampNeg) (fun v1 =>
      zfix (F_X12_ringOf_9L x1) zlim (v1, (1 : Int32), σ)))
set_option maxHeartbeats 4000000 in
set_option maxRecDepth 100000 in
theorem p_X12_ringOf_0 {G : zG} {C : zC} {r : Int32} {τ : zSt} (hR : zR G C (some .int) (some (.int r)) τ) (x1 : Int32) (σ : zSt) (h : F_X12_ringOf_0 x1 σ = some (r, τ)) : zAW G 1 RX12 cX12_ringOf 4 C 0 [(0, .ref (zad G 69)), (1, .int x1)] [] σ := by
  unfold F_X12_ringOf_0 at h
  refine z_aload e_X12_ringOf_0 0 rfl ?_
  refine z_getr gf_X12_114_69 e_X12_ringOf_1 ?_
  refine z_iload e_X12_ringOf_4 1 rfl ?_
  refine z_iald sh_104 e_X12_ringOf_5 h (fun h => ?_)
  refine z_nmI h (fun v1 h => ?_)
  refine z_istore e_X12_ringOf_6 (by decide) [(2, .int v1), (0, .ref (zad G 69)), (1, .int x1)] rfl ?_
  refine z_ic e_X12_ringOf_7 ?_
  refine z_istore e_X12_ringOf_8 (by decide) [(3, .int (1 : Int32)), (2, .int v1), (0, .ref (zad G 69)), (1, .int x1)] rfl ?_
  exact z_sub [2, 3, 1, 0] rfl (l_X12_ringOf_9 hR x1 zlim v1 (1 : Int32) σ h)
noncomputable def F_X12_ringOf (x1 : Int32) (σ : zSt) : Option (Int32 × zSt) := F_X12_ringOf_0 x1 σ
set_option maxRecDepth 100000 in
theorem m_X12_ringOf (G : zG) (x1 : Int32) (σ : zSt) (q : Int32) (τ : zSt) (h : F_X12_ringOf x1 σ = some (q, τ)) : zM G 1 yX12_ringOf cX12_ringOf 4 (some .int) [.ref (zad G 69), .int x1] σ (some (.int q)) τ := by
  unfold F_X12_ringOf at h
  refine zM.of (own := RX12) (by decide +kernel) rfl (Nat.le_of_ble_eq_true rfl) (fun C hR => ?_)
  exact z_sub [0, 1] rfl (p_X12_ringOf_0 hR x1 σ h)
noncomputable def F_X12_max_0 (x0 : Int32) (x1 : Int32) (σ : zSt) : Option (Int32 × zSt) :=
  if x0 ≤ x1 then (
    some (x1, σ))
  else (
    some (x0, σ))
set_option maxHeartbeats 4000000 in
set_option maxRecDepth 100000 in
theorem p_X12_max_0 {G : zG} {C : zC} {r : Int32} {τ : zSt} (hR : zR G C (some .int) (some (.int r)) τ) (x0 : Int32) (x1 : Int32) (σ : zSt) (h : F_X12_max_0 x0 x1 σ = some (r, τ)) : zAW G 1 RX12 cX12_max 2 C 0 [(0, .int x0), (1, .int x1)] [] σ := by
  unfold F_X12_max_0 at h
  refine z_iload e_X12_max_0 0 rfl ?_
  refine z_iload e_X12_max_1 1 rfl ?_
  refine z_icmp_le e_X12_max_2 h (fun c1 h => ?_) (fun c1 h => ?_)
  · refine z_iload e_X12_max_9 1 rfl ?_
    cases h
    exact z_ireturn hR e_X12_max_10
  · refine z_iload e_X12_max_5 0 rfl ?_
    refine z_goto e_X12_max_6 ?_
    cases h
    exact z_ireturn hR e_X12_max_10
noncomputable def F_X12_max (x0 : Int32) (x1 : Int32) (σ : zSt) : Option (Int32 × zSt) := F_X12_max_0 x0 x1 σ
set_option maxRecDepth 100000 in
theorem m_X12_max (G : zG) (x0 : Int32) (x1 : Int32) (σ : zSt) (q : Int32) (τ : zSt) (h : F_X12_max x0 x1 σ = some (q, τ)) : zM G 1 yX12_max cX12_max 2 (some .int) [.int x0, .int x1] σ (some (.int q)) τ := by
  unfold F_X12_max at h
  refine zM.of (own := RX12) (by decide +kernel) rfl (Nat.le_of_ble_eq_true rfl) (fun C hR => ?_)
  exact z_sub [0, 1] rfl (p_X12_max_0 hR x0 x1 σ h)
noncomputable def F_X12_isLowest_7 (x1 : Int32) (w7 : (Int32 × zSt) → Option (Int32 × zSt)) (x2 : Int32) (σ : zSt) : Option (Int32 × zSt) :=
  if x2 = x1 then (
    some ((1 : Int32), σ))
  else (
    if x1 ≤ x2 then (
      gd (vp_in x2 12) (
        nm (σ.1 104 x2.toNatClampNeg) (fun v4 =>
          w7 (v4, σ))))
    else (
      some ((0 : Int32), σ)))
set_option maxHeartbeats 4000000 in
set_option maxRecDepth 100000 in
theorem b_X12_isLowest_7 {G : zG} {C : zC} {r : Int32} {τ : zSt} (hR : zR G C (some .boolean) (some (.int r)) τ) (x1 : Int32) (w7 : (Int32 × zSt) → Option (Int32 × zSt)) (hw7 : ∀ (x2 : Int32) (σ : zSt), w7 (x2, σ) = some (r, τ) → zAW G 1 RX12 cX12_isLowest 3 C 7 [(0, .ref (zad G 69)), (1, .int x1), (2, .int x2)] [] σ) (x2 : Int32) (σ : zSt) (h : F_X12_isLowest_7 x1 w7 x2 σ = some (r, τ)) : zAW G 1 RX12 cX12_isLowest 3 C 7 [(0, .ref (zad G 69)), (1, .int x1), (2, .int x2)] [] σ := by
  unfold F_X12_isLowest_7 at h
  refine z_iload e_X12_isLowest_7 2 rfl ?_
  refine z_iload e_X12_isLowest_8 1 rfl ?_
  refine z_icmp_eq e_X12_isLowest_9 h (fun c2 h => ?_) (fun c2 h => ?_)
  · refine z_ic e_X12_isLowest_29 ?_
    cases h
    exact z_zreturn hR e_X12_isLowest_30 (Or.inr rfl)
  · refine z_iload e_X12_isLowest_12 2 rfl ?_
    refine z_iload e_X12_isLowest_13 1 rfl ?_
    refine z_icmp_ge e_X12_isLowest_14 h (fun c3 h => ?_) (fun c3 h => ?_)
    · refine z_aload e_X12_isLowest_19 0 rfl ?_
      refine z_getr gf_X12_114_69 e_X12_isLowest_20 ?_
      refine z_iload e_X12_isLowest_23 2 rfl ?_
      refine z_iald sh_104 e_X12_isLowest_24 h (fun h => ?_)
      refine z_nmI h (fun v4 h => ?_)
      refine z_istore e_X12_isLowest_25 (by decide) [(2, .int v4), (0, .ref (zad G 69)), (1, .int x1)] rfl ?_
      refine z_goto e_X12_isLowest_26 ?_
      exact z_sub [1, 2, 0] rfl (hw7 v4 σ h)
    · refine z_ic e_X12_isLowest_17 ?_
      cases h
      exact z_zreturn hR e_X12_isLowest_18 (Or.inl rfl)
noncomputable def F_X12_isLowest_7L (x1 : Int32) : ((Int32 × zSt) → Option (Int32 × zSt)) → (Int32 × zSt) → Option (Int32 × zSt) := fun w s => F_X12_isLowest_7 x1 w s.1 s.2
set_option maxRecDepth 100000 in
theorem l_X12_isLowest_7 {G : zG} {C : zC} {r : Int32} {τ : zSt} (hR : zR G C (some .boolean) (some (.int r)) τ) (x1 : Int32) : ∀ (N : Nat) (x2 : Int32) (σ : zSt), zfix (F_X12_isLowest_7L x1) N (x2, σ) = some (r, τ) → zAW G 1 RX12 cX12_isLowest 3 C 7 [(0, .ref (zad G 69)), (1, .int x1), (2, .int x2)] [] σ := by
  intro N
  induction N with
  | zero =>
    intro x2 σ h
    exact nomatch (show (none : Option (Int32 × zSt)) = some (r, τ) from h)
  | succ N ih =>
    intro x2 σ h
    exact b_X12_isLowest_7 hR x1 (zfix (F_X12_isLowest_7L x1) N) ih x2 σ h
noncomputable def F_X12_isLowest_0 (x1 : Int32) (σ : zSt) : Option (Int32 × zSt) :=
  gd (vp_in x1 12) (
    nm (σ.1 104 x1.toNatClampNeg) (fun v1 =>
      zfix (F_X12_isLowest_7L x1) zlim (v1, σ)))
set_option maxHeartbeats 4000000 in
set_option maxRecDepth 100000 in
theorem p_X12_isLowest_0 {G : zG} {C : zC} {r : Int32} {τ : zSt} (hR : zR G C (some .boolean) (some (.int r)) τ) (x1 : Int32) (σ : zSt) (h : F_X12_isLowest_0 x1 σ = some (r, τ)) : zAW G 1 RX12 cX12_isLowest 3 C 0 [(0, .ref (zad G 69)), (1, .int x1)] [] σ := by
  unfold F_X12_isLowest_0 at h
  refine z_aload e_X12_isLowest_0 0 rfl ?_
  refine z_getr gf_X12_114_69 e_X12_isLowest_1 ?_
  refine z_iload e_X12_isLowest_4 1 rfl ?_
  refine z_iald sh_104 e_X12_isLowest_5 h (fun h => ?_)
  refine z_nmI h (fun v1 h => ?_)
  refine z_istore e_X12_isLowest_6 (by decide) [(2, .int v1), (0, .ref (zad G 69)), (1, .int x1)] rfl ?_
  exact z_sub [1, 2, 0] rfl (l_X12_isLowest_7 hR x1 zlim v1 σ h)
noncomputable def F_X12_isLowest (x1 : Int32) (σ : zSt) : Option (Int32 × zSt) := F_X12_isLowest_0 x1 σ
set_option maxRecDepth 100000 in
theorem m_X12_isLowest (G : zG) (x1 : Int32) (σ : zSt) (q : Int32) (τ : zSt) (h : F_X12_isLowest x1 σ = some (q, τ)) : zM G 1 yX12_isLowest cX12_isLowest 3 (some .boolean) [.ref (zad G 69), .int x1] σ (some (.int q)) τ := by
  unfold F_X12_isLowest at h
  refine zM.of (own := RX12) (by decide +kernel) rfl (Nat.le_of_ble_eq_true rfl) (fun C hR => ?_)
  exact z_sub [0, 1] rfl (p_X12_isLowest_0 hR x1 σ h)
noncomputable def F_X12_rings_166 (x2 : Int32) (x3 : Int32) (x4 : Int32) (x5 : Int32) (σ : zSt) : Option (Int32 × zSt) :=
  if x2 = 0 then (
    some (x3, σ))
  else (
    if x2 = (1 : Int32) then (
      some (x4, σ))
    else (
      some (x5, σ)))
set_option maxHeartbeats 4000000 in
set_option maxRecDepth 100000 in
theorem p_X12_rings_166 {G : zG} {C : zC} {r : Int32} {τ : zSt} (hR : zR G C (some .int) (some (.int r)) τ) (x2 : Int32) (x3 : Int32) (x4 : Int32) (x5 : Int32) (σ : zSt) (h : F_X12_rings_166 x2 x3 x4 x5 σ = some (r, τ)) : zAW G 2 RX12 cX12_rings 7 C 166 [(2, .int x2), (3, .int x3), (4, .int x4), (5, .int x5)] [] σ := by
  unfold F_X12_rings_166 at h
  refine z_iload e_X12_rings_166 0 rfl ?_
  refine z_if_ne e_X12_rings_167 h (fun c8 h => ?_) (fun c8 h => ?_)
  · refine z_iload e_X12_rings_170 1 rfl ?_
    refine z_goto e_X12_rings_171 ?_
    cases h
    exact z_ireturn hR e_X12_rings_186
  · refine z_iload e_X12_rings_174 0 rfl ?_
    refine z_ic e_X12_rings_175 ?_
    refine z_icmp_ne e_X12_rings_176 h (fun c9 h => ?_) (fun c9 h => ?_)
    · refine z_iload e_X12_rings_179 2 rfl ?_
      refine z_goto e_X12_rings_181 ?_
      cases h
      exact z_ireturn hR e_X12_rings_186
    · refine z_iload e_X12_rings_184 3 rfl ?_
      cases h
      exact z_ireturn hR e_X12_rings_186
noncomputable def F_X12_rings_160 (w105 : (Int32 × Int32 × Int32 × Int32 × zSt) → Option (Int32 × zSt)) (x2 : Int32) (x3 : Int32) (x4 : Int32) (x5 : Int32) (x6 : Int32) (σ : zSt) : Option (Int32 × zSt) :=
  nm (x6 + (1 : Int32)) (fun v14 =>
    w105 (x3, x4, x5, v14, σ))
set_option maxHeartbeats 4000000 in
set_option maxRecDepth 100000 in
theorem p_X12_rings_160 {G : zG} {C : zC} {r : Int32} {τ : zSt} (hR : zR G C (some .int) (some (.int r)) τ) (w105 : (Int32 × Int32 × Int32 × Int32 × zSt) → Option (Int32 × zSt)) (x2 : Int32) (x3 : Int32) (x4 : Int32) (x5 : Int32) (x6 : Int32) (hw105 : ∀ (x3 : Int32) (x4 : Int32) (x5 : Int32) (x6 : Int32) (σ : zSt), w105 (x3, x4, x5, x6, σ) = some (r, τ) → zAW G 2 RX12 cX12_rings 7 C 105 [(0, .ref (zad G 69)), (2, .int x2), (3, .int x3), (4, .int x4), (5, .int x5), (6, .int x6)] [] σ) (σ : zSt) (h : F_X12_rings_160 w105 x2 x3 x4 x5 x6 σ = some (r, τ)) : zAW G 2 RX12 cX12_rings 7 C 160 [(0, .ref (zad G 69)), (2, .int x2), (3, .int x3), (4, .int x4), (5, .int x5), (6, .int x6)] [] σ := by
  unfold F_X12_rings_160 at h
  refine z_iinc e_X12_rings_160 5 rfl (by decide) (by decide) h (fun y => [(6, .int y), (0, .ref (zad G 69)), (2, .int x2), (3, .int x3), (4, .int x4), (5, .int x5)]) (fun _ => rfl) (fun v14 h => ?_)
  refine z_goto e_X12_rings_163 ?_
  exact z_sub [1, 2, 3, 4, 5, 0] rfl (hw105 x3 x4 x5 v14 σ h)
noncomputable def F_X12_rings_105 (x2 : Int32) (w105 : (Int32 × Int32 × Int32 × Int32 × zSt) → Option (Int32 × zSt)) (x3 : Int32) (x4 : Int32) (x5 : Int32) (x6 : Int32) (σ : zSt) : Option (Int32 × zSt) :=
  if (12 : Int32) ≤ x6 then (
    F_X12_rings_166 x2 x3 x4 x5 σ)
  else (
    bd (F_X12_ringOf x6 σ) (fun q11 s10 =>
      if q11 = 0 then (
        F_X12_rings_160 w105 x2 x3 x4 x5 x6 s10)
      else (
        nm (x4 + (1 : Int32)) (fun v15 =>
          bd (F_X12_ringOf x6 s10) (fun q17 s16 =>
            bd (F_X12_max x5 q17 s16) (fun q20 s19 =>
              bd (F_X12_isLowest x6 s19) (fun q23 s22 =>
                nm (if q23 = 0 then (0 : Int32) else (1 : Int32)) (fun v25 =>
                  nm (x3 + v25) (fun v26 =>
                    F_X12_rings_160 w105 x2 v26 v15 q20 x6 s22)))))))))
set_option maxHeartbeats 4000000 in
set_option maxRecDepth 100000 in
theorem b_X12_rings_105 {G : zG} {C : zC} {r : Int32} {τ : zSt} (hR : zR G C (some .int) (some (.int r)) τ) (x2 : Int32) (w105 : (Int32 × Int32 × Int32 × Int32 × zSt) → Option (Int32 × zSt)) (hw105 : ∀ (x3 : Int32) (x4 : Int32) (x5 : Int32) (x6 : Int32) (σ : zSt), w105 (x3, x4, x5, x6, σ) = some (r, τ) → zAW G 2 RX12 cX12_rings 7 C 105 [(0, .ref (zad G 69)), (2, .int x2), (3, .int x3), (4, .int x4), (5, .int x5), (6, .int x6)] [] σ) (x3 : Int32) (x4 : Int32) (x5 : Int32) (x6 : Int32) (σ : zSt) (h : F_X12_rings_105 x2 w105 x3 x4 x5 x6 σ = some (r, τ)) : zAW G 2 RX12 cX12_rings 7 C 105 [(0, .ref (zad G 69)), (2, .int x2), (3, .int x3), (4, .int x4), (5, .int x5), (6, .int x6)] [] σ := by
  unfold F_X12_rings_105 at h
  refine z_iload e_X12_rings_105 5 rfl ?_
  refine z_ic e_X12_rings_107 ?_
  refine z_icmp_ge e_X12_rings_109 h (fun c7 h => ?_) (fun c7 h => ?_)
  · exact z_sub [1, 2, 3, 4] rfl (p_X12_rings_166 hR x2 x3 x4 x5 σ h)
  · refine z_aload e_X12_rings_112 0 rfl ?_
    refine z_iload e_X12_rings_113 5 rfl ?_
    obtain ⟨q11, s10, e12, h⟩ := bd_e h
    refine z_callVi (c0 := 69) (As := [.int x6]) (rest := []) lk_X12_473 ob_69 e_X12_rings_115 (m_X12_ringOf G x6 σ _ _ e12) (by decide) rfl (Nat.le_of_ble_eq_true rfl) ?_
    refine z_if_ne e_X12_rings_118 h (fun c13 h => ?_) (fun c13 h => ?_)
    · refine z_goto e_X12_rings_121 ?_
      exact z_sub [0, 1, 2, 3, 4, 5] rfl (p_X12_rings_160 hR w105 x2 x3 x4 x5 x6 hw105 s10 h)
    · refine z_iload e_X12_rings_124 3 rfl ?_
      refine z_ic e_X12_rings_126 ?_
      refine z_iadd e_X12_rings_127 ?_
      refine z_nmI h (fun v15 h => ?_)
      refine z_istore e_X12_rings_128 (by decide) [(4, .int v15), (0, .ref (zad G 69)), (2, .int x2), (3, .int x3), (5, .int x5), (6, .int x6)] rfl ?_
      refine z_iload e_X12_rings_130 4 rfl ?_
      refine z_aload e_X12_rings_132 1 rfl ?_
      refine z_iload e_X12_rings_133 5 rfl ?_
      obtain ⟨q17, s16, e18, h⟩ := bd_e h
      refine z_callVi (c0 := 69) (As := [.int x6]) (rest := [.int x5]) lk_X12_473 ob_69 e_X12_rings_135 (m_X12_ringOf G x6 s10 _ _ e18) (by decide) rfl (Nat.le_of_ble_eq_true rfl) ?_
      obtain ⟨q20, s19, e21, h⟩ := bd_e h
      refine z_callSi (As := [.int x5, .int q17]) (rest := []) lk_X12_476 e_X12_rings_138 (m_X12_max G x5 q17 s16 _ _ e21) (by decide) rfl (Nat.le_of_ble_eq_true rfl) ?_
      refine z_istore e_X12_rings_141 (by decide) [(5, .int q20), (4, .int v15), (0, .ref (zad G 69)), (2, .int x2), (3, .int x3), (6, .int x6)] rfl ?_
      refine z_iload e_X12_rings_143 4 rfl ?_
      refine z_aload e_X12_rings_144 2 rfl ?_
      refine z_iload e_X12_rings_145 5 rfl ?_
      obtain ⟨q23, s22, e24, h⟩ := bd_e h
      refine z_callVi (c0 := 69) (As := [.int x6]) (rest := [.int x3]) lk_X12_479 ob_69 e_X12_rings_147 (m_X12_isLowest G x6 s19 _ _ e24) (by decide) rfl (Nat.le_of_ble_eq_true rfl) ?_
      obtain ⟨v25, ev25, h⟩ := nm_i h
      have jv25 : zAW G 2 RX12 cX12_rings 7 C 158 [(0, .ref (zad G 69)), (2, .int x2), (4, .int v15), (5, .int q20), (6, .int x6)] [.int v25, .int x3] s22 := by
        refine z_iadd e_X12_rings_158 ?_
        refine z_nmI h (fun v26 h => ?_)
        refine z_istore e_X12_rings_159 (by decide) [(3, .int v26), (0, .ref (zad G 69)), (2, .int x2), (4, .int v15), (5, .int q20), (6, .int x6)] rfl ?_
        exact z_sub [1, 2, 0, 3, 4, 5] rfl (p_X12_rings_160 hR w105 x2 v26 v15 q20 x6 hw105 s22 h)
      refine y_if_eq e_X12_rings_150 (fun c27 => ?_) (fun c27 => ?_)
      · refine z_ic e_X12_rings_157 ?_
        rw [if_pos c27] at ev25
        subst ev25
        exact z_sub [2, 3, 1, 0, 5] rfl jv25
      · refine z_ic e_X12_rings_153 ?_
        refine z_goto e_X12_rings_154 ?_
        rw [if_neg c27] at ev25
        subst ev25
        exact z_sub [2, 3, 1, 0, 5] rfl jv25
noncomputable def F_X12_rings_105L (x2 : Int32) : ((Int32 × Int32 × Int32 × Int32 × zSt) → Option (Int32 × zSt)) → (Int32 × Int32 × Int32 × Int32 × zSt) → Option (Int32 × zSt) := fun w s => F_X12_rings_105 x2 w s.1 s.2.1 s.2.2.1 s.2.2.2.1 s.2.2.2.2
set_option maxRecDepth 100000 in
theorem l_X12_rings_105 {G : zG} {C : zC} {r : Int32} {τ : zSt} (hR : zR G C (some .int) (some (.int r)) τ) (x2 : Int32) : ∀ (N : Nat) (x3 : Int32) (x4 : Int32) (x5 : Int32) (x6 : Int32) (σ : zSt), zfix (F_X12_rings_105L x2) N (x3, x4, x5, x6, σ) = some (r, τ) → zAW G 2 RX12 cX12_rings 7 C 105 [(0, .ref (zad G 69)), (2, .int x2), (3, .int x3), (4, .int x4), (5, .int x5), (6, .int x6)] [] σ := by
  intro N
  induction N with
  | zero =>
    intro x3 x4 x5 x6 σ h
    exact nomatch (show (none : Option (Int32 × zSt)) = some (r, τ) from h)
  | succ N ih =>
    intro x3 x4 x5 x6 σ h
    exact b_X12_rings_105 hR x2 (zfix (F_X12_rings_105L x2) N) ih x3 x4 x5 x6 σ h
noncomputable def F_X12_rings_70 (x2 : Int32) (x3 : Int32) (x4 : Int32) (σ : zSt) : Option (Int32 × zSt) :=
  if x2 = (3 : Int32) then (
    some (x4, σ))
  else (
    bd (F_X12_ringOf x3 σ) (fun q35 s34 =>
      if q35 ≤ 0 then (
        some ((0 : Int32), s34))
      else (
        some ((1 : Int32), s34))))
set_option maxHeartbeats 4000000 in
set_option maxRecDepth 100000 in
theorem p_X12_rings_70 {G : zG} {C : zC} {r : Int32} {τ : zSt} (hR : zR G C (some .int) (some (.int r)) τ) (x2 : Int32) (x3 : Int32) (x4 : Int32) (σ : zSt) (h : F_X12_rings_70 x2 x3 x4 σ = some (r, τ)) : zAW G 2 RX12 cX12_rings 7 C 70 [(0, .ref (zad G 69)), (2, .int x2), (3, .int x3), (4, .int x4)] [] σ := by
  unfold F_X12_rings_70 at h
  refine z_iload e_X12_rings_70 1 rfl ?_
  refine z_ic e_X12_rings_71 ?_
  refine z_icmp_ne e_X12_rings_72 h (fun c33 h => ?_) (fun c33 h => ?_)
  · refine z_iload e_X12_rings_75 3 rfl ?_
    refine z_goto e_X12_rings_77 ?_
    cases h
    exact z_ireturn hR e_X12_rings_93
  · refine z_aload e_X12_rings_80 0 rfl ?_
    refine z_iload e_X12_rings_81 2 rfl ?_
    obtain ⟨q35, s34, e36, h⟩ := bd_e h
    refine z_callVi (c0 := 69) (As := [.int x3]) (rest := []) lk_X12_473 ob_69 e_X12_rings_82 (m_X12_ringOf G x3 σ _ _ e36) (by decide) rfl (Nat.le_of_ble_eq_true rfl) ?_
    refine z_if_le e_X12_rings_85 h (fun c37 h => ?_) (fun c37 h => ?_)
    · refine z_ic e_X12_rings_92 ?_
      cases h
      exact z_ireturn hR e_X12_rings_93
    · refine z_ic e_X12_rings_88 ?_
      refine z_goto e_X12_rings_89 ?_
      cases h
      exact z_ireturn hR e_X12_rings_93
noncomputable def F_X12_rings_36 (x2 : Int32) (w36 : (Int32 × Int32 × zSt) → Option (Int32 × zSt)) (x3 : Int32) (x4 : Int32) (σ : zSt) : Option (Int32 × zSt) :=
  bd (F_X12_ringOf x3 σ) (fun q29 s28 =>
    if q29 = 0 then (
      gd (vp_in x3 12) (
        if (s28.1 104 x3.toNatClampNeg) = (-1 : Int32) then (
          F_X12_rings_70 x2 x3 x4 s28)
        else (
          gd (vp_in x3 12) (
            nm (s28.1 104 x3.toNatClampNeg) (fun v38 =>
              nm (x4 + (1 : Int32)) (fun v39 =>
                w36 (v38, v39, s28)))))))
    else (
      F_X12_rings_70 x2 x3 x4 s28))
set_option maxHeartbeats 4000000 in
set_option maxRecDepth 100000 in
theorem b_X12_rings_36 {G : zG} {C : zC} {r : Int32} {τ : zSt} (hR : zR G C (some .int) (some (.int r)) τ) (x2 : Int32) (w36 : (Int32 × Int32 × zSt) → Option (Int32 × zSt)) (hw36 : ∀ (x3 : Int32) (x4 : Int32) (σ : zSt), w36 (x3, x4, σ) = some (r, τ) → zAW G 2 RX12 cX12_rings 7 C 36 [(0, .ref (zad G 69)), (2, .int x2), (3, .int x3), (4, .int x4)] [] σ) (x3 : Int32) (x4 : Int32) (σ : zSt) (h : F_X12_rings_36 x2 w36 x3 x4 σ = some (r, τ)) : zAW G 2 RX12 cX12_rings 7 C 36 [(0, .ref (zad G 69)), (2, .int x2), (3, .int x3), (4, .int x4)] [] σ := by
  unfold F_X12_rings_36 at h
  refine z_aload e_X12_rings_36 0 rfl ?_
  refine z_iload e_X12_rings_37 2 rfl ?_
  obtain ⟨q29, s28, e30, h⟩ := bd_e h
  refine z_callVi (c0 := 69) (As := [.int x3]) (rest := []) lk_X12_473 ob_69 e_X12_rings_38 (m_X12_ringOf G x3 σ _ _ e30) (by decide) rfl (Nat.le_of_ble_eq_true rfl) ?_
  refine z_if_ne e_X12_rings_41 h (fun c31 h => ?_) (fun c31 h => ?_)
  · refine z_aload e_X12_rings_44 0 rfl ?_
    refine z_getr gf_X12_114_69 e_X12_rings_45 ?_
    refine z_iload e_X12_rings_48 2 rfl ?_
    refine z_iald sh_104 e_X12_rings_49 h (fun h => ?_)
    refine z_ic e_X12_rings_50 ?_
    refine z_icmp_eq e_X12_rings_51 h (fun c32 h => ?_) (fun c32 h => ?_)
    · exact z_sub [0, 1, 2, 3] rfl (p_X12_rings_70 hR x2 x3 x4 s28 h)
    · refine z_aload e_X12_rings_54 0 rfl ?_
      refine z_getr gf_X12_114_69 e_X12_rings_55 ?_
      refine z_iload e_X12_rings_58 2 rfl ?_
      refine z_iald sh_104 e_X12_rings_59 h (fun h => ?_)
      refine z_nmI h (fun v38 h => ?_)
      refine z_istore e_X12_rings_60 (by decide) [(3, .int v38), (0, .ref (zad G 69)), (2, .int x2), (4, .int x4)] rfl ?_
      refine z_iload e_X12_rings_61 3 rfl ?_
      refine z_ic e_X12_rings_63 ?_
      refine z_iadd e_X12_rings_64 ?_
      refine z_nmI h (fun v39 h => ?_)
      refine z_istore e_X12_rings_65 (by decide) [(4, .int v39), (3, .int v38), (0, .ref (zad G 69)), (2, .int x2)] rfl ?_
      refine z_goto e_X12_rings_67 ?_
      exact z_sub [2, 3, 1, 0] rfl (hw36 v38 v39 s28 h)
  · exact z_sub [0, 1, 2, 3] rfl (p_X12_rings_70 hR x2 x3 x4 s28 h)
noncomputable def F_X12_rings_36L (x2 : Int32) : ((Int32 × Int32 × zSt) → Option (Int32 × zSt)) → (Int32 × Int32 × zSt) → Option (Int32 × zSt) := fun w s => F_X12_rings_36 x2 w s.1 s.2.1 s.2.2
set_option maxRecDepth 100000 in
theorem l_X12_rings_36 {G : zG} {C : zC} {r : Int32} {τ : zSt} (hR : zR G C (some .int) (some (.int r)) τ) (x2 : Int32) : ∀ (N : Nat) (x3 : Int32) (x4 : Int32) (σ : zSt), zfix (F_X12_rings_36L x2) N (x3, x4, σ) = some (r, τ) → zAW G 2 RX12 cX12_rings 7 C 36 [(0, .ref (zad G 69)), (2, .int x2), (3, .int x3), (4, .int x4)] [] σ := by
  intro N
  induction N with
  | zero =>
    intro x3 x4 σ h
    exact nomatch (show (none : Option (Int32 × zSt)) = some (r, τ) from h)
  | succ N ih =>
    intro x3 x4 σ h
    exact b_X12_rings_36 hR x2 (zfix (F_X12_rings_36L x2) N) ih x3 x4 σ h
noncomputable def F_X12_rings_26 (x1 : Int32) (x2 : Int32) (σ : zSt) : Option (Int32 × zSt) :=
  if x2 ≤ (2 : Int32) then (
    zfix (F_X12_rings_105L x2) zlim ((0 : Int32), (0 : Int32), (0 : Int32), (0 : Int32), σ))
  else (
    zfix (F_X12_rings_36L x2) zlim (x1, (0 : Int32), σ))
set_option maxHeartbeats 4000000 in
set_option maxRecDepth 100000 in
theorem p_X12_rings_26 {G : zG} {C : zC} {r : Int32} {τ : zSt} (hR : zR G C (some .int) (some (.int r)) τ) (x1 : Int32) (x2 : Int32) (σ : zSt) (h : F_X12_rings_26 x1 x2 σ = some (r, τ)) : zAW G 2 RX12 cX12_rings 7 C 26 [(0, .ref (zad G 69)), (1, .int x1), (2, .int x2)] [] σ := by
  unfold F_X12_rings_26 at h
  refine z_iload e_X12_rings_26 2 rfl ?_
  refine z_ic e_X12_rings_27 ?_
  refine z_icmp_le e_X12_rings_28 h (fun c6 h => ?_) (fun c6 h => ?_)
  · refine z_ic e_X12_rings_94 ?_
    refine z_istore e_X12_rings_95 (by decide) [(3, .int (0 : Int32)), (0, .ref (zad G 69)), (1, .int x1), (2, .int x2)] rfl ?_
    refine z_ic e_X12_rings_96 ?_
    refine z_istore e_X12_rings_97 (by decide) [(4, .int (0 : Int32)), (3, .int (0 : Int32)), (0, .ref (zad G 69)), (1, .int x1), (2, .int x2)] rfl ?_
    refine z_ic e_X12_rings_99 ?_
    refine z_istore e_X12_rings_100 (by decide) [(5, .int (0 : Int32)), (4, .int (0 : Int32)), (3, .int (0 : Int32)), (0, .ref (zad G 69)), (1, .int x1), (2, .int x2)] rfl ?_
    refine z_ic e_X12_rings_102 ?_
    refine z_istore e_X12_rings_103 (by decide) [(6, .int (0 : Int32)), (5, .int (0 : Int32)), (4, .int (0 : Int32)), (3, .int (0 : Int32)), (0, .ref (zad G 69)), (1, .int x1), (2, .int x2)] rfl ?_
    exact z_sub [4, 6, 3, 2, 1, 0] rfl (l_X12_rings_105 hR x2 zlim (0 : Int32) (0 : Int32) (0 : Int32) (0 : Int32) σ h)
  · refine z_iload e_X12_rings_31 1 rfl ?_
    refine z_istore e_X12_rings_32 (by decide) [(3, .int x1), (0, .ref (zad G 69)), (1, .int x1), (2, .int x2)] rfl ?_
    refine z_ic e_X12_rings_33 ?_
    refine z_istore e_X12_rings_34 (by decide) [(4, .int (0 : Int32)), (3, .int x1), (0, .ref (zad G 69)), (1, .int x1), (2, .int x2)] rfl ?_
    exact z_sub [2, 4, 1, 0] rfl (l_X12_rings_36 hR x2 zlim x1 (0 : Int32) σ h)
noncomputable def F_X12_rings_0 (x1 : Int32) (x2 : Int32) (σ : zSt) : Option (Int32 × zSt) :=
  bd (F_X12_in x2 (0 : Int32) (4 : Int32) σ) (fun q2 s1 =>
    if q2 = 0 then (
      some ((-1 : Int32), s1))
    else (
      if x2 ≤ (2 : Int32) then (
        F_X12_rings_26 x1 x2 s1)
      else (
        bd (F_X12_in x1 (0 : Int32) (11 : Int32) s1) (fun q41 s40 =>
          if q41 = 0 then (
            some ((-1 : Int32), s40))
          else (
            F_X12_rings_26 x1 x2 s40)))))
set_option maxHeartbeats 4000000 in
set_option maxRecDepth 100000 in
theorem p_X12_rings_0 {G : zG} {C : zC} {r : Int32} {τ : zSt} (hR : zR G C (some .int) (some (.int r)) τ) (x1 : Int32) (x2 : Int32) (σ : zSt) (h : F_X12_rings_0 x1 x2 σ = some (r, τ)) : zAW G 2 RX12 cX12_rings 7 C 0 [(0, .ref (zad G 69)), (1, .int x1), (2, .int x2)] [] σ := by
  unfold F_X12_rings_0 at h
  refine z_iload e_X12_rings_0 2 rfl ?_
  refine z_ic e_X12_rings_1 ?_
  refine z_ic e_X12_rings_2 ?_
  obtain ⟨q2, s1, e3, h⟩ := bd_e h
  refine z_callSi (As := [.int x2, .int (0 : Int32), .int (4 : Int32)]) (rest := []) lk_X12_163 e_X12_rings_3 (m_X12_in G x2 (0 : Int32) (4 : Int32) σ _ _ e3) (by decide) rfl (Nat.le_of_ble_eq_true rfl) ?_
  refine z_if_eq e_X12_rings_6 h (fun c4 h => ?_) (fun c4 h => ?_)
  · refine z_ic e_X12_rings_24 ?_
    cases h
    exact z_ireturn hR e_X12_rings_25
  · refine z_iload e_X12_rings_9 2 rfl ?_
    refine z_ic e_X12_rings_10 ?_
    refine z_icmp_le e_X12_rings_11 h (fun c5 h => ?_) (fun c5 h => ?_)
    · exact z_sub [0, 1, 2] rfl (p_X12_rings_26 hR x1 x2 s1 h)
    · refine z_iload e_X12_rings_14 1 rfl ?_
      refine z_ic e_X12_rings_15 ?_
      refine z_ic e_X12_rings_16 ?_
      obtain ⟨q41, s40, e42, h⟩ := bd_e h
      refine z_callSi (As := [.int x1, .int (0 : Int32), .int (11 : Int32)]) (rest := []) lk_X12_163 e_X12_rings_18 (m_X12_in G x1 (0 : Int32) (11 : Int32) s1 _ _ e42) (by decide) rfl (Nat.le_of_ble_eq_true rfl) ?_
      refine z_if_ne e_X12_rings_21 h (fun c43 h => ?_) (fun c43 h => ?_)
      · refine z_ic e_X12_rings_24 ?_
        cases h
        exact z_ireturn hR e_X12_rings_25
      · exact z_sub [0, 1, 2] rfl (p_X12_rings_26 hR x1 x2 s40 h)
noncomputable def F_X12_rings (x1 : Int32) (x2 : Int32) (σ : zSt) : Option (Int32 × zSt) := F_X12_rings_0 x1 x2 σ
set_option maxRecDepth 100000 in
theorem m_X12_rings (G : zG) (x1 : Int32) (x2 : Int32) (σ : zSt) (q : Int32) (τ : zSt) (h : F_X12_rings x1 x2 σ = some (q, τ)) : zM G 2 yX12_rings cX12_rings 7 (some .int) [.ref (zad G 69), .int x1, .int x2] σ (some (.int q)) τ := by
  unfold F_X12_rings at h
  refine zM.of (own := RX12) (by decide +kernel) rfl (Nat.le_of_ble_eq_true rfl) (fun C hR => ?_)
  exact z_sub [0, 1, 2] rfl (p_X12_rings_0 hR x1 x2 σ h)
noncomputable def F_X10_keysIn_4 (x1 : Int32) (w4 : (Int32 × Int32 × zSt) → Option (Int32 × zSt)) (x2 : Int32) (x3 : Int32) (σ : zSt) : Option (Int32 × zSt) :=
  if (8 : Int32) ≤ x3 then (
    some (x2, σ))
  else (
    gd (vp_in x3 8) (
      nm (if (σ.1 7 x3.toNatClampNeg) = x1 then ((1 : Int32) <<< (x3 &&& 31)) else (0 : Int32)) (fun v2 =>
        nm (x2 ||| v2) (fun v3 =>
          nm (x3 + (1 : Int32)) (fun v4 =>
            w4 (v3, v4, σ))))))
set_option maxHeartbeats 4000000 in
set_option maxRecDepth 100000 in
theorem b_X10_keysIn_4 {G : zG} {C : zC} {r : Int32} {τ : zSt} (hR : zR G C (some .int) (some (.int r)) τ) (x1 : Int32) (w4 : (Int32 × Int32 × zSt) → Option (Int32 × zSt)) (hw4 : ∀ (x2 : Int32) (x3 : Int32) (σ : zSt), w4 (x2, x3, σ) = some (r, τ) → zAW G 1 RX10 cX10_keysIn 4 C 4 [(0, .ref (zad G 1)), (1, .int x1), (2, .int x2), (3, .int x3)] [] σ) (x2 : Int32) (x3 : Int32) (σ : zSt) (h : F_X10_keysIn_4 x1 w4 x2 x3 σ = some (r, τ)) : zAW G 1 RX10 cX10_keysIn 4 C 4 [(0, .ref (zad G 1)), (1, .int x1), (2, .int x2), (3, .int x3)] [] σ := by
  unfold F_X10_keysIn_4 at h
  refine z_iload e_X10_keysIn_4 3 rfl ?_
  refine z_ic e_X10_keysIn_5 ?_
  refine z_icmp_ge e_X10_keysIn_7 h (fun c1 h => ?_) (fun c1 h => ?_)
  · refine z_iload e_X10_keysIn_36 2 rfl ?_
    cases h
    exact z_ireturn hR e_X10_keysIn_37
  · refine z_iload e_X10_keysIn_10 2 rfl ?_
    refine z_aload e_X10_keysIn_11 0 rfl ?_
    refine z_getr gf_X10_27_1 e_X10_keysIn_12 ?_
    refine z_iload e_X10_keysIn_15 3 rfl ?_
    refine z_iald sh_7 e_X10_keysIn_16 h (fun h => ?_)
    refine z_iload e_X10_keysIn_17 1 rfl ?_
    obtain ⟨v2, ev2, h⟩ := nm_i h
    have jv2 : zAW G 1 RX10 cX10_keysIn 4 C 28 [(0, .ref (zad G 1)), (1, .int x1), (3, .int x3)] [.int v2, .int x2] σ := by
      refine z_ior e_X10_keysIn_28 ?_
      refine z_nmI h (fun v3 h => ?_)
      refine z_istore e_X10_keysIn_29 (by decide) [(2, .int v3), (0, .ref (zad G 1)), (1, .int x1), (3, .int x3)] rfl ?_
      refine z_iinc e_X10_keysIn_30 3 rfl (by decide) (by decide) h (fun y => [(3, .int y), (2, .int v3), (0, .ref (zad G 1)), (1, .int x1)]) (fun _ => rfl) (fun v4 h => ?_)
      refine z_goto e_X10_keysIn_33 ?_
      exact z_sub [2, 3, 1, 0] rfl (hw4 v3 v4 σ h)
    refine y_icmp_ne e_X10_keysIn_18 (fun c5 => ?_) (fun c5 => ?_)
    · refine z_ic e_X10_keysIn_21 ?_
      refine z_iload e_X10_keysIn_22 3 rfl ?_
      refine z_ishl e_X10_keysIn_23 ?_
      refine z_goto e_X10_keysIn_24 ?_
      rw [if_pos c5] at ev2
      subst ev2
      exact z_sub [0, 1, 3] rfl jv2
    · refine z_ic e_X10_keysIn_27 ?_
      rw [if_neg c5] at ev2
      subst ev2
      exact z_sub [0, 1, 3] rfl jv2
noncomputable def F_X10_keysIn_4L (x1 : Int32) : ((Int32 × Int32 × zSt) → Option (Int32 × zSt)) → (Int32 × Int32 × zSt) → Option (Int32 × zSt) := fun w s => F_X10_keysIn_4 x1 w s.1 s.2.1 s.2.2
set_option maxRecDepth 100000 in
theorem l_X10_keysIn_4 {G : zG} {C : zC} {r : Int32} {τ : zSt} (hR : zR G C (some .int) (some (.int r)) τ) (x1 : Int32) : ∀ (N : Nat) (x2 : Int32) (x3 : Int32) (σ : zSt), zfix (F_X10_keysIn_4L x1) N (x2, x3, σ) = some (r, τ) → zAW G 1 RX10 cX10_keysIn 4 C 4 [(0, .ref (zad G 1)), (1, .int x1), (2, .int x2), (3, .int x3)] [] σ := by
  intro N
  induction N with
  | zero =>
    intro x2 x3 σ h
    exact nomatch (show (none : Option (Int32 × zSt)) = some (r, τ) from h)
  | succ N ih =>
    intro x2 x3 σ h
    exact b_X10_keysIn_4 hR x1 (zfix (F_X10_keysIn_4L x1) N) ih x2 x3 σ h
noncomputable def F_X10_keysIn_0 (x1 : Int32) (σ : zSt) : Option (Int32 × zSt) :=
  zfix (F_X10_keysIn_4L x1) zlim ((0 : Int32), (0 : Int32), σ)
set_option maxHeartbeats 4000000 in
set_option maxRecDepth 100000 in
theorem p_X10_keysIn_0 {G : zG} {C : zC} {r : Int32} {τ : zSt} (hR : zR G C (some .int) (some (.int r)) τ) (x1 : Int32) (σ : zSt) (h : F_X10_keysIn_0 x1 σ = some (r, τ)) : zAW G 1 RX10 cX10_keysIn 4 C 0 [(0, .ref (zad G 1)), (1, .int x1)] [] σ := by
  unfold F_X10_keysIn_0 at h
  refine z_ic e_X10_keysIn_0 ?_
  refine z_istore e_X10_keysIn_1 (by decide) [(2, .int (0 : Int32)), (0, .ref (zad G 1)), (1, .int x1)] rfl ?_
  refine z_ic e_X10_keysIn_2 ?_
  refine z_istore e_X10_keysIn_3 (by decide) [(3, .int (0 : Int32)), (2, .int (0 : Int32)), (0, .ref (zad G 1)), (1, .int x1)] rfl ?_
  exact z_sub [2, 3, 1, 0] rfl (l_X10_keysIn_4 hR x1 zlim (0 : Int32) (0 : Int32) σ h)
noncomputable def F_X10_keysIn (x1 : Int32) (σ : zSt) : Option (Int32 × zSt) := F_X10_keysIn_0 x1 σ
set_option maxRecDepth 100000 in
theorem m_X10_keysIn (G : zG) (x1 : Int32) (σ : zSt) (q : Int32) (τ : zSt) (h : F_X10_keysIn x1 σ = some (q, τ)) : zM G 1 yX10_keysIn cX10_keysIn 4 (some .int) [.ref (zad G 1), .int x1] σ (some (.int q)) τ := by
  unfold F_X10_keysIn at h
  refine zM.of (own := RX10) (by decide +kernel) rfl (Nat.le_of_ble_eq_true rfl) (fun C hR => ?_)
  exact z_sub [0, 1] rfl (p_X10_keysIn_0 hR x1 σ h)
noncomputable def F_X10_ofPlace_0 (x1 : Int32) (x2 : Int32) (σ : zSt) : Option (Int32 × zSt) :=
  bd (F_X11_isBelow x1 (8 : Int32) σ) (fun q2 s1 =>
    if q2 = 0 then (
      some ((-1 : Int32), s1))
    else (
      if x2 = (0 : Int32) then (
        bd (F_X10_islandOf x1 s1) (fun q7 s6 =>
          some (q7, s6)))
      else (
        if x2 = (1 : Int32) then (
          gd (vp_in x1 8) (
            if (s1.1 4 x1.toNatClampNeg) = (-1 : Int32) then (
              some ((-2 : Int32), s1))
            else (
              gd (vp_in x1 8) (
                some ((s1.1 4 x1.toNatClampNeg), s1)))))
        else (
          if x2 = (2 : Int32) then (
            gd (vp_in x1 8) (
              if (s1.1 5 x1.toNatClampNeg) = (-1 : Int32) then (
                some ((-2 : Int32), s1))
              else (
                gd (vp_in x1 8) (
                  some ((s1.1 5 x1.toNatClampNeg), s1)))))
          else (
            if x2 = (3 : Int32) then (
              bd (F_X10_isWet x1 s1) (fun q15 s14 =>
                if q15 = 0 then (
                  some ((0 : Int32), s14))
                else (
                  some ((1 : Int32), s14))))
            else (
              if x2 = (4 : Int32) then (
                gd (vp_in x1 8) (
                  if (s1.1 6 x1.toNatClampNeg) = (-1 : Int32) then (
                    some ((-2 : Int32), s1))
                  else (
                    gd (vp_in x1 8) (
                      some ((s1.1 6 x1.toNatClampNeg), s1)))))
              else (
                if x2 = (5 : Int32) then (
                  bd (F_X10_keysIn x1 s1) (fun q22 s21 =>
                    some (q22, s21)))
                else (
                  if x2 = (6 : Int32) then (
                    bd (F_X10_around x1 s1) (fun q26 s25 =>
                      bd (F_J6_bitCount_0f7a4 q26 s25) (fun q29 s28 =>
                        some (q29, s28))))
                  else (
                    some ((-1 : Int32), s1))))))))))
set_option maxHeartbeats 4000000 in
set_option maxRecDepth 100000 in
theorem p_X10_ofPlace_0 {G : zG} {C : zC} {r : Int32} {τ : zSt} (hR : zR G C (some .int) (some (.int r)) τ) (x1 : Int32) (x2 : Int32) (σ : zSt) (h : F_X10_ofPlace_0 x1 x2 σ = some (r, τ)) : zAW G 3 RX10 cX10_ofPlace 3 C 0 [(0, .ref (zad G 1)), (1, .int x1), (2, .int x2)] [] σ := by
  unfold F_X10_ofPlace_0 at h
  refine z_iload e_X10_ofPlace_0 1 rfl ?_
  refine z_ic e_X10_ofPlace_1 ?_
  obtain ⟨q2, s1, e3, h⟩ := bd_e h
  refine z_callNi (As := [.int x1, .int (8 : Int32)]) (rest := []) lk_X10_58 e_X10_ofPlace_3 (m_X11_isBelow G x1 (8 : Int32) σ _ _ e3) (by decide) rfl (Nat.le_of_ble_eq_true rfl) ?_
  refine z_if_ne e_X10_ofPlace_6 h (fun c4 h => ?_) (fun c4 h => ?_)
  · refine z_ic e_X10_ofPlace_9 ?_
    cases h
    exact z_ireturn hR e_X10_ofPlace_10
  · refine z_iload e_X10_ofPlace_11 2 rfl ?_
    by_cases c5 : x2 = (0 : Int32)
    · rw [if_pos c5] at h
      refine z_tin (tgt := 56) e_X10_ofPlace_12 (0 : Int32) c5 (44) (by decide +kernel) ?_
      refine z_aload e_X10_ofPlace_56 0 rfl ?_
      refine z_iload e_X10_ofPlace_57 1 rfl ?_
      obtain ⟨q7, s6, e8, h⟩ := bd_e h
      refine z_callVi (c0 := 1) (As := [.int x1]) (rest := []) lk_X10_72 ob_1 e_X10_ofPlace_58 (m_X10_islandOf G x1 s1 _ _ e8) (by decide) rfl (Nat.le_of_ble_eq_true rfl) ?_
      cases h
      exact z_ireturn hR e_X10_ofPlace_61
    · rw [if_neg c5] at h
      by_cases c9 : x2 = (1 : Int32)
      · rw [if_pos c9] at h
        refine z_tin (tgt := 62) e_X10_ofPlace_12 (1 : Int32) c9 (50) (by decide +kernel) ?_
        refine z_aload e_X10_ofPlace_62 0 rfl ?_
        refine z_getr gf_X10_18_1 e_X10_ofPlace_63 ?_
        refine z_iload e_X10_ofPlace_66 1 rfl ?_
        refine z_iald sh_4 e_X10_ofPlace_67 h (fun h => ?_)
        refine z_ic e_X10_ofPlace_68 ?_
        refine z_icmp_ne e_X10_ofPlace_69 h (fun c10 h => ?_) (fun c10 h => ?_)
        · refine z_ic e_X10_ofPlace_72 ?_
          refine z_goto e_X10_ofPlace_74 ?_
          cases h
          exact z_ireturn hR e_X10_ofPlace_83
        · refine z_aload e_X10_ofPlace_77 0 rfl ?_
          refine z_getr gf_X10_18_1 e_X10_ofPlace_78 ?_
          refine z_iload e_X10_ofPlace_81 1 rfl ?_
          refine z_iald sh_4 e_X10_ofPlace_82 h (fun h => ?_)
          cases h
          exact z_ireturn hR e_X10_ofPlace_83
      · rw [if_neg c9] at h
        by_cases c11 : x2 = (2 : Int32)
        · rw [if_pos c11] at h
          refine z_tin (tgt := 84) e_X10_ofPlace_12 (2 : Int32) c11 (72) (by decide +kernel) ?_
          refine z_aload e_X10_ofPlace_84 0 rfl ?_
          refine z_getr gf_X10_21_1 e_X10_ofPlace_85 ?_
          refine z_iload e_X10_ofPlace_88 1 rfl ?_
          refine z_iald sh_5 e_X10_ofPlace_89 h (fun h => ?_)
          refine z_ic e_X10_ofPlace_90 ?_
          refine z_icmp_ne e_X10_ofPlace_91 h (fun c12 h => ?_) (fun c12 h => ?_)
          · refine z_ic e_X10_ofPlace_94 ?_
            refine z_goto e_X10_ofPlace_96 ?_
            cases h
            exact z_ireturn hR e_X10_ofPlace_105
          · refine z_aload e_X10_ofPlace_99 0 rfl ?_
            refine z_getr gf_X10_21_1 e_X10_ofPlace_100 ?_
            refine z_iload e_X10_ofPlace_103 1 rfl ?_
            refine z_iald sh_5 e_X10_ofPlace_104 h (fun h => ?_)
            cases h
            exact z_ireturn hR e_X10_ofPlace_105
        · rw [if_neg c11] at h
          by_cases c13 : x2 = (3 : Int32)
          · rw [if_pos c13] at h
            refine z_tin (tgt := 106) e_X10_ofPlace_12 (3 : Int32) c13 (94) (by decide +kernel) ?_
            refine z_aload e_X10_ofPlace_106 0 rfl ?_
            refine z_iload e_X10_ofPlace_107 1 rfl ?_
            obtain ⟨q15, s14, e16, h⟩ := bd_e h
            refine z_callVi (c0 := 1) (As := [.int x1]) (rest := []) lk_X10_75 ob_1 e_X10_ofPlace_108 (m_X10_isWet G x1 s1 _ _ e16) (by decide) rfl (Nat.le_of_ble_eq_true rfl) ?_
            refine z_if_eq e_X10_ofPlace_111 h (fun c17 h => ?_) (fun c17 h => ?_)
            · refine z_ic e_X10_ofPlace_118 ?_
              cases h
              exact z_ireturn hR e_X10_ofPlace_119
            · refine z_ic e_X10_ofPlace_114 ?_
              refine z_goto e_X10_ofPlace_115 ?_
              cases h
              exact z_ireturn hR e_X10_ofPlace_119
          · rw [if_neg c13] at h
            by_cases c18 : x2 = (4 : Int32)
            · rw [if_pos c18] at h
              refine z_tin (tgt := 120) e_X10_ofPlace_12 (4 : Int32) c18 (108) (by decide +kernel) ?_
              refine z_aload e_X10_ofPlace_120 0 rfl ?_
              refine z_getr gf_X10_24_1 e_X10_ofPlace_121 ?_
              refine z_iload e_X10_ofPlace_124 1 rfl ?_
              refine z_iald sh_6 e_X10_ofPlace_125 h (fun h => ?_)
              refine z_ic e_X10_ofPlace_126 ?_
              refine z_icmp_ne e_X10_ofPlace_127 h (fun c19 h => ?_) (fun c19 h => ?_)
              · refine z_ic e_X10_ofPlace_130 ?_
                refine z_goto e_X10_ofPlace_132 ?_
                cases h
                exact z_ireturn hR e_X10_ofPlace_141
              · refine z_aload e_X10_ofPlace_135 0 rfl ?_
                refine z_getr gf_X10_24_1 e_X10_ofPlace_136 ?_
                refine z_iload e_X10_ofPlace_139 1 rfl ?_
                refine z_iald sh_6 e_X10_ofPlace_140 h (fun h => ?_)
                cases h
                exact z_ireturn hR e_X10_ofPlace_141
            · rw [if_neg c18] at h
              by_cases c20 : x2 = (5 : Int32)
              · rw [if_pos c20] at h
                refine z_tin (tgt := 142) e_X10_ofPlace_12 (5 : Int32) c20 (130) (by decide +kernel) ?_
                refine z_aload e_X10_ofPlace_142 0 rfl ?_
                refine z_iload e_X10_ofPlace_143 1 rfl ?_
                obtain ⟨q22, s21, e23, h⟩ := bd_e h
                refine z_callVi (c0 := 1) (As := [.int x1]) (rest := []) lk_X10_78 ob_1 e_X10_ofPlace_144 (m_X10_keysIn G x1 s1 _ _ e23) (by decide) rfl (Nat.le_of_ble_eq_true rfl) ?_
                cases h
                exact z_ireturn hR e_X10_ofPlace_147
              · rw [if_neg c20] at h
                by_cases c24 : x2 = (6 : Int32)
                · rw [if_pos c24] at h
                  refine z_tin (tgt := 148) e_X10_ofPlace_12 (6 : Int32) c24 (136) (by decide +kernel) ?_
                  refine z_aload e_X10_ofPlace_148 0 rfl ?_
                  refine z_iload e_X10_ofPlace_149 1 rfl ?_
                  obtain ⟨q26, s25, e27, h⟩ := bd_e h
                  refine z_callVi (c0 := 1) (As := [.int x1]) (rest := []) lk_X10_81 ob_1 e_X10_ofPlace_150 (m_X10_around G x1 s1 _ _ e27) (by decide) rfl (Nat.le_of_ble_eq_true rfl) ?_
                  obtain ⟨q29, s28, e30, h⟩ := bd_e h
                  refine z_callSi (As := [.int q26]) (rest := []) lk_X10_62 e_X10_ofPlace_153 (m_J6_bitCount_0f7a4 G q26 s25 _ _ e30) (by decide) rfl (Nat.le_of_ble_eq_true rfl) ?_
                  cases h
                  exact z_ireturn hR e_X10_ofPlace_156
                · rw [if_neg c24] at h
                  refine z_tout (tgt := 157) e_X10_ofPlace_12 (by
                    have := lv_neT c5 (show (0 : Int32).toInt = 0 by decide)
                    have := lv_neT c9 (show (1 : Int32).toInt = 1 by decide)
                    have := lv_neT c11 (show (2 : Int32).toInt = 2 by decide)
                    have := lv_neT c13 (show (3 : Int32).toInt = 3 by decide)
                    have := lv_neT c18 (show (4 : Int32).toInt = 4 by decide)
                    have := lv_neT c20 (show (5 : Int32).toInt = 5 by decide)
                    have := lv_neT c24 (show (6 : Int32).toInt = 6 by decide)
                    omega) (by decide) ?_
                  refine z_ic e_X10_ofPlace_157 ?_
                  cases h
                  exact z_ireturn hR e_X10_ofPlace_158
noncomputable def F_X10_ofPlace (x1 : Int32) (x2 : Int32) (σ : zSt) : Option (Int32 × zSt) := F_X10_ofPlace_0 x1 x2 σ
set_option maxRecDepth 100000 in
theorem m_X10_ofPlace (G : zG) (x1 : Int32) (x2 : Int32) (σ : zSt) (q : Int32) (τ : zSt) (h : F_X10_ofPlace x1 x2 σ = some (q, τ)) : zM G 3 yX10_ofPlace cX10_ofPlace 3 (some .int) [.ref (zad G 1), .int x1, .int x2] σ (some (.int q)) τ := by
  unfold F_X10_ofPlace at h
  refine zM.of (own := RX10) (by decide +kernel) rfl (Nat.le_of_ble_eq_true rfl) (fun C hR => ?_)
  exact z_sub [0, 1, 2] rfl (p_X10_ofPlace_0 hR x1 x2 σ h)
noncomputable def F_X11_placeIs_0 (x1 : Int32) (x2 : Int32) (σ : zSt) : Option (Int32 × zSt) :=
  bd (F_X10_isTold x1 σ) (fun q2 s1 =>
    if q2 = 0 then (
      some ((-1 : Int32), s1))
    else (
      bd (F_X10_ofPlace x1 x2 s1) (fun q6 s5 =>
        some (q6, s5))))
set_option maxHeartbeats 4000000 in
set_option maxRecDepth 100000 in
theorem p_X11_placeIs_0 {G : zG} {C : zC} {r : Int32} {τ : zSt} (hR : zR G C (some .int) (some (.int r)) τ) (x1 : Int32) (x2 : Int32) (σ : zSt) (h : F_X11_placeIs_0 x1 x2 σ = some (r, τ)) : zAW G 4 RX11 cX11_placeIs 3 C 0 [(0, .ref (zad G 0)), (1, .int x1), (2, .int x2)] [] σ := by
  unfold F_X11_placeIs_0 at h
  refine z_aload e_X11_placeIs_0 0 rfl ?_
  refine z_getr gf_X11_23_0 e_X11_placeIs_1 ?_
  refine z_iload e_X11_placeIs_4 1 rfl ?_
  obtain ⟨q2, s1, e3, h⟩ := bd_e h
  refine z_callVi (c0 := 1) (As := [.int x1]) (rest := []) lk_X11_112 ob_1 e_X11_placeIs_5 (m_X10_isTold G x1 σ _ _ e3) (by decide) rfl (Nat.le_of_ble_eq_true rfl) ?_
  refine z_if_eq e_X11_placeIs_8 h (fun c4 h => ?_) (fun c4 h => ?_)
  · refine z_ic e_X11_placeIs_23 ?_
    cases h
    exact z_ireturn hR e_X11_placeIs_24
  · refine z_aload e_X11_placeIs_11 0 rfl ?_
    refine z_getr gf_X11_23_0 e_X11_placeIs_12 ?_
    refine z_iload e_X11_placeIs_15 1 rfl ?_
    refine z_iload e_X11_placeIs_16 2 rfl ?_
    obtain ⟨q6, s5, e7, h⟩ := bd_e h
    refine z_callVi (c0 := 1) (As := [.int x1, .int x2]) (rest := []) lk_X11_266 ob_1 e_X11_placeIs_17 (m_X10_ofPlace G x1 x2 s1 _ _ e7) (by decide) rfl (Nat.le_of_ble_eq_true rfl) ?_
    refine z_goto e_X11_placeIs_20 ?_
    cases h
    exact z_ireturn hR e_X11_placeIs_24
noncomputable def F_X11_placeIs (x1 : Int32) (x2 : Int32) (σ : zSt) : Option (Int32 × zSt) := F_X11_placeIs_0 x1 x2 σ
set_option maxRecDepth 100000 in
theorem m_X11_placeIs (G : zG) (x1 : Int32) (x2 : Int32) (σ : zSt) (q : Int32) (τ : zSt) (h : F_X11_placeIs x1 x2 σ = some (q, τ)) : zM G 4 yX11_placeIs cX11_placeIs 3 (some .int) [.ref (zad G 0), .int x1, .int x2] σ (some (.int q)) τ := by
  unfold F_X11_placeIs at h
  refine zM.of (own := RX11) (by decide +kernel) rfl (Nat.le_of_ble_eq_true rfl) (fun C hR => ?_)
  exact z_sub [0, 1, 2] rfl (p_X11_placeIs_0 hR x1 x2 σ h)
noncomputable def F_X12_levels_4 (w4 : (Int32 × Int32 × zSt) → Option (Int32 × zSt)) (x2 : Int32) (x3 : Int32) (σ : zSt) : Option (Int32 × zSt) :=
  gd (vp_in x3 8) (
    if (σ.1 72 x3.toNatClampNeg) < 0 then (
      some (x2, σ))
    else (
      nm (x2 + (1 : Int32)) (fun v2 =>
        gd (vp_in x3 8) (
          nm (σ.1 72 x3.toNatClampNeg) (fun v3 =>
            w4 (v2, v3, σ))))))
set_option maxHeartbeats 4000000 in
set_option maxRecDepth 100000 in
theorem b_X12_levels_4 {G : zG} {C : zC} {r : Int32} {τ : zSt} (hR : zR G C (some .int) (some (.int r)) τ) (w4 : (Int32 × Int32 × zSt) → Option (Int32 × zSt)) (hw4 : ∀ (x2 : Int32) (x3 : Int32) (σ : zSt), w4 (x2, x3, σ) = some (r, τ) → zAW G 1 RX12 cX12_levels 4 C 4 [(0, .ref (zad G 69)), (2, .int x2), (3, .int x3)] [] σ) (x2 : Int32) (x3 : Int32) (σ : zSt) (h : F_X12_levels_4 w4 x2 x3 σ = some (r, τ)) : zAW G 1 RX12 cX12_levels 4 C 4 [(0, .ref (zad G 69)), (2, .int x2), (3, .int x3)] [] σ := by
  unfold F_X12_levels_4 at h
  refine z_aload e_X12_levels_4 0 rfl ?_
  refine z_getr gf_X12_16_69 e_X12_levels_5 ?_
  refine z_iload e_X12_levels_8 2 rfl ?_
  refine z_iald sh_72 e_X12_levels_9 h (fun h => ?_)
  refine z_if_lt e_X12_levels_10 h (fun c1 h => ?_) (fun c1 h => ?_)
  · refine z_iload e_X12_levels_27 1 rfl ?_
    cases h
    exact z_ireturn hR e_X12_levels_28
  · refine z_iload e_X12_levels_13 1 rfl ?_
    refine z_ic e_X12_levels_14 ?_
    refine z_iadd e_X12_levels_15 ?_
    refine z_nmI h (fun v2 h => ?_)
    refine z_istore e_X12_levels_16 (by decide) [(2, .int v2), (0, .ref (zad G 69)), (3, .int x3)] rfl ?_
    refine z_aload e_X12_levels_17 1 rfl ?_
    refine z_getr gf_X12_16_69 e_X12_levels_18 ?_
    refine z_iload e_X12_levels_21 2 rfl ?_
    refine z_iald sh_72 e_X12_levels_22 h (fun h => ?_)
    refine z_nmI h (fun v3 h => ?_)
    refine z_istore e_X12_levels_23 (by decide) [(3, .int v3), (2, .int v2), (0, .ref (zad G 69))] rfl ?_
    refine z_goto e_X12_levels_24 ?_
    exact z_sub [2, 1, 0] rfl (hw4 v2 v3 σ h)
noncomputable def F_X12_levels_4L  : ((Int32 × Int32 × zSt) → Option (Int32 × zSt)) → (Int32 × Int32 × zSt) → Option (Int32 × zSt) := fun w s => F_X12_levels_4 w s.1 s.2.1 s.2.2
set_option maxRecDepth 100000 in
theorem l_X12_levels_4 {G : zG} {C : zC} {r : Int32} {τ : zSt} (hR : zR G C (some .int) (some (.int r)) τ)  : ∀ (N : Nat) (x2 : Int32) (x3 : Int32) (σ : zSt), zfix (F_X12_levels_4L ) N (x2, x3, σ) = some (r, τ) → zAW G 1 RX12 cX12_levels 4 C 4 [(0, .ref (zad G 69)), (2, .int x2), (3, .int x3)] [] σ := by
  intro N
  induction N with
  | zero =>
    intro x2 x3 σ h
    exact nomatch (show (none : Option (Int32 × zSt)) = some (r, τ) from h)
  | succ N ih =>
    intro x2 x3 σ h
    exact b_X12_levels_4 hR (zfix (F_X12_levels_4L ) N) ih x2 x3 σ h
noncomputable def F_X12_levels_0 (x1 : Int32) (σ : zSt) : Option (Int32 × zSt) :=
  zfix (F_X12_levels_4L ) zlim ((0 : Int32), x1, σ)
set_option maxHeartbeats 4000000 in
set_option maxRecDepth 100000 in
theorem p_X12_levels_0 {G : zG} {C : zC} {r : Int32} {τ : zSt} (hR : zR G C (some .int) (some (.int r)) τ) (x1 : Int32) (σ : zSt) (h : F_X12_levels_0 x1 σ = some (r, τ)) : zAW G 1 RX12 cX12_levels 4 C 0 [(0, .ref (zad G 69)), (1, .int x1)] [] σ := by
  unfold F_X12_levels_0 at h
  refine z_ic e_X12_levels_0 ?_
  refine z_istore e_X12_levels_1 (by decide) [(2, .int (0 : Int32)), (0, .ref (zad G 69)), (1, .int x1)] rfl ?_
  refine z_iload e_X12_levels_2 2 rfl ?_
  refine z_istore e_X12_levels_3 (by decide) [(3, .int x1), (2, .int (0 : Int32)), (0, .ref (zad G 69)), (1, .int x1)] rfl ?_
  exact z_sub [2, 1, 0] rfl (l_X12_levels_4 hR  zlim (0 : Int32) x1 σ h)
noncomputable def F_X12_levels (x1 : Int32) (σ : zSt) : Option (Int32 × zSt) := F_X12_levels_0 x1 σ
set_option maxRecDepth 100000 in
theorem m_X12_levels (G : zG) (x1 : Int32) (σ : zSt) (q : Int32) (τ : zSt) (h : F_X12_levels x1 σ = some (q, τ)) : zM G 1 yX12_levels cX12_levels 4 (some .int) [.ref (zad G 69), .int x1] σ (some (.int q)) τ := by
  unfold F_X12_levels at h
  refine zM.of (own := RX12) (by decide +kernel) rfl (Nat.le_of_ble_eq_true rfl) (fun C hR => ?_)
  exact z_sub [0, 1] rfl (p_X12_levels_0 hR x1 σ h)
noncomputable def F_X12_placeIs_0 (x1 : Int32) (x2 : Int32) (σ : zSt) : Option (Int32 × zSt) :=
  bd (F_X12_isPlace x1 σ) (fun q2 s1 =>
    if q2 = 0 then (
      some ((-1 : Int32), s1))
    else (
      if x2 = (0 : Int32) then (
        bd (F_X12_islandBy x1 s1) (fun q7 s6 =>
          some (q7, s6)))
      else (
        if x2 = (1 : Int32) then (
          gd (vp_in x1 8) (
            some ((s1.1 72 x1.toNatClampNeg), s1)))
        else (
          if x2 = (2 : Int32) then (
            gd (vp_in x1 8) (
              some ((s1.1 73 x1.toNatClampNeg), s1)))
          else (
            if x2 = (3 : Int32) then (
              bd (F_X12_has (s1.1 69 1) x1 s1) (fun q13 s12 =>
                if q13 = 0 then (
                  some ((0 : Int32), s12))
                else (
                  some ((1 : Int32), s12))))
            else (
              if x2 = (4 : Int32) then (
                gd (vp_in x1 8) (
                  some ((s1.1 74 x1.toNatClampNeg), s1)))
              else (
                if x2 = (5 : Int32) then (
                  bd (F_X12_keysAt x1 s1) (fun q19 s18 =>
                    some (q19, s18)))
                else (
                  if x2 = (6 : Int32) then (
                    bd (F_X12_levels x1 s1) (fun q23 s22 =>
                      some (q23, s22)))
                  else (
                    some ((-1 : Int32), s1))))))))))
set_option maxHeartbeats 4000000 in
set_option maxRecDepth 100000 in
theorem p_X12_placeIs_0 {G : zG} {C : zC} {r : Int32} {τ : zSt} (hR : zR G C (some .int) (some (.int r)) τ) (x1 : Int32) (x2 : Int32) (σ : zSt) (h : F_X12_placeIs_0 x1 x2 σ = some (r, τ)) : zAW G 3 RX12 cX12_placeIs 3 C 0 [(0, .ref (zad G 69)), (1, .int x1), (2, .int x2)] [] σ := by
  unfold F_X12_placeIs_0 at h
  refine z_aload e_X12_placeIs_0 0 rfl ?_
  refine z_iload e_X12_placeIs_1 1 rfl ?_
  obtain ⟨q2, s1, e3, h⟩ := bd_e h
  refine z_callVi (c0 := 69) (As := [.int x1]) (rest := []) lk_X12_167 ob_69 e_X12_placeIs_2 (m_X12_isPlace G x1 σ _ _ e3) (by decide) rfl (Nat.le_of_ble_eq_true rfl) ?_
  refine z_if_ne e_X12_placeIs_5 h (fun c4 h => ?_) (fun c4 h => ?_)
  · refine z_ic e_X12_placeIs_8 ?_
    cases h
    exact z_ireturn hR e_X12_placeIs_9
  · refine z_iload e_X12_placeIs_10 2 rfl ?_
    by_cases c5 : x2 = (0 : Int32)
    · rw [if_pos c5] at h
      refine z_tin (tgt := 52) e_X12_placeIs_11 (0 : Int32) c5 (41) (by decide +kernel) ?_
      refine z_aload e_X12_placeIs_52 0 rfl ?_
      refine z_iload e_X12_placeIs_53 1 rfl ?_
      obtain ⟨q7, s6, e8, h⟩ := bd_e h
      refine z_callVi (c0 := 69) (As := [.int x1]) (rest := []) lk_X12_176 ob_69 e_X12_placeIs_54 (m_X12_islandBy G x1 s1 _ _ e8) (by decide) rfl (Nat.le_of_ble_eq_true rfl) ?_
      cases h
      exact z_ireturn hR e_X12_placeIs_57
    · rw [if_neg c5] at h
      by_cases c9 : x2 = (1 : Int32)
      · rw [if_pos c9] at h
        refine z_tin (tgt := 58) e_X12_placeIs_11 (1 : Int32) c9 (47) (by decide +kernel) ?_
        refine z_aload e_X12_placeIs_58 0 rfl ?_
        refine z_getr gf_X12_16_69 e_X12_placeIs_59 ?_
        refine z_iload e_X12_placeIs_62 1 rfl ?_
        refine z_iald sh_72 e_X12_placeIs_63 h (fun h => ?_)
        cases h
        exact z_ireturn hR e_X12_placeIs_64
      · rw [if_neg c9] at h
        by_cases c10 : x2 = (2 : Int32)
        · rw [if_pos c10] at h
          refine z_tin (tgt := 65) e_X12_placeIs_11 (2 : Int32) c10 (54) (by decide +kernel) ?_
          refine z_aload e_X12_placeIs_65 0 rfl ?_
          refine z_getr gf_X12_19_69 e_X12_placeIs_66 ?_
          refine z_iload e_X12_placeIs_69 1 rfl ?_
          refine z_iald sh_73 e_X12_placeIs_70 h (fun h => ?_)
          cases h
          exact z_ireturn hR e_X12_placeIs_71
        · rw [if_neg c10] at h
          by_cases c11 : x2 = (3 : Int32)
          · rw [if_pos c11] at h
            refine z_tin (tgt := 72) e_X12_placeIs_11 (3 : Int32) c11 (61) (by decide +kernel) ?_
            refine z_aload e_X12_placeIs_72 0 rfl ?_
            refine z_geti gf_X12_170_69 e_X12_placeIs_73 ?_
            refine z_iload e_X12_placeIs_76 1 rfl ?_
            obtain ⟨q13, s12, e14, h⟩ := bd_e h
            refine z_callSi (As := [.int (s1.1 69 1), .int x1]) (rest := []) lk_X12_156 e_X12_placeIs_77 (m_X12_has G (s1.1 69 1) x1 s1 _ _ e14) (by decide) rfl (Nat.le_of_ble_eq_true rfl) ?_
            refine z_if_eq e_X12_placeIs_80 h (fun c15 h => ?_) (fun c15 h => ?_)
            · refine z_ic e_X12_placeIs_87 ?_
              cases h
              exact z_ireturn hR e_X12_placeIs_88
            · refine z_ic e_X12_placeIs_83 ?_
              refine z_goto e_X12_placeIs_84 ?_
              cases h
              exact z_ireturn hR e_X12_placeIs_88
          · rw [if_neg c11] at h
            by_cases c16 : x2 = (4 : Int32)
            · rw [if_pos c16] at h
              refine z_tin (tgt := 89) e_X12_placeIs_11 (4 : Int32) c16 (78) (by decide +kernel) ?_
              refine z_aload e_X12_placeIs_89 0 rfl ?_
              refine z_getr gf_X12_22_69 e_X12_placeIs_90 ?_
              refine z_iload e_X12_placeIs_93 1 rfl ?_
              refine z_iald sh_74 e_X12_placeIs_94 h (fun h => ?_)
              cases h
              exact z_ireturn hR e_X12_placeIs_95
            · rw [if_neg c16] at h
              by_cases c17 : x2 = (5 : Int32)
              · rw [if_pos c17] at h
                refine z_tin (tgt := 96) e_X12_placeIs_11 (5 : Int32) c17 (85) (by decide +kernel) ?_
                refine z_aload e_X12_placeIs_96 0 rfl ?_
                refine z_iload e_X12_placeIs_97 1 rfl ?_
                obtain ⟨q19, s18, e20, h⟩ := bd_e h
                refine z_callVi (c0 := 69) (As := [.int x1]) (rest := []) lk_X12_180 ob_69 e_X12_placeIs_98 (m_X12_keysAt G x1 s1 _ _ e20) (by decide) rfl (Nat.le_of_ble_eq_true rfl) ?_
                cases h
                exact z_ireturn hR e_X12_placeIs_101
              · rw [if_neg c17] at h
                by_cases c21 : x2 = (6 : Int32)
                · rw [if_pos c21] at h
                  refine z_tin (tgt := 102) e_X12_placeIs_11 (6 : Int32) c21 (91) (by decide +kernel) ?_
                  refine z_aload e_X12_placeIs_102 0 rfl ?_
                  refine z_iload e_X12_placeIs_103 1 rfl ?_
                  obtain ⟨q23, s22, e24, h⟩ := bd_e h
                  refine z_callVi (c0 := 69) (As := [.int x1]) (rest := []) lk_X12_183 ob_69 e_X12_placeIs_104 (m_X12_levels G x1 s1 _ _ e24) (by decide) rfl (Nat.le_of_ble_eq_true rfl) ?_
                  cases h
                  exact z_ireturn hR e_X12_placeIs_107
                · rw [if_neg c21] at h
                  refine z_tout (tgt := 108) e_X12_placeIs_11 (by
                    have := lv_neT c5 (show (0 : Int32).toInt = 0 by decide)
                    have := lv_neT c9 (show (1 : Int32).toInt = 1 by decide)
                    have := lv_neT c10 (show (2 : Int32).toInt = 2 by decide)
                    have := lv_neT c11 (show (3 : Int32).toInt = 3 by decide)
                    have := lv_neT c16 (show (4 : Int32).toInt = 4 by decide)
                    have := lv_neT c17 (show (5 : Int32).toInt = 5 by decide)
                    have := lv_neT c21 (show (6 : Int32).toInt = 6 by decide)
                    omega) (by decide) ?_
                  refine z_ic e_X12_placeIs_108 ?_
                  cases h
                  exact z_ireturn hR e_X12_placeIs_109
noncomputable def F_X12_placeIs (x1 : Int32) (x2 : Int32) (σ : zSt) : Option (Int32 × zSt) := F_X12_placeIs_0 x1 x2 σ
set_option maxRecDepth 100000 in
theorem m_X12_placeIs (G : zG) (x1 : Int32) (x2 : Int32) (σ : zSt) (q : Int32) (τ : zSt) (h : F_X12_placeIs x1 x2 σ = some (q, τ)) : zM G 3 yX12_placeIs cX12_placeIs 3 (some .int) [.ref (zad G 69), .int x1, .int x2] σ (some (.int q)) τ := by
  unfold F_X12_placeIs at h
  refine zM.of (own := RX12) (by decide +kernel) rfl (Nat.le_of_ble_eq_true rfl) (fun C hR => ?_)
  exact z_sub [0, 1, 2] rfl (p_X12_placeIs_0 hR x1 x2 σ h)
noncomputable def F_X11_seed_0 (x1 : Int32) (σ : zSt) : Option (Int32 × zSt) :=
  bd (F_X11_isBelow x1 (65536 : Int32) σ) (fun q2 s1 =>
    if q2 = 0 then (
      some ((0 : Int32), s1))
    else (
      nm (zwr s1 1 12 x1) (fun s5 =>
        some ((1 : Int32), s5))))
set_option maxHeartbeats 4000000 in
set_option maxRecDepth 100000 in
theorem p_X11_seed_0 {G : zG} {C : zC} {r : Int32} {τ : zSt} (hR : zR G C (some .boolean) (some (.int r)) τ) (x1 : Int32) (σ : zSt) (h : F_X11_seed_0 x1 σ = some (r, τ)) : zAW G 2 RX11 cX11_seed 2 C 0 [(0, .ref (zad G 0)), (1, .int x1)] [] σ := by
  unfold F_X11_seed_0 at h
  refine z_iload e_X11_seed_0 1 rfl ?_
  refine z_ldcw cs_X11_269 e_X11_seed_1 ?_
  obtain ⟨q2, s1, e3, h⟩ := bd_e h
  refine z_callSi (As := [.int x1, .int (65536 : Int32)]) (rest := []) lk_X11_104 e_X11_seed_4 (m_X11_isBelow G x1 (65536 : Int32) σ _ _ e3) (by decide) rfl (Nat.le_of_ble_eq_true rfl) ?_
  refine z_if_ne e_X11_seed_7 h (fun c4 h => ?_) (fun c4 h => ?_)
  · refine z_ic e_X11_seed_10 ?_
    cases h
    exact z_zreturn hR e_X11_seed_11 (Or.inl rfl)
  · refine z_aload e_X11_seed_12 0 rfl ?_
    refine z_getr gf_X11_23_0 e_X11_seed_13 ?_
    refine z_iload e_X11_seed_16 1 rfl ?_
    refine z_puti pf_X11_222_1 e_X11_seed_17 h (fun s5 h => ?_)
    refine z_ic e_X11_seed_20 ?_
    cases h
    exact z_zreturn hR e_X11_seed_21 (Or.inr rfl)
noncomputable def F_X11_seed (x1 : Int32) (σ : zSt) : Option (Int32 × zSt) := F_X11_seed_0 x1 σ
set_option maxRecDepth 100000 in
theorem m_X11_seed (G : zG) (x1 : Int32) (σ : zSt) (q : Int32) (τ : zSt) (h : F_X11_seed x1 σ = some (q, τ)) : zM G 2 yX11_seed cX11_seed 2 (some .boolean) [.ref (zad G 0), .int x1] σ (some (.int q)) τ := by
  unfold F_X11_seed at h
  refine zM.of (own := RX11) (by decide +kernel) rfl (Nat.le_of_ble_eq_true rfl) (fun C hR => ?_)
  exact z_sub [0, 1] rfl (p_X11_seed_0 hR x1 σ h)
noncomputable def F_X12_seed_0 (x1 : Int32) (σ : zSt) : Option (Int32 × zSt) :=
  bd (F_X12_in x1 (0 : Int32) (65535 : Int32) σ) (fun q2 s1 =>
    if q2 = 0 then (
      some ((0 : Int32), s1))
    else (
      nm (zwr s1 69 3 x1) (fun s5 =>
        some ((1 : Int32), s5))))
set_option maxHeartbeats 4000000 in
set_option maxRecDepth 100000 in
theorem p_X12_seed_0 {G : zG} {C : zC} {r : Int32} {τ : zSt} (hR : zR G C (some .boolean) (some (.int r)) τ) (x1 : Int32) (σ : zSt) (h : F_X12_seed_0 x1 σ = some (r, τ)) : zAW G 2 RX12 cX12_seed 2 C 0 [(0, .ref (zad G 69)), (1, .int x1)] [] σ := by
  unfold F_X12_seed_0 at h
  refine z_iload e_X12_seed_0 1 rfl ?_
  refine z_ic e_X12_seed_1 ?_
  refine z_ldcw cs_X12_482 e_X12_seed_2 ?_
  obtain ⟨q2, s1, e3, h⟩ := bd_e h
  refine z_callSi (As := [.int x1, .int (0 : Int32), .int (65535 : Int32)]) (rest := []) lk_X12_163 e_X12_seed_5 (m_X12_in G x1 (0 : Int32) (65535 : Int32) σ _ _ e3) (by decide) rfl (Nat.le_of_ble_eq_true rfl) ?_
  refine z_if_ne e_X12_seed_8 h (fun c4 h => ?_) (fun c4 h => ?_)
  · refine z_ic e_X12_seed_11 ?_
    cases h
    exact z_zreturn hR e_X12_seed_12 (Or.inl rfl)
  · refine z_aload e_X12_seed_13 0 rfl ?_
    refine z_iload e_X12_seed_14 1 rfl ?_
    refine z_puti pf_X12_135_69 e_X12_seed_15 h (fun s5 h => ?_)
    refine z_ic e_X12_seed_18 ?_
    cases h
    exact z_zreturn hR e_X12_seed_19 (Or.inr rfl)
noncomputable def F_X12_seed (x1 : Int32) (σ : zSt) : Option (Int32 × zSt) := F_X12_seed_0 x1 σ
set_option maxRecDepth 100000 in
theorem m_X12_seed (G : zG) (x1 : Int32) (σ : zSt) (q : Int32) (τ : zSt) (h : F_X12_seed x1 σ = some (q, τ)) : zM G 2 yX12_seed cX12_seed 2 (some .boolean) [.ref (zad G 69), .int x1] σ (some (.int q)) τ := by
  unfold F_X12_seed at h
  refine zM.of (own := RX12) (by decide +kernel) rfl (Nat.le_of_ble_eq_true rfl) (fun C hR => ?_)
  exact z_sub [0, 1] rfl (p_X12_seed_0 hR x1 σ h)
noncomputable def F_X10_takeOver_26_1_0 (σ : zSt) : Option (Unit × zSt) :=
  nm (zrow σ 27 (va_cpy (σ.1 2) (σ.1 27) 0 0 16)) (fun s1 =>
    nm (zrow s1 28 (va_cpy (s1.1 3) (s1.1 28) 0 0 8)) (fun s2 =>
      nm (zrow s2 29 (va_cpy (s2.1 4) (s2.1 29) 0 0 8)) (fun s3 =>
        nm (zrow s3 30 (va_cpy (s3.1 5) (s3.1 30) 0 0 8)) (fun s4 =>
          nm (zrow s4 31 (va_cpy (s4.1 6) (s4.1 31) 0 0 8)) (fun s5 =>
            nm (zrow s5 32 (va_cpy (s5.1 7) (s5.1 32) 0 0 8)) (fun s6 =>
              nm (zwr s6 26 6 (s6.1 1 6)) (fun s7 =>
                nm (zwr s7 26 7 (s7.1 1 7)) (fun s8 =>
                  nm (zwr s8 26 8 (s8.1 1 8)) (fun s9 =>
                    nm (zwr s9 26 9 (s9.1 1 9)) (fun s10 =>
                      nm (zwr s10 26 10 (s10.1 1 10)) (fun s11 =>
                        nm (zwr s11 26 11 (s11.1 1 11)) (fun s12 =>
                          nm (zwr s12 26 12 (s12.1 1 12)) (fun s13 =>
                            some ((), s13))))))))))))))
set_option maxHeartbeats 4000000 in
set_option maxRecDepth 100000 in
theorem p_X10_takeOver_26_1_0 {G : zG} {C : zC} {r : Unit} {τ : zSt} (hR : zR G C none none τ)  (σ : zSt) (h : F_X10_takeOver_26_1_0 σ = some (r, τ)) : zAW G 1 RX10 cX10_takeOver 2 C 0 [(0, .ref (zad G 26)), (1, .ref (zad G 1))] [] σ := by
  unfold F_X10_takeOver_26_1_0 at h
  refine z_aload e_X10_takeOver_0 1 rfl ?_
  refine z_getr gf_X10_9_1 e_X10_takeOver_1 ?_
  refine z_ic e_X10_takeOver_4 ?_
  refine z_aload e_X10_takeOver_5 0 rfl ?_
  refine z_getr gf_X10_9_26 e_X10_takeOver_6 ?_
  refine z_ic e_X10_takeOver_9 ?_
  refine z_ic e_X10_takeOver_10 ?_
  refine z_copyi ac_X10_40 sh_2 sh_27 ⟨by decide, rfl⟩ ⟨by decide, by decide⟩ (by decide) e_X10_takeOver_12 h (fun s1 h => ?_)
  refine z_aload e_X10_takeOver_15 1 rfl ?_
  refine z_getr gf_X10_15_1 e_X10_takeOver_16 ?_
  refine z_ic e_X10_takeOver_19 ?_
  refine z_aload e_X10_takeOver_20 0 rfl ?_
  refine z_getr gf_X10_15_26 e_X10_takeOver_21 ?_
  refine z_ic e_X10_takeOver_24 ?_
  refine z_ic e_X10_takeOver_25 ?_
  refine z_copyi ac_X10_40 sh_3 sh_28 ⟨by decide, rfl⟩ ⟨by decide, by decide⟩ (by decide) e_X10_takeOver_27 h (fun s2 h => ?_)
  refine z_aload e_X10_takeOver_30 1 rfl ?_
  refine z_getr gf_X10_18_1 e_X10_takeOver_31 ?_
  refine z_ic e_X10_takeOver_34 ?_
  refine z_aload e_X10_takeOver_35 0 rfl ?_
  refine z_getr gf_X10_18_26 e_X10_takeOver_36 ?_
  refine z_ic e_X10_takeOver_39 ?_
  refine z_ic e_X10_takeOver_40 ?_
  refine z_copyi ac_X10_40 sh_4 sh_29 ⟨by decide, rfl⟩ ⟨by decide, by decide⟩ (by decide) e_X10_takeOver_42 h (fun s3 h => ?_)
  refine z_aload e_X10_takeOver_45 1 rfl ?_
  refine z_getr gf_X10_21_1 e_X10_takeOver_46 ?_
  refine z_ic e_X10_takeOver_49 ?_
  refine z_aload e_X10_takeOver_50 0 rfl ?_
  refine z_getr gf_X10_21_26 e_X10_takeOver_51 ?_
  refine z_ic e_X10_takeOver_54 ?_
  refine z_ic e_X10_takeOver_55 ?_
  refine z_copyi ac_X10_40 sh_5 sh_30 ⟨by decide, rfl⟩ ⟨by decide, by decide⟩ (by decide) e_X10_takeOver_57 h (fun s4 h => ?_)
  refine z_aload e_X10_takeOver_60 1 rfl ?_
  refine z_getr gf_X10_24_1 e_X10_takeOver_61 ?_
  refine z_ic e_X10_takeOver_64 ?_
  refine z_aload e_X10_takeOver_65 0 rfl ?_
  refine z_getr gf_X10_24_26 e_X10_takeOver_66 ?_
  refine z_ic e_X10_takeOver_69 ?_
  refine z_ic e_X10_takeOver_70 ?_
  refine z_copyi ac_X10_40 sh_6 sh_31 ⟨by decide, rfl⟩ ⟨by decide, by decide⟩ (by decide) e_X10_takeOver_72 h (fun s5 h => ?_)
  refine z_aload e_X10_takeOver_75 1 rfl ?_
  refine z_getr gf_X10_27_1 e_X10_takeOver_76 ?_
  refine z_ic e_X10_takeOver_79 ?_
  refine z_aload e_X10_takeOver_80 0 rfl ?_
  refine z_getr gf_X10_27_26 e_X10_takeOver_81 ?_
  refine z_ic e_X10_takeOver_84 ?_
  refine z_ic e_X10_takeOver_85 ?_
  refine z_copyi ac_X10_40 sh_7 sh_32 ⟨by decide, rfl⟩ ⟨by decide, by decide⟩ (by decide) e_X10_takeOver_87 h (fun s6 h => ?_)
  refine z_aload e_X10_takeOver_90 0 rfl ?_
  refine z_aload e_X10_takeOver_91 1 rfl ?_
  refine z_geti gf_X10_46_1 e_X10_takeOver_92 ?_
  refine z_puti pf_X10_46_26 e_X10_takeOver_95 h (fun s7 h => ?_)
  refine z_aload e_X10_takeOver_98 0 rfl ?_
  refine z_aload e_X10_takeOver_99 1 rfl ?_
  refine z_geti gf_X10_49_1 e_X10_takeOver_100 ?_
  refine z_puti pf_X10_49_26 e_X10_takeOver_103 h (fun s8 h => ?_)
  refine z_aload e_X10_takeOver_106 0 rfl ?_
  refine z_aload e_X10_takeOver_107 1 rfl ?_
  refine z_geti gf_X10_52_1 e_X10_takeOver_108 ?_
  refine z_puti pf_X10_52_26 e_X10_takeOver_111 h (fun s9 h => ?_)
  refine z_aload e_X10_takeOver_114 0 rfl ?_
  refine z_aload e_X10_takeOver_115 1 rfl ?_
  refine z_geti gf_X10_55_1 e_X10_takeOver_116 ?_
  refine z_puti pf_X10_55_26 e_X10_takeOver_119 h (fun s10 h => ?_)
  refine z_aload e_X10_takeOver_122 0 rfl ?_
  refine z_aload e_X10_takeOver_123 1 rfl ?_
  refine z_geti gf_X10_30_1 e_X10_takeOver_124 ?_
  refine z_puti pf_X10_30_26 e_X10_takeOver_127 h (fun s11 h => ?_)
  refine z_aload e_X10_takeOver_130 0 rfl ?_
  refine z_aload e_X10_takeOver_131 1 rfl ?_
  refine z_geti gf_X10_34_1 e_X10_takeOver_132 ?_
  refine z_puti pf_X10_34_26 e_X10_takeOver_135 h (fun s12 h => ?_)
  refine z_aload e_X10_takeOver_138 0 rfl ?_
  refine z_aload e_X10_takeOver_139 1 rfl ?_
  refine z_geti gf_X10_37_1 e_X10_takeOver_140 ?_
  refine z_puti pf_X10_37_26 e_X10_takeOver_143 h (fun s13 h => ?_)
  cases h
  exact z_vreturn hR e_X10_takeOver_146
noncomputable def F_X10_takeOver_26_1 (σ : zSt) : Option (Unit × zSt) := F_X10_takeOver_26_1_0  σ
set_option maxRecDepth 100000 in
theorem m_X10_takeOver_26_1 (G : zG) (σ : zSt) (q : Unit) (τ : zSt) (h : F_X10_takeOver_26_1  σ = some (q, τ)) : zM G 1 yX10_takeOver cX10_takeOver 2 none [.ref (zad G 26), .ref (zad G 1)] σ none τ := by
  unfold F_X10_takeOver_26_1 at h
  refine zM.of (own := RX10) (by decide +kernel) rfl (Nat.le_of_ble_eq_true rfl) (fun C hR => ?_)
  exact z_sub [0, 1] rfl (p_X10_takeOver_26_1_0 hR  σ h)
noncomputable def F_X11_keep_0 (σ : zSt) : Option (Int32 × zSt) :=
  bd (F_X10_takeOver_26_1 σ) (fun _ s1 =>
    nm (zwr s1 0 2 (1 : Int32)) (fun s4 =>
      bd (F_J6_bitCount_0f7a4 (s4.1 1 6) s4) (fun q6 s5 =>
        some (q6, s5))))
set_option maxHeartbeats 4000000 in
set_option maxRecDepth 100000 in
theorem p_X11_keep_0 {G : zG} {C : zC} {r : Int32} {τ : zSt} (hR : zR G C (some .int) (some (.int r)) τ)  (σ : zSt) (h : F_X11_keep_0 σ = some (r, τ)) : zAW G 2 RX11 cX11_keep 1 C 0 [(0, .ref (zad G 0))] [] σ := by
  unfold F_X11_keep_0 at h
  refine z_aload e_X11_keep_0 0 rfl ?_
  refine z_getr gf_X11_29_0 e_X11_keep_1 ?_
  refine z_aload e_X11_keep_4 0 rfl ?_
  refine z_getr gf_X11_23_0 e_X11_keep_5 ?_
  obtain ⟨q2, s1, e3, h⟩ := bd_e h
  refine z_callVv (c0 := 26) (As := [.ref (zad G 1)]) (rest := []) lk_X11_270 ob_26 e_X11_keep_8 (m_X10_takeOver_26_1 G σ _ _ e3) (by decide) rfl (Nat.le_of_ble_eq_true rfl) ?_
  refine z_aload e_X11_keep_11 0 rfl ?_
  refine z_ic e_X11_keep_12 ?_
  refine z_putb pf_X11_32_0 e_X11_keep_13 (Or.inr rfl) h (fun s4 h => ?_)
  refine z_aload e_X11_keep_16 0 rfl ?_
  refine z_getr gf_X11_23_0 e_X11_keep_17 ?_
  refine z_geti gf_X11_272_1 e_X11_keep_20 ?_
  obtain ⟨q6, s5, e7, h⟩ := bd_e h
  refine z_callSi (As := [.int (s4.1 1 6)]) (rest := []) lk_X11_275 e_X11_keep_23 (m_J6_bitCount_0f7a4 G (s4.1 1 6) s4 _ _ e7) (by decide) rfl (Nat.le_of_ble_eq_true rfl) ?_
  cases h
  exact z_ireturn hR e_X11_keep_26
noncomputable def F_X11_keep (σ : zSt) : Option (Int32 × zSt) := F_X11_keep_0  σ
set_option maxRecDepth 100000 in
theorem m_X11_keep (G : zG) (σ : zSt) (q : Int32) (τ : zSt) (h : F_X11_keep  σ = some (q, τ)) : zM G 2 yX11_keep cX11_keep 1 (some .int) [.ref (zad G 0)] σ (some (.int q)) τ := by
  unfold F_X11_keep at h
  refine zM.of (own := RX11) (by decide +kernel) rfl (Nat.le_of_ble_eq_true rfl) (fun C hR => ?_)
  exact z_sub [0] rfl (p_X11_keep_0 hR  σ h)
noncomputable def F_X12_copies_70_105_2 (x2 : Int32) (w2 : (Int32 × zSt) → Option (Unit × zSt)) (x3 : Int32) (σ : zSt) : Option (Unit × zSt) :=
  if x2 ≤ x3 then (
    some ((), σ))
  else (
    gd (vp_in x3 16) (
      gd (vp_in x3 16) (nm (zwr σ 105 x3.toNatClampNeg (σ.1 70 x3.toNatClampNeg)) (fun s2 =>
        nm (x3 + (1 : Int32)) (fun v3 =>
          w2 (v3, s2))))))
set_option maxHeartbeats 4000000 in
set_option maxRecDepth 100000 in
theorem b_X12_copies_70_105_2 {G : zG} {C : zC} {r : Unit} {τ : zSt} (hR : zR G C none none τ) (x2 : Int32) (w2 : (Int32 × zSt) → Option (Unit × zSt)) (hw2 : ∀ (x3 : Int32) (σ : zSt), w2 (x3, σ) = some (r, τ) → zAW G 1 RX12 cX12_copies 4 C 2 [(0, .ref (zad G 70)), (1, .ref (zad G 105)), (2, .int x2), (3, .int x3)] [] σ) (x3 : Int32) (σ : zSt) (h : F_X12_copies_70_105_2 x2 w2 x3 σ = some (r, τ)) : zAW G 1 RX12 cX12_copies 4 C 2 [(0, .ref (zad G 70)), (1, .ref (zad G 105)), (2, .int x2), (3, .int x3)] [] σ := by
  unfold F_X12_copies_70_105_2 at h
  refine z_iload e_X12_copies_2 3 rfl ?_
  refine z_iload e_X12_copies_3 2 rfl ?_
  refine z_icmp_ge e_X12_copies_4 h (fun c1 h => ?_) (fun c1 h => ?_)
  · cases h
    exact z_vreturn hR e_X12_copies_19
  · refine z_aload e_X12_copies_7 1 rfl ?_
    refine z_iload e_X12_copies_8 3 rfl ?_
    refine z_aload e_X12_copies_9 0 rfl ?_
    refine z_iload e_X12_copies_10 3 rfl ?_
    refine z_iald sh_70 e_X12_copies_11 h (fun h => ?_)
    refine z_iast sh_105 e_X12_copies_12 h (fun s2 h => ?_)
    refine z_iinc e_X12_copies_13 3 rfl (by decide) (by decide) h (fun y => [(3, .int y), (0, .ref (zad G 70)), (1, .ref (zad G 105)), (2, .int x2)]) (fun _ => rfl) (fun v3 h => ?_)
    refine z_goto e_X12_copies_16 ?_
    exact z_sub [1, 2, 3, 0] rfl (hw2 v3 s2 h)
noncomputable def F_X12_copies_70_105_2L (x2 : Int32) : ((Int32 × zSt) → Option (Unit × zSt)) → (Int32 × zSt) → Option (Unit × zSt) := fun w s => F_X12_copies_70_105_2 x2 w s.1 s.2
set_option maxRecDepth 100000 in
theorem l_X12_copies_70_105_2 {G : zG} {C : zC} {r : Unit} {τ : zSt} (hR : zR G C none none τ) (x2 : Int32) : ∀ (N : Nat) (x3 : Int32) (σ : zSt), zfix (F_X12_copies_70_105_2L x2) N (x3, σ) = some (r, τ) → zAW G 1 RX12 cX12_copies 4 C 2 [(0, .ref (zad G 70)), (1, .ref (zad G 105)), (2, .int x2), (3, .int x3)] [] σ := by
  intro N
  induction N with
  | zero =>
    intro x3 σ h
    exact nomatch (show (none : Option (Unit × zSt)) = some (r, τ) from h)
  | succ N ih =>
    intro x3 σ h
    exact b_X12_copies_70_105_2 hR x2 (zfix (F_X12_copies_70_105_2L x2) N) ih x3 σ h
noncomputable def F_X12_copies_70_105_0 (x2 : Int32) (σ : zSt) : Option (Unit × zSt) :=
  zfix (F_X12_copies_70_105_2L x2) zlim ((0 : Int32), σ)
set_option maxHeartbeats 4000000 in
set_option maxRecDepth 100000 in
theorem p_X12_copies_70_105_0 {G : zG} {C : zC} {r : Unit} {τ : zSt} (hR : zR G C none none τ) (x2 : Int32) (σ : zSt) (h : F_X12_copies_70_105_0 x2 σ = some (r, τ)) : zAW G 1 RX12 cX12_copies 4 C 0 [(0, .ref (zad G 70)), (1, .ref (zad G 105)), (2, .int x2)] [] σ := by
  unfold F_X12_copies_70_105_0 at h
  refine z_ic e_X12_copies_0 ?_
  refine z_istore e_X12_copies_1 (by decide) [(3, .int (0 : Int32)), (0, .ref (zad G 70)), (1, .ref (zad G 105)), (2, .int x2)] rfl ?_
  exact z_sub [1, 2, 3, 0] rfl (l_X12_copies_70_105_2 hR x2 zlim (0 : Int32) σ h)
noncomputable def F_X12_copies_70_105 (x2 : Int32) (σ : zSt) : Option (Unit × zSt) := F_X12_copies_70_105_0 x2 σ
set_option maxRecDepth 100000 in
theorem m_X12_copies_70_105 (G : zG) (x2 : Int32) (σ : zSt) (q : Unit) (τ : zSt) (h : F_X12_copies_70_105 x2 σ = some (q, τ)) : zM G 1 yX12_copies cX12_copies 4 none [.ref (zad G 70), .ref (zad G 105), .int x2] σ none τ := by
  unfold F_X12_copies_70_105 at h
  refine zM.of (own := RX12) (by decide +kernel) rfl (Nat.le_of_ble_eq_true rfl) (fun C hR => ?_)
  exact z_sub [0, 1, 2] rfl (p_X12_copies_70_105_0 hR x2 σ h)
noncomputable def F_X12_copies_71_106_2 (x2 : Int32) (w2 : (Int32 × zSt) → Option (Unit × zSt)) (x3 : Int32) (σ : zSt) : Option (Unit × zSt) :=
  if x2 ≤ x3 then (
    some ((), σ))
  else (
    gd (vp_in x3 8) (
      gd (vp_in x3 8) (nm (zwr σ 106 x3.toNatClampNeg (σ.1 71 x3.toNatClampNeg)) (fun s2 =>
        nm (x3 + (1 : Int32)) (fun v3 =>
          w2 (v3, s2))))))
set_option maxHeartbeats 4000000 in
set_option maxRecDepth 100000 in
theorem b_X12_copies_71_106_2 {G : zG} {C : zC} {r : Unit} {τ : zSt} (hR : zR G C none none τ) (x2 : Int32) (w2 : (Int32 × zSt) → Option (Unit × zSt)) (hw2 : ∀ (x3 : Int32) (σ : zSt), w2 (x3, σ) = some (r, τ) → zAW G 1 RX12 cX12_copies 4 C 2 [(0, .ref (zad G 71)), (1, .ref (zad G 106)), (2, .int x2), (3, .int x3)] [] σ) (x3 : Int32) (σ : zSt) (h : F_X12_copies_71_106_2 x2 w2 x3 σ = some (r, τ)) : zAW G 1 RX12 cX12_copies 4 C 2 [(0, .ref (zad G 71)), (1, .ref (zad G 106)), (2, .int x2), (3, .int x3)] [] σ := by
  unfold F_X12_copies_71_106_2 at h
  refine z_iload e_X12_copies_2 3 rfl ?_
  refine z_iload e_X12_copies_3 2 rfl ?_
  refine z_icmp_ge e_X12_copies_4 h (fun c1 h => ?_) (fun c1 h => ?_)
  · cases h
    exact z_vreturn hR e_X12_copies_19
  · refine z_aload e_X12_copies_7 1 rfl ?_
    refine z_iload e_X12_copies_8 3 rfl ?_
    refine z_aload e_X12_copies_9 0 rfl ?_
    refine z_iload e_X12_copies_10 3 rfl ?_
    refine z_iald sh_71 e_X12_copies_11 h (fun h => ?_)
    refine z_iast sh_106 e_X12_copies_12 h (fun s2 h => ?_)
    refine z_iinc e_X12_copies_13 3 rfl (by decide) (by decide) h (fun y => [(3, .int y), (0, .ref (zad G 71)), (1, .ref (zad G 106)), (2, .int x2)]) (fun _ => rfl) (fun v3 h => ?_)
    refine z_goto e_X12_copies_16 ?_
    exact z_sub [1, 2, 3, 0] rfl (hw2 v3 s2 h)
noncomputable def F_X12_copies_71_106_2L (x2 : Int32) : ((Int32 × zSt) → Option (Unit × zSt)) → (Int32 × zSt) → Option (Unit × zSt) := fun w s => F_X12_copies_71_106_2 x2 w s.1 s.2
set_option maxRecDepth 100000 in
theorem l_X12_copies_71_106_2 {G : zG} {C : zC} {r : Unit} {τ : zSt} (hR : zR G C none none τ) (x2 : Int32) : ∀ (N : Nat) (x3 : Int32) (σ : zSt), zfix (F_X12_copies_71_106_2L x2) N (x3, σ) = some (r, τ) → zAW G 1 RX12 cX12_copies 4 C 2 [(0, .ref (zad G 71)), (1, .ref (zad G 106)), (2, .int x2), (3, .int x3)] [] σ := by
  intro N
  induction N with
  | zero =>
    intro x3 σ h
    exact nomatch (show (none : Option (Unit × zSt)) = some (r, τ) from h)
  | succ N ih =>
    intro x3 σ h
    exact b_X12_copies_71_106_2 hR x2 (zfix (F_X12_copies_71_106_2L x2) N) ih x3 σ h
noncomputable def F_X12_copies_71_106_0 (x2 : Int32) (σ : zSt) : Option (Unit × zSt) :=
  zfix (F_X12_copies_71_106_2L x2) zlim ((0 : Int32), σ)
set_option maxHeartbeats 4000000 in
set_option maxRecDepth 100000 in
theorem p_X12_copies_71_106_0 {G : zG} {C : zC} {r : Unit} {τ : zSt} (hR : zR G C none none τ) (x2 : Int32) (σ : zSt) (h : F_X12_copies_71_106_0 x2 σ = some (r, τ)) : zAW G 1 RX12 cX12_copies 4 C 0 [(0, .ref (zad G 71)), (1, .ref (zad G 106)), (2, .int x2)] [] σ := by
  unfold F_X12_copies_71_106_0 at h
  refine z_ic e_X12_copies_0 ?_
  refine z_istore e_X12_copies_1 (by decide) [(3, .int (0 : Int32)), (0, .ref (zad G 71)), (1, .ref (zad G 106)), (2, .int x2)] rfl ?_
  exact z_sub [1, 2, 3, 0] rfl (l_X12_copies_71_106_2 hR x2 zlim (0 : Int32) σ h)
noncomputable def F_X12_copies_71_106 (x2 : Int32) (σ : zSt) : Option (Unit × zSt) := F_X12_copies_71_106_0 x2 σ
set_option maxRecDepth 100000 in
theorem m_X12_copies_71_106 (G : zG) (x2 : Int32) (σ : zSt) (q : Unit) (τ : zSt) (h : F_X12_copies_71_106 x2 σ = some (q, τ)) : zM G 1 yX12_copies cX12_copies 4 none [.ref (zad G 71), .ref (zad G 106), .int x2] σ none τ := by
  unfold F_X12_copies_71_106 at h
  refine zM.of (own := RX12) (by decide +kernel) rfl (Nat.le_of_ble_eq_true rfl) (fun C hR => ?_)
  exact z_sub [0, 1, 2] rfl (p_X12_copies_71_106_0 hR x2 σ h)
noncomputable def F_X12_copies_72_107_2 (x2 : Int32) (w2 : (Int32 × zSt) → Option (Unit × zSt)) (x3 : Int32) (σ : zSt) : Option (Unit × zSt) :=
  if x2 ≤ x3 then (
    some ((), σ))
  else (
    gd (vp_in x3 8) (
      gd (vp_in x3 8) (nm (zwr σ 107 x3.toNatClampNeg (σ.1 72 x3.toNatClampNeg)) (fun s2 =>
        nm (x3 + (1 : Int32)) (fun v3 =>
          w2 (v3, s2))))))
set_option maxHeartbeats 4000000 in
set_option maxRecDepth 100000 in
theorem b_X12_copies_72_107_2 {G : zG} {C : zC} {r : Unit} {τ : zSt} (hR : zR G C none none τ) (x2 : Int32) (w2 : (Int32 × zSt) → Option (Unit × zSt)) (hw2 : ∀ (x3 : Int32) (σ : zSt), w2 (x3, σ) = some (r, τ) → zAW G 1 RX12 cX12_copies 4 C 2 [(0, .ref (zad G 72)), (1, .ref (zad G 107)), (2, .int x2), (3, .int x3)] [] σ) (x3 : Int32) (σ : zSt) (h : F_X12_copies_72_107_2 x2 w2 x3 σ = some (r, τ)) : zAW G 1 RX12 cX12_copies 4 C 2 [(0, .ref (zad G 72)), (1, .ref (zad G 107)), (2, .int x2), (3, .int x3)] [] σ := by
  unfold F_X12_copies_72_107_2 at h
  refine z_iload e_X12_copies_2 3 rfl ?_
  refine z_iload e_X12_copies_3 2 rfl ?_
  refine z_icmp_ge e_X12_copies_4 h (fun c1 h => ?_) (fun c1 h => ?_)
  · cases h
    exact z_vreturn hR e_X12_copies_19
  · refine z_aload e_X12_copies_7 1 rfl ?_
    refine z_iload e_X12_copies_8 3 rfl ?_
    refine z_aload e_X12_copies_9 0 rfl ?_
    refine z_iload e_X12_copies_10 3 rfl ?_
    refine z_iald sh_72 e_X12_copies_11 h (fun h => ?_)
    refine z_iast sh_107 e_X12_copies_12 h (fun s2 h => ?_)
    refine z_iinc e_X12_copies_13 3 rfl (by decide) (by decide) h (fun y => [(3, .int y), (0, .ref (zad G 72)), (1, .ref (zad G 107)), (2, .int x2)]) (fun _ => rfl) (fun v3 h => ?_)
    refine z_goto e_X12_copies_16 ?_
    exact z_sub [1, 2, 3, 0] rfl (hw2 v3 s2 h)
noncomputable def F_X12_copies_72_107_2L (x2 : Int32) : ((Int32 × zSt) → Option (Unit × zSt)) → (Int32 × zSt) → Option (Unit × zSt) := fun w s => F_X12_copies_72_107_2 x2 w s.1 s.2
set_option maxRecDepth 100000 in
theorem l_X12_copies_72_107_2 {G : zG} {C : zC} {r : Unit} {τ : zSt} (hR : zR G C none none τ) (x2 : Int32) : ∀ (N : Nat) (x3 : Int32) (σ : zSt), zfix (F_X12_copies_72_107_2L x2) N (x3, σ) = some (r, τ) → zAW G 1 RX12 cX12_copies 4 C 2 [(0, .ref (zad G 72)), (1, .ref (zad G 107)), (2, .int x2), (3, .int x3)] [] σ := by
  intro N
  induction N with
  | zero =>
    intro x3 σ h
    exact nomatch (show (none : Option (Unit × zSt)) = some (r, τ) from h)
  | succ N ih =>
    intro x3 σ h
    exact b_X12_copies_72_107_2 hR x2 (zfix (F_X12_copies_72_107_2L x2) N) ih x3 σ h
noncomputable def F_X12_copies_72_107_0 (x2 : Int32) (σ : zSt) : Option (Unit × zSt) :=
  zfix (F_X12_copies_72_107_2L x2) zlim ((0 : Int32), σ)
set_option maxHeartbeats 4000000 in
set_option maxRecDepth 100000 in
theorem p_X12_copies_72_107_0 {G : zG} {C : zC} {r : Unit} {τ : zSt} (hR : zR G C none none τ) (x2 : Int32) (σ : zSt) (h : F_X12_copies_72_107_0 x2 σ = some (r, τ)) : zAW G 1 RX12 cX12_copies 4 C 0 [(0, .ref (zad G 72)), (1, .ref (zad G 107)), (2, .int x2)] [] σ := by
  unfold F_X12_copies_72_107_0 at h
  refine z_ic e_X12_copies_0 ?_
  refine z_istore e_X12_copies_1 (by decide) [(3, .int (0 : Int32)), (0, .ref (zad G 72)), (1, .ref (zad G 107)), (2, .int x2)] rfl ?_
  exact z_sub [1, 2, 3, 0] rfl (l_X12_copies_72_107_2 hR x2 zlim (0 : Int32) σ h)
noncomputable def F_X12_copies_72_107 (x2 : Int32) (σ : zSt) : Option (Unit × zSt) := F_X12_copies_72_107_0 x2 σ
set_option maxRecDepth 100000 in
theorem m_X12_copies_72_107 (G : zG) (x2 : Int32) (σ : zSt) (q : Unit) (τ : zSt) (h : F_X12_copies_72_107 x2 σ = some (q, τ)) : zM G 1 yX12_copies cX12_copies 4 none [.ref (zad G 72), .ref (zad G 107), .int x2] σ none τ := by
  unfold F_X12_copies_72_107 at h
  refine zM.of (own := RX12) (by decide +kernel) rfl (Nat.le_of_ble_eq_true rfl) (fun C hR => ?_)
  exact z_sub [0, 1, 2] rfl (p_X12_copies_72_107_0 hR x2 σ h)
noncomputable def F_X12_copies_73_108_2 (x2 : Int32) (w2 : (Int32 × zSt) → Option (Unit × zSt)) (x3 : Int32) (σ : zSt) : Option (Unit × zSt) :=
  if x2 ≤ x3 then (
    some ((), σ))
  else (
    gd (vp_in x3 8) (
      gd (vp_in x3 8) (nm (zwr σ 108 x3.toNatClampNeg (σ.1 73 x3.toNatClampNeg)) (fun s2 =>
        nm (x3 + (1 : Int32)) (fun v3 =>
          w2 (v3, s2))))))
set_option maxHeartbeats 4000000 in
set_option maxRecDepth 100000 in
theorem b_X12_copies_73_108_2 {G : zG} {C : zC} {r : Unit} {τ : zSt} (hR : zR G C none none τ) (x2 : Int32) (w2 : (Int32 × zSt) → Option (Unit × zSt)) (hw2 : ∀ (x3 : Int32) (σ : zSt), w2 (x3, σ) = some (r, τ) → zAW G 1 RX12 cX12_copies 4 C 2 [(0, .ref (zad G 73)), (1, .ref (zad G 108)), (2, .int x2), (3, .int x3)] [] σ) (x3 : Int32) (σ : zSt) (h : F_X12_copies_73_108_2 x2 w2 x3 σ = some (r, τ)) : zAW G 1 RX12 cX12_copies 4 C 2 [(0, .ref (zad G 73)), (1, .ref (zad G 108)), (2, .int x2), (3, .int x3)] [] σ := by
  unfold F_X12_copies_73_108_2 at h
  refine z_iload e_X12_copies_2 3 rfl ?_
  refine z_iload e_X12_copies_3 2 rfl ?_
  refine z_icmp_ge e_X12_copies_4 h (fun c1 h => ?_) (fun c1 h => ?_)
  · cases h
    exact z_vreturn hR e_X12_copies_19
  · refine z_aload e_X12_copies_7 1 rfl ?_
    refine z_iload e_X12_copies_8 3 rfl ?_
    refine z_aload e_X12_copies_9 0 rfl ?_
    refine z_iload e_X12_copies_10 3 rfl ?_
    refine z_iald sh_73 e_X12_copies_11 h (fun h => ?_)
    refine z_iast sh_108 e_X12_copies_12 h (fun s2 h => ?_)
    refine z_iinc e_X12_copies_13 3 rfl (by decide) (by decide) h (fun y => [(3, .int y), (0, .ref (zad G 73)), (1, .ref (zad G 108)), (2, .int x2)]) (fun _ => rfl) (fun v3 h => ?_)
    refine z_goto e_X12_copies_16 ?_
    exact z_sub [1, 2, 3, 0] rfl (hw2 v3 s2 h)
noncomputable def F_X12_copies_73_108_2L (x2 : Int32) : ((Int32 × zSt) → Option (Unit × zSt)) → (Int32 × zSt) → Option (Unit × zSt) := fun w s => F_X12_copies_73_108_2 x2 w s.1 s.2
set_option maxRecDepth 100000 in
theorem l_X12_copies_73_108_2 {G : zG} {C : zC} {r : Unit} {τ : zSt} (hR : zR G C none none τ) (x2 : Int32) : ∀ (N : Nat) (x3 : Int32) (σ : zSt), zfix (F_X12_copies_73_108_2L x2) N (x3, σ) = some (r, τ) → zAW G 1 RX12 cX12_copies 4 C 2 [(0, .ref (zad G 73)), (1, .ref (zad G 108)), (2, .int x2), (3, .int x3)] [] σ := by
  intro N
  induction N with
  | zero =>
    intro x3 σ h
    exact nomatch (show (none : Option (Unit × zSt)) = some (r, τ) from h)
  | succ N ih =>
    intro x3 σ h
    exact b_X12_copies_73_108_2 hR x2 (zfix (F_X12_copies_73_108_2L x2) N) ih x3 σ h
noncomputable def F_X12_copies_73_108_0 (x2 : Int32) (σ : zSt) : Option (Unit × zSt) :=
  zfix (F_X12_copies_73_108_2L x2) zlim ((0 : Int32), σ)
set_option maxHeartbeats 4000000 in
set_option maxRecDepth 100000 in
theorem p_X12_copies_73_108_0 {G : zG} {C : zC} {r : Unit} {τ : zSt} (hR : zR G C none none τ) (x2 : Int32) (σ : zSt) (h : F_X12_copies_73_108_0 x2 σ = some (r, τ)) : zAW G 1 RX12 cX12_copies 4 C 0 [(0, .ref (zad G 73)), (1, .ref (zad G 108)), (2, .int x2)] [] σ := by
  unfold F_X12_copies_73_108_0 at h
  refine z_ic e_X12_copies_0 ?_
  refine z_istore e_X12_copies_1 (by decide) [(3, .int (0 : Int32)), (0, .ref (zad G 73)), (1, .ref (zad G 108)), (2, .int x2)] rfl ?_
  exact z_sub [1, 2, 3, 0] rfl (l_X12_copies_73_108_2 hR x2 zlim (0 : Int32) σ h)
noncomputable def F_X12_copies_73_108 (x2 : Int32) (σ : zSt) : Option (Unit × zSt) := F_X12_copies_73_108_0 x2 σ
set_option maxRecDepth 100000 in
theorem m_X12_copies_73_108 (G : zG) (x2 : Int32) (σ : zSt) (q : Unit) (τ : zSt) (h : F_X12_copies_73_108 x2 σ = some (q, τ)) : zM G 1 yX12_copies cX12_copies 4 none [.ref (zad G 73), .ref (zad G 108), .int x2] σ none τ := by
  unfold F_X12_copies_73_108 at h
  refine zM.of (own := RX12) (by decide +kernel) rfl (Nat.le_of_ble_eq_true rfl) (fun C hR => ?_)
  exact z_sub [0, 1, 2] rfl (p_X12_copies_73_108_0 hR x2 σ h)
noncomputable def F_X12_copies_74_109_2 (x2 : Int32) (w2 : (Int32 × zSt) → Option (Unit × zSt)) (x3 : Int32) (σ : zSt) : Option (Unit × zSt) :=
  if x2 ≤ x3 then (
    some ((), σ))
  else (
    gd (vp_in x3 8) (
      gd (vp_in x3 8) (nm (zwr σ 109 x3.toNatClampNeg (σ.1 74 x3.toNatClampNeg)) (fun s2 =>
        nm (x3 + (1 : Int32)) (fun v3 =>
          w2 (v3, s2))))))
set_option maxHeartbeats 4000000 in
set_option maxRecDepth 100000 in
theorem b_X12_copies_74_109_2 {G : zG} {C : zC} {r : Unit} {τ : zSt} (hR : zR G C none none τ) (x2 : Int32) (w2 : (Int32 × zSt) → Option (Unit × zSt)) (hw2 : ∀ (x3 : Int32) (σ : zSt), w2 (x3, σ) = some (r, τ) → zAW G 1 RX12 cX12_copies 4 C 2 [(0, .ref (zad G 74)), (1, .ref (zad G 109)), (2, .int x2), (3, .int x3)] [] σ) (x3 : Int32) (σ : zSt) (h : F_X12_copies_74_109_2 x2 w2 x3 σ = some (r, τ)) : zAW G 1 RX12 cX12_copies 4 C 2 [(0, .ref (zad G 74)), (1, .ref (zad G 109)), (2, .int x2), (3, .int x3)] [] σ := by
  unfold F_X12_copies_74_109_2 at h
  refine z_iload e_X12_copies_2 3 rfl ?_
  refine z_iload e_X12_copies_3 2 rfl ?_
  refine z_icmp_ge e_X12_copies_4 h (fun c1 h => ?_) (fun c1 h => ?_)
  · cases h
    exact z_vreturn hR e_X12_copies_19
  · refine z_aload e_X12_copies_7 1 rfl ?_
    refine z_iload e_X12_copies_8 3 rfl ?_
    refine z_aload e_X12_copies_9 0 rfl ?_
    refine z_iload e_X12_copies_10 3 rfl ?_
    refine z_iald sh_74 e_X12_copies_11 h (fun h => ?_)
    refine z_iast sh_109 e_X12_copies_12 h (fun s2 h => ?_)
    refine z_iinc e_X12_copies_13 3 rfl (by decide) (by decide) h (fun y => [(3, .int y), (0, .ref (zad G 74)), (1, .ref (zad G 109)), (2, .int x2)]) (fun _ => rfl) (fun v3 h => ?_)
    refine z_goto e_X12_copies_16 ?_
    exact z_sub [1, 2, 3, 0] rfl (hw2 v3 s2 h)
noncomputable def F_X12_copies_74_109_2L (x2 : Int32) : ((Int32 × zSt) → Option (Unit × zSt)) → (Int32 × zSt) → Option (Unit × zSt) := fun w s => F_X12_copies_74_109_2 x2 w s.1 s.2
set_option maxRecDepth 100000 in
theorem l_X12_copies_74_109_2 {G : zG} {C : zC} {r : Unit} {τ : zSt} (hR : zR G C none none τ) (x2 : Int32) : ∀ (N : Nat) (x3 : Int32) (σ : zSt), zfix (F_X12_copies_74_109_2L x2) N (x3, σ) = some (r, τ) → zAW G 1 RX12 cX12_copies 4 C 2 [(0, .ref (zad G 74)), (1, .ref (zad G 109)), (2, .int x2), (3, .int x3)] [] σ := by
  intro N
  induction N with
  | zero =>
    intro x3 σ h
    exact nomatch (show (none : Option (Unit × zSt)) = some (r, τ) from h)
  | succ N ih =>
    intro x3 σ h
    exact b_X12_copies_74_109_2 hR x2 (zfix (F_X12_copies_74_109_2L x2) N) ih x3 σ h
noncomputable def F_X12_copies_74_109_0 (x2 : Int32) (σ : zSt) : Option (Unit × zSt) :=
  zfix (F_X12_copies_74_109_2L x2) zlim ((0 : Int32), σ)
set_option maxHeartbeats 4000000 in
set_option maxRecDepth 100000 in
theorem p_X12_copies_74_109_0 {G : zG} {C : zC} {r : Unit} {τ : zSt} (hR : zR G C none none τ) (x2 : Int32) (σ : zSt) (h : F_X12_copies_74_109_0 x2 σ = some (r, τ)) : zAW G 1 RX12 cX12_copies 4 C 0 [(0, .ref (zad G 74)), (1, .ref (zad G 109)), (2, .int x2)] [] σ := by
  unfold F_X12_copies_74_109_0 at h
  refine z_ic e_X12_copies_0 ?_
  refine z_istore e_X12_copies_1 (by decide) [(3, .int (0 : Int32)), (0, .ref (zad G 74)), (1, .ref (zad G 109)), (2, .int x2)] rfl ?_
  exact z_sub [1, 2, 3, 0] rfl (l_X12_copies_74_109_2 hR x2 zlim (0 : Int32) σ h)
noncomputable def F_X12_copies_74_109 (x2 : Int32) (σ : zSt) : Option (Unit × zSt) := F_X12_copies_74_109_0 x2 σ
set_option maxRecDepth 100000 in
theorem m_X12_copies_74_109 (G : zG) (x2 : Int32) (σ : zSt) (q : Unit) (τ : zSt) (h : F_X12_copies_74_109 x2 σ = some (q, τ)) : zM G 1 yX12_copies cX12_copies 4 none [.ref (zad G 74), .ref (zad G 109), .int x2] σ none τ := by
  unfold F_X12_copies_74_109 at h
  refine zM.of (own := RX12) (by decide +kernel) rfl (Nat.le_of_ble_eq_true rfl) (fun C hR => ?_)
  exact z_sub [0, 1, 2] rfl (p_X12_copies_74_109_0 hR x2 σ h)
noncomputable def F_X12_copies_75_110_2 (x2 : Int32) (w2 : (Int32 × zSt) → Option (Unit × zSt)) (x3 : Int32) (σ : zSt) : Option (Unit × zSt) :=
  if x2 ≤ x3 then (
    some ((), σ))
  else (
    gd (vp_in x3 8) (
      gd (vp_in x3 8) (nm (zwr σ 110 x3.toNatClampNeg (σ.1 75 x3.toNatClampNeg)) (fun s2 =>
        nm (x3 + (1 : Int32)) (fun v3 =>
          w2 (v3, s2))))))
set_option maxHeartbeats 4000000 in
set_option maxRecDepth 100000 in
theorem b_X12_copies_75_110_2 {G : zG} {C : zC} {r : Unit} {τ : zSt} (hR : zR G C none none τ) (x2 : Int32) (w2 : (Int32 × zSt) → Option (Unit × zSt)) (hw2 : ∀ (x3 : Int32) (σ : zSt), w2 (x3, σ) = some (r, τ) → zAW G 1 RX12 cX12_copies 4 C 2 [(0, .ref (zad G 75)), (1, .ref (zad G 110)), (2, .int x2), (3, .int x3)] [] σ) (x3 : Int32) (σ : zSt) (h : F_X12_copies_75_110_2 x2 w2 x3 σ = some (r, τ)) : zAW G 1 RX12 cX12_copies 4 C 2 [(0, .ref (zad G 75)), (1, .ref (zad G 110)), (2, .int x2), (3, .int x3)] [] σ := by
  unfold F_X12_copies_75_110_2 at h
  refine z_iload e_X12_copies_2 3 rfl ?_
  refine z_iload e_X12_copies_3 2 rfl ?_
  refine z_icmp_ge e_X12_copies_4 h (fun c1 h => ?_) (fun c1 h => ?_)
  · cases h
    exact z_vreturn hR e_X12_copies_19
  · refine z_aload e_X12_copies_7 1 rfl ?_
    refine z_iload e_X12_copies_8 3 rfl ?_
    refine z_aload e_X12_copies_9 0 rfl ?_
    refine z_iload e_X12_copies_10 3 rfl ?_
    refine z_iald sh_75 e_X12_copies_11 h (fun h => ?_)
    refine z_iast sh_110 e_X12_copies_12 h (fun s2 h => ?_)
    refine z_iinc e_X12_copies_13 3 rfl (by decide) (by decide) h (fun y => [(3, .int y), (0, .ref (zad G 75)), (1, .ref (zad G 110)), (2, .int x2)]) (fun _ => rfl) (fun v3 h => ?_)
    refine z_goto e_X12_copies_16 ?_
    exact z_sub [1, 2, 3, 0] rfl (hw2 v3 s2 h)
noncomputable def F_X12_copies_75_110_2L (x2 : Int32) : ((Int32 × zSt) → Option (Unit × zSt)) → (Int32 × zSt) → Option (Unit × zSt) := fun w s => F_X12_copies_75_110_2 x2 w s.1 s.2
set_option maxRecDepth 100000 in
theorem l_X12_copies_75_110_2 {G : zG} {C : zC} {r : Unit} {τ : zSt} (hR : zR G C none none τ) (x2 : Int32) : ∀ (N : Nat) (x3 : Int32) (σ : zSt), zfix (F_X12_copies_75_110_2L x2) N (x3, σ) = some (r, τ) → zAW G 1 RX12 cX12_copies 4 C 2 [(0, .ref (zad G 75)), (1, .ref (zad G 110)), (2, .int x2), (3, .int x3)] [] σ := by
  intro N
  induction N with
  | zero =>
    intro x3 σ h
    exact nomatch (show (none : Option (Unit × zSt)) = some (r, τ) from h)
  | succ N ih =>
    intro x3 σ h
    exact b_X12_copies_75_110_2 hR x2 (zfix (F_X12_copies_75_110_2L x2) N) ih x3 σ h
noncomputable def F_X12_copies_75_110_0 (x2 : Int32) (σ : zSt) : Option (Unit × zSt) :=
  zfix (F_X12_copies_75_110_2L x2) zlim ((0 : Int32), σ)
set_option maxHeartbeats 4000000 in
set_option maxRecDepth 100000 in
theorem p_X12_copies_75_110_0 {G : zG} {C : zC} {r : Unit} {τ : zSt} (hR : zR G C none none τ) (x2 : Int32) (σ : zSt) (h : F_X12_copies_75_110_0 x2 σ = some (r, τ)) : zAW G 1 RX12 cX12_copies 4 C 0 [(0, .ref (zad G 75)), (1, .ref (zad G 110)), (2, .int x2)] [] σ := by
  unfold F_X12_copies_75_110_0 at h
  refine z_ic e_X12_copies_0 ?_
  refine z_istore e_X12_copies_1 (by decide) [(3, .int (0 : Int32)), (0, .ref (zad G 75)), (1, .ref (zad G 110)), (2, .int x2)] rfl ?_
  exact z_sub [1, 2, 3, 0] rfl (l_X12_copies_75_110_2 hR x2 zlim (0 : Int32) σ h)
noncomputable def F_X12_copies_75_110 (x2 : Int32) (σ : zSt) : Option (Unit × zSt) := F_X12_copies_75_110_0 x2 σ
set_option maxRecDepth 100000 in
theorem m_X12_copies_75_110 (G : zG) (x2 : Int32) (σ : zSt) (q : Unit) (τ : zSt) (h : F_X12_copies_75_110 x2 σ = some (q, τ)) : zM G 1 yX12_copies cX12_copies 4 none [.ref (zad G 75), .ref (zad G 110), .int x2] σ none τ := by
  unfold F_X12_copies_75_110 at h
  refine zM.of (own := RX12) (by decide +kernel) rfl (Nat.le_of_ble_eq_true rfl) (fun C hR => ?_)
  exact z_sub [0, 1, 2] rfl (p_X12_copies_75_110_0 hR x2 σ h)
noncomputable def F_X12_keep_0 (σ : zSt) : Option (Int32 × zSt) :=
  nm (zwr σ 69 62 (1 : Int32)) (fun s1 =>
    nm (zwr s1 69 63 (s1.1 69 0)) (fun s2 =>
      nm (zwr s2 69 64 (s2.1 69 1)) (fun s3 =>
        nm (zwr s3 69 65 (s3.1 69 2)) (fun s4 =>
          nm (zwr s4 69 66 (s4.1 69 3)) (fun s5 =>
            nm (zwr s5 69 67 (s5.1 69 4)) (fun s6 =>
              nm (zwr s6 69 68 (s6.1 69 5)) (fun s7 =>
                nm (zwr s7 69 69 (s7.1 69 6)) (fun s8 =>
                  bd (F_X12_copies_70_105 (16 : Int32) s8) (fun _ s9 =>
                    bd (F_X12_copies_71_106 (8 : Int32) s9) (fun _ s12 =>
                      bd (F_X12_copies_72_107 (8 : Int32) s12) (fun _ s15 =>
                        bd (F_X12_copies_73_108 (8 : Int32) s15) (fun _ s18 =>
                          bd (F_X12_copies_74_109 (8 : Int32) s18) (fun _ s21 =>
                            bd (F_X12_copies_75_110 (8 : Int32) s21) (fun _ s24 =>
                              bd (F_X12_bits (s24.1 69 0) s24) (fun q28 s27 =>
                                some (q28, s27))))))))))))))))
set_option maxHeartbeats 4000000 in
set_option maxRecDepth 100000 in
theorem p_X12_keep_0 {G : zG} {C : zC} {r : Int32} {τ : zSt} (hR : zR G C (some .int) (some (.int r)) τ)  (σ : zSt) (h : F_X12_keep_0 σ = some (r, τ)) : zAW G 2 RX12 cX12_keep 1 C 0 [(0, .ref (zad G 69))] [] σ := by
  unfold F_X12_keep_0 at h
  refine z_aload e_X12_keep_0 0 rfl ?_
  refine z_ic e_X12_keep_1 ?_
  refine z_putb pf_X12_483_69 e_X12_keep_2 (Or.inr rfl) h (fun s1 h => ?_)
  refine z_aload e_X12_keep_5 0 rfl ?_
  refine z_aload e_X12_keep_6 0 rfl ?_
  refine z_geti gf_X12_153_69 e_X12_keep_7 ?_
  refine z_puti pf_X12_486_69 e_X12_keep_10 h (fun s2 h => ?_)
  refine z_aload e_X12_keep_13 0 rfl ?_
  refine z_aload e_X12_keep_14 0 rfl ?_
  refine z_geti gf_X12_170_69 e_X12_keep_15 ?_
  refine z_puti pf_X12_489_69 e_X12_keep_18 h (fun s3 h => ?_)
  refine z_aload e_X12_keep_21 0 rfl ?_
  refine z_aload e_X12_keep_22 0 rfl ?_
  refine z_geti gf_X12_173_69 e_X12_keep_23 ?_
  refine z_puti pf_X12_492_69 e_X12_keep_26 h (fun s4 h => ?_)
  refine z_aload e_X12_keep_29 0 rfl ?_
  refine z_aload e_X12_keep_30 0 rfl ?_
  refine z_geti gf_X12_135_69 e_X12_keep_31 ?_
  refine z_puti pf_X12_495_69 e_X12_keep_34 h (fun s5 h => ?_)
  refine z_aload e_X12_keep_37 0 rfl ?_
  refine z_aload e_X12_keep_38 0 rfl ?_
  refine z_geti gf_X12_307_69 e_X12_keep_39 ?_
  refine z_puti pf_X12_498_69 e_X12_keep_42 h (fun s6 h => ?_)
  refine z_aload e_X12_keep_45 0 rfl ?_
  refine z_aload e_X12_keep_46 0 rfl ?_
  refine z_geti gf_X12_139_69 e_X12_keep_47 ?_
  refine z_puti pf_X12_501_69 e_X12_keep_50 h (fun s7 h => ?_)
  refine z_aload e_X12_keep_53 0 rfl ?_
  refine z_aload e_X12_keep_54 0 rfl ?_
  refine z_geti gf_X12_142_69 e_X12_keep_55 ?_
  refine z_puti pf_X12_504_69 e_X12_keep_58 h (fun s8 h => ?_)
  refine z_aload e_X12_keep_61 0 rfl ?_
  refine z_getr gf_X12_7_69 e_X12_keep_62 ?_
  refine z_aload e_X12_keep_65 0 rfl ?_
  refine z_getr gf_X12_117_69 e_X12_keep_66 ?_
  refine z_ic e_X12_keep_69 ?_
  obtain ⟨q10, s9, e11, h⟩ := bd_e h
  refine z_callSv (As := [.ref (zad G 70), .ref (zad G 105), .int (16 : Int32)]) (rest := []) lk_X12_507 e_X12_keep_71 (m_X12_copies_70_105 G (16 : Int32) s8 _ _ e11) (by decide) rfl (Nat.le_of_ble_eq_true rfl) ?_
  refine z_aload e_X12_keep_74 0 rfl ?_
  refine z_getr gf_X12_13_69 e_X12_keep_75 ?_
  refine z_aload e_X12_keep_78 0 rfl ?_
  refine z_getr gf_X12_120_69 e_X12_keep_79 ?_
  refine z_ic e_X12_keep_82 ?_
  obtain ⟨q13, s12, e14, h⟩ := bd_e h
  refine z_callSv (As := [.ref (zad G 71), .ref (zad G 106), .int (8 : Int32)]) (rest := []) lk_X12_507 e_X12_keep_84 (m_X12_copies_71_106 G (8 : Int32) s9 _ _ e14) (by decide) rfl (Nat.le_of_ble_eq_true rfl) ?_
  refine z_aload e_X12_keep_87 0 rfl ?_
  refine z_getr gf_X12_16_69 e_X12_keep_88 ?_
  refine z_aload e_X12_keep_91 0 rfl ?_
  refine z_getr gf_X12_123_69 e_X12_keep_92 ?_
  refine z_ic e_X12_keep_95 ?_
  obtain ⟨q16, s15, e17, h⟩ := bd_e h
  refine z_callSv (As := [.ref (zad G 72), .ref (zad G 107), .int (8 : Int32)]) (rest := []) lk_X12_507 e_X12_keep_97 (m_X12_copies_72_107 G (8 : Int32) s12 _ _ e17) (by decide) rfl (Nat.le_of_ble_eq_true rfl) ?_
  refine z_aload e_X12_keep_100 0 rfl ?_
  refine z_getr gf_X12_19_69 e_X12_keep_101 ?_
  refine z_aload e_X12_keep_104 0 rfl ?_
  refine z_getr gf_X12_126_69 e_X12_keep_105 ?_
  refine z_ic e_X12_keep_108 ?_
  obtain ⟨q19, s18, e20, h⟩ := bd_e h
  refine z_callSv (As := [.ref (zad G 73), .ref (zad G 108), .int (8 : Int32)]) (rest := []) lk_X12_507 e_X12_keep_110 (m_X12_copies_73_108 G (8 : Int32) s15 _ _ e20) (by decide) rfl (Nat.le_of_ble_eq_true rfl) ?_
  refine z_aload e_X12_keep_113 0 rfl ?_
  refine z_getr gf_X12_22_69 e_X12_keep_114 ?_
  refine z_aload e_X12_keep_117 0 rfl ?_
  refine z_getr gf_X12_129_69 e_X12_keep_118 ?_
  refine z_ic e_X12_keep_121 ?_
  obtain ⟨q22, s21, e23, h⟩ := bd_e h
  refine z_callSv (As := [.ref (zad G 74), .ref (zad G 109), .int (8 : Int32)]) (rest := []) lk_X12_507 e_X12_keep_123 (m_X12_copies_74_109 G (8 : Int32) s18 _ _ e23) (by decide) rfl (Nat.le_of_ble_eq_true rfl) ?_
  refine z_aload e_X12_keep_126 0 rfl ?_
  refine z_getr gf_X12_25_69 e_X12_keep_127 ?_
  refine z_aload e_X12_keep_130 0 rfl ?_
  refine z_getr gf_X12_132_69 e_X12_keep_131 ?_
  refine z_ic e_X12_keep_134 ?_
  obtain ⟨q25, s24, e26, h⟩ := bd_e h
  refine z_callSv (As := [.ref (zad G 75), .ref (zad G 110), .int (8 : Int32)]) (rest := []) lk_X12_507 e_X12_keep_136 (m_X12_copies_75_110 G (8 : Int32) s21 _ _ e26) (by decide) rfl (Nat.le_of_ble_eq_true rfl) ?_
  refine z_aload e_X12_keep_139 0 rfl ?_
  refine z_geti gf_X12_153_69 e_X12_keep_140 ?_
  obtain ⟨q28, s27, e29, h⟩ := bd_e h
  refine z_callSi (As := [.int (s24.1 69 0)]) (rest := []) lk_X12_413 e_X12_keep_143 (m_X12_bits G (s24.1 69 0) s24 _ _ e29) (by decide) rfl (Nat.le_of_ble_eq_true rfl) ?_
  cases h
  exact z_ireturn hR e_X12_keep_146
noncomputable def F_X12_keep (σ : zSt) : Option (Int32 × zSt) := F_X12_keep_0  σ
set_option maxRecDepth 100000 in
theorem m_X12_keep (G : zG) (σ : zSt) (q : Int32) (τ : zSt) (h : F_X12_keep  σ = some (q, τ)) : zM G 2 yX12_keep cX12_keep 1 (some .int) [.ref (zad G 69)] σ (some (.int q)) τ := by
  unfold F_X12_keep at h
  refine zM.of (own := RX12) (by decide +kernel) rfl (Nat.le_of_ble_eq_true rfl) (fun C hR => ?_)
  exact z_sub [0] rfl (p_X12_keep_0 hR  σ h)
noncomputable def F_X10_takeOver_1_26_0 (σ : zSt) : Option (Unit × zSt) :=
  nm (zrow σ 2 (va_cpy (σ.1 27) (σ.1 2) 0 0 16)) (fun s1 =>
    nm (zrow s1 3 (va_cpy (s1.1 28) (s1.1 3) 0 0 8)) (fun s2 =>
      nm (zrow s2 4 (va_cpy (s2.1 29) (s2.1 4) 0 0 8)) (fun s3 =>
        nm (zrow s3 5 (va_cpy (s3.1 30) (s3.1 5) 0 0 8)) (fun s4 =>
          nm (zrow s4 6 (va_cpy (s4.1 31) (s4.1 6) 0 0 8)) (fun s5 =>
            nm (zrow s5 7 (va_cpy (s5.1 32) (s5.1 7) 0 0 8)) (fun s6 =>
              nm (zwr s6 1 6 (s6.1 26 6)) (fun s7 =>
                nm (zwr s7 1 7 (s7.1 26 7)) (fun s8 =>
                  nm (zwr s8 1 8 (s8.1 26 8)) (fun s9 =>
                    nm (zwr s9 1 9 (s9.1 26 9)) (fun s10 =>
                      nm (zwr s10 1 10 (s10.1 26 10)) (fun s11 =>
                        nm (zwr s11 1 11 (s11.1 26 11)) (fun s12 =>
                          nm (zwr s12 1 12 (s12.1 26 12)) (fun s13 =>
                            some ((), s13))))))))))))))
set_option maxHeartbeats 4000000 in
set_option maxRecDepth 100000 in
theorem p_X10_takeOver_1_26_0 {G : zG} {C : zC} {r : Unit} {τ : zSt} (hR : zR G C none none τ)  (σ : zSt) (h : F_X10_takeOver_1_26_0 σ = some (r, τ)) : zAW G 1 RX10 cX10_takeOver 2 C 0 [(0, .ref (zad G 1)), (1, .ref (zad G 26))] [] σ := by
  unfold F_X10_takeOver_1_26_0 at h
  refine z_aload e_X10_takeOver_0 1 rfl ?_
  refine z_getr gf_X10_9_26 e_X10_takeOver_1 ?_
  refine z_ic e_X10_takeOver_4 ?_
  refine z_aload e_X10_takeOver_5 0 rfl ?_
  refine z_getr gf_X10_9_1 e_X10_takeOver_6 ?_
  refine z_ic e_X10_takeOver_9 ?_
  refine z_ic e_X10_takeOver_10 ?_
  refine z_copyi ac_X10_40 sh_27 sh_2 ⟨by decide, rfl⟩ ⟨by decide, by decide⟩ (by decide) e_X10_takeOver_12 h (fun s1 h => ?_)
  refine z_aload e_X10_takeOver_15 1 rfl ?_
  refine z_getr gf_X10_15_26 e_X10_takeOver_16 ?_
  refine z_ic e_X10_takeOver_19 ?_
  refine z_aload e_X10_takeOver_20 0 rfl ?_
  refine z_getr gf_X10_15_1 e_X10_takeOver_21 ?_
  refine z_ic e_X10_takeOver_24 ?_
  refine z_ic e_X10_takeOver_25 ?_
  refine z_copyi ac_X10_40 sh_28 sh_3 ⟨by decide, rfl⟩ ⟨by decide, by decide⟩ (by decide) e_X10_takeOver_27 h (fun s2 h => ?_)
  refine z_aload e_X10_takeOver_30 1 rfl ?_
  refine z_getr gf_X10_18_26 e_X10_takeOver_31 ?_
  refine z_ic e_X10_takeOver_34 ?_
  refine z_aload e_X10_takeOver_35 0 rfl ?_
  refine z_getr gf_X10_18_1 e_X10_takeOver_36 ?_
  refine z_ic e_X10_takeOver_39 ?_
  refine z_ic e_X10_takeOver_40 ?_
  refine z_copyi ac_X10_40 sh_29 sh_4 ⟨by decide, rfl⟩ ⟨by decide, by decide⟩ (by decide) e_X10_takeOver_42 h (fun s3 h => ?_)
  refine z_aload e_X10_takeOver_45 1 rfl ?_
  refine z_getr gf_X10_21_26 e_X10_takeOver_46 ?_
  refine z_ic e_X10_takeOver_49 ?_
  refine z_aload e_X10_takeOver_50 0 rfl ?_
  refine z_getr gf_X10_21_1 e_X10_takeOver_51 ?_
  refine z_ic e_X10_takeOver_54 ?_
  refine z_ic e_X10_takeOver_55 ?_
  refine z_copyi ac_X10_40 sh_30 sh_5 ⟨by decide, rfl⟩ ⟨by decide, by decide⟩ (by decide) e_X10_takeOver_57 h (fun s4 h => ?_)
  refine z_aload e_X10_takeOver_60 1 rfl ?_
  refine z_getr gf_X10_24_26 e_X10_takeOver_61 ?_
  refine z_ic e_X10_takeOver_64 ?_
  refine z_aload e_X10_takeOver_65 0 rfl ?_
  refine z_getr gf_X10_24_1 e_X10_takeOver_66 ?_
  refine z_ic e_X10_takeOver_69 ?_
  refine z_ic e_X10_takeOver_70 ?_
  refine z_copyi ac_X10_40 sh_31 sh_6 ⟨by decide, rfl⟩ ⟨by decide, by decide⟩ (by decide) e_X10_takeOver_72 h (fun s5 h => ?_)
  refine z_aload e_X10_takeOver_75 1 rfl ?_
  refine z_getr gf_X10_27_26 e_X10_takeOver_76 ?_
  refine z_ic e_X10_takeOver_79 ?_
  refine z_aload e_X10_takeOver_80 0 rfl ?_
  refine z_getr gf_X10_27_1 e_X10_takeOver_81 ?_
  refine z_ic e_X10_takeOver_84 ?_
  refine z_ic e_X10_takeOver_85 ?_
  refine z_copyi ac_X10_40 sh_32 sh_7 ⟨by decide, rfl⟩ ⟨by decide, by decide⟩ (by decide) e_X10_takeOver_87 h (fun s6 h => ?_)
  refine z_aload e_X10_takeOver_90 0 rfl ?_
  refine z_aload e_X10_takeOver_91 1 rfl ?_
  refine z_geti gf_X10_46_26 e_X10_takeOver_92 ?_
  refine z_puti pf_X10_46_1 e_X10_takeOver_95 h (fun s7 h => ?_)
  refine z_aload e_X10_takeOver_98 0 rfl ?_
  refine z_aload e_X10_takeOver_99 1 rfl ?_
  refine z_geti gf_X10_49_26 e_X10_takeOver_100 ?_
  refine z_puti pf_X10_49_1 e_X10_takeOver_103 h (fun s8 h => ?_)
  refine z_aload e_X10_takeOver_106 0 rfl ?_
  refine z_aload e_X10_takeOver_107 1 rfl ?_
  refine z_geti gf_X10_52_26 e_X10_takeOver_108 ?_
  refine z_puti pf_X10_52_1 e_X10_takeOver_111 h (fun s9 h => ?_)
  refine z_aload e_X10_takeOver_114 0 rfl ?_
  refine z_aload e_X10_takeOver_115 1 rfl ?_
  refine z_geti gf_X10_55_26 e_X10_takeOver_116 ?_
  refine z_puti pf_X10_55_1 e_X10_takeOver_119 h (fun s10 h => ?_)
  refine z_aload e_X10_takeOver_122 0 rfl ?_
  refine z_aload e_X10_takeOver_123 1 rfl ?_
  refine z_geti gf_X10_30_26 e_X10_takeOver_124 ?_
  refine z_puti pf_X10_30_1 e_X10_takeOver_127 h (fun s11 h => ?_)
  refine z_aload e_X10_takeOver_130 0 rfl ?_
  refine z_aload e_X10_takeOver_131 1 rfl ?_
  refine z_geti gf_X10_34_26 e_X10_takeOver_132 ?_
  refine z_puti pf_X10_34_1 e_X10_takeOver_135 h (fun s12 h => ?_)
  refine z_aload e_X10_takeOver_138 0 rfl ?_
  refine z_aload e_X10_takeOver_139 1 rfl ?_
  refine z_geti gf_X10_37_26 e_X10_takeOver_140 ?_
  refine z_puti pf_X10_37_1 e_X10_takeOver_143 h (fun s13 h => ?_)
  cases h
  exact z_vreturn hR e_X10_takeOver_146
noncomputable def F_X10_takeOver_1_26 (σ : zSt) : Option (Unit × zSt) := F_X10_takeOver_1_26_0  σ
set_option maxRecDepth 100000 in
theorem m_X10_takeOver_1_26 (G : zG) (σ : zSt) (q : Unit) (τ : zSt) (h : F_X10_takeOver_1_26  σ = some (q, τ)) : zM G 1 yX10_takeOver cX10_takeOver 2 none [.ref (zad G 1), .ref (zad G 26)] σ none τ := by
  unfold F_X10_takeOver_1_26 at h
  refine zM.of (own := RX10) (by decide +kernel) rfl (Nat.le_of_ble_eq_true rfl) (fun C hR => ?_)
  exact z_sub [0, 1] rfl (p_X10_takeOver_1_26_0 hR  σ h)
noncomputable def F_X11_undo_0 (σ : zSt) : Option (Int32 × zSt) :=
  if (σ.1 0 2) = 0 then (
    gd ((σ.1 0 2) = 0 ∨ (σ.1 0 2) = 1) (some ((σ.1 0 2), σ)))
  else (
    bd (F_X10_takeOver_1_26 σ) (fun _ s3 =>
      gd ((s3.1 0 2) = 0 ∨ (s3.1 0 2) = 1) (some ((s3.1 0 2), s3))))
set_option maxHeartbeats 4000000 in
set_option maxRecDepth 100000 in
theorem p_X11_undo_0 {G : zG} {C : zC} {r : Int32} {τ : zSt} (hR : zR G C (some .boolean) (some (.int r)) τ)  (σ : zSt) (h : F_X11_undo_0 σ = some (r, τ)) : zAW G 2 RX11 cX11_undo 1 C 0 [(0, .ref (zad G 0))] [] σ := by
  unfold F_X11_undo_0 at h
  refine z_aload e_X11_undo_0 0 rfl ?_
  refine z_geti gf_X11_32_0 e_X11_undo_1 ?_
  refine z_if_eq e_X11_undo_4 h (fun c1 h => ?_) (fun c1 h => ?_)
  · refine z_aload e_X11_undo_18 0 rfl ?_
    refine z_geti gf_X11_32_0 e_X11_undo_19 ?_
    obtain ⟨hb2, h⟩ := gd_e h
    cases h
    exact z_zreturn hR e_X11_undo_22 hb2
  · refine z_aload e_X11_undo_7 0 rfl ?_
    refine z_getr gf_X11_23_0 e_X11_undo_8 ?_
    refine z_aload e_X11_undo_11 0 rfl ?_
    refine z_getr gf_X11_29_0 e_X11_undo_12 ?_
    obtain ⟨q4, s3, e5, h⟩ := bd_e h
    refine z_callVv (c0 := 1) (As := [.ref (zad G 26)]) (rest := []) lk_X11_270 ob_1 e_X11_undo_15 (m_X10_takeOver_1_26 G σ _ _ e5) (by decide) rfl (Nat.le_of_ble_eq_true rfl) ?_
    refine z_aload e_X11_undo_18 0 rfl ?_
    refine z_geti gf_X11_32_0 e_X11_undo_19 ?_
    obtain ⟨hb6, h⟩ := gd_e h
    cases h
    exact z_zreturn hR e_X11_undo_22 hb6
noncomputable def F_X11_undo (σ : zSt) : Option (Int32 × zSt) := F_X11_undo_0  σ
set_option maxRecDepth 100000 in
theorem m_X11_undo (G : zG) (σ : zSt) (q : Int32) (τ : zSt) (h : F_X11_undo  σ = some (q, τ)) : zM G 2 yX11_undo cX11_undo 1 (some .boolean) [.ref (zad G 0)] σ (some (.int q)) τ := by
  unfold F_X11_undo at h
  refine zM.of (own := RX11) (by decide +kernel) rfl (Nat.le_of_ble_eq_true rfl) (fun C hR => ?_)
  exact z_sub [0] rfl (p_X11_undo_0 hR  σ h)
noncomputable def F_X12_copies_105_70_2 (x2 : Int32) (w2 : (Int32 × zSt) → Option (Unit × zSt)) (x3 : Int32) (σ : zSt) : Option (Unit × zSt) :=
  if x2 ≤ x3 then (
    some ((), σ))
  else (
    gd (vp_in x3 16) (
      gd (vp_in x3 16) (nm (zwr σ 70 x3.toNatClampNeg (σ.1 105 x3.toNatClampNeg)) (fun s2 =>
        nm (x3 + (1 : Int32)) (fun v3 =>
          w2 (v3, s2))))))
set_option maxHeartbeats 4000000 in
set_option maxRecDepth 100000 in
theorem b_X12_copies_105_70_2 {G : zG} {C : zC} {r : Unit} {τ : zSt} (hR : zR G C none none τ) (x2 : Int32) (w2 : (Int32 × zSt) → Option (Unit × zSt)) (hw2 : ∀ (x3 : Int32) (σ : zSt), w2 (x3, σ) = some (r, τ) → zAW G 1 RX12 cX12_copies 4 C 2 [(0, .ref (zad G 105)), (1, .ref (zad G 70)), (2, .int x2), (3, .int x3)] [] σ) (x3 : Int32) (σ : zSt) (h : F_X12_copies_105_70_2 x2 w2 x3 σ = some (r, τ)) : zAW G 1 RX12 cX12_copies 4 C 2 [(0, .ref (zad G 105)), (1, .ref (zad G 70)), (2, .int x2), (3, .int x3)] [] σ := by
  unfold F_X12_copies_105_70_2 at h
  refine z_iload e_X12_copies_2 3 rfl ?_
  refine z_iload e_X12_copies_3 2 rfl ?_
  refine z_icmp_ge e_X12_copies_4 h (fun c1 h => ?_) (fun c1 h => ?_)
  · cases h
    exact z_vreturn hR e_X12_copies_19
  · refine z_aload e_X12_copies_7 1 rfl ?_
    refine z_iload e_X12_copies_8 3 rfl ?_
    refine z_aload e_X12_copies_9 0 rfl ?_
    refine z_iload e_X12_copies_10 3 rfl ?_
    refine z_iald sh_105 e_X12_copies_11 h (fun h => ?_)
    refine z_iast sh_70 e_X12_copies_12 h (fun s2 h => ?_)
    refine z_iinc e_X12_copies_13 3 rfl (by decide) (by decide) h (fun y => [(3, .int y), (0, .ref (zad G 105)), (1, .ref (zad G 70)), (2, .int x2)]) (fun _ => rfl) (fun v3 h => ?_)
    refine z_goto e_X12_copies_16 ?_
    exact z_sub [1, 2, 3, 0] rfl (hw2 v3 s2 h)
noncomputable def F_X12_copies_105_70_2L (x2 : Int32) : ((Int32 × zSt) → Option (Unit × zSt)) → (Int32 × zSt) → Option (Unit × zSt) := fun w s => F_X12_copies_105_70_2 x2 w s.1 s.2
set_option maxRecDepth 100000 in
theorem l_X12_copies_105_70_2 {G : zG} {C : zC} {r : Unit} {τ : zSt} (hR : zR G C none none τ) (x2 : Int32) : ∀ (N : Nat) (x3 : Int32) (σ : zSt), zfix (F_X12_copies_105_70_2L x2) N (x3, σ) = some (r, τ) → zAW G 1 RX12 cX12_copies 4 C 2 [(0, .ref (zad G 105)), (1, .ref (zad G 70)), (2, .int x2), (3, .int x3)] [] σ := by
  intro N
  induction N with
  | zero =>
    intro x3 σ h
    exact nomatch (show (none : Option (Unit × zSt)) = some (r, τ) from h)
  | succ N ih =>
    intro x3 σ h
    exact b_X12_copies_105_70_2 hR x2 (zfix (F_X12_copies_105_70_2L x2) N) ih x3 σ h
noncomputable def F_X12_copies_105_70_0 (x2 : Int32) (σ : zSt) : Option (Unit × zSt) :=
  zfix (F_X12_copies_105_70_2L x2) zlim ((0 : Int32), σ)
set_option maxHeartbeats 4000000 in
set_option maxRecDepth 100000 in
theorem p_X12_copies_105_70_0 {G : zG} {C : zC} {r : Unit} {τ : zSt} (hR : zR G C none none τ) (x2 : Int32) (σ : zSt) (h : F_X12_copies_105_70_0 x2 σ = some (r, τ)) : zAW G 1 RX12 cX12_copies 4 C 0 [(0, .ref (zad G 105)), (1, .ref (zad G 70)), (2, .int x2)] [] σ := by
  unfold F_X12_copies_105_70_0 at h
  refine z_ic e_X12_copies_0 ?_
  refine z_istore e_X12_copies_1 (by decide) [(3, .int (0 : Int32)), (0, .ref (zad G 105)), (1, .ref (zad G 70)), (2, .int x2)] rfl ?_
  exact z_sub [1, 2, 3, 0] rfl (l_X12_copies_105_70_2 hR x2 zlim (0 : Int32) σ h)
noncomputable def F_X12_copies_105_70 (x2 : Int32) (σ : zSt) : Option (Unit × zSt) := F_X12_copies_105_70_0 x2 σ
set_option maxRecDepth 100000 in
theorem m_X12_copies_105_70 (G : zG) (x2 : Int32) (σ : zSt) (q : Unit) (τ : zSt) (h : F_X12_copies_105_70 x2 σ = some (q, τ)) : zM G 1 yX12_copies cX12_copies 4 none [.ref (zad G 105), .ref (zad G 70), .int x2] σ none τ := by
  unfold F_X12_copies_105_70 at h
  refine zM.of (own := RX12) (by decide +kernel) rfl (Nat.le_of_ble_eq_true rfl) (fun C hR => ?_)
  exact z_sub [0, 1, 2] rfl (p_X12_copies_105_70_0 hR x2 σ h)
noncomputable def F_X12_copies_106_71_2 (x2 : Int32) (w2 : (Int32 × zSt) → Option (Unit × zSt)) (x3 : Int32) (σ : zSt) : Option (Unit × zSt) :=
  if x2 ≤ x3 then (
    some ((), σ))
  else (
    gd (vp_in x3 8) (
      gd (vp_in x3 8) (nm (zwr σ 71 x3.toNatClampNeg (σ.1 106 x3.toNatClampNeg)) (fun s2 =>
        nm (x3 + (1 : Int32)) (fun v3 =>
          w2 (v3, s2))))))
set_option maxHeartbeats 4000000 in
set_option maxRecDepth 100000 in
theorem b_X12_copies_106_71_2 {G : zG} {C : zC} {r : Unit} {τ : zSt} (hR : zR G C none none τ) (x2 : Int32) (w2 : (Int32 × zSt) → Option (Unit × zSt)) (hw2 : ∀ (x3 : Int32) (σ : zSt), w2 (x3, σ) = some (r, τ) → zAW G 1 RX12 cX12_copies 4 C 2 [(0, .ref (zad G 106)), (1, .ref (zad G 71)), (2, .int x2), (3, .int x3)] [] σ) (x3 : Int32) (σ : zSt) (h : F_X12_copies_106_71_2 x2 w2 x3 σ = some (r, τ)) : zAW G 1 RX12 cX12_copies 4 C 2 [(0, .ref (zad G 106)), (1, .ref (zad G 71)), (2, .int x2), (3, .int x3)] [] σ := by
  unfold F_X12_copies_106_71_2 at h
  refine z_iload e_X12_copies_2 3 rfl ?_
  refine z_iload e_X12_copies_3 2 rfl ?_
  refine z_icmp_ge e_X12_copies_4 h (fun c1 h => ?_) (fun c1 h => ?_)
  · cases h
    exact z_vreturn hR e_X12_copies_19
  · refine z_aload e_X12_copies_7 1 rfl ?_
    refine z_iload e_X12_copies_8 3 rfl ?_
    refine z_aload e_X12_copies_9 0 rfl ?_
    refine z_iload e_X12_copies_10 3 rfl ?_
    refine z_iald sh_106 e_X12_copies_11 h (fun h => ?_)
    refine z_iast sh_71 e_X12_copies_12 h (fun s2 h => ?_)
    refine z_iinc e_X12_copies_13 3 rfl (by decide) (by decide) h (fun y => [(3, .int y), (0, .ref (zad G 106)), (1, .ref (zad G 71)), (2, .int x2)]) (fun _ => rfl) (fun v3 h => ?_)
    refine z_goto e_X12_copies_16 ?_
    exact z_sub [1, 2, 3, 0] rfl (hw2 v3 s2 h)
noncomputable def F_X12_copies_106_71_2L (x2 : Int32) : ((Int32 × zSt) → Option (Unit × zSt)) → (Int32 × zSt) → Option (Unit × zSt) := fun w s => F_X12_copies_106_71_2 x2 w s.1 s.2
set_option maxRecDepth 100000 in
theorem l_X12_copies_106_71_2 {G : zG} {C : zC} {r : Unit} {τ : zSt} (hR : zR G C none none τ) (x2 : Int32) : ∀ (N : Nat) (x3 : Int32) (σ : zSt), zfix (F_X12_copies_106_71_2L x2) N (x3, σ) = some (r, τ) → zAW G 1 RX12 cX12_copies 4 C 2 [(0, .ref (zad G 106)), (1, .ref (zad G 71)), (2, .int x2), (3, .int x3)] [] σ := by
  intro N
  induction N with
  | zero =>
    intro x3 σ h
    exact nomatch (show (none : Option (Unit × zSt)) = some (r, τ) from h)
  | succ N ih =>
    intro x3 σ h
    exact b_X12_copies_106_71_2 hR x2 (zfix (F_X12_copies_106_71_2L x2) N) ih x3 σ h
noncomputable def F_X12_copies_106_71_0 (x2 : Int32) (σ : zSt) : Option (Unit × zSt) :=
  zfix (F_X12_copies_106_71_2L x2) zlim ((0 : Int32), σ)
set_option maxHeartbeats 4000000 in
set_option maxRecDepth 100000 in
theorem p_X12_copies_106_71_0 {G : zG} {C : zC} {r : Unit} {τ : zSt} (hR : zR G C none none τ) (x2 : Int32) (σ : zSt) (h : F_X12_copies_106_71_0 x2 σ = some (r, τ)) : zAW G 1 RX12 cX12_copies 4 C 0 [(0, .ref (zad G 106)), (1, .ref (zad G 71)), (2, .int x2)] [] σ := by
  unfold F_X12_copies_106_71_0 at h
  refine z_ic e_X12_copies_0 ?_
  refine z_istore e_X12_copies_1 (by decide) [(3, .int (0 : Int32)), (0, .ref (zad G 106)), (1, .ref (zad G 71)), (2, .int x2)] rfl ?_
  exact z_sub [1, 2, 3, 0] rfl (l_X12_copies_106_71_2 hR x2 zlim (0 : Int32) σ h)
noncomputable def F_X12_copies_106_71 (x2 : Int32) (σ : zSt) : Option (Unit × zSt) := F_X12_copies_106_71_0 x2 σ
set_option maxRecDepth 100000 in
theorem m_X12_copies_106_71 (G : zG) (x2 : Int32) (σ : zSt) (q : Unit) (τ : zSt) (h : F_X12_copies_106_71 x2 σ = some (q, τ)) : zM G 1 yX12_copies cX12_copies 4 none [.ref (zad G 106), .ref (zad G 71), .int x2] σ none τ := by
  unfold F_X12_copies_106_71 at h
  refine zM.of (own := RX12) (by decide +kernel) rfl (Nat.le_of_ble_eq_true rfl) (fun C hR => ?_)
  exact z_sub [0, 1, 2] rfl (p_X12_copies_106_71_0 hR x2 σ h)
noncomputable def F_X12_copies_107_72_2 (x2 : Int32) (w2 : (Int32 × zSt) → Option (Unit × zSt)) (x3 : Int32) (σ : zSt) : Option (Unit × zSt) :=
  if x2 ≤ x3 then (
    some ((), σ))
  else (
    gd (vp_in x3 8) (
      gd (vp_in x3 8) (nm (zwr σ 72 x3.toNatClampNeg (σ.1 107 x3.toNatClampNeg)) (fun s2 =>
        nm (x3 + (1 : Int32)) (fun v3 =>
          w2 (v3, s2))))))
set_option maxHeartbeats 4000000 in
set_option maxRecDepth 100000 in
theorem b_X12_copies_107_72_2 {G : zG} {C : zC} {r : Unit} {τ : zSt} (hR : zR G C none none τ) (x2 : Int32) (w2 : (Int32 × zSt) → Option (Unit × zSt)) (hw2 : ∀ (x3 : Int32) (σ : zSt), w2 (x3, σ) = some (r, τ) → zAW G 1 RX12 cX12_copies 4 C 2 [(0, .ref (zad G 107)), (1, .ref (zad G 72)), (2, .int x2), (3, .int x3)] [] σ) (x3 : Int32) (σ : zSt) (h : F_X12_copies_107_72_2 x2 w2 x3 σ = some (r, τ)) : zAW G 1 RX12 cX12_copies 4 C 2 [(0, .ref (zad G 107)), (1, .ref (zad G 72)), (2, .int x2), (3, .int x3)] [] σ := by
  unfold F_X12_copies_107_72_2 at h
  refine z_iload e_X12_copies_2 3 rfl ?_
  refine z_iload e_X12_copies_3 2 rfl ?_
  refine z_icmp_ge e_X12_copies_4 h (fun c1 h => ?_) (fun c1 h => ?_)
  · cases h
    exact z_vreturn hR e_X12_copies_19
  · refine z_aload e_X12_copies_7 1 rfl ?_
    refine z_iload e_X12_copies_8 3 rfl ?_
    refine z_aload e_X12_copies_9 0 rfl ?_
    refine z_iload e_X12_copies_10 3 rfl ?_
    refine z_iald sh_107 e_X12_copies_11 h (fun h => ?_)
    refine z_iast sh_72 e_X12_copies_12 h (fun s2 h => ?_)
    refine z_iinc e_X12_copies_13 3 rfl (by decide) (by decide) h (fun y => [(3, .int y), (0, .ref (zad G 107)), (1, .ref (zad G 72)), (2, .int x2)]) (fun _ => rfl) (fun v3 h => ?_)
    refine z_goto e_X12_copies_16 ?_
    exact z_sub [1, 2, 3, 0] rfl (hw2 v3 s2 h)
noncomputable def F_X12_copies_107_72_2L (x2 : Int32) : ((Int32 × zSt) → Option (Unit × zSt)) → (Int32 × zSt) → Option (Unit × zSt) := fun w s => F_X12_copies_107_72_2 x2 w s.1 s.2
set_option maxRecDepth 100000 in
theorem l_X12_copies_107_72_2 {G : zG} {C : zC} {r : Unit} {τ : zSt} (hR : zR G C none none τ) (x2 : Int32) : ∀ (N : Nat) (x3 : Int32) (σ : zSt), zfix (F_X12_copies_107_72_2L x2) N (x3, σ) = some (r, τ) → zAW G 1 RX12 cX12_copies 4 C 2 [(0, .ref (zad G 107)), (1, .ref (zad G 72)), (2, .int x2), (3, .int x3)] [] σ := by
  intro N
  induction N with
  | zero =>
    intro x3 σ h
    exact nomatch (show (none : Option (Unit × zSt)) = some (r, τ) from h)
  | succ N ih =>
    intro x3 σ h
    exact b_X12_copies_107_72_2 hR x2 (zfix (F_X12_copies_107_72_2L x2) N) ih x3 σ h
noncomputable def F_X12_copies_107_72_0 (x2 : Int32) (σ : zSt) : Option (Unit × zSt) :=
  zfix (F_X12_copies_107_72_2L x2) zlim ((0 : Int32), σ)
set_option maxHeartbeats 4000000 in
set_option maxRecDepth 100000 in
theorem p_X12_copies_107_72_0 {G : zG} {C : zC} {r : Unit} {τ : zSt} (hR : zR G C none none τ) (x2 : Int32) (σ : zSt) (h : F_X12_copies_107_72_0 x2 σ = some (r, τ)) : zAW G 1 RX12 cX12_copies 4 C 0 [(0, .ref (zad G 107)), (1, .ref (zad G 72)), (2, .int x2)] [] σ := by
  unfold F_X12_copies_107_72_0 at h
  refine z_ic e_X12_copies_0 ?_
  refine z_istore e_X12_copies_1 (by decide) [(3, .int (0 : Int32)), (0, .ref (zad G 107)), (1, .ref (zad G 72)), (2, .int x2)] rfl ?_
  exact z_sub [1, 2, 3, 0] rfl (l_X12_copies_107_72_2 hR x2 zlim (0 : Int32) σ h)
noncomputable def F_X12_copies_107_72 (x2 : Int32) (σ : zSt) : Option (Unit × zSt) := F_X12_copies_107_72_0 x2 σ
set_option maxRecDepth 100000 in
theorem m_X12_copies_107_72 (G : zG) (x2 : Int32) (σ : zSt) (q : Unit) (τ : zSt) (h : F_X12_copies_107_72 x2 σ = some (q, τ)) : zM G 1 yX12_copies cX12_copies 4 none [.ref (zad G 107), .ref (zad G 72), .int x2] σ none τ := by
  unfold F_X12_copies_107_72 at h
  refine zM.of (own := RX12) (by decide +kernel) rfl (Nat.le_of_ble_eq_true rfl) (fun C hR => ?_)
  exact z_sub [0, 1, 2] rfl (p_X12_copies_107_72_0 hR x2 σ h)
noncomputable def F_X12_copies_108_73_2 (x2 : Int32) (w2 : (Int32 × zSt) → Option (Unit × zSt)) (x3 : Int32) (σ : zSt) : Option (Unit × zSt) :=
  if x2 ≤ x3 then (
    some ((), σ))
  else (
    gd (vp_in x3 8) (
      gd (vp_in x3 8) (nm (zwr σ 73 x3.toNatClampNeg (σ.1 108 x3.toNatClampNeg)) (fun s2 =>
        nm (x3 + (1 : Int32)) (fun v3 =>
          w2 (v3, s2))))))
set_option maxHeartbeats 4000000 in
set_option maxRecDepth 100000 in
theorem b_X12_copies_108_73_2 {G : zG} {C : zC} {r : Unit} {τ : zSt} (hR : zR G C none none τ) (x2 : Int32) (w2 : (Int32 × zSt) → Option (Unit × zSt)) (hw2 : ∀ (x3 : Int32) (σ : zSt), w2 (x3, σ) = some (r, τ) → zAW G 1 RX12 cX12_copies 4 C 2 [(0, .ref (zad G 108)), (1, .ref (zad G 73)), (2, .int x2), (3, .int x3)] [] σ) (x3 : Int32) (σ : zSt) (h : F_X12_copies_108_73_2 x2 w2 x3 σ = some (r, τ)) : zAW G 1 RX12 cX12_copies 4 C 2 [(0, .ref (zad G 108)), (1, .ref (zad G 73)), (2, .int x2), (3, .int x3)] [] σ := by
  unfold F_X12_copies_108_73_2 at h
  refine z_iload e_X12_copies_2 3 rfl ?_
  refine z_iload e_X12_copies_3 2 rfl ?_
  refine z_icmp_ge e_X12_copies_4 h (fun c1 h => ?_) (fun c1 h => ?_)
  · cases h
    exact z_vreturn hR e_X12_copies_19
  · refine z_aload e_X12_copies_7 1 rfl ?_
    refine z_iload e_X12_copies_8 3 rfl ?_
    refine z_aload e_X12_copies_9 0 rfl ?_
    refine z_iload e_X12_copies_10 3 rfl ?_
    refine z_iald sh_108 e_X12_copies_11 h (fun h => ?_)
    refine z_iast sh_73 e_X12_copies_12 h (fun s2 h => ?_)
    refine z_iinc e_X12_copies_13 3 rfl (by decide) (by decide) h (fun y => [(3, .int y), (0, .ref (zad G 108)), (1, .ref (zad G 73)), (2, .int x2)]) (fun _ => rfl) (fun v3 h => ?_)
    refine z_goto e_X12_copies_16 ?_
    exact z_sub [1, 2, 3, 0] rfl (hw2 v3 s2 h)
noncomputable def F_X12_copies_108_73_2L (x2 : Int32) : ((Int32 × zSt) → Option (Unit × zSt)) → (Int32 × zSt) → Option (Unit × zSt) := fun w s => F_X12_copies_108_73_2 x2 w s.1 s.2
set_option maxRecDepth 100000 in
theorem l_X12_copies_108_73_2 {G : zG} {C : zC} {r : Unit} {τ : zSt} (hR : zR G C none none τ) (x2 : Int32) : ∀ (N : Nat) (x3 : Int32) (σ : zSt), zfix (F_X12_copies_108_73_2L x2) N (x3, σ) = some (r, τ) → zAW G 1 RX12 cX12_copies 4 C 2 [(0, .ref (zad G 108)), (1, .ref (zad G 73)), (2, .int x2), (3, .int x3)] [] σ := by
  intro N
  induction N with
  | zero =>
    intro x3 σ h
    exact nomatch (show (none : Option (Unit × zSt)) = some (r, τ) from h)
  | succ N ih =>
    intro x3 σ h
    exact b_X12_copies_108_73_2 hR x2 (zfix (F_X12_copies_108_73_2L x2) N) ih x3 σ h
noncomputable def F_X12_copies_108_73_0 (x2 : Int32) (σ : zSt) : Option (Unit × zSt) :=
  zfix (F_X12_copies_108_73_2L x2) zlim ((0 : Int32), σ)
set_option maxHeartbeats 4000000 in
set_option maxRecDepth 100000 in
theorem p_X12_copies_108_73_0 {G : zG} {C : zC} {r : Unit} {τ : zSt} (hR : zR G C none none τ) (x2 : Int32) (σ : zSt) (h : F_X12_copies_108_73_0 x2 σ = some (r, τ)) : zAW G 1 RX12 cX12_copies 4 C 0 [(0, .ref (zad G 108)), (1, .ref (zad G 73)), (2, .int x2)] [] σ := by
  unfold F_X12_copies_108_73_0 at h
  refine z_ic e_X12_copies_0 ?_
  refine z_istore e_X12_copies_1 (by decide) [(3, .int (0 : Int32)), (0, .ref (zad G 108)), (1, .ref (zad G 73)), (2, .int x2)] rfl ?_
  exact z_sub [1, 2, 3, 0] rfl (l_X12_copies_108_73_2 hR x2 zlim (0 : Int32) σ h)
noncomputable def F_X12_copies_108_73 (x2 : Int32) (σ : zSt) : Option (Unit × zSt) := F_X12_copies_108_73_0 x2 σ
set_option maxRecDepth 100000 in
theorem m_X12_copies_108_73 (G : zG) (x2 : Int32) (σ : zSt) (q : Unit) (τ : zSt) (h : F_X12_copies_108_73 x2 σ = some (q, τ)) : zM G 1 yX12_copies cX12_copies 4 none [.ref (zad G 108), .ref (zad G 73), .int x2] σ none τ := by
  unfold F_X12_copies_108_73 at h
  refine zM.of (own := RX12) (by decide +kernel) rfl (Nat.le_of_ble_eq_true rfl) (fun C hR => ?_)
  exact z_sub [0, 1, 2] rfl (p_X12_copies_108_73_0 hR x2 σ h)
noncomputable def F_X12_copies_109_74_2 (x2 : Int32) (w2 : (Int32 × zSt) → Option (Unit × zSt)) (x3 : Int32) (σ : zSt) : Option (Unit × zSt) :=
  if x2 ≤ x3 then (
    some ((), σ))
  else (
    gd (vp_in x3 8) (
      gd (vp_in x3 8) (nm (zwr σ 74 x3.toNatClampNeg (σ.1 109 x3.toNatClampNeg)) (fun s2 =>
        nm (x3 + (1 : Int32)) (fun v3 =>
          w2 (v3, s2))))))
set_option maxHeartbeats 4000000 in
set_option maxRecDepth 100000 in
theorem b_X12_copies_109_74_2 {G : zG} {C : zC} {r : Unit} {τ : zSt} (hR : zR G C none none τ) (x2 : Int32) (w2 : (Int32 × zSt) → Option (Unit × zSt)) (hw2 : ∀ (x3 : Int32) (σ : zSt), w2 (x3, σ) = some (r, τ) → zAW G 1 RX12 cX12_copies 4 C 2 [(0, .ref (zad G 109)), (1, .ref (zad G 74)), (2, .int x2), (3, .int x3)] [] σ) (x3 : Int32) (σ : zSt) (h : F_X12_copies_109_74_2 x2 w2 x3 σ = some (r, τ)) : zAW G 1 RX12 cX12_copies 4 C 2 [(0, .ref (zad G 109)), (1, .ref (zad G 74)), (2, .int x2), (3, .int x3)] [] σ := by
  unfold F_X12_copies_109_74_2 at h
  refine z_iload e_X12_copies_2 3 rfl ?_
  refine z_iload e_X12_copies_3 2 rfl ?_
  refine z_icmp_ge e_X12_copies_4 h (fun c1 h => ?_) (fun c1 h => ?_)
  · cases h
    exact z_vreturn hR e_X12_copies_19
  · refine z_aload e_X12_copies_7 1 rfl ?_
    refine z_iload e_X12_copies_8 3 rfl ?_
    refine z_aload e_X12_copies_9 0 rfl ?_
    refine z_iload e_X12_copies_10 3 rfl ?_
    refine z_iald sh_109 e_X12_copies_11 h (fun h => ?_)
    refine z_iast sh_74 e_X12_copies_12 h (fun s2 h => ?_)
    refine z_iinc e_X12_copies_13 3 rfl (by decide) (by decide) h (fun y => [(3, .int y), (0, .ref (zad G 109)), (1, .ref (zad G 74)), (2, .int x2)]) (fun _ => rfl) (fun v3 h => ?_)
    refine z_goto e_X12_copies_16 ?_
    exact z_sub [1, 2, 3, 0] rfl (hw2 v3 s2 h)
noncomputable def F_X12_copies_109_74_2L (x2 : Int32) : ((Int32 × zSt) → Option (Unit × zSt)) → (Int32 × zSt) → Option (Unit × zSt) := fun w s => F_X12_copies_109_74_2 x2 w s.1 s.2
set_option maxRecDepth 100000 in
theorem l_X12_copies_109_74_2 {G : zG} {C : zC} {r : Unit} {τ : zSt} (hR : zR G C none none τ) (x2 : Int32) : ∀ (N : Nat) (x3 : Int32) (σ : zSt), zfix (F_X12_copies_109_74_2L x2) N (x3, σ) = some (r, τ) → zAW G 1 RX12 cX12_copies 4 C 2 [(0, .ref (zad G 109)), (1, .ref (zad G 74)), (2, .int x2), (3, .int x3)] [] σ := by
  intro N
  induction N with
  | zero =>
    intro x3 σ h
    exact nomatch (show (none : Option (Unit × zSt)) = some (r, τ) from h)
  | succ N ih =>
    intro x3 σ h
    exact b_X12_copies_109_74_2 hR x2 (zfix (F_X12_copies_109_74_2L x2) N) ih x3 σ h
noncomputable def F_X12_copies_109_74_0 (x2 : Int32) (σ : zSt) : Option (Unit × zSt) :=
  zfix (F_X12_copies_109_74_2L x2) zlim ((0 : Int32), σ)
set_option maxHeartbeats 4000000 in
set_option maxRecDepth 100000 in
theorem p_X12_copies_109_74_0 {G : zG} {C : zC} {r : Unit} {τ : zSt} (hR : zR G C none none τ) (x2 : Int32) (σ : zSt) (h : F_X12_copies_109_74_0 x2 σ = some (r, τ)) : zAW G 1 RX12 cX12_copies 4 C 0 [(0, .ref (zad G 109)), (1, .ref (zad G 74)), (2, .int x2)] [] σ := by
  unfold F_X12_copies_109_74_0 at h
  refine z_ic e_X12_copies_0 ?_
  refine z_istore e_X12_copies_1 (by decide) [(3, .int (0 : Int32)), (0, .ref (zad G 109)), (1, .ref (zad G 74)), (2, .int x2)] rfl ?_
  exact z_sub [1, 2, 3, 0] rfl (l_X12_copies_109_74_2 hR x2 zlim (0 : Int32) σ h)
noncomputable def F_X12_copies_109_74 (x2 : Int32) (σ : zSt) : Option (Unit × zSt) := F_X12_copies_109_74_0 x2 σ
set_option maxRecDepth 100000 in
theorem m_X12_copies_109_74 (G : zG) (x2 : Int32) (σ : zSt) (q : Unit) (τ : zSt) (h : F_X12_copies_109_74 x2 σ = some (q, τ)) : zM G 1 yX12_copies cX12_copies 4 none [.ref (zad G 109), .ref (zad G 74), .int x2] σ none τ := by
  unfold F_X12_copies_109_74 at h
  refine zM.of (own := RX12) (by decide +kernel) rfl (Nat.le_of_ble_eq_true rfl) (fun C hR => ?_)
  exact z_sub [0, 1, 2] rfl (p_X12_copies_109_74_0 hR x2 σ h)
noncomputable def F_X12_copies_110_75_2 (x2 : Int32) (w2 : (Int32 × zSt) → Option (Unit × zSt)) (x3 : Int32) (σ : zSt) : Option (Unit × zSt) :=
  if x2 ≤ x3 then (
    some ((), σ))
  else (
    gd (vp_in x3 8) (
      gd (vp_in x3 8) (nm (zwr σ 75 x3.toNatClampNeg (σ.1 110 x3.toNatClampNeg)) (fun s2 =>
        nm (x3 + (1 : Int32)) (fun v3 =>
          w2 (v3, s2))))))
set_option maxHeartbeats 4000000 in
set_option maxRecDepth 100000 in
theorem b_X12_copies_110_75_2 {G : zG} {C : zC} {r : Unit} {τ : zSt} (hR : zR G C none none τ) (x2 : Int32) (w2 : (Int32 × zSt) → Option (Unit × zSt)) (hw2 : ∀ (x3 : Int32) (σ : zSt), w2 (x3, σ) = some (r, τ) → zAW G 1 RX12 cX12_copies 4 C 2 [(0, .ref (zad G 110)), (1, .ref (zad G 75)), (2, .int x2), (3, .int x3)] [] σ) (x3 : Int32) (σ : zSt) (h : F_X12_copies_110_75_2 x2 w2 x3 σ = some (r, τ)) : zAW G 1 RX12 cX12_copies 4 C 2 [(0, .ref (zad G 110)), (1, .ref (zad G 75)), (2, .int x2), (3, .int x3)] [] σ := by
  unfold F_X12_copies_110_75_2 at h
  refine z_iload e_X12_copies_2 3 rfl ?_
  refine z_iload e_X12_copies_3 2 rfl ?_
  refine z_icmp_ge e_X12_copies_4 h (fun c1 h => ?_) (fun c1 h => ?_)
  · cases h
    exact z_vreturn hR e_X12_copies_19
  · refine z_aload e_X12_copies_7 1 rfl ?_
    refine z_iload e_X12_copies_8 3 rfl ?_
    refine z_aload e_X12_copies_9 0 rfl ?_
    refine z_iload e_X12_copies_10 3 rfl ?_
    refine z_iald sh_110 e_X12_copies_11 h (fun h => ?_)
    refine z_iast sh_75 e_X12_copies_12 h (fun s2 h => ?_)
    refine z_iinc e_X12_copies_13 3 rfl (by decide) (by decide) h (fun y => [(3, .int y), (0, .ref (zad G 110)), (1, .ref (zad G 75)), (2, .int x2)]) (fun _ => rfl) (fun v3 h => ?_)
    refine z_goto e_X12_copies_16 ?_
    exact z_sub [1, 2, 3, 0] rfl (hw2 v3 s2 h)
noncomputable def F_X12_copies_110_75_2L (x2 : Int32) : ((Int32 × zSt) → Option (Unit × zSt)) → (Int32 × zSt) → Option (Unit × zSt) := fun w s => F_X12_copies_110_75_2 x2 w s.1 s.2
set_option maxRecDepth 100000 in
theorem l_X12_copies_110_75_2 {G : zG} {C : zC} {r : Unit} {τ : zSt} (hR : zR G C none none τ) (x2 : Int32) : ∀ (N : Nat) (x3 : Int32) (σ : zSt), zfix (F_X12_copies_110_75_2L x2) N (x3, σ) = some (r, τ) → zAW G 1 RX12 cX12_copies 4 C 2 [(0, .ref (zad G 110)), (1, .ref (zad G 75)), (2, .int x2), (3, .int x3)] [] σ := by
  intro N
  induction N with
  | zero =>
    intro x3 σ h
    exact nomatch (show (none : Option (Unit × zSt)) = some (r, τ) from h)
  | succ N ih =>
    intro x3 σ h
    exact b_X12_copies_110_75_2 hR x2 (zfix (F_X12_copies_110_75_2L x2) N) ih x3 σ h
noncomputable def F_X12_copies_110_75_0 (x2 : Int32) (σ : zSt) : Option (Unit × zSt) :=
  zfix (F_X12_copies_110_75_2L x2) zlim ((0 : Int32), σ)
set_option maxHeartbeats 4000000 in
set_option maxRecDepth 100000 in
theorem p_X12_copies_110_75_0 {G : zG} {C : zC} {r : Unit} {τ : zSt} (hR : zR G C none none τ) (x2 : Int32) (σ : zSt) (h : F_X12_copies_110_75_0 x2 σ = some (r, τ)) : zAW G 1 RX12 cX12_copies 4 C 0 [(0, .ref (zad G 110)), (1, .ref (zad G 75)), (2, .int x2)] [] σ := by
  unfold F_X12_copies_110_75_0 at h
  refine z_ic e_X12_copies_0 ?_
  refine z_istore e_X12_copies_1 (by decide) [(3, .int (0 : Int32)), (0, .ref (zad G 110)), (1, .ref (zad G 75)), (2, .int x2)] rfl ?_
  exact z_sub [1, 2, 3, 0] rfl (l_X12_copies_110_75_2 hR x2 zlim (0 : Int32) σ h)
noncomputable def F_X12_copies_110_75 (x2 : Int32) (σ : zSt) : Option (Unit × zSt) := F_X12_copies_110_75_0 x2 σ
set_option maxRecDepth 100000 in
theorem m_X12_copies_110_75 (G : zG) (x2 : Int32) (σ : zSt) (q : Unit) (τ : zSt) (h : F_X12_copies_110_75 x2 σ = some (q, τ)) : zM G 1 yX12_copies cX12_copies 4 none [.ref (zad G 110), .ref (zad G 75), .int x2] σ none τ := by
  unfold F_X12_copies_110_75 at h
  refine zM.of (own := RX12) (by decide +kernel) rfl (Nat.le_of_ble_eq_true rfl) (fun C hR => ?_)
  exact z_sub [0, 1, 2] rfl (p_X12_copies_110_75_0 hR x2 σ h)
noncomputable def F_X12_undo_0 (σ : zSt) : Option (Int32 × zSt) :=
  if (σ.1 69 62) = 0 then (
    some ((0 : Int32), σ))
  else (
    nm (zwr σ 69 0 (σ.1 69 63)) (fun s2 =>
      nm (zwr s2 69 1 (s2.1 69 64)) (fun s3 =>
        nm (zwr s3 69 2 (s3.1 69 65)) (fun s4 =>
          nm (zwr s4 69 3 (s4.1 69 66)) (fun s5 =>
            nm (zwr s5 69 4 (s5.1 69 67)) (fun s6 =>
              nm (zwr s6 69 5 (s6.1 69 68)) (fun s7 =>
                nm (zwr s7 69 6 (s7.1 69 69)) (fun s8 =>
                  bd (F_X12_copies_105_70 (16 : Int32) s8) (fun _ s9 =>
                    bd (F_X12_copies_106_71 (8 : Int32) s9) (fun _ s12 =>
                      bd (F_X12_copies_107_72 (8 : Int32) s12) (fun _ s15 =>
                        bd (F_X12_copies_108_73 (8 : Int32) s15) (fun _ s18 =>
                          bd (F_X12_copies_109_74 (8 : Int32) s18) (fun _ s21 =>
                            bd (F_X12_copies_110_75 (8 : Int32) s21) (fun _ s24 =>
                              some ((1 : Int32), s24)))))))))))))))
set_option maxHeartbeats 4000000 in
set_option maxRecDepth 100000 in
theorem p_X12_undo_0 {G : zG} {C : zC} {r : Int32} {τ : zSt} (hR : zR G C (some .boolean) (some (.int r)) τ)  (σ : zSt) (h : F_X12_undo_0 σ = some (r, τ)) : zAW G 2 RX12 cX12_undo 1 C 0 [(0, .ref (zad G 69))] [] σ := by
  unfold F_X12_undo_0 at h
  refine z_aload e_X12_undo_0 0 rfl ?_
  refine z_geti gf_X12_483_69 e_X12_undo_1 ?_
  refine z_if_ne e_X12_undo_4 h (fun c1 h => ?_) (fun c1 h => ?_)
  · refine z_ic e_X12_undo_7 ?_
    cases h
    exact z_zreturn hR e_X12_undo_8 (Or.inl rfl)
  · refine z_aload e_X12_undo_9 0 rfl ?_
    refine z_aload e_X12_undo_10 0 rfl ?_
    refine z_geti gf_X12_486_69 e_X12_undo_11 ?_
    refine z_puti pf_X12_153_69 e_X12_undo_14 h (fun s2 h => ?_)
    refine z_aload e_X12_undo_17 0 rfl ?_
    refine z_aload e_X12_undo_18 0 rfl ?_
    refine z_geti gf_X12_489_69 e_X12_undo_19 ?_
    refine z_puti pf_X12_170_69 e_X12_undo_22 h (fun s3 h => ?_)
    refine z_aload e_X12_undo_25 0 rfl ?_
    refine z_aload e_X12_undo_26 0 rfl ?_
    refine z_geti gf_X12_492_69 e_X12_undo_27 ?_
    refine z_puti pf_X12_173_69 e_X12_undo_30 h (fun s4 h => ?_)
    refine z_aload e_X12_undo_33 0 rfl ?_
    refine z_aload e_X12_undo_34 0 rfl ?_
    refine z_geti gf_X12_495_69 e_X12_undo_35 ?_
    refine z_puti pf_X12_135_69 e_X12_undo_38 h (fun s5 h => ?_)
    refine z_aload e_X12_undo_41 0 rfl ?_
    refine z_aload e_X12_undo_42 0 rfl ?_
    refine z_geti gf_X12_498_69 e_X12_undo_43 ?_
    refine z_puti pf_X12_307_69 e_X12_undo_46 h (fun s6 h => ?_)
    refine z_aload e_X12_undo_49 0 rfl ?_
    refine z_aload e_X12_undo_50 0 rfl ?_
    refine z_geti gf_X12_501_69 e_X12_undo_51 ?_
    refine z_puti pf_X12_139_69 e_X12_undo_54 h (fun s7 h => ?_)
    refine z_aload e_X12_undo_57 0 rfl ?_
    refine z_aload e_X12_undo_58 0 rfl ?_
    refine z_geti gf_X12_504_69 e_X12_undo_59 ?_
    refine z_puti pf_X12_142_69 e_X12_undo_62 h (fun s8 h => ?_)
    refine z_aload e_X12_undo_65 0 rfl ?_
    refine z_getr gf_X12_117_69 e_X12_undo_66 ?_
    refine z_aload e_X12_undo_69 0 rfl ?_
    refine z_getr gf_X12_7_69 e_X12_undo_70 ?_
    refine z_ic e_X12_undo_73 ?_
    obtain ⟨q10, s9, e11, h⟩ := bd_e h
    refine z_callSv (As := [.ref (zad G 105), .ref (zad G 70), .int (16 : Int32)]) (rest := []) lk_X12_507 e_X12_undo_75 (m_X12_copies_105_70 G (16 : Int32) s8 _ _ e11) (by decide) rfl (Nat.le_of_ble_eq_true rfl) ?_
    refine z_aload e_X12_undo_78 0 rfl ?_
    refine z_getr gf_X12_120_69 e_X12_undo_79 ?_
    refine z_aload e_X12_undo_82 0 rfl ?_
    refine z_getr gf_X12_13_69 e_X12_undo_83 ?_
    refine z_ic e_X12_undo_86 ?_
    obtain ⟨q13, s12, e14, h⟩ := bd_e h
    refine z_callSv (As := [.ref (zad G 106), .ref (zad G 71), .int (8 : Int32)]) (rest := []) lk_X12_507 e_X12_undo_88 (m_X12_copies_106_71 G (8 : Int32) s9 _ _ e14) (by decide) rfl (Nat.le_of_ble_eq_true rfl) ?_
    refine z_aload e_X12_undo_91 0 rfl ?_
    refine z_getr gf_X12_123_69 e_X12_undo_92 ?_
    refine z_aload e_X12_undo_95 0 rfl ?_
    refine z_getr gf_X12_16_69 e_X12_undo_96 ?_
    refine z_ic e_X12_undo_99 ?_
    obtain ⟨q16, s15, e17, h⟩ := bd_e h
    refine z_callSv (As := [.ref (zad G 107), .ref (zad G 72), .int (8 : Int32)]) (rest := []) lk_X12_507 e_X12_undo_101 (m_X12_copies_107_72 G (8 : Int32) s12 _ _ e17) (by decide) rfl (Nat.le_of_ble_eq_true rfl) ?_
    refine z_aload e_X12_undo_104 0 rfl ?_
    refine z_getr gf_X12_126_69 e_X12_undo_105 ?_
    refine z_aload e_X12_undo_108 0 rfl ?_
    refine z_getr gf_X12_19_69 e_X12_undo_109 ?_
    refine z_ic e_X12_undo_112 ?_
    obtain ⟨q19, s18, e20, h⟩ := bd_e h
    refine z_callSv (As := [.ref (zad G 108), .ref (zad G 73), .int (8 : Int32)]) (rest := []) lk_X12_507 e_X12_undo_114 (m_X12_copies_108_73 G (8 : Int32) s15 _ _ e20) (by decide) rfl (Nat.le_of_ble_eq_true rfl) ?_
    refine z_aload e_X12_undo_117 0 rfl ?_
    refine z_getr gf_X12_129_69 e_X12_undo_118 ?_
    refine z_aload e_X12_undo_121 0 rfl ?_
    refine z_getr gf_X12_22_69 e_X12_undo_122 ?_
    refine z_ic e_X12_undo_125 ?_
    obtain ⟨q22, s21, e23, h⟩ := bd_e h
    refine z_callSv (As := [.ref (zad G 109), .ref (zad G 74), .int (8 : Int32)]) (rest := []) lk_X12_507 e_X12_undo_127 (m_X12_copies_109_74 G (8 : Int32) s18 _ _ e23) (by decide) rfl (Nat.le_of_ble_eq_true rfl) ?_
    refine z_aload e_X12_undo_130 0 rfl ?_
    refine z_getr gf_X12_132_69 e_X12_undo_131 ?_
    refine z_aload e_X12_undo_134 0 rfl ?_
    refine z_getr gf_X12_25_69 e_X12_undo_135 ?_
    refine z_ic e_X12_undo_138 ?_
    obtain ⟨q25, s24, e26, h⟩ := bd_e h
    refine z_callSv (As := [.ref (zad G 110), .ref (zad G 75), .int (8 : Int32)]) (rest := []) lk_X12_507 e_X12_undo_140 (m_X12_copies_110_75 G (8 : Int32) s21 _ _ e26) (by decide) rfl (Nat.le_of_ble_eq_true rfl) ?_
    refine z_ic e_X12_undo_143 ?_
    cases h
    exact z_zreturn hR e_X12_undo_144 (Or.inr rfl)
noncomputable def F_X12_undo (σ : zSt) : Option (Int32 × zSt) := F_X12_undo_0  σ
set_option maxRecDepth 100000 in
theorem m_X12_undo (G : zG) (σ : zSt) (q : Int32) (τ : zSt) (h : F_X12_undo  σ = some (q, τ)) : zM G 2 yX12_undo cX12_undo 1 (some .boolean) [.ref (zad G 69)] σ (some (.int q)) τ := by
  unfold F_X12_undo at h
  refine zM.of (own := RX12) (by decide +kernel) rfl (Nat.le_of_ble_eq_true rfl) (fun C hR => ?_)
  exact z_sub [0] rfl (p_X12_undo_0 hR  σ h)
noncomputable def F_X8_number_0 (x1 : Int32) (σ : zSt) : Option (Int32 × zSt) :=
  bd (F_X8_at x1 σ) (fun q2 s1 =>
    bd (F_X8_at (x1 + (1 : Int32)) s1) (fun q5 s4 =>
      bd (F_X8_at (x1 + (2 : Int32)) s4) (fun q8 s7 =>
        bd (F_X8_at (x1 + (3 : Int32)) s7) (fun q11 s10 =>
          some (((((q2 <<< ((24 : Int32) &&& 31)) ||| (q5 <<< ((16 : Int32) &&& 31))) ||| (q8 <<< ((8 : Int32) &&& 31))) ||| q11), s10)))))
set_option maxHeartbeats 4000000 in
set_option maxRecDepth 100000 in
theorem p_X8_number_0 {G : zG} {C : zC} {r : Int32} {τ : zSt} (hR : zR G C (some .int) (some (.int r)) τ) (x1 : Int32) (σ : zSt) (h : F_X8_number_0 x1 σ = some (r, τ)) : zAW G 2 RX8 cX8_number 2 C 0 [(0, .ref (zad G 33)), (1, .int x1)] [] σ := by
  unfold F_X8_number_0 at h
  refine z_aload e_X8_number_0 0 rfl ?_
  refine z_iload e_X8_number_1 1 rfl ?_
  obtain ⟨q2, s1, e3, h⟩ := bd_e h
  refine z_callVi (c0 := 33) (As := [.int x1]) (rest := []) lk_X8_26 ob_33 e_X8_number_2 (m_X8_at G x1 σ _ _ e3) (by decide) rfl (Nat.le_of_ble_eq_true rfl) ?_
  refine z_ic e_X8_number_5 ?_
  refine z_ishl e_X8_number_7 ?_
  refine z_aload e_X8_number_8 0 rfl ?_
  refine z_iload e_X8_number_9 1 rfl ?_
  refine z_ic e_X8_number_10 ?_
  refine z_iadd e_X8_number_11 ?_
  obtain ⟨q5, s4, e6, h⟩ := bd_e h
  refine z_callVi (c0 := 33) (As := [.int (x1 + (1 : Int32))]) (rest := [.int (q2 <<< ((24 : Int32) &&& 31))]) lk_X8_26 ob_33 e_X8_number_12 (m_X8_at G (x1 + (1 : Int32)) s1 _ _ e6) (by decide) rfl (Nat.le_of_ble_eq_true rfl) ?_
  refine z_ic e_X8_number_15 ?_
  refine z_ishl e_X8_number_17 ?_
  refine z_ior e_X8_number_18 ?_
  refine z_aload e_X8_number_19 0 rfl ?_
  refine z_iload e_X8_number_20 1 rfl ?_
  refine z_ic e_X8_number_21 ?_
  refine z_iadd e_X8_number_22 ?_
  obtain ⟨q8, s7, e9, h⟩ := bd_e h
  refine z_callVi (c0 := 33) (As := [.int (x1 + (2 : Int32))]) (rest := [.int ((q2 <<< ((24 : Int32) &&& 31)) ||| (q5 <<< ((16 : Int32) &&& 31)))]) lk_X8_26 ob_33 e_X8_number_23 (m_X8_at G (x1 + (2 : Int32)) s4 _ _ e9) (by decide) rfl (Nat.le_of_ble_eq_true rfl) ?_
  refine z_ic e_X8_number_26 ?_
  refine z_ishl e_X8_number_28 ?_
  refine z_ior e_X8_number_29 ?_
  refine z_aload e_X8_number_30 0 rfl ?_
  refine z_iload e_X8_number_31 1 rfl ?_
  refine z_ic e_X8_number_32 ?_
  refine z_iadd e_X8_number_33 ?_
  obtain ⟨q11, s10, e12, h⟩ := bd_e h
  refine z_callVi (c0 := 33) (As := [.int (x1 + (3 : Int32))]) (rest := [.int (((q2 <<< ((24 : Int32) &&& 31)) ||| (q5 <<< ((16 : Int32) &&& 31))) ||| (q8 <<< ((8 : Int32) &&& 31)))]) lk_X8_26 ob_33 e_X8_number_34 (m_X8_at G (x1 + (3 : Int32)) s7 _ _ e12) (by decide) rfl (Nat.le_of_ble_eq_true rfl) ?_
  refine z_ior e_X8_number_37 ?_
  cases h
  exact z_ireturn hR e_X8_number_38
noncomputable def F_X8_number (x1 : Int32) (σ : zSt) : Option (Int32 × zSt) := F_X8_number_0 x1 σ
set_option maxRecDepth 100000 in
theorem m_X8_number (G : zG) (x1 : Int32) (σ : zSt) (q : Int32) (τ : zSt) (h : F_X8_number x1 σ = some (q, τ)) : zM G 2 yX8_number cX8_number 2 (some .int) [.ref (zad G 33), .int x1] σ (some (.int q)) τ := by
  unfold F_X8_number at h
  refine zM.of (own := RX8) (by decide +kernel) rfl (Nat.le_of_ble_eq_true rfl) (fun C hR => ?_)
  exact z_sub [0, 1] rfl (p_X8_number_0 hR x1 σ h)
noncomputable def F_X11_check_55 (w27 : (Int32 × zSt) → Option (Int32 × zSt)) (x1 : Int32) (x2 : Int32) (t0 : Int32) (σ : zSt) : Option (Int32 × zSt) :=
  bd (F_X8_number ((4 : Int32) * x2) σ) (fun q15 s14 =>
    if q15 = t0 then (
      nm (x2 + (1 : Int32)) (fun v18 =>
        w27 (v18, s14)))
    else (
      some (x2, s14)))
set_option maxHeartbeats 4000000 in
set_option maxRecDepth 100000 in
theorem p_X11_check_55 {G : zG} {C : zC} {r : Int32} {τ : zSt} (hR : zR G C (some .int) (some (.int r)) τ) (w27 : (Int32 × zSt) → Option (Int32 × zSt)) (x1 : Int32) (x2 : Int32) (t0 : Int32) (hw27 : ∀ (x2 : Int32) (σ : zSt), w27 (x2, σ) = some (r, τ) → zAW G 3 RX11 cX11_check 4 C 27 [(0, .ref (zad G 0)), (1, .int x1), (2, .int x2)] [] σ) (σ : zSt) (h : F_X11_check_55 w27 x1 x2 t0 σ = some (r, τ)) : zAW G 3 RX11 cX11_check 4 C 55 [(0, .ref (zad G 0)), (1, .int x1), (2, .int x2)] [.int t0] σ := by
  unfold F_X11_check_55 at h
  refine z_istore e_X11_check_55 (by decide) [(3, .int t0), (0, .ref (zad G 0)), (1, .int x1), (2, .int x2)] rfl ?_
  refine z_aload e_X11_check_56 1 rfl ?_
  refine z_getr gf_X11_39_0 e_X11_check_57 ?_
  refine z_ic e_X11_check_60 ?_
  refine z_iload e_X11_check_61 3 rfl ?_
  refine z_imul e_X11_check_62 ?_
  obtain ⟨q15, s14, e16, h⟩ := bd_e h
  refine z_callVi (c0 := 33) (As := [.int ((4 : Int32) * x2)]) (rest := []) lk_X11_283 ob_33 e_X11_check_63 (m_X8_number G ((4 : Int32) * x2) σ _ _ e16) (by decide) rfl (Nat.le_of_ble_eq_true rfl) ?_
  refine z_iload e_X11_check_66 0 rfl ?_
  refine z_icmp_eq e_X11_check_67 h (fun c17 h => ?_) (fun c17 h => ?_)
  · refine z_iinc e_X11_check_72 3 rfl (by decide) (by decide) h (fun y => [(2, .int y), (3, .int t0), (0, .ref (zad G 0)), (1, .int x1)]) (fun _ => rfl) (fun v18 h => ?_)
    refine z_goto e_X11_check_75 ?_
    exact z_sub [2, 3, 0] rfl (hw27 v18 s14 h)
  · refine z_iload e_X11_check_70 3 rfl ?_
    cases h
    exact z_ireturn hR e_X11_check_71
noncomputable def F_X11_check_27 (x1 : Int32) (w27 : (Int32 × zSt) → Option (Int32 × zSt)) (x2 : Int32) (σ : zSt) : Option (Int32 × zSt) :=
  if x1 ≤ x2 then (
    some ((-1 : Int32), σ))
  else (
    bd (F_X10_isTold x2 σ) (fun q11 s10 =>
      if q11 = 0 then (
        F_X11_check_55 w27 x1 x2 (0 : Int32) s10)
      else (
        bd (F_X10_islandOf x2 s10) (fun q20 s19 =>
          F_X11_check_55 w27 x1 x2 q20 s19))))
set_option maxHeartbeats 4000000 in
set_option maxRecDepth 100000 in
theorem b_X11_check_27 {G : zG} {C : zC} {r : Int32} {τ : zSt} (hR : zR G C (some .int) (some (.int r)) τ) (x1 : Int32) (w27 : (Int32 × zSt) → Option (Int32 × zSt)) (hw27 : ∀ (x2 : Int32) (σ : zSt), w27 (x2, σ) = some (r, τ) → zAW G 3 RX11 cX11_check 4 C 27 [(0, .ref (zad G 0)), (1, .int x1), (2, .int x2)] [] σ) (x2 : Int32) (σ : zSt) (h : F_X11_check_27 x1 w27 x2 σ = some (r, τ)) : zAW G 3 RX11 cX11_check 4 C 27 [(0, .ref (zad G 0)), (1, .int x1), (2, .int x2)] [] σ := by
  unfold F_X11_check_27 at h
  refine z_iload e_X11_check_27 2 rfl ?_
  refine z_iload e_X11_check_28 1 rfl ?_
  refine z_icmp_ge e_X11_check_29 h (fun c9 h => ?_) (fun c9 h => ?_)
  · refine z_ic e_X11_check_78 ?_
    cases h
    exact z_ireturn hR e_X11_check_79
  · refine z_aload e_X11_check_32 0 rfl ?_
    refine z_getr gf_X11_23_0 e_X11_check_33 ?_
    refine z_iload e_X11_check_36 2 rfl ?_
    obtain ⟨q11, s10, e12, h⟩ := bd_e h
    refine z_callVi (c0 := 1) (As := [.int x2]) (rest := []) lk_X11_112 ob_1 e_X11_check_37 (m_X10_isTold G x2 σ _ _ e12) (by decide) rfl (Nat.le_of_ble_eq_true rfl) ?_
    refine z_if_eq e_X11_check_40 h (fun c13 h => ?_) (fun c13 h => ?_)
    · refine z_ic e_X11_check_54 ?_
      exact z_sub [0, 1, 2] rfl (p_X11_check_55 hR w27 x1 x2 (0 : Int32) hw27 s10 h)
    · refine z_aload e_X11_check_43 0 rfl ?_
      refine z_getr gf_X11_23_0 e_X11_check_44 ?_
      refine z_iload e_X11_check_47 2 rfl ?_
      obtain ⟨q20, s19, e21, h⟩ := bd_e h
      refine z_callVi (c0 := 1) (As := [.int x2]) (rest := []) lk_X11_280 ob_1 e_X11_check_48 (m_X10_islandOf G x2 s10 _ _ e21) (by decide) rfl (Nat.le_of_ble_eq_true rfl) ?_
      refine z_goto e_X11_check_51 ?_
      exact z_sub [0, 1, 2] rfl (p_X11_check_55 hR w27 x1 x2 q20 hw27 s19 h)
noncomputable def F_X11_check_27L (x1 : Int32) : ((Int32 × zSt) → Option (Int32 × zSt)) → (Int32 × zSt) → Option (Int32 × zSt) := fun w s => F_X11_check_27 x1 w s.1 s.2
set_option maxRecDepth 100000 in
theorem l_X11_check_27 {G : zG} {C : zC} {r : Int32} {τ : zSt} (hR : zR G C (some .int) (some (.int r)) τ) (x1 : Int32) : ∀ (N : Nat) (x2 : Int32) (σ : zSt), zfix (F_X11_check_27L x1) N (x2, σ) = some (r, τ) → zAW G 3 RX11 cX11_check 4 C 27 [(0, .ref (zad G 0)), (1, .int x1), (2, .int x2)] [] σ := by
  intro N
  induction N with
  | zero =>
    intro x2 σ h
    exact nomatch (show (none : Option (Int32 × zSt)) = some (r, τ) from h)
  | succ N ih =>
    intro x2 σ h
    exact b_X11_check_27 hR x1 (zfix (F_X11_check_27L x1) N) ih x2 σ h
noncomputable def F_X11_check_0 (x1 : Int32) (σ : zSt) : Option (Int32 × zSt) :=
  bd (F_X11_isBelow x1 (9 : Int32) σ) (fun q2 s1 =>
    if q2 = 0 then (
      some ((-2 : Int32), s1))
    else (
      bd (F_X8_take ((4 : Int32) * x1) s1) (fun q6 s5 =>
        if q6 = 0 then (
          some ((-2 : Int32), s5))
        else (
          zfix (F_X11_check_27L x1) zlim ((0 : Int32), s5)))))
set_option maxHeartbeats 4000000 in
set_option maxRecDepth 100000 in
theorem p_X11_check_0 {G : zG} {C : zC} {r : Int32} {τ : zSt} (hR : zR G C (some .int) (some (.int r)) τ) (x1 : Int32) (σ : zSt) (h : F_X11_check_0 x1 σ = some (r, τ)) : zAW G 3 RX11 cX11_check 4 C 0 [(0, .ref (zad G 0)), (1, .int x1)] [] σ := by
  unfold F_X11_check_0 at h
  refine z_iload e_X11_check_0 1 rfl ?_
  refine z_ic e_X11_check_1 ?_
  obtain ⟨q2, s1, e3, h⟩ := bd_e h
  refine z_callSi (As := [.int x1, .int (9 : Int32)]) (rest := []) lk_X11_104 e_X11_check_3 (m_X11_isBelow G x1 (9 : Int32) σ _ _ e3) (by decide) rfl (Nat.le_of_ble_eq_true rfl) ?_
  refine z_if_eq e_X11_check_6 h (fun c4 h => ?_) (fun c4 h => ?_)
  · refine z_ic e_X11_check_22 ?_
    cases h
    exact z_ireturn hR e_X11_check_24
  · refine z_aload e_X11_check_9 0 rfl ?_
    refine z_getr gf_X11_39_0 e_X11_check_10 ?_
    refine z_ic e_X11_check_13 ?_
    refine z_iload e_X11_check_14 1 rfl ?_
    refine z_imul e_X11_check_15 ?_
    obtain ⟨q6, s5, e7, h⟩ := bd_e h
    refine z_callVi (c0 := 33) (As := [.int ((4 : Int32) * x1)]) (rest := []) lk_X11_143 ob_33 e_X11_check_16 (m_X8_take G ((4 : Int32) * x1) s1 _ _ e7) (by decide) rfl (Nat.le_of_ble_eq_true rfl) ?_
    refine z_if_ne e_X11_check_19 h (fun c8 h => ?_) (fun c8 h => ?_)
    · refine z_ic e_X11_check_22 ?_
      cases h
      exact z_ireturn hR e_X11_check_24
    · refine z_ic e_X11_check_25 ?_
      refine z_istore e_X11_check_26 (by decide) [(2, .int (0 : Int32)), (0, .ref (zad G 0)), (1, .int x1)] rfl ?_
      exact z_sub [1, 2, 0] rfl (l_X11_check_27 hR x1 zlim (0 : Int32) s5 h)
noncomputable def F_X11_check (x1 : Int32) (σ : zSt) : Option (Int32 × zSt) := F_X11_check_0 x1 σ
set_option maxRecDepth 100000 in
theorem m_X11_check (G : zG) (x1 : Int32) (σ : zSt) (q : Int32) (τ : zSt) (h : F_X11_check x1 σ = some (q, τ)) : zM G 3 yX11_check cX11_check 4 (some .int) [.ref (zad G 0), .int x1] σ (some (.int q)) τ := by
  unfold F_X11_check at h
  refine zM.of (own := RX11) (by decide +kernel) rfl (Nat.le_of_ble_eq_true rfl) (fun C hR => ?_)
  exact z_sub [0, 1] rfl (p_X11_check_0 hR x1 σ h)
noncomputable def F_X12_tapeNumber_6 (x1 : Int32) (w6 : (Int32 × Int32 × zSt) → Option (Int32 × zSt)) (x2 : Int32) (x3 : Int32) (σ : zSt) : Option (Int32 × zSt) :=
  if (((4 : Int32) * x1) + (4 : Int32)) ≤ x3 then (
    some (x2, σ))
  else (
    gd (vp_in x3 260) (
      nm ((x2 <<< ((8 : Int32) &&& 31)) ||| ((σ.1 76 x3.toNatClampNeg) &&& (255 : Int32))) (fun v3 =>
        nm (x3 + (1 : Int32)) (fun v4 =>
          w6 (v3, v4, σ)))))
set_option maxHeartbeats 4000000 in
set_option maxRecDepth 100000 in
theorem b_X12_tapeNumber_6 {G : zG} {C : zC} {r : Int32} {τ : zSt} (hR : zR G C (some .int) (some (.int r)) τ) (x1 : Int32) (w6 : (Int32 × Int32 × zSt) → Option (Int32 × zSt)) (hw6 : ∀ (x2 : Int32) (x3 : Int32) (σ : zSt), w6 (x2, x3, σ) = some (r, τ) → zAW G 1 RX12 cX12_tapeNumber 4 C 6 [(0, .ref (zad G 69)), (1, .int x1), (2, .int x2), (3, .int x3)] [] σ) (x2 : Int32) (x3 : Int32) (σ : zSt) (h : F_X12_tapeNumber_6 x1 w6 x2 x3 σ = some (r, τ)) : zAW G 1 RX12 cX12_tapeNumber 4 C 6 [(0, .ref (zad G 69)), (1, .int x1), (2, .int x2), (3, .int x3)] [] σ := by
  unfold F_X12_tapeNumber_6 at h
  refine z_iload e_X12_tapeNumber_6 3 rfl ?_
  refine z_ic e_X12_tapeNumber_7 ?_
  refine z_iload e_X12_tapeNumber_8 1 rfl ?_
  refine z_imul e_X12_tapeNumber_9 ?_
  refine z_ic e_X12_tapeNumber_10 ?_
  refine z_iadd e_X12_tapeNumber_11 ?_
  refine z_icmp_ge e_X12_tapeNumber_12 h (fun c2 h => ?_) (fun c2 h => ?_)
  · refine z_iload e_X12_tapeNumber_37 2 rfl ?_
    cases h
    exact z_ireturn hR e_X12_tapeNumber_38
  · refine z_iload e_X12_tapeNumber_15 2 rfl ?_
    refine z_ic e_X12_tapeNumber_16 ?_
    refine z_ishl e_X12_tapeNumber_18 ?_
    refine z_aload e_X12_tapeNumber_19 0 rfl ?_
    refine z_getr gf_X12_28_69 e_X12_tapeNumber_20 ?_
    refine z_iload e_X12_tapeNumber_23 3 rfl ?_
    refine z_bald sh_76 e_X12_tapeNumber_24 h (fun h => ?_)
    refine z_ic e_X12_tapeNumber_25 ?_
    refine z_iand e_X12_tapeNumber_28 ?_
    refine z_ior e_X12_tapeNumber_29 ?_
    refine z_nmI h (fun v3 h => ?_)
    refine z_istore e_X12_tapeNumber_30 (by decide) [(2, .int v3), (0, .ref (zad G 69)), (1, .int x1), (3, .int x3)] rfl ?_
    refine z_iinc e_X12_tapeNumber_31 3 rfl (by decide) (by decide) h (fun y => [(3, .int y), (2, .int v3), (0, .ref (zad G 69)), (1, .int x1)]) (fun _ => rfl) (fun v4 h => ?_)
    refine z_goto e_X12_tapeNumber_34 ?_
    exact z_sub [2, 3, 1, 0] rfl (hw6 v3 v4 σ h)
noncomputable def F_X12_tapeNumber_6L (x1 : Int32) : ((Int32 × Int32 × zSt) → Option (Int32 × zSt)) → (Int32 × Int32 × zSt) → Option (Int32 × zSt) := fun w s => F_X12_tapeNumber_6 x1 w s.1 s.2.1 s.2.2
set_option maxRecDepth 100000 in
theorem l_X12_tapeNumber_6 {G : zG} {C : zC} {r : Int32} {τ : zSt} (hR : zR G C (some .int) (some (.int r)) τ) (x1 : Int32) : ∀ (N : Nat) (x2 : Int32) (x3 : Int32) (σ : zSt), zfix (F_X12_tapeNumber_6L x1) N (x2, x3, σ) = some (r, τ) → zAW G 1 RX12 cX12_tapeNumber 4 C 6 [(0, .ref (zad G 69)), (1, .int x1), (2, .int x2), (3, .int x3)] [] σ := by
  intro N
  induction N with
  | zero =>
    intro x2 x3 σ h
    exact nomatch (show (none : Option (Int32 × zSt)) = some (r, τ) from h)
  | succ N ih =>
    intro x2 x3 σ h
    exact b_X12_tapeNumber_6 hR x1 (zfix (F_X12_tapeNumber_6L x1) N) ih x2 x3 σ h
noncomputable def F_X12_tapeNumber_0 (x1 : Int32) (σ : zSt) : Option (Int32 × zSt) :=
  nm ((4 : Int32) * x1) (fun v1 =>
    zfix (F_X12_tapeNumber_6L x1) zlim ((0 : Int32), v1, σ))
set_option maxHeartbeats 4000000 in
set_option maxRecDepth 100000 in
theorem p_X12_tapeNumber_0 {G : zG} {C : zC} {r : Int32} {τ : zSt} (hR : zR G C (some .int) (some (.int r)) τ) (x1 : Int32) (σ : zSt) (h : F_X12_tapeNumber_0 x1 σ = some (r, τ)) : zAW G 1 RX12 cX12_tapeNumber 4 C 0 [(0, .ref (zad G 69)), (1, .int x1)] [] σ := by
  unfold F_X12_tapeNumber_0 at h
  refine z_ic e_X12_tapeNumber_0 ?_
  refine z_istore e_X12_tapeNumber_1 (by decide) [(2, .int (0 : Int32)), (0, .ref (zad G 69)), (1, .int x1)] rfl ?_
  refine z_ic e_X12_tapeNumber_2 ?_
  refine z_iload e_X12_tapeNumber_3 2 rfl ?_
  refine z_imul e_X12_tapeNumber_4 ?_
  refine z_nmI h (fun v1 h => ?_)
  refine z_istore e_X12_tapeNumber_5 (by decide) [(3, .int v1), (2, .int (0 : Int32)), (0, .ref (zad G 69)), (1, .int x1)] rfl ?_
  exact z_sub [2, 3, 1, 0] rfl (l_X12_tapeNumber_6 hR x1 zlim (0 : Int32) v1 σ h)
noncomputable def F_X12_tapeNumber (x1 : Int32) (σ : zSt) : Option (Int32 × zSt) := F_X12_tapeNumber_0 x1 σ
set_option maxRecDepth 100000 in
theorem m_X12_tapeNumber (G : zG) (x1 : Int32) (σ : zSt) (q : Int32) (τ : zSt) (h : F_X12_tapeNumber x1 σ = some (q, τ)) : zM G 1 yX12_tapeNumber cX12_tapeNumber 4 (some .int) [.ref (zad G 69), .int x1] σ (some (.int q)) τ := by
  unfold F_X12_tapeNumber at h
  refine zM.of (own := RX12) (by decide +kernel) rfl (Nat.le_of_ble_eq_true rfl) (fun C hR => ?_)
  exact z_sub [0, 1] rfl (p_X12_tapeNumber_0 hR x1 σ h)
