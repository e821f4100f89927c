noncomputable def F_X12_stateOf_0 (x0 : Int32) (x1 : Int32) (x2 : Int32) (σ : zSt) : Option (Int32 × zSt) :=
  some ((((4 : Int32) * (((27 : Int32) * x0) + x1)) + x2), σ)
set_option maxHeartbeats 4000000 in
set_option maxRecDepth 100000 in
theorem p_X12_stateOf_0 {G : zG} {C : zC} {r : Int32} {τ : zSt} (hR : zR G C (some .int) (some (.int r)) τ) (x0 : Int32) (x1 : Int32) (x2 : Int32) (σ : zSt) (h : F_X12_stateOf_0 x0 x1 x2 σ = some (r, τ)) : zAW G 1 RX12 cX12_stateOf 3 C 0 [(0, .int x0), (1, .int x1), (2, .int x2)] [] σ := by
  unfold F_X12_stateOf_0 at h
  refine z_ic e_X12_stateOf_0 ?_
  refine z_ic e_X12_stateOf_1 ?_
  refine z_iload e_X12_stateOf_3 0 rfl ?_
  refine z_imul e_X12_stateOf_4 ?_
  refine z_iload e_X12_stateOf_5 1 rfl ?_
  refine z_iadd e_X12_stateOf_6 ?_
  refine z_imul e_X12_stateOf_7 ?_
  refine z_iload e_X12_stateOf_8 2 rfl ?_
  refine z_iadd e_X12_stateOf_9 ?_
  cases h
  exact z_ireturn hR e_X12_stateOf_10
noncomputable def F_X12_stateOf (x0 : Int32) (x1 : Int32) (x2 : Int32) (σ : zSt) : Option (Int32 × zSt) := F_X12_stateOf_0 x0 x1 x2 σ
set_option maxRecDepth 100000 in
theorem m_X12_stateOf (G : zG) (x0 : Int32) (x1 : Int32) (x2 : Int32) (σ : zSt) (q : Int32) (τ : zSt) (h : F_X12_stateOf x0 x1 x2 σ = some (q, τ)) : zM G 1 yX12_stateOf cX12_stateOf 3 (some .int) [.int x0, .int x1, .int x2] σ (some (.int q)) τ := by
  unfold F_X12_stateOf at h
  refine zM.of (own := RX12) (by decide +kernel) rfl (Nat.le_of_ble_eq_true rfl) (fun C hR => ?_)
  exact z_sub [0, 1, 2] rfl (p_X12_stateOf_0 hR x0 x1 x2 σ h)
noncomputable def F_X12_standOf_0 (x0 : Int32) (x1 : Int32) (σ : zSt) : Option (Int32 × zSt) :=
  if x1 = 0 then (
    some ((x0 % (3 : Int32)), σ))
  else (
    if x1 = (1 : Int32) then (
      some (((x0 / (3 : Int32)) % (3 : Int32)), σ))
    else (
      some ((x0 / (9 : Int32)), σ)))
set_option maxHeartbeats 4000000 in
set_option maxRecDepth 100000 in
theorem p_X12_standOf_0 {G : zG} {C : zC} {r : Int32} {τ : zSt} (hR : zR G C (some .int) (some (.int r)) τ) (x0 : Int32) (x1 : Int32) (σ : zSt) (h : F_X12_standOf_0 x0 x1 σ = some (r, τ)) : zAW G 1 RX12 cX12_standOf 2 C 0 [(0, .int x0), (1, .int x1)] [] σ := by
  unfold F_X12_standOf_0 at h
  refine z_iload e_X12_standOf_0 1 rfl ?_
  refine z_if_ne e_X12_standOf_1 h (fun c1 h => ?_) (fun c1 h => ?_)
  · refine z_iload e_X12_standOf_4 0 rfl ?_
    refine z_ic e_X12_standOf_5 ?_
    refine z_irem e_X12_standOf_6 (by decide) ?_
    refine z_goto e_X12_standOf_7 ?_
    cases h
    exact z_ireturn hR e_X12_standOf_27
  · refine z_iload e_X12_standOf_10 1 rfl ?_
    refine z_ic e_X12_standOf_11 ?_
    refine z_icmp_ne e_X12_standOf_12 h (fun c2 h => ?_) (fun c2 h => ?_)
    · refine z_iload e_X12_standOf_15 0 rfl ?_
      refine z_ic e_X12_standOf_16 ?_
      refine z_idiv e_X12_standOf_17 (by decide) ?_
      refine z_ic e_X12_standOf_18 ?_
      refine z_irem e_X12_standOf_19 (by decide) ?_
      refine z_goto e_X12_standOf_20 ?_
      cases h
      exact z_ireturn hR e_X12_standOf_27
    · refine z_iload e_X12_standOf_23 0 rfl ?_
      refine z_ic e_X12_standOf_24 ?_
      refine z_idiv e_X12_standOf_26 (by decide) ?_
      cases h
      exact z_ireturn hR e_X12_standOf_27
noncomputable def F_X12_standOf (x0 : Int32) (x1 : Int32) (σ : zSt) : Option (Int32 × zSt) := F_X12_standOf_0 x0 x1 σ
set_option maxRecDepth 100000 in
theorem m_X12_standOf (G : zG) (x0 : Int32) (x1 : Int32) (σ : zSt) (q : Int32) (τ : zSt) (h : F_X12_standOf x0 x1 σ = some (q, τ)) : zM G 1 yX12_standOf cX12_standOf 2 (some .int) [.int x0, .int x1] σ (some (.int q)) τ := by
  unfold F_X12_standOf at h
  refine zM.of (own := RX12) (by decide +kernel) rfl (Nat.le_of_ble_eq_true rfl) (fun C hR => ?_)
  exact z_sub [0, 1] rfl (p_X12_standOf_0 hR x0 x1 σ h)
noncomputable def F_X12_keysWith_72 (w44 : (Int32 × Int32 × zSt) → Option (Int32 × zSt)) (x2 : Int32) (x4 : Int32) (t0 : Int32) (t1 : Int32) (σ : zSt) : Option (Int32 × zSt) :=
  nm (t1 ||| t0) (fun v7 =>
    nm (x4 + (1 : Int32)) (fun v8 =>
      w44 (v7, v8, σ)))
set_option maxHeartbeats 4000000 in
set_option maxRecDepth 100000 in
theorem p_X12_keysWith_72 {G : zG} {C : zC} {r : Int32} {τ : zSt} (hR : zR G C (some .int) (some (.int r)) τ) (w44 : (Int32 × Int32 × zSt) → Option (Int32 × zSt)) (x2 : Int32) (x4 : Int32) (t0 : Int32) (t1 : Int32) (hw44 : ∀ (x3 : Int32) (x4 : Int32) (σ : zSt), w44 (x3, x4, σ) = some (r, τ) → zAW G 2 RX12 cX12_keysWith 5 C 44 [(0, .ref (zad G 69)), (2, .int x2), (3, .int x3), (4, .int x4)] [] σ) (σ : zSt) (h : F_X12_keysWith_72 w44 x2 x4 t0 t1 σ = some (r, τ)) : zAW G 2 RX12 cX12_keysWith 5 C 72 [(0, .ref (zad G 69)), (2, .int x2), (4, .int x4)] [.int t0, .int t1] σ := by
  unfold F_X12_keysWith_72 at h
  refine z_ior e_X12_keysWith_72 ?_
  refine z_nmI h (fun v7 h => ?_)
  refine z_istore e_X12_keysWith_73 (by decide) [(3, .int v7), (0, .ref (zad G 69)), (2, .int x2), (4, .int x4)] rfl ?_
  refine z_iinc e_X12_keysWith_74 3 rfl (by decide) (by decide) h (fun y => [(4, .int y), (3, .int v7), (0, .ref (zad G 69)), (2, .int x2)]) (fun _ => rfl) (fun v8 h => ?_)
  refine z_goto e_X12_keysWith_77 ?_
  exact z_sub [2, 3, 1, 0] rfl (hw44 v7 v8 σ h)
noncomputable def F_X12_keysWith_44 (x2 : Int32) (w44 : (Int32 × Int32 × zSt) → Option (Int32 × zSt)) (x3 : Int32) (x4 : Int32) (σ : zSt) : Option (Int32 × zSt) :=
  if (3 : Int32) ≤ x4 then (
    some (x3, σ))
  else (
    bd (F_X12_standOf x2 x4 σ) (fun q4 s3 =>
      if q4 = (2 : Int32) then (
        gd (vp_in x4 3) (
          F_X12_keysWith_72 w44 x2 x4 (s3.1 94 x4.toNatClampNeg) x3 s3))
      else (
        F_X12_keysWith_72 w44 x2 x4 (0 : Int32) x3 s3)))
set_option maxHeartbeats 4000000 in
set_option maxRecDepth 100000 in
theorem b_X12_keysWith_44 {G : zG} {C : zC} {r : Int32} {τ : zSt} (hR : zR G C (some .int) (some (.int r)) τ) (x2 : Int32) (w44 : (Int32 × Int32 × zSt) → Option (Int32 × zSt)) (hw44 : ∀ (x3 : Int32) (x4 : Int32) (σ : zSt), w44 (x3, x4, σ) = some (r, τ) → zAW G 2 RX12 cX12_keysWith 5 C 44 [(0, .ref (zad G 69)), (2, .int x2), (3, .int x3), (4, .int x4)] [] σ) (x3 : Int32) (x4 : Int32) (σ : zSt) (h : F_X12_keysWith_44 x2 w44 x3 x4 σ = some (r, τ)) : zAW G 2 RX12 cX12_keysWith 5 C 44 [(0, .ref (zad G 69)), (2, .int x2), (3, .int x3), (4, .int x4)] [] σ := by
  unfold F_X12_keysWith_44 at h
  refine z_iload e_X12_keysWith_44 3 rfl ?_
  refine z_ic e_X12_keysWith_46 ?_
  refine z_icmp_ge e_X12_keysWith_47 h (fun c2 h => ?_) (fun c2 h => ?_)
  · refine z_iload e_X12_keysWith_80 2 rfl ?_
    cases h
    exact z_ireturn hR e_X12_keysWith_81
  · refine z_iload e_X12_keysWith_50 2 rfl ?_
    refine z_iload e_X12_keysWith_51 1 rfl ?_
    refine z_iload e_X12_keysWith_52 3 rfl ?_
    obtain ⟨q4, s3, e5, h⟩ := bd_e h
    refine z_callSi (As := [.int x2, .int x4]) (rest := [.int x3]) lk_X12_369 e_X12_keysWith_54 (m_X12_standOf G x2 x4 σ _ _ e5) (by decide) rfl (Nat.le_of_ble_eq_true rfl) ?_
    refine z_ic e_X12_keysWith_57 ?_
    refine z_icmp_ne e_X12_keysWith_58 h (fun c6 h => ?_) (fun c6 h => ?_)
    · refine z_aload e_X12_keysWith_61 0 rfl ?_
      refine z_getr gf_X12_83_69 e_X12_keysWith_62 ?_
      refine z_iload e_X12_keysWith_65 3 rfl ?_
      refine z_iald sh_94 e_X12_keysWith_67 h (fun h => ?_)
      refine z_goto e_X12_keysWith_68 ?_
      exact z_sub [0, 1, 3] rfl (p_X12_keysWith_72 hR w44 x2 x4 (s3.1 94 x4.toNatClampNeg) x3 hw44 s3 h)
    · refine z_ic e_X12_keysWith_71 ?_
      exact z_sub [0, 1, 3] rfl (p_X12_keysWith_72 hR w44 x2 x4 (0 : Int32) x3 hw44 s3 h)
noncomputable def F_X12_keysWith_44L (x2 : Int32) : ((Int32 × Int32 × zSt) → Option (Int32 × zSt)) → (Int32 × Int32 × zSt) → Option (Int32 × zSt) := fun w s => F_X12_keysWith_44 x2 w s.1 s.2.1 s.2.2
set_option maxRecDepth 100000 in
theorem l_X12_keysWith_44 {G : zG} {C : zC} {r : Int32} {τ : zSt} (hR : zR G C (some .int) (some (.int r)) τ) (x2 : Int32) : ∀ (N : Nat) (x3 : Int32) (x4 : Int32) (σ : zSt), zfix (F_X12_keysWith_44L x2) N (x3, x4, σ) = some (r, τ) → zAW G 2 RX12 cX12_keysWith 5 C 44 [(0, .ref (zad G 69)), (2, .int x2), (3, .int x3), (4, .int x4)] [] σ := by
  intro N
  induction N with
  | zero =>
    intro x3 x4 σ h
    exact nomatch (show (none : Option (Int32 × zSt)) = some (r, τ) from h)
  | succ N ih =>
    intro x3 x4 σ h
    exact b_X12_keysWith_44 hR x2 (zfix (F_X12_keysWith_44L x2) N) ih x3 x4 σ h
noncomputable def F_X12_keysWith_41 (x2 : Int32) (x3 : Int32) (σ : zSt) : Option (Int32 × zSt) :=
  zfix (F_X12_keysWith_44L x2) zlim (x3, (0 : Int32), σ)
set_option maxHeartbeats 4000000 in
set_option maxRecDepth 100000 in
theorem p_X12_keysWith_41 {G : zG} {C : zC} {r : Int32} {τ : zSt} (hR : zR G C (some .int) (some (.int r)) τ) (x2 : Int32) (x3 : Int32) (σ : zSt) (h : F_X12_keysWith_41 x2 x3 σ = some (r, τ)) : zAW G 2 RX12 cX12_keysWith 5 C 41 [(0, .ref (zad G 69)), (2, .int x2), (3, .int x3)] [] σ := by
  unfold F_X12_keysWith_41 at h
  refine z_ic e_X12_keysWith_41 ?_
  refine z_istore e_X12_keysWith_42 (by decide) [(4, .int (0 : Int32)), (0, .ref (zad G 69)), (2, .int x2), (3, .int x3)] rfl ?_
  exact z_sub [1, 2, 3, 0] rfl (l_X12_keysWith_44 hR x2 zlim x3 (0 : Int32) σ h)
noncomputable def F_X12_keysWith_33 (w5 : (Int32 × Int32 × zSt) → Option (Int32 × zSt)) (x1 : Int32) (x2 : Int32) (x4 : Int32) (t0 : Int32) (t1 : Int32) (σ : zSt) : Option (Int32 × zSt) :=
  nm (t1 ||| t0) (fun v13 =>
    nm (x4 + (1 : Int32)) (fun v14 =>
      w5 (v13, v14, σ)))
set_option maxHeartbeats 4000000 in
set_option maxRecDepth 100000 in
theorem p_X12_keysWith_33 {G : zG} {C : zC} {r : Int32} {τ : zSt} (hR : zR G C (some .int) (some (.int r)) τ) (w5 : (Int32 × Int32 × zSt) → Option (Int32 × zSt)) (x1 : Int32) (x2 : Int32) (x4 : Int32) (t0 : Int32) (t1 : Int32) (hw5 : ∀ (x3 : Int32) (x4 : Int32) (σ : zSt), w5 (x3, x4, σ) = some (r, τ) → zAW G 2 RX12 cX12_keysWith 5 C 5 [(0, .ref (zad G 69)), (1, .int x1), (2, .int x2), (3, .int x3), (4, .int x4)] [] σ) (σ : zSt) (h : F_X12_keysWith_33 w5 x1 x2 x4 t0 t1 σ = some (r, τ)) : zAW G 2 RX12 cX12_keysWith 5 C 33 [(0, .ref (zad G 69)), (1, .int x1), (2, .int x2), (4, .int x4)] [.int t0, .int t1] σ := by
  unfold F_X12_keysWith_33 at h
  refine z_ior e_X12_keysWith_33 ?_
  refine z_nmI h (fun v13 h => ?_)
  refine z_istore e_X12_keysWith_34 (by decide) [(3, .int v13), (0, .ref (zad G 69)), (1, .int x1), (2, .int x2), (4, .int x4)] rfl ?_
  refine z_iinc e_X12_keysWith_35 4 rfl (by decide) (by decide) h (fun y => [(4, .int y), (3, .int v13), (0, .ref (zad G 69)), (1, .int x1), (2, .int x2)]) (fun _ => rfl) (fun v14 h => ?_)
  refine z_goto e_X12_keysWith_38 ?_
  exact z_sub [2, 3, 4, 1, 0] rfl (hw5 v13 v14 σ h)
noncomputable def F_X12_keysWith_5 (x1 : Int32) (x2 : Int32) (w5 : (Int32 × Int32 × zSt) → Option (Int32 × zSt)) (x3 : Int32) (x4 : Int32) (σ : zSt) : Option (Int32 × zSt) :=
  if (8 : Int32) ≤ x4 then (
    F_X12_keysWith_41 x2 x3 σ)
  else (
    bd (F_X12_has x1 x4 σ) (fun q10 s9 =>
      if q10 = 0 then (
        F_X12_keysWith_33 w5 x1 x2 x4 (0 : Int32) x3 s9)
      else (
        gd (vp_in x4 8) (
          F_X12_keysWith_33 w5 x1 x2 x4 (s9.1 93 x4.toNatClampNeg) x3 s9))))
set_option maxHeartbeats 4000000 in
set_option maxRecDepth 100000 in
theorem b_X12_keysWith_5 {G : zG} {C : zC} {r : Int32} {τ : zSt} (hR : zR G C (some .int) (some (.int r)) τ) (x1 : Int32) (x2 : Int32) (w5 : (Int32 × Int32 × zSt) → Option (Int32 × zSt)) (hw5 : ∀ (x3 : Int32) (x4 : Int32) (σ : zSt), w5 (x3, x4, σ) = some (r, τ) → zAW G 2 RX12 cX12_keysWith 5 C 5 [(0, .ref (zad G 69)), (1, .int x1), (2, .int x2), (3, .int x3), (4, .int x4)] [] σ) (x3 : Int32) (x4 : Int32) (σ : zSt) (h : F_X12_keysWith_5 x1 x2 w5 x3 x4 σ = some (r, τ)) : zAW G 2 RX12 cX12_keysWith 5 C 5 [(0, .ref (zad G 69)), (1, .int x1), (2, .int x2), (3, .int x3), (4, .int x4)] [] σ := by
  unfold F_X12_keysWith_5 at h
  refine z_iload e_X12_keysWith_5 4 rfl ?_
  refine z_ic e_X12_keysWith_7 ?_
  refine z_icmp_ge e_X12_keysWith_9 h (fun c1 h => ?_) (fun c1 h => ?_)
  · exact z_sub [0, 2, 3] rfl (p_X12_keysWith_41 hR x2 x3 σ h)
  · refine z_iload e_X12_keysWith_12 3 rfl ?_
    refine z_iload e_X12_keysWith_13 1 rfl ?_
    refine z_iload e_X12_keysWith_14 4 rfl ?_
    obtain ⟨q10, s9, e11, h⟩ := bd_e h
    refine z_callSi (As := [.int x1, .int x4]) (rest := [.int x3]) lk_X12_156 e_X12_keysWith_16 (m_X12_has G x1 x4 σ _ _ e11) (by decide) rfl (Nat.le_of_ble_eq_true rfl) ?_
    refine z_if_eq e_X12_keysWith_19 h (fun c12 h => ?_) (fun c12 h => ?_)
    · refine z_ic e_X12_keysWith_32 ?_
      exact z_sub [0, 1, 2, 4] rfl (p_X12_keysWith_33 hR w5 x1 x2 x4 (0 : Int32) x3 hw5 s9 h)
    · refine z_aload e_X12_keysWith_22 0 rfl ?_
      refine z_getr gf_X12_80_69 e_X12_keysWith_23 ?_
      refine z_iload e_X12_keysWith_26 4 rfl ?_
      refine z_iald sh_93 e_X12_keysWith_28 h (fun h => ?_)
      refine z_goto e_X12_keysWith_29 ?_
      exact z_sub [0, 1, 2, 4] rfl (p_X12_keysWith_33 hR w5 x1 x2 x4 (s9.1 93 x4.toNatClampNeg) x3 hw5 s9 h)
noncomputable def F_X12_keysWith_5L (x1 : Int32) (x2 : Int32) : ((Int32 × Int32 × zSt) → Option (Int32 × zSt)) → (Int32 × Int32 × zSt) → Option (Int32 × zSt) := fun w s => F_X12_keysWith_5 x1 x2 w s.1 s.2.1 s.2.2
set_option maxRecDepth 100000 in
theorem l_X12_keysWith_5 {G : zG} {C : zC} {r : Int32} {τ : zSt} (hR : zR G C (some .int) (some (.int r)) τ) (x1 : Int32) (x2 : Int32) : ∀ (N : Nat) (x3 : Int32) (x4 : Int32) (σ : zSt), zfix (F_X12_keysWith_5L x1 x2) N (x3, x4, σ) = some (r, τ) → zAW G 2 RX12 cX12_keysWith 5 C 5 [(0, .ref (zad G 69)), (1, .int x1), (2, .int x2), (3, .int x3), (4, .int x4)] [] σ := by
  intro N
  induction N with
  | zero =>
    intro x3 x4 σ h
    exact nomatch (show (none : Option (Int32 × zSt)) = some (r, τ) from h)
  | succ N ih =>
    intro x3 x4 σ h
    exact b_X12_keysWith_5 hR x1 x2 (zfix (F_X12_keysWith_5L x1 x2) N) ih x3 x4 σ h
noncomputable def F_X12_keysWith_0 (x1 : Int32) (x2 : Int32) (σ : zSt) : Option (Int32 × zSt) :=
  zfix (F_X12_keysWith_5L x1 x2) zlim ((0 : Int32), (0 : Int32), σ)
set_option maxHeartbeats 4000000 in
set_option maxRecDepth 100000 in
theorem p_X12_keysWith_0 {G : zG} {C : zC} {r : Int32} {τ : zSt} (hR : zR G C (some .int) (some (.int r)) τ) (x1 : Int32) (x2 : Int32) (σ : zSt) (h : F_X12_keysWith_0 x1 x2 σ = some (r, τ)) : zAW G 2 RX12 cX12_keysWith 5 C 0 [(0, .ref (zad G 69)), (1, .int x1), (2, .int x2)] [] σ := by
  unfold F_X12_keysWith_0 at h
  refine z_ic e_X12_keysWith_0 ?_
  refine z_istore e_X12_keysWith_1 (by decide) [(3, .int (0 : Int32)), (0, .ref (zad G 69)), (1, .int x1), (2, .int x2)] rfl ?_
  refine z_ic e_X12_keysWith_2 ?_
  refine z_istore e_X12_keysWith_3 (by decide) [(4, .int (0 : Int32)), (3, .int (0 : Int32)), (0, .ref (zad G 69)), (1, .int x1), (2, .int x2)] rfl ?_
  exact z_sub [2, 3, 4, 1, 0] rfl (l_X12_keysWith_5 hR x1 x2 zlim (0 : Int32) (0 : Int32) σ h)
noncomputable def F_X12_keysWith (x1 : Int32) (x2 : Int32) (σ : zSt) : Option (Int32 × zSt) := F_X12_keysWith_0 x1 x2 σ
set_option maxRecDepth 100000 in
theorem m_X12_keysWith (G : zG) (x1 : Int32) (x2 : Int32) (σ : zSt) (q : Int32) (τ : zSt) (h : F_X12_keysWith x1 x2 σ = some (q, τ)) : zM G 2 yX12_keysWith cX12_keysWith 5 (some .int) [.ref (zad G 69), .int x1, .int x2] σ (some (.int q)) τ := by
  unfold F_X12_keysWith at h
  refine zM.of (own := RX12) (by decide +kernel) rfl (Nat.le_of_ble_eq_true rfl) (fun C hR => ?_)
  exact z_sub [0, 1, 2] rfl (p_X12_keysWith_0 hR x1 x2 σ h)
noncomputable def F_X12_unitOf_0 (x0 : Int32) (σ : zSt) : Option (Int32 × zSt) :=
  if x0 = 0 then (
    some ((1 : Int32), σ))
  else (
    if x0 = (1 : Int32) then (
      some ((3 : Int32), σ))
    else (
      some ((9 : Int32), σ)))
set_option maxHeartbeats 4000000 in
set_option maxRecDepth 100000 in
theorem p_X12_unitOf_0 {G : zG} {C : zC} {r : Int32} {τ : zSt} (hR : zR G C (some .int) (some (.int r)) τ) (x0 : Int32) (σ : zSt) (h : F_X12_unitOf_0 x0 σ = some (r, τ)) : zAW G 1 RX12 cX12_unitOf 1 C 0 [(0, .int x0)] [] σ := by
  unfold F_X12_unitOf_0 at h
  refine z_iload e_X12_unitOf_0 0 rfl ?_
  refine z_if_ne e_X12_unitOf_1 h (fun c1 h => ?_) (fun c1 h => ?_)
  · refine z_ic e_X12_unitOf_4 ?_
    refine z_goto e_X12_unitOf_5 ?_
    cases h
    exact z_ireturn hR e_X12_unitOf_19
  · refine z_iload e_X12_unitOf_8 0 rfl ?_
    refine z_ic e_X12_unitOf_9 ?_
    refine z_icmp_ne e_X12_unitOf_10 h (fun c2 h => ?_) (fun c2 h => ?_)
    · refine z_ic e_X12_unitOf_13 ?_
      refine z_goto e_X12_unitOf_14 ?_
      cases h
      exact z_ireturn hR e_X12_unitOf_19
    · refine z_ic e_X12_unitOf_17 ?_
      cases h
      exact z_ireturn hR e_X12_unitOf_19
noncomputable def F_X12_unitOf (x0 : Int32) (σ : zSt) : Option (Int32 × zSt) := F_X12_unitOf_0 x0 σ
set_option maxRecDepth 100000 in
theorem m_X12_unitOf (G : zG) (x0 : Int32) (σ : zSt) (q : Int32) (τ : zSt) (h : F_X12_unitOf x0 σ = some (q, τ)) : zM G 1 yX12_unitOf cX12_unitOf 1 (some .int) [.int x0] σ (some (.int q)) τ := by
  unfold F_X12_unitOf at h
  refine zM.of (own := RX12) (by decide +kernel) rfl (Nat.le_of_ble_eq_true rfl) (fun C hR => ?_)
  exact z_sub [0] rfl (p_X12_unitOf_0 hR x0 σ h)
noncomputable def F_X12_behind_55 (x1 : Int32) (x3 : Int32) (x4 : Int32) (x5 : Int32) (x6 : Int32) (t0 : Int32) (σ : zSt) : Option (Int32 × zSt) :=
  if x5 = 0 then (
    if x6 = x3 then (
      some ((-1 : Int32), σ))
    else (
      gd (vp_in (((4 : Int32) * x3) + x6) 16) (
        if (σ.1 70 (((4 : Int32) * x3) + x6).toNatClampNeg) = 0 then (
          some ((-1 : Int32), σ))
        else (
          bd (F_X12_stateOf x1 t0 x6 σ) (fun q10 s9 =>
            some (q10, s9))))))
  else (
    if x5 = (1 : Int32) then (
      if x6 = x3 then (
        some ((-1 : Int32), σ))
      else (
        bd (F_X12_stateOf x1 t0 x6 σ) (fun q15 s14 =>
          some (q15, s14))))
    else (
      if x5 = (5 : Int32) then (
        gd (vp_in x6 3) (
          if (σ.1 94 x6.toNatClampNeg) = 0 then (
            some ((-1 : Int32), σ))
          else (
            bd (F_X12_stateOf x1 t0 x3 σ) (fun q20 s19 =>
              some (q20, s19)))))
      else (
        gd (vp_in x6 8) (
          if (σ.1 95 x6.toNatClampNeg) = x3 then (
            bd (F_X12_canOpen x6 x5 x3 x1 x4 σ) (fun q24 s23 =>
              if q24 = 0 then (
                some ((-1 : Int32), s23))
              else (
                bd (F_X12_stateOf (x1 ||| ((1 : Int32) <<< (x6 &&& 31))) t0 x3 s23) (fun q28 s27 =>
                  some (q28, s27)))))
          else (
            some ((-1 : Int32), σ))))))
set_option maxHeartbeats 4000000 in
set_option maxRecDepth 100000 in
theorem p_X12_behind_55 {G : zG} {C : zC} {r : Int32} {τ : zSt} (hR : zR G C (some .int) (some (.int r)) τ) (x1 : Int32) (x3 : Int32) (x4 : Int32) (x5 : Int32) (x6 : Int32) (t0 : Int32) (σ : zSt) (h : F_X12_behind_55 x1 x3 x4 x5 x6 t0 σ = some (r, τ)) : zAW G 4 RX12 cX12_behind 9 C 55 [(0, .ref (zad G 69)), (1, .int x1), (3, .int x3), (4, .int x4), (5, .int x5), (6, .int x6)] [.int t0] σ := by
  unfold F_X12_behind_55 at h
  refine z_istore e_X12_behind_55 (by decide) [(8, .int t0), (0, .ref (zad G 69)), (1, .int x1), (3, .int x3), (4, .int x4), (5, .int x5), (6, .int x6)] rfl ?_
  refine z_iload e_X12_behind_57 5 rfl ?_
  refine z_if_ne e_X12_behind_59 h (fun c6 h => ?_) (fun c6 h => ?_)
  · refine z_iload e_X12_behind_62 6 rfl ?_
    refine z_iload e_X12_behind_64 3 rfl ?_
    refine z_icmp_eq e_X12_behind_65 h (fun c7 h => ?_) (fun c7 h => ?_)
    · refine z_ic e_X12_behind_82 ?_
      refine z_goto e_X12_behind_83 ?_
      cases h
      exact z_ireturn hR e_X12_behind_94
    · refine z_aload e_X12_behind_68 1 rfl ?_
      refine z_getr gf_X12_7_69 e_X12_behind_69 ?_
      refine z_ic e_X12_behind_72 ?_
      refine z_iload e_X12_behind_73 3 rfl ?_
      refine z_imul e_X12_behind_74 ?_
      refine z_iload e_X12_behind_75 6 rfl ?_
      refine z_iadd e_X12_behind_77 ?_
      refine z_iald sh_70 e_X12_behind_78 h (fun h => ?_)
      refine z_if_ne e_X12_behind_79 h (fun c8 h => ?_) (fun c8 h => ?_)
      · refine z_ic e_X12_behind_82 ?_
        refine z_goto e_X12_behind_83 ?_
        cases h
        exact z_ireturn hR e_X12_behind_94
      · refine z_iload e_X12_behind_86 2 rfl ?_
        refine z_iload e_X12_behind_87 0 rfl ?_
        refine z_iload e_X12_behind_89 6 rfl ?_
        obtain ⟨q10, s9, e11, h⟩ := bd_e h
        refine z_callSi (As := [.int x1, .int t0, .int x6]) (rest := []) lk_X12_375 e_X12_behind_91 (m_X12_stateOf G x1 t0 x6 σ _ _ e11) (by decide) rfl (Nat.le_of_ble_eq_true rfl) ?_
        cases h
        exact z_ireturn hR e_X12_behind_94
  · refine z_iload e_X12_behind_95 5 rfl ?_
    refine z_ic e_X12_behind_97 ?_
    refine z_icmp_ne e_X12_behind_98 h (fun c12 h => ?_) (fun c12 h => ?_)
    · refine z_iload e_X12_behind_101 6 rfl ?_
      refine z_iload e_X12_behind_103 3 rfl ?_
      refine z_icmp_ne e_X12_behind_104 h (fun c13 h => ?_) (fun c13 h => ?_)
      · refine z_ic e_X12_behind_107 ?_
        refine z_goto e_X12_behind_108 ?_
        cases h
        exact z_ireturn hR e_X12_behind_119
      · refine z_iload e_X12_behind_111 2 rfl ?_
        refine z_iload e_X12_behind_112 0 rfl ?_
        refine z_iload e_X12_behind_114 6 rfl ?_
        obtain ⟨q15, s14, e16, h⟩ := bd_e h
        refine z_callSi (As := [.int x1, .int t0, .int x6]) (rest := []) lk_X12_375 e_X12_behind_116 (m_X12_stateOf G x1 t0 x6 σ _ _ e16) (by decide) rfl (Nat.le_of_ble_eq_true rfl) ?_
        cases h
        exact z_ireturn hR e_X12_behind_119
    · refine z_iload e_X12_behind_120 5 rfl ?_
      refine z_ic e_X12_behind_122 ?_
      refine z_icmp_ne e_X12_behind_123 h (fun c17 h => ?_) (fun c17 h => ?_)
      · refine z_aload e_X12_behind_126 1 rfl ?_
        refine z_getr gf_X12_83_69 e_X12_behind_127 ?_
        refine z_iload e_X12_behind_130 6 rfl ?_
        refine z_iald sh_94 e_X12_behind_132 h (fun h => ?_)
        refine z_if_ne e_X12_behind_133 h (fun c18 h => ?_) (fun c18 h => ?_)
        · refine z_ic e_X12_behind_136 ?_
          refine z_goto e_X12_behind_137 ?_
          cases h
          exact z_ireturn hR e_X12_behind_147
        · refine z_iload e_X12_behind_140 2 rfl ?_
          refine z_iload e_X12_behind_141 0 rfl ?_
          refine z_iload e_X12_behind_143 3 rfl ?_
          obtain ⟨q20, s19, e21, h⟩ := bd_e h
          refine z_callSi (As := [.int x1, .int t0, .int x3]) (rest := []) lk_X12_375 e_X12_behind_144 (m_X12_stateOf G x1 t0 x3 σ _ _ e21) (by decide) rfl (Nat.le_of_ble_eq_true rfl) ?_
          cases h
          exact z_ireturn hR e_X12_behind_147
      · refine z_aload e_X12_behind_148 1 rfl ?_
        refine z_getr gf_X12_86_69 e_X12_behind_149 ?_
        refine z_iload e_X12_behind_152 6 rfl ?_
        refine z_iald sh_95 e_X12_behind_154 h (fun h => ?_)
        refine z_iload e_X12_behind_155 3 rfl ?_
        refine z_icmp_ne e_X12_behind_156 h (fun c22 h => ?_) (fun c22 h => ?_)
        · refine z_aload e_X12_behind_159 1 rfl ?_
          refine z_iload e_X12_behind_160 6 rfl ?_
          refine z_iload e_X12_behind_162 5 rfl ?_
          refine z_iload e_X12_behind_164 3 rfl ?_
          refine z_iload e_X12_behind_165 2 rfl ?_
          refine z_iload e_X12_behind_166 4 rfl ?_
          obtain ⟨q24, s23, e25, h⟩ := bd_e h
          refine z_callVi (c0 := 69) (As := [.int x6, .int x5, .int x3, .int x1, .int x4]) (rest := []) lk_X12_350 ob_69 e_X12_behind_168 (m_X12_canOpen G x6 x5 x3 x1 x4 σ _ _ e25) (by decide) rfl (Nat.le_of_ble_eq_true rfl) ?_
          refine z_if_ne e_X12_behind_171 h (fun c26 h => ?_) (fun c26 h => ?_)
          · refine z_ic e_X12_behind_174 ?_
            cases h
            exact z_ireturn hR e_X12_behind_175
          · refine z_iload e_X12_behind_176 2 rfl ?_
            refine z_ic e_X12_behind_177 ?_
            refine z_iload e_X12_behind_178 6 rfl ?_
            refine z_ishl e_X12_behind_180 ?_
            refine z_ior e_X12_behind_181 ?_
            refine z_iload e_X12_behind_182 0 rfl ?_
            refine z_iload e_X12_behind_184 3 rfl ?_
            obtain ⟨q28, s27, e29, h⟩ := bd_e h
            refine z_callSi (As := [.int (x1 ||| ((1 : Int32) <<< (x6 &&& 31))), .int t0, .int x3]) (rest := []) lk_X12_375 e_X12_behind_185 (m_X12_stateOf G (x1 ||| ((1 : Int32) <<< (x6 &&& 31))) t0 x3 s23 _ _ e29) (by decide) rfl (Nat.le_of_ble_eq_true rfl) ?_
            cases h
            exact z_ireturn hR e_X12_behind_188
        · refine z_ic e_X12_behind_174 ?_
          cases h
          exact z_ireturn hR e_X12_behind_175
noncomputable def F_X12_behind_26 (x1 : Int32) (x2 : Int32) (x3 : Int32) (x4 : Int32) (x5 : Int32) (x6 : Int32) (x7 : Int32) (σ : zSt) : Option (Int32 × zSt) :=
  if x7 = (-1 : Int32) then (
    F_X12_behind_55 x1 x3 x4 x5 x6 x2 σ)
  else (
    bd (F_X12_unitOf x7 σ) (fun q31 s30 =>
      nm (if x5 = (5 : Int32) then (2 : Int32) else (1 : Int32)) (fun v33 =>
        F_X12_behind_55 x1 x3 x4 x5 x6 (x2 + (q31 * v33)) s30)))
set_option maxHeartbeats 4000000 in
set_option maxRecDepth 100000 in
theorem p_X12_behind_26 {G : zG} {C : zC} {r : Int32} {τ : zSt} (hR : zR G C (some .int) (some (.int r)) τ) (x1 : Int32) (x2 : Int32) (x3 : Int32) (x4 : Int32) (x5 : Int32) (x6 : Int32) (x7 : Int32) (σ : zSt) (h : F_X12_behind_26 x1 x2 x3 x4 x5 x6 x7 σ = some (r, τ)) : zAW G 4 RX12 cX12_behind 9 C 26 [(0, .ref (zad G 69)), (1, .int x1), (2, .int x2), (3, .int x3), (4, .int x4), (5, .int x5), (6, .int x6), (7, .int x7)] [] σ := by
  unfold F_X12_behind_26 at h
  refine z_iload e_X12_behind_26 7 rfl ?_
  refine z_ic e_X12_behind_28 ?_
  refine z_icmp_ne e_X12_behind_29 h (fun c5 h => ?_) (fun c5 h => ?_)
  · refine z_iload e_X12_behind_32 2 rfl ?_
    refine z_goto e_X12_behind_33 ?_
    exact z_sub [0, 1, 3, 4, 5, 6] rfl (p_X12_behind_55 hR x1 x3 x4 x5 x6 x2 σ h)
  · refine z_iload e_X12_behind_36 2 rfl ?_
    refine z_iload e_X12_behind_37 7 rfl ?_
    obtain ⟨q31, s30, e32, h⟩ := bd_e h
    refine z_callSi (As := [.int x7]) (rest := [.int x2]) lk_X12_372 e_X12_behind_39 (m_X12_unitOf G x7 σ _ _ e32) (by decide) rfl (Nat.le_of_ble_eq_true rfl) ?_
    refine z_iload e_X12_behind_42 5 rfl ?_
    refine z_ic e_X12_behind_44 ?_
    obtain ⟨v33, ev33, h⟩ := nm_i h
    have jv33 : zAW G 4 RX12 cX12_behind 9 C 53 [(0, .ref (zad G 69)), (1, .int x1), (3, .int x3), (4, .int x4), (5, .int x5), (6, .int x6)] [.int v33, .int q31, .int x2] s30 := by
      refine z_imul e_X12_behind_53 ?_
      refine z_iadd e_X12_behind_54 ?_
      exact z_sub [0, 1, 2, 3, 4, 5] rfl (p_X12_behind_55 hR x1 x3 x4 x5 x6 (x2 + (q31 * v33)) s30 h)
    refine y_icmp_ne e_X12_behind_45 (fun c34 => ?_) (fun c34 => ?_)
    · refine z_ic e_X12_behind_48 ?_
      refine z_goto e_X12_behind_49 ?_
      rw [if_pos c34] at ev33
      subst ev33
      exact z_sub [0, 1, 3, 4, 5, 6] rfl jv33
    · refine z_ic e_X12_behind_52 ?_
      rw [if_neg c34] at ev33
      subst ev33
      exact z_sub [0, 1, 3, 4, 5, 6] rfl jv33
noncomputable def F_X12_behind_0 (x1 : Int32) (x2 : Int32) (x3 : Int32) (x4 : Int32) (x5 : Int32) (x6 : Int32) (σ : zSt) : Option (Int32 × zSt) :=
  bd (F_X12_beastFor x5 x6 σ) (fun q2 s1 =>
    if q2 = (-1 : Int32) then (
      F_X12_behind_26 x1 x2 x3 x4 x5 x6 q2 s1)
    else (
      bd (F_X12_standOf x2 q2 s1) (fun q36 s35 =>
        if q36 ≤ 0 then (
          F_X12_behind_26 x1 x2 x3 x4 x5 x6 q2 s35)
        else (
          some ((-1 : Int32), s35)))))
set_option maxHeartbeats 4000000 in
set_option maxRecDepth 100000 in
theorem p_X12_behind_0 {G : zG} {C : zC} {r : Int32} {τ : zSt} (hR : zR G C (some .int) (some (.int r)) τ) (x1 : Int32) (x2 : Int32) (x3 : Int32) (x4 : Int32) (x5 : Int32) (x6 : Int32) (σ : zSt) (h : F_X12_behind_0 x1 x2 x3 x4 x5 x6 σ = some (r, τ)) : zAW G 4 RX12 cX12_behind 9 C 0 [(0, .ref (zad G 69)), (1, .int x1), (2, .int x2), (3, .int x3), (4, .int x4), (5, .int x5), (6, .int x6)] [] σ := by
  unfold F_X12_behind_0 at h
  refine z_iload e_X12_behind_0 5 rfl ?_
  refine z_iload e_X12_behind_2 6 rfl ?_
  obtain ⟨q2, s1, e3, h⟩ := bd_e h
  refine z_callSi (As := [.int x5, .int x6]) (rest := []) lk_X12_347 e_X12_behind_4 (m_X12_beastFor G x5 x6 σ _ _ e3) (by decide) rfl (Nat.le_of_ble_eq_true rfl) ?_
  refine z_istore e_X12_behind_7 (by decide) [(7, .int q2), (0, .ref (zad G 69)), (1, .int x1), (2, .int x2), (3, .int x3), (4, .int x4), (5, .int x5), (6, .int x6)] rfl ?_
  refine z_iload e_X12_behind_9 0 rfl ?_
  refine z_ic e_X12_behind_11 ?_
  refine z_icmp_eq e_X12_behind_12 h (fun c4 h => ?_) (fun c4 h => ?_)
  · exact z_sub [1, 2, 3, 4, 5, 6, 7, 0] rfl (p_X12_behind_26 hR x1 x2 x3 x4 x5 x6 q2 s1 h)
  · refine z_iload e_X12_behind_15 3 rfl ?_
    refine z_iload e_X12_behind_16 0 rfl ?_
    obtain ⟨q36, s35, e37, h⟩ := bd_e h
    refine z_callSi (As := [.int x2, .int q2]) (rest := []) lk_X12_369 e_X12_behind_18 (m_X12_standOf G x2 q2 s1 _ _ e37) (by decide) rfl (Nat.le_of_ble_eq_true rfl) ?_
    refine z_if_le e_X12_behind_21 h (fun c38 h => ?_) (fun c38 h => ?_)
    · exact z_sub [1, 2, 3, 4, 5, 6, 7, 0] rfl (p_X12_behind_26 hR x1 x2 x3 x4 x5 x6 q2 s35 h)
    · refine z_ic e_X12_behind_24 ?_
      cases h
      exact z_ireturn hR e_X12_behind_25
noncomputable def F_X12_behind (x1 : Int32) (x2 : Int32) (x3 : Int32) (x4 : Int32) (x5 : Int32) (x6 : Int32) (σ : zSt) : Option (Int32 × zSt) := F_X12_behind_0 x1 x2 x3 x4 x5 x6 σ
set_option maxRecDepth 100000 in
theorem m_X12_behind (G : zG) (x1 : Int32) (x2 : Int32) (x3 : Int32) (x4 : Int32) (x5 : Int32) (x6 : Int32) (σ : zSt) (q : Int32) (τ : zSt) (h : F_X12_behind x1 x2 x3 x4 x5 x6 σ = some (q, τ)) : zM G 4 yX12_behind cX12_behind 9 (some .int) [.ref (zad G 69), .int x1, .int x2, .int x3, .int x4, .int x5, .int x6] σ (some (.int q)) τ := by
  unfold F_X12_behind at h
  refine zM.of (own := RX12) (by decide +kernel) rfl (Nat.le_of_ble_eq_true rfl) (fun C hR => ?_)
  exact z_sub [0, 1, 2, 3, 4, 5, 6] rfl (p_X12_behind_0 hR x1 x2 x3 x4 x5 x6 σ h)
noncomputable def F_X12_costOf_49 (x4 : Int32) (t0 : Int32) (σ : zSt) : Option (Int32 × zSt) :=
  if (σ.1 69 49) = 0 then (
    some ((((1024 : Int32) * t0) + (1 : Int32)), σ))
  else (
    if x4 = 0 then (
      some ((((1024 : Int32) * t0) + (0 : Int32)), σ))
    else (
      some ((((1024 : Int32) * t0) + (1 : Int32)), σ)))
set_option maxHeartbeats 4000000 in
set_option maxRecDepth 100000 in
theorem p_X12_costOf_49 {G : zG} {C : zC} {r : Int32} {τ : zSt} (hR : zR G C (some .int) (some (.int r)) τ) (x4 : Int32) (t0 : Int32) (σ : zSt) (h : F_X12_costOf_49 x4 t0 σ = some (r, τ)) : zAW G 1 RX12 cX12_costOf 6 C 49 [(0, .ref (zad G 69)), (4, .int x4)] [.int t0] σ := by
  unfold F_X12_costOf_49 at h
  refine z_istore e_X12_costOf_49 (by decide) [(5, .int t0), (0, .ref (zad G 69)), (4, .int x4)] rfl ?_
  refine z_ic e_X12_costOf_51 ?_
  refine z_iload e_X12_costOf_54 0 rfl ?_
  refine z_imul e_X12_costOf_56 ?_
  refine z_aload e_X12_costOf_57 1 rfl ?_
  refine z_geti gf_X12_378_69 e_X12_costOf_58 ?_
  refine z_if_eq e_X12_costOf_61 h (fun c3 h => ?_) (fun c3 h => ?_)
  · refine z_ic e_X12_costOf_73 ?_
    refine z_iadd e_X12_costOf_74 ?_
    cases h
    exact z_ireturn hR e_X12_costOf_75
  · refine z_iload e_X12_costOf_64 2 rfl ?_
    refine z_if_ne e_X12_costOf_66 h (fun c4 h => ?_) (fun c4 h => ?_)
    · refine z_ic e_X12_costOf_69 ?_
      refine z_goto e_X12_costOf_70 ?_
      refine z_iadd e_X12_costOf_74 ?_
      cases h
      exact z_ireturn hR e_X12_costOf_75
    · refine z_ic e_X12_costOf_73 ?_
      refine z_iadd e_X12_costOf_74 ?_
      cases h
      exact z_ireturn hR e_X12_costOf_75
noncomputable def F_X12_costOf_0 (x1 : Int32) (x2 : Int32) (x3 : Int32) (σ : zSt) : Option (Int32 × zSt) :=
  nm (if x2 = (2 : Int32) then (1 : Int32) else (if x2 = (3 : Int32) then (1 : Int32) else (if x2 = (4 : Int32) then (1 : Int32) else (0 : Int32)))) (fun v1 =>
    if x2 = 0 then (
      gd (vp_in (((4 : Int32) * x1) + x3) 16) (
        F_X12_costOf_49 v1 (σ.1 70 (((4 : Int32) * x1) + x3).toNatClampNeg) σ))
    else (
      nm (if x2 = (5 : Int32) then (0 : Int32) else (1 : Int32)) (fun v5 =>
        F_X12_costOf_49 v1 v5 σ)))
set_option maxHeartbeats 4000000 in
set_option maxRecDepth 100000 in
theorem p_X12_costOf_0 {G : zG} {C : zC} {r : Int32} {τ : zSt} (hR : zR G C (some .int) (some (.int r)) τ) (x1 : Int32) (x2 : Int32) (x3 : Int32) (σ : zSt) (h : F_X12_costOf_0 x1 x2 x3 σ = some (r, τ)) : zAW G 1 RX12 cX12_costOf 6 C 0 [(0, .ref (zad G 69)), (1, .int x1), (2, .int x2), (3, .int x3)] [] σ := by
  unfold F_X12_costOf_0 at h
  refine z_iload e_X12_costOf_0 2 rfl ?_
  refine z_ic e_X12_costOf_1 ?_
  obtain ⟨v1, ev1, h⟩ := nm_i h
  have jv1 : zAW G 1 RX12 cX12_costOf 6 C 20 [(0, .ref (zad G 69)), (1, .int x1), (2, .int x2), (3, .int x3)] [.int v1] σ := by
    refine z_istore e_X12_costOf_20 (by decide) [(4, .int v1), (0, .ref (zad G 69)), (1, .int x1), (2, .int x2), (3, .int x3)] rfl ?_
    refine z_iload e_X12_costOf_22 3 rfl ?_
    refine z_if_ne e_X12_costOf_23 h (fun c2 h => ?_) (fun c2 h => ?_)
    · refine z_aload e_X12_costOf_26 1 rfl ?_
      refine z_getr gf_X12_7_69 e_X12_costOf_27 ?_
      refine z_ic e_X12_costOf_30 ?_
      refine z_iload e_X12_costOf_31 2 rfl ?_
      refine z_imul e_X12_costOf_32 ?_
      refine z_iload e_X12_costOf_33 4 rfl ?_
      refine z_iadd e_X12_costOf_34 ?_
      refine z_iald sh_70 e_X12_costOf_35 h (fun h => ?_)
      refine z_goto e_X12_costOf_36 ?_
      exact z_sub [1, 0] rfl (p_X12_costOf_49 hR v1 (σ.1 70 (((4 : Int32) * x1) + x3).toNatClampNeg) σ h)
    · refine z_iload e_X12_costOf_39 3 rfl ?_
      refine z_ic e_X12_costOf_40 ?_
      obtain ⟨v5, ev5, h⟩ := nm_i h
      have jv5 : zAW G 1 RX12 cX12_costOf 6 C 49 [(0, .ref (zad G 69)), (4, .int v1)] [.int v5] σ := by
        exact z_sub [0, 1] rfl (p_X12_costOf_49 hR v1 v5 σ h)
      refine y_icmp_ne e_X12_costOf_41 (fun c6 => ?_) (fun c6 => ?_)
      · refine z_ic e_X12_costOf_44 ?_
        refine z_goto e_X12_costOf_45 ?_
        rw [if_pos c6] at ev5
        subst ev5
        exact z_sub [1, 0] rfl jv5
      · refine z_ic e_X12_costOf_48 ?_
        rw [if_neg c6] at ev5
        subst ev5
        exact z_sub [1, 0] rfl jv5
  refine y_icmp_eq e_X12_costOf_2 (fun c7 => ?_) (fun c7 => ?_)
  · refine z_ic e_X12_costOf_15 ?_
    refine z_goto e_X12_costOf_16 ?_
    rw [if_pos c7] at ev1
    subst ev1
    exact z_sub [0, 1, 2, 3] rfl jv1
  · refine z_iload e_X12_costOf_5 2 rfl ?_
    refine z_ic e_X12_costOf_6 ?_
    refine y_icmp_eq e_X12_costOf_7 (fun c8 => ?_) (fun c8 => ?_)
    · refine z_ic e_X12_costOf_15 ?_
      refine z_goto e_X12_costOf_16 ?_
      rw [if_neg c7, if_pos c8] at ev1
      subst ev1
      exact z_sub [0, 1, 2, 3] rfl jv1
    · refine z_iload e_X12_costOf_10 2 rfl ?_
      refine z_ic e_X12_costOf_11 ?_
      refine y_icmp_ne e_X12_costOf_12 (fun c9 => ?_) (fun c9 => ?_)
      · refine z_ic e_X12_costOf_15 ?_
        refine z_goto e_X12_costOf_16 ?_
        rw [if_neg c7, if_neg c8, if_pos c9] at ev1
        subst ev1
        exact z_sub [0, 1, 2, 3] rfl jv1
      · refine z_ic e_X12_costOf_19 ?_
        rw [if_neg c7, if_neg c8, if_neg c9] at ev1
        subst ev1
        exact z_sub [0, 1, 2, 3] rfl jv1
noncomputable def F_X12_costOf (x1 : Int32) (x2 : Int32) (x3 : Int32) (σ : zSt) : Option (Int32 × zSt) := F_X12_costOf_0 x1 x2 x3 σ
set_option maxRecDepth 100000 in
theorem m_X12_costOf (G : zG) (x1 : Int32) (x2 : Int32) (x3 : Int32) (σ : zSt) (q : Int32) (τ : zSt) (h : F_X12_costOf x1 x2 x3 σ = some (q, τ)) : zM G 1 yX12_costOf cX12_costOf 6 (some .int) [.ref (zad G 69), .int x1, .int x2, .int x3] σ (some (.int q)) τ := by
  unfold F_X12_costOf at h
  refine zM.of (own := RX12) (by decide +kernel) rfl (Nat.le_of_ble_eq_true rfl) (fun C hR => ?_)
  exact z_sub [0, 1, 2, 3] rfl (p_X12_costOf_0 hR x1 x2 x3 σ h)
noncomputable def F_X12_min_0 (x0 : Int32) (x1 : Int32) (σ : zSt) : Option (Int32 × zSt) :=
  if x1 ≤ x0 then (
    some (x1, σ))
  else (
    some (x0, σ))
set_option maxHeartbeats 4000000 in
set_option maxRecDepth 100000 in
theorem p_X12_min_0 {G : zG} {C : zC} {r : Int32} {τ : zSt} (hR : zR G C (some .int) (some (.int r)) τ) (x0 : Int32) (x1 : Int32) (σ : zSt) (h : F_X12_min_0 x0 x1 σ = some (r, τ)) : zAW G 1 RX12 cX12_min 2 C 0 [(0, .int x0), (1, .int x1)] [] σ := by
  unfold F_X12_min_0 at h
  refine z_iload e_X12_min_0 0 rfl ?_
  refine z_iload e_X12_min_1 1 rfl ?_
  refine z_icmp_ge e_X12_min_2 h (fun c1 h => ?_) (fun c1 h => ?_)
  · refine z_iload e_X12_min_9 1 rfl ?_
    cases h
    exact z_ireturn hR e_X12_min_10
  · refine z_iload e_X12_min_5 0 rfl ?_
    refine z_goto e_X12_min_6 ?_
    cases h
    exact z_ireturn hR e_X12_min_10
noncomputable def F_X12_min (x0 : Int32) (x1 : Int32) (σ : zSt) : Option (Int32 × zSt) := F_X12_min_0 x0 x1 σ
set_option maxRecDepth 100000 in
theorem m_X12_min (G : zG) (x0 : Int32) (x1 : Int32) (σ : zSt) (q : Int32) (τ : zSt) (h : F_X12_min x0 x1 σ = some (q, τ)) : zM G 1 yX12_min cX12_min 2 (some .int) [.int x0, .int x1] σ (some (.int q)) τ := by
  unfold F_X12_min at h
  refine zM.of (own := RX12) (by decide +kernel) rfl (Nat.le_of_ble_eq_true rfl) (fun C hR => ?_)
  exact z_sub [0, 1] rfl (p_X12_min_0 hR x0 x1 σ h)
noncomputable def F_X12_bestBy_92 (w8 : (Int32 × Int32 × zSt) → Option (Int32 × zSt)) (x1 : Int32) (x2 : Int32) (x3 : Int32) (x4 : Int32) (x5 : Int32) (x6 : Int32) (σ : zSt) : Option (Int32 × zSt) :=
  nm (x6 + (1 : Int32)) (fun v6 =>
    w8 (x5, v6, σ))
set_option maxHeartbeats 4000000 in
set_option maxRecDepth 100000 in
theorem p_X12_bestBy_92 {G : zG} {C : zC} {r : Int32} {τ : zSt} (hR : zR G C (some .int) (some (.int r)) τ) (w8 : (Int32 × Int32 × zSt) → Option (Int32 × zSt)) (x1 : Int32) (x2 : Int32) (x3 : Int32) (x4 : Int32) (x5 : Int32) (x6 : Int32) (hw8 : ∀ (x5 : Int32) (x6 : Int32) (σ : zSt), w8 (x5, x6, σ) = some (r, τ) → zAW G 5 RX12 cX12_bestBy 9 C 8 [(0, .ref (zad G 69)), (1, .int x1), (2, .int x2), (3, .int x3), (4, .int x4), (5, .int x5), (6, .int x6)] [] σ) (σ : zSt) (h : F_X12_bestBy_92 w8 x1 x2 x3 x4 x5 x6 σ = some (r, τ)) : zAW G 5 RX12 cX12_bestBy 9 C 92 [(0, .ref (zad G 69)), (1, .int x1), (2, .int x2), (3, .int x3), (4, .int x4), (5, .int x5), (6, .int x6)] [] σ := by
  unfold F_X12_bestBy_92 at h
  refine z_iinc e_X12_bestBy_92 6 rfl (by decide) (by decide) h (fun y => [(6, .int y), (0, .ref (zad G 69)), (1, .int x1), (2, .int x2), (3, .int x3), (4, .int x4), (5, .int x5)]) (fun _ => rfl) (fun v6 h => ?_)
  refine z_goto e_X12_bestBy_95 ?_
  exact z_sub [1, 2, 3, 4, 5, 6, 0] rfl (hw8 x5 v6 σ h)
noncomputable def F_X12_bestBy_86 (w8 : (Int32 × Int32 × zSt) → Option (Int32 × zSt)) (w18 : (Int32 × Int32 × zSt) → Option (Int32 × zSt)) (x1 : Int32) (x2 : Int32) (x3 : Int32) (x4 : Int32) (x5 : Int32) (x6 : Int32) (x7 : Int32) (σ : zSt) : Option (Int32 × zSt) :=
  nm (x7 + (1 : Int32)) (fun v11 =>
    w18 (x5, v11, σ))
set_option maxHeartbeats 4000000 in
set_option maxRecDepth 100000 in
theorem p_X12_bestBy_86 {G : zG} {C : zC} {r : Int32} {τ : zSt} (hR : zR G C (some .int) (some (.int r)) τ) (w8 : (Int32 × Int32 × zSt) → Option (Int32 × zSt)) (w18 : (Int32 × Int32 × zSt) → Option (Int32 × zSt)) (x1 : Int32) (x2 : Int32) (x3 : Int32) (x4 : Int32) (x5 : Int32) (x6 : Int32) (x7 : Int32) (hw8 : ∀ (x5 : Int32) (x6 : Int32) (σ : zSt), w8 (x5, x6, σ) = some (r, τ) → zAW G 5 RX12 cX12_bestBy 9 C 8 [(0, .ref (zad G 69)), (1, .int x1), (2, .int x2), (3, .int x3), (4, .int x4), (5, .int x5), (6, .int x6)] [] σ) (hw18 : ∀ (x5 : Int32) (x7 : Int32) (σ : zSt), w18 (x5, x7, σ) = some (r, τ) → zAW G 5 RX12 cX12_bestBy 9 C 18 [(0, .ref (zad G 69)), (1, .int x1), (2, .int x2), (3, .int x3), (4, .int x4), (5, .int x5), (6, .int x6), (7, .int x7)] [] σ) (σ : zSt) (h : F_X12_bestBy_86 w8 w18 x1 x2 x3 x4 x5 x6 x7 σ = some (r, τ)) : zAW G 5 RX12 cX12_bestBy 9 C 86 [(0, .ref (zad G 69)), (1, .int x1), (2, .int x2), (3, .int x3), (4, .int x4), (5, .int x5), (6, .int x6), (7, .int x7)] [] σ := by
  unfold F_X12_bestBy_86 at h
  refine z_iinc e_X12_bestBy_86 7 rfl (by decide) (by decide) h (fun y => [(7, .int y), (0, .ref (zad G 69)), (1, .int x1), (2, .int x2), (3, .int x3), (4, .int x4), (5, .int x5), (6, .int x6)]) (fun _ => rfl) (fun v11 h => ?_)
  refine z_goto e_X12_bestBy_89 ?_
  exact z_sub [1, 2, 3, 4, 5, 6, 7, 0] rfl (hw18 x5 v11 σ h)
noncomputable def F_X12_bestBy_18 (w8 : (Int32 × Int32 × zSt) → Option (Int32 × zSt)) (x1 : Int32) (x2 : Int32) (x3 : Int32) (x4 : Int32) (x6 : Int32) (w18 : (Int32 × Int32 × zSt) → Option (Int32 × zSt)) (x5 : Int32) (x7 : Int32) (σ : zSt) : Option (Int32 × zSt) :=
  bd (F_X12_digitsFor x6 σ) (fun q3 s2 =>
    if q3 ≤ x7 then (
      F_X12_bestBy_92 w8 x1 x2 x3 x4 x5 x6 s2)
    else (
      bd (F_X12_behind x1 x2 x3 x4 x6 x7 s2) (fun q8 s7 =>
        if q8 = (-1 : Int32) then (
          F_X12_bestBy_86 w8 w18 x1 x2 x3 x4 x5 x6 x7 s7)
        else (
          gd (vp_in q8 27648) (
            if (1000000000 : Int32) ≤ (s7.1 92 q8.toNatClampNeg) then (
              F_X12_bestBy_86 w8 w18 x1 x2 x3 x4 x5 x6 x7 s7)
            else (
              gd (vp_in q8 27648) (
                bd (F_X12_costOf x3 x6 x7 s7) (fun q14 s13 =>
                  bd (F_X12_min x5 ((s7.1 92 q8.toNatClampNeg) + q14) s13) (fun q17 s16 =>
                    F_X12_bestBy_86 w8 w18 x1 x2 x3 x4 q17 x6 x7 s16)))))))))
set_option maxHeartbeats 4000000 in
set_option maxRecDepth 100000 in
theorem b_X12_bestBy_18 {G : zG} {C : zC} {r : Int32} {τ : zSt} (hR : zR G C (some .int) (some (.int r)) τ) (w8 : (Int32 × Int32 × zSt) → Option (Int32 × zSt)) (x1 : Int32) (x2 : Int32) (x3 : Int32) (x4 : Int32) (x6 : Int32) (hw8 : ∀ (x5 : Int32) (x6 : Int32) (σ : zSt), w8 (x5, x6, σ) = some (r, τ) → zAW G 5 RX12 cX12_bestBy 9 C 8 [(0, .ref (zad G 69)), (1, .int x1), (2, .int x2), (3, .int x3), (4, .int x4), (5, .int x5), (6, .int x6)] [] σ) (w18 : (Int32 × Int32 × zSt) → Option (Int32 × zSt)) (hw18 : ∀ (x5 : Int32) (x7 : Int32) (σ : zSt), w18 (x5, x7, σ) = some (r, τ) → zAW G 5 RX12 cX12_bestBy 9 C 18 [(0, .ref (zad G 69)), (1, .int x1), (2, .int x2), (3, .int x3), (4, .int x4), (5, .int x5), (6, .int x6), (7, .int x7)] [] σ) (x5 : Int32) (x7 : Int32) (σ : zSt) (h : F_X12_bestBy_18 w8 x1 x2 x3 x4 x6 w18 x5 x7 σ = some (r, τ)) : zAW G 5 RX12 cX12_bestBy 9 C 18 [(0, .ref (zad G 69)), (1, .int x1), (2, .int x2), (3, .int x3), (4, .int x4), (5, .int x5), (6, .int x6), (7, .int x7)] [] σ := by
  unfold F_X12_bestBy_18 at h
  refine z_iload e_X12_bestBy_18 7 rfl ?_
  refine z_iload e_X12_bestBy_20 6 rfl ?_
  obtain ⟨q3, s2, e4, h⟩ := bd_e h
  refine z_callSi (As := [.int x6]) (rest := [.int x7]) lk_X12_341 e_X12_bestBy_22 (m_X12_digitsFor G x6 σ _ _ e4) (by decide) rfl (Nat.le_of_ble_eq_true rfl) ?_
  refine z_icmp_ge e_X12_bestBy_25 h (fun c5 h => ?_) (fun c5 h => ?_)
  · exact z_sub [0, 1, 2, 3, 4, 5, 6] rfl (p_X12_bestBy_92 hR w8 x1 x2 x3 x4 x5 x6 hw8 s2 h)
  · refine z_aload e_X12_bestBy_28 0 rfl ?_
    refine z_iload e_X12_bestBy_29 1 rfl ?_
    refine z_iload e_X12_bestBy_30 2 rfl ?_
    refine z_iload e_X12_bestBy_31 3 rfl ?_
    refine z_iload e_X12_bestBy_32 4 rfl ?_
    refine z_iload e_X12_bestBy_34 6 rfl ?_
    refine z_iload e_X12_bestBy_36 7 rfl ?_
    obtain ⟨q8, s7, e9, h⟩ := bd_e h
    refine z_callVi (c0 := 69) (As := [.int x1, .int x2, .int x3, .int x4, .int x6, .int x7]) (rest := []) lk_X12_383 ob_69 e_X12_bestBy_38 (m_X12_behind G x1 x2 x3 x4 x6 x7 s2 _ _ e9) (by decide) rfl (Nat.le_of_ble_eq_true rfl) ?_
    refine z_istore e_X12_bestBy_41 (by decide) [(8, .int q8), (0, .ref (zad G 69)), (1, .int x1), (2, .int x2), (3, .int x3), (4, .int x4), (5, .int x5), (6, .int x6), (7, .int x7)] rfl ?_
    refine z_iload e_X12_bestBy_43 0 rfl ?_
    refine z_ic e_X12_bestBy_45 ?_
    refine z_icmp_eq e_X12_bestBy_46 h (fun c10 h => ?_) (fun c10 h => ?_)
    · exact z_sub [1, 2, 3, 4, 5, 6, 7, 8] rfl (p_X12_bestBy_86 hR w8 w18 x1 x2 x3 x4 x5 x6 x7 hw8 hw18 s7 h)
    · refine z_aload e_X12_bestBy_49 1 rfl ?_
      refine z_getr gf_X12_77_69 e_X12_bestBy_50 ?_
      refine z_iload e_X12_bestBy_53 0 rfl ?_
      refine z_iald sh_92 e_X12_bestBy_55 h (fun h => ?_)
      refine z_ldcw cs_X12_382 e_X12_bestBy_56 ?_
      refine z_icmp_ge e_X12_bestBy_59 h (fun c12 h => ?_) (fun c12 h => ?_)
      · exact z_sub [1, 2, 3, 4, 5, 6, 7, 8] rfl (p_X12_bestBy_86 hR w8 w18 x1 x2 x3 x4 x5 x6 x7 hw8 hw18 s7 h)
      · refine z_iload e_X12_bestBy_62 6 rfl ?_
        refine z_aload e_X12_bestBy_64 1 rfl ?_
        refine z_getr gf_X12_77_69 e_X12_bestBy_65 ?_
        refine z_iload e_X12_bestBy_68 0 rfl ?_
        refine z_iald sh_92 e_X12_bestBy_70 h (fun h => ?_)
        refine z_aload e_X12_bestBy_71 1 rfl ?_
        refine z_iload e_X12_bestBy_72 4 rfl ?_
        refine z_iload e_X12_bestBy_73 7 rfl ?_
        refine z_iload e_X12_bestBy_75 8 rfl ?_
        obtain ⟨q14, s13, e15, h⟩ := bd_e h
        refine z_callVi (c0 := 69) (As := [.int x3, .int x6, .int x7]) (rest := [.int (s7.1 92 q8.toNatClampNeg), .int x5]) lk_X12_387 ob_69 e_X12_bestBy_77 (m_X12_costOf G x3 x6 x7 s7 _ _ e15) (by decide) rfl (Nat.le_of_ble_eq_true rfl) ?_
        refine z_iadd e_X12_bestBy_80 ?_
        obtain ⟨q17, s16, e18, h⟩ := bd_e h
        refine z_callSi (As := [.int x5, .int ((s7.1 92 q8.toNatClampNeg) + q14)]) (rest := []) lk_X12_390 e_X12_bestBy_81 (m_X12_min G x5 ((s7.1 92 q8.toNatClampNeg) + q14) s13 _ _ e18) (by decide) rfl (Nat.le_of_ble_eq_true rfl) ?_
        refine z_istore e_X12_bestBy_84 (by decide) [(5, .int q17), (8, .int q8), (0, .ref (zad G 69)), (1, .int x1), (2, .int x2), (3, .int x3), (4, .int x4), (6, .int x6), (7, .int x7)] rfl ?_
        exact z_sub [2, 3, 4, 5, 6, 0, 7, 8] rfl (p_X12_bestBy_86 hR w8 w18 x1 x2 x3 x4 q17 x6 x7 hw8 hw18 s16 h)
noncomputable def F_X12_bestBy_18L (w8 : (Int32 × Int32 × zSt) → Option (Int32 × zSt)) (x1 : Int32) (x2 : Int32) (x3 : Int32) (x4 : Int32) (x6 : Int32) : ((Int32 × Int32 × zSt) → Option (Int32 × zSt)) → (Int32 × Int32 × zSt) → Option (Int32 × zSt) := fun w s => F_X12_bestBy_18 w8 x1 x2 x3 x4 x6 w s.1 s.2.1 s.2.2
set_option maxRecDepth 100000 in
theorem l_X12_bestBy_18 {G : zG} {C : zC} {r : Int32} {τ : zSt} (hR : zR G C (some .int) (some (.int r)) τ) (w8 : (Int32 × Int32 × zSt) → Option (Int32 × zSt)) (x1 : Int32) (x2 : Int32) (x3 : Int32) (x4 : Int32) (x6 : Int32) (hw8 : ∀ (x5 : Int32) (x6 : Int32) (σ : zSt), w8 (x5, x6, σ) = some (r, τ) → zAW G 5 RX12 cX12_bestBy 9 C 8 [(0, .ref (zad G 69)), (1, .int x1), (2, .int x2), (3, .int x3), (4, .int x4), (5, .int x5), (6, .int x6)] [] σ) : ∀ (N : Nat) (x5 : Int32) (x7 : Int32) (σ : zSt), zfix (F_X12_bestBy_18L w8 x1 x2 x3 x4 x6) N (x5, x7, σ) = some (r, τ) → zAW G 5 RX12 cX12_bestBy 9 C 18 [(0, .ref (zad G 69)), (1, .int x1), (2, .int x2), (3, .int x3), (4, .int x4), (5, .int x5), (6, .int x6), (7, .int x7)] [] σ := by
  intro N
  induction N with
  | zero =>
    intro x5 x7 σ h
    exact nomatch (show (none : Option (Int32 × zSt)) = some (r, τ) from h)
  | succ N ih =>
    intro x5 x7 σ h
    exact b_X12_bestBy_18 hR w8 x1 x2 x3 x4 x6 hw8 (zfix (F_X12_bestBy_18L w8 x1 x2 x3 x4 x6) N) ih x5 x7 σ h
noncomputable def F_X12_bestBy_8 (x1 : Int32) (x2 : Int32) (x3 : Int32) (x4 : Int32) (w8 : (Int32 × Int32 × zSt) → Option (Int32 × zSt)) (x5 : Int32) (x6 : Int32) (σ : zSt) : Option (Int32 × zSt) :=
  if (6 : Int32) ≤ x6 then (
    some (x5, σ))
  else (
    zfix (F_X12_bestBy_18L w8 x1 x2 x3 x4 x6) zlim (x5, (0 : Int32), σ))
set_option maxHeartbeats 4000000 in
set_option maxRecDepth 100000 in
theorem b_X12_bestBy_8 {G : zG} {C : zC} {r : Int32} {τ : zSt} (hR : zR G C (some .int) (some (.int r)) τ) (x1 : Int32) (x2 : Int32) (x3 : Int32) (x4 : Int32) (w8 : (Int32 × Int32 × zSt) → Option (Int32 × zSt)) (hw8 : ∀ (x5 : Int32) (x6 : Int32) (σ : zSt), w8 (x5, x6, σ) = some (r, τ) → zAW G 5 RX12 cX12_bestBy 9 C 8 [(0, .ref (zad G 69)), (1, .int x1), (2, .int x2), (3, .int x3), (4, .int x4), (5, .int x5), (6, .int x6)] [] σ) (x5 : Int32) (x6 : Int32) (σ : zSt) (h : F_X12_bestBy_8 x1 x2 x3 x4 w8 x5 x6 σ = some (r, τ)) : zAW G 5 RX12 cX12_bestBy 9 C 8 [(0, .ref (zad G 69)), (1, .int x1), (2, .int x2), (3, .int x3), (4, .int x4), (5, .int x5), (6, .int x6)] [] σ := by
  unfold F_X12_bestBy_8 at h
  refine z_iload e_X12_bestBy_8 6 rfl ?_
  refine z_ic e_X12_bestBy_10 ?_
  refine z_icmp_ge e_X12_bestBy_12 h (fun c1 h => ?_) (fun c1 h => ?_)
  · refine z_iload e_X12_bestBy_98 5 rfl ?_
    cases h
    exact z_ireturn hR e_X12_bestBy_100
  · refine z_ic e_X12_bestBy_15 ?_
    refine z_istore e_X12_bestBy_16 (by decide) [(7, .int (0 : Int32)), (0, .ref (zad G 69)), (1, .int x1), (2, .int x2), (3, .int x3), (4, .int x4), (5, .int x5), (6, .int x6)] rfl ?_
    exact z_sub [1, 2, 3, 4, 5, 6, 7, 0] rfl (l_X12_bestBy_18 hR w8 x1 x2 x3 x4 x6 hw8 zlim x5 (0 : Int32) σ h)
noncomputable def F_X12_bestBy_8L (x1 : Int32) (x2 : Int32) (x3 : Int32) (x4 : Int32) : ((Int32 × Int32 × zSt) → Option (Int32 × zSt)) → (Int32 × Int32 × zSt) → Option (Int32 × zSt) := fun w s => F_X12_bestBy_8 x1 x2 x3 x4 w s.1 s.2.1 s.2.2
set_option maxRecDepth 100000 in
theorem l_X12_bestBy_8 {G : zG} {C : zC} {r : Int32} {τ : zSt} (hR : zR G C (some .int) (some (.int r)) τ) (x1 : Int32) (x2 : Int32) (x3 : Int32) (x4 : Int32) : ∀ (N : Nat) (x5 : Int32) (x6 : Int32) (σ : zSt), zfix (F_X12_bestBy_8L x1 x2 x3 x4) N (x5, x6, σ) = some (r, τ) → zAW G 5 RX12 cX12_bestBy 9 C 8 [(0, .ref (zad G 69)), (1, .int x1), (2, .int x2), (3, .int x3), (4, .int x4), (5, .int x5), (6, .int x6)] [] σ := by
  intro N
  induction N with
  | zero =>
    intro x5 x6 σ h
    exact nomatch (show (none : Option (Int32 × zSt)) = some (r, τ) from h)
  | succ N ih =>
    intro x5 x6 σ h
    exact b_X12_bestBy_8 hR x1 x2 x3 x4 (zfix (F_X12_bestBy_8L x1 x2 x3 x4) N) ih x5 x6 σ h
noncomputable def F_X12_bestBy_0 (x1 : Int32) (x2 : Int32) (x3 : Int32) (x4 : Int32) (σ : zSt) : Option (Int32 × zSt) :=
  zfix (F_X12_bestBy_8L x1 x2 x3 x4) zlim ((1000000000 : Int32), (1 : Int32), σ)
set_option maxHeartbeats 4000000 in
set_option maxRecDepth 100000 in
theorem p_X12_bestBy_0 {G : zG} {C : zC} {r : Int32} {τ : zSt} (hR : zR G C (some .int) (some (.int r)) τ) (x1 : Int32) (x2 : Int32) (x3 : Int32) (x4 : Int32) (σ : zSt) (h : F_X12_bestBy_0 x1 x2 x3 x4 σ = some (r, τ)) : zAW G 5 RX12 cX12_bestBy 9 C 0 [(0, .ref (zad G 69)), (1, .int x1), (2, .int x2), (3, .int x3), (4, .int x4)] [] σ := by
  unfold F_X12_bestBy_0 at h
  refine z_ldcw cs_X12_382 e_X12_bestBy_0 ?_
  refine z_istore e_X12_bestBy_3 (by decide) [(5, .int (1000000000 : Int32)), (0, .ref (zad G 69)), (1, .int x1), (2, .int x2), (3, .int x3), (4, .int x4)] rfl ?_
  refine z_ic e_X12_bestBy_5 ?_
  refine z_istore e_X12_bestBy_6 (by decide) [(6, .int (1 : Int32)), (5, .int (1000000000 : Int32)), (0, .ref (zad G 69)), (1, .int x1), (2, .int x2), (3, .int x3), (4, .int x4)] rfl ?_
  exact z_sub [2, 3, 4, 5, 6, 1, 0] rfl (l_X12_bestBy_8 hR x1 x2 x3 x4 zlim (1000000000 : Int32) (1 : Int32) σ h)
noncomputable def F_X12_bestBy (x1 : Int32) (x2 : Int32) (x3 : Int32) (x4 : Int32) (σ : zSt) : Option (Int32 × zSt) := F_X12_bestBy_0 x1 x2 x3 x4 σ
set_option maxRecDepth 100000 in
theorem m_X12_bestBy (G : zG) (x1 : Int32) (x2 : Int32) (x3 : Int32) (x4 : Int32) (σ : zSt) (q : Int32) (τ : zSt) (h : F_X12_bestBy x1 x2 x3 x4 σ = some (q, τ)) : zM G 5 yX12_bestBy cX12_bestBy 9 (some .int) [.ref (zad G 69), .int x1, .int x2, .int x3, .int x4] σ (some (.int q)) τ := by
  unfold F_X12_bestBy at h
  refine zM.of (own := RX12) (by decide +kernel) rfl (Nat.le_of_ble_eq_true rfl) (fun C hR => ?_)
  exact z_sub [0, 1, 2, 3, 4] rfl (p_X12_bestBy_0 hR x1 x2 x3 x4 σ h)
noncomputable def F_X12_laysFor_161 (w46 : (Int32 × zSt) → Option (Unit × zSt)) (x1 : Int32) (x2 : Int32) (x3 : Int32) (x4 : Int32) (σ : zSt) : Option (Unit × zSt) :=
  nm (x4 + (1 : Int32)) (fun v7 =>
    w46 (v7, σ))
set_option maxHeartbeats 4000000 in
set_option maxRecDepth 100000 in
theorem p_X12_laysFor_161 {G : zG} {C : zC} {r : Unit} {τ : zSt} (hR : zR G C none none τ) (w46 : (Int32 × zSt) → Option (Unit × zSt)) (x1 : Int32) (x2 : Int32) (x3 : Int32) (x4 : Int32) (hw46 : ∀ (x4 : Int32) (σ : zSt), w46 (x4, σ) = some (r, τ) → zAW G 6 RX12 cX12_laysFor 9 C 46 [(0, .ref (zad G 69)), (1, .int x1), (2, .int x2), (3, .int x3), (4, .int x4)] [] σ) (σ : zSt) (h : F_X12_laysFor_161 w46 x1 x2 x3 x4 σ = some (r, τ)) : zAW G 6 RX12 cX12_laysFor 9 C 161 [(0, .ref (zad G 69)), (1, .int x1), (2, .int x2), (3, .int x3), (4, .int x4)] [] σ := by
  unfold F_X12_laysFor_161 at h
  refine z_iinc e_X12_laysFor_161 4 rfl (by decide) (by decide) h (fun y => [(4, .int y), (0, .ref (zad G 69)), (1, .int x1), (2, .int x2), (3, .int x3)]) (fun _ => rfl) (fun v7 h => ?_)
  refine z_goto e_X12_laysFor_164 ?_
  exact z_sub [1, 2, 3, 4, 0] rfl (hw46 v7 σ h)
noncomputable def F_X12_laysFor_155 (w46 : (Int32 × zSt) → Option (Unit × zSt)) (w55 : (Int32 × zSt) → Option (Unit × zSt)) (x1 : Int32) (x2 : Int32) (x3 : Int32) (x4 : Int32) (x5 : Int32) (σ : zSt) : Option (Unit × zSt) :=
  nm (x5 + (1 : Int32)) (fun v9 =>
    w55 (v9, σ))
set_option maxHeartbeats 4000000 in
set_option maxRecDepth 100000 in
theorem p_X12_laysFor_155 {G : zG} {C : zC} {r : Unit} {τ : zSt} (hR : zR G C none none τ) (w46 : (Int32 × zSt) → Option (Unit × zSt)) (w55 : (Int32 × zSt) → Option (Unit × zSt)) (x1 : Int32) (x2 : Int32) (x3 : Int32) (x4 : Int32) (x5 : Int32) (hw46 : ∀ (x4 : Int32) (σ : zSt), w46 (x4, σ) = some (r, τ) → zAW G 6 RX12 cX12_laysFor 9 C 46 [(0, .ref (zad G 69)), (1, .int x1), (2, .int x2), (3, .int x3), (4, .int x4)] [] σ) (hw55 : ∀ (x5 : Int32) (σ : zSt), w55 (x5, σ) = some (r, τ) → zAW G 6 RX12 cX12_laysFor 9 C 55 [(0, .ref (zad G 69)), (1, .int x1), (2, .int x2), (3, .int x3), (4, .int x4), (5, .int x5)] [] σ) (σ : zSt) (h : F_X12_laysFor_155 w46 w55 x1 x2 x3 x4 x5 σ = some (r, τ)) : zAW G 6 RX12 cX12_laysFor 9 C 155 [(0, .ref (zad G 69)), (1, .int x1), (2, .int x2), (3, .int x3), (4, .int x4), (5, .int x5)] [] σ := by
  unfold F_X12_laysFor_155 at h
  refine z_iinc e_X12_laysFor_155 5 rfl (by decide) (by decide) h (fun y => [(5, .int y), (0, .ref (zad G 69)), (1, .int x1), (2, .int x2), (3, .int x3), (4, .int x4)]) (fun _ => rfl) (fun v9 h => ?_)
  refine z_goto e_X12_laysFor_158 ?_
  exact z_sub [1, 2, 3, 4, 5, 0] rfl (hw55 v9 σ h)
noncomputable def F_X12_laysFor_149 (w46 : (Int32 × zSt) → Option (Unit × zSt)) (w55 : (Int32 × zSt) → Option (Unit × zSt)) (w64 : (Int32 × zSt) → Option (Unit × zSt)) (x1 : Int32) (x2 : Int32) (x3 : Int32) (x4 : Int32) (x5 : Int32) (x6 : Int32) (σ : zSt) : Option (Unit × zSt) :=
  nm (x6 + (1 : Int32)) (fun v14 =>
    w64 (v14, σ))
set_option maxHeartbeats 4000000 in
set_option maxRecDepth 100000 in
theorem p_X12_laysFor_149 {G : zG} {C : zC} {r : Unit} {τ : zSt} (hR : zR G C none none τ) (w46 : (Int32 × zSt) → Option (Unit × zSt)) (w55 : (Int32 × zSt) → Option (Unit × zSt)) (w64 : (Int32 × zSt) → Option (Unit × zSt)) (x1 : Int32) (x2 : Int32) (x3 : Int32) (x4 : Int32) (x5 : Int32) (x6 : Int32) (hw46 : ∀ (x4 : Int32) (σ : zSt), w46 (x4, σ) = some (r, τ) → zAW G 6 RX12 cX12_laysFor 9 C 46 [(0, .ref (zad G 69)), (1, .int x1), (2, .int x2), (3, .int x3), (4, .int x4)] [] σ) (hw55 : ∀ (x5 : Int32) (σ : zSt), w55 (x5, σ) = some (r, τ) → zAW G 6 RX12 cX12_laysFor 9 C 55 [(0, .ref (zad G 69)), (1, .int x1), (2, .int x2), (3, .int x3), (4, .int x4), (5, .int x5)] [] σ) (hw64 : ∀ (x6 : Int32) (σ : zSt), w64 (x6, σ) = some (r, τ) → zAW G 6 RX12 cX12_laysFor 9 C 64 [(0, .ref (zad G 69)), (1, .int x1), (2, .int x2), (3, .int x3), (4, .int x4), (5, .int x5), (6, .int x6)] [] σ) (σ : zSt) (h : F_X12_laysFor_149 w46 w55 w64 x1 x2 x3 x4 x5 x6 σ = some (r, τ)) : zAW G 6 RX12 cX12_laysFor 9 C 149 [(0, .ref (zad G 69)), (1, .int x1), (2, .int x2), (3, .int x3), (4, .int x4), (5, .int x5), (6, .int x6)] [] σ := by
  unfold F_X12_laysFor_149 at h
  refine z_iinc e_X12_laysFor_149 6 rfl (by decide) (by decide) h (fun y => [(6, .int y), (0, .ref (zad G 69)), (1, .int x1), (2, .int x2), (3, .int x3), (4, .int x4), (5, .int x5)]) (fun _ => rfl) (fun v14 h => ?_)
  refine z_goto e_X12_laysFor_152 ?_
  exact z_sub [1, 2, 3, 4, 5, 6, 0] rfl (hw64 v14 σ h)
noncomputable def F_X12_laysFor_64 (w46 : (Int32 × zSt) → Option (Unit × zSt)) (w55 : (Int32 × zSt) → Option (Unit × zSt)) (x1 : Int32) (x2 : Int32) (x3 : Int32) (x4 : Int32) (x5 : Int32) (w64 : (Int32 × zSt) → Option (Unit × zSt)) (x6 : Int32) (σ : zSt) : Option (Unit × zSt) :=
  if (4 : Int32) ≤ x6 then (
    F_X12_laysFor_155 w46 w55 x1 x2 x3 x4 x5 σ)
  else (
    bd (F_X12_behind x1 x2 x5 x3 (0 : Int32) x6 σ) (fun q11 s10 =>
      if q11 = (-1 : Int32) then (
        F_X12_laysFor_149 w46 w55 w64 x1 x2 x3 x4 x5 x6 s10)
      else (
        gd (vp_in q11 27648) (
          if (s10.1 92 q11.toNatClampNeg) = (1000000000 : Int32) then (
            F_X12_laysFor_149 w46 w55 w64 x1 x2 x3 x4 x5 x6 s10)
          else (
            bd (F_X12_stateOf x1 x2 x5 s10) (fun q17 s16 =>
              gd (vp_in q17 27648) (
                gd (vp_in q11 27648) (
                  bd (F_X12_costOf x5 (0 : Int32) x6 s16) (fun q20 s19 =>
                    bd (F_X12_min (s16.1 92 q17.toNatClampNeg) ((s16.1 92 q11.toNatClampNeg) + q20) s19) (fun q23 s22 =>
                      gd (vp_in q17 27648) (nm (zwr s22 92 q17.toNatClampNeg q23) (fun s25 =>
                        F_X12_laysFor_149 w46 w55 w64 x1 x2 x3 x4 x5 x6 s25))))))))))))
set_option maxHeartbeats 4000000 in
set_option maxRecDepth 100000 in
theorem b_X12_laysFor_64 {G : zG} {C : zC} {r : Unit} {τ : zSt} (hR : zR G C none none τ) (w46 : (Int32 × zSt) → Option (Unit × zSt)) (w55 : (Int32 × zSt) → Option (Unit × zSt)) (x1 : Int32) (x2 : Int32) (x3 : Int32) (x4 : Int32) (x5 : Int32) (hw46 : ∀ (x4 : Int32) (σ : zSt), w46 (x4, σ) = some (r, τ) → zAW G 6 RX12 cX12_laysFor 9 C 46 [(0, .ref (zad G 69)), (1, .int x1), (2, .int x2), (3, .int x3), (4, .int x4)] [] σ) (hw55 : ∀ (x5 : Int32) (σ : zSt), w55 (x5, σ) = some (r, τ) → zAW G 6 RX12 cX12_laysFor 9 C 55 [(0, .ref (zad G 69)), (1, .int x1), (2, .int x2), (3, .int x3), (4, .int x4), (5, .int x5)] [] σ) (w64 : (Int32 × zSt) → Option (Unit × zSt)) (hw64 : ∀ (x6 : Int32) (σ : zSt), w64 (x6, σ) = some (r, τ) → zAW G 6 RX12 cX12_laysFor 9 C 64 [(0, .ref (zad G 69)), (1, .int x1), (2, .int x2), (3, .int x3), (4, .int x4), (5, .int x5), (6, .int x6)] [] σ) (x6 : Int32) (σ : zSt) (h : F_X12_laysFor_64 w46 w55 x1 x2 x3 x4 x5 w64 x6 σ = some (r, τ)) : zAW G 6 RX12 cX12_laysFor 9 C 64 [(0, .ref (zad G 69)), (1, .int x1), (2, .int x2), (3, .int x3), (4, .int x4), (5, .int x5), (6, .int x6)] [] σ := by
  unfold F_X12_laysFor_64 at h
  refine z_iload e_X12_laysFor_64 6 rfl ?_
  refine z_ic e_X12_laysFor_66 ?_
  refine z_icmp_ge e_X12_laysFor_67 h (fun c8 h => ?_) (fun c8 h => ?_)
  · exact z_sub [0, 1, 2, 3, 4, 5] rfl (p_X12_laysFor_155 hR w46 w55 x1 x2 x3 x4 x5 hw46 hw55 σ h)
  · refine z_aload e_X12_laysFor_70 0 rfl ?_
    refine z_iload e_X12_laysFor_71 1 rfl ?_
    refine z_iload e_X12_laysFor_72 2 rfl ?_
    refine z_iload e_X12_laysFor_73 5 rfl ?_
    refine z_iload e_X12_laysFor_75 3 rfl ?_
    refine z_ic e_X12_laysFor_76 ?_
    refine z_iload e_X12_laysFor_77 6 rfl ?_
    obtain ⟨q11, s10, e12, h⟩ := bd_e h
    refine z_callVi (c0 := 69) (As := [.int x1, .int x2, .int x5, .int x3, .int (0 : Int32), .int x6]) (rest := []) lk_X12_383 ob_69 e_X12_laysFor_79 (m_X12_behind G x1 x2 x5 x3 (0 : Int32) x6 σ _ _ e12) (by decide) rfl (Nat.le_of_ble_eq_true rfl) ?_
    refine z_istore e_X12_laysFor_82 (by decide) [(7, .int q11), (0, .ref (zad G 69)), (1, .int x1), (2, .int x2), (3, .int x3), (4, .int x4), (5, .int x5), (6, .int x6)] rfl ?_
    refine z_iload e_X12_laysFor_84 0 rfl ?_
    refine z_ic e_X12_laysFor_86 ?_
    refine z_icmp_eq e_X12_laysFor_87 h (fun c13 h => ?_) (fun c13 h => ?_)
    · exact z_sub [1, 2, 3, 4, 5, 6, 7] rfl (p_X12_laysFor_149 hR w46 w55 w64 x1 x2 x3 x4 x5 x6 hw46 hw55 hw64 s10 h)
    · refine z_aload e_X12_laysFor_90 1 rfl ?_
      refine z_getr gf_X12_77_69 e_X12_laysFor_91 ?_
      refine z_iload e_X12_laysFor_94 0 rfl ?_
      refine z_iald sh_92 e_X12_laysFor_96 h (fun h => ?_)
      refine z_ldcw cs_X12_382 e_X12_laysFor_97 ?_
      refine z_icmp_ne e_X12_laysFor_100 h (fun c15 h => ?_) (fun c15 h => ?_)
      · refine z_goto e_X12_laysFor_103 ?_
        exact z_sub [1, 2, 3, 4, 5, 6, 7] rfl (p_X12_laysFor_149 hR w46 w55 w64 x1 x2 x3 x4 x5 x6 hw46 hw55 hw64 s10 h)
      · refine z_iload e_X12_laysFor_106 2 rfl ?_
        refine z_iload e_X12_laysFor_107 3 rfl ?_
        refine z_iload e_X12_laysFor_108 6 rfl ?_
        obtain ⟨q17, s16, e18, h⟩ := bd_e h
        refine z_callSi (As := [.int x1, .int x2, .int x5]) (rest := []) lk_X12_375 e_X12_laysFor_110 (m_X12_stateOf G x1 x2 x5 s10 _ _ e18) (by decide) rfl (Nat.le_of_ble_eq_true rfl) ?_
        refine z_istore e_X12_laysFor_113 (by decide) [(8, .int q17), (7, .int q11), (0, .ref (zad G 69)), (1, .int x1), (2, .int x2), (3, .int x3), (4, .int x4), (5, .int x5), (6, .int x6)] rfl ?_
        refine z_aload e_X12_laysFor_115 2 rfl ?_
        refine z_getr gf_X12_77_69 e_X12_laysFor_116 ?_
        refine z_iload e_X12_laysFor_119 0 rfl ?_
        refine z_aload e_X12_laysFor_121 2 rfl ?_
        refine z_getr gf_X12_77_69 e_X12_laysFor_122 ?_
        refine z_iload e_X12_laysFor_125 0 rfl ?_
        refine z_iald sh_92 e_X12_laysFor_127 h (fun h => ?_)
        refine z_aload e_X12_laysFor_128 2 rfl ?_
        refine z_getr gf_X12_77_69 e_X12_laysFor_129 ?_
        refine z_iload e_X12_laysFor_132 1 rfl ?_
        refine z_iald sh_92 e_X12_laysFor_134 h (fun h => ?_)
        refine z_aload e_X12_laysFor_135 2 rfl ?_
        refine z_iload e_X12_laysFor_136 7 rfl ?_
        refine z_ic e_X12_laysFor_138 ?_
        refine z_iload e_X12_laysFor_139 8 rfl ?_
        obtain ⟨q20, s19, e21, h⟩ := bd_e h
        refine z_callVi (c0 := 69) (As := [.int x5, .int (0 : Int32), .int x6]) (rest := [.int (s16.1 92 q11.toNatClampNeg), .int (s16.1 92 q17.toNatClampNeg), .int q17, .ref (zad G 92)]) lk_X12_387 ob_69 e_X12_laysFor_141 (m_X12_costOf G x5 (0 : Int32) x6 s16 _ _ e21) (by decide) rfl (Nat.le_of_ble_eq_true rfl) ?_
        refine z_iadd e_X12_laysFor_144 ?_
        obtain ⟨q23, s22, e24, h⟩ := bd_e h
        refine z_callSi (As := [.int (s16.1 92 q17.toNatClampNeg), .int ((s16.1 92 q11.toNatClampNeg) + q20)]) (rest := [.int q17, .ref (zad G 92)]) lk_X12_390 e_X12_laysFor_145 (m_X12_min G (s16.1 92 q17.toNatClampNeg) ((s16.1 92 q11.toNatClampNeg) + q20) s19 _ _ e24) (by decide) rfl (Nat.le_of_ble_eq_true rfl) ?_
        refine z_iast sh_92 e_X12_laysFor_148 h (fun s25 h => ?_)
        exact z_sub [2, 3, 4, 5, 6, 7, 8] rfl (p_X12_laysFor_149 hR w46 w55 w64 x1 x2 x3 x4 x5 x6 hw46 hw55 hw64 s25 h)
noncomputable def F_X12_laysFor_64L (w46 : (Int32 × zSt) → Option (Unit × zSt)) (w55 : (Int32 × zSt) → Option (Unit × zSt)) (x1 : Int32) (x2 : Int32) (x3 : Int32) (x4 : Int32) (x5 : Int32) : ((Int32 × zSt) → Option (Unit × zSt)) → (Int32 × zSt) → Option (Unit × zSt) := fun w s => F_X12_laysFor_64 w46 w55 x1 x2 x3 x4 x5 w s.1 s.2
set_option maxRecDepth 100000 in
theorem l_X12_laysFor_64 {G : zG} {C : zC} {r : Unit} {τ : zSt} (hR : zR G C none none τ) (w46 : (Int32 × zSt) → Option (Unit × zSt)) (w55 : (Int32 × zSt) → Option (Unit × zSt)) (x1 : Int32) (x2 : Int32) (x3 : Int32) (x4 : Int32) (x5 : Int32) (hw46 : ∀ (x4 : Int32) (σ : zSt), w46 (x4, σ) = some (r, τ) → zAW G 6 RX12 cX12_laysFor 9 C 46 [(0, .ref (zad G 69)), (1, .int x1), (2, .int x2), (3, .int x3), (4, .int x4)] [] σ) (hw55 : ∀ (x5 : Int32) (σ : zSt), w55 (x5, σ) = some (r, τ) → zAW G 6 RX12 cX12_laysFor 9 C 55 [(0, .ref (zad G 69)), (1, .int x1), (2, .int x2), (3, .int x3), (4, .int x4), (5, .int x5)] [] σ) : ∀ (N : Nat) (x6 : Int32) (σ : zSt), zfix (F_X12_laysFor_64L w46 w55 x1 x2 x3 x4 x5) N (x6, σ) = some (r, τ) → zAW G 6 RX12 cX12_laysFor 9 C 64 [(0, .ref (zad G 69)), (1, .int x1), (2, .int x2), (3, .int x3), (4, .int x4), (5, .int x5), (6, .int x6)] [] σ := by
  intro N
  induction N with
  | zero =>
    intro x6 σ h
    exact nomatch (show (none : Option (Unit × zSt)) = some (r, τ) from h)
  | succ N ih =>
    intro x6 σ h
    exact b_X12_laysFor_64 hR w46 w55 x1 x2 x3 x4 x5 hw46 hw55 (zfix (F_X12_laysFor_64L w46 w55 x1 x2 x3 x4 x5) N) ih x6 σ h
noncomputable def F_X12_laysFor_55 (w46 : (Int32 × zSt) → Option (Unit × zSt)) (x1 : Int32) (x2 : Int32) (x3 : Int32) (x4 : Int32) (w55 : (Int32 × zSt) → Option (Unit × zSt)) (x5 : Int32) (σ : zSt) : Option (Unit × zSt) :=
  if (4 : Int32) ≤ x5 then (
    F_X12_laysFor_161 w46 x1 x2 x3 x4 σ)
  else (
    zfix (F_X12_laysFor_64L w46 w55 x1 x2 x3 x4 x5) zlim ((0 : Int32), σ))
set_option maxHeartbeats 4000000 in
set_option maxRecDepth 100000 in
theorem b_X12_laysFor_55 {G : zG} {C : zC} {r : Unit} {τ : zSt} (hR : zR G C none none τ) (w46 : (Int32 × zSt) → Option (Unit × zSt)) (x1 : Int32) (x2 : Int32) (x3 : Int32) (x4 : Int32) (hw46 : ∀ (x4 : Int32) (σ : zSt), w46 (x4, σ) = some (r, τ) → zAW G 6 RX12 cX12_laysFor 9 C 46 [(0, .ref (zad G 69)), (1, .int x1), (2, .int x2), (3, .int x3), (4, .int x4)] [] σ) (w55 : (Int32 × zSt) → Option (Unit × zSt)) (hw55 : ∀ (x5 : Int32) (σ : zSt), w55 (x5, σ) = some (r, τ) → zAW G 6 RX12 cX12_laysFor 9 C 55 [(0, .ref (zad G 69)), (1, .int x1), (2, .int x2), (3, .int x3), (4, .int x4), (5, .int x5)] [] σ) (x5 : Int32) (σ : zSt) (h : F_X12_laysFor_55 w46 x1 x2 x3 x4 w55 x5 σ = some (r, τ)) : zAW G 6 RX12 cX12_laysFor 9 C 55 [(0, .ref (zad G 69)), (1, .int x1), (2, .int x2), (3, .int x3), (4, .int x4), (5, .int x5)] [] σ := by
  unfold F_X12_laysFor_55 at h
  refine z_iload e_X12_laysFor_55 5 rfl ?_
  refine z_ic e_X12_laysFor_57 ?_
  refine z_icmp_ge e_X12_laysFor_58 h (fun c6 h => ?_) (fun c6 h => ?_)
  · exact z_sub [0, 1, 2, 3, 4] rfl (p_X12_laysFor_161 hR w46 x1 x2 x3 x4 hw46 σ h)
  · refine z_ic e_X12_laysFor_61 ?_
    refine z_istore e_X12_laysFor_62 (by decide) [(6, .int (0 : Int32)), (0, .ref (zad G 69)), (1, .int x1), (2, .int x2), (3, .int x3), (4, .int x4), (5, .int x5)] rfl ?_
    exact z_sub [1, 2, 3, 4, 5, 6, 0] rfl (l_X12_laysFor_64 hR w46 w55 x1 x2 x3 x4 x5 hw46 hw55 zlim (0 : Int32) σ h)
noncomputable def F_X12_laysFor_55L (w46 : (Int32 × zSt) → Option (Unit × zSt)) (x1 : Int32) (x2 : Int32) (x3 : Int32) (x4 : Int32) : ((Int32 × zSt) → Option (Unit × zSt)) → (Int32 × zSt) → Option (Unit × zSt) := fun w s => F_X12_laysFor_55 w46 x1 x2 x3 x4 w s.1 s.2
set_option maxRecDepth 100000 in
theorem l_X12_laysFor_55 {G : zG} {C : zC} {r : Unit} {τ : zSt} (hR : zR G C none none τ) (w46 : (Int32 × zSt) → Option (Unit × zSt)) (x1 : Int32) (x2 : Int32) (x3 : Int32) (x4 : Int32) (hw46 : ∀ (x4 : Int32) (σ : zSt), w46 (x4, σ) = some (r, τ) → zAW G 6 RX12 cX12_laysFor 9 C 46 [(0, .ref (zad G 69)), (1, .int x1), (2, .int x2), (3, .int x3), (4, .int x4)] [] σ) : ∀ (N : Nat) (x5 : Int32) (σ : zSt), zfix (F_X12_laysFor_55L w46 x1 x2 x3 x4) N (x5, σ) = some (r, τ) → zAW G 6 RX12 cX12_laysFor 9 C 55 [(0, .ref (zad G 69)), (1, .int x1), (2, .int x2), (3, .int x3), (4, .int x4), (5, .int x5)] [] σ := by
  intro N
  induction N with
  | zero =>
    intro x5 σ h
    exact nomatch (show (none : Option (Unit × zSt)) = some (r, τ) from h)
  | succ N ih =>
    intro x5 σ h
    exact b_X12_laysFor_55 hR w46 x1 x2 x3 x4 hw46 (zfix (F_X12_laysFor_55L w46 x1 x2 x3 x4) N) ih x5 σ h
noncomputable def F_X12_laysFor_46 (x1 : Int32) (x2 : Int32) (x3 : Int32) (w46 : (Int32 × zSt) → Option (Unit × zSt)) (x4 : Int32) (σ : zSt) : Option (Unit × zSt) :=
  if (4 : Int32) ≤ x4 then (
    some ((), σ))
  else (
    zfix (F_X12_laysFor_55L w46 x1 x2 x3 x4) zlim ((0 : Int32), σ))
set_option maxHeartbeats 4000000 in
set_option maxRecDepth 100000 in
theorem b_X12_laysFor_46 {G : zG} {C : zC} {r : Unit} {τ : zSt} (hR : zR G C none none τ) (x1 : Int32) (x2 : Int32) (x3 : Int32) (w46 : (Int32 × zSt) → Option (Unit × zSt)) (hw46 : ∀ (x4 : Int32) (σ : zSt), w46 (x4, σ) = some (r, τ) → zAW G 6 RX12 cX12_laysFor 9 C 46 [(0, .ref (zad G 69)), (1, .int x1), (2, .int x2), (3, .int x3), (4, .int x4)] [] σ) (x4 : Int32) (σ : zSt) (h : F_X12_laysFor_46 x1 x2 x3 w46 x4 σ = some (r, τ)) : zAW G 6 RX12 cX12_laysFor 9 C 46 [(0, .ref (zad G 69)), (1, .int x1), (2, .int x2), (3, .int x3), (4, .int x4)] [] σ := by
  unfold F_X12_laysFor_46 at h
  refine z_iload e_X12_laysFor_46 4 rfl ?_
  refine z_ic e_X12_laysFor_48 ?_
  refine z_icmp_ge e_X12_laysFor_49 h (fun c5 h => ?_) (fun c5 h => ?_)
  · cases h
    exact z_vreturn hR e_X12_laysFor_167
  · refine z_ic e_X12_laysFor_52 ?_
    refine z_istore e_X12_laysFor_53 (by decide) [(5, .int (0 : Int32)), (0, .ref (zad G 69)), (1, .int x1), (2, .int x2), (3, .int x3), (4, .int x4)] rfl ?_
    exact z_sub [1, 2, 3, 4, 5, 0] rfl (l_X12_laysFor_55 hR w46 x1 x2 x3 x4 hw46 zlim (0 : Int32) σ h)
noncomputable def F_X12_laysFor_46L (x1 : Int32) (x2 : Int32) (x3 : Int32) : ((Int32 × zSt) → Option (Unit × zSt)) → (Int32 × zSt) → Option (Unit × zSt) := fun w s => F_X12_laysFor_46 x1 x2 x3 w s.1 s.2
set_option maxRecDepth 100000 in
theorem l_X12_laysFor_46 {G : zG} {C : zC} {r : Unit} {τ : zSt} (hR : zR G C none none τ) (x1 : Int32) (x2 : Int32) (x3 : Int32) : ∀ (N : Nat) (x4 : Int32) (σ : zSt), zfix (F_X12_laysFor_46L x1 x2 x3) N (x4, σ) = some (r, τ) → zAW G 6 RX12 cX12_laysFor 9 C 46 [(0, .ref (zad G 69)), (1, .int x1), (2, .int x2), (3, .int x3), (4, .int x4)] [] σ := by
  intro N
  induction N with
  | zero =>
    intro x4 σ h
    exact nomatch (show (none : Option (Unit × zSt)) = some (r, τ) from h)
  | succ N ih =>
    intro x4 σ h
    exact b_X12_laysFor_46 hR x1 x2 x3 (zfix (F_X12_laysFor_46L x1 x2 x3) N) ih x4 σ h
noncomputable def F_X12_laysFor_43 (x1 : Int32) (x2 : Int32) (x3 : Int32) (σ : zSt) : Option (Unit × zSt) :=
  zfix (F_X12_laysFor_46L x1 x2 x3) zlim ((0 : Int32), σ)
set_option maxHeartbeats 4000000 in
set_option maxRecDepth 100000 in
theorem p_X12_laysFor_43 {G : zG} {C : zC} {r : Unit} {τ : zSt} (hR : zR G C none none τ) (x1 : Int32) (x2 : Int32) (x3 : Int32) (σ : zSt) (h : F_X12_laysFor_43 x1 x2 x3 σ = some (r, τ)) : zAW G 6 RX12 cX12_laysFor 9 C 43 [(0, .ref (zad G 69)), (1, .int x1), (2, .int x2), (3, .int x3)] [] σ := by
  unfold F_X12_laysFor_43 at h
  refine z_ic e_X12_laysFor_43 ?_
  refine z_istore e_X12_laysFor_44 (by decide) [(4, .int (0 : Int32)), (0, .ref (zad G 69)), (1, .int x1), (2, .int x2), (3, .int x3)] rfl ?_
  exact z_sub [1, 2, 3, 4, 0] rfl (l_X12_laysFor_46 hR x1 x2 x3 zlim (0 : Int32) σ h)
noncomputable def F_X12_laysFor_10 (x1 : Int32) (x2 : Int32) (x3 : Int32) (w10 : (Int32 × zSt) → Option (Unit × zSt)) (x4 : Int32) (σ : zSt) : Option (Unit × zSt) :=
  if (4 : Int32) ≤ x4 then (
    F_X12_laysFor_43 x1 x2 x3 σ)
  else (
    bd (F_X12_stateOf x1 x2 x4 σ) (fun q27 s26 =>
      bd (F_X12_bestBy x1 x2 x4 x3 s26) (fun q30 s29 =>
        gd (vp_in q27 27648) (nm (zwr s29 92 q27.toNatClampNeg q30) (fun s32 =>
          nm (x4 + (1 : Int32)) (fun v33 =>
            w10 (v33, s32)))))))
set_option maxHeartbeats 4000000 in
set_option maxRecDepth 100000 in
theorem b_X12_laysFor_10 {G : zG} {C : zC} {r : Unit} {τ : zSt} (hR : zR G C none none τ) (x1 : Int32) (x2 : Int32) (x3 : Int32) (w10 : (Int32 × zSt) → Option (Unit × zSt)) (hw10 : ∀ (x4 : Int32) (σ : zSt), w10 (x4, σ) = some (r, τ) → zAW G 6 RX12 cX12_laysFor 9 C 10 [(0, .ref (zad G 69)), (1, .int x1), (2, .int x2), (3, .int x3), (4, .int x4)] [] σ) (x4 : Int32) (σ : zSt) (h : F_X12_laysFor_10 x1 x2 x3 w10 x4 σ = some (r, τ)) : zAW G 6 RX12 cX12_laysFor 9 C 10 [(0, .ref (zad G 69)), (1, .int x1), (2, .int x2), (3, .int x3), (4, .int x4)] [] σ := by
  unfold F_X12_laysFor_10 at h
  refine z_iload e_X12_laysFor_10 4 rfl ?_
  refine z_ic e_X12_laysFor_12 ?_
  refine z_icmp_ge e_X12_laysFor_13 h (fun c4 h => ?_) (fun c4 h => ?_)
  · exact z_sub [0, 1, 2, 3] rfl (p_X12_laysFor_43 hR x1 x2 x3 σ h)
  · refine z_aload e_X12_laysFor_16 0 rfl ?_
    refine z_getr gf_X12_77_69 e_X12_laysFor_17 ?_
    refine z_iload e_X12_laysFor_20 1 rfl ?_
    refine z_iload e_X12_laysFor_21 2 rfl ?_
    refine z_iload e_X12_laysFor_22 4 rfl ?_
    obtain ⟨q27, s26, e28, h⟩ := bd_e h
    refine z_callSi (As := [.int x1, .int x2, .int x4]) (rest := [.ref (zad G 92)]) lk_X12_375 e_X12_laysFor_24 (m_X12_stateOf G x1 x2 x4 σ _ _ e28) (by decide) rfl (Nat.le_of_ble_eq_true rfl) ?_
    refine z_aload e_X12_laysFor_27 0 rfl ?_
    refine z_iload e_X12_laysFor_28 1 rfl ?_
    refine z_iload e_X12_laysFor_29 2 rfl ?_
    refine z_iload e_X12_laysFor_30 4 rfl ?_
    refine z_iload e_X12_laysFor_32 3 rfl ?_
    obtain ⟨q30, s29, e31, h⟩ := bd_e h
    refine z_callVi (c0 := 69) (As := [.int x1, .int x2, .int x4, .int x3]) (rest := [.int q27, .ref (zad G 92)]) lk_X12_396 ob_69 e_X12_laysFor_33 (m_X12_bestBy G x1 x2 x4 x3 s26 _ _ e31) (by decide) rfl (Nat.le_of_ble_eq_true rfl) ?_
    refine z_iast sh_92 e_X12_laysFor_36 h (fun s32 h => ?_)
    refine z_iinc e_X12_laysFor_37 4 rfl (by decide) (by decide) h (fun y => [(4, .int y), (0, .ref (zad G 69)), (1, .int x1), (2, .int x2), (3, .int x3)]) (fun _ => rfl) (fun v33 h => ?_)
    refine z_goto e_X12_laysFor_40 ?_
    exact z_sub [1, 2, 3, 4, 0] rfl (hw10 v33 s32 h)
noncomputable def F_X12_laysFor_10L (x1 : Int32) (x2 : Int32) (x3 : Int32) : ((Int32 × zSt) → Option (Unit × zSt)) → (Int32 × zSt) → Option (Unit × zSt) := fun w s => F_X12_laysFor_10 x1 x2 x3 w s.1 s.2
set_option maxRecDepth 100000 in
theorem l_X12_laysFor_10 {G : zG} {C : zC} {r : Unit} {τ : zSt} (hR : zR G C none none τ) (x1 : Int32) (x2 : Int32) (x3 : Int32) : ∀ (N : Nat) (x4 : Int32) (σ : zSt), zfix (F_X12_laysFor_10L x1 x2 x3) N (x4, σ) = some (r, τ) → zAW G 6 RX12 cX12_laysFor 9 C 10 [(0, .ref (zad G 69)), (1, .int x1), (2, .int x2), (3, .int x3), (4, .int x4)] [] σ := by
  intro N
  induction N with
  | zero =>
    intro x4 σ h
    exact nomatch (show (none : Option (Unit × zSt)) = some (r, τ) from h)
  | succ N ih =>
    intro x4 σ h
    exact b_X12_laysFor_10 hR x1 x2 x3 (zfix (F_X12_laysFor_10L x1 x2 x3) N) ih x4 σ h
noncomputable def F_X12_laysFor_0 (x1 : Int32) (x2 : Int32) (σ : zSt) : Option (Unit × zSt) :=
  bd (F_X12_keysWith x1 x2 σ) (fun q2 s1 =>
    zfix (F_X12_laysFor_10L x1 x2 q2) zlim ((0 : Int32), s1))
set_option maxHeartbeats 4000000 in
set_option maxRecDepth 100000 in
theorem p_X12_laysFor_0 {G : zG} {C : zC} {r : Unit} {τ : zSt} (hR : zR G C none none τ) (x1 : Int32) (x2 : Int32) (σ : zSt) (h : F_X12_laysFor_0 x1 x2 σ = some (r, τ)) : zAW G 6 RX12 cX12_laysFor 9 C 0 [(0, .ref (zad G 69)), (1, .int x1), (2, .int x2)] [] σ := by
  unfold F_X12_laysFor_0 at h
  refine z_aload e_X12_laysFor_0 0 rfl ?_
  refine z_iload e_X12_laysFor_1 1 rfl ?_
  refine z_iload e_X12_laysFor_2 2 rfl ?_
  obtain ⟨q2, s1, e3, h⟩ := bd_e h
  refine z_callVi (c0 := 69) (As := [.int x1, .int x2]) (rest := []) lk_X12_393 ob_69 e_X12_laysFor_3 (m_X12_keysWith G x1 x2 σ _ _ e3) (by decide) rfl (Nat.le_of_ble_eq_true rfl) ?_
  refine z_istore e_X12_laysFor_6 (by decide) [(3, .int q2), (0, .ref (zad G 69)), (1, .int x1), (2, .int x2)] rfl ?_
  refine z_ic e_X12_laysFor_7 ?_
  refine z_istore e_X12_laysFor_8 (by decide) [(4, .int (0 : Int32)), (3, .int q2), (0, .ref (zad G 69)), (1, .int x1), (2, .int x2)] rfl ?_
  exact z_sub [2, 3, 4, 1, 0] rfl (l_X12_laysFor_10 hR x1 x2 q2 zlim (0 : Int32) s1 h)
noncomputable def F_X12_laysFor (x1 : Int32) (x2 : Int32) (σ : zSt) : Option (Unit × zSt) := F_X12_laysFor_0 x1 x2 σ
set_option maxRecDepth 100000 in
theorem m_X12_laysFor (G : zG) (x1 : Int32) (x2 : Int32) (σ : zSt) (q : Unit) (τ : zSt) (h : F_X12_laysFor x1 x2 σ = some (q, τ)) : zM G 6 yX12_laysFor cX12_laysFor 9 none [.ref (zad G 69), .int x1, .int x2] σ none τ := by
  unfold F_X12_laysFor at h
  refine zM.of (own := RX12) (by decide +kernel) rfl (Nat.le_of_ble_eq_true rfl) (fun C hR => ?_)
  exact z_sub [0, 1, 2] rfl (p_X12_laysFor_0 hR x1 x2 σ h)
noncomputable def F_X12_solves_189 (σ : zSt) : Option (Int32 × zSt) :=
  bd (F_X12_stateOf (0 : Int32) (0 : Int32) (0 : Int32) σ) (fun q10 s9 =>
    gd (vp_in q10 27648) (
      some ((s9.1 92 q10.toNatClampNeg), s9)))
set_option maxHeartbeats 4000000 in
set_option maxRecDepth 100000 in
theorem p_X12_solves_189 {G : zG} {C : zC} {r : Int32} {τ : zSt} (hR : zR G C (some .int) (some (.int r)) τ)  (σ : zSt) (h : F_X12_solves_189 σ = some (r, τ)) : zAW G 7 RX12 cX12_solves 6 C 189 [(0, .ref (zad G 69))] [] σ := by
  unfold F_X12_solves_189 at h
  refine z_aload e_X12_solves_189 0 rfl ?_
  refine z_getr gf_X12_77_69 e_X12_solves_190 ?_
  refine z_ic e_X12_solves_193 ?_
  refine z_ic e_X12_solves_194 ?_
  refine z_ic e_X12_solves_195 ?_
  obtain ⟨q10, s9, e11, h⟩ := bd_e h
  refine z_callSi (As := [.int (0 : Int32), .int (0 : Int32), .int (0 : Int32)]) (rest := [.ref (zad G 92)]) lk_X12_375 e_X12_solves_196 (m_X12_stateOf G (0 : Int32) (0 : Int32) (0 : Int32) σ _ _ e11) (by decide) rfl (Nat.le_of_ble_eq_true rfl) ?_
  refine z_iald sh_92 e_X12_solves_199 h (fun h => ?_)
  cases h
  exact z_ireturn hR e_X12_solves_200
noncomputable def F_X12_solves_183 (w89 : (Int32 × zSt) → Option (Int32 × zSt)) (x2 : Int32) (x3 : Int32) (σ : zSt) : Option (Int32 × zSt) :=
  nm (x3 + (-1 : Int32)) (fun v13 =>
    w89 (v13, σ))
set_option maxHeartbeats 4000000 in
set_option maxRecDepth 100000 in
theorem p_X12_solves_183 {G : zG} {C : zC} {r : Int32} {τ : zSt} (hR : zR G C (some .int) (some (.int r)) τ) (w89 : (Int32 × zSt) → Option (Int32 × zSt)) (x2 : Int32) (x3 : Int32) (hw89 : ∀ (x3 : Int32) (σ : zSt), w89 (x3, σ) = some (r, τ) → zAW G 7 RX12 cX12_solves 6 C 89 [(0, .ref (zad G 69)), (2, .int x2), (3, .int x3)] [] σ) (σ : zSt) (h : F_X12_solves_183 w89 x2 x3 σ = some (r, τ)) : zAW G 7 RX12 cX12_solves 6 C 183 [(0, .ref (zad G 69)), (2, .int x2), (3, .int x3)] [] σ := by
  unfold F_X12_solves_183 at h
  refine z_iinc e_X12_solves_183 2 rfl (by decide) (by decide) h (fun y => [(3, .int y), (0, .ref (zad G 69)), (2, .int x2)]) (fun _ => rfl) (fun v13 h => ?_)
  refine z_goto e_X12_solves_186 ?_
  exact z_sub [1, 2, 0] rfl (hw89 v13 σ h)
noncomputable def F_X12_solves_177 (w89 : (Int32 × zSt) → Option (Int32 × zSt)) (w97 : (Int32 × zSt) → Option (Int32 × zSt)) (x2 : Int32) (x3 : Int32) (x4 : Int32) (σ : zSt) : Option (Int32 × zSt) :=
  nm (x4 + (-1 : Int32)) (fun v17 =>
    w97 (v17, σ))
set_option maxHeartbeats 4000000 in
set_option maxRecDepth 100000 in
theorem p_X12_solves_177 {G : zG} {C : zC} {r : Int32} {τ : zSt} (hR : zR G C (some .int) (some (.int r)) τ) (w89 : (Int32 × zSt) → Option (Int32 × zSt)) (w97 : (Int32 × zSt) → Option (Int32 × zSt)) (x2 : Int32) (x3 : Int32) (x4 : Int32) (hw89 : ∀ (x3 : Int32) (σ : zSt), w89 (x3, σ) = some (r, τ) → zAW G 7 RX12 cX12_solves 6 C 89 [(0, .ref (zad G 69)), (2, .int x2), (3, .int x3)] [] σ) (hw97 : ∀ (x4 : Int32) (σ : zSt), w97 (x4, σ) = some (r, τ) → zAW G 7 RX12 cX12_solves 6 C 97 [(0, .ref (zad G 69)), (2, .int x2), (3, .int x3), (4, .int x4)] [] σ) (σ : zSt) (h : F_X12_solves_177 w89 w97 x2 x3 x4 σ = some (r, τ)) : zAW G 7 RX12 cX12_solves 6 C 177 [(0, .ref (zad G 69)), (2, .int x2), (3, .int x3), (4, .int x4)] [] σ := by
  unfold F_X12_solves_177 at h
  refine z_iinc e_X12_solves_177 3 rfl (by decide) (by decide) h (fun y => [(4, .int y), (0, .ref (zad G 69)), (2, .int x2), (3, .int x3)]) (fun _ => rfl) (fun v17 h => ?_)
  refine z_goto e_X12_solves_180 ?_
  exact z_sub [1, 2, 3, 0] rfl (hw97 v17 σ h)
noncomputable def F_X12_solves_134 (w89 : (Int32 × zSt) → Option (Int32 × zSt)) (w97 : (Int32 × zSt) → Option (Int32 × zSt)) (x2 : Int32) (x3 : Int32) (x4 : Int32) (w134 : (Int32 × zSt) → Option (Int32 × zSt)) (x5 : Int32) (σ : zSt) : Option (Int32 × zSt) :=
  if (4 : Int32) ≤ x5 then (
    F_X12_solves_177 w89 w97 x2 x3 x4 σ)
  else (
    bd (F_X12_stateOf x3 x4 x5 σ) (fun q19 s18 =>
      nm (if (x3 &&& ((s18.1 69 0) ^^^ (-1 : Int32))) = 0 then (0 : Int32) else (1000000000 : Int32)) (fun v21 =>
        gd (vp_in q19 27648) (nm (zwr s18 92 q19.toNatClampNeg v21) (fun s22 =>
          nm (x5 + (1 : Int32)) (fun v23 =>
            w134 (v23, s22)))))))
set_option maxHeartbeats 4000000 in
set_option maxRecDepth 100000 in
theorem b_X12_solves_134 {G : zG} {C : zC} {r : Int32} {τ : zSt} (hR : zR G C (some .int) (some (.int r)) τ) (w89 : (Int32 × zSt) → Option (Int32 × zSt)) (w97 : (Int32 × zSt) → Option (Int32 × zSt)) (x2 : Int32) (x3 : Int32) (x4 : Int32) (hw89 : ∀ (x3 : Int32) (σ : zSt), w89 (x3, σ) = some (r, τ) → zAW G 7 RX12 cX12_solves 6 C 89 [(0, .ref (zad G 69)), (2, .int x2), (3, .int x3)] [] σ) (hw97 : ∀ (x4 : Int32) (σ : zSt), w97 (x4, σ) = some (r, τ) → zAW G 7 RX12 cX12_solves 6 C 97 [(0, .ref (zad G 69)), (2, .int x2), (3, .int x3), (4, .int x4)] [] σ) (w134 : (Int32 × zSt) → Option (Int32 × zSt)) (hw134 : ∀ (x5 : Int32) (σ : zSt), w134 (x5, σ) = some (r, τ) → zAW G 7 RX12 cX12_solves 6 C 134 [(0, .ref (zad G 69)), (2, .int x2), (3, .int x3), (4, .int x4), (5, .int x5)] [] σ) (x5 : Int32) (σ : zSt) (h : F_X12_solves_134 w89 w97 x2 x3 x4 w134 x5 σ = some (r, τ)) : zAW G 7 RX12 cX12_solves 6 C 134 [(0, .ref (zad G 69)), (2, .int x2), (3, .int x3), (4, .int x4), (5, .int x5)] [] σ := by
  unfold F_X12_solves_134 at h
  refine z_iload e_X12_solves_134 4 rfl ?_
  refine z_ic e_X12_solves_136 ?_
  refine z_icmp_ge e_X12_solves_137 h (fun c16 h => ?_) (fun c16 h => ?_)
  · exact z_sub [0, 1, 2, 3] rfl (p_X12_solves_177 hR w89 w97 x2 x3 x4 hw89 hw97 σ h)
  · refine z_aload e_X12_solves_140 0 rfl ?_
    refine z_getr gf_X12_77_69 e_X12_solves_141 ?_
    refine z_iload e_X12_solves_144 2 rfl ?_
    refine z_iload e_X12_solves_145 3 rfl ?_
    refine z_iload e_X12_solves_147 4 rfl ?_
    obtain ⟨q19, s18, e20, h⟩ := bd_e h
    refine z_callSi (As := [.int x3, .int x4, .int x5]) (rest := [.ref (zad G 92)]) lk_X12_375 e_X12_solves_149 (m_X12_stateOf G x3 x4 x5 σ _ _ e20) (by decide) rfl (Nat.le_of_ble_eq_true rfl) ?_
    refine z_iload e_X12_solves_152 2 rfl ?_
    refine z_aload e_X12_solves_153 0 rfl ?_
    refine z_geti gf_X12_153_69 e_X12_solves_154 ?_
    refine z_ic e_X12_solves_157 ?_
    refine z_ixor e_X12_solves_158 ?_
    refine z_iand e_X12_solves_159 ?_
    obtain ⟨v21, ev21, h⟩ := nm_i h
    have jv21 : zAW G 7 RX12 cX12_solves 6 C 170 [(0, .ref (zad G 69)), (2, .int x2), (3, .int x3), (4, .int x4), (5, .int x5)] [.int v21, .int q19, .ref (zad G 92)] s18 := by
      refine z_iast sh_92 e_X12_solves_170 h (fun s22 h => ?_)
      refine z_iinc e_X12_solves_171 4 rfl (by decide) (by decide) h (fun y => [(5, .int y), (0, .ref (zad G 69)), (2, .int x2), (3, .int x3), (4, .int x4)]) (fun _ => rfl) (fun v23 h => ?_)
      refine z_goto e_X12_solves_174 ?_
      exact z_sub [1, 2, 3, 4, 0] rfl (hw134 v23 s22 h)
    refine y_if_ne e_X12_solves_160 (fun c24 => ?_) (fun c24 => ?_)
    · refine z_ic e_X12_solves_163 ?_
      refine z_goto e_X12_solves_164 ?_
      rw [if_pos c24] at ev21
      subst ev21
      exact z_sub [0, 1, 2, 3, 4] rfl jv21
    · refine z_ldcw cs_X12_382 e_X12_solves_167 ?_
      rw [if_neg c24] at ev21
      subst ev21
      exact z_sub [0, 1, 2, 3, 4] rfl jv21
noncomputable def F_X12_solves_134L (w89 : (Int32 × zSt) → Option (Int32 × zSt)) (w97 : (Int32 × zSt) → Option (Int32 × zSt)) (x2 : Int32) (x3 : Int32) (x4 : Int32) : ((Int32 × zSt) → Option (Int32 × zSt)) → (Int32 × zSt) → Option (Int32 × zSt) := fun w s => F_X12_solves_134 w89 w97 x2 x3 x4 w s.1 s.2
set_option maxRecDepth 100000 in
theorem l_X12_solves_134 {G : zG} {C : zC} {r : Int32} {τ : zSt} (hR : zR G C (some .int) (some (.int r)) τ) (w89 : (Int32 × zSt) → Option (Int32 × zSt)) (w97 : (Int32 × zSt) → Option (Int32 × zSt)) (x2 : Int32) (x3 : Int32) (x4 : Int32) (hw89 : ∀ (x3 : Int32) (σ : zSt), w89 (x3, σ) = some (r, τ) → zAW G 7 RX12 cX12_solves 6 C 89 [(0, .ref (zad G 69)), (2, .int x2), (3, .int x3)] [] σ) (hw97 : ∀ (x4 : Int32) (σ : zSt), w97 (x4, σ) = some (r, τ) → zAW G 7 RX12 cX12_solves 6 C 97 [(0, .ref (zad G 69)), (2, .int x2), (3, .int x3), (4, .int x4)] [] σ) : ∀ (N : Nat) (x5 : Int32) (σ : zSt), zfix (F_X12_solves_134L w89 w97 x2 x3 x4) N (x5, σ) = some (r, τ) → zAW G 7 RX12 cX12_solves 6 C 134 [(0, .ref (zad G 69)), (2, .int x2), (3, .int x3), (4, .int x4), (5, .int x5)] [] σ := by
  intro N
  induction N with
  | zero =>
    intro x5 σ h
    exact nomatch (show (none : Option (Int32 × zSt)) = some (r, τ) from h)
  | succ N ih =>
    intro x5 σ h
    exact b_X12_solves_134 hR w89 w97 x2 x3 x4 hw89 hw97 (zfix (F_X12_solves_134L w89 w97 x2 x3 x4) N) ih x5 σ h
noncomputable def F_X12_solves_131 (w89 : (Int32 × zSt) → Option (Int32 × zSt)) (w97 : (Int32 × zSt) → Option (Int32 × zSt)) (x2 : Int32) (x3 : Int32) (x4 : Int32) (σ : zSt) : Option (Int32 × zSt) :=
  zfix (F_X12_solves_134L w89 w97 x2 x3 x4) zlim ((0 : Int32), σ)
set_option maxHeartbeats 4000000 in
set_option maxRecDepth 100000 in
theorem p_X12_solves_131 {G : zG} {C : zC} {r : Int32} {τ : zSt} (hR : zR G C (some .int) (some (.int r)) τ) (w89 : (Int32 × zSt) → Option (Int32 × zSt)) (w97 : (Int32 × zSt) → Option (Int32 × zSt)) (x2 : Int32) (x3 : Int32) (x4 : Int32) (hw89 : ∀ (x3 : Int32) (σ : zSt), w89 (x3, σ) = some (r, τ) → zAW G 7 RX12 cX12_solves 6 C 89 [(0, .ref (zad G 69)), (2, .int x2), (3, .int x3)] [] σ) (hw97 : ∀ (x4 : Int32) (σ : zSt), w97 (x4, σ) = some (r, τ) → zAW G 7 RX12 cX12_solves 6 C 97 [(0, .ref (zad G 69)), (2, .int x2), (3, .int x3), (4, .int x4)] [] σ) (σ : zSt) (h : F_X12_solves_131 w89 w97 x2 x3 x4 σ = some (r, τ)) : zAW G 7 RX12 cX12_solves 6 C 131 [(0, .ref (zad G 69)), (2, .int x2), (3, .int x3), (4, .int x4)] [] σ := by
  unfold F_X12_solves_131 at h
  refine z_ic e_X12_solves_131 ?_
  refine z_istore e_X12_solves_132 (by decide) [(5, .int (0 : Int32)), (0, .ref (zad G 69)), (2, .int x2), (3, .int x3), (4, .int x4)] rfl ?_
  exact z_sub [1, 2, 3, 4, 0] rfl (l_X12_solves_134 hR w89 w97 x2 x3 x4 hw89 hw97 zlim (0 : Int32) σ h)
noncomputable def F_X12_solves_97 (w89 : (Int32 × zSt) → Option (Int32 × zSt)) (x2 : Int32) (x3 : Int32) (w97 : (Int32 × zSt) → Option (Int32 × zSt)) (x4 : Int32) (σ : zSt) : Option (Int32 × zSt) :=
  if x4 < 0 then (
    F_X12_solves_183 w89 x2 x3 σ)
  else (
    if (x3 &&& ((σ.1 69 0) ^^^ (-1 : Int32))) = 0 then (
      if (x2 &&& (x3 ^^^ (-1 : Int32))) = 0 then (
        F_X12_solves_131 w89 w97 x2 x3 x4 σ)
      else (
        bd (F_X12_laysFor x3 x4 σ) (fun _ s25 =>
          F_X12_solves_177 w89 w97 x2 x3 x4 s25)))
    else (
      F_X12_solves_131 w89 w97 x2 x3 x4 σ))
set_option maxHeartbeats 4000000 in
set_option maxRecDepth 100000 in
theorem b_X12_solves_97 {G : zG} {C : zC} {r : Int32} {τ : zSt} (hR : zR G C (some .int) (some (.int r)) τ) (w89 : (Int32 × zSt) → Option (Int32 × zSt)) (x2 : Int32) (x3 : Int32) (hw89 : ∀ (x3 : Int32) (σ : zSt), w89 (x3, σ) = some (r, τ) → zAW G 7 RX12 cX12_solves 6 C 89 [(0, .ref (zad G 69)), (2, .int x2), (3, .int x3)] [] σ) (w97 : (Int32 × zSt) → Option (Int32 × zSt)) (hw97 : ∀ (x4 : Int32) (σ : zSt), w97 (x4, σ) = some (r, τ) → zAW G 7 RX12 cX12_solves 6 C 97 [(0, .ref (zad G 69)), (2, .int x2), (3, .int x3), (4, .int x4)] [] σ) (x4 : Int32) (σ : zSt) (h : F_X12_solves_97 w89 x2 x3 w97 x4 σ = some (r, τ)) : zAW G 7 RX12 cX12_solves 6 C 97 [(0, .ref (zad G 69)), (2, .int x2), (3, .int x3), (4, .int x4)] [] σ := by
  unfold F_X12_solves_97 at h
  refine z_iload e_X12_solves_97 3 rfl ?_
  refine z_if_lt e_X12_solves_99 h (fun c12 h => ?_) (fun c12 h => ?_)
  · exact z_sub [0, 1, 2] rfl (p_X12_solves_183 hR w89 x2 x3 hw89 σ h)
  · refine z_iload e_X12_solves_102 2 rfl ?_
    refine z_aload e_X12_solves_103 0 rfl ?_
    refine z_geti gf_X12_153_69 e_X12_solves_104 ?_
    refine z_ic e_X12_solves_107 ?_
    refine z_ixor e_X12_solves_108 ?_
    refine z_iand e_X12_solves_109 ?_
    refine z_if_ne e_X12_solves_110 h (fun c14 h => ?_) (fun c14 h => ?_)
    · refine z_iload e_X12_solves_113 1 rfl ?_
      refine z_iload e_X12_solves_114 2 rfl ?_
      refine z_ic e_X12_solves_115 ?_
      refine z_ixor e_X12_solves_116 ?_
      refine z_iand e_X12_solves_117 ?_
      refine z_if_eq e_X12_solves_118 h (fun c15 h => ?_) (fun c15 h => ?_)
      · exact z_sub [0, 1, 2, 3] rfl (p_X12_solves_131 hR w89 w97 x2 x3 x4 hw89 hw97 σ h)
      · refine z_aload e_X12_solves_121 0 rfl ?_
        refine z_iload e_X12_solves_122 2 rfl ?_
        refine z_iload e_X12_solves_123 3 rfl ?_
        obtain ⟨q26, s25, e27, h⟩ := bd_e h
        refine z_callVv (c0 := 69) (As := [.int x3, .int x4]) (rest := []) lk_X12_400 ob_69 e_X12_solves_125 (m_X12_laysFor G x3 x4 σ _ _ e27) (by decide) rfl (Nat.le_of_ble_eq_true rfl) ?_
        refine z_goto e_X12_solves_128 ?_
        exact z_sub [0, 1, 2, 3] rfl (p_X12_solves_177 hR w89 w97 x2 x3 x4 hw89 hw97 s25 h)
    · exact z_sub [0, 1, 2, 3] rfl (p_X12_solves_131 hR w89 w97 x2 x3 x4 hw89 hw97 σ h)
noncomputable def F_X12_solves_97L (w89 : (Int32 × zSt) → Option (Int32 × zSt)) (x2 : Int32) (x3 : Int32) : ((Int32 × zSt) → Option (Int32 × zSt)) → (Int32 × zSt) → Option (Int32 × zSt) := fun w s => F_X12_solves_97 w89 x2 x3 w s.1 s.2
set_option maxRecDepth 100000 in
theorem l_X12_solves_97 {G : zG} {C : zC} {r : Int32} {τ : zSt} (hR : zR G C (some .int) (some (.int r)) τ) (w89 : (Int32 × zSt) → Option (Int32 × zSt)) (x2 : Int32) (x3 : Int32) (hw89 : ∀ (x3 : Int32) (σ : zSt), w89 (x3, σ) = some (r, τ) → zAW G 7 RX12 cX12_solves 6 C 89 [(0, .ref (zad G 69)), (2, .int x2), (3, .int x3)] [] σ) : ∀ (N : Nat) (x4 : Int32) (σ : zSt), zfix (F_X12_solves_97L w89 x2 x3) N (x4, σ) = some (r, τ) → zAW G 7 RX12 cX12_solves 6 C 97 [(0, .ref (zad G 69)), (2, .int x2), (3, .int x3), (4, .int x4)] [] σ := by
  intro N
  induction N with
  | zero =>
    intro x4 σ h
    exact nomatch (show (none : Option (Int32 × zSt)) = some (r, τ) from h)
  | succ N ih =>
    intro x4 σ h
    exact b_X12_solves_97 hR w89 x2 x3 hw89 (zfix (F_X12_solves_97L w89 x2 x3) N) ih x4 σ h
noncomputable def F_X12_solves_89 (x2 : Int32) (w89 : (Int32 × zSt) → Option (Int32 × zSt)) (x3 : Int32) (σ : zSt) : Option (Int32 × zSt) :=
  if x3 < 0 then (
    F_X12_solves_189  σ)
  else (
    zfix (F_X12_solves_97L w89 x2 x3) zlim ((26 : Int32), σ))
set_option maxHeartbeats 4000000 in
set_option maxRecDepth 100000 in
theorem b_X12_solves_89 {G : zG} {C : zC} {r : Int32} {τ : zSt} (hR : zR G C (some .int) (some (.int r)) τ) (x2 : Int32) (w89 : (Int32 × zSt) → Option (Int32 × zSt)) (hw89 : ∀ (x3 : Int32) (σ : zSt), w89 (x3, σ) = some (r, τ) → zAW G 7 RX12 cX12_solves 6 C 89 [(0, .ref (zad G 69)), (2, .int x2), (3, .int x3)] [] σ) (x3 : Int32) (σ : zSt) (h : F_X12_solves_89 x2 w89 x3 σ = some (r, τ)) : zAW G 7 RX12 cX12_solves 6 C 89 [(0, .ref (zad G 69)), (2, .int x2), (3, .int x3)] [] σ := by
  unfold F_X12_solves_89 at h
  refine z_iload e_X12_solves_89 2 rfl ?_
  refine z_if_lt e_X12_solves_90 h (fun c8 h => ?_) (fun c8 h => ?_)
  · exact z_sub [0] rfl (p_X12_solves_189 hR  σ h)
  · refine z_ic e_X12_solves_93 ?_
    refine z_istore e_X12_solves_95 (by decide) [(4, .int (26 : Int32)), (0, .ref (zad G 69)), (2, .int x2), (3, .int x3)] rfl ?_
    exact z_sub [1, 2, 3, 0] rfl (l_X12_solves_97 hR w89 x2 x3 hw89 zlim (26 : Int32) σ h)
noncomputable def F_X12_solves_89L (x2 : Int32) : ((Int32 × zSt) → Option (Int32 × zSt)) → (Int32 × zSt) → Option (Int32 × zSt) := fun w s => F_X12_solves_89 x2 w s.1 s.2
set_option maxRecDepth 100000 in
theorem l_X12_solves_89 {G : zG} {C : zC} {r : Int32} {τ : zSt} (hR : zR G C (some .int) (some (.int r)) τ) (x2 : Int32) : ∀ (N : Nat) (x3 : Int32) (σ : zSt), zfix (F_X12_solves_89L x2) N (x3, σ) = some (r, τ) → zAW G 7 RX12 cX12_solves 6 C 89 [(0, .ref (zad G 69)), (2, .int x2), (3, .int x3)] [] σ := by
  intro N
  induction N with
  | zero =>
    intro x3 σ h
    exact nomatch (show (none : Option (Int32 × zSt)) = some (r, τ) from h)
  | succ N ih =>
    intro x3 σ h
    exact b_X12_solves_89 hR x2 (zfix (F_X12_solves_89L x2) N) ih x3 σ h
noncomputable def F_X12_solves_80 (σ : zSt) : Option (Int32 × zSt) :=
  bd (F_X12_aims σ) (fun q6 s5 =>
    zfix (F_X12_solves_89L q6) zlim ((255 : Int32), s5))
set_option maxHeartbeats 4000000 in
set_option maxRecDepth 100000 in
theorem p_X12_solves_80 {G : zG} {C : zC} {r : Int32} {τ : zSt} (hR : zR G C (some .int) (some (.int r)) τ)  (σ : zSt) (h : F_X12_solves_80 σ = some (r, τ)) : zAW G 7 RX12 cX12_solves 6 C 80 [(0, .ref (zad G 69))] [] σ := by
  unfold F_X12_solves_80 at h
  refine z_aload e_X12_solves_80 0 rfl ?_
  obtain ⟨q6, s5, e7, h⟩ := bd_e h
  refine z_callVi (c0 := 69) (As := []) (rest := []) lk_X12_354 ob_69 e_X12_solves_81 (m_X12_aims G σ _ _ e7) (by decide) rfl (Nat.le_of_ble_eq_true rfl) ?_
  refine z_istore e_X12_solves_84 (by decide) [(2, .int q6), (0, .ref (zad G 69))] rfl ?_
  refine z_ic e_X12_solves_85 ?_
  refine z_istore e_X12_solves_88 (by decide) [(3, .int (255 : Int32)), (2, .int q6), (0, .ref (zad G 69))] rfl ?_
  exact z_sub [2, 1, 0] rfl (l_X12_solves_89 hR q6 zlim (255 : Int32) s5 h)
noncomputable def F_X12_solves_55 (w55 : (Int32 × zSt) → Option (Int32 × zSt)) (x2 : Int32) (σ : zSt) : Option (Int32 × zSt) :=
  if (3 : Int32) ≤ x2 then (
    F_X12_solves_80  σ)
  else (
    bd (F_X12_keysAt ((8 : Int32) + x2) σ) (fun q29 s28 =>
      gd (vp_in x2 3) (nm (zwr s28 94 x2.toNatClampNeg q29) (fun s31 =>
        nm (x2 + (1 : Int32)) (fun v32 =>
          w55 (v32, s31))))))
set_option maxHeartbeats 4000000 in
set_option maxRecDepth 100000 in
theorem b_X12_solves_55 {G : zG} {C : zC} {r : Int32} {τ : zSt} (hR : zR G C (some .int) (some (.int r)) τ) (w55 : (Int32 × zSt) → Option (Int32 × zSt)) (hw55 : ∀ (x2 : Int32) (σ : zSt), w55 (x2, σ) = some (r, τ) → zAW G 7 RX12 cX12_solves 6 C 55 [(0, .ref (zad G 69)), (2, .int x2)] [] σ) (x2 : Int32) (σ : zSt) (h : F_X12_solves_55 w55 x2 σ = some (r, τ)) : zAW G 7 RX12 cX12_solves 6 C 55 [(0, .ref (zad G 69)), (2, .int x2)] [] σ := by
  unfold F_X12_solves_55 at h
  refine z_iload e_X12_solves_55 1 rfl ?_
  refine z_ic e_X12_solves_56 ?_
  refine z_icmp_ge e_X12_solves_57 h (fun c4 h => ?_) (fun c4 h => ?_)
  · exact z_sub [0] rfl (p_X12_solves_80 hR  σ h)
  · refine z_aload e_X12_solves_60 0 rfl ?_
    refine z_getr gf_X12_83_69 e_X12_solves_61 ?_
    refine z_iload e_X12_solves_64 1 rfl ?_
    refine z_aload e_X12_solves_65 0 rfl ?_
    refine z_ic e_X12_solves_66 ?_
    refine z_iload e_X12_solves_68 1 rfl ?_
    refine z_iadd e_X12_solves_69 ?_
    obtain ⟨q29, s28, e30, h⟩ := bd_e h
    refine z_callVi (c0 := 69) (As := [.int ((8 : Int32) + x2)]) (rest := [.int x2, .ref (zad G 94)]) lk_X12_180 ob_69 e_X12_solves_70 (m_X12_keysAt G ((8 : Int32) + x2) σ _ _ e30) (by decide) rfl (Nat.le_of_ble_eq_true rfl) ?_
    refine z_iast sh_94 e_X12_solves_73 h (fun s31 h => ?_)
    refine z_iinc e_X12_solves_74 1 rfl (by decide) (by decide) h (fun y => [(2, .int y), (0, .ref (zad G 69))]) (fun _ => rfl) (fun v32 h => ?_)
    refine z_goto e_X12_solves_77 ?_
    exact z_sub [1, 0] rfl (hw55 v32 s31 h)
noncomputable def F_X12_solves_55L  : ((Int32 × zSt) → Option (Int32 × zSt)) → (Int32 × zSt) → Option (Int32 × zSt) := fun w s => F_X12_solves_55 w s.1 s.2
set_option maxRecDepth 100000 in
theorem l_X12_solves_55 {G : zG} {C : zC} {r : Int32} {τ : zSt} (hR : zR G C (some .int) (some (.int r)) τ)  : ∀ (N : Nat) (x2 : Int32) (σ : zSt), zfix (F_X12_solves_55L ) N (x2, σ) = some (r, τ) → zAW G 7 RX12 cX12_solves 6 C 55 [(0, .ref (zad G 69)), (2, .int x2)] [] σ := by
  intro N
  induction N with
  | zero =>
    intro x2 σ h
    exact nomatch (show (none : Option (Int32 × zSt)) = some (r, τ) from h)
  | succ N ih =>
    intro x2 σ h
    exact b_X12_solves_55 hR (zfix (F_X12_solves_55L ) N) ih x2 σ h
noncomputable def F_X12_solves_53 (σ : zSt) : Option (Int32 × zSt) :=
  zfix (F_X12_solves_55L ) zlim ((0 : Int32), σ)
set_option maxHeartbeats 4000000 in
set_option maxRecDepth 100000 in
theorem p_X12_solves_53 {G : zG} {C : zC} {r : Int32} {τ : zSt} (hR : zR G C (some .int) (some (.int r)) τ)  (σ : zSt) (h : F_X12_solves_53 σ = some (r, τ)) : zAW G 7 RX12 cX12_solves 6 C 53 [(0, .ref (zad G 69))] [] σ := by
  unfold F_X12_solves_53 at h
  refine z_ic e_X12_solves_53 ?_
  refine z_istore e_X12_solves_54 (by decide) [(2, .int (0 : Int32)), (0, .ref (zad G 69))] rfl ?_
  exact z_sub [1, 0] rfl (l_X12_solves_55 hR  zlim (0 : Int32) σ h)
noncomputable def F_X12_solves_46 (w7 : (Int32 × zSt) → Option (Int32 × zSt)) (x2 : Int32) (t0 : Int32) (t1 : Int32) (σ : zSt) : Option (Int32 × zSt) :=
  gd (vp_in t1 8) (nm (zwr σ 95 t1.toNatClampNeg t0) (fun s41 =>
    nm (x2 + (1 : Int32)) (fun v42 =>
      w7 (v42, s41))))
set_option maxHeartbeats 4000000 in
set_option maxRecDepth 100000 in
theorem p_X12_solves_46 {G : zG} {C : zC} {r : Int32} {τ : zSt} (hR : zR G C (some .int) (some (.int r)) τ) (w7 : (Int32 × zSt) → Option (Int32 × zSt)) (x2 : Int32) (t0 : Int32) (t1 : Int32) (hw7 : ∀ (x2 : Int32) (σ : zSt), w7 (x2, σ) = some (r, τ) → zAW G 7 RX12 cX12_solves 6 C 7 [(0, .ref (zad G 69)), (2, .int x2)] [] σ) (σ : zSt) (h : F_X12_solves_46 w7 x2 t0 t1 σ = some (r, τ)) : zAW G 7 RX12 cX12_solves 6 C 46 [(0, .ref (zad G 69)), (2, .int x2)] [.int t0, .int t1, .ref (zad G 95)] σ := by
  unfold F_X12_solves_46 at h
  refine z_iast sh_95 e_X12_solves_46 h (fun s41 h => ?_)
  refine z_iinc e_X12_solves_47 1 rfl (by decide) (by decide) h (fun y => [(2, .int y), (0, .ref (zad G 69))]) (fun _ => rfl) (fun v42 h => ?_)
  refine z_goto e_X12_solves_50 ?_
  exact z_sub [1, 0] rfl (hw7 v42 s41 h)
noncomputable def F_X12_solves_7 (w7 : (Int32 × zSt) → Option (Int32 × zSt)) (x2 : Int32) (σ : zSt) : Option (Int32 × zSt) :=
  if (8 : Int32) ≤ x2 then (
    F_X12_solves_53  σ)
  else (
    bd (F_X12_keysAt x2 σ) (fun q34 s33 =>
      gd (vp_in x2 8) (nm (zwr s33 93 x2.toNatClampNeg q34) (fun s36 =>
        bd (F_X12_isPlace x2 s36) (fun q38 s37 =>
          if q38 = 0 then (
            F_X12_solves_46 w7 x2 (-1 : Int32) x2 s37)
          else (
            bd (F_X12_islandBy x2 s37) (fun q44 s43 =>
              F_X12_solves_46 w7 x2 q44 x2 s43)))))))
set_option maxHeartbeats 4000000 in
set_option maxRecDepth 100000 in
theorem b_X12_solves_7 {G : zG} {C : zC} {r : Int32} {τ : zSt} (hR : zR G C (some .int) (some (.int r)) τ) (w7 : (Int32 × zSt) → Option (Int32 × zSt)) (hw7 : ∀ (x2 : Int32) (σ : zSt), w7 (x2, σ) = some (r, τ) → zAW G 7 RX12 cX12_solves 6 C 7 [(0, .ref (zad G 69)), (2, .int x2)] [] σ) (x2 : Int32) (σ : zSt) (h : F_X12_solves_7 w7 x2 σ = some (r, τ)) : zAW G 7 RX12 cX12_solves 6 C 7 [(0, .ref (zad G 69)), (2, .int x2)] [] σ := by
  unfold F_X12_solves_7 at h
  refine z_iload e_X12_solves_7 1 rfl ?_
  refine z_ic e_X12_solves_8 ?_
  refine z_icmp_ge e_X12_solves_10 h (fun c3 h => ?_) (fun c3 h => ?_)
  · exact z_sub [0] rfl (p_X12_solves_53 hR  σ h)
  · refine z_aload e_X12_solves_13 0 rfl ?_
    refine z_getr gf_X12_80_69 e_X12_solves_14 ?_
    refine z_iload e_X12_solves_17 1 rfl ?_
    refine z_aload e_X12_solves_18 0 rfl ?_
    refine z_iload e_X12_solves_19 1 rfl ?_
    obtain ⟨q34, s33, e35, h⟩ := bd_e h
    refine z_callVi (c0 := 69) (As := [.int x2]) (rest := [.int x2, .ref (zad G 93)]) lk_X12_180 ob_69 e_X12_solves_20 (m_X12_keysAt G x2 σ _ _ e35) (by decide) rfl (Nat.le_of_ble_eq_true rfl) ?_
    refine z_iast sh_93 e_X12_solves_23 h (fun s36 h => ?_)
    refine z_aload e_X12_solves_24 0 rfl ?_
    refine z_getr gf_X12_86_69 e_X12_solves_25 ?_
    refine z_iload e_X12_solves_28 1 rfl ?_
    refine z_aload e_X12_solves_29 0 rfl ?_
    refine z_iload e_X12_solves_30 1 rfl ?_
    obtain ⟨q38, s37, e39, h⟩ := bd_e h
    refine z_callVi (c0 := 69) (As := [.int x2]) (rest := [.int x2, .ref (zad G 95)]) lk_X12_167 ob_69 e_X12_solves_31 (m_X12_isPlace G x2 s36 _ _ e39) (by decide) rfl (Nat.le_of_ble_eq_true rfl) ?_
    refine z_if_eq e_X12_solves_34 h (fun c40 h => ?_) (fun c40 h => ?_)
    · refine z_ic e_X12_solves_45 ?_
      exact z_sub [0, 1] rfl (p_X12_solves_46 hR w7 x2 (-1 : Int32) x2 hw7 s37 h)
    · refine z_aload e_X12_solves_37 0 rfl ?_
      refine z_iload e_X12_solves_38 1 rfl ?_
      obtain ⟨q44, s43, e45, h⟩ := bd_e h
      refine z_callVi (c0 := 69) (As := [.int x2]) (rest := [.int x2, .ref (zad G 95)]) lk_X12_176 ob_69 e_X12_solves_39 (m_X12_islandBy G x2 s37 _ _ e45) (by decide) rfl (Nat.le_of_ble_eq_true rfl) ?_
      refine z_goto e_X12_solves_42 ?_
      exact z_sub [0, 1] rfl (p_X12_solves_46 hR w7 x2 q44 x2 hw7 s43 h)
noncomputable def F_X12_solves_7L  : ((Int32 × zSt) → Option (Int32 × zSt)) → (Int32 × zSt) → Option (Int32 × zSt) := fun w s => F_X12_solves_7 w s.1 s.2
set_option maxRecDepth 100000 in
theorem l_X12_solves_7 {G : zG} {C : zC} {r : Int32} {τ : zSt} (hR : zR G C (some .int) (some (.int r)) τ)  : ∀ (N : Nat) (x2 : Int32) (σ : zSt), zfix (F_X12_solves_7L ) N (x2, σ) = some (r, τ) → zAW G 7 RX12 cX12_solves 6 C 7 [(0, .ref (zad G 69)), (2, .int x2)] [] σ := by
  intro N
  induction N with
  | zero =>
    intro x2 σ h
    exact nomatch (show (none : Option (Int32 × zSt)) = some (r, τ) from h)
  | succ N ih =>
    intro x2 σ h
    exact b_X12_solves_7 hR (zfix (F_X12_solves_7L ) N) ih x2 σ h
noncomputable def F_X12_solves_0 (x1 : Int32) (σ : zSt) : Option (Int32 × zSt) :=
  gd (x1 = 0 ∨ x1 = 1) (nm (zwr σ 69 49 x1) (fun s1 =>
    zfix (F_X12_solves_7L ) zlim ((0 : Int32), s1)))
set_option maxHeartbeats 4000000 in
set_option maxRecDepth 100000 in
theorem p_X12_solves_0 {G : zG} {C : zC} {r : Int32} {τ : zSt} (hR : zR G C (some .int) (some (.int r)) τ) (x1 : Int32) (σ : zSt) (h : F_X12_solves_0 x1 σ = some (r, τ)) : zAW G 7 RX12 cX12_solves 6 C 0 [(0, .ref (zad G 69)), (1, .int x1)] [] σ := by
  unfold F_X12_solves_0 at h
  refine z_aload e_X12_solves_0 0 rfl ?_
  refine z_iload e_X12_solves_1 1 rfl ?_
  obtain ⟨hb2, h⟩ := gd_e h
  refine z_putb pf_X12_378_69 e_X12_solves_2 hb2 h (fun s1 h => ?_)
  refine z_ic e_X12_solves_5 ?_
  refine z_istore e_X12_solves_6 (by decide) [(2, .int (0 : Int32)), (0, .ref (zad G 69)), (1, .int x1)] rfl ?_
  exact z_sub [1, 0] rfl (l_X12_solves_7 hR  zlim (0 : Int32) s1 h)
noncomputable def F_X12_solves (x1 : Int32) (σ : zSt) : Option (Int32 × zSt) := F_X12_solves_0 x1 σ
set_option maxRecDepth 100000 in
theorem m_X12_solves (G : zG) (x1 : Int32) (σ : zSt) (q : Int32) (τ : zSt) (h : F_X12_solves x1 σ = some (q, τ)) : zM G 7 yX12_solves cX12_solves 6 (some .int) [.ref (zad G 69), .int x1] σ (some (.int q)) τ := by
  unfold F_X12_solves at h
  refine zM.of (own := RX12) (by decide +kernel) rfl (Nat.le_of_ble_eq_true rfl) (fun C hR => ?_)
  exact z_sub [0, 1] rfl (p_X12_solves_0 hR x1 σ h)
noncomputable def F_X12_soonest_0 (x1 : Int32) (σ : zSt) : Option (Int32 × zSt) :=
  bd (F_X12_in x1 (0 : Int32) (1 : Int32) σ) (fun q2 s1 =>
    if q2 = 0 then (
      some ((-1 : Int32), s1))
    else (
      bd (F_X12_isPlace (s1.1 69 2) s1) (fun q6 s5 =>
        if q6 = 0 then (
          some ((-1 : Int32), s5))
        else (
          bd (F_X12_solves (1 : Int32) s5) (fun q10 s9 =>
            if q10 = (1000000000 : Int32) then (
              some ((-2 : Int32), s9))
            else (
              if x1 = 0 then (
                some ((q10 / (1024 : Int32)), s9))
              else (
                some ((q10 % (1024 : Int32)), s9))))))))
set_option maxHeartbeats 4000000 in
set_option maxRecDepth 100000 in
theorem p_X12_soonest_0 {G : zG} {C : zC} {r : Int32} {τ : zSt} (hR : zR G C (some .int) (some (.int r)) τ) (x1 : Int32) (σ : zSt) (h : F_X12_soonest_0 x1 σ = some (r, τ)) : zAW G 8 RX12 cX12_soonest 3 C 0 [(0, .ref (zad G 69)), (1, .int x1)] [] σ := by
  unfold F_X12_soonest_0 at h
  refine z_iload e_X12_soonest_0 1 rfl ?_
  refine z_ic e_X12_soonest_1 ?_
  refine z_ic e_X12_soonest_2 ?_
  obtain ⟨q2, s1, e3, h⟩ := bd_e h
  refine z_callSi (As := [.int x1, .int (0 : Int32), .int (1 : Int32)]) (rest := []) lk_X12_163 e_X12_soonest_3 (m_X12_in G x1 (0 : Int32) (1 : Int32) σ _ _ e3) (by decide) rfl (Nat.le_of_ble_eq_true rfl) ?_
  refine z_if_eq e_X12_soonest_6 h (fun c4 h => ?_) (fun c4 h => ?_)
  · refine z_ic e_X12_soonest_20 ?_
    cases h
    exact z_ireturn hR e_X12_soonest_21
  · refine z_aload e_X12_soonest_9 0 rfl ?_
    refine z_aload e_X12_soonest_10 0 rfl ?_
    refine z_geti gf_X12_173_69 e_X12_soonest_11 ?_
    obtain ⟨q6, s5, e7, h⟩ := bd_e h
    refine z_callVi (c0 := 69) (As := [.int (s1.1 69 2)]) (rest := []) lk_X12_167 ob_69 e_X12_soonest_14 (m_X12_isPlace G (s1.1 69 2) s1 _ _ e7) (by decide) rfl (Nat.le_of_ble_eq_true rfl) ?_
    refine z_if_ne e_X12_soonest_17 h (fun c8 h => ?_) (fun c8 h => ?_)
    · refine z_ic e_X12_soonest_20 ?_
      cases h
      exact z_ireturn hR e_X12_soonest_21
    · refine z_aload e_X12_soonest_22 0 rfl ?_
      refine z_ic e_X12_soonest_23 ?_
      obtain ⟨q10, s9, e11, h⟩ := bd_e h
      refine z_callVi (c0 := 69) (As := [.int (1 : Int32)]) (rest := []) lk_X12_403 ob_69 e_X12_soonest_24 (m_X12_solves G (1 : Int32) s5 _ _ e11) (by decide) rfl (Nat.le_of_ble_eq_true rfl) ?_
      refine z_istore e_X12_soonest_27 (by decide) [(2, .int q10), (0, .ref (zad G 69)), (1, .int x1)] rfl ?_
      refine z_iload e_X12_soonest_28 0 rfl ?_
      refine z_ldcw cs_X12_382 e_X12_soonest_29 ?_
      refine z_icmp_ne e_X12_soonest_32 h (fun c12 h => ?_) (fun c12 h => ?_)
      · refine z_ic e_X12_soonest_35 ?_
        refine z_goto e_X12_soonest_37 ?_
        cases h
        exact z_ireturn hR e_X12_soonest_57
      · refine z_iload e_X12_soonest_40 2 rfl ?_
        refine z_if_ne e_X12_soonest_41 h (fun c13 h => ?_) (fun c13 h => ?_)
        · refine z_iload e_X12_soonest_44 0 rfl ?_
          refine z_ic e_X12_soonest_45 ?_
          refine z_idiv e_X12_soonest_48 (by decide) ?_
          refine z_goto e_X12_soonest_49 ?_
          cases h
          exact z_ireturn hR e_X12_soonest_57
        · refine z_iload e_X12_soonest_52 0 rfl ?_
          refine z_ic e_X12_soonest_53 ?_
          refine z_irem e_X12_soonest_56 (by decide) ?_
          cases h
          exact z_ireturn hR e_X12_soonest_57
noncomputable def F_X12_soonest (x1 : Int32) (σ : zSt) : Option (Int32 × zSt) := F_X12_soonest_0 x1 σ
set_option maxRecDepth 100000 in
theorem m_X12_soonest (G : zG) (x1 : Int32) (σ : zSt) (q : Int32) (τ : zSt) (h : F_X12_soonest x1 σ = some (q, τ)) : zM G 8 yX12_soonest cX12_soonest 3 (some .int) [.ref (zad G 69), .int x1] σ (some (.int q)) τ := by
  unfold F_X12_soonest at h
  refine zM.of (own := RX12) (by decide +kernel) rfl (Nat.le_of_ble_eq_true rfl) (fun C hR => ?_)
  exact z_sub [0, 1] rfl (p_X12_soonest_0 hR x1 σ h)
noncomputable def F_X4_follow_235 (rc : (Int32 → Int32 → zSt → Option (Int32 × zSt))) (x1 : Int32) (x2 : Int32) (σ : zSt) : Option (Int32 × zSt) :=
  gd (vp_in x1 27648) (nm (zwr σ 48 x1.toNatClampNeg (134217728 : Int32)) (fun s13 =>
    gd (vp_in x2 40) (nm (zwr s13 51 x2.toNatClampNeg (-1 : Int32)) (fun s14 =>
      some ((0 : Int32), s14)))))
set_option maxHeartbeats 4000000 in
set_option maxRecDepth 100000 in
theorem p_X4_follow_235 {G : zG} {C : zC} {r : Int32} {τ : zSt} (hR : zR G C (some .boolean) (some (.int r)) τ) (n : Nat) (rc : (Int32 → Int32 → zSt → Option (Int32 × zSt))) (x1 : Int32) (x2 : Int32) (hrc : (∀ (a0 : Int32) (a1 : Int32) (σ : zSt) (q : Int32) (τ : zSt), rc a0 a1 σ = some (q, τ) → zM G (5 + n) yX4_follow cX4_follow 9 (some .boolean) [.ref (zad G 47), .int a0, .int a1] σ (some (.int q)) τ)) (σ : zSt) (h : F_X4_follow_235 rc x1 x2 σ = some (r, τ)) : zAW G (5 + (n + 1)) RX4 cX4_follow 9 C 235 [(0, .ref (zad G 47)), (1, .int x1), (2, .int x2)] [] σ := by
  unfold F_X4_follow_235 at h
  refine z_aload e_X4_follow_235 0 rfl ?_
  refine z_getr gf_X4_13_47 e_X4_follow_236 ?_
  refine z_iload e_X4_follow_239 1 rfl ?_
  refine z_ldc cs_X4_57 e_X4_follow_240 ?_
  refine z_iast sh_48 e_X4_follow_242 h (fun s13 h => ?_)
  refine z_aload e_X4_follow_243 0 rfl ?_
  refine z_getr gf_X4_23_47 e_X4_follow_244 ?_
  refine z_iload e_X4_follow_247 2 rfl ?_
  refine z_ic e_X4_follow_248 ?_
  refine z_iast sh_51 e_X4_follow_249 h (fun s14 h => ?_)
  refine z_ic e_X4_follow_250 ?_
  cases h
  exact z_zreturn hR e_X4_follow_251 (Or.inl rfl)
noncomputable def F_X4_follow_229 (rc : (Int32 → Int32 → zSt → Option (Int32 × zSt))) (w68 : (Int32 × zSt) → Option (Int32 × zSt)) (x1 : Int32) (x2 : Int32) (x3 : Int32) (x4 : Int32) (σ : zSt) : Option (Int32 × zSt) :=
  nm (x4 + (1 : Int32)) (fun v19 =>
    w68 (v19, σ))
set_option maxHeartbeats 4000000 in
set_option maxRecDepth 100000 in
theorem p_X4_follow_229 {G : zG} {C : zC} {r : Int32} {τ : zSt} (hR : zR G C (some .boolean) (some (.int r)) τ) (n : Nat) (rc : (Int32 → Int32 → zSt → Option (Int32 × zSt))) (w68 : (Int32 × zSt) → Option (Int32 × zSt)) (x1 : Int32) (x2 : Int32) (x3 : Int32) (x4 : Int32) (hw68 : ∀ (x4 : Int32) (σ : zSt), w68 (x4, σ) = some (r, τ) → zAW G (5 + (n + 1)) RX4 cX4_follow 9 C 68 [(0, .ref (zad G 47)), (1, .int x1), (2, .int x2), (3, .int x3), (4, .int x4)] [] σ) (hrc : (∀ (a0 : Int32) (a1 : Int32) (σ : zSt) (q : Int32) (τ : zSt), rc a0 a1 σ = some (q, τ) → zM G (5 + n) yX4_follow cX4_follow 9 (some .boolean) [.ref (zad G 47), .int a0, .int a1] σ (some (.int q)) τ)) (σ : zSt) (h : F_X4_follow_229 rc w68 x1 x2 x3 x4 σ = some (r, τ)) : zAW G (5 + (n + 1)) RX4 cX4_follow 9 C 229 [(0, .ref (zad G 47)), (1, .int x1), (2, .int x2), (3, .int x3), (4, .int x4)] [] σ := by
  unfold F_X4_follow_229 at h
  refine z_iinc e_X4_follow_229 4 rfl (by decide) (by decide) h (fun y => [(4, .int y), (0, .ref (zad G 47)), (1, .int x1), (2, .int x2), (3, .int x3)]) (fun _ => rfl) (fun v19 h => ?_)
  refine z_goto e_X4_follow_232 ?_
  exact z_sub [1, 2, 3, 4, 0] rfl (hw68 v19 σ h)
noncomputable def F_X4_follow_223 (rc : (Int32 → Int32 → zSt → Option (Int32 × zSt))) (w68 : (Int32 × zSt) → Option (Int32 × zSt)) (w86 : (Int32 × zSt) → Option (Int32 × zSt)) (x1 : Int32) (x2 : Int32) (x3 : Int32) (x4 : Int32) (x5 : Int32) (x6 : Int32) (σ : zSt) : Option (Int32 × zSt) :=
  nm (x6 + (1 : Int32)) (fun v33 =>
    w86 (v33, σ))
set_option maxHeartbeats 4000000 in
set_option maxRecDepth 100000 in
theorem p_X4_follow_223 {G : zG} {C : zC} {r : Int32} {τ : zSt} (hR : zR G C (some .boolean) (some (.int r)) τ) (n : Nat) (rc : (Int32 → Int32 → zSt → Option (Int32 × zSt))) (w68 : (Int32 × zSt) → Option (Int32 × zSt)) (w86 : (Int32 × zSt) → Option (Int32 × zSt)) (x1 : Int32) (x2 : Int32) (x3 : Int32) (x4 : Int32) (x5 : Int32) (x6 : Int32) (hw68 : ∀ (x4 : Int32) (σ : zSt), w68 (x4, σ) = some (r, τ) → zAW G (5 + (n + 1)) RX4 cX4_follow 9 C 68 [(0, .ref (zad G 47)), (1, .int x1), (2, .int x2), (3, .int x3), (4, .int x4)] [] σ) (hw86 : ∀ (x6 : Int32) (σ : zSt), w86 (x6, σ) = some (r, τ) → zAW G (5 + (n + 1)) RX4 cX4_follow 9 C 86 [(0, .ref (zad G 47)), (1, .int x1), (2, .int x2), (3, .int x3), (4, .int x4), (5, .int x5), (6, .int x6)] [] σ) (hrc : (∀ (a0 : Int32) (a1 : Int32) (σ : zSt) (q : Int32) (τ : zSt), rc a0 a1 σ = some (q, τ) → zM G (5 + n) yX4_follow cX4_follow 9 (some .boolean) [.ref (zad G 47), .int a0, .int a1] σ (some (.int q)) τ)) (σ : zSt) (h : F_X4_follow_223 rc w68 w86 x1 x2 x3 x4 x5 x6 σ = some (r, τ)) : zAW G (5 + (n + 1)) RX4 cX4_follow 9 C 223 [(0, .ref (zad G 47)), (1, .int x1), (2, .int x2), (3, .int x3), (4, .int x4), (5, .int x5), (6, .int x6)] [] σ := by
  unfold F_X4_follow_223 at h
  refine z_iinc e_X4_follow_223 6 rfl (by decide) (by decide) h (fun y => [(6, .int y), (0, .ref (zad G 47)), (1, .int x1), (2, .int x2), (3, .int x3), (4, .int x4), (5, .int x5)]) (fun _ => rfl) (fun v33 h => ?_)
  refine z_goto e_X4_follow_226 ?_
  exact z_sub [1, 2, 3, 4, 5, 6, 0] rfl (hw86 v33 σ h)
noncomputable def F_X4_follow_127 (rc : (Int32 → Int32 → zSt → Option (Int32 × zSt))) (w68 : (Int32 × zSt) → Option (Int32 × zSt)) (w86 : (Int32 × zSt) → Option (Int32 × zSt)) (x1 : Int32) (x2 : Int32) (x3 : Int32) (x4 : Int32) (x5 : Int32) (x6 : Int32) (t0 : Int32) (σ : zSt) : Option (Int32 × zSt) :=
  bd (F_X5_daysOf x4 x6 σ) (fun q26 s25 =>
    bd (F_X4_price x4 q26 s25) (fun q29 s28 =>
      nm (x3 + q29) (fun v31 =>
        if t0 < 0 then (
          F_X4_follow_223 rc w68 w86 x1 x2 x3 x4 x5 x6 s28)
        else (
          if (27648 : Int32) ≤ t0 then (
            F_X4_follow_223 rc w68 w86 x1 x2 x3 x4 x5 x6 s28)
          else (
            if (s28.1 47 8) < v31 then (
              F_X4_follow_223 rc w68 w86 x1 x2 x3 x4 x5 x6 s28)
            else (
              gd (vp_in t0 27648) (
                if (s28.1 48 t0.toNatClampNeg) = v31 then (
                  gd (vp_in x2 40) (nm (zwr s28 51 x2.toNatClampNeg (((10 : Int32) * x4) + x6)) (fun s37 =>
                    bd (rc t0 (x2 + (1 : Int32)) s37) (fun q39 s38 =>
                      if q39 = 0 then (
                        bd (F_X5_stand x1 s38) (fun _ s42 =>
                          F_X4_follow_223 rc w68 w86 x1 x2 x3 x4 x5 x6 s42))
                      else (
                        some ((1 : Int32), s38))))))
                else (
                  F_X4_follow_223 rc w68 w86 x1 x2 x3 x4 x5 x6 s28))))))))
set_option maxHeartbeats 4000000 in
set_option maxRecDepth 100000 in
theorem p_X4_follow_127 {G : zG} {C : zC} {r : Int32} {τ : zSt} (hR : zR G C (some .boolean) (some (.int r)) τ) (n : Nat) (rc : (Int32 → Int32 → zSt → Option (Int32 × zSt))) (w68 : (Int32 × zSt) → Option (Int32 × zSt)) (w86 : (Int32 × zSt) → Option (Int32 × zSt)) (x1 : Int32) (x2 : Int32) (x3 : Int32) (x4 : Int32) (x5 : Int32) (x6 : Int32) (t0 : Int32) (hw68 : ∀ (x4 : Int32) (σ : zSt), w68 (x4, σ) = some (r, τ) → zAW G (5 + (n + 1)) RX4 cX4_follow 9 C 68 [(0, .ref (zad G 47)), (1, .int x1), (2, .int x2), (3, .int x3), (4, .int x4)] [] σ) (hw86 : ∀ (x6 : Int32) (σ : zSt), w86 (x6, σ) = some (r, τ) → zAW G (5 + (n + 1)) RX4 cX4_follow 9 C 86 [(0, .ref (zad G 47)), (1, .int x1), (2, .int x2), (3, .int x3), (4, .int x4), (5, .int x5), (6, .int x6)] [] σ) (hrc : (∀ (a0 : Int32) (a1 : Int32) (σ : zSt) (q : Int32) (τ : zSt), rc a0 a1 σ = some (q, τ) → zM G (5 + n) yX4_follow cX4_follow 9 (some .boolean) [.ref (zad G 47), .int a0, .int a1] σ (some (.int q)) τ)) (σ : zSt) (h : F_X4_follow_127 rc w68 w86 x1 x2 x3 x4 x5 x6 t0 σ = some (r, τ)) : zAW G (5 + (n + 1)) RX4 cX4_follow 9 C 127 [(0, .ref (zad G 47)), (1, .int x1), (2, .int x2), (3, .int x3), (4, .int x4), (5, .int x5), (6, .int x6)] [.int t0] σ := by
  unfold F_X4_follow_127 at h
  refine z_istore e_X4_follow_127 (by decide) [(7, .int t0), (0, .ref (zad G 47)), (1, .int x1), (2, .int x2), (3, .int x3), (4, .int x4), (5, .int x5), (6, .int x6)] rfl ?_
  refine z_iload e_X4_follow_129 4 rfl ?_
  refine z_aload e_X4_follow_130 1 rfl ?_
  refine z_iload e_X4_follow_131 5 rfl ?_
  refine z_aload e_X4_follow_133 1 rfl ?_
  refine z_getr gf_X4_41_47 e_X4_follow_134 ?_
  refine z_iload e_X4_follow_137 5 rfl ?_
  refine z_iload e_X4_follow_139 7 rfl ?_
  obtain ⟨q26, s25, e27, h⟩ := bd_e h
  refine z_callVi (c0 := 17) (As := [.int x4, .int x6]) (rest := [.int x4, .ref (zad G 47), .int x3]) lk_X4_137 ob_17 e_X4_follow_141 (m_X5_daysOf G x4 x6 σ _ _ e27) (by omega) rfl (Nat.le_of_ble_eq_true rfl) ?_
  obtain ⟨q29, s28, e30, h⟩ := bd_e h
  refine z_callVi (c0 := 47) (As := [.int x4, .int q26]) (rest := [.int x3]) lk_X4_95 ob_47 e_X4_follow_144 (m_X4_price G x4 q26 s25 _ _ e30) (by omega) rfl (Nat.le_of_ble_eq_true rfl) ?_
  refine z_iadd e_X4_follow_147 ?_
  refine z_nmI h (fun v31 h => ?_)
  refine z_istore e_X4_follow_148 (by decide) [(8, .int v31), (7, .int t0), (0, .ref (zad G 47)), (1, .int x1), (2, .int x2), (3, .int x3), (4, .int x4), (5, .int x5), (6, .int x6)] rfl ?_
  refine z_iload e_X4_follow_150 1 rfl ?_
  refine z_if_lt e_X4_follow_152 h (fun c32 h => ?_) (fun c32 h => ?_)
  · exact z_sub [2, 3, 4, 5, 6, 7, 8] rfl (p_X4_follow_223 hR n rc w68 w86 x1 x2 x3 x4 x5 x6 hw68 hw86 hrc s28 h)
  · refine z_iload e_X4_follow_155 1 rfl ?_
    refine z_ic e_X4_follow_157 ?_
    refine z_icmp_ge e_X4_follow_160 h (fun c34 h => ?_) (fun c34 h => ?_)
    · exact z_sub [2, 3, 4, 5, 6, 7, 8] rfl (p_X4_follow_223 hR n rc w68 w86 x1 x2 x3 x4 x5 x6 hw68 hw86 hrc s28 h)
    · refine z_iload e_X4_follow_163 0 rfl ?_
      refine z_aload e_X4_follow_165 2 rfl ?_
      refine z_geti gf_X4_45_47 e_X4_follow_166 ?_
      refine z_icmp_gt e_X4_follow_169 h (fun c35 h => ?_) (fun c35 h => ?_)
      · exact z_sub [2, 3, 4, 5, 6, 7, 8] rfl (p_X4_follow_223 hR n rc w68 w86 x1 x2 x3 x4 x5 x6 hw68 hw86 hrc s28 h)
      · refine z_aload e_X4_follow_172 2 rfl ?_
        refine z_getr gf_X4_13_47 e_X4_follow_173 ?_
        refine z_iload e_X4_follow_176 1 rfl ?_
        refine z_iald sh_48 e_X4_follow_178 h (fun h => ?_)
        refine z_iload e_X4_follow_179 0 rfl ?_
        refine z_icmp_eq e_X4_follow_181 h (fun c36 h => ?_) (fun c36 h => ?_)
        · refine z_aload e_X4_follow_187 2 rfl ?_
          refine z_getr gf_X4_23_47 e_X4_follow_188 ?_
          refine z_iload e_X4_follow_191 4 rfl ?_
          refine z_ic e_X4_follow_192 ?_
          refine z_iload e_X4_follow_194 6 rfl ?_
          refine z_imul e_X4_follow_196 ?_
          refine z_iload e_X4_follow_197 8 rfl ?_
          refine z_iadd e_X4_follow_199 ?_
          refine z_iast sh_51 e_X4_follow_200 h (fun s37 h => ?_)
          refine z_aload e_X4_follow_201 2 rfl ?_
          refine z_iload e_X4_follow_202 1 rfl ?_
          refine z_iload e_X4_follow_204 4 rfl ?_
          refine z_ic e_X4_follow_205 ?_
          refine z_iadd e_X4_follow_206 ?_
          obtain ⟨q39, s38, e40, h⟩ := bd_e h
          refine z_callVi (c0 := 47) (As := [.int t0, .int (x2 + (1 : Int32))]) (rest := []) lk_X4_128 ob_47 e_X4_follow_207 (hrc t0 (x2 + (1 : Int32)) s37 _ _ e40) (by omega) rfl (Nat.le_of_ble_eq_true rfl) ?_
          refine z_if_eq e_X4_follow_210 h (fun c41 h => ?_) (fun c41 h => ?_)
          · refine z_aload e_X4_follow_215 2 rfl ?_
            refine z_getr gf_X4_41_47 e_X4_follow_216 ?_
            refine z_iload e_X4_follow_219 3 rfl ?_
            obtain ⟨q43, s42, e44, h⟩ := bd_e h
            refine z_callVv (c0 := 17) (As := [.int x1]) (rest := []) lk_X4_131 ob_17 e_X4_follow_220 (m_X5_stand G x1 s38 _ _ e44) (by omega) rfl (Nat.le_of_ble_eq_true rfl) ?_
            exact z_sub [2, 3, 4, 5, 6, 7, 8] rfl (p_X4_follow_223 hR n rc w68 w86 x1 x2 x3 x4 x5 x6 hw68 hw86 hrc s42 h)
          · refine z_ic e_X4_follow_213 ?_
            cases h
            exact z_zreturn hR e_X4_follow_214 (Or.inr rfl)
        · refine z_goto e_X4_follow_184 ?_
          exact z_sub [2, 3, 4, 5, 6, 7, 8] rfl (p_X4_follow_223 hR n rc w68 w86 x1 x2 x3 x4 x5 x6 hw68 hw86 hrc s28 h)
noncomputable def F_X4_follow_86 (rc : (Int32 → Int32 → zSt → Option (Int32 × zSt))) (w68 : (Int32 × zSt) → Option (Int32 × zSt)) (x1 : Int32) (x2 : Int32) (x3 : Int32) (x4 : Int32) (x5 : Int32) (w86 : (Int32 × zSt) → Option (Int32 × zSt)) (x6 : Int32) (σ : zSt) : Option (Int32 × zSt) :=
  if (8 : Int32) ≤ x6 then (
    F_X4_follow_229 rc w68 x1 x2 x3 x4 σ)
  else (
    if (x5 >>> (x6 &&& 31)) = 0 then (
      F_X4_follow_229 rc w68 x1 x2 x3 x4 σ)
    else (
      if ((x5 >>> (x6 &&& 31)) &&& (1 : Int32)) = (1 : Int32) then (
        bd (F_X5_after x4 x6 σ) (fun q23 s22 =>
          F_X4_follow_127 rc w68 w86 x1 x2 x3 x4 x5 x6 q23 s22))
      else (
        F_X4_follow_127 rc w68 w86 x1 x2 x3 x4 x5 x6 (-1 : Int32) σ)))
set_option maxHeartbeats 4000000 in
set_option maxRecDepth 100000 in
theorem b_X4_follow_86 {G : zG} {C : zC} {r : Int32} {τ : zSt} (hR : zR G C (some .boolean) (some (.int r)) τ) (n : Nat) (rc : (Int32 → Int32 → zSt → Option (Int32 × zSt))) (w68 : (Int32 × zSt) → Option (Int32 × zSt)) (x1 : Int32) (x2 : Int32) (x3 : Int32) (x4 : Int32) (x5 : Int32) (hw68 : ∀ (x4 : Int32) (σ : zSt), w68 (x4, σ) = some (r, τ) → zAW G (5 + (n + 1)) RX4 cX4_follow 9 C 68 [(0, .ref (zad G 47)), (1, .int x1), (2, .int x2), (3, .int x3), (4, .int x4)] [] σ) (w86 : (Int32 × zSt) → Option (Int32 × zSt)) (hw86 : ∀ (x6 : Int32) (σ : zSt), w86 (x6, σ) = some (r, τ) → zAW G (5 + (n + 1)) RX4 cX4_follow 9 C 86 [(0, .ref (zad G 47)), (1, .int x1), (2, .int x2), (3, .int x3), (4, .int x4), (5, .int x5), (6, .int x6)] [] σ) (hrc : (∀ (a0 : Int32) (a1 : Int32) (σ : zSt) (q : Int32) (τ : zSt), rc a0 a1 σ = some (q, τ) → zM G (5 + n) yX4_follow cX4_follow 9 (some .boolean) [.ref (zad G 47), .int a0, .int a1] σ (some (.int q)) τ)) (x6 : Int32) (σ : zSt) (h : F_X4_follow_86 rc w68 x1 x2 x3 x4 x5 w86 x6 σ = some (r, τ)) : zAW G (5 + (n + 1)) RX4 cX4_follow 9 C 86 [(0, .ref (zad G 47)), (1, .int x1), (2, .int x2), (3, .int x3), (4, .int x4), (5, .int x5), (6, .int x6)] [] σ := by
  unfold F_X4_follow_86 at h
  refine z_iload e_X4_follow_86 6 rfl ?_
  refine z_ic e_X4_follow_88 ?_
  refine z_icmp_ge e_X4_follow_90 h (fun c18 h => ?_) (fun c18 h => ?_)
  · exact z_sub [0, 1, 2, 3, 4] rfl (p_X4_follow_229 hR n rc w68 x1 x2 x3 x4 hw68 hrc σ h)
  · refine z_iload e_X4_follow_93 5 rfl ?_
    refine z_iload e_X4_follow_95 6 rfl ?_
    refine z_ishr e_X4_follow_97 ?_
    refine z_if_eq e_X4_follow_98 h (fun c20 h => ?_) (fun c20 h => ?_)
    · exact z_sub [0, 1, 2, 3, 4] rfl (p_X4_follow_229 hR n rc w68 x1 x2 x3 x4 hw68 hrc σ h)
    · refine z_iload e_X4_follow_101 5 rfl ?_
      refine z_iload e_X4_follow_103 6 rfl ?_
      refine z_ishr e_X4_follow_105 ?_
      refine z_ic e_X4_follow_106 ?_
      refine z_iand e_X4_follow_107 ?_
      refine z_ic e_X4_follow_108 ?_
      refine z_icmp_ne e_X4_follow_109 h (fun c21 h => ?_) (fun c21 h => ?_)
      · refine z_aload e_X4_follow_112 0 rfl ?_
        refine z_getr gf_X4_41_47 e_X4_follow_113 ?_
        refine z_iload e_X4_follow_116 4 rfl ?_
        refine z_iload e_X4_follow_118 6 rfl ?_
        obtain ⟨q23, s22, e24, h⟩ := bd_e h
        refine z_callVi (c0 := 17) (As := [.int x4, .int x6]) (rest := []) lk_X4_122 ob_17 e_X4_follow_120 (m_X5_after G x4 x6 σ _ _ e24) (by omega) rfl (Nat.le_of_ble_eq_true rfl) ?_
        refine z_goto e_X4_follow_123 ?_
        exact z_sub [0, 1, 2, 3, 4, 5, 6] rfl (p_X4_follow_127 hR n rc w68 w86 x1 x2 x3 x4 x5 x6 q23 hw68 hw86 hrc s22 h)
      · refine z_ic e_X4_follow_126 ?_
        exact z_sub [0, 1, 2, 3, 4, 5, 6] rfl (p_X4_follow_127 hR n rc w68 w86 x1 x2 x3 x4 x5 x6 (-1 : Int32) hw68 hw86 hrc σ h)
noncomputable def F_X4_follow_86L (rc : (Int32 → Int32 → zSt → Option (Int32 × zSt))) (w68 : (Int32 × zSt) → Option (Int32 × zSt)) (x1 : Int32) (x2 : Int32) (x3 : Int32) (x4 : Int32) (x5 : Int32) : ((Int32 × zSt) → Option (Int32 × zSt)) → (Int32 × zSt) → Option (Int32 × zSt) := fun w s => F_X4_follow_86 rc w68 x1 x2 x3 x4 x5 w s.1 s.2
set_option maxRecDepth 100000 in
theorem l_X4_follow_86 {G : zG} {C : zC} {r : Int32} {τ : zSt} (hR : zR G C (some .boolean) (some (.int r)) τ) (n : Nat) (rc : (Int32 → Int32 → zSt → Option (Int32 × zSt))) (w68 : (Int32 × zSt) → Option (Int32 × zSt)) (x1 : Int32) (x2 : Int32) (x3 : Int32) (x4 : Int32) (x5 : Int32) (hw68 : ∀ (x4 : Int32) (σ : zSt), w68 (x4, σ) = some (r, τ) → zAW G (5 + (n + 1)) RX4 cX4_follow 9 C 68 [(0, .ref (zad G 47)), (1, .int x1), (2, .int x2), (3, .int x3), (4, .int x4)] [] σ) (hrc : (∀ (a0 : Int32) (a1 : Int32) (σ : zSt) (q : Int32) (τ : zSt), rc a0 a1 σ = some (q, τ) → zM G (5 + n) yX4_follow cX4_follow 9 (some .boolean) [.ref (zad G 47), .int a0, .int a1] σ (some (.int q)) τ)) : ∀ (N : Nat) (x6 : Int32) (σ : zSt), zfix (F_X4_follow_86L rc w68 x1 x2 x3 x4 x5) N (x6, σ) = some (r, τ) → zAW G (5 + (n + 1)) RX4 cX4_follow 9 C 86 [(0, .ref (zad G 47)), (1, .int x1), (2, .int x2), (3, .int x3), (4, .int x4), (5, .int x5), (6, .int x6)] [] σ := by
  intro N
  induction N with
  | zero =>
    intro x6 σ h
    exact nomatch (show (none : Option (Int32 × zSt)) = some (r, τ) from h)
  | succ N ih =>
    intro x6 σ h
    exact b_X4_follow_86 hR n rc w68 x1 x2 x3 x4 x5 hw68 (zfix (F_X4_follow_86L rc w68 x1 x2 x3 x4 x5) N) ih hrc x6 σ h
noncomputable def F_X4_follow_68 (rc : (Int32 → Int32 → zSt → Option (Int32 × zSt))) (x1 : Int32) (x2 : Int32) (x3 : Int32) (w68 : (Int32 × zSt) → Option (Int32 × zSt)) (x4 : Int32) (σ : zSt) : Option (Int32 × zSt) :=
  if (6 : Int32) ≤ x4 then (
    F_X4_follow_235 rc x1 x2 σ)
  else (
    bd (F_X4_helpfulBits x4 σ) (fun q16 s15 =>
      zfix (F_X4_follow_86L rc w68 x1 x2 x3 x4 q16) zlim ((0 : Int32), s15)))
set_option maxHeartbeats 4000000 in
set_option maxRecDepth 100000 in
theorem b_X4_follow_68 {G : zG} {C : zC} {r : Int32} {τ : zSt} (hR : zR G C (some .boolean) (some (.int r)) τ) (n : Nat) (rc : (Int32 → Int32 → zSt → Option (Int32 × zSt))) (x1 : Int32) (x2 : Int32) (x3 : Int32) (w68 : (Int32 × zSt) → Option (Int32 × zSt)) (hw68 : ∀ (x4 : Int32) (σ : zSt), w68 (x4, σ) = some (r, τ) → zAW G (5 + (n + 1)) RX4 cX4_follow 9 C 68 [(0, .ref (zad G 47)), (1, .int x1), (2, .int x2), (3, .int x3), (4, .int x4)] [] σ) (hrc : (∀ (a0 : Int32) (a1 : Int32) (σ : zSt) (q : Int32) (τ : zSt), rc a0 a1 σ = some (q, τ) → zM G (5 + n) yX4_follow cX4_follow 9 (some .boolean) [.ref (zad G 47), .int a0, .int a1] σ (some (.int q)) τ)) (x4 : Int32) (σ : zSt) (h : F_X4_follow_68 rc x1 x2 x3 w68 x4 σ = some (r, τ)) : zAW G (5 + (n + 1)) RX4 cX4_follow 9 C 68 [(0, .ref (zad G 47)), (1, .int x1), (2, .int x2), (3, .int x3), (4, .int x4)] [] σ := by
  unfold F_X4_follow_68 at h
  refine z_iload e_X4_follow_68 4 rfl ?_
  refine z_ic e_X4_follow_70 ?_
  refine z_icmp_ge e_X4_follow_72 h (fun c12 h => ?_) (fun c12 h => ?_)
  · exact z_sub [0, 1, 2] rfl (p_X4_follow_235 hR n rc x1 x2 hrc σ h)
  · refine z_aload e_X4_follow_75 0 rfl ?_
    refine z_iload e_X4_follow_76 4 rfl ?_
    obtain ⟨q16, s15, e17, h⟩ := bd_e h
    refine z_callVi (c0 := 47) (As := [.int x4]) (rest := []) lk_X4_119 ob_47 e_X4_follow_78 (m_X4_helpfulBits G x4 σ _ _ e17) (by omega) rfl (Nat.le_of_ble_eq_true rfl) ?_
    refine z_istore e_X4_follow_81 (by decide) [(5, .int q16), (0, .ref (zad G 47)), (1, .int x1), (2, .int x2), (3, .int x3), (4, .int x4)] rfl ?_
    refine z_ic e_X4_follow_83 ?_
    refine z_istore e_X4_follow_84 (by decide) [(6, .int (0 : Int32)), (5, .int q16), (0, .ref (zad G 47)), (1, .int x1), (2, .int x2), (3, .int x3), (4, .int x4)] rfl ?_
    exact z_sub [2, 3, 4, 5, 6, 1, 0] rfl (l_X4_follow_86 hR n rc w68 x1 x2 x3 x4 q16 hw68 hrc zlim (0 : Int32) s15 h)
noncomputable def F_X4_follow_68L (rc : (Int32 → Int32 → zSt → Option (Int32 × zSt))) (x1 : Int32) (x2 : Int32) (x3 : Int32) : ((Int32 × zSt) → Option (Int32 × zSt)) → (Int32 × zSt) → Option (Int32 × zSt) := fun w s => F_X4_follow_68 rc x1 x2 x3 w s.1 s.2
set_option maxRecDepth 100000 in
theorem l_X4_follow_68 {G : zG} {C : zC} {r : Int32} {τ : zSt} (hR : zR G C (some .boolean) (some (.int r)) τ) (n : Nat) (rc : (Int32 → Int32 → zSt → Option (Int32 × zSt))) (x1 : Int32) (x2 : Int32) (x3 : Int32) (hrc : (∀ (a0 : Int32) (a1 : Int32) (σ : zSt) (q : Int32) (τ : zSt), rc a0 a1 σ = some (q, τ) → zM G (5 + n) yX4_follow cX4_follow 9 (some .boolean) [.ref (zad G 47), .int a0, .int a1] σ (some (.int q)) τ)) : ∀ (N : Nat) (x4 : Int32) (σ : zSt), zfix (F_X4_follow_68L rc x1 x2 x3) N (x4, σ) = some (r, τ) → zAW G (5 + (n + 1)) RX4 cX4_follow 9 C 68 [(0, .ref (zad G 47)), (1, .int x1), (2, .int x2), (3, .int x3), (4, .int x4)] [] σ := by
  intro N
  induction N with
  | zero =>
    intro x4 σ h
    exact nomatch (show (none : Option (Int32 × zSt)) = some (r, τ) from h)
  | succ N ih =>
    intro x4 σ h
    exact b_X4_follow_68 hR n rc x1 x2 x3 (zfix (F_X4_follow_68L rc x1 x2 x3) N) ih hrc x4 σ h
noncomputable def F_X4_follow_0 (rc : (Int32 → Int32 → zSt → Option (Int32 × zSt))) (x1 : Int32) (x2 : Int32) (σ : zSt) : Option (Int32 × zSt) :=
  if x1 < 0 then (
    some ((0 : Int32), σ))
  else (
    if (27648 : Int32) ≤ x1 then (
      some ((0 : Int32), σ))
    else (
      if x2 < (40 : Int32) then (
        gd (vp_in x1 27648) (
          nm (σ.1 48 x1.toNatClampNeg) (fun v4 =>
            bd (F_X5_stand x1 σ) (fun _ s5 =>
              bd (F_X5_isHad (s5.1 17 8) s5) (fun q9 s8 =>
                if q9 = 0 then (
                  zfix (F_X4_follow_68L rc x1 x2 v4) zlim ((0 : Int32), s8))
                else (
                  if v4 = (s8.1 47 8) then (
                    some ((1 : Int32), s8))
                  else (
                    some ((0 : Int32), s8))))))))
      else (
        some ((0 : Int32), σ))))
set_option maxHeartbeats 4000000 in
set_option maxRecDepth 100000 in
theorem p_X4_follow_0 {G : zG} {C : zC} {r : Int32} {τ : zSt} (hR : zR G C (some .boolean) (some (.int r)) τ) (n : Nat) (rc : (Int32 → Int32 → zSt → Option (Int32 × zSt))) (x1 : Int32) (x2 : Int32) (hrc : (∀ (a0 : Int32) (a1 : Int32) (σ : zSt) (q : Int32) (τ : zSt), rc a0 a1 σ = some (q, τ) → zM G (5 + n) yX4_follow cX4_follow 9 (some .boolean) [.ref (zad G 47), .int a0, .int a1] σ (some (.int q)) τ)) (σ : zSt) (h : F_X4_follow_0 rc x1 x2 σ = some (r, τ)) : zAW G (5 + (n + 1)) RX4 cX4_follow 9 C 0 [(0, .ref (zad G 47)), (1, .int x1), (2, .int x2)] [] σ := by
  unfold F_X4_follow_0 at h
  refine z_iload e_X4_follow_0 1 rfl ?_
  refine z_if_lt e_X4_follow_1 h (fun c1 h => ?_) (fun c1 h => ?_)
  · refine z_ic e_X4_follow_17 ?_
    cases h
    exact z_zreturn hR e_X4_follow_18 (Or.inl rfl)
  · refine z_iload e_X4_follow_4 1 rfl ?_
    refine z_ic e_X4_follow_5 ?_
    refine z_icmp_ge e_X4_follow_8 h (fun c2 h => ?_) (fun c2 h => ?_)
    · refine z_ic e_X4_follow_17 ?_
      cases h
      exact z_zreturn hR e_X4_follow_18 (Or.inl rfl)
    · refine z_iload e_X4_follow_11 2 rfl ?_
      refine z_ic e_X4_follow_12 ?_
      refine z_icmp_lt e_X4_follow_14 h (fun c3 h => ?_) (fun c3 h => ?_)
      · refine z_aload e_X4_follow_19 0 rfl ?_
        refine z_getr gf_X4_13_47 e_X4_follow_20 ?_
        refine z_iload e_X4_follow_23 1 rfl ?_
        refine z_iald sh_48 e_X4_follow_24 h (fun h => ?_)
        refine z_nmI h (fun v4 h => ?_)
        refine z_istore e_X4_follow_25 (by decide) [(3, .int v4), (0, .ref (zad G 47)), (1, .int x1), (2, .int x2)] rfl ?_
        refine z_aload e_X4_follow_26 1 rfl ?_
        refine z_getr gf_X4_41_47 e_X4_follow_27 ?_
        refine z_iload e_X4_follow_30 2 rfl ?_
        obtain ⟨q6, s5, e7, h⟩ := bd_e h
        refine z_callVv (c0 := 17) (As := [.int x1]) (rest := []) lk_X4_131 ob_17 e_X4_follow_31 (m_X5_stand G x1 σ _ _ e7) (by omega) rfl (Nat.le_of_ble_eq_true rfl) ?_
        refine z_aload e_X4_follow_34 1 rfl ?_
        refine z_getr gf_X4_41_47 e_X4_follow_35 ?_
        refine z_aload e_X4_follow_38 1 rfl ?_
        refine z_getr gf_X4_41_47 e_X4_follow_39 ?_
        refine z_geti gf_X4_134_17 e_X4_follow_42 ?_
        obtain ⟨q9, s8, e10, h⟩ := bd_e h
        refine z_callVi (c0 := 17) (As := [.int (s5.1 17 8)]) (rest := []) lk_X4_103 ob_17 e_X4_follow_45 (m_X5_isHad G (s5.1 17 8) s5 _ _ e10) (by omega) rfl (Nat.le_of_ble_eq_true rfl) ?_
        refine z_if_eq e_X4_follow_48 h (fun c11 h => ?_) (fun c11 h => ?_)
        · refine z_ic e_X4_follow_65 ?_
          refine z_istore e_X4_follow_66 (by decide) [(4, .int (0 : Int32)), (3, .int v4), (0, .ref (zad G 47)), (1, .int x1), (2, .int x2)] rfl ?_
          exact z_sub [2, 3, 4, 1, 0] rfl (l_X4_follow_68 hR n rc x1 x2 v4 hrc zlim (0 : Int32) s8 h)
        · refine z_iload e_X4_follow_51 0 rfl ?_
          refine z_aload e_X4_follow_52 1 rfl ?_
          refine z_geti gf_X4_45_47 e_X4_follow_53 ?_
          refine z_icmp_ne e_X4_follow_56 h (fun c45 h => ?_) (fun c45 h => ?_)
          · refine z_ic e_X4_follow_59 ?_
            refine z_goto e_X4_follow_60 ?_
            cases h
            exact z_zreturn hR e_X4_follow_64 (Or.inr rfl)
          · refine z_ic e_X4_follow_63 ?_
            cases h
            exact z_zreturn hR e_X4_follow_64 (Or.inl rfl)
      · refine z_ic e_X4_follow_17 ?_
        cases h
        exact z_zreturn hR e_X4_follow_18 (Or.inl rfl)
noncomputable def O_X4_follow (rc : (Int32 → Int32 → zSt → Option (Int32 × zSt))) (x1 : Int32) (x2 : Int32) (σ : zSt) : Option (Int32 × zSt) := F_X4_follow_0 rc x1 x2 σ
set_option maxRecDepth 100000 in
theorem o_X4_follow (G : zG) (n : Nat) (rc : (Int32 → Int32 → zSt → Option (Int32 × zSt))) (hrc : (∀ (a0 : Int32) (a1 : Int32) (σ : zSt) (q : Int32) (τ : zSt), rc a0 a1 σ = some (q, τ) → zM G (5 + n) yX4_follow cX4_follow 9 (some .boolean) [.ref (zad G 47), .int a0, .int a1] σ (some (.int q)) τ)) (x1 : Int32) (x2 : Int32) (σ : zSt) (q : Int32) (τ : zSt) (h : O_X4_follow rc x1 x2 σ = some (q, τ)) : zM G (5 + (n + 1)) yX4_follow cX4_follow 9 (some .boolean) [.ref (zad G 47), .int x1, .int x2] σ (some (.int q)) τ := by
  unfold O_X4_follow at h
  refine zM.of (own := RX4) (by decide +kernel) rfl (Nat.le_of_ble_eq_true rfl) (fun C hR => ?_)
  exact z_sub [0, 1, 2] rfl (p_X4_follow_0 hR n rc x1 x2 hrc σ h)
noncomputable def R_X4_follow : Nat → (Int32 → Int32 → zSt → Option (Int32 × zSt))
  | 0 => (fun _ _ _ => none)
  | n + 1 => O_X4_follow (R_X4_follow n)
set_option maxRecDepth 100000 in
theorem r_X4_follow (G : zG) : ∀ N : Nat, (∀ (a0 : Int32) (a1 : Int32) (σ : zSt) (q : Int32) (τ : zSt), (R_X4_follow N) a0 a1 σ = some (q, τ) → zM G (5 + N) yX4_follow cX4_follow 9 (some .boolean) [.ref (zad G 47), .int a0, .int a1] σ (some (.int q)) τ) := by
  intro N
  induction N with
  | zero => exact (fun _ _ _ _ _ h => nomatch (show none = some _ from h))
  | succ N ih => exact (fun b0 b1 b2 b3 b4 h => o_X4_follow G N _ ih b0 b1 b2 b3 b4 h)
noncomputable def F_X4_follow (x1 : Int32) (x2 : Int32) (σ : zSt) : Option (Int32 × zSt) := (R_X4_follow 100) x1 x2 σ
theorem m_X4_follow (G : zG) (x1 : Int32) (x2 : Int32) (σ : zSt) (q : Int32) (τ : zSt) (h : F_X4_follow x1 x2 σ = some (q, τ)) : zM G 105 yX4_follow cX4_follow 9 (some .boolean) [.ref (zad G 47), .int x1, .int x2] σ (some (.int q)) τ := (r_X4_follow G 100) x1 x2 σ q τ h
noncomputable def F_X4_write_30 (w30 : (Int32 × zSt) → Option (Int32 × zSt)) (x1 : Int32) (σ : zSt) : Option (Int32 × zSt) :=
  if (40 : Int32) ≤ x1 then (
    some ((40 : Int32), σ))
  else (
    gd (vp_in x1 40) (
      if (σ.1 51 x1.toNatClampNeg) = (-1 : Int32) then (
        some (x1, σ))
      else (
        nm (x1 + (1 : Int32)) (fun v7 =>
          w30 (v7, σ)))))
set_option maxHeartbeats 4000000 in
set_option maxRecDepth 100000 in
theorem b_X4_write_30 {G : zG} {C : zC} {r : Int32} {τ : zSt} (hR : zR G C (some .int) (some (.int r)) τ) (w30 : (Int32 × zSt) → Option (Int32 × zSt)) (hw30 : ∀ (x1 : Int32) (σ : zSt), w30 (x1, σ) = some (r, τ) → zAW G 106 RX4 cX4_write 2 C 30 [(0, .ref (zad G 47)), (1, .int x1)] [] σ) (x1 : Int32) (σ : zSt) (h : F_X4_write_30 w30 x1 σ = some (r, τ)) : zAW G 106 RX4 cX4_write 2 C 30 [(0, .ref (zad G 47)), (1, .int x1)] [] σ := by
  unfold F_X4_write_30 at h
  refine z_iload e_X4_write_30 1 rfl ?_
  refine z_ic e_X4_write_31 ?_
  refine z_icmp_ge e_X4_write_33 h (fun c5 h => ?_) (fun c5 h => ?_)
  · refine z_ic e_X4_write_54 ?_
    cases h
    exact z_ireturn hR e_X4_write_56
  · refine z_aload e_X4_write_36 0 rfl ?_
    refine z_getr gf_X4_23_47 e_X4_write_37 ?_
    refine z_iload e_X4_write_40 1 rfl ?_
    refine z_iald sh_51 e_X4_write_41 h (fun h => ?_)
    refine z_ic e_X4_write_42 ?_
    refine z_icmp_ne e_X4_write_43 h (fun c6 h => ?_) (fun c6 h => ?_)
    · refine z_iload e_X4_write_46 1 rfl ?_
      cases h
      exact z_ireturn hR e_X4_write_47
    · refine z_iinc e_X4_write_48 1 rfl (by decide) (by decide) h (fun y => [(1, .int y), (0, .ref (zad G 47))]) (fun _ => rfl) (fun v7 h => ?_)
      refine z_goto e_X4_write_51 ?_
      exact z_sub [1, 0] rfl (hw30 v7 σ h)
noncomputable def F_X4_write_30L  : ((Int32 × zSt) → Option (Int32 × zSt)) → (Int32 × zSt) → Option (Int32 × zSt) := fun w s => F_X4_write_30 w s.1 s.2
set_option maxRecDepth 100000 in
theorem l_X4_write_30 {G : zG} {C : zC} {r : Int32} {τ : zSt} (hR : zR G C (some .int) (some (.int r)) τ)  : ∀ (N : Nat) (x1 : Int32) (σ : zSt), zfix (F_X4_write_30L ) N (x1, σ) = some (r, τ) → zAW G 106 RX4 cX4_write 2 C 30 [(0, .ref (zad G 47)), (1, .int x1)] [] σ := by
  intro N
  induction N with
  | zero =>
    intro x1 σ h
    exact nomatch (show (none : Option (Int32 × zSt)) = some (r, τ) from h)
  | succ N ih =>
    intro x1 σ h
    exact b_X4_write_30 hR (zfix (F_X4_write_30L ) N) ih x1 σ h
noncomputable def F_X4_write_21 (σ : zSt) : Option (Int32 × zSt) :=
  bd (F_X4_follow (0 : Int32) (0 : Int32) σ) (fun q3 s2 =>
    zfix (F_X4_write_30L ) zlim ((0 : Int32), s2))
set_option maxHeartbeats 4000000 in
set_option maxRecDepth 100000 in
theorem p_X4_write_21 {G : zG} {C : zC} {r : Int32} {τ : zSt} (hR : zR G C (some .int) (some (.int r)) τ)  (σ : zSt) (h : F_X4_write_21 σ = some (r, τ)) : zAW G 106 RX4 cX4_write 2 C 21 [(0, .ref (zad G 47))] [] σ := by
  unfold F_X4_write_21 at h
  refine z_aload e_X4_write_21 0 rfl ?_
  refine z_ic e_X4_write_22 ?_
  refine z_ic e_X4_write_23 ?_
  obtain ⟨q3, s2, e4, h⟩ := bd_e h
  refine z_callVi (c0 := 47) (As := [.int (0 : Int32), .int (0 : Int32)]) (rest := []) lk_X4_128 ob_47 e_X4_write_24 (m_X4_follow G (0 : Int32) (0 : Int32) σ _ _ e4) (by decide) rfl (Nat.le_of_ble_eq_true rfl) ?_
  refine z_pop e_X4_write_27 rfl ?_
  refine z_ic e_X4_write_28 ?_
  refine z_istore e_X4_write_29 (by decide) [(1, .int (0 : Int32)), (0, .ref (zad G 47))] rfl ?_
  exact z_sub [1, 0] rfl (l_X4_write_30 hR  zlim (0 : Int32) s2 h)
noncomputable def F_X4_write_2 (w2 : (Int32 × zSt) → Option (Int32 × zSt)) (x1 : Int32) (σ : zSt) : Option (Int32 × zSt) :=
  if (40 : Int32) ≤ x1 then (
    F_X4_write_21  σ)
  else (
    gd (vp_in x1 40) (nm (zwr σ 51 x1.toNatClampNeg (-1 : Int32)) (fun s8 =>
      nm (x1 + (1 : Int32)) (fun v9 =>
        w2 (v9, s8)))))
set_option maxHeartbeats 4000000 in
set_option maxRecDepth 100000 in
theorem b_X4_write_2 {G : zG} {C : zC} {r : Int32} {τ : zSt} (hR : zR G C (some .int) (some (.int r)) τ) (w2 : (Int32 × zSt) → Option (Int32 × zSt)) (hw2 : ∀ (x1 : Int32) (σ : zSt), w2 (x1, σ) = some (r, τ) → zAW G 106 RX4 cX4_write 2 C 2 [(0, .ref (zad G 47)), (1, .int x1)] [] σ) (x1 : Int32) (σ : zSt) (h : F_X4_write_2 w2 x1 σ = some (r, τ)) : zAW G 106 RX4 cX4_write 2 C 2 [(0, .ref (zad G 47)), (1, .int x1)] [] σ := by
  unfold F_X4_write_2 at h
  refine z_iload e_X4_write_2 1 rfl ?_
  refine z_ic e_X4_write_3 ?_
  refine z_icmp_ge e_X4_write_5 h (fun c1 h => ?_) (fun c1 h => ?_)
  · exact z_sub [0] rfl (p_X4_write_21 hR  σ h)
  · refine z_aload e_X4_write_8 0 rfl ?_
    refine z_getr gf_X4_23_47 e_X4_write_9 ?_
    refine z_iload e_X4_write_12 1 rfl ?_
    refine z_ic e_X4_write_13 ?_
    refine z_iast sh_51 e_X4_write_14 h (fun s8 h => ?_)
    refine z_iinc e_X4_write_15 1 rfl (by decide) (by decide) h (fun y => [(1, .int y), (0, .ref (zad G 47))]) (fun _ => rfl) (fun v9 h => ?_)
    refine z_goto e_X4_write_18 ?_
    exact z_sub [1, 0] rfl (hw2 v9 s8 h)
noncomputable def F_X4_write_2L  : ((Int32 × zSt) → Option (Int32 × zSt)) → (Int32 × zSt) → Option (Int32 × zSt) := fun w s => F_X4_write_2 w s.1 s.2
set_option maxRecDepth 100000 in
theorem l_X4_write_2 {G : zG} {C : zC} {r : Int32} {τ : zSt} (hR : zR G C (some .int) (some (.int r)) τ)  : ∀ (N : Nat) (x1 : Int32) (σ : zSt), zfix (F_X4_write_2L ) N (x1, σ) = some (r, τ) → zAW G 106 RX4 cX4_write 2 C 2 [(0, .ref (zad G 47)), (1, .int x1)] [] σ := by
  intro N
  induction N with
  | zero =>
    intro x1 σ h
    exact nomatch (show (none : Option (Int32 × zSt)) = some (r, τ) from h)
  | succ N ih =>
    intro x1 σ h
    exact b_X4_write_2 hR (zfix (F_X4_write_2L ) N) ih x1 σ h
noncomputable def F_X4_write_0 (σ : zSt) : Option (Int32 × zSt) :=
  zfix (F_X4_write_2L ) zlim ((0 : Int32), σ)
set_option maxHeartbeats 4000000 in
set_option maxRecDepth 100000 in
theorem p_X4_write_0 {G : zG} {C : zC} {r : Int32} {τ : zSt} (hR : zR G C (some .int) (some (.int r)) τ)  (σ : zSt) (h : F_X4_write_0 σ = some (r, τ)) : zAW G 106 RX4 cX4_write 2 C 0 [(0, .ref (zad G 47))] [] σ := by
  unfold F_X4_write_0 at h
  refine z_ic e_X4_write_0 ?_
  refine z_istore e_X4_write_1 (by decide) [(1, .int (0 : Int32)), (0, .ref (zad G 47))] rfl ?_
  exact z_sub [1, 0] rfl (l_X4_write_2 hR  zlim (0 : Int32) σ h)
noncomputable def F_X4_write (σ : zSt) : Option (Int32 × zSt) := F_X4_write_0  σ
set_option maxRecDepth 100000 in
theorem m_X4_write (G : zG) (σ : zSt) (q : Int32) (τ : zSt) (h : F_X4_write  σ = some (q, τ)) : zM G 106 yX4_write cX4_write 2 (some .int) [.ref (zad G 47)] σ (some (.int q)) τ := by
  unfold F_X4_write at h
  refine zM.of (own := RX4) (by decide +kernel) rfl (Nat.le_of_ble_eq_true rfl) (fun C hR => ?_)
  exact z_sub [0] rfl (p_X4_write_0 hR  σ h)
noncomputable def F_X4_actAt_0 (x1 : Int32) (σ : zSt) : Option (Int32 × zSt) :=
  bd (F_X11_isBelow x1 (40 : Int32) σ) (fun q2 s1 =>
    if q2 = 0 then (
      some ((-1 : Int32), s1))
    else (
      gd (vp_in x1 40) (
        some ((s1.1 51 x1.toNatClampNeg), s1))))
set_option maxHeartbeats 4000000 in
set_option maxRecDepth 100000 in
theorem p_X4_actAt_0 {G : zG} {C : zC} {r : Int32} {τ : zSt} (hR : zR G C (some .int) (some (.int r)) τ) (x1 : Int32) (σ : zSt) (h : F_X4_actAt_0 x1 σ = some (r, τ)) : zAW G 2 RX4 cX4_actAt 2 C 0 [(0, .ref (zad G 47)), (1, .int x1)] [] σ := by
  unfold F_X4_actAt_0 at h
  refine z_iload e_X4_actAt_0 1 rfl ?_
  refine z_ic e_X4_actAt_1 ?_
  obtain ⟨q2, s1, e3, h⟩ := bd_e h
  refine z_callNi (As := [.int x1, .int (40 : Int32)]) (rest := []) lk_X4_49 e_X4_actAt_3 (m_X11_isBelow G x1 (40 : Int32) σ _ _ e3) (by decide) rfl (Nat.le_of_ble_eq_true rfl) ?_
  refine z_if_eq e_X4_actAt_6 h (fun c4 h => ?_) (fun c4 h => ?_)
  · refine z_ic e_X4_actAt_18 ?_
    cases h
    exact z_ireturn hR e_X4_actAt_19
  · refine z_aload e_X4_actAt_9 0 rfl ?_
    refine z_getr gf_X4_23_47 e_X4_actAt_10 ?_
    refine z_iload e_X4_actAt_13 1 rfl ?_
    refine z_iald sh_51 e_X4_actAt_14 h (fun h => ?_)
    refine z_goto e_X4_actAt_15 ?_
    cases h
    exact z_ireturn hR e_X4_actAt_19
noncomputable def F_X4_actAt (x1 : Int32) (σ : zSt) : Option (Int32 × zSt) := F_X4_actAt_0 x1 σ
set_option maxRecDepth 100000 in
theorem m_X4_actAt (G : zG) (x1 : Int32) (σ : zSt) (q : Int32) (τ : zSt) (h : F_X4_actAt x1 σ = some (q, τ)) : zM G 2 yX4_actAt cX4_actAt 2 (some .int) [.ref (zad G 47), .int x1] σ (some (.int q)) τ := by
  unfold F_X4_actAt at h
  refine zM.of (own := RX4) (by decide +kernel) rfl (Nat.le_of_ble_eq_true rfl) (fun C hR => ?_)
  exact z_sub [0, 1] rfl (p_X4_actAt_0 hR x1 σ h)
noncomputable def F_X11_plan_0 (x1 : Int32) (σ : zSt) : Option (Int32 × zSt) :=
  bd (F_X11_heartIsTold σ) (fun q2 s1 =>
    if q2 = 0 then (
      some ((-1 : Int32), s1))
    else (
      bd (F_X5_learn s1) (fun _ s5 =>
        bd (F_X4_search (1 : Int32) s5) (fun q9 s8 =>
          if q9 = 0 then (
            some ((-2 : Int32), s8))
          else (
            bd (F_X4_write s8) (fun q13 s12 =>
              if x1 = (-1 : Int32) then (
                some (q13, s12))
              else (
                bd (F_X11_isBelow x1 q13 s12) (fun q17 s16 =>
                  if q17 = 0 then (
                    some ((-3 : Int32), s16))
                  else (
                    bd (F_X4_actAt x1 s16) (fun q21 s20 =>
                      some (q21, s20)))))))))))
set_option maxHeartbeats 4000000 in
set_option maxRecDepth 100000 in
theorem p_X11_plan_0 {G : zG} {C : zC} {r : Int32} {τ : zSt} (hR : zR G C (some .int) (some (.int r)) τ) (x1 : Int32) (σ : zSt) (h : F_X11_plan_0 x1 σ = some (r, τ)) : zAW G 107 RX11 cX11_plan 3 C 0 [(0, .ref (zad G 0)), (1, .int x1)] [] σ := by
  unfold F_X11_plan_0 at h
  refine z_aload e_X11_plan_0 0 rfl ?_
  obtain ⟨q2, s1, e3, h⟩ := bd_e h
  refine z_callVi (c0 := 0) (As := []) (rest := []) lk_X11_159 ob_0 e_X11_plan_1 (m_X11_heartIsTold G σ _ _ e3) (by decide) rfl (Nat.le_of_ble_eq_true rfl) ?_
  refine z_if_ne e_X11_plan_4 h (fun c4 h => ?_) (fun c4 h => ?_)
  · refine z_ic e_X11_plan_7 ?_
    cases h
    exact z_ireturn hR e_X11_plan_8
  · refine z_aload e_X11_plan_9 0 rfl ?_
    refine z_getr gf_X11_50_0 e_X11_plan_10 ?_
    obtain ⟨q6, s5, e7, h⟩ := bd_e h
    refine z_callVv (c0 := 17) (As := []) (rest := []) lk_X11_163 ob_17 e_X11_plan_13 (m_X5_learn G s1 _ _ e7) (by decide) rfl (Nat.le_of_ble_eq_true rfl) ?_
    refine z_aload e_X11_plan_16 0 rfl ?_
    refine z_getr gf_X11_66_0 e_X11_plan_17 ?_
    refine z_ic e_X11_plan_20 ?_
    obtain ⟨q9, s8, e10, h⟩ := bd_e h
    refine z_callVi (c0 := 47) (As := [.int (1 : Int32)]) (rest := []) lk_X11_166 ob_47 e_X11_plan_21 (m_X4_search G (1 : Int32) s5 _ _ e10) (by decide) rfl (Nat.le_of_ble_eq_true rfl) ?_
    refine z_if_ne e_X11_plan_24 h (fun c11 h => ?_) (fun c11 h => ?_)
    · refine z_ic e_X11_plan_27 ?_
      cases h
      exact z_ireturn hR e_X11_plan_29
    · refine z_aload e_X11_plan_30 0 rfl ?_
      refine z_getr gf_X11_66_0 e_X11_plan_31 ?_
      obtain ⟨q13, s12, e14, h⟩ := bd_e h
      refine z_callVi (c0 := 47) (As := []) (rest := []) lk_X11_177 ob_47 e_X11_plan_34 (m_X4_write G s8 _ _ e14) (by decide) rfl (Nat.le_of_ble_eq_true rfl) ?_
      refine z_istore e_X11_plan_37 (by decide) [(2, .int q13), (0, .ref (zad G 0)), (1, .int x1)] rfl ?_
      refine z_iload e_X11_plan_38 2 rfl ?_
      refine z_ic e_X11_plan_39 ?_
      refine z_icmp_ne e_X11_plan_40 h (fun c15 h => ?_) (fun c15 h => ?_)
      · refine z_iload e_X11_plan_43 0 rfl ?_
        cases h
        exact z_ireturn hR e_X11_plan_44
      · refine z_iload e_X11_plan_45 2 rfl ?_
        refine z_iload e_X11_plan_46 0 rfl ?_
        obtain ⟨q17, s16, e18, h⟩ := bd_e h
        refine z_callSi (As := [.int x1, .int q13]) (rest := []) lk_X11_104 e_X11_plan_47 (m_X11_isBelow G x1 q13 s12 _ _ e18) (by decide) rfl (Nat.le_of_ble_eq_true rfl) ?_
        refine z_if_eq e_X11_plan_50 h (fun c19 h => ?_) (fun c19 h => ?_)
        · refine z_ic e_X11_plan_64 ?_
          cases h
          exact z_ireturn hR e_X11_plan_66
        · refine z_aload e_X11_plan_53 1 rfl ?_
          refine z_getr gf_X11_66_0 e_X11_plan_54 ?_
          refine z_iload e_X11_plan_57 2 rfl ?_
          obtain ⟨q21, s20, e22, h⟩ := bd_e h
          refine z_callVi (c0 := 47) (As := [.int x1]) (rest := []) lk_X11_180 ob_47 e_X11_plan_58 (m_X4_actAt G x1 s16 _ _ e22) (by decide) rfl (Nat.le_of_ble_eq_true rfl) ?_
          refine z_goto e_X11_plan_61 ?_
          cases h
          exact z_ireturn hR e_X11_plan_66
noncomputable def F_X11_plan (x1 : Int32) (σ : zSt) : Option (Int32 × zSt) := F_X11_plan_0 x1 σ
set_option maxRecDepth 100000 in
theorem m_X11_plan (G : zG) (x1 : Int32) (σ : zSt) (q : Int32) (τ : zSt) (h : F_X11_plan x1 σ = some (q, τ)) : zM G 107 yX11_plan cX11_plan 3 (some .int) [.ref (zad G 0), .int x1] σ (some (.int q)) τ := by
  unfold F_X11_plan at h
  refine zM.of (own := RX11) (by decide +kernel) rfl (Nat.le_of_ble_eq_true rfl) (fun C hR => ?_)
  exact z_sub [0, 1] rfl (p_X11_plan_0 hR x1 σ h)
noncomputable def F_X12_firstAct_128 (w23 : (Int32 × zSt) → Option (Int32 × zSt)) (x1 : Int32) (x2 : Int32) (x3 : Int32) (x4 : Int32) (x5 : Int32) (σ : zSt) : Option (Int32 × zSt) :=
  nm (x5 + (1 : Int32)) (fun v15 =>
    w23 (v15, σ))
set_option maxHeartbeats 4000000 in
set_option maxRecDepth 100000 in
theorem p_X12_firstAct_128 {G : zG} {C : zC} {r : Int32} {τ : zSt} (hR : zR G C (some .int) (some (.int r)) τ) (w23 : (Int32 × zSt) → Option (Int32 × zSt)) (x1 : Int32) (x2 : Int32) (x3 : Int32) (x4 : Int32) (x5 : Int32) (hw23 : ∀ (x5 : Int32) (σ : zSt), w23 (x5, σ) = some (r, τ) → zAW G 5 RX12 cX12_firstAct 7 C 23 [(0, .ref (zad G 69)), (1, .int x1), (2, .int x2), (3, .int x3), (4, .int x4), (5, .int x5)] [] σ) (σ : zSt) (h : F_X12_firstAct_128 w23 x1 x2 x3 x4 x5 σ = some (r, τ)) : zAW G 5 RX12 cX12_firstAct 7 C 128 [(0, .ref (zad G 69)), (1, .int x1), (2, .int x2), (3, .int x3), (4, .int x4), (5, .int x5)] [] σ := by
  unfold F_X12_firstAct_128 at h
  refine z_iinc e_X12_firstAct_128 5 rfl (by decide) (by decide) h (fun y => [(5, .int y), (0, .ref (zad G 69)), (1, .int x1), (2, .int x2), (3, .int x3), (4, .int x4)]) (fun _ => rfl) (fun v15 h => ?_)
  refine z_goto e_X12_firstAct_131 ?_
  exact z_sub [1, 2, 3, 4, 5, 0] rfl (hw23 v15 σ h)
noncomputable def F_X12_firstAct_23 (x1 : Int32) (x2 : Int32) (x3 : Int32) (x4 : Int32) (w23 : (Int32 × zSt) → Option (Int32 × zSt)) (x5 : Int32) (σ : zSt) : Option (Int32 × zSt) :=
  if (60 : Int32) ≤ x5 then (
    some ((-1 : Int32), σ))
  else (
    bd (F_X12_digitsFor (x5 / (10 : Int32)) σ) (fun q8 s7 =>
      if (x5 % (10 : Int32)) < q8 then (
        bd (F_X12_behind x2 x3 (x1 % (4 : Int32)) x4 (x5 / (10 : Int32)) (x5 % (10 : Int32)) s7) (fun q12 s11 =>
          if q12 = (-1 : Int32) then (
            F_X12_firstAct_128 w23 x1 x2 x3 x4 x5 s11)
          else (
            gd (vp_in q12 27648) (
              if (1000000000 : Int32) ≤ (s11.1 92 q12.toNatClampNeg) then (
                F_X12_firstAct_128 w23 x1 x2 x3 x4 x5 s11)
              else (
                gd (vp_in q12 27648) (
                  bd (F_X12_costOf (x1 % (4 : Int32)) (x5 / (10 : Int32)) (x5 % (10 : Int32)) s11) (fun q18 s17 =>
                    gd (vp_in x1 27648) (
                      if ((s11.1 92 q12.toNatClampNeg) + q18) = (s17.1 92 x1.toNatClampNeg) then (
                        some (x5, s17))
                      else (
                        F_X12_firstAct_128 w23 x1 x2 x3 x4 x5 s17)))))))))
      else (
        F_X12_firstAct_128 w23 x1 x2 x3 x4 x5 s7)))
set_option maxHeartbeats 4000000 in
set_option maxRecDepth 100000 in
theorem b_X12_firstAct_23 {G : zG} {C : zC} {r : Int32} {τ : zSt} (hR : zR G C (some .int) (some (.int r)) τ) (x1 : Int32) (x2 : Int32) (x3 : Int32) (x4 : Int32) (w23 : (Int32 × zSt) → Option (Int32 × zSt)) (hw23 : ∀ (x5 : Int32) (σ : zSt), w23 (x5, σ) = some (r, τ) → zAW G 5 RX12 cX12_firstAct 7 C 23 [(0, .ref (zad G 69)), (1, .int x1), (2, .int x2), (3, .int x3), (4, .int x4), (5, .int x5)] [] σ) (x5 : Int32) (σ : zSt) (h : F_X12_firstAct_23 x1 x2 x3 x4 w23 x5 σ = some (r, τ)) : zAW G 5 RX12 cX12_firstAct 7 C 23 [(0, .ref (zad G 69)), (1, .int x1), (2, .int x2), (3, .int x3), (4, .int x4), (5, .int x5)] [] σ := by
  unfold F_X12_firstAct_23 at h
  refine z_iload e_X12_firstAct_23 5 rfl ?_
  refine z_ic e_X12_firstAct_25 ?_
  refine z_icmp_ge e_X12_firstAct_27 h (fun c6 h => ?_) (fun c6 h => ?_)
  · refine z_ic e_X12_firstAct_134 ?_
    cases h
    exact z_ireturn hR e_X12_firstAct_135
  · refine z_iload e_X12_firstAct_30 5 rfl ?_
    refine z_ic e_X12_firstAct_32 ?_
    refine z_irem e_X12_firstAct_34 (by decide) ?_
    refine z_iload e_X12_firstAct_35 5 rfl ?_
    refine z_ic e_X12_firstAct_37 ?_
    refine z_idiv e_X12_firstAct_39 (by decide) ?_
    obtain ⟨q8, s7, e9, h⟩ := bd_e h
    refine z_callSi (As := [.int (x5 / (10 : Int32))]) (rest := [.int (x5 % (10 : Int32))]) lk_X12_341 e_X12_firstAct_40 (m_X12_digitsFor G (x5 / (10 : Int32)) σ _ _ e9) (by decide) rfl (Nat.le_of_ble_eq_true rfl) ?_
    refine z_icmp_lt e_X12_firstAct_43 h (fun c10 h => ?_) (fun c10 h => ?_)
    · refine z_aload e_X12_firstAct_49 0 rfl ?_
      refine z_iload e_X12_firstAct_50 2 rfl ?_
      refine z_iload e_X12_firstAct_51 3 rfl ?_
      refine z_iload e_X12_firstAct_52 1 rfl ?_
      refine z_ic e_X12_firstAct_53 ?_
      refine z_irem e_X12_firstAct_54 (by decide) ?_
      refine z_iload e_X12_firstAct_55 4 rfl ?_
      refine z_iload e_X12_firstAct_57 5 rfl ?_
      refine z_ic e_X12_firstAct_59 ?_
      refine z_idiv e_X12_firstAct_61 (by decide) ?_
      refine z_iload e_X12_firstAct_62 5 rfl ?_
      refine z_ic e_X12_firstAct_64 ?_
      refine z_irem e_X12_firstAct_66 (by decide) ?_
      obtain ⟨q12, s11, e13, h⟩ := bd_e h
      refine z_callVi (c0 := 69) (As := [.int x2, .int x3, .int (x1 % (4 : Int32)), .int x4, .int (x5 / (10 : Int32)), .int (x5 % (10 : Int32))]) (rest := []) lk_X12_383 ob_69 e_X12_firstAct_67 (m_X12_behind G x2 x3 (x1 % (4 : Int32)) x4 (x5 / (10 : Int32)) (x5 % (10 : Int32)) s7 _ _ e13) (by decide) rfl (Nat.le_of_ble_eq_true rfl) ?_
      refine z_istore e_X12_firstAct_70 (by decide) [(6, .int q12), (0, .ref (zad G 69)), (1, .int x1), (2, .int x2), (3, .int x3), (4, .int x4), (5, .int x5)] rfl ?_
      refine z_iload e_X12_firstAct_72 0 rfl ?_
      refine z_ic e_X12_firstAct_74 ?_
      refine z_icmp_eq e_X12_firstAct_75 h (fun c14 h => ?_) (fun c14 h => ?_)
      · exact z_sub [1, 2, 3, 4, 5, 6] rfl (p_X12_firstAct_128 hR w23 x1 x2 x3 x4 x5 hw23 s11 h)
      · refine z_aload e_X12_firstAct_78 1 rfl ?_
        refine z_getr gf_X12_77_69 e_X12_firstAct_79 ?_
        refine z_iload e_X12_firstAct_82 0 rfl ?_
        refine z_iald sh_92 e_X12_firstAct_84 h (fun h => ?_)
        refine z_ldcw cs_X12_382 e_X12_firstAct_85 ?_
        refine z_icmp_ge e_X12_firstAct_88 h (fun c16 h => ?_) (fun c16 h => ?_)
        · exact z_sub [1, 2, 3, 4, 5, 6] rfl (p_X12_firstAct_128 hR w23 x1 x2 x3 x4 x5 hw23 s11 h)
        · refine z_aload e_X12_firstAct_91 1 rfl ?_
          refine z_getr gf_X12_77_69 e_X12_firstAct_92 ?_
          refine z_iload e_X12_firstAct_95 0 rfl ?_
          refine z_iald sh_92 e_X12_firstAct_97 h (fun h => ?_)
          refine z_aload e_X12_firstAct_98 1 rfl ?_
          refine z_iload e_X12_firstAct_99 2 rfl ?_
          refine z_ic e_X12_firstAct_100 ?_
          refine z_irem e_X12_firstAct_101 (by decide) ?_
          refine z_iload e_X12_firstAct_102 6 rfl ?_
          refine z_ic e_X12_firstAct_104 ?_
          refine z_idiv e_X12_firstAct_106 (by decide) ?_
          refine z_iload e_X12_firstAct_107 6 rfl ?_
          refine z_ic e_X12_firstAct_109 ?_
          refine z_irem e_X12_firstAct_111 (by decide) ?_
          obtain ⟨q18, s17, e19, h⟩ := bd_e h
          refine z_callVi (c0 := 69) (As := [.int (x1 % (4 : Int32)), .int (x5 / (10 : Int32)), .int (x5 % (10 : Int32))]) (rest := [.int (s11.1 92 q12.toNatClampNeg)]) lk_X12_387 ob_69 e_X12_firstAct_112 (m_X12_costOf G (x1 % (4 : Int32)) (x5 / (10 : Int32)) (x5 % (10 : Int32)) s11 _ _ e19) (by decide) rfl (Nat.le_of_ble_eq_true rfl) ?_
          refine z_iadd e_X12_firstAct_115 ?_
          refine z_aload e_X12_firstAct_116 1 rfl ?_
          refine z_getr gf_X12_77_69 e_X12_firstAct_117 ?_
          refine z_iload e_X12_firstAct_120 2 rfl ?_
          refine z_iald sh_92 e_X12_firstAct_121 h (fun h => ?_)
          refine z_icmp_ne e_X12_firstAct_122 h (fun c20 h => ?_) (fun c20 h => ?_)
          · refine z_iload e_X12_firstAct_125 6 rfl ?_
            cases h
            exact z_ireturn hR e_X12_firstAct_127
          · exact z_sub [1, 2, 3, 4, 5, 6] rfl (p_X12_firstAct_128 hR w23 x1 x2 x3 x4 x5 hw23 s17 h)
    · refine z_goto e_X12_firstAct_46 ?_
      exact z_sub [0, 1, 2, 3, 4, 5] rfl (p_X12_firstAct_128 hR w23 x1 x2 x3 x4 x5 hw23 s7 h)
noncomputable def F_X12_firstAct_23L (x1 : Int32) (x2 : Int32) (x3 : Int32) (x4 : Int32) : ((Int32 × zSt) → Option (Int32 × zSt)) → (Int32 × zSt) → Option (Int32 × zSt) := fun w s => F_X12_firstAct_23 x1 x2 x3 x4 w s.1 s.2
set_option maxRecDepth 100000 in
theorem l_X12_firstAct_23 {G : zG} {C : zC} {r : Int32} {τ : zSt} (hR : zR G C (some .int) (some (.int r)) τ) (x1 : Int32) (x2 : Int32) (x3 : Int32) (x4 : Int32) : ∀ (N : Nat) (x5 : Int32) (σ : zSt), zfix (F_X12_firstAct_23L x1 x2 x3 x4) N (x5, σ) = some (r, τ) → zAW G 5 RX12 cX12_firstAct 7 C 23 [(0, .ref (zad G 69)), (1, .int x1), (2, .int x2), (3, .int x3), (4, .int x4), (5, .int x5)] [] σ := by
  intro N
  induction N with
  | zero =>
    intro x5 σ h
    exact nomatch (show (none : Option (Int32 × zSt)) = some (r, τ) from h)
  | succ N ih =>
    intro x5 σ h
    exact b_X12_firstAct_23 hR x1 x2 x3 x4 (zfix (F_X12_firstAct_23L x1 x2 x3 x4) N) ih x5 σ h
noncomputable def F_X12_firstAct_0 (x1 : Int32) (σ : zSt) : Option (Int32 × zSt) :=
  nm (x1 / (108 : Int32)) (fun v1 =>
    nm ((x1 / (4 : Int32)) % (27 : Int32)) (fun v2 =>
      bd (F_X12_keysWith v1 v2 σ) (fun q4 s3 =>
        zfix (F_X12_firstAct_23L x1 v1 v2 q4) zlim ((0 : Int32), s3))))
set_option maxHeartbeats 4000000 in
set_option maxRecDepth 100000 in
theorem p_X12_firstAct_0 {G : zG} {C : zC} {r : Int32} {τ : zSt} (hR : zR G C (some .int) (some (.int r)) τ) (x1 : Int32) (σ : zSt) (h : F_X12_firstAct_0 x1 σ = some (r, τ)) : zAW G 5 RX12 cX12_firstAct 7 C 0 [(0, .ref (zad G 69)), (1, .int x1)] [] σ := by
  unfold F_X12_firstAct_0 at h
  refine z_iload e_X12_firstAct_0 1 rfl ?_
  refine z_ic e_X12_firstAct_1 ?_
  refine z_idiv e_X12_firstAct_3 (by decide) ?_
  refine z_nmI h (fun v1 h => ?_)
  refine z_istore e_X12_firstAct_4 (by decide) [(2, .int v1), (0, .ref (zad G 69)), (1, .int x1)] rfl ?_
  refine z_iload e_X12_firstAct_5 2 rfl ?_
  refine z_ic e_X12_firstAct_6 ?_
  refine z_idiv e_X12_firstAct_7 (by decide) ?_
  refine z_ic e_X12_firstAct_8 ?_
  refine z_irem e_X12_firstAct_10 (by decide) ?_
  refine z_nmI h (fun v2 h => ?_)
  refine z_istore e_X12_firstAct_11 (by decide) [(3, .int v2), (2, .int v1), (0, .ref (zad G 69)), (1, .int x1)] rfl ?_
  refine z_aload e_X12_firstAct_12 2 rfl ?_
  refine z_iload e_X12_firstAct_13 1 rfl ?_
  refine z_iload e_X12_firstAct_14 0 rfl ?_
  obtain ⟨q4, s3, e5, h⟩ := bd_e h
  refine z_callVi (c0 := 69) (As := [.int v1, .int v2]) (rest := []) lk_X12_393 ob_69 e_X12_firstAct_15 (m_X12_keysWith G v1 v2 σ _ _ e5) (by decide) rfl (Nat.le_of_ble_eq_true rfl) ?_
  refine z_istore e_X12_firstAct_18 (by decide) [(4, .int q4), (3, .int v2), (2, .int v1), (0, .ref (zad G 69)), (1, .int x1)] rfl ?_
  refine z_ic e_X12_firstAct_20 ?_
  refine z_istore e_X12_firstAct_21 (by decide) [(5, .int (0 : Int32)), (4, .int q4), (3, .int v2), (2, .int v1), (0, .ref (zad G 69)), (1, .int x1)] rfl ?_
  exact z_sub [4, 5, 3, 2, 1, 0] rfl (l_X12_firstAct_23 hR x1 v1 v2 q4 zlim (0 : Int32) s3 h)
noncomputable def F_X12_firstAct (x1 : Int32) (σ : zSt) : Option (Int32 × zSt) := F_X12_firstAct_0 x1 σ
set_option maxRecDepth 100000 in
theorem m_X12_firstAct (G : zG) (x1 : Int32) (σ : zSt) (q : Int32) (τ : zSt) (h : F_X12_firstAct x1 σ = some (q, τ)) : zM G 5 yX12_firstAct cX12_firstAct 7 (some .int) [.ref (zad G 69), .int x1] σ (some (.int q)) τ := by
  unfold F_X12_firstAct at h
  refine zM.of (own := RX12) (by decide +kernel) rfl (Nat.le_of_ble_eq_true rfl) (fun C hR => ?_)
  exact z_sub [0, 1] rfl (p_X12_firstAct_0 hR x1 σ h)
noncomputable def F_X12_plan_71 (x1 : Int32) (w71 : (Int32 × Int32 × Int32 × zSt) → Option (Int32 × zSt)) (x3 : Int32) (x4 : Int32) (x5 : Int32) (σ : zSt) : Option (Int32 × zSt) :=
  if x1 < x5 then (
    some (x4, σ))
  else (
    bd (F_X12_firstAct x3 σ) (fun q19 s18 =>
      bd (F_X12_keysWith (x3 / (108 : Int32)) ((x3 / (4 : Int32)) % (27 : Int32)) s18) (fun q22 s21 =>
        bd (F_X12_behind (x3 / (108 : Int32)) ((x3 / (4 : Int32)) % (27 : Int32)) (x3 % (4 : Int32)) q22 (q19 / (10 : Int32)) (q19 % (10 : Int32)) s21) (fun q25 s24 =>
          nm (x5 + (1 : Int32)) (fun v27 =>
            w71 (q25, q19, v27, s24))))))
set_option maxHeartbeats 4000000 in
set_option maxRecDepth 100000 in
theorem b_X12_plan_71 {G : zG} {C : zC} {r : Int32} {τ : zSt} (hR : zR G C (some .int) (some (.int r)) τ) (x1 : Int32) (w71 : (Int32 × Int32 × Int32 × zSt) → Option (Int32 × zSt)) (hw71 : ∀ (x3 : Int32) (x4 : Int32) (x5 : Int32) (σ : zSt), w71 (x3, x4, x5, σ) = some (r, τ) → zAW G 8 RX12 cX12_plan 6 C 71 [(0, .ref (zad G 69)), (1, .int x1), (3, .int x3), (4, .int x4), (5, .int x5)] [] σ) (x3 : Int32) (x4 : Int32) (x5 : Int32) (σ : zSt) (h : F_X12_plan_71 x1 w71 x3 x4 x5 σ = some (r, τ)) : zAW G 8 RX12 cX12_plan 6 C 71 [(0, .ref (zad G 69)), (1, .int x1), (3, .int x3), (4, .int x4), (5, .int x5)] [] σ := by
  unfold F_X12_plan_71 at h
  refine z_iload e_X12_plan_71 4 rfl ?_
  refine z_iload e_X12_plan_73 1 rfl ?_
  refine z_icmp_gt e_X12_plan_74 h (fun c17 h => ?_) (fun c17 h => ?_)
  · refine z_iload e_X12_plan_132 3 rfl ?_
    cases h
    exact z_ireturn hR e_X12_plan_134
  · refine z_aload e_X12_plan_77 0 rfl ?_
    refine z_iload e_X12_plan_78 2 rfl ?_
    obtain ⟨q19, s18, e20, h⟩ := bd_e h
    refine z_callVi (c0 := 69) (As := [.int x3]) (rest := []) lk_X12_407 ob_69 e_X12_plan_79 (m_X12_firstAct G x3 σ _ _ e20) (by decide) rfl (Nat.le_of_ble_eq_true rfl) ?_
    refine z_istore e_X12_plan_82 (by decide) [(4, .int q19), (0, .ref (zad G 69)), (1, .int x1), (3, .int x3), (5, .int x5)] rfl ?_
    refine z_aload e_X12_plan_84 1 rfl ?_
    refine z_iload e_X12_plan_85 3 rfl ?_
    refine z_ic e_X12_plan_86 ?_
    refine z_idiv e_X12_plan_88 (by decide) ?_
    refine z_iload e_X12_plan_89 3 rfl ?_
    refine z_ic e_X12_plan_90 ?_
    refine z_idiv e_X12_plan_91 (by decide) ?_
    refine z_ic e_X12_plan_92 ?_
    refine z_irem e_X12_plan_94 (by decide) ?_
    refine z_iload e_X12_plan_95 3 rfl ?_
    refine z_ic e_X12_plan_96 ?_
    refine z_irem e_X12_plan_97 (by decide) ?_
    refine z_aload e_X12_plan_98 1 rfl ?_
    refine z_iload e_X12_plan_99 3 rfl ?_
    refine z_ic e_X12_plan_100 ?_
    refine z_idiv e_X12_plan_102 (by decide) ?_
    refine z_iload e_X12_plan_103 3 rfl ?_
    refine z_ic e_X12_plan_104 ?_
    refine z_idiv e_X12_plan_105 (by decide) ?_
    refine z_ic e_X12_plan_106 ?_
    refine z_irem e_X12_plan_108 (by decide) ?_
    obtain ⟨q22, s21, e23, h⟩ := bd_e h
    refine z_callVi (c0 := 69) (As := [.int (x3 / (108 : Int32)), .int ((x3 / (4 : Int32)) % (27 : Int32))]) (rest := [.int (x3 % (4 : Int32)), .int ((x3 / (4 : Int32)) % (27 : Int32)), .int (x3 / (108 : Int32)), .ref (zad G 69)]) lk_X12_393 ob_69 e_X12_plan_109 (m_X12_keysWith G (x3 / (108 : Int32)) ((x3 / (4 : Int32)) % (27 : Int32)) s18 _ _ e23) (by decide) rfl (Nat.le_of_ble_eq_true rfl) ?_
    refine z_iload e_X12_plan_112 0 rfl ?_
    refine z_ic e_X12_plan_114 ?_
    refine z_idiv e_X12_plan_116 (by decide) ?_
    refine z_iload e_X12_plan_117 0 rfl ?_
    refine z_ic e_X12_plan_119 ?_
    refine z_irem e_X12_plan_121 (by decide) ?_
    obtain ⟨q25, s24, e26, h⟩ := bd_e h
    refine z_callVi (c0 := 69) (As := [.int (x3 / (108 : Int32)), .int ((x3 / (4 : Int32)) % (27 : Int32)), .int (x3 % (4 : Int32)), .int q22, .int (q19 / (10 : Int32)), .int (q19 % (10 : Int32))]) (rest := []) lk_X12_383 ob_69 e_X12_plan_122 (m_X12_behind G (x3 / (108 : Int32)) ((x3 / (4 : Int32)) % (27 : Int32)) (x3 % (4 : Int32)) q22 (q19 / (10 : Int32)) (q19 % (10 : Int32)) s21 _ _ e26) (by decide) rfl (Nat.le_of_ble_eq_true rfl) ?_
    refine z_istore e_X12_plan_125 (by decide) [(3, .int q25), (4, .int q19), (0, .ref (zad G 69)), (1, .int x1), (5, .int x5)] rfl ?_
    refine z_iinc e_X12_plan_126 4 rfl (by decide) (by decide) h (fun y => [(5, .int y), (3, .int q25), (4, .int q19), (0, .ref (zad G 69)), (1, .int x1)]) (fun _ => rfl) (fun v27 h => ?_)
    refine z_goto e_X12_plan_129 ?_
    exact z_sub [3, 4, 1, 2, 0] rfl (hw71 q25 q19 v27 s24 h)
noncomputable def F_X12_plan_71L (x1 : Int32) : ((Int32 × Int32 × Int32 × zSt) → Option (Int32 × zSt)) → (Int32 × Int32 × Int32 × zSt) → Option (Int32 × zSt) := fun w s => F_X12_plan_71 x1 w s.1 s.2.1 s.2.2.1 s.2.2.2
set_option maxRecDepth 100000 in
theorem l_X12_plan_71 {G : zG} {C : zC} {r : Int32} {τ : zSt} (hR : zR G C (some .int) (some (.int r)) τ) (x1 : Int32) : ∀ (N : Nat) (x3 : Int32) (x4 : Int32) (x5 : Int32) (σ : zSt), zfix (F_X12_plan_71L x1) N (x3, x4, x5, σ) = some (r, τ) → zAW G 8 RX12 cX12_plan 6 C 71 [(0, .ref (zad G 69)), (1, .int x1), (3, .int x3), (4, .int x4), (5, .int x5)] [] σ := by
  intro N
  induction N with
  | zero =>
    intro x3 x4 x5 σ h
    exact nomatch (show (none : Option (Int32 × zSt)) = some (r, τ) from h)
  | succ N ih =>
    intro x3 x4 x5 σ h
    exact b_X12_plan_71 hR x1 (zfix (F_X12_plan_71L x1) N) ih x3 x4 x5 σ h
noncomputable def F_X12_plan_0 (x1 : Int32) (σ : zSt) : Option (Int32 × zSt) :=
  bd (F_X12_isPlace (σ.1 69 2) σ) (fun q2 s1 =>
    if q2 = 0 then (
      some ((-1 : Int32), s1))
    else (
      bd (F_X12_solves (0 : Int32) s1) (fun q6 s5 =>
        if q6 = (1000000000 : Int32) then (
          some ((-2 : Int32), s5))
        else (
          if x1 = (-1 : Int32) then (
            some ((q6 % (1024 : Int32)), s5))
          else (
            bd (F_X12_in x1 (0 : Int32) ((q6 % (1024 : Int32)) - (1 : Int32)) s5) (fun q11 s10 =>
              if q11 = 0 then (
                some ((-3 : Int32), s10))
              else (
                bd (F_X12_stateOf (0 : Int32) (0 : Int32) (0 : Int32) s10) (fun q15 s14 =>
                  zfix (F_X12_plan_71L x1) zlim (q15, (0 : Int32), (0 : Int32), s14)))))))))
set_option maxHeartbeats 4000000 in
set_option maxRecDepth 100000 in
theorem p_X12_plan_0 {G : zG} {C : zC} {r : Int32} {τ : zSt} (hR : zR G C (some .int) (some (.int r)) τ) (x1 : Int32) (σ : zSt) (h : F_X12_plan_0 x1 σ = some (r, τ)) : zAW G 8 RX12 cX12_plan 6 C 0 [(0, .ref (zad G 69)), (1, .int x1)] [] σ := by
  unfold F_X12_plan_0 at h
  refine z_aload e_X12_plan_0 0 rfl ?_
  refine z_aload e_X12_plan_1 0 rfl ?_
  refine z_geti gf_X12_173_69 e_X12_plan_2 ?_
  obtain ⟨q2, s1, e3, h⟩ := bd_e h
  refine z_callVi (c0 := 69) (As := [.int (σ.1 69 2)]) (rest := []) lk_X12_167 ob_69 e_X12_plan_5 (m_X12_isPlace G (σ.1 69 2) σ _ _ e3) (by decide) rfl (Nat.le_of_ble_eq_true rfl) ?_
  refine z_if_ne e_X12_plan_8 h (fun c4 h => ?_) (fun c4 h => ?_)
  · refine z_ic e_X12_plan_11 ?_
    cases h
    exact z_ireturn hR e_X12_plan_12
  · refine z_aload e_X12_plan_13 0 rfl ?_
    refine z_ic e_X12_plan_14 ?_
    obtain ⟨q6, s5, e7, h⟩ := bd_e h
    refine z_callVi (c0 := 69) (As := [.int (0 : Int32)]) (rest := []) lk_X12_403 ob_69 e_X12_plan_15 (m_X12_solves G (0 : Int32) s1 _ _ e7) (by decide) rfl (Nat.le_of_ble_eq_true rfl) ?_
    refine z_istore e_X12_plan_18 (by decide) [(2, .int q6), (0, .ref (zad G 69)), (1, .int x1)] rfl ?_
    refine z_iload e_X12_plan_19 0 rfl ?_
    refine z_ldcw cs_X12_382 e_X12_plan_20 ?_
    refine z_icmp_ne e_X12_plan_23 h (fun c8 h => ?_) (fun c8 h => ?_)
    · refine z_ic e_X12_plan_26 ?_
      cases h
      exact z_ireturn hR e_X12_plan_28
    · refine z_iload e_X12_plan_29 2 rfl ?_
      refine z_ic e_X12_plan_30 ?_
      refine z_icmp_ne e_X12_plan_31 h (fun c9 h => ?_) (fun c9 h => ?_)
      · refine z_iload e_X12_plan_34 0 rfl ?_
        refine z_ic e_X12_plan_35 ?_
        refine z_irem e_X12_plan_38 (by decide) ?_
        cases h
        exact z_ireturn hR e_X12_plan_39
      · refine z_iload e_X12_plan_40 2 rfl ?_
        refine z_ic e_X12_plan_41 ?_
        refine z_iload e_X12_plan_42 0 rfl ?_
        refine z_ic e_X12_plan_43 ?_
        refine z_irem e_X12_plan_46 (by decide) ?_
        refine z_ic e_X12_plan_47 ?_
        refine z_isub e_X12_plan_48 ?_
        obtain ⟨q11, s10, e12, h⟩ := bd_e h
        refine z_callSi (As := [.int x1, .int (0 : Int32), .int ((q6 % (1024 : Int32)) - (1 : Int32))]) (rest := []) lk_X12_163 e_X12_plan_49 (m_X12_in G x1 (0 : Int32) ((q6 % (1024 : Int32)) - (1 : Int32)) s5 _ _ e12) (by decide) rfl (Nat.le_of_ble_eq_true rfl) ?_
        refine z_if_ne e_X12_plan_52 h (fun c13 h => ?_) (fun c13 h => ?_)
        · refine z_ic e_X12_plan_55 ?_
          cases h
          exact z_ireturn hR e_X12_plan_57
        · refine z_ic e_X12_plan_58 ?_
          refine z_ic e_X12_plan_59 ?_
          refine z_ic e_X12_plan_60 ?_
          obtain ⟨q15, s14, e16, h⟩ := bd_e h
          refine z_callSi (As := [.int (0 : Int32), .int (0 : Int32), .int (0 : Int32)]) (rest := []) lk_X12_375 e_X12_plan_61 (m_X12_stateOf G (0 : Int32) (0 : Int32) (0 : Int32) s10 _ _ e16) (by decide) rfl (Nat.le_of_ble_eq_true rfl) ?_
          refine z_istore e_X12_plan_64 (by decide) [(3, .int q15), (2, .int q6), (0, .ref (zad G 69)), (1, .int x1)] rfl ?_
          refine z_ic e_X12_plan_65 ?_
          refine z_istore e_X12_plan_66 (by decide) [(4, .int (0 : Int32)), (3, .int q15), (2, .int q6), (0, .ref (zad G 69)), (1, .int x1)] rfl ?_
          refine z_ic e_X12_plan_68 ?_
          refine z_istore e_X12_plan_69 (by decide) [(5, .int (0 : Int32)), (4, .int (0 : Int32)), (3, .int q15), (2, .int q6), (0, .ref (zad G 69)), (1, .int x1)] rfl ?_
          exact z_sub [4, 5, 2, 1, 0] rfl (l_X12_plan_71 hR x1 zlim q15 (0 : Int32) (0 : Int32) s14 h)
noncomputable def F_X12_plan (x1 : Int32) (σ : zSt) : Option (Int32 × zSt) := F_X12_plan_0 x1 σ
set_option maxRecDepth 100000 in
theorem m_X12_plan (G : zG) (x1 : Int32) (σ : zSt) (q : Int32) (τ : zSt) (h : F_X12_plan x1 σ = some (q, τ)) : zM G 8 yX12_plan cX12_plan 6 (some .int) [.ref (zad G 69), .int x1] σ (some (.int q)) τ := by
  unfold F_X12_plan at h
  refine zM.of (own := RX12) (by decide +kernel) rfl (Nat.le_of_ble_eq_true rfl) (fun C hR => ?_)
  exact z_sub [0, 1] rfl (p_X12_plan_0 hR x1 σ h)
noncomputable def F_X5_putKey_0 (x1 : Int32) (x2 : Int32) (σ : zSt) : Option (Unit × zSt) :=
  bd (F_X11_isBelow x1 (8 : Int32) σ) (fun q2 s1 =>
    if q2 = 0 then (
      some ((), s1))
    else (
      gd (vp_in x1 8) (nm (zwr s1 21 x1.toNatClampNeg x2) (fun s5 =>
        bd (F_X5_learnMouths s5) (fun _ s6 =>
          some ((), s6))))))
set_option maxHeartbeats 4000000 in
set_option maxRecDepth 100000 in
theorem p_X5_putKey_0 {G : zG} {C : zC} {r : Unit} {τ : zSt} (hR : zR G C none none τ) (x1 : Int32) (x2 : Int32) (σ : zSt) (h : F_X5_putKey_0 x1 x2 σ = some (r, τ)) : zAW G 2 RX5 cX5_putKey 3 C 0 [(0, .ref (zad G 17)), (1, .int x1), (2, .int x2)] [] σ := by
  unfold F_X5_putKey_0 at h
  refine z_iload e_X5_putKey_0 1 rfl ?_
  refine z_ic e_X5_putKey_1 ?_
  obtain ⟨q2, s1, e3, h⟩ := bd_e h
  refine z_callNi (As := [.int x1, .int (8 : Int32)]) (rest := []) lk_X5_34 e_X5_putKey_3 (m_X11_isBelow G x1 (8 : Int32) σ _ _ e3) (by decide) rfl (Nat.le_of_ble_eq_true rfl) ?_
  refine z_if_eq e_X5_putKey_6 h (fun c4 h => ?_) (fun c4 h => ?_)
  · cases h
    exact z_vreturn hR e_X5_putKey_20
  · refine z_aload e_X5_putKey_9 0 rfl ?_
    refine z_getr gf_X5_21_17 e_X5_putKey_10 ?_
    refine z_iload e_X5_putKey_13 1 rfl ?_
    refine z_iload e_X5_putKey_14 2 rfl ?_
    refine z_iast sh_21 e_X5_putKey_15 h (fun s5 h => ?_)
    refine z_aload e_X5_putKey_16 0 rfl ?_
    obtain ⟨q7, s6, e8, h⟩ := bd_e h
    refine z_callVv (c0 := 17) (As := []) (rest := []) lk_X5_66 ob_17 e_X5_putKey_17 (m_X5_learnMouths G s5 _ _ e8) (by decide) rfl (Nat.le_of_ble_eq_true rfl) ?_
    cases h
    exact z_vreturn hR e_X5_putKey_20
noncomputable def F_X5_putKey (x1 : Int32) (x2 : Int32) (σ : zSt) : Option (Unit × zSt) := F_X5_putKey_0 x1 x2 σ
set_option maxRecDepth 100000 in
theorem m_X5_putKey (G : zG) (x1 : Int32) (x2 : Int32) (σ : zSt) (q : Unit) (τ : zSt) (h : F_X5_putKey x1 x2 σ = some (q, τ)) : zM G 2 yX5_putKey cX5_putKey 3 none [.ref (zad G 17), .int x1, .int x2] σ none τ := by
  unfold F_X5_putKey at h
  refine zM.of (own := RX5) (by decide +kernel) rfl (Nat.le_of_ble_eq_true rfl) (fun C hR => ?_)
  exact z_sub [0, 1, 2] rfl (p_X5_putKey_0 hR x1 x2 σ h)
noncomputable def F_X11_missed_0 (x1 : Int32) (σ : zSt) : Option (Int32 × zSt) :=
  bd (F_X11_isBelow x1 (8 : Int32) σ) (fun q2 s1 =>
    if q2 = 0 then (
      some ((-1 : Int32), s1))
    else (
      bd (F_X11_heartIsTold s1) (fun q6 s5 =>
        if q6 = 0 then (
          some ((-1 : Int32), s5))
        else (
          bd (F_X5_learn s5) (fun _ s9 =>
            bd (F_X4_search (0 : Int32) s9) (fun q13 s12 =>
              if q13 = 0 then (
                some ((-3 : Int32), s12))
              else (
                bd (F_X4_days s12) (fun q17 s16 =>
                  bd (F_X5_putKey x1 (-1 : Int32) s16) (fun _ s19 =>
                    bd (F_X4_search (0 : Int32) s19) (fun q23 s22 =>
                      if q23 = 0 then (
                        some ((-2 : Int32), s22))
                      else (
                        bd (F_X4_days s22) (fun q27 s26 =>
                          some ((q27 - q17), s26)))))))))))))
set_option maxHeartbeats 4000000 in
set_option maxRecDepth 100000 in
theorem p_X11_missed_0 {G : zG} {C : zC} {r : Int32} {τ : zSt} (hR : zR G C (some .int) (some (.int r)) τ) (x1 : Int32) (σ : zSt) (h : F_X11_missed_0 x1 σ = some (r, τ)) : zAW G 7 RX11 cX11_missed 3 C 0 [(0, .ref (zad G 0)), (1, .int x1)] [] σ := by
  unfold F_X11_missed_0 at h
  refine z_iload e_X11_missed_0 1 rfl ?_
  refine z_ic e_X11_missed_1 ?_
  obtain ⟨q2, s1, e3, h⟩ := bd_e h
  refine z_callSi (As := [.int x1, .int (8 : Int32)]) (rest := []) lk_X11_104 e_X11_missed_3 (m_X11_isBelow G x1 (8 : Int32) σ _ _ e3) (by decide) rfl (Nat.le_of_ble_eq_true rfl) ?_
  refine z_if_eq e_X11_missed_6 h (fun c4 h => ?_) (fun c4 h => ?_)
  · refine z_ic e_X11_missed_16 ?_
    cases h
    exact z_ireturn hR e_X11_missed_17
  · refine z_aload e_X11_missed_9 0 rfl ?_
    obtain ⟨q6, s5, e7, h⟩ := bd_e h
    refine z_callVi (c0 := 0) (As := []) (rest := []) lk_X11_159 ob_0 e_X11_missed_10 (m_X11_heartIsTold G s1 _ _ e7) (by decide) rfl (Nat.le_of_ble_eq_true rfl) ?_
    refine z_if_ne e_X11_missed_13 h (fun c8 h => ?_) (fun c8 h => ?_)
    · refine z_ic e_X11_missed_16 ?_
      cases h
      exact z_ireturn hR e_X11_missed_17
    · refine z_aload e_X11_missed_18 0 rfl ?_
      refine z_getr gf_X11_50_0 e_X11_missed_19 ?_
      obtain ⟨q10, s9, e11, h⟩ := bd_e h
      refine z_callVv (c0 := 17) (As := []) (rest := []) lk_X11_163 ob_17 e_X11_missed_22 (m_X5_learn G s5 _ _ e11) (by decide) rfl (Nat.le_of_ble_eq_true rfl) ?_
      refine z_aload e_X11_missed_25 0 rfl ?_
      refine z_getr gf_X11_66_0 e_X11_missed_26 ?_
      refine z_ic e_X11_missed_29 ?_
      obtain ⟨q13, s12, e14, h⟩ := bd_e h
      refine z_callVi (c0 := 47) (As := [.int (0 : Int32)]) (rest := []) lk_X11_166 ob_47 e_X11_missed_30 (m_X4_search G (0 : Int32) s9 _ _ e14) (by decide) rfl (Nat.le_of_ble_eq_true rfl) ?_
      refine z_if_ne e_X11_missed_33 h (fun c15 h => ?_) (fun c15 h => ?_)
      · refine z_ic e_X11_missed_36 ?_
        cases h
        exact z_ireturn hR e_X11_missed_38
      · refine z_aload e_X11_missed_39 0 rfl ?_
        refine z_getr gf_X11_66_0 e_X11_missed_40 ?_
        obtain ⟨q17, s16, e18, h⟩ := bd_e h
        refine z_callVi (c0 := 47) (As := []) (rest := []) lk_X11_170 ob_47 e_X11_missed_43 (m_X4_days G s12 _ _ e18) (by decide) rfl (Nat.le_of_ble_eq_true rfl) ?_
        refine z_istore e_X11_missed_46 (by decide) [(2, .int q17), (0, .ref (zad G 0)), (1, .int x1)] rfl ?_
        refine z_aload e_X11_missed_47 1 rfl ?_
        refine z_getr gf_X11_50_0 e_X11_missed_48 ?_
        refine z_iload e_X11_missed_51 2 rfl ?_
        refine z_ic e_X11_missed_52 ?_
        obtain ⟨q20, s19, e21, h⟩ := bd_e h
        refine z_callVv (c0 := 17) (As := [.int x1, .int (-1 : Int32)]) (rest := []) lk_X11_184 ob_17 e_X11_missed_53 (m_X5_putKey G x1 (-1 : Int32) s16 _ _ e21) (by decide) rfl (Nat.le_of_ble_eq_true rfl) ?_
        refine z_aload e_X11_missed_56 1 rfl ?_
        refine z_getr gf_X11_66_0 e_X11_missed_57 ?_
        refine z_ic e_X11_missed_60 ?_
        obtain ⟨q23, s22, e24, h⟩ := bd_e h
        refine z_callVi (c0 := 47) (As := [.int (0 : Int32)]) (rest := []) lk_X11_166 ob_47 e_X11_missed_61 (m_X4_search G (0 : Int32) s19 _ _ e24) (by decide) rfl (Nat.le_of_ble_eq_true rfl) ?_
        refine z_if_eq e_X11_missed_64 h (fun c25 h => ?_) (fun c25 h => ?_)
        · refine z_ic e_X11_missed_79 ?_
          cases h
          exact z_ireturn hR e_X11_missed_81
        · refine z_aload e_X11_missed_67 1 rfl ?_
          refine z_getr gf_X11_66_0 e_X11_missed_68 ?_
          obtain ⟨q27, s26, e28, h⟩ := bd_e h
          refine z_callVi (c0 := 47) (As := []) (rest := []) lk_X11_170 ob_47 e_X11_missed_71 (m_X4_days G s22 _ _ e28) (by decide) rfl (Nat.le_of_ble_eq_true rfl) ?_
          refine z_iload e_X11_missed_74 0 rfl ?_
          refine z_isub e_X11_missed_75 ?_
          refine z_goto e_X11_missed_76 ?_
          cases h
          exact z_ireturn hR e_X11_missed_81
noncomputable def F_X11_missed (x1 : Int32) (σ : zSt) : Option (Int32 × zSt) := F_X11_missed_0 x1 σ
set_option maxRecDepth 100000 in
theorem m_X11_missed (G : zG) (x1 : Int32) (σ : zSt) (q : Int32) (τ : zSt) (h : F_X11_missed x1 σ = some (q, τ)) : zM G 7 yX11_missed cX11_missed 3 (some .int) [.ref (zad G 0), .int x1] σ (some (.int q)) τ := by
  unfold F_X11_missed at h
  refine zM.of (own := RX11) (by decide +kernel) rfl (Nat.le_of_ble_eq_true rfl) (fun C hR => ?_)
  exact z_sub [0, 1] rfl (p_X11_missed_0 hR x1 σ h)
noncomputable def F_X12_missed_0 (x1 : Int32) (σ : zSt) : Option (Int32 × zSt) :=
  bd (F_X12_isEight x1 σ) (fun q2 s1 =>
    if q2 = 0 then (
      some ((-1 : Int32), s1))
    else (
      bd (F_X12_isPlace (s1.1 69 2) s1) (fun q6 s5 =>
        if q6 = 0 then (
          some ((-1 : Int32), s5))
        else (
          bd (F_X12_solves (0 : Int32) s5) (fun q10 s9 =>
            if q10 = (1000000000 : Int32) then (
              some ((-3 : Int32), s9))
            else (
              gd (vp_in x1 8) (
                nm (s9.1 75 x1.toNatClampNeg) (fun v13 =>
                  gd (vp_in x1 8) (nm (zwr s9 75 x1.toNatClampNeg (-2 : Int32)) (fun s14 =>
                    bd (F_X12_solves (0 : Int32) s14) (fun q16 s15 =>
                      gd (vp_in x1 8) (nm (zwr s15 75 x1.toNatClampNeg v13) (fun s18 =>
                        if q16 = (1000000000 : Int32) then (
                          some ((-2 : Int32), s18))
                        else (
                          some (((q16 / (1024 : Int32)) - (q10 / (1024 : Int32))), s18)))))))))))))))
set_option maxHeartbeats 4000000 in
set_option maxRecDepth 100000 in
theorem p_X12_missed_0 {G : zG} {C : zC} {r : Int32} {τ : zSt} (hR : zR G C (some .int) (some (.int r)) τ) (x1 : Int32) (σ : zSt) (h : F_X12_missed_0 x1 σ = some (r, τ)) : zAW G 8 RX12 cX12_missed 5 C 0 [(0, .ref (zad G 69)), (1, .int x1)] [] σ := by
  unfold F_X12_missed_0 at h
  refine z_iload e_X12_missed_0 1 rfl ?_
  obtain ⟨q2, s1, e3, h⟩ := bd_e h
  refine z_callSi (As := [.int x1]) (rest := []) lk_X12_149 e_X12_missed_1 (m_X12_isEight G x1 σ _ _ e3) (by decide) rfl (Nat.le_of_ble_eq_true rfl) ?_
  refine z_if_eq e_X12_missed_4 h (fun c4 h => ?_) (fun c4 h => ?_)
  · refine z_ic e_X12_missed_18 ?_
    cases h
    exact z_ireturn hR e_X12_missed_19
  · refine z_aload e_X12_missed_7 0 rfl ?_
    refine z_aload e_X12_missed_8 0 rfl ?_
    refine z_geti gf_X12_173_69 e_X12_missed_9 ?_
    obtain ⟨q6, s5, e7, h⟩ := bd_e h
    refine z_callVi (c0 := 69) (As := [.int (s1.1 69 2)]) (rest := []) lk_X12_167 ob_69 e_X12_missed_12 (m_X12_isPlace G (s1.1 69 2) s1 _ _ e7) (by decide) rfl (Nat.le_of_ble_eq_true rfl) ?_
    refine z_if_ne e_X12_missed_15 h (fun c8 h => ?_) (fun c8 h => ?_)
    · refine z_ic e_X12_missed_18 ?_
      cases h
      exact z_ireturn hR e_X12_missed_19
    · refine z_aload e_X12_missed_20 0 rfl ?_
      refine z_ic e_X12_missed_21 ?_
      obtain ⟨q10, s9, e11, h⟩ := bd_e h
      refine z_callVi (c0 := 69) (As := [.int (0 : Int32)]) (rest := []) lk_X12_403 ob_69 e_X12_missed_22 (m_X12_solves G (0 : Int32) s5 _ _ e11) (by decide) rfl (Nat.le_of_ble_eq_true rfl) ?_
      refine z_istore e_X12_missed_25 (by decide) [(2, .int q10), (0, .ref (zad G 69)), (1, .int x1)] rfl ?_
      refine z_iload e_X12_missed_26 0 rfl ?_
      refine z_ldcw cs_X12_382 e_X12_missed_27 ?_
      refine z_icmp_ne e_X12_missed_30 h (fun c12 h => ?_) (fun c12 h => ?_)
      · refine z_ic e_X12_missed_33 ?_
        cases h
        exact z_ireturn hR e_X12_missed_35
      · refine z_aload e_X12_missed_36 1 rfl ?_
        refine z_getr gf_X12_25_69 e_X12_missed_37 ?_
        refine z_iload e_X12_missed_40 2 rfl ?_
        refine z_iald sh_75 e_X12_missed_41 h (fun h => ?_)
        refine z_nmI h (fun v13 h => ?_)
        refine z_istore e_X12_missed_42 (by decide) [(3, .int v13), (2, .int q10), (0, .ref (zad G 69)), (1, .int x1)] rfl ?_
        refine z_aload e_X12_missed_43 2 rfl ?_
        refine z_getr gf_X12_25_69 e_X12_missed_44 ?_
        refine z_iload e_X12_missed_47 3 rfl ?_
        refine z_ic e_X12_missed_48 ?_
        refine z_iast sh_75 e_X12_missed_50 h (fun s14 h => ?_)
        refine z_aload e_X12_missed_51 2 rfl ?_
        refine z_ic e_X12_missed_52 ?_
        obtain ⟨q16, s15, e17, h⟩ := bd_e h
        refine z_callVi (c0 := 69) (As := [.int (0 : Int32)]) (rest := []) lk_X12_403 ob_69 e_X12_missed_53 (m_X12_solves G (0 : Int32) s14 _ _ e17) (by decide) rfl (Nat.le_of_ble_eq_true rfl) ?_
        refine z_istore e_X12_missed_56 (by decide) [(4, .int q16), (3, .int v13), (2, .int q10), (0, .ref (zad G 69)), (1, .int x1)] rfl ?_
        refine z_aload e_X12_missed_58 3 rfl ?_
        refine z_getr gf_X12_25_69 e_X12_missed_59 ?_
        refine z_iload e_X12_missed_62 4 rfl ?_
        refine z_iload e_X12_missed_63 1 rfl ?_
        refine z_iast sh_75 e_X12_missed_64 h (fun s18 h => ?_)
        refine z_iload e_X12_missed_65 0 rfl ?_
        refine z_ldcw cs_X12_382 e_X12_missed_67 ?_
        refine z_icmp_ne e_X12_missed_70 h (fun c19 h => ?_) (fun c19 h => ?_)
        · refine z_ic e_X12_missed_73 ?_
          refine z_goto e_X12_missed_75 ?_
          cases h
          exact z_ireturn hR e_X12_missed_90
        · refine z_iload e_X12_missed_78 0 rfl ?_
          refine z_ic e_X12_missed_80 ?_
          refine z_idiv e_X12_missed_83 (by decide) ?_
          refine z_iload e_X12_missed_84 2 rfl ?_
          refine z_ic e_X12_missed_85 ?_
          refine z_idiv e_X12_missed_88 (by decide) ?_
          refine z_isub e_X12_missed_89 ?_
          cases h
          exact z_ireturn hR e_X12_missed_90
noncomputable def F_X12_missed (x1 : Int32) (σ : zSt) : Option (Int32 × zSt) := F_X12_missed_0 x1 σ
set_option maxRecDepth 100000 in
theorem m_X12_missed (G : zG) (x1 : Int32) (σ : zSt) (q : Int32) (τ : zSt) (h : F_X12_missed x1 σ = some (q, τ)) : zM G 8 yX12_missed cX12_missed 5 (some .int) [.ref (zad G 69), .int x1] σ (some (.int q)) τ := by
  unfold F_X12_missed at h
  refine zM.of (own := RX12) (by decide +kernel) rfl (Nat.le_of_ble_eq_true rfl) (fun C hR => ?_)
  exact z_sub [0, 1] rfl (p_X12_missed_0 hR x1 σ h)
noncomputable def F_J6_bitCount_0f7a4_0 (x0 : Int32) (σ : zSt) : Option (Int32 × zSt) :=
  nm (x0 - ((zushr x0 (1 : Int32)) &&& (1431655765 : Int32))) (fun v1 =>
    nm ((v1 &&& (858993459 : Int32)) + ((zushr v1 (2 : Int32)) &&& (858993459 : Int32))) (fun v2 =>
      nm ((v2 + (zushr v2 (4 : Int32))) &&& (252645135 : Int32)) (fun v3 =>
        nm (v3 + (zushr v3 (8 : Int32))) (fun v4 =>
          nm (v4 + (zushr v4 (16 : Int32))) (fun v5 =>
            some ((v5 &&& (63 : Int32)), σ))))))
set_option maxHeartbeats 4000000 in
set_option maxRecDepth 100000 in
theorem p_J6_bitCount_0f7a4_0 {G : zG} {C : zC} {r : Int32} {τ : zSt} (hR : zR G C (some .int) (some (.int r)) τ) (x0 : Int32) (σ : zSt) (h : F_J6_bitCount_0f7a4_0 x0 σ = some (r, τ)) : zAW G 1 RJ6 cJ6_bitCount_0f7a4 1 C 0 [(0, .int x0)] [] σ := by
  unfold F_J6_bitCount_0f7a4_0 at h
  refine z_iload e_J6_bitCount_0f7a4_0 0 rfl ?_
  refine z_iload e_J6_bitCount_0f7a4_1 0 rfl ?_
  refine z_ic e_J6_bitCount_0f7a4_2 ?_
  refine z_iushr e_J6_bitCount_0f7a4_3 ?_
  refine z_ldcw cs_J6_265 e_J6_bitCount_0f7a4_4 ?_
  refine z_iand e_J6_bitCount_0f7a4_7 ?_
  refine z_isub e_J6_bitCount_0f7a4_8 ?_
  refine z_nmI h (fun v1 h => ?_)
  refine z_istore e_J6_bitCount_0f7a4_9 (by decide) [(0, .int v1)] rfl ?_
  refine z_iload e_J6_bitCount_0f7a4_10 0 rfl ?_
  refine z_ldcw cs_J6_266 e_J6_bitCount_0f7a4_11 ?_
  refine z_iand e_J6_bitCount_0f7a4_14 ?_
  refine z_iload e_J6_bitCount_0f7a4_15 0 rfl ?_
  refine z_ic e_J6_bitCount_0f7a4_16 ?_
  refine z_iushr e_J6_bitCount_0f7a4_17 ?_
  refine z_ldcw cs_J6_266 e_J6_bitCount_0f7a4_18 ?_
  refine z_iand e_J6_bitCount_0f7a4_21 ?_
  refine z_iadd e_J6_bitCount_0f7a4_22 ?_
  refine z_nmI h (fun v2 h => ?_)
  refine z_istore e_J6_bitCount_0f7a4_23 (by decide) [(0, .int v2)] rfl ?_
  refine z_iload e_J6_bitCount_0f7a4_24 0 rfl ?_
  refine z_iload e_J6_bitCount_0f7a4_25 0 rfl ?_
  refine z_ic e_J6_bitCount_0f7a4_26 ?_
  refine z_iushr e_J6_bitCount_0f7a4_27 ?_
  refine z_iadd e_J6_bitCount_0f7a4_28 ?_
  refine z_ldcw cs_J6_267 e_J6_bitCount_0f7a4_29 ?_
  refine z_iand e_J6_bitCount_0f7a4_32 ?_
  refine z_nmI h (fun v3 h => ?_)
  refine z_istore e_J6_bitCount_0f7a4_33 (by decide) [(0, .int v3)] rfl ?_
  refine z_iload e_J6_bitCount_0f7a4_34 0 rfl ?_
  refine z_iload e_J6_bitCount_0f7a4_35 0 rfl ?_
  refine z_ic e_J6_bitCount_0f7a4_36 ?_
  refine z_iushr e_J6_bitCount_0f7a4_38 ?_
  refine z_iadd e_J6_bitCount_0f7a4_39 ?_
  refine z_nmI h (fun v4 h => ?_)
  refine z_istore e_J6_bitCount_0f7a4_40 (by decide) [(0, .int v4)] rfl ?_
  refine z_iload e_J6_bitCount_0f7a4_41 0 rfl ?_
  refine z_iload e_J6_bitCount_0f7a4_42 0 rfl ?_
  refine z_ic e_J6_bitCount_0f7a4_43 ?_
  refine z_iushr e_J6_bitCount_0f7a4_45 ?_
  refine z_iadd e_J6_bitCount_0f7a4_46 ?_
  refine z_nmI h (fun v5 h => ?_)
  refine z_istore e_J6_bitCount_0f7a4_47 (by decide) [(0, .int v5)] rfl ?_
  refine z_iload e_J6_bitCount_0f7a4_48 0 rfl ?_
  refine z_ic e_J6_bitCount_0f7a4_49 ?_
  refine z_iand e_J6_bitCount_0f7a4_51 ?_
  cases h
  exact z_ireturn hR e_J6_bitCount_0f7a4_52
noncomputable def F_J6_bitCount_0f7a4 (x0 : Int32) (σ : zSt) : Option (Int32 × zSt) := F_J6_bitCount_0f7a4_0 x0 σ
set_option maxRecDepth 100000 in
theorem m_J6_bitCount_0f7a4 (G : zG) (x0 : Int32) (σ : zSt) (q : Int32) (τ : zSt) (h : F_J6_bitCount_0f7a4 x0 σ = some (q, τ)) : zM G 1 yJ6_bitCount_0f7a4 cJ6_bitCount_0f7a4 1 (some .int) [.int x0] σ (some (.int q)) τ := by
  unfold F_J6_bitCount_0f7a4 at h
  refine zM.of (own := RJ6) (by decide +kernel) rfl (Nat.le_of_ble_eq_true rfl) (fun C hR => ?_)
  exact z_sub [0] rfl (p_J6_bitCount_0f7a4_0 hR x0 σ h)
noncomputable def F_X10_areInPlaces_59 (w29 : (Int32 × zSt) → Option (Int32 × zSt)) (x1 : Int32) (x3 : Int32) (σ : zSt) : Option (Int32 × zSt) :=
  nm (x3 + (1 : Int32)) (fun v16 =>
    w29 (v16, σ))
set_option maxHeartbeats 4000000 in
set_option maxRecDepth 100000 in
theorem p_X10_areInPlaces_59 {G : zG} {C : zC} {r : Int32} {τ : zSt} (hR : zR G C (some .boolean) (some (.int r)) τ) (w29 : (Int32 × zSt) → Option (Int32 × zSt)) (x1 : Int32) (x3 : Int32) (hw29 : ∀ (x3 : Int32) (σ : zSt), w29 (x3, σ) = some (r, τ) → zAW G 3 RX10 cX10_areInPlaces 4 C 29 [(0, .ref (zad G 1)), (1, .int x1), (3, .int x3)] [] σ) (σ : zSt) (h : F_X10_areInPlaces_59 w29 x1 x3 σ = some (r, τ)) : zAW G 3 RX10 cX10_areInPlaces 4 C 59 [(0, .ref (zad G 1)), (1, .int x1), (3, .int x3)] [] σ := by
  unfold F_X10_areInPlaces_59 at h
  refine z_iinc e_X10_areInPlaces_59 2 rfl (by decide) (by decide) h (fun y => [(3, .int y), (0, .ref (zad G 1)), (1, .int x1)]) (fun _ => rfl) (fun v16 h => ?_)
  refine z_goto e_X10_areInPlaces_62 ?_
  exact z_sub [1, 2, 0] rfl (hw29 v16 σ h)
noncomputable def F_X10_areInPlaces_29 (x1 : Int32) (w29 : (Int32 × zSt) → Option (Int32 × zSt)) (x3 : Int32) (σ : zSt) : Option (Int32 × zSt) :=
  if (8 : Int32) ≤ x3 then (
    some ((1 : Int32), σ))
  else (
    if ((x1 >>> (x3 &&& 31)) &&& (1 : Int32)) = (1 : Int32) then (
      gd (vp_in x3 8) (
        bd (F_X10_isTold (σ.1 7 x3.toNatClampNeg) σ) (fun q13 s12 =>
          if q13 = 0 then (
            some ((0 : Int32), s12))
          else (
            F_X10_areInPlaces_59 w29 x1 x3 s12))))
    else (
      F_X10_areInPlaces_59 w29 x1 x3 σ))
set_option maxHeartbeats 4000000 in
set_option maxRecDepth 100000 in
theorem b_X10_areInPlaces_29 {G : zG} {C : zC} {r : Int32} {τ : zSt} (hR : zR G C (some .boolean) (some (.int r)) τ) (x1 : Int32) (w29 : (Int32 × zSt) → Option (Int32 × zSt)) (hw29 : ∀ (x3 : Int32) (σ : zSt), w29 (x3, σ) = some (r, τ) → zAW G 3 RX10 cX10_areInPlaces 4 C 29 [(0, .ref (zad G 1)), (1, .int x1), (3, .int x3)] [] σ) (x3 : Int32) (σ : zSt) (h : F_X10_areInPlaces_29 x1 w29 x3 σ = some (r, τ)) : zAW G 3 RX10 cX10_areInPlaces 4 C 29 [(0, .ref (zad G 1)), (1, .int x1), (3, .int x3)] [] σ := by
  unfold F_X10_areInPlaces_29 at h
  refine z_iload e_X10_areInPlaces_29 2 rfl ?_
  refine z_ic e_X10_areInPlaces_30 ?_
  refine z_icmp_ge e_X10_areInPlaces_32 h (fun c10 h => ?_) (fun c10 h => ?_)
  · refine z_ic e_X10_areInPlaces_65 ?_
    cases h
    exact z_zreturn hR e_X10_areInPlaces_66 (Or.inr rfl)
  · refine z_iload e_X10_areInPlaces_35 1 rfl ?_
    refine z_iload e_X10_areInPlaces_36 2 rfl ?_
    refine z_ishr e_X10_areInPlaces_37 ?_
    refine z_ic e_X10_areInPlaces_38 ?_
    refine z_iand e_X10_areInPlaces_39 ?_
    refine z_ic e_X10_areInPlaces_40 ?_
    refine z_icmp_ne e_X10_areInPlaces_41 h (fun c11 h => ?_) (fun c11 h => ?_)
    · refine z_aload e_X10_areInPlaces_44 0 rfl ?_
      refine z_aload e_X10_areInPlaces_45 0 rfl ?_
      refine z_getr gf_X10_27_1 e_X10_areInPlaces_46 ?_
      refine z_iload e_X10_areInPlaces_49 2 rfl ?_
      refine z_iald sh_7 e_X10_areInPlaces_50 h (fun h => ?_)
      obtain ⟨q13, s12, e14, h⟩ := bd_e h
      refine z_callVi (c0 := 1) (As := [.int (σ.1 7 x3.toNatClampNeg)]) (rest := []) lk_X10_68 ob_1 e_X10_areInPlaces_51 (m_X10_isTold G (σ.1 7 x3.toNatClampNeg) σ _ _ e14) (by decide) rfl (Nat.le_of_ble_eq_true rfl) ?_
      refine z_if_ne e_X10_areInPlaces_54 h (fun c15 h => ?_) (fun c15 h => ?_)
      · refine z_ic e_X10_areInPlaces_57 ?_
        cases h
        exact z_zreturn hR e_X10_areInPlaces_58 (Or.inl rfl)
      · exact z_sub [0, 1, 2] rfl (p_X10_areInPlaces_59 hR w29 x1 x3 hw29 s12 h)
    · exact z_sub [0, 1, 2] rfl (p_X10_areInPlaces_59 hR w29 x1 x3 hw29 σ h)
noncomputable def F_X10_areInPlaces_29L (x1 : Int32) : ((Int32 × zSt) → Option (Int32 × zSt)) → (Int32 × zSt) → Option (Int32 × zSt) := fun w s => F_X10_areInPlaces_29 x1 w s.1 s.2
set_option maxRecDepth 100000 in
theorem l_X10_areInPlaces_29 {G : zG} {C : zC} {r : Int32} {τ : zSt} (hR : zR G C (some .boolean) (some (.int r)) τ) (x1 : Int32) : ∀ (N : Nat) (x3 : Int32) (σ : zSt), zfix (F_X10_areInPlaces_29L x1) N (x3, σ) = some (r, τ) → zAW G 3 RX10 cX10_areInPlaces 4 C 29 [(0, .ref (zad G 1)), (1, .int x1), (3, .int x3)] [] σ := by
  intro N
  induction N with
  | zero =>
    intro x3 σ h
    exact nomatch (show (none : Option (Int32 × zSt)) = some (r, τ) from h)
  | succ N ih =>
    intro x3 σ h
    exact b_X10_areInPlaces_29 hR x1 (zfix (F_X10_areInPlaces_29L x1) N) ih x3 σ h
noncomputable def F_X10_areInPlaces_0 (x1 : Int32) (σ : zSt) : Option (Int32 × zSt) :=
  bd (F_J6_bitCount_0f7a4 x1 σ) (fun q2 s1 =>
    bd (F_X11_isBelow x1 (256 : Int32) s1) (fun q5 s4 =>
      if q5 = 0 then (
        some ((0 : Int32), s4))
      else (
        if q2 < (2 : Int32) then (
          some ((0 : Int32), s4))
        else (
          if q2 ≤ (4 : Int32) then (
            zfix (F_X10_areInPlaces_29L x1) zlim ((0 : Int32), s4))
          else (
            some ((0 : Int32), s4))))))
set_option maxHeartbeats 4000000 in
set_option maxRecDepth 100000 in
theorem p_X10_areInPlaces_0 {G : zG} {C : zC} {r : Int32} {τ : zSt} (hR : zR G C (some .boolean) (some (.int r)) τ) (x1 : Int32) (σ : zSt) (h : F_X10_areInPlaces_0 x1 σ = some (r, τ)) : zAW G 3 RX10 cX10_areInPlaces 4 C 0 [(0, .ref (zad G 1)), (1, .int x1)] [] σ := by
  unfold F_X10_areInPlaces_0 at h
  refine z_iload e_X10_areInPlaces_0 1 rfl ?_
  obtain ⟨q2, s1, e3, h⟩ := bd_e h
  refine z_callSi (As := [.int x1]) (rest := []) lk_X10_62 e_X10_areInPlaces_1 (m_J6_bitCount_0f7a4 G x1 σ _ _ e3) (by decide) rfl (Nat.le_of_ble_eq_true rfl) ?_
  refine z_istore e_X10_areInPlaces_4 (by decide) [(2, .int q2), (0, .ref (zad G 1)), (1, .int x1)] rfl ?_
  refine z_iload e_X10_areInPlaces_5 2 rfl ?_
  refine z_ic e_X10_areInPlaces_6 ?_
  obtain ⟨q5, s4, e6, h⟩ := bd_e h
  refine z_callNi (As := [.int x1, .int (256 : Int32)]) (rest := []) lk_X10_58 e_X10_areInPlaces_9 (m_X11_isBelow G x1 (256 : Int32) s1 _ _ e6) (by decide) rfl (Nat.le_of_ble_eq_true rfl) ?_
  refine z_if_eq e_X10_areInPlaces_12 h (fun c7 h => ?_) (fun c7 h => ?_)
  · refine z_ic e_X10_areInPlaces_25 ?_
    cases h
    exact z_zreturn hR e_X10_areInPlaces_26 (Or.inl rfl)
  · refine z_iload e_X10_areInPlaces_15 0 rfl ?_
    refine z_ic e_X10_areInPlaces_16 ?_
    refine z_icmp_lt e_X10_areInPlaces_17 h (fun c8 h => ?_) (fun c8 h => ?_)
    · refine z_ic e_X10_areInPlaces_25 ?_
      cases h
      exact z_zreturn hR e_X10_areInPlaces_26 (Or.inl rfl)
    · refine z_iload e_X10_areInPlaces_20 0 rfl ?_
      refine z_ic e_X10_areInPlaces_21 ?_
      refine z_icmp_le e_X10_areInPlaces_22 h (fun c9 h => ?_) (fun c9 h => ?_)
      · refine z_ic e_X10_areInPlaces_27 ?_
        refine z_istore e_X10_areInPlaces_28 (by decide) [(3, .int (0 : Int32)), (2, .int q2), (0, .ref (zad G 1)), (1, .int x1)] rfl ?_
        exact z_sub [2, 3, 0] rfl (l_X10_areInPlaces_29 hR x1 zlim (0 : Int32) s4 h)
      · refine z_ic e_X10_areInPlaces_25 ?_
        cases h
        exact z_zreturn hR e_X10_areInPlaces_26 (Or.inl rfl)
noncomputable def F_X10_areInPlaces (x1 : Int32) (σ : zSt) : Option (Int32 × zSt) := F_X10_areInPlaces_0 x1 σ
set_option maxRecDepth 100000 in
theorem m_X10_areInPlaces (G : zG) (x1 : Int32) (σ : zSt) (q : Int32) (τ : zSt) (h : F_X10_areInPlaces x1 σ = some (q, τ)) : zM G 3 yX10_areInPlaces cX10_areInPlaces 4 (some .boolean) [.ref (zad G 1), .int x1] σ (some (.int q)) τ := by
  unfold F_X10_areInPlaces at h
  refine zM.of (own := RX10) (by decide +kernel) rfl (Nat.le_of_ble_eq_true rfl) (fun C hR => ?_)
  exact z_sub [0, 1] rfl (p_X10_areInPlaces_0 hR x1 σ h)
noncomputable def F_X4_takeRow_70 (w70 : (Int32 × zSt) → Option (Int32 × zSt)) (x3 : Int32) (σ : zSt) : Option (Int32 × zSt) :=
  if (σ.1 47 13) ≤ x3 then (
    some ((1 : Int32), σ))
  else (
    if (4 : Int32) ≤ x3 then (
      some ((1 : Int32), σ))
    else (
      gd (vp_in x3 4) (
        gd (vp_in x3 4) (
          gd (vp_in ((σ.1 55 x3.toNatClampNeg) &&& (3 : Int32)) 4) (
            bd (F_X5_putKey (σ.1 53 x3.toNatClampNeg) (σ.1 54 ((σ.1 55 x3.toNatClampNeg) &&& (3 : Int32)).toNatClampNeg) σ) (fun _ s5 =>
              nm (x3 + (1 : Int32)) (fun v8 =>
                w70 (v8, s5))))))))
set_option maxHeartbeats 4000000 in
set_option maxRecDepth 100000 in
theorem b_X4_takeRow_70 {G : zG} {C : zC} {r : Int32} {τ : zSt} (hR : zR G C (some .boolean) (some (.int r)) τ) (w70 : (Int32 × zSt) → Option (Int32 × zSt)) (hw70 : ∀ (x3 : Int32) (σ : zSt), w70 (x3, σ) = some (r, τ) → zAW G 3 RX4 cX4_takeRow 4 C 70 [(0, .ref (zad G 47)), (3, .int x3)] [] σ) (x3 : Int32) (σ : zSt) (h : F_X4_takeRow_70 w70 x3 σ = some (r, τ)) : zAW G 3 RX4 cX4_takeRow 4 C 70 [(0, .ref (zad G 47)), (3, .int x3)] [] σ := by
  unfold F_X4_takeRow_70 at h
  refine z_iload e_X4_takeRow_70 1 rfl ?_
  refine z_aload e_X4_takeRow_71 0 rfl ?_
  refine z_geti gf_X4_140_47 e_X4_takeRow_72 ?_
  refine z_icmp_ge e_X4_takeRow_75 h (fun c3 h => ?_) (fun c3 h => ?_)
  · refine z_ic e_X4_takeRow_115 ?_
    cases h
    exact z_zreturn hR e_X4_takeRow_116 (Or.inr rfl)
  · refine z_iload e_X4_takeRow_78 1 rfl ?_
    refine z_ic e_X4_takeRow_79 ?_
    refine z_icmp_ge e_X4_takeRow_80 h (fun c4 h => ?_) (fun c4 h => ?_)
    · refine z_ic e_X4_takeRow_115 ?_
      cases h
      exact z_zreturn hR e_X4_takeRow_116 (Or.inr rfl)
    · refine z_aload e_X4_takeRow_83 0 rfl ?_
      refine z_getr gf_X4_41_47 e_X4_takeRow_84 ?_
      refine z_aload e_X4_takeRow_87 0 rfl ?_
      refine z_getr gf_X4_29_47 e_X4_takeRow_88 ?_
      refine z_iload e_X4_takeRow_91 1 rfl ?_
      refine z_iald sh_53 e_X4_takeRow_92 h (fun h => ?_)
      refine z_aload e_X4_takeRow_93 0 rfl ?_
      refine z_getr gf_X4_32_47 e_X4_takeRow_94 ?_
      refine z_aload e_X4_takeRow_97 0 rfl ?_
      refine z_getr gf_X4_35_47 e_X4_takeRow_98 ?_
      refine z_iload e_X4_takeRow_101 1 rfl ?_
      refine z_iald sh_55 e_X4_takeRow_102 h (fun h => ?_)
      refine z_ic e_X4_takeRow_103 ?_
      refine z_iand e_X4_takeRow_104 ?_
      refine z_iald sh_54 e_X4_takeRow_105 h (fun h => ?_)
      obtain ⟨q6, s5, e7, h⟩ := bd_e h
      refine z_callVv (c0 := 17) (As := [.int (σ.1 53 x3.toNatClampNeg), .int (σ.1 54 ((σ.1 55 x3.toNatClampNeg) &&& (3 : Int32)).toNatClampNeg)]) (rest := []) lk_X4_167 ob_17 e_X4_takeRow_106 (m_X5_putKey G (σ.1 53 x3.toNatClampNeg) (σ.1 54 ((σ.1 55 x3.toNatClampNeg) &&& (3 : Int32)).toNatClampNeg) σ _ _ e7) (by decide) rfl (Nat.le_of_ble_eq_true rfl) ?_
      refine z_iinc e_X4_takeRow_109 1 rfl (by decide) (by decide) h (fun y => [(3, .int y), (0, .ref (zad G 47))]) (fun _ => rfl) (fun v8 h => ?_)
      refine z_goto e_X4_takeRow_112 ?_
      exact z_sub [1, 0] rfl (hw70 v8 s5 h)
noncomputable def F_X4_takeRow_70L  : ((Int32 × zSt) → Option (Int32 × zSt)) → (Int32 × zSt) → Option (Int32 × zSt) := fun w s => F_X4_takeRow_70 w s.1 s.2
set_option maxRecDepth 100000 in
theorem l_X4_takeRow_70 {G : zG} {C : zC} {r : Int32} {τ : zSt} (hR : zR G C (some .boolean) (some (.int r)) τ)  : ∀ (N : Nat) (x3 : Int32) (σ : zSt), zfix (F_X4_takeRow_70L ) N (x3, σ) = some (r, τ) → zAW G 3 RX4 cX4_takeRow 4 C 70 [(0, .ref (zad G 47)), (3, .int x3)] [] σ := by
  intro N
  induction N with
  | zero =>
    intro x3 σ h
    exact nomatch (show (none : Option (Int32 × zSt)) = some (r, τ) from h)
  | succ N ih =>
    intro x3 σ h
    exact b_X4_takeRow_70 hR (zfix (F_X4_takeRow_70L ) N) ih x3 σ h
noncomputable def F_X4_takeRow_54 (x2 : Int32) (σ : zSt) : Option (Int32 × zSt) :=
  if x2 = (((1 : Int32) <<< ((σ.1 47 13) &&& 31)) - (1 : Int32)) then (
    zfix (F_X4_takeRow_70L ) zlim ((0 : Int32), σ))
  else (
    some ((0 : Int32), σ))
set_option maxHeartbeats 4000000 in
set_option maxRecDepth 100000 in
theorem p_X4_takeRow_54 {G : zG} {C : zC} {r : Int32} {τ : zSt} (hR : zR G C (some .boolean) (some (.int r)) τ) (x2 : Int32) (σ : zSt) (h : F_X4_takeRow_54 x2 σ = some (r, τ)) : zAW G 3 RX4 cX4_takeRow 4 C 54 [(0, .ref (zad G 47)), (2, .int x2)] [] σ := by
  unfold F_X4_takeRow_54 at h
  refine z_iload e_X4_takeRow_54 1 rfl ?_
  refine z_ic e_X4_takeRow_55 ?_
  refine z_aload e_X4_takeRow_56 0 rfl ?_
  refine z_geti gf_X4_140_47 e_X4_takeRow_57 ?_
  refine z_ishl e_X4_takeRow_60 ?_
  refine z_ic e_X4_takeRow_61 ?_
  refine z_isub e_X4_takeRow_62 ?_
  refine z_icmp_eq e_X4_takeRow_63 h (fun c2 h => ?_) (fun c2 h => ?_)
  · refine z_ic e_X4_takeRow_68 ?_
    refine z_istore e_X4_takeRow_69 (by decide) [(3, .int (0 : Int32)), (0, .ref (zad G 47)), (2, .int x2)] rfl ?_
    exact z_sub [1, 0] rfl (l_X4_takeRow_70 hR  zlim (0 : Int32) σ h)
  · refine z_ic e_X4_takeRow_66 ?_
    cases h
    exact z_zreturn hR e_X4_takeRow_67 (Or.inl rfl)
noncomputable def F_X4_takeRow_4 (x1 : Int32) (w4 : (Int32 × Int32 × zSt) → Option (Int32 × zSt)) (x2 : Int32) (x3 : Int32) (σ : zSt) : Option (Int32 × zSt) :=
  if (σ.1 47 13) ≤ x3 then (
    F_X4_takeRow_54 x2 σ)
  else (
    if (4 : Int32) ≤ x3 then (
      F_X4_takeRow_54 x2 σ)
    else (
      gd (vp_in x3 4) (nm (zwr σ 55 x3.toNatClampNeg ((x1 >>> (((2 : Int32) * (((σ.1 47 13) - (1 : Int32)) - x3)) &&& 31)) &&& (3 : Int32))) (fun s10 =>
        gd (vp_in x3 4) (
          nm (x2 ||| ((1 : Int32) <<< ((s10.1 55 x3.toNatClampNeg) &&& 31))) (fun v11 =>
            nm (x3 + (1 : Int32)) (fun v12 =>
              w4 (v11, v12, s10))))))))
set_option maxHeartbeats 4000000 in
set_option maxRecDepth 100000 in
theorem b_X4_takeRow_4 {G : zG} {C : zC} {r : Int32} {τ : zSt} (hR : zR G C (some .boolean) (some (.int r)) τ) (x1 : Int32) (w4 : (Int32 × Int32 × zSt) → Option (Int32 × zSt)) (hw4 : ∀ (x2 : Int32) (x3 : Int32) (σ : zSt), w4 (x2, x3, σ) = some (r, τ) → zAW G 3 RX4 cX4_takeRow 4 C 4 [(0, .ref (zad G 47)), (1, .int x1), (2, .int x2), (3, .int x3)] [] σ) (x2 : Int32) (x3 : Int32) (σ : zSt) (h : F_X4_takeRow_4 x1 w4 x2 x3 σ = some (r, τ)) : zAW G 3 RX4 cX4_takeRow 4 C 4 [(0, .ref (zad G 47)), (1, .int x1), (2, .int x2), (3, .int x3)] [] σ := by
  unfold F_X4_takeRow_4 at h
  refine z_iload e_X4_takeRow_4 3 rfl ?_
  refine z_aload e_X4_takeRow_5 0 rfl ?_
  refine z_geti gf_X4_140_47 e_X4_takeRow_6 ?_
  refine z_icmp_ge e_X4_takeRow_9 h (fun c1 h => ?_) (fun c1 h => ?_)
  · exact z_sub [0, 2] rfl (p_X4_takeRow_54 hR x2 σ h)
  · refine z_iload e_X4_takeRow_12 3 rfl ?_
    refine z_ic e_X4_takeRow_13 ?_
    refine z_icmp_ge e_X4_takeRow_14 h (fun c9 h => ?_) (fun c9 h => ?_)
    · exact z_sub [0, 2] rfl (p_X4_takeRow_54 hR x2 σ h)
    · refine z_aload e_X4_takeRow_17 0 rfl ?_
      refine z_getr gf_X4_35_47 e_X4_takeRow_18 ?_
      refine z_iload e_X4_takeRow_21 3 rfl ?_
      refine z_iload e_X4_takeRow_22 1 rfl ?_
      refine z_ic e_X4_takeRow_23 ?_
      refine z_aload e_X4_takeRow_24 0 rfl ?_
      refine z_geti gf_X4_140_47 e_X4_takeRow_25 ?_
      refine z_ic e_X4_takeRow_28 ?_
      refine z_isub e_X4_takeRow_29 ?_
      refine z_iload e_X4_takeRow_30 3 rfl ?_
      refine z_isub e_X4_takeRow_31 ?_
      refine z_imul e_X4_takeRow_32 ?_
      refine z_ishr e_X4_takeRow_33 ?_
      refine z_ic e_X4_takeRow_34 ?_
      refine z_iand e_X4_takeRow_35 ?_
      refine z_iast sh_55 e_X4_takeRow_36 h (fun s10 h => ?_)
      refine z_iload e_X4_takeRow_37 2 rfl ?_
      refine z_ic e_X4_takeRow_38 ?_
      refine z_aload e_X4_takeRow_39 0 rfl ?_
      refine z_getr gf_X4_35_47 e_X4_takeRow_40 ?_
      refine z_iload e_X4_takeRow_43 3 rfl ?_
      refine z_iald sh_55 e_X4_takeRow_44 h (fun h => ?_)
      refine z_ishl e_X4_takeRow_45 ?_
      refine z_ior e_X4_takeRow_46 ?_
      refine z_nmI h (fun v11 h => ?_)
      refine z_istore e_X4_takeRow_47 (by decide) [(2, .int v11), (0, .ref (zad G 47)), (1, .int x1), (3, .int x3)] rfl ?_
      refine z_iinc e_X4_takeRow_48 3 rfl (by decide) (by decide) h (fun y => [(3, .int y), (2, .int v11), (0, .ref (zad G 47)), (1, .int x1)]) (fun _ => rfl) (fun v12 h => ?_)
      refine z_goto e_X4_takeRow_51 ?_
      exact z_sub [2, 3, 1, 0] rfl (hw4 v11 v12 s10 h)
noncomputable def F_X4_takeRow_4L (x1 : Int32) : ((Int32 × Int32 × zSt) → Option (Int32 × zSt)) → (Int32 × Int32 × zSt) → Option (Int32 × zSt) := fun w s => F_X4_takeRow_4 x1 w s.1 s.2.1 s.2.2
set_option maxRecDepth 100000 in
theorem l_X4_takeRow_4 {G : zG} {C : zC} {r : Int32} {τ : zSt} (hR : zR G C (some .boolean) (some (.int r)) τ) (x1 : Int32) : ∀ (N : Nat) (x2 : Int32) (x3 : Int32) (σ : zSt), zfix (F_X4_takeRow_4L x1) N (x2, x3, σ) = some (r, τ) → zAW G 3 RX4 cX4_takeRow 4 C 4 [(0, .ref (zad G 47)), (1, .int x1), (2, .int x2), (3, .int x3)] [] σ := by
  intro N
  induction N with
  | zero =>
    intro x2 x3 σ h
    exact nomatch (show (none : Option (Int32 × zSt)) = some (r, τ) from h)
  | succ N ih =>
    intro x2 x3 σ h
    exact b_X4_takeRow_4 hR x1 (zfix (F_X4_takeRow_4L x1) N) ih x2 x3 σ h
noncomputable def F_X4_takeRow_0 (x1 : Int32) (σ : zSt) : Option (Int32 × zSt) :=
  zfix (F_X4_takeRow_4L x1) zlim ((0 : Int32), (0 : Int32), σ)
set_option maxHeartbeats 4000000 in
set_option maxRecDepth 100000 in
theorem p_X4_takeRow_0 {G : zG} {C : zC} {r : Int32} {τ : zSt} (hR : zR G C (some .boolean) (some (.int r)) τ) (x1 : Int32) (σ : zSt) (h : F_X4_takeRow_0 x1 σ = some (r, τ)) : zAW G 3 RX4 cX4_takeRow 4 C 0 [(0, .ref (zad G 47)), (1, .int x1)] [] σ := by
  unfold F_X4_takeRow_0 at h
  refine z_ic e_X4_takeRow_0 ?_
  refine z_istore e_X4_takeRow_1 (by decide) [(2, .int (0 : Int32)), (0, .ref (zad G 47)), (1, .int x1)] rfl ?_
  refine z_ic e_X4_takeRow_2 ?_
  refine z_istore e_X4_takeRow_3 (by decide) [(3, .int (0 : Int32)), (2, .int (0 : Int32)), (0, .ref (zad G 47)), (1, .int x1)] rfl ?_
  exact z_sub [2, 3, 1, 0] rfl (l_X4_takeRow_4 hR x1 zlim (0 : Int32) (0 : Int32) σ h)
noncomputable def F_X4_takeRow (x1 : Int32) (σ : zSt) : Option (Int32 × zSt) := F_X4_takeRow_0 x1 σ
set_option maxRecDepth 100000 in
theorem m_X4_takeRow (G : zG) (x1 : Int32) (σ : zSt) (q : Int32) (τ : zSt) (h : F_X4_takeRow x1 σ = some (q, τ)) : zM G 3 yX4_takeRow cX4_takeRow 4 (some .boolean) [.ref (zad G 47), .int x1] σ (some (.int q)) τ := by
  unfold F_X4_takeRow at h
  refine zM.of (own := RX4) (by decide +kernel) rfl (Nat.le_of_ble_eq_true rfl) (fun C hR => ?_)
  exact z_sub [0, 1] rfl (p_X4_takeRow_0 hR x1 σ h)
