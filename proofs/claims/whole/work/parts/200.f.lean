noncomputable def F_X11_isBelow_0 (x0 : Int32) (x1 : Int32) (σ : zSt) : Option (Int32 × zSt) :=
  if x0 < 0 then (
    some ((0 : Int32), σ))
  else (
    if x1 ≤ x0 then (
      some ((0 : Int32), σ))
    else (
      some ((1 : Int32), σ)))
set_option maxHeartbeats 4000000 in
set_option maxRecDepth 100000 in
theorem p_X11_isBelow_0 {G : zG} {C : zC} {r : Int32} {τ : zSt} (hR : zR G C (some .boolean) (some (.int r)) τ) (x0 : Int32) (x1 : Int32) (σ : zSt) (h : F_X11_isBelow_0 x0 x1 σ = some (r, τ)) : zAW G 1 RX11 cX11_isBelow 2 C 0 [(0, .int x0), (1, .int x1)] [] σ := by
  unfold F_X11_isBelow_0 at h
  refine z_iload e_X11_isBelow_0 0 rfl ?_
  refine z_if_lt e_X11_isBelow_1 h (fun c1 h => ?_) (fun c1 h => ?_)
  · refine z_ic e_X11_isBelow_13 ?_
    cases h
    exact z_zreturn hR e_X11_isBelow_14 (Or.inl rfl)
  · refine z_iload e_X11_isBelow_4 0 rfl ?_
    refine z_iload e_X11_isBelow_5 1 rfl ?_
    refine z_icmp_ge e_X11_isBelow_6 h (fun c2 h => ?_) (fun c2 h => ?_)
    · refine z_ic e_X11_isBelow_13 ?_
      cases h
      exact z_zreturn hR e_X11_isBelow_14 (Or.inl rfl)
    · refine z_ic e_X11_isBelow_9 ?_
      refine z_goto e_X11_isBelow_10 ?_
      cases h
      exact z_zreturn hR e_X11_isBelow_14 (Or.inr rfl)
noncomputable def F_X11_isBelow (x0 : Int32) (x1 : Int32) (σ : zSt) : Option (Int32 × zSt) := F_X11_isBelow_0 x0 x1 σ
set_option maxRecDepth 100000 in
theorem m_X11_isBelow (G : zG) (x0 : Int32) (x1 : Int32) (σ : zSt) (q : Int32) (τ : zSt) (h : F_X11_isBelow x0 x1 σ = some (q, τ)) : zM G 1 yX11_isBelow cX11_isBelow 2 (some .boolean) [.int x0, .int x1] σ (some (.int q)) τ := by
  unfold F_X11_isBelow at h
  refine zM.of (own := RX11) (by decide +kernel) rfl (Nat.le_of_ble_eq_true rfl) (fun C hR => ?_)
  exact z_sub [0, 1] rfl (p_X11_isBelow_0 hR x0 x1 σ h)
noncomputable def F_X11_way_0 (x1 : Int32) (x2 : Int32) (x3 : Int32) (σ : zSt) : Option (Int32 × zSt) :=
  bd (F_X11_isBelow x1 (4 : Int32) σ) (fun q2 s1 =>
    if q2 = 0 then (
      some ((0 : Int32), s1))
    else (
      bd (F_X11_isBelow x2 (4 : Int32) s1) (fun q6 s5 =>
        if q6 = 0 then (
          some ((0 : Int32), s5))
        else (
          if x1 = x2 then (
            some ((0 : Int32), s5))
          else (
            bd (F_X11_isBelow x3 (31 : Int32) s5) (fun q11 s10 =>
              if q11 = 0 then (
                some ((0 : Int32), s10))
              else (
                gd (vp_in (((4 : Int32) * x1) + x2) 16) (nm (zwr s10 2 (((4 : Int32) * x1) + x2).toNatClampNeg x3) (fun s14 =>
                  gd (vp_in (((4 : Int32) * x2) + x1) 16) (nm (zwr s14 2 (((4 : Int32) * x2) + x1).toNatClampNeg x3) (fun s15 =>
                    some ((1 : Int32), s15))))))))))))
set_option maxHeartbeats 4000000 in
set_option maxRecDepth 100000 in
theorem p_X11_way_0 {G : zG} {C : zC} {r : Int32} {τ : zSt} (hR : zR G C (some .boolean) (some (.int r)) τ) (x1 : Int32) (x2 : Int32) (x3 : Int32) (σ : zSt) (h : F_X11_way_0 x1 x2 x3 σ = some (r, τ)) : zAW G 2 RX11 cX11_way 4 C 0 [(0, .ref (zad G 0)), (1, .int x1), (2, .int x2), (3, .int x3)] [] σ := by
  unfold F_X11_way_0 at h
  refine z_iload e_X11_way_0 1 rfl ?_
  refine z_ic e_X11_way_1 ?_
  obtain ⟨q2, s1, e3, h⟩ := bd_e h
  refine z_callSi (As := [.int x1, .int (4 : Int32)]) (rest := []) lk_X11_104 e_X11_way_2 (m_X11_isBelow G x1 (4 : Int32) σ _ _ e3) (by decide) rfl (Nat.le_of_ble_eq_true rfl) ?_
  refine z_if_eq e_X11_way_5 h (fun c4 h => ?_) (fun c4 h => ?_)
  · refine z_ic e_X11_way_30 ?_
    cases h
    exact z_zreturn hR e_X11_way_31 (Or.inl rfl)
  · refine z_iload e_X11_way_8 2 rfl ?_
    refine z_ic e_X11_way_9 ?_
    obtain ⟨q6, s5, e7, h⟩ := bd_e h
    refine z_callSi (As := [.int x2, .int (4 : Int32)]) (rest := []) lk_X11_104 e_X11_way_10 (m_X11_isBelow G x2 (4 : Int32) s1 _ _ e7) (by decide) rfl (Nat.le_of_ble_eq_true rfl) ?_
    refine z_if_eq e_X11_way_13 h (fun c8 h => ?_) (fun c8 h => ?_)
    · refine z_ic e_X11_way_30 ?_
      cases h
      exact z_zreturn hR e_X11_way_31 (Or.inl rfl)
    · refine z_iload e_X11_way_16 1 rfl ?_
      refine z_iload e_X11_way_17 2 rfl ?_
      refine z_icmp_eq e_X11_way_18 h (fun c9 h => ?_) (fun c9 h => ?_)
      · refine z_ic e_X11_way_30 ?_
        cases h
        exact z_zreturn hR e_X11_way_31 (Or.inl rfl)
      · refine z_iload e_X11_way_21 3 rfl ?_
        refine z_ic e_X11_way_22 ?_
        obtain ⟨q11, s10, e12, h⟩ := bd_e h
        refine z_callSi (As := [.int x3, .int (31 : Int32)]) (rest := []) lk_X11_104 e_X11_way_24 (m_X11_isBelow G x3 (31 : Int32) s5 _ _ e12) (by decide) rfl (Nat.le_of_ble_eq_true rfl) ?_
        refine z_if_ne e_X11_way_27 h (fun c13 h => ?_) (fun c13 h => ?_)
        · refine z_ic e_X11_way_30 ?_
          cases h
          exact z_zreturn hR e_X11_way_31 (Or.inl rfl)
        · refine z_aload e_X11_way_32 0 rfl ?_
          refine z_getr gf_X11_23_0 e_X11_way_33 ?_
          refine z_getr gf_X11_108_1 e_X11_way_36 ?_
          refine z_ic e_X11_way_39 ?_
          refine z_iload e_X11_way_40 1 rfl ?_
          refine z_imul e_X11_way_41 ?_
          refine z_iload e_X11_way_42 2 rfl ?_
          refine z_iadd e_X11_way_43 ?_
          refine z_iload e_X11_way_44 3 rfl ?_
          refine z_iast sh_2 e_X11_way_45 h (fun s14 h => ?_)
          refine z_aload e_X11_way_46 0 rfl ?_
          refine z_getr gf_X11_23_0 e_X11_way_47 ?_
          refine z_getr gf_X11_108_1 e_X11_way_50 ?_
          refine z_ic e_X11_way_53 ?_
          refine z_iload e_X11_way_54 2 rfl ?_
          refine z_imul e_X11_way_55 ?_
          refine z_iload e_X11_way_56 1 rfl ?_
          refine z_iadd e_X11_way_57 ?_
          refine z_iload e_X11_way_58 3 rfl ?_
          refine z_iast sh_2 e_X11_way_59 h (fun s15 h => ?_)
          refine z_ic e_X11_way_60 ?_
          cases h
          exact z_zreturn hR e_X11_way_61 (Or.inr rfl)
noncomputable def F_X11_way (x1 : Int32) (x2 : Int32) (x3 : Int32) (σ : zSt) : Option (Int32 × zSt) := F_X11_way_0 x1 x2 x3 σ
set_option maxRecDepth 100000 in
theorem m_X11_way (G : zG) (x1 : Int32) (x2 : Int32) (x3 : Int32) (σ : zSt) (q : Int32) (τ : zSt) (h : F_X11_way x1 x2 x3 σ = some (q, τ)) : zM G 2 yX11_way cX11_way 4 (some .boolean) [.ref (zad G 0), .int x1, .int x2, .int x3] σ (some (.int q)) τ := by
  unfold F_X11_way at h
  refine zM.of (own := RX11) (by decide +kernel) rfl (Nat.le_of_ble_eq_true rfl) (fun C hR => ?_)
  exact z_sub [0, 1, 2, 3] rfl (p_X11_way_0 hR x1 x2 x3 σ h)
noncomputable def F_X12_isIsland_0 (x0 : Int32) (σ : zSt) : Option (Int32 × zSt) :=
  if x0 < 0 then (
    some ((0 : Int32), σ))
  else (
    if (4 : Int32) ≤ x0 then (
      some ((0 : Int32), σ))
    else (
      some ((1 : Int32), σ)))
set_option maxHeartbeats 4000000 in
set_option maxRecDepth 100000 in
theorem p_X12_isIsland_0 {G : zG} {C : zC} {r : Int32} {τ : zSt} (hR : zR G C (some .boolean) (some (.int r)) τ) (x0 : Int32) (σ : zSt) (h : F_X12_isIsland_0 x0 σ = some (r, τ)) : zAW G 1 RX12 cX12_isIsland 1 C 0 [(0, .int x0)] [] σ := by
  unfold F_X12_isIsland_0 at h
  refine z_iload e_X12_isIsland_0 0 rfl ?_
  refine z_if_lt e_X12_isIsland_1 h (fun c1 h => ?_) (fun c1 h => ?_)
  · refine z_ic e_X12_isIsland_13 ?_
    cases h
    exact z_zreturn hR e_X12_isIsland_14 (Or.inl rfl)
  · refine z_iload e_X12_isIsland_4 0 rfl ?_
    refine z_ic e_X12_isIsland_5 ?_
    refine z_icmp_ge e_X12_isIsland_6 h (fun c2 h => ?_) (fun c2 h => ?_)
    · refine z_ic e_X12_isIsland_13 ?_
      cases h
      exact z_zreturn hR e_X12_isIsland_14 (Or.inl rfl)
    · refine z_ic e_X12_isIsland_9 ?_
      refine z_goto e_X12_isIsland_10 ?_
      cases h
      exact z_zreturn hR e_X12_isIsland_14 (Or.inr rfl)
noncomputable def F_X12_isIsland (x0 : Int32) (σ : zSt) : Option (Int32 × zSt) := F_X12_isIsland_0 x0 σ
set_option maxRecDepth 100000 in
theorem m_X12_isIsland (G : zG) (x0 : Int32) (σ : zSt) (q : Int32) (τ : zSt) (h : F_X12_isIsland x0 σ = some (q, τ)) : zM G 1 yX12_isIsland cX12_isIsland 1 (some .boolean) [.int x0] σ (some (.int q)) τ := by
  unfold F_X12_isIsland at h
  refine zM.of (own := RX12) (by decide +kernel) rfl (Nat.le_of_ble_eq_true rfl) (fun C hR => ?_)
  exact z_sub [0] rfl (p_X12_isIsland_0 hR x0 σ h)
noncomputable def F_X12_in_0 (x0 : Int32) (x1 : Int32) (x2 : Int32) (σ : zSt) : Option (Int32 × zSt) :=
  if x0 < x1 then (
    some ((0 : Int32), σ))
  else (
    if x2 < x0 then (
      some ((0 : Int32), σ))
    else (
      some ((1 : Int32), σ)))
set_option maxHeartbeats 4000000 in
set_option maxRecDepth 100000 in
theorem p_X12_in_0 {G : zG} {C : zC} {r : Int32} {τ : zSt} (hR : zR G C (some .boolean) (some (.int r)) τ) (x0 : Int32) (x1 : Int32) (x2 : Int32) (σ : zSt) (h : F_X12_in_0 x0 x1 x2 σ = some (r, τ)) : zAW G 1 RX12 cX12_in 3 C 0 [(0, .int x0), (1, .int x1), (2, .int x2)] [] σ := by
  unfold F_X12_in_0 at h
  refine z_iload e_X12_in_0 0 rfl ?_
  refine z_iload e_X12_in_1 1 rfl ?_
  refine z_icmp_lt e_X12_in_2 h (fun c1 h => ?_) (fun c1 h => ?_)
  · refine z_ic e_X12_in_14 ?_
    cases h
    exact z_zreturn hR e_X12_in_15 (Or.inl rfl)
  · refine z_iload e_X12_in_5 0 rfl ?_
    refine z_iload e_X12_in_6 2 rfl ?_
    refine z_icmp_gt e_X12_in_7 h (fun c2 h => ?_) (fun c2 h => ?_)
    · refine z_ic e_X12_in_14 ?_
      cases h
      exact z_zreturn hR e_X12_in_15 (Or.inl rfl)
    · refine z_ic e_X12_in_10 ?_
      refine z_goto e_X12_in_11 ?_
      cases h
      exact z_zreturn hR e_X12_in_15 (Or.inr rfl)
noncomputable def F_X12_in (x0 : Int32) (x1 : Int32) (x2 : Int32) (σ : zSt) : Option (Int32 × zSt) := F_X12_in_0 x0 x1 x2 σ
set_option maxRecDepth 100000 in
theorem m_X12_in (G : zG) (x0 : Int32) (x1 : Int32) (x2 : Int32) (σ : zSt) (q : Int32) (τ : zSt) (h : F_X12_in x0 x1 x2 σ = some (q, τ)) : zM G 1 yX12_in cX12_in 3 (some .boolean) [.int x0, .int x1, .int x2] σ (some (.int q)) τ := by
  unfold F_X12_in at h
  refine zM.of (own := RX12) (by decide +kernel) rfl (Nat.le_of_ble_eq_true rfl) (fun C hR => ?_)
  exact z_sub [0, 1, 2] rfl (p_X12_in_0 hR x0 x1 x2 σ h)
noncomputable def F_X12_way_0 (x1 : Int32) (x2 : Int32) (x3 : Int32) (σ : zSt) : Option (Int32 × zSt) :=
  bd (F_X12_isIsland x1 σ) (fun q2 s1 =>
    if q2 = 0 then (
      some ((0 : Int32), s1))
    else (
      bd (F_X12_isIsland x2 s1) (fun q6 s5 =>
        if q6 = 0 then (
          some ((0 : Int32), s5))
        else (
          if x1 = x2 then (
            some ((0 : Int32), s5))
          else (
            bd (F_X12_in x3 (0 : Int32) (30 : Int32) s5) (fun q11 s10 =>
              if q11 = 0 then (
                some ((0 : Int32), s10))
              else (
                gd (vp_in (((4 : Int32) * x1) + x2) 16) (nm (zwr s10 70 (((4 : Int32) * x1) + x2).toNatClampNeg x3) (fun s14 =>
                  gd (vp_in (((4 : Int32) * x2) + x1) 16) (nm (zwr s14 70 (((4 : Int32) * x2) + x1).toNatClampNeg x3) (fun s15 =>
                    some ((1 : Int32), s15))))))))))))
set_option maxHeartbeats 4000000 in
set_option maxRecDepth 100000 in
theorem p_X12_way_0 {G : zG} {C : zC} {r : Int32} {τ : zSt} (hR : zR G C (some .boolean) (some (.int r)) τ) (x1 : Int32) (x2 : Int32) (x3 : Int32) (σ : zSt) (h : F_X12_way_0 x1 x2 x3 σ = some (r, τ)) : zAW G 2 RX12 cX12_way 4 C 0 [(0, .ref (zad G 69)), (1, .int x1), (2, .int x2), (3, .int x3)] [] σ := by
  unfold F_X12_way_0 at h
  refine z_iload e_X12_way_0 1 rfl ?_
  obtain ⟨q2, s1, e3, h⟩ := bd_e h
  refine z_callSi (As := [.int x1]) (rest := []) lk_X12_160 e_X12_way_1 (m_X12_isIsland G x1 σ _ _ e3) (by decide) rfl (Nat.le_of_ble_eq_true rfl) ?_
  refine z_if_eq e_X12_way_4 h (fun c4 h => ?_) (fun c4 h => ?_)
  · refine z_ic e_X12_way_29 ?_
    cases h
    exact z_zreturn hR e_X12_way_30 (Or.inl rfl)
  · refine z_iload e_X12_way_7 2 rfl ?_
    obtain ⟨q6, s5, e7, h⟩ := bd_e h
    refine z_callSi (As := [.int x2]) (rest := []) lk_X12_160 e_X12_way_8 (m_X12_isIsland G x2 s1 _ _ e7) (by decide) rfl (Nat.le_of_ble_eq_true rfl) ?_
    refine z_if_eq e_X12_way_11 h (fun c8 h => ?_) (fun c8 h => ?_)
    · refine z_ic e_X12_way_29 ?_
      cases h
      exact z_zreturn hR e_X12_way_30 (Or.inl rfl)
    · refine z_iload e_X12_way_14 1 rfl ?_
      refine z_iload e_X12_way_15 2 rfl ?_
      refine z_icmp_eq e_X12_way_16 h (fun c9 h => ?_) (fun c9 h => ?_)
      · refine z_ic e_X12_way_29 ?_
        cases h
        exact z_zreturn hR e_X12_way_30 (Or.inl rfl)
      · refine z_iload e_X12_way_19 3 rfl ?_
        refine z_ic e_X12_way_20 ?_
        refine z_ic e_X12_way_21 ?_
        obtain ⟨q11, s10, e12, h⟩ := bd_e h
        refine z_callSi (As := [.int x3, .int (0 : Int32), .int (30 : Int32)]) (rest := []) lk_X12_163 e_X12_way_23 (m_X12_in G x3 (0 : Int32) (30 : Int32) s5 _ _ e12) (by decide) rfl (Nat.le_of_ble_eq_true rfl) ?_
        refine z_if_ne e_X12_way_26 h (fun c13 h => ?_) (fun c13 h => ?_)
        · refine z_ic e_X12_way_29 ?_
          cases h
          exact z_zreturn hR e_X12_way_30 (Or.inl rfl)
        · refine z_aload e_X12_way_31 0 rfl ?_
          refine z_getr gf_X12_7_69 e_X12_way_32 ?_
          refine z_ic e_X12_way_35 ?_
          refine z_iload e_X12_way_36 1 rfl ?_
          refine z_imul e_X12_way_37 ?_
          refine z_iload e_X12_way_38 2 rfl ?_
          refine z_iadd e_X12_way_39 ?_
          refine z_iload e_X12_way_40 3 rfl ?_
          refine z_iast sh_70 e_X12_way_41 h (fun s14 h => ?_)
          refine z_aload e_X12_way_42 0 rfl ?_
          refine z_getr gf_X12_7_69 e_X12_way_43 ?_
          refine z_ic e_X12_way_46 ?_
          refine z_iload e_X12_way_47 2 rfl ?_
          refine z_imul e_X12_way_48 ?_
          refine z_iload e_X12_way_49 1 rfl ?_
          refine z_iadd e_X12_way_50 ?_
          refine z_iload e_X12_way_51 3 rfl ?_
          refine z_iast sh_70 e_X12_way_52 h (fun s15 h => ?_)
          refine z_ic e_X12_way_53 ?_
          cases h
          exact z_zreturn hR e_X12_way_54 (Or.inr rfl)
noncomputable def F_X12_way (x1 : Int32) (x2 : Int32) (x3 : Int32) (σ : zSt) : Option (Int32 × zSt) := F_X12_way_0 x1 x2 x3 σ
set_option maxRecDepth 100000 in
theorem m_X12_way (G : zG) (x1 : Int32) (x2 : Int32) (x3 : Int32) (σ : zSt) (q : Int32) (τ : zSt) (h : F_X12_way x1 x2 x3 σ = some (q, τ)) : zM G 2 yX12_way cX12_way 4 (some .boolean) [.ref (zad G 69), .int x1, .int x2, .int x3] σ (some (.int q)) τ := by
  unfold F_X12_way at h
  refine zM.of (own := RX12) (by decide +kernel) rfl (Nat.le_of_ble_eq_true rfl) (fun C hR => ?_)
  exact z_sub [0, 1, 2, 3] rfl (p_X12_way_0 hR x1 x2 x3 σ h)
noncomputable def F_X10_isTold_0 (x1 : Int32) (σ : zSt) : Option (Int32 × zSt) :=
  bd (F_X11_isBelow x1 (8 : Int32) σ) (fun q2 s1 =>
    if q2 = 0 then (
      some ((0 : Int32), s1))
    else (
      if (((s1.1 1 6) >>> (x1 &&& 31)) &&& (1 : Int32)) = (1 : Int32) then (
        some ((1 : Int32), s1))
      else (
        some ((0 : Int32), s1))))
set_option maxHeartbeats 4000000 in
set_option maxRecDepth 100000 in
theorem p_X10_isTold_0 {G : zG} {C : zC} {r : Int32} {τ : zSt} (hR : zR G C (some .boolean) (some (.int r)) τ) (x1 : Int32) (σ : zSt) (h : F_X10_isTold_0 x1 σ = some (r, τ)) : zAW G 2 RX10 cX10_isTold 2 C 0 [(0, .ref (zad G 1)), (1, .int x1)] [] σ := by
  unfold F_X10_isTold_0 at h
  refine z_iload e_X10_isTold_0 1 rfl ?_
  refine z_ic e_X10_isTold_1 ?_
  obtain ⟨q2, s1, e3, h⟩ := bd_e h
  refine z_callNi (As := [.int x1, .int (8 : Int32)]) (rest := []) lk_X10_58 e_X10_isTold_3 (m_X11_isBelow G x1 (8 : Int32) σ _ _ e3) (by decide) rfl (Nat.le_of_ble_eq_true rfl) ?_
  refine z_if_eq e_X10_isTold_6 h (fun c4 h => ?_) (fun c4 h => ?_)
  · refine z_ic e_X10_isTold_25 ?_
    cases h
    exact z_zreturn hR e_X10_isTold_26 (Or.inl rfl)
  · refine z_aload e_X10_isTold_9 0 rfl ?_
    refine z_geti gf_X10_46_1 e_X10_isTold_10 ?_
    refine z_iload e_X10_isTold_13 1 rfl ?_
    refine z_ishr e_X10_isTold_14 ?_
    refine z_ic e_X10_isTold_15 ?_
    refine z_iand e_X10_isTold_16 ?_
    refine z_ic e_X10_isTold_17 ?_
    refine z_icmp_ne e_X10_isTold_18 h (fun c5 h => ?_) (fun c5 h => ?_)
    · refine z_ic e_X10_isTold_21 ?_
      refine z_goto e_X10_isTold_22 ?_
      cases h
      exact z_zreturn hR e_X10_isTold_26 (Or.inr rfl)
    · refine z_ic e_X10_isTold_25 ?_
      cases h
      exact z_zreturn hR e_X10_isTold_26 (Or.inl rfl)
noncomputable def F_X10_isTold (x1 : Int32) (σ : zSt) : Option (Int32 × zSt) := F_X10_isTold_0 x1 σ
set_option maxRecDepth 100000 in
theorem m_X10_isTold (G : zG) (x1 : Int32) (σ : zSt) (q : Int32) (τ : zSt) (h : F_X10_isTold x1 σ = some (q, τ)) : zM G 2 yX10_isTold cX10_isTold 2 (some .boolean) [.ref (zad G 1), .int x1] σ (some (.int q)) τ := by
  unfold F_X10_isTold at h
  refine zM.of (own := RX10) (by decide +kernel) rfl (Nat.le_of_ble_eq_true rfl) (fun C hR => ?_)
  exact z_sub [0, 1] rfl (p_X10_isTold_0 hR x1 σ h)
noncomputable def F_X10_tell_0 (x1 : Int32) (x2 : Int32) (x3 : Int32) (x4 : Int32) (σ : zSt) : Option (Unit × zSt) :=
  bd (F_X11_isBelow x1 (8 : Int32) σ) (fun q2 s1 =>
    if q2 = 0 then (
      some ((), s1))
    else (
      nm (zwr s1 1 6 ((s1.1 1 6) ||| ((1 : Int32) <<< (x1 &&& 31)))) (fun s5 =>
        nm (zwr s5 1 7 ((s5.1 1 7) &&& (((1 : Int32) <<< (x1 &&& 31)) ^^^ (-1 : Int32)))) (fun s6 =>
          gd (vp_in x1 8) (nm (zwr s6 3 x1.toNatClampNeg x2) (fun s7 =>
            gd (vp_in x1 8) (nm (zwr s7 4 x1.toNatClampNeg x3) (fun s8 =>
              gd (vp_in x1 8) (nm (zwr s8 5 x1.toNatClampNeg x4) (fun s9 =>
                gd (vp_in x1 8) (nm (zwr s9 6 x1.toNatClampNeg (-1 : Int32)) (fun s10 =>
                  some ((), s10)))))))))))))
set_option maxHeartbeats 4000000 in
set_option maxRecDepth 100000 in
theorem p_X10_tell_0 {G : zG} {C : zC} {r : Unit} {τ : zSt} (hR : zR G C none none τ) (x1 : Int32) (x2 : Int32) (x3 : Int32) (x4 : Int32) (σ : zSt) (h : F_X10_tell_0 x1 x2 x3 x4 σ = some (r, τ)) : zAW G 2 RX10 cX10_tell 5 C 0 [(0, .ref (zad G 1)), (1, .int x1), (2, .int x2), (3, .int x3), (4, .int x4)] [] σ := by
  unfold F_X10_tell_0 at h
  refine z_iload e_X10_tell_0 1 rfl ?_
  refine z_ic e_X10_tell_1 ?_
  obtain ⟨q2, s1, e3, h⟩ := bd_e h
  refine z_callNi (As := [.int x1, .int (8 : Int32)]) (rest := []) lk_X10_58 e_X10_tell_3 (m_X11_isBelow G x1 (8 : Int32) σ _ _ e3) (by decide) rfl (Nat.le_of_ble_eq_true rfl) ?_
  refine z_if_ne e_X10_tell_6 h (fun c4 h => ?_) (fun c4 h => ?_)
  · cases h
    exact z_vreturn hR e_X10_tell_9
  · refine z_aload e_X10_tell_10 0 rfl ?_
    refine z_dup e_X10_tell_11 rfl ?_
    refine z_geti gf_X10_46_1 e_X10_tell_12 ?_
    refine z_ic e_X10_tell_15 ?_
    refine z_iload e_X10_tell_16 1 rfl ?_
    refine z_ishl e_X10_tell_17 ?_
    refine z_ior e_X10_tell_18 ?_
    refine z_puti pf_X10_46_1 e_X10_tell_19 h (fun s5 h => ?_)
    refine z_aload e_X10_tell_22 0 rfl ?_
    refine z_dup e_X10_tell_23 rfl ?_
    refine z_geti gf_X10_49_1 e_X10_tell_24 ?_
    refine z_ic e_X10_tell_27 ?_
    refine z_iload e_X10_tell_28 1 rfl ?_
    refine z_ishl e_X10_tell_29 ?_
    refine z_ic e_X10_tell_30 ?_
    refine z_ixor e_X10_tell_31 ?_
    refine z_iand e_X10_tell_32 ?_
    refine z_puti pf_X10_49_1 e_X10_tell_33 h (fun s6 h => ?_)
    refine z_aload e_X10_tell_36 0 rfl ?_
    refine z_getr gf_X10_15_1 e_X10_tell_37 ?_
    refine z_iload e_X10_tell_40 1 rfl ?_
    refine z_iload e_X10_tell_41 2 rfl ?_
    refine z_iast sh_3 e_X10_tell_42 h (fun s7 h => ?_)
    refine z_aload e_X10_tell_43 0 rfl ?_
    refine z_getr gf_X10_18_1 e_X10_tell_44 ?_
    refine z_iload e_X10_tell_47 1 rfl ?_
    refine z_iload e_X10_tell_48 3 rfl ?_
    refine z_iast sh_4 e_X10_tell_49 h (fun s8 h => ?_)
    refine z_aload e_X10_tell_50 0 rfl ?_
    refine z_getr gf_X10_21_1 e_X10_tell_51 ?_
    refine z_iload e_X10_tell_54 1 rfl ?_
    refine z_iload e_X10_tell_55 4 rfl ?_
    refine z_iast sh_5 e_X10_tell_57 h (fun s9 h => ?_)
    refine z_aload e_X10_tell_58 0 rfl ?_
    refine z_getr gf_X10_24_1 e_X10_tell_59 ?_
    refine z_iload e_X10_tell_62 1 rfl ?_
    refine z_ic e_X10_tell_63 ?_
    refine z_iast sh_6 e_X10_tell_64 h (fun s10 h => ?_)
    cases h
    exact z_vreturn hR e_X10_tell_65
noncomputable def F_X10_tell (x1 : Int32) (x2 : Int32) (x3 : Int32) (x4 : Int32) (σ : zSt) : Option (Unit × zSt) := F_X10_tell_0 x1 x2 x3 x4 σ
set_option maxRecDepth 100000 in
theorem m_X10_tell (G : zG) (x1 : Int32) (x2 : Int32) (x3 : Int32) (x4 : Int32) (σ : zSt) (q : Unit) (τ : zSt) (h : F_X10_tell x1 x2 x3 x4 σ = some (q, τ)) : zM G 2 yX10_tell cX10_tell 5 none [.ref (zad G 1), .int x1, .int x2, .int x3, .int x4] σ none τ := by
  unfold F_X10_tell at h
  refine zM.of (own := RX10) (by decide +kernel) rfl (Nat.le_of_ble_eq_true rfl) (fun C hR => ?_)
  exact z_sub [0, 1, 2, 3, 4] rfl (p_X10_tell_0 hR x1 x2 x3 x4 σ h)
noncomputable def F_X11_place_61 (x1 : Int32) (x2 : Int32) (x3 : Int32) (x4 : Int32) (σ : zSt) : Option (Int32 × zSt) :=
  nm (if x3 = (-1 : Int32) then x2 else (0 : Int32)) (fun v11 =>
    bd (F_X10_tell x1 v11 x3 x4 σ) (fun _ s12 =>
      some ((1 : Int32), s12)))
set_option maxHeartbeats 4000000 in
set_option maxRecDepth 100000 in
theorem p_X11_place_61 {G : zG} {C : zC} {r : Int32} {τ : zSt} (hR : zR G C (some .boolean) (some (.int r)) τ) (x1 : Int32) (x2 : Int32) (x3 : Int32) (x4 : Int32) (σ : zSt) (h : F_X11_place_61 x1 x2 x3 x4 σ = some (r, τ)) : zAW G 3 RX11 cX11_place 5 C 61 [(0, .ref (zad G 0)), (1, .int x1), (2, .int x2), (3, .int x3), (4, .int x4)] [] σ := by
  unfold F_X11_place_61 at h
  refine z_aload e_X11_place_61 0 rfl ?_
  refine z_getr gf_X11_23_0 e_X11_place_62 ?_
  refine z_iload e_X11_place_65 1 rfl ?_
  refine z_iload e_X11_place_66 3 rfl ?_
  refine z_ic e_X11_place_67 ?_
  obtain ⟨v11, ev11, h⟩ := nm_i h
  have jv11 : zAW G 3 RX11 cX11_place 5 C 76 [(3, .int x3), (4, .int x4)] [.int v11, .int x1, .ref (zad G 1)] σ := by
    refine z_iload e_X11_place_76 0 rfl ?_
    refine z_iload e_X11_place_77 1 rfl ?_
    obtain ⟨q13, s12, e14, h⟩ := bd_e h
    refine z_callVv (c0 := 1) (As := [.int x1, .int v11, .int x3, .int x4]) (rest := []) lk_X11_116 ob_1 e_X11_place_79 (m_X10_tell G x1 v11 x3 x4 σ _ _ e14) (by decide) rfl (Nat.le_of_ble_eq_true rfl) ?_
    refine z_ic e_X11_place_82 ?_
    cases h
    exact z_zreturn hR e_X11_place_83 (Or.inr rfl)
  refine y_icmp_ne e_X11_place_68 (fun c15 => ?_) (fun c15 => ?_)
  · refine z_iload e_X11_place_71 2 rfl ?_
    refine z_goto e_X11_place_72 ?_
    rw [if_pos c15] at ev11
    subst ev11
    exact z_sub [3, 4] rfl jv11
  · refine z_ic e_X11_place_75 ?_
    rw [if_neg c15] at ev11
    subst ev11
    exact z_sub [3, 4] rfl jv11
noncomputable def F_X11_place_27 (x1 : Int32) (x2 : Int32) (x3 : Int32) (x4 : Int32) (σ : zSt) : Option (Int32 × zSt) :=
  if x3 = (-1 : Int32) then (
    bd (F_X11_isBelow x2 (4 : Int32) σ) (fun q8 s7 =>
      if q8 = 0 then (
        some ((0 : Int32), s7))
      else (
        F_X11_place_61 x1 x2 x3 x4 s7)))
  else (
    bd (F_X10_isTold x3 σ) (fun q17 s16 =>
      if q17 = 0 then (
        some ((0 : Int32), s16))
      else (
        if x3 < x1 then (
          F_X11_place_61 x1 x2 x3 x4 s16)
        else (
          some ((0 : Int32), s16)))))
set_option maxHeartbeats 4000000 in
set_option maxRecDepth 100000 in
theorem p_X11_place_27 {G : zG} {C : zC} {r : Int32} {τ : zSt} (hR : zR G C (some .boolean) (some (.int r)) τ) (x1 : Int32) (x2 : Int32) (x3 : Int32) (x4 : Int32) (σ : zSt) (h : F_X11_place_27 x1 x2 x3 x4 σ = some (r, τ)) : zAW G 3 RX11 cX11_place 5 C 27 [(0, .ref (zad G 0)), (1, .int x1), (2, .int x2), (3, .int x3), (4, .int x4)] [] σ := by
  unfold F_X11_place_27 at h
  refine z_iload e_X11_place_27 3 rfl ?_
  refine z_ic e_X11_place_28 ?_
  refine z_icmp_ne e_X11_place_29 h (fun c6 h => ?_) (fun c6 h => ?_)
  · refine z_iload e_X11_place_32 2 rfl ?_
    refine z_ic e_X11_place_33 ?_
    obtain ⟨q8, s7, e9, h⟩ := bd_e h
    refine z_callSi (As := [.int x2, .int (4 : Int32)]) (rest := []) lk_X11_104 e_X11_place_34 (m_X11_isBelow G x2 (4 : Int32) σ _ _ e9) (by decide) rfl (Nat.le_of_ble_eq_true rfl) ?_
    refine z_if_ne e_X11_place_37 h (fun c10 h => ?_) (fun c10 h => ?_)
    · refine z_goto e_X11_place_40 ?_
      refine z_ic e_X11_place_59 ?_
      cases h
      exact z_zreturn hR e_X11_place_60 (Or.inl rfl)
    · exact z_sub [0, 1, 2, 3, 4] rfl (p_X11_place_61 hR x1 x2 x3 x4 s7 h)
  · refine z_aload e_X11_place_43 0 rfl ?_
    refine z_getr gf_X11_23_0 e_X11_place_44 ?_
    refine z_iload e_X11_place_47 3 rfl ?_
    obtain ⟨q17, s16, e18, h⟩ := bd_e h
    refine z_callVi (c0 := 1) (As := [.int x3]) (rest := []) lk_X11_112 ob_1 e_X11_place_48 (m_X10_isTold G x3 σ _ _ e18) (by decide) rfl (Nat.le_of_ble_eq_true rfl) ?_
    refine z_if_eq e_X11_place_51 h (fun c19 h => ?_) (fun c19 h => ?_)
    · refine z_ic e_X11_place_59 ?_
      cases h
      exact z_zreturn hR e_X11_place_60 (Or.inl rfl)
    · refine z_iload e_X11_place_54 3 rfl ?_
      refine z_iload e_X11_place_55 1 rfl ?_
      refine z_icmp_lt e_X11_place_56 h (fun c20 h => ?_) (fun c20 h => ?_)
      · exact z_sub [0, 1, 2, 3, 4] rfl (p_X11_place_61 hR x1 x2 x3 x4 s16 h)
      · refine z_ic e_X11_place_59 ?_
        cases h
        exact z_zreturn hR e_X11_place_60 (Or.inl rfl)
noncomputable def F_X11_place_0 (x1 : Int32) (x2 : Int32) (x3 : Int32) (x4 : Int32) (σ : zSt) : Option (Int32 × zSt) :=
  bd (F_X11_isBelow x1 (8 : Int32) σ) (fun q2 s1 =>
    if q2 = 0 then (
      some ((0 : Int32), s1))
    else (
      if x4 = (-1 : Int32) then (
        F_X11_place_27 x1 x2 x3 x4 s1)
      else (
        bd (F_X11_isBelow x4 (8 : Int32) s1) (fun q22 s21 =>
          if q22 = 0 then (
            some ((0 : Int32), s21))
          else (
            F_X11_place_27 x1 x2 x3 x4 s21)))))
set_option maxHeartbeats 4000000 in
set_option maxRecDepth 100000 in
theorem p_X11_place_0 {G : zG} {C : zC} {r : Int32} {τ : zSt} (hR : zR G C (some .boolean) (some (.int r)) τ) (x1 : Int32) (x2 : Int32) (x3 : Int32) (x4 : Int32) (σ : zSt) (h : F_X11_place_0 x1 x2 x3 x4 σ = some (r, τ)) : zAW G 3 RX11 cX11_place 5 C 0 [(0, .ref (zad G 0)), (1, .int x1), (2, .int x2), (3, .int x3), (4, .int x4)] [] σ := by
  unfold F_X11_place_0 at h
  refine z_iload e_X11_place_0 1 rfl ?_
  refine z_ic e_X11_place_1 ?_
  obtain ⟨q2, s1, e3, h⟩ := bd_e h
  refine z_callSi (As := [.int x1, .int (8 : Int32)]) (rest := []) lk_X11_104 e_X11_place_3 (m_X11_isBelow G x1 (8 : Int32) σ _ _ e3) (by decide) rfl (Nat.le_of_ble_eq_true rfl) ?_
  refine z_if_eq e_X11_place_6 h (fun c4 h => ?_) (fun c4 h => ?_)
  · refine z_ic e_X11_place_25 ?_
    cases h
    exact z_zreturn hR e_X11_place_26 (Or.inl rfl)
  · refine z_iload e_X11_place_9 4 rfl ?_
    refine z_ic e_X11_place_11 ?_
    refine z_icmp_eq e_X11_place_12 h (fun c5 h => ?_) (fun c5 h => ?_)
    · exact z_sub [0, 1, 2, 3, 4] rfl (p_X11_place_27 hR x1 x2 x3 x4 s1 h)
    · refine z_iload e_X11_place_15 4 rfl ?_
      refine z_ic e_X11_place_17 ?_
      obtain ⟨q22, s21, e23, h⟩ := bd_e h
      refine z_callSi (As := [.int x4, .int (8 : Int32)]) (rest := []) lk_X11_104 e_X11_place_19 (m_X11_isBelow G x4 (8 : Int32) s1 _ _ e23) (by decide) rfl (Nat.le_of_ble_eq_true rfl) ?_
      refine z_if_ne e_X11_place_22 h (fun c24 h => ?_) (fun c24 h => ?_)
      · refine z_ic e_X11_place_25 ?_
        cases h
        exact z_zreturn hR e_X11_place_26 (Or.inl rfl)
      · exact z_sub [0, 1, 2, 3, 4] rfl (p_X11_place_27 hR x1 x2 x3 x4 s21 h)
noncomputable def F_X11_place (x1 : Int32) (x2 : Int32) (x3 : Int32) (x4 : Int32) (σ : zSt) : Option (Int32 × zSt) := F_X11_place_0 x1 x2 x3 x4 σ
set_option maxRecDepth 100000 in
theorem m_X11_place (G : zG) (x1 : Int32) (x2 : Int32) (x3 : Int32) (x4 : Int32) (σ : zSt) (q : Int32) (τ : zSt) (h : F_X11_place x1 x2 x3 x4 σ = some (q, τ)) : zM G 3 yX11_place cX11_place 5 (some .boolean) [.ref (zad G 0), .int x1, .int x2, .int x3, .int x4] σ (some (.int q)) τ := by
  unfold F_X11_place at h
  refine zM.of (own := RX11) (by decide +kernel) rfl (Nat.le_of_ble_eq_true rfl) (fun C hR => ?_)
  exact z_sub [0, 1, 2, 3, 4] rfl (p_X11_place_0 hR x1 x2 x3 x4 σ h)
noncomputable def F_X12_isEight_0 (x0 : Int32) (σ : zSt) : Option (Int32 × zSt) :=
  if x0 < 0 then (
    some ((0 : Int32), σ))
  else (
    if (8 : Int32) ≤ x0 then (
      some ((0 : Int32), σ))
    else (
      some ((1 : Int32), σ)))
set_option maxHeartbeats 4000000 in
set_option maxRecDepth 100000 in
theorem p_X12_isEight_0 {G : zG} {C : zC} {r : Int32} {τ : zSt} (hR : zR G C (some .boolean) (some (.int r)) τ) (x0 : Int32) (σ : zSt) (h : F_X12_isEight_0 x0 σ = some (r, τ)) : zAW G 1 RX12 cX12_isEight 1 C 0 [(0, .int x0)] [] σ := by
  unfold F_X12_isEight_0 at h
  refine z_iload e_X12_isEight_0 0 rfl ?_
  refine z_if_lt e_X12_isEight_1 h (fun c1 h => ?_) (fun c1 h => ?_)
  · refine z_ic e_X12_isEight_14 ?_
    cases h
    exact z_zreturn hR e_X12_isEight_15 (Or.inl rfl)
  · refine z_iload e_X12_isEight_4 0 rfl ?_
    refine z_ic e_X12_isEight_5 ?_
    refine z_icmp_ge e_X12_isEight_7 h (fun c2 h => ?_) (fun c2 h => ?_)
    · refine z_ic e_X12_isEight_14 ?_
      cases h
      exact z_zreturn hR e_X12_isEight_15 (Or.inl rfl)
    · refine z_ic e_X12_isEight_10 ?_
      refine z_goto e_X12_isEight_11 ?_
      cases h
      exact z_zreturn hR e_X12_isEight_15 (Or.inr rfl)
noncomputable def F_X12_isEight (x0 : Int32) (σ : zSt) : Option (Int32 × zSt) := F_X12_isEight_0 x0 σ
set_option maxRecDepth 100000 in
theorem m_X12_isEight (G : zG) (x0 : Int32) (σ : zSt) (q : Int32) (τ : zSt) (h : F_X12_isEight x0 σ = some (q, τ)) : zM G 1 yX12_isEight cX12_isEight 1 (some .boolean) [.int x0] σ (some (.int q)) τ := by
  unfold F_X12_isEight at h
  refine zM.of (own := RX12) (by decide +kernel) rfl (Nat.le_of_ble_eq_true rfl) (fun C hR => ?_)
  exact z_sub [0] rfl (p_X12_isEight_0 hR x0 σ h)
noncomputable def F_X12_has_0 (x0 : Int32) (x1 : Int32) (σ : zSt) : Option (Int32 × zSt) :=
  if ((x0 >>> (x1 &&& 31)) &&& (1 : Int32)) = (1 : Int32) then (
    some ((1 : Int32), σ))
  else (
    some ((0 : Int32), σ))
set_option maxHeartbeats 4000000 in
set_option maxRecDepth 100000 in
theorem p_X12_has_0 {G : zG} {C : zC} {r : Int32} {τ : zSt} (hR : zR G C (some .boolean) (some (.int r)) τ) (x0 : Int32) (x1 : Int32) (σ : zSt) (h : F_X12_has_0 x0 x1 σ = some (r, τ)) : zAW G 1 RX12 cX12_has 2 C 0 [(0, .int x0), (1, .int x1)] [] σ := by
  unfold F_X12_has_0 at h
  refine z_iload e_X12_has_0 0 rfl ?_
  refine z_iload e_X12_has_1 1 rfl ?_
  refine z_ishr e_X12_has_2 ?_
  refine z_ic e_X12_has_3 ?_
  refine z_iand e_X12_has_4 ?_
  refine z_ic e_X12_has_5 ?_
  refine z_icmp_ne e_X12_has_6 h (fun c1 h => ?_) (fun c1 h => ?_)
  · refine z_ic e_X12_has_9 ?_
    refine z_goto e_X12_has_10 ?_
    cases h
    exact z_zreturn hR e_X12_has_14 (Or.inr rfl)
  · refine z_ic e_X12_has_13 ?_
    cases h
    exact z_zreturn hR e_X12_has_14 (Or.inl rfl)
noncomputable def F_X12_has (x0 : Int32) (x1 : Int32) (σ : zSt) : Option (Int32 × zSt) := F_X12_has_0 x0 x1 σ
set_option maxRecDepth 100000 in
theorem m_X12_has (G : zG) (x0 : Int32) (x1 : Int32) (σ : zSt) (q : Int32) (τ : zSt) (h : F_X12_has x0 x1 σ = some (q, τ)) : zM G 1 yX12_has cX12_has 2 (some .boolean) [.int x0, .int x1] σ (some (.int q)) τ := by
  unfold F_X12_has at h
  refine zM.of (own := RX12) (by decide +kernel) rfl (Nat.le_of_ble_eq_true rfl) (fun C hR => ?_)
  exact z_sub [0, 1] rfl (p_X12_has_0 hR x0 x1 σ h)
noncomputable def F_X12_isPlace_0 (x1 : Int32) (σ : zSt) : Option (Int32 × zSt) :=
  bd (F_X12_isEight x1 σ) (fun q2 s1 =>
    if q2 = 0 then (
      some ((0 : Int32), s1))
    else (
      bd (F_X12_has (s1.1 69 0) x1 s1) (fun q6 s5 =>
        if q6 = 0 then (
          some ((0 : Int32), s5))
        else (
          some ((1 : Int32), s5)))))
set_option maxHeartbeats 4000000 in
set_option maxRecDepth 100000 in
theorem p_X12_isPlace_0 {G : zG} {C : zC} {r : Int32} {τ : zSt} (hR : zR G C (some .boolean) (some (.int r)) τ) (x1 : Int32) (σ : zSt) (h : F_X12_isPlace_0 x1 σ = some (r, τ)) : zAW G 2 RX12 cX12_isPlace 2 C 0 [(0, .ref (zad G 69)), (1, .int x1)] [] σ := by
  unfold F_X12_isPlace_0 at h
  refine z_iload e_X12_isPlace_0 1 rfl ?_
  obtain ⟨q2, s1, e3, h⟩ := bd_e h
  refine z_callSi (As := [.int x1]) (rest := []) lk_X12_149 e_X12_isPlace_1 (m_X12_isEight G x1 σ _ _ e3) (by decide) rfl (Nat.le_of_ble_eq_true rfl) ?_
  refine z_if_eq e_X12_isPlace_4 h (fun c4 h => ?_) (fun c4 h => ?_)
  · refine z_ic e_X12_isPlace_22 ?_
    cases h
    exact z_zreturn hR e_X12_isPlace_23 (Or.inl rfl)
  · refine z_aload e_X12_isPlace_7 0 rfl ?_
    refine z_geti gf_X12_153_69 e_X12_isPlace_8 ?_
    refine z_iload e_X12_isPlace_11 1 rfl ?_
    obtain ⟨q6, s5, e7, h⟩ := bd_e h
    refine z_callSi (As := [.int (s1.1 69 0), .int x1]) (rest := []) lk_X12_156 e_X12_isPlace_12 (m_X12_has G (s1.1 69 0) x1 s1 _ _ e7) (by decide) rfl (Nat.le_of_ble_eq_true rfl) ?_
    refine z_if_eq e_X12_isPlace_15 h (fun c8 h => ?_) (fun c8 h => ?_)
    · refine z_ic e_X12_isPlace_22 ?_
      cases h
      exact z_zreturn hR e_X12_isPlace_23 (Or.inl rfl)
    · refine z_ic e_X12_isPlace_18 ?_
      refine z_goto e_X12_isPlace_19 ?_
      cases h
      exact z_zreturn hR e_X12_isPlace_23 (Or.inr rfl)
noncomputable def F_X12_isPlace (x1 : Int32) (σ : zSt) : Option (Int32 × zSt) := F_X12_isPlace_0 x1 σ
set_option maxRecDepth 100000 in
theorem m_X12_isPlace (G : zG) (x1 : Int32) (σ : zSt) (q : Int32) (τ : zSt) (h : F_X12_isPlace x1 σ = some (q, τ)) : zM G 2 yX12_isPlace cX12_isPlace 2 (some .boolean) [.ref (zad G 69), .int x1] σ (some (.int q)) τ := by
  unfold F_X12_isPlace at h
  refine zM.of (own := RX12) (by decide +kernel) rfl (Nat.le_of_ble_eq_true rfl) (fun C hR => ?_)
  exact z_sub [0, 1] rfl (p_X12_isPlace_0 hR x1 σ h)
noncomputable def F_X12_place_53 (x1 : Int32) (x2 : Int32) (x3 : Int32) (x4 : Int32) (σ : zSt) : Option (Int32 × zSt) :=
  nm (zwr σ 69 0 ((σ.1 69 0) ||| ((1 : Int32) <<< (x1 &&& 31)))) (fun s11 =>
    nm (zwr s11 69 1 ((s11.1 69 1) &&& (((1 : Int32) <<< (x1 &&& 31)) ^^^ (-1 : Int32)))) (fun s12 =>
      nm (if x3 = (-1 : Int32) then x2 else (0 : Int32)) (fun v13 =>
        gd (vp_in x1 8) (nm (zwr s12 71 x1.toNatClampNeg v13) (fun s14 =>
          nm (if x3 = (-1 : Int32) then (-2 : Int32) else x3) (fun v15 =>
            gd (vp_in x1 8) (nm (zwr s14 72 x1.toNatClampNeg v15) (fun s16 =>
              nm (if x4 = (-1 : Int32) then (-2 : Int32) else x4) (fun v17 =>
                gd (vp_in x1 8) (nm (zwr s16 73 x1.toNatClampNeg v17) (fun s18 =>
                  gd (vp_in x1 8) (nm (zwr s18 74 x1.toNatClampNeg (-2 : Int32)) (fun s19 =>
                    some ((1 : Int32), s19))))))))))))))
set_option maxHeartbeats 4000000 in
set_option maxRecDepth 100000 in
theorem p_X12_place_53 {G : zG} {C : zC} {r : Int32} {τ : zSt} (hR : zR G C (some .boolean) (some (.int r)) τ) (x1 : Int32) (x2 : Int32) (x3 : Int32) (x4 : Int32) (σ : zSt) (h : F_X12_place_53 x1 x2 x3 x4 σ = some (r, τ)) : zAW G 3 RX12 cX12_place 5 C 53 [(0, .ref (zad G 69)), (1, .int x1), (2, .int x2), (3, .int x3), (4, .int x4)] [] σ := by
  unfold F_X12_place_53 at h
  refine z_aload e_X12_place_53 0 rfl ?_
  refine z_aload e_X12_place_54 0 rfl ?_
  refine z_geti gf_X12_153_69 e_X12_place_55 ?_
  refine z_ic e_X12_place_58 ?_
  refine z_iload e_X12_place_59 1 rfl ?_
  refine z_ishl e_X12_place_60 ?_
  refine z_ior e_X12_place_61 ?_
  refine z_puti pf_X12_153_69 e_X12_place_62 h (fun s11 h => ?_)
  refine z_aload e_X12_place_65 0 rfl ?_
  refine z_aload e_X12_place_66 0 rfl ?_
  refine z_geti gf_X12_170_69 e_X12_place_67 ?_
  refine z_ic e_X12_place_70 ?_
  refine z_iload e_X12_place_71 1 rfl ?_
  refine z_ishl e_X12_place_72 ?_
  refine z_ic e_X12_place_73 ?_
  refine z_ixor e_X12_place_74 ?_
  refine z_iand e_X12_place_75 ?_
  refine z_puti pf_X12_170_69 e_X12_place_76 h (fun s12 h => ?_)
  refine z_aload e_X12_place_79 0 rfl ?_
  refine z_getr gf_X12_13_69 e_X12_place_80 ?_
  refine z_iload e_X12_place_83 1 rfl ?_
  refine z_iload e_X12_place_84 3 rfl ?_
  refine z_ic e_X12_place_85 ?_
  obtain ⟨v13, ev13, h⟩ := nm_i h
  have jv13 : zAW G 3 RX12 cX12_place 5 C 94 [(0, .ref (zad G 69)), (1, .int x1), (3, .int x3), (4, .int x4)] [.int v13, .int x1, .ref (zad G 71)] s12 := by
    refine z_iast sh_71 e_X12_place_94 h (fun s14 h => ?_)
    refine z_aload e_X12_place_95 0 rfl ?_
    refine z_getr gf_X12_16_69 e_X12_place_96 ?_
    refine z_iload e_X12_place_99 1 rfl ?_
    refine z_iload e_X12_place_100 2 rfl ?_
    refine z_ic e_X12_place_101 ?_
    obtain ⟨v15, ev15, h⟩ := nm_i h
    have jv15 : zAW G 3 RX12 cX12_place 5 C 111 [(0, .ref (zad G 69)), (1, .int x1), (4, .int x4)] [.int v15, .int x1, .ref (zad G 72)] s14 := by
      refine z_iast sh_72 e_X12_place_111 h (fun s16 h => ?_)
      refine z_aload e_X12_place_112 0 rfl ?_
      refine z_getr gf_X12_19_69 e_X12_place_113 ?_
      refine z_iload e_X12_place_116 1 rfl ?_
      refine z_iload e_X12_place_117 2 rfl ?_
      refine z_ic e_X12_place_119 ?_
      obtain ⟨v17, ev17, h⟩ := nm_i h
      have jv17 : zAW G 3 RX12 cX12_place 5 C 130 [(0, .ref (zad G 69)), (1, .int x1)] [.int v17, .int x1, .ref (zad G 73)] s16 := by
        refine z_iast sh_73 e_X12_place_130 h (fun s18 h => ?_)
        refine z_aload e_X12_place_131 0 rfl ?_
        refine z_getr gf_X12_22_69 e_X12_place_132 ?_
        refine z_iload e_X12_place_135 1 rfl ?_
        refine z_ic e_X12_place_136 ?_
        refine z_iast sh_74 e_X12_place_138 h (fun s19 h => ?_)
        refine z_ic e_X12_place_139 ?_
        cases h
        exact z_zreturn hR e_X12_place_140 (Or.inr rfl)
      refine y_icmp_ne e_X12_place_120 (fun c20 => ?_) (fun c20 => ?_)
      · refine z_ic e_X12_place_123 ?_
        refine z_goto e_X12_place_125 ?_
        rw [if_pos c20] at ev17
        subst ev17
        exact z_sub [0, 1] rfl jv17
      · refine z_iload e_X12_place_128 2 rfl ?_
        rw [if_neg c20] at ev17
        subst ev17
        exact z_sub [0, 1] rfl jv17
    refine y_icmp_ne e_X12_place_102 (fun c21 => ?_) (fun c21 => ?_)
    · refine z_ic e_X12_place_105 ?_
      refine z_goto e_X12_place_107 ?_
      rw [if_pos c21] at ev15
      subst ev15
      exact z_sub [0, 1, 3] rfl jv15
    · refine z_iload e_X12_place_110 2 rfl ?_
      rw [if_neg c21] at ev15
      subst ev15
      exact z_sub [0, 1, 3] rfl jv15
  refine y_icmp_ne e_X12_place_86 (fun c22 => ?_) (fun c22 => ?_)
  · refine z_iload e_X12_place_89 2 rfl ?_
    refine z_goto e_X12_place_90 ?_
    rw [if_pos c22] at ev13
    subst ev13
    exact z_sub [0, 1, 3, 4] rfl jv13
  · refine z_ic e_X12_place_93 ?_
    rw [if_neg c22] at ev13
    subst ev13
    exact z_sub [0, 1, 3, 4] rfl jv13
noncomputable def F_X12_place_23 (x1 : Int32) (x2 : Int32) (x3 : Int32) (x4 : Int32) (σ : zSt) : Option (Int32 × zSt) :=
  if x3 = (-1 : Int32) then (
    bd (F_X12_isIsland x2 σ) (fun q8 s7 =>
      if q8 = 0 then (
        some ((0 : Int32), s7))
      else (
        F_X12_place_53 x1 x2 x3 x4 s7)))
  else (
    bd (F_X12_isPlace x3 σ) (fun q24 s23 =>
      if q24 = 0 then (
        some ((0 : Int32), s23))
      else (
        if x3 < x1 then (
          F_X12_place_53 x1 x2 x3 x4 s23)
        else (
          some ((0 : Int32), s23)))))
set_option maxHeartbeats 4000000 in
set_option maxRecDepth 100000 in
theorem p_X12_place_23 {G : zG} {C : zC} {r : Int32} {τ : zSt} (hR : zR G C (some .boolean) (some (.int r)) τ) (x1 : Int32) (x2 : Int32) (x3 : Int32) (x4 : Int32) (σ : zSt) (h : F_X12_place_23 x1 x2 x3 x4 σ = some (r, τ)) : zAW G 3 RX12 cX12_place 5 C 23 [(0, .ref (zad G 69)), (1, .int x1), (2, .int x2), (3, .int x3), (4, .int x4)] [] σ := by
  unfold F_X12_place_23 at h
  refine z_iload e_X12_place_23 3 rfl ?_
  refine z_ic e_X12_place_24 ?_
  refine z_icmp_ne e_X12_place_25 h (fun c6 h => ?_) (fun c6 h => ?_)
  · refine z_iload e_X12_place_28 2 rfl ?_
    obtain ⟨q8, s7, e9, h⟩ := bd_e h
    refine z_callSi (As := [.int x2]) (rest := []) lk_X12_160 e_X12_place_29 (m_X12_isIsland G x2 σ _ _ e9) (by decide) rfl (Nat.le_of_ble_eq_true rfl) ?_
    refine z_if_ne e_X12_place_32 h (fun c10 h => ?_) (fun c10 h => ?_)
    · refine z_goto e_X12_place_35 ?_
      refine z_ic e_X12_place_51 ?_
      cases h
      exact z_zreturn hR e_X12_place_52 (Or.inl rfl)
    · exact z_sub [0, 1, 2, 3, 4] rfl (p_X12_place_53 hR x1 x2 x3 x4 s7 h)
  · refine z_aload e_X12_place_38 0 rfl ?_
    refine z_iload e_X12_place_39 3 rfl ?_
    obtain ⟨q24, s23, e25, h⟩ := bd_e h
    refine z_callVi (c0 := 69) (As := [.int x3]) (rest := []) lk_X12_167 ob_69 e_X12_place_40 (m_X12_isPlace G x3 σ _ _ e25) (by decide) rfl (Nat.le_of_ble_eq_true rfl) ?_
    refine z_if_eq e_X12_place_43 h (fun c26 h => ?_) (fun c26 h => ?_)
    · refine z_ic e_X12_place_51 ?_
      cases h
      exact z_zreturn hR e_X12_place_52 (Or.inl rfl)
    · refine z_iload e_X12_place_46 3 rfl ?_
      refine z_iload e_X12_place_47 1 rfl ?_
      refine z_icmp_lt e_X12_place_48 h (fun c27 h => ?_) (fun c27 h => ?_)
      · exact z_sub [0, 1, 2, 3, 4] rfl (p_X12_place_53 hR x1 x2 x3 x4 s23 h)
      · refine z_ic e_X12_place_51 ?_
        cases h
        exact z_zreturn hR e_X12_place_52 (Or.inl rfl)
noncomputable def F_X12_place_0 (x1 : Int32) (x2 : Int32) (x3 : Int32) (x4 : Int32) (σ : zSt) : Option (Int32 × zSt) :=
  bd (F_X12_isEight x1 σ) (fun q2 s1 =>
    if q2 = 0 then (
      some ((0 : Int32), s1))
    else (
      if x4 = (-1 : Int32) then (
        F_X12_place_23 x1 x2 x3 x4 s1)
      else (
        bd (F_X12_isEight x4 s1) (fun q29 s28 =>
          if q29 = 0 then (
            some ((0 : Int32), s28))
          else (
            F_X12_place_23 x1 x2 x3 x4 s28)))))
set_option maxHeartbeats 4000000 in
set_option maxRecDepth 100000 in
theorem p_X12_place_0 {G : zG} {C : zC} {r : Int32} {τ : zSt} (hR : zR G C (some .boolean) (some (.int r)) τ) (x1 : Int32) (x2 : Int32) (x3 : Int32) (x4 : Int32) (σ : zSt) (h : F_X12_place_0 x1 x2 x3 x4 σ = some (r, τ)) : zAW G 3 RX12 cX12_place 5 C 0 [(0, .ref (zad G 69)), (1, .int x1), (2, .int x2), (3, .int x3), (4, .int x4)] [] σ := by
  unfold F_X12_place_0 at h
  refine z_iload e_X12_place_0 1 rfl ?_
  obtain ⟨q2, s1, e3, h⟩ := bd_e h
  refine z_callSi (As := [.int x1]) (rest := []) lk_X12_149 e_X12_place_1 (m_X12_isEight G x1 σ _ _ e3) (by decide) rfl (Nat.le_of_ble_eq_true rfl) ?_
  refine z_if_eq e_X12_place_4 h (fun c4 h => ?_) (fun c4 h => ?_)
  · refine z_ic e_X12_place_21 ?_
    cases h
    exact z_zreturn hR e_X12_place_22 (Or.inl rfl)
  · refine z_iload e_X12_place_7 4 rfl ?_
    refine z_ic e_X12_place_9 ?_
    refine z_icmp_eq e_X12_place_10 h (fun c5 h => ?_) (fun c5 h => ?_)
    · exact z_sub [0, 1, 2, 3, 4] rfl (p_X12_place_23 hR x1 x2 x3 x4 s1 h)
    · refine z_iload e_X12_place_13 4 rfl ?_
      obtain ⟨q29, s28, e30, h⟩ := bd_e h
      refine z_callSi (As := [.int x4]) (rest := []) lk_X12_149 e_X12_place_15 (m_X12_isEight G x4 s1 _ _ e30) (by decide) rfl (Nat.le_of_ble_eq_true rfl) ?_
      refine z_if_ne e_X12_place_18 h (fun c31 h => ?_) (fun c31 h => ?_)
      · refine z_ic e_X12_place_21 ?_
        cases h
        exact z_zreturn hR e_X12_place_22 (Or.inl rfl)
      · exact z_sub [0, 1, 2, 3, 4] rfl (p_X12_place_23 hR x1 x2 x3 x4 s28 h)
noncomputable def F_X12_place (x1 : Int32) (x2 : Int32) (x3 : Int32) (x4 : Int32) (σ : zSt) : Option (Int32 × zSt) := F_X12_place_0 x1 x2 x3 x4 σ
set_option maxRecDepth 100000 in
theorem m_X12_place (G : zG) (x1 : Int32) (x2 : Int32) (x3 : Int32) (x4 : Int32) (σ : zSt) (q : Int32) (τ : zSt) (h : F_X12_place x1 x2 x3 x4 σ = some (q, τ)) : zM G 3 yX12_place cX12_place 5 (some .boolean) [.ref (zad G 69), .int x1, .int x2, .int x3, .int x4] σ (some (.int q)) τ := by
  unfold F_X12_place at h
  refine zM.of (own := RX12) (by decide +kernel) rfl (Nat.le_of_ble_eq_true rfl) (fun C hR => ?_)
  exact z_sub [0, 1, 2, 3, 4] rfl (p_X12_place_0 hR x1 x2 x3 x4 σ h)
noncomputable def F_X11_more_34 (x1 : Int32) (x2 : Int32) (x3 : Int32) (σ : zSt) : Option (Int32 × zSt) :=
  nm (if x2 = 0 then ((σ.1 1 7) &&& (((1 : Int32) <<< (x1 &&& 31)) ^^^ (-1 : Int32))) else ((σ.1 1 7) ||| ((1 : Int32) <<< (x1 &&& 31)))) (fun v6 =>
    nm (zwr σ 1 7 v6) (fun s7 =>
      gd (vp_in x1 8) (nm (zwr s7 6 x1.toNatClampNeg x3) (fun s8 =>
        some ((1 : Int32), s8)))))
set_option maxHeartbeats 4000000 in
set_option maxRecDepth 100000 in
theorem p_X11_more_34 {G : zG} {C : zC} {r : Int32} {τ : zSt} (hR : zR G C (some .boolean) (some (.int r)) τ) (x1 : Int32) (x2 : Int32) (x3 : Int32) (σ : zSt) (h : F_X11_more_34 x1 x2 x3 σ = some (r, τ)) : zAW G 3 RX11 cX11_more 4 C 34 [(0, .ref (zad G 0)), (1, .int x1), (2, .int x2), (3, .int x3)] [] σ := by
  unfold F_X11_more_34 at h
  refine z_aload e_X11_more_34 0 rfl ?_
  refine z_getr gf_X11_23_0 e_X11_more_35 ?_
  refine z_iload e_X11_more_38 2 rfl ?_
  obtain ⟨v6, ev6, h⟩ := nm_i h
  have jv6 : zAW G 3 RX11 cX11_more 4 C 69 [(0, .ref (zad G 0)), (1, .int x1), (3, .int x3)] [.int v6, .ref (zad G 1)] σ := by
    refine z_puti pf_X11_120_1 e_X11_more_69 h (fun s7 h => ?_)
    refine z_aload e_X11_more_72 0 rfl ?_
    refine z_getr gf_X11_23_0 e_X11_more_73 ?_
    refine z_getr gf_X11_124_1 e_X11_more_76 ?_
    refine z_iload e_X11_more_79 1 rfl ?_
    refine z_iload e_X11_more_80 2 rfl ?_
    refine z_iast sh_6 e_X11_more_81 h (fun s8 h => ?_)
    refine z_ic e_X11_more_82 ?_
    cases h
    exact z_zreturn hR e_X11_more_83 (Or.inr rfl)
  refine y_if_eq e_X11_more_39 (fun c9 => ?_) (fun c9 => ?_)
  · refine z_aload e_X11_more_56 0 rfl ?_
    refine z_getr gf_X11_23_0 e_X11_more_57 ?_
    refine z_geti gf_X11_120_1 e_X11_more_60 ?_
    refine z_ic e_X11_more_63 ?_
    refine z_iload e_X11_more_64 1 rfl ?_
    refine z_ishl e_X11_more_65 ?_
    refine z_ic e_X11_more_66 ?_
    refine z_ixor e_X11_more_67 ?_
    refine z_iand e_X11_more_68 ?_
    rw [if_pos c9] at ev6
    subst ev6
    exact z_sub [0, 1, 3] rfl jv6
  · refine z_aload e_X11_more_42 0 rfl ?_
    refine z_getr gf_X11_23_0 e_X11_more_43 ?_
    refine z_geti gf_X11_120_1 e_X11_more_46 ?_
    refine z_ic e_X11_more_49 ?_
    refine z_iload e_X11_more_50 1 rfl ?_
    refine z_ishl e_X11_more_51 ?_
    refine z_ior e_X11_more_52 ?_
    refine z_goto e_X11_more_53 ?_
    rw [if_neg c9] at ev6
    subst ev6
    exact z_sub [0, 1, 3] rfl jv6
noncomputable def F_X11_more_0 (x1 : Int32) (x2 : Int32) (x3 : Int32) (σ : zSt) : Option (Int32 × zSt) :=
  bd (F_X10_isTold x1 σ) (fun q2 s1 =>
    if q2 = 0 then (
      some ((0 : Int32), s1))
    else (
      if x3 = (-1 : Int32) then (
        F_X11_more_34 x1 x2 x3 s1)
      else (
        bd (F_X10_isTold x3 s1) (fun q11 s10 =>
          if q11 = 0 then (
            some ((0 : Int32), s10))
          else (
            if x1 < x3 then (
              F_X11_more_34 x1 x2 x3 s10)
            else (
              some ((0 : Int32), s10)))))))
set_option maxHeartbeats 4000000 in
set_option maxRecDepth 100000 in
theorem p_X11_more_0 {G : zG} {C : zC} {r : Int32} {τ : zSt} (hR : zR G C (some .boolean) (some (.int r)) τ) (x1 : Int32) (x2 : Int32) (x3 : Int32) (σ : zSt) (h : F_X11_more_0 x1 x2 x3 σ = some (r, τ)) : zAW G 3 RX11 cX11_more 4 C 0 [(0, .ref (zad G 0)), (1, .int x1), (2, .int x2), (3, .int x3)] [] σ := by
  unfold F_X11_more_0 at h
  refine z_aload e_X11_more_0 0 rfl ?_
  refine z_getr gf_X11_23_0 e_X11_more_1 ?_
  refine z_iload e_X11_more_4 1 rfl ?_
  obtain ⟨q2, s1, e3, h⟩ := bd_e h
  refine z_callVi (c0 := 1) (As := [.int x1]) (rest := []) lk_X11_112 ob_1 e_X11_more_5 (m_X10_isTold G x1 σ _ _ e3) (by decide) rfl (Nat.le_of_ble_eq_true rfl) ?_
  refine z_if_eq e_X11_more_8 h (fun c4 h => ?_) (fun c4 h => ?_)
  · refine z_ic e_X11_more_32 ?_
    cases h
    exact z_zreturn hR e_X11_more_33 (Or.inl rfl)
  · refine z_iload e_X11_more_11 3 rfl ?_
    refine z_ic e_X11_more_12 ?_
    refine z_icmp_eq e_X11_more_13 h (fun c5 h => ?_) (fun c5 h => ?_)
    · exact z_sub [0, 1, 2, 3] rfl (p_X11_more_34 hR x1 x2 x3 s1 h)
    · refine z_aload e_X11_more_16 0 rfl ?_
      refine z_getr gf_X11_23_0 e_X11_more_17 ?_
      refine z_iload e_X11_more_20 3 rfl ?_
      obtain ⟨q11, s10, e12, h⟩ := bd_e h
      refine z_callVi (c0 := 1) (As := [.int x3]) (rest := []) lk_X11_112 ob_1 e_X11_more_21 (m_X10_isTold G x3 s1 _ _ e12) (by decide) rfl (Nat.le_of_ble_eq_true rfl) ?_
      refine z_if_eq e_X11_more_24 h (fun c13 h => ?_) (fun c13 h => ?_)
      · refine z_ic e_X11_more_32 ?_
        cases h
        exact z_zreturn hR e_X11_more_33 (Or.inl rfl)
      · refine z_iload e_X11_more_27 3 rfl ?_
        refine z_iload e_X11_more_28 1 rfl ?_
        refine z_icmp_gt e_X11_more_29 h (fun c14 h => ?_) (fun c14 h => ?_)
        · exact z_sub [0, 1, 2, 3] rfl (p_X11_more_34 hR x1 x2 x3 s10 h)
        · refine z_ic e_X11_more_32 ?_
          cases h
          exact z_zreturn hR e_X11_more_33 (Or.inl rfl)
noncomputable def F_X11_more (x1 : Int32) (x2 : Int32) (x3 : Int32) (σ : zSt) : Option (Int32 × zSt) := F_X11_more_0 x1 x2 x3 σ
set_option maxRecDepth 100000 in
theorem m_X11_more (G : zG) (x1 : Int32) (x2 : Int32) (x3 : Int32) (σ : zSt) (q : Int32) (τ : zSt) (h : F_X11_more x1 x2 x3 σ = some (q, τ)) : zM G 3 yX11_more cX11_more 4 (some .boolean) [.ref (zad G 0), .int x1, .int x2, .int x3] σ (some (.int q)) τ := by
  unfold F_X11_more at h
  refine zM.of (own := RX11) (by decide +kernel) rfl (Nat.le_of_ble_eq_true rfl) (fun C hR => ?_)
  exact z_sub [0, 1, 2, 3] rfl (p_X11_more_0 hR x1 x2 x3 σ h)
noncomputable def F_X12_more_28 (x1 : Int32) (x2 : Int32) (x3 : Int32) (σ : zSt) : Option (Int32 × zSt) :=
  nm (if x2 = 0 then ((σ.1 69 1) &&& (((1 : Int32) <<< (x1 &&& 31)) ^^^ (-1 : Int32))) else ((σ.1 69 1) ||| ((1 : Int32) <<< (x1 &&& 31)))) (fun v6 =>
    nm (zwr σ 69 1 v6) (fun s7 =>
      nm (if x3 = (-1 : Int32) then (-2 : Int32) else x3) (fun v8 =>
        gd (vp_in x1 8) (nm (zwr s7 74 x1.toNatClampNeg v8) (fun s9 =>
          some ((1 : Int32), s9))))))
set_option maxHeartbeats 4000000 in
set_option maxRecDepth 100000 in
theorem p_X12_more_28 {G : zG} {C : zC} {r : Int32} {τ : zSt} (hR : zR G C (some .boolean) (some (.int r)) τ) (x1 : Int32) (x2 : Int32) (x3 : Int32) (σ : zSt) (h : F_X12_more_28 x1 x2 x3 σ = some (r, τ)) : zAW G 3 RX12 cX12_more 4 C 28 [(0, .ref (zad G 69)), (1, .int x1), (2, .int x2), (3, .int x3)] [] σ := by
  unfold F_X12_more_28 at h
  refine z_aload e_X12_more_28 0 rfl ?_
  refine z_iload e_X12_more_29 2 rfl ?_
  obtain ⟨v6, ev6, h⟩ := nm_i h
  have jv6 : zAW G 3 RX12 cX12_more 4 C 54 [(0, .ref (zad G 69)), (1, .int x1), (3, .int x3)] [.int v6, .ref (zad G 69)] σ := by
    refine z_puti pf_X12_170_69 e_X12_more_54 h (fun s7 h => ?_)
    refine z_aload e_X12_more_57 0 rfl ?_
    refine z_getr gf_X12_22_69 e_X12_more_58 ?_
    refine z_iload e_X12_more_61 1 rfl ?_
    refine z_iload e_X12_more_62 2 rfl ?_
    refine z_ic e_X12_more_63 ?_
    obtain ⟨v8, ev8, h⟩ := nm_i h
    have jv8 : zAW G 3 RX12 cX12_more 4 C 73 [] [.int v8, .int x1, .ref (zad G 74)] s7 := by
      refine z_iast sh_74 e_X12_more_73 h (fun s9 h => ?_)
      refine z_ic e_X12_more_74 ?_
      cases h
      exact z_zreturn hR e_X12_more_75 (Or.inr rfl)
    refine y_icmp_ne e_X12_more_64 (fun c10 => ?_) (fun c10 => ?_)
    · refine z_ic e_X12_more_67 ?_
      refine z_goto e_X12_more_69 ?_
      rw [if_pos c10] at ev8
      subst ev8
      exact z_sub [] rfl jv8
    · refine z_iload e_X12_more_72 2 rfl ?_
      rw [if_neg c10] at ev8
      subst ev8
      exact z_sub [] rfl jv8
  refine y_if_eq e_X12_more_30 (fun c11 => ?_) (fun c11 => ?_)
  · refine z_aload e_X12_more_44 0 rfl ?_
    refine z_geti gf_X12_170_69 e_X12_more_45 ?_
    refine z_ic e_X12_more_48 ?_
    refine z_iload e_X12_more_49 1 rfl ?_
    refine z_ishl e_X12_more_50 ?_
    refine z_ic e_X12_more_51 ?_
    refine z_ixor e_X12_more_52 ?_
    refine z_iand e_X12_more_53 ?_
    rw [if_pos c11] at ev6
    subst ev6
    exact z_sub [0, 1, 3] rfl jv6
  · refine z_aload e_X12_more_33 0 rfl ?_
    refine z_geti gf_X12_170_69 e_X12_more_34 ?_
    refine z_ic e_X12_more_37 ?_
    refine z_iload e_X12_more_38 1 rfl ?_
    refine z_ishl e_X12_more_39 ?_
    refine z_ior e_X12_more_40 ?_
    refine z_goto e_X12_more_41 ?_
    rw [if_neg c11] at ev6
    subst ev6
    exact z_sub [0, 1, 3] rfl jv6
noncomputable def F_X12_more_0 (x1 : Int32) (x2 : Int32) (x3 : Int32) (σ : zSt) : Option (Int32 × zSt) :=
  bd (F_X12_isPlace x1 σ) (fun q2 s1 =>
    if q2 = 0 then (
      some ((0 : Int32), s1))
    else (
      if x3 = (-1 : Int32) then (
        F_X12_more_28 x1 x2 x3 s1)
      else (
        bd (F_X12_isPlace x3 s1) (fun q13 s12 =>
          if q13 = 0 then (
            some ((0 : Int32), s12))
          else (
            if x1 < x3 then (
              F_X12_more_28 x1 x2 x3 s12)
            else (
              some ((0 : Int32), s12)))))))
set_option maxHeartbeats 4000000 in
set_option maxRecDepth 100000 in
theorem p_X12_more_0 {G : zG} {C : zC} {r : Int32} {τ : zSt} (hR : zR G C (some .boolean) (some (.int r)) τ) (x1 : Int32) (x2 : Int32) (x3 : Int32) (σ : zSt) (h : F_X12_more_0 x1 x2 x3 σ = some (r, τ)) : zAW G 3 RX12 cX12_more 4 C 0 [(0, .ref (zad G 69)), (1, .int x1), (2, .int x2), (3, .int x3)] [] σ := by
  unfold F_X12_more_0 at h
  refine z_aload e_X12_more_0 0 rfl ?_
  refine z_iload e_X12_more_1 1 rfl ?_
  obtain ⟨q2, s1, e3, h⟩ := bd_e h
  refine z_callVi (c0 := 69) (As := [.int x1]) (rest := []) lk_X12_167 ob_69 e_X12_more_2 (m_X12_isPlace G x1 σ _ _ e3) (by decide) rfl (Nat.le_of_ble_eq_true rfl) ?_
  refine z_if_eq e_X12_more_5 h (fun c4 h => ?_) (fun c4 h => ?_)
  · refine z_ic e_X12_more_26 ?_
    cases h
    exact z_zreturn hR e_X12_more_27 (Or.inl rfl)
  · refine z_iload e_X12_more_8 3 rfl ?_
    refine z_ic e_X12_more_9 ?_
    refine z_icmp_eq e_X12_more_10 h (fun c5 h => ?_) (fun c5 h => ?_)
    · exact z_sub [0, 1, 2, 3] rfl (p_X12_more_28 hR x1 x2 x3 s1 h)
    · refine z_aload e_X12_more_13 0 rfl ?_
      refine z_iload e_X12_more_14 3 rfl ?_
      obtain ⟨q13, s12, e14, h⟩ := bd_e h
      refine z_callVi (c0 := 69) (As := [.int x3]) (rest := []) lk_X12_167 ob_69 e_X12_more_15 (m_X12_isPlace G x3 s1 _ _ e14) (by decide) rfl (Nat.le_of_ble_eq_true rfl) ?_
      refine z_if_eq e_X12_more_18 h (fun c15 h => ?_) (fun c15 h => ?_)
      · refine z_ic e_X12_more_26 ?_
        cases h
        exact z_zreturn hR e_X12_more_27 (Or.inl rfl)
      · refine z_iload e_X12_more_21 3 rfl ?_
        refine z_iload e_X12_more_22 1 rfl ?_
        refine z_icmp_gt e_X12_more_23 h (fun c16 h => ?_) (fun c16 h => ?_)
        · exact z_sub [0, 1, 2, 3] rfl (p_X12_more_28 hR x1 x2 x3 s12 h)
        · refine z_ic e_X12_more_26 ?_
          cases h
          exact z_zreturn hR e_X12_more_27 (Or.inl rfl)
noncomputable def F_X12_more (x1 : Int32) (x2 : Int32) (x3 : Int32) (σ : zSt) : Option (Int32 × zSt) := F_X12_more_0 x1 x2 x3 σ
set_option maxRecDepth 100000 in
theorem m_X12_more (G : zG) (x1 : Int32) (x2 : Int32) (x3 : Int32) (σ : zSt) (q : Int32) (τ : zSt) (h : F_X12_more x1 x2 x3 σ = some (q, τ)) : zM G 3 yX12_more cX12_more 4 (some .boolean) [.ref (zad G 69), .int x1, .int x2, .int x3] σ (some (.int q)) τ := by
  unfold F_X12_more at h
  refine zM.of (own := RX12) (by decide +kernel) rfl (Nat.le_of_ble_eq_true rfl) (fun C hR => ?_)
  exact z_sub [0, 1, 2, 3] rfl (p_X12_more_0 hR x1 x2 x3 σ h)
noncomputable def F_X11_key_49 (x1 : Int32) (x2 : Int32) (σ : zSt) : Option (Int32 × zSt) :=
  gd (vp_in x1 8) (nm (zwr σ 7 x1.toNatClampNeg x2) (fun s7 =>
    some ((1 : Int32), s7)))
set_option maxHeartbeats 4000000 in
set_option maxRecDepth 100000 in
theorem p_X11_key_49 {G : zG} {C : zC} {r : Int32} {τ : zSt} (hR : zR G C (some .boolean) (some (.int r)) τ) (x1 : Int32) (x2 : Int32) (σ : zSt) (h : F_X11_key_49 x1 x2 σ = some (r, τ)) : zAW G 3 RX11 cX11_key 4 C 49 [(0, .ref (zad G 0)), (1, .int x1), (2, .int x2)] [] σ := by
  unfold F_X11_key_49 at h
  refine z_aload e_X11_key_49 0 rfl ?_
  refine z_getr gf_X11_23_0 e_X11_key_50 ?_
  refine z_getr gf_X11_127_1 e_X11_key_53 ?_
  refine z_iload e_X11_key_56 1 rfl ?_
  refine z_iload e_X11_key_57 2 rfl ?_
  refine z_iast sh_7 e_X11_key_58 h (fun s7 h => ?_)
  refine z_ic e_X11_key_59 ?_
  cases h
  exact z_zreturn hR e_X11_key_60 (Or.inr rfl)
noncomputable def F_X11_key_0 (x1 : Int32) (x2 : Int32) (σ : zSt) : Option (Int32 × zSt) :=
  nm (if x2 < (8 : Int32) then (0 : Int32) else (if (11 : Int32) ≤ x2 then (0 : Int32) else (1 : Int32))) (fun v1 =>
    bd (F_X11_isBelow x1 (8 : Int32) σ) (fun q3 s2 =>
      if q3 = 0 then (
        some ((0 : Int32), s2))
      else (
        if x2 = (-1 : Int32) then (
          F_X11_key_49 x1 x2 s2)
        else (
          if v1 = 0 then (
            bd (F_X10_isTold x2 s2) (fun q10 s9 =>
              if q10 = 0 then (
                some ((0 : Int32), s9))
              else (
                F_X11_key_49 x1 x2 s9)))
          else (
            F_X11_key_49 x1 x2 s2)))))
set_option maxHeartbeats 4000000 in
set_option maxRecDepth 100000 in
theorem p_X11_key_0 {G : zG} {C : zC} {r : Int32} {τ : zSt} (hR : zR G C (some .boolean) (some (.int r)) τ) (x1 : Int32) (x2 : Int32) (σ : zSt) (h : F_X11_key_0 x1 x2 σ = some (r, τ)) : zAW G 3 RX11 cX11_key 4 C 0 [(0, .ref (zad G 0)), (1, .int x1), (2, .int x2)] [] σ := by
  unfold F_X11_key_0 at h
  refine z_iload e_X11_key_0 2 rfl ?_
  refine z_ic e_X11_key_1 ?_
  obtain ⟨v1, ev1, h⟩ := nm_i h
  have jv1 : zAW G 3 RX11 cX11_key 4 C 17 [(0, .ref (zad G 0)), (1, .int x1), (2, .int x2)] [.int v1] σ := by
    refine z_istore e_X11_key_17 (by decide) [(3, .int v1), (0, .ref (zad G 0)), (1, .int x1), (2, .int x2)] rfl ?_
    refine z_iload e_X11_key_18 2 rfl ?_
    refine z_ic e_X11_key_19 ?_
    obtain ⟨q3, s2, e4, h⟩ := bd_e h
    refine z_callSi (As := [.int x1, .int (8 : Int32)]) (rest := []) lk_X11_104 e_X11_key_21 (m_X11_isBelow G x1 (8 : Int32) σ _ _ e4) (by decide) rfl (Nat.le_of_ble_eq_true rfl) ?_
    refine z_if_eq e_X11_key_24 h (fun c5 h => ?_) (fun c5 h => ?_)
    · refine z_ic e_X11_key_47 ?_
      cases h
      exact z_zreturn hR e_X11_key_48 (Or.inl rfl)
    · refine z_iload e_X11_key_27 3 rfl ?_
      refine z_ic e_X11_key_28 ?_
      refine z_icmp_eq e_X11_key_29 h (fun c6 h => ?_) (fun c6 h => ?_)
      · exact z_sub [1, 2, 3] rfl (p_X11_key_49 hR x1 x2 s2 h)
      · refine z_iload e_X11_key_32 0 rfl ?_
        refine z_if_ne e_X11_key_33 h (fun c8 h => ?_) (fun c8 h => ?_)
        · refine z_aload e_X11_key_36 1 rfl ?_
          refine z_getr gf_X11_23_0 e_X11_key_37 ?_
          refine z_iload e_X11_key_40 3 rfl ?_
          obtain ⟨q10, s9, e11, h⟩ := bd_e h
          refine z_callVi (c0 := 1) (As := [.int x2]) (rest := []) lk_X11_112 ob_1 e_X11_key_41 (m_X10_isTold G x2 s2 _ _ e11) (by decide) rfl (Nat.le_of_ble_eq_true rfl) ?_
          refine z_if_ne e_X11_key_44 h (fun c12 h => ?_) (fun c12 h => ?_)
          · refine z_ic e_X11_key_47 ?_
            cases h
            exact z_zreturn hR e_X11_key_48 (Or.inl rfl)
          · exact z_sub [1, 2, 3] rfl (p_X11_key_49 hR x1 x2 s9 h)
        · exact z_sub [1, 2, 3] rfl (p_X11_key_49 hR x1 x2 s2 h)
  refine y_icmp_lt e_X11_key_3 (fun c13 => ?_) (fun c13 => ?_)
  · refine z_ic e_X11_key_16 ?_
    rw [if_pos c13] at ev1
    subst ev1
    exact z_sub [0, 1, 2] rfl jv1
  · refine z_iload e_X11_key_6 2 rfl ?_
    refine z_ic e_X11_key_7 ?_
    refine y_icmp_ge e_X11_key_9 (fun c14 => ?_) (fun c14 => ?_)
    · refine z_ic e_X11_key_16 ?_
      rw [if_neg c13, if_pos c14] at ev1
      subst ev1
      exact z_sub [0, 1, 2] rfl jv1
    · refine z_ic e_X11_key_12 ?_
      refine z_goto e_X11_key_13 ?_
      rw [if_neg c13, if_neg c14] at ev1
      subst ev1
      exact z_sub [0, 1, 2] rfl jv1
noncomputable def F_X11_key (x1 : Int32) (x2 : Int32) (σ : zSt) : Option (Int32 × zSt) := F_X11_key_0 x1 x2 σ
set_option maxRecDepth 100000 in
theorem m_X11_key (G : zG) (x1 : Int32) (x2 : Int32) (σ : zSt) (q : Int32) (τ : zSt) (h : F_X11_key x1 x2 σ = some (q, τ)) : zM G 3 yX11_key cX11_key 4 (some .boolean) [.ref (zad G 0), .int x1, .int x2] σ (some (.int q)) τ := by
  unfold F_X11_key at h
  refine zM.of (own := RX11) (by decide +kernel) rfl (Nat.le_of_ble_eq_true rfl) (fun C hR => ?_)
  exact z_sub [0, 1, 2] rfl (p_X11_key_0 hR x1 x2 σ h)
noncomputable def F_X12_key_33 (x1 : Int32) (x2 : Int32) (σ : zSt) : Option (Int32 × zSt) :=
  nm (if x2 = (-1 : Int32) then (-2 : Int32) else x2) (fun v6 =>
    gd (vp_in x1 8) (nm (zwr σ 75 x1.toNatClampNeg v6) (fun s7 =>
      some ((1 : Int32), s7))))
set_option maxHeartbeats 4000000 in
set_option maxRecDepth 100000 in
theorem p_X12_key_33 {G : zG} {C : zC} {r : Int32} {τ : zSt} (hR : zR G C (some .boolean) (some (.int r)) τ) (x1 : Int32) (x2 : Int32) (σ : zSt) (h : F_X12_key_33 x1 x2 σ = some (r, τ)) : zAW G 3 RX12 cX12_key 3 C 33 [(0, .ref (zad G 69)), (1, .int x1), (2, .int x2)] [] σ := by
  unfold F_X12_key_33 at h
  refine z_aload e_X12_key_33 0 rfl ?_
  refine z_getr gf_X12_25_69 e_X12_key_34 ?_
  refine z_iload e_X12_key_37 1 rfl ?_
  refine z_iload e_X12_key_38 2 rfl ?_
  refine z_ic e_X12_key_39 ?_
  obtain ⟨v6, ev6, h⟩ := nm_i h
  have jv6 : zAW G 3 RX12 cX12_key 3 C 49 [] [.int v6, .int x1, .ref (zad G 75)] σ := by
    refine z_iast sh_75 e_X12_key_49 h (fun s7 h => ?_)
    refine z_ic e_X12_key_50 ?_
    cases h
    exact z_zreturn hR e_X12_key_51 (Or.inr rfl)
  refine y_icmp_ne e_X12_key_40 (fun c8 => ?_) (fun c8 => ?_)
  · refine z_ic e_X12_key_43 ?_
    refine z_goto e_X12_key_45 ?_
    rw [if_pos c8] at ev6
    subst ev6
    exact z_sub [] rfl jv6
  · refine z_iload e_X12_key_48 2 rfl ?_
    rw [if_neg c8] at ev6
    subst ev6
    exact z_sub [] rfl jv6
noncomputable def F_X12_key_0 (x1 : Int32) (x2 : Int32) (σ : zSt) : Option (Int32 × zSt) :=
  bd (F_X12_isEight x1 σ) (fun q2 s1 =>
    if q2 = 0 then (
      some ((0 : Int32), s1))
    else (
      if x2 = (-1 : Int32) then (
        F_X12_key_33 x1 x2 s1)
      else (
        bd (F_X12_isPlace x2 s1) (fun q10 s9 =>
          if q10 = 0 then (
            bd (F_X12_in x2 (8 : Int32) (10 : Int32) s9) (fun q14 s13 =>
              if q14 = 0 then (
                some ((0 : Int32), s13))
              else (
                F_X12_key_33 x1 x2 s13)))
          else (
            F_X12_key_33 x1 x2 s9)))))
set_option maxHeartbeats 4000000 in
set_option maxRecDepth 100000 in
theorem p_X12_key_0 {G : zG} {C : zC} {r : Int32} {τ : zSt} (hR : zR G C (some .boolean) (some (.int r)) τ) (x1 : Int32) (x2 : Int32) (σ : zSt) (h : F_X12_key_0 x1 x2 σ = some (r, τ)) : zAW G 3 RX12 cX12_key 3 C 0 [(0, .ref (zad G 69)), (1, .int x1), (2, .int x2)] [] σ := by
  unfold F_X12_key_0 at h
  refine z_iload e_X12_key_0 1 rfl ?_
  obtain ⟨q2, s1, e3, h⟩ := bd_e h
  refine z_callSi (As := [.int x1]) (rest := []) lk_X12_149 e_X12_key_1 (m_X12_isEight G x1 σ _ _ e3) (by decide) rfl (Nat.le_of_ble_eq_true rfl) ?_
  refine z_if_eq e_X12_key_4 h (fun c4 h => ?_) (fun c4 h => ?_)
  · refine z_ic e_X12_key_31 ?_
    cases h
    exact z_zreturn hR e_X12_key_32 (Or.inl rfl)
  · refine z_iload e_X12_key_7 2 rfl ?_
    refine z_ic e_X12_key_8 ?_
    refine z_icmp_eq e_X12_key_9 h (fun c5 h => ?_) (fun c5 h => ?_)
    · exact z_sub [0, 1, 2] rfl (p_X12_key_33 hR x1 x2 s1 h)
    · refine z_aload e_X12_key_12 0 rfl ?_
      refine z_iload e_X12_key_13 2 rfl ?_
      obtain ⟨q10, s9, e11, h⟩ := bd_e h
      refine z_callVi (c0 := 69) (As := [.int x2]) (rest := []) lk_X12_167 ob_69 e_X12_key_14 (m_X12_isPlace G x2 s1 _ _ e11) (by decide) rfl (Nat.le_of_ble_eq_true rfl) ?_
      refine z_if_ne e_X12_key_17 h (fun c12 h => ?_) (fun c12 h => ?_)
      · refine z_iload e_X12_key_20 2 rfl ?_
        refine z_ic e_X12_key_21 ?_
        refine z_ic e_X12_key_23 ?_
        obtain ⟨q14, s13, e15, h⟩ := bd_e h
        refine z_callSi (As := [.int x2, .int (8 : Int32), .int (10 : Int32)]) (rest := []) lk_X12_163 e_X12_key_25 (m_X12_in G x2 (8 : Int32) (10 : Int32) s9 _ _ e15) (by decide) rfl (Nat.le_of_ble_eq_true rfl) ?_
        refine z_if_ne e_X12_key_28 h (fun c16 h => ?_) (fun c16 h => ?_)
        · refine z_ic e_X12_key_31 ?_
          cases h
          exact z_zreturn hR e_X12_key_32 (Or.inl rfl)
        · exact z_sub [0, 1, 2] rfl (p_X12_key_33 hR x1 x2 s13 h)
      · exact z_sub [0, 1, 2] rfl (p_X12_key_33 hR x1 x2 s9 h)
noncomputable def F_X12_key (x1 : Int32) (x2 : Int32) (σ : zSt) : Option (Int32 × zSt) := F_X12_key_0 x1 x2 σ
set_option maxRecDepth 100000 in
theorem m_X12_key (G : zG) (x1 : Int32) (x2 : Int32) (σ : zSt) (q : Int32) (τ : zSt) (h : F_X12_key x1 x2 σ = some (q, τ)) : zM G 3 yX12_key cX12_key 3 (some .boolean) [.ref (zad G 69), .int x1, .int x2] σ (some (.int q)) τ := by
  unfold F_X12_key at h
  refine zM.of (own := RX12) (by decide +kernel) rfl (Nat.le_of_ble_eq_true rfl) (fun C hR => ?_)
  exact z_sub [0, 1, 2] rfl (p_X12_key_0 hR x1 x2 σ h)
noncomputable def F_X11_heart_0 (x1 : Int32) (σ : zSt) : Option (Int32 × zSt) :=
  bd (F_X10_isTold x1 σ) (fun q2 s1 =>
    if q2 = 0 then (
      some ((0 : Int32), s1))
    else (
      nm (zwr s1 1 8 x1) (fun s5 =>
        some ((1 : Int32), s5))))
set_option maxHeartbeats 4000000 in
set_option maxRecDepth 100000 in
theorem p_X11_heart_0 {G : zG} {C : zC} {r : Int32} {τ : zSt} (hR : zR G C (some .boolean) (some (.int r)) τ) (x1 : Int32) (σ : zSt) (h : F_X11_heart_0 x1 σ = some (r, τ)) : zAW G 3 RX11 cX11_heart 2 C 0 [(0, .ref (zad G 0)), (1, .int x1)] [] σ := by
  unfold F_X11_heart_0 at h
  refine z_aload e_X11_heart_0 0 rfl ?_
  refine z_getr gf_X11_23_0 e_X11_heart_1 ?_
  refine z_iload e_X11_heart_4 1 rfl ?_
  obtain ⟨q2, s1, e3, h⟩ := bd_e h
  refine z_callVi (c0 := 1) (As := [.int x1]) (rest := []) lk_X11_112 ob_1 e_X11_heart_5 (m_X10_isTold G x1 σ _ _ e3) (by decide) rfl (Nat.le_of_ble_eq_true rfl) ?_
  refine z_if_ne e_X11_heart_8 h (fun c4 h => ?_) (fun c4 h => ?_)
  · refine z_ic e_X11_heart_11 ?_
    cases h
    exact z_zreturn hR e_X11_heart_12 (Or.inl rfl)
  · refine z_aload e_X11_heart_13 0 rfl ?_
    refine z_getr gf_X11_23_0 e_X11_heart_14 ?_
    refine z_iload e_X11_heart_17 1 rfl ?_
    refine z_puti pf_X11_130_1 e_X11_heart_18 h (fun s5 h => ?_)
    refine z_ic e_X11_heart_21 ?_
    cases h
    exact z_zreturn hR e_X11_heart_22 (Or.inr rfl)
noncomputable def F_X11_heart (x1 : Int32) (σ : zSt) : Option (Int32 × zSt) := F_X11_heart_0 x1 σ
set_option maxRecDepth 100000 in
theorem m_X11_heart (G : zG) (x1 : Int32) (σ : zSt) (q : Int32) (τ : zSt) (h : F_X11_heart x1 σ = some (q, τ)) : zM G 3 yX11_heart cX11_heart 2 (some .boolean) [.ref (zad G 0), .int x1] σ (some (.int q)) τ := by
  unfold F_X11_heart at h
  refine zM.of (own := RX11) (by decide +kernel) rfl (Nat.le_of_ble_eq_true rfl) (fun C hR => ?_)
  exact z_sub [0, 1] rfl (p_X11_heart_0 hR x1 σ h)
noncomputable def F_X12_heart_0 (x1 : Int32) (σ : zSt) : Option (Int32 × zSt) :=
  bd (F_X12_isPlace x1 σ) (fun q2 s1 =>
    if q2 = 0 then (
      some ((0 : Int32), s1))
    else (
      nm (zwr s1 69 2 x1) (fun s5 =>
        some ((1 : Int32), s5))))
set_option maxHeartbeats 4000000 in
set_option maxRecDepth 100000 in
theorem p_X12_heart_0 {G : zG} {C : zC} {r : Int32} {τ : zSt} (hR : zR G C (some .boolean) (some (.int r)) τ) (x1 : Int32) (σ : zSt) (h : F_X12_heart_0 x1 σ = some (r, τ)) : zAW G 3 RX12 cX12_heart 2 C 0 [(0, .ref (zad G 69)), (1, .int x1)] [] σ := by
  unfold F_X12_heart_0 at h
  refine z_aload e_X12_heart_0 0 rfl ?_
  refine z_iload e_X12_heart_1 1 rfl ?_
  obtain ⟨q2, s1, e3, h⟩ := bd_e h
  refine z_callVi (c0 := 69) (As := [.int x1]) (rest := []) lk_X12_167 ob_69 e_X12_heart_2 (m_X12_isPlace G x1 σ _ _ e3) (by decide) rfl (Nat.le_of_ble_eq_true rfl) ?_
  refine z_if_ne e_X12_heart_5 h (fun c4 h => ?_) (fun c4 h => ?_)
  · refine z_ic e_X12_heart_8 ?_
    cases h
    exact z_zreturn hR e_X12_heart_9 (Or.inl rfl)
  · refine z_aload e_X12_heart_10 0 rfl ?_
    refine z_iload e_X12_heart_11 1 rfl ?_
    refine z_puti pf_X12_173_69 e_X12_heart_12 h (fun s5 h => ?_)
    refine z_ic e_X12_heart_15 ?_
    cases h
    exact z_zreturn hR e_X12_heart_16 (Or.inr rfl)
noncomputable def F_X12_heart (x1 : Int32) (σ : zSt) : Option (Int32 × zSt) := F_X12_heart_0 x1 σ
set_option maxRecDepth 100000 in
theorem m_X12_heart (G : zG) (x1 : Int32) (σ : zSt) (q : Int32) (τ : zSt) (h : F_X12_heart x1 σ = some (q, τ)) : zM G 3 yX12_heart cX12_heart 2 (some .boolean) [.ref (zad G 69), .int x1] σ (some (.int q)) τ := by
  unfold F_X12_heart at h
  refine zM.of (own := RX12) (by decide +kernel) rfl (Nat.le_of_ble_eq_true rfl) (fun C hR => ?_)
  exact z_sub [0, 1] rfl (p_X12_heart_0 hR x1 σ h)
noncomputable def F_X8_hasRoom_0 (x1 : Int32) (σ : zSt) : Option (Int32 × zSt) :=
  if (260 : Int32) < ((σ.1 33 1) + x1) then (
    some ((0 : Int32), σ))
  else (
    some ((1 : Int32), σ))
set_option maxHeartbeats 4000000 in
set_option maxRecDepth 100000 in
theorem p_X8_hasRoom_0 {G : zG} {C : zC} {r : Int32} {τ : zSt} (hR : zR G C (some .boolean) (some (.int r)) τ) (x1 : Int32) (σ : zSt) (h : F_X8_hasRoom_0 x1 σ = some (r, τ)) : zAW G 1 RX8 cX8_hasRoom 2 C 0 [(0, .ref (zad G 33)), (1, .int x1)] [] σ := by
  unfold F_X8_hasRoom_0 at h
  refine z_aload e_X8_hasRoom_0 0 rfl ?_
  refine z_geti gf_X8_15_33 e_X8_hasRoom_1 ?_
  refine z_iload e_X8_hasRoom_4 1 rfl ?_
  refine z_iadd e_X8_hasRoom_5 ?_
  refine z_ic e_X8_hasRoom_6 ?_
  refine z_icmp_gt e_X8_hasRoom_9 h (fun c1 h => ?_) (fun c1 h => ?_)
  · refine z_ic e_X8_hasRoom_16 ?_
    cases h
    exact z_zreturn hR e_X8_hasRoom_17 (Or.inl rfl)
  · refine z_ic e_X8_hasRoom_12 ?_
    refine z_goto e_X8_hasRoom_13 ?_
    cases h
    exact z_zreturn hR e_X8_hasRoom_17 (Or.inr rfl)
noncomputable def F_X8_hasRoom (x1 : Int32) (σ : zSt) : Option (Int32 × zSt) := F_X8_hasRoom_0 x1 σ
set_option maxRecDepth 100000 in
theorem m_X8_hasRoom (G : zG) (x1 : Int32) (σ : zSt) (q : Int32) (τ : zSt) (h : F_X8_hasRoom x1 σ = some (q, τ)) : zM G 1 yX8_hasRoom cX8_hasRoom 2 (some .boolean) [.ref (zad G 33), .int x1] σ (some (.int q)) τ := by
  unfold F_X8_hasRoom at h
  refine zM.of (own := RX8) (by decide +kernel) rfl (Nat.le_of_ble_eq_true rfl) (fun C hR => ?_)
  exact z_sub [0, 1] rfl (p_X8_hasRoom_0 hR x1 σ h)
noncomputable def F_X8_append_12 (x1 : Int32) (w12 : (Int32 × zSt) → Option (Unit × zSt)) (x2 : Int32) (σ : zSt) : Option (Unit × zSt) :=
  if x2 < 0 then (
    some ((), σ))
  else (
    gd (vp_in (σ.1 33 1) 260) (nm (zwr σ 34 (σ.1 33 1).toNatClampNeg ((x1 >>> (x2 &&& 31)) &&& (255 : Int32))) (fun s6 =>
      nm (zwr s6 33 1 ((s6.1 33 1) + (1 : Int32))) (fun s7 =>
        nm (x2 + (-8 : Int32)) (fun v8 =>
          w12 (v8, s7))))))
set_option maxHeartbeats 4000000 in
set_option maxRecDepth 100000 in
theorem b_X8_append_12 {G : zG} {C : zC} {r : Unit} {τ : zSt} (hR : zR G C none none τ) (x1 : Int32) (w12 : (Int32 × zSt) → Option (Unit × zSt)) (hw12 : ∀ (x2 : Int32) (σ : zSt), w12 (x2, σ) = some (r, τ) → zAW G 2 RX8 cX8_append 3 C 12 [(0, .ref (zad G 33)), (1, .int x1), (2, .int x2)] [] σ) (x2 : Int32) (σ : zSt) (h : F_X8_append_12 x1 w12 x2 σ = some (r, τ)) : zAW G 2 RX8 cX8_append 3 C 12 [(0, .ref (zad G 33)), (1, .int x1), (2, .int x2)] [] σ := by
  unfold F_X8_append_12 at h
  refine z_iload e_X8_append_12 2 rfl ?_
  refine z_if_lt e_X8_append_13 h (fun c5 h => ?_) (fun c5 h => ?_)
  · cases h
    exact z_vreturn hR e_X8_append_48
  · refine z_aload e_X8_append_16 0 rfl ?_
    refine z_getr gf_X8_11_33 e_X8_append_17 ?_
    refine z_aload e_X8_append_20 0 rfl ?_
    refine z_geti gf_X8_15_33 e_X8_append_21 ?_
    refine z_iload e_X8_append_24 1 rfl ?_
    refine z_iload e_X8_append_25 2 rfl ?_
    refine z_ishr e_X8_append_26 ?_
    refine z_ic e_X8_append_27 ?_
    refine z_iand e_X8_append_30 ?_
    refine z_iast sh_34 e_X8_append_31 h (fun s6 h => ?_)
    refine z_aload e_X8_append_32 0 rfl ?_
    refine z_dup e_X8_append_33 rfl ?_
    refine z_geti gf_X8_15_33 e_X8_append_34 ?_
    refine z_ic e_X8_append_37 ?_
    refine z_iadd e_X8_append_38 ?_
    refine z_puti pf_X8_15_33 e_X8_append_39 h (fun s7 h => ?_)
    refine z_iinc e_X8_append_42 2 rfl (by decide) (by decide) h (fun y => [(2, .int y), (0, .ref (zad G 33)), (1, .int x1)]) (fun _ => rfl) (fun v8 h => ?_)
    refine z_goto e_X8_append_45 ?_
    exact z_sub [1, 2, 0] rfl (hw12 v8 s7 h)
noncomputable def F_X8_append_12L (x1 : Int32) : ((Int32 × zSt) → Option (Unit × zSt)) → (Int32 × zSt) → Option (Unit × zSt) := fun w s => F_X8_append_12 x1 w s.1 s.2
set_option maxRecDepth 100000 in
theorem l_X8_append_12 {G : zG} {C : zC} {r : Unit} {τ : zSt} (hR : zR G C none none τ) (x1 : Int32) : ∀ (N : Nat) (x2 : Int32) (σ : zSt), zfix (F_X8_append_12L x1) N (x2, σ) = some (r, τ) → zAW G 2 RX8 cX8_append 3 C 12 [(0, .ref (zad G 33)), (1, .int x1), (2, .int x2)] [] σ := by
  intro N
  induction N with
  | zero =>
    intro x2 σ h
    exact nomatch (show (none : Option (Unit × zSt)) = some (r, τ) from h)
  | succ N ih =>
    intro x2 σ h
    exact b_X8_append_12 hR x1 (zfix (F_X8_append_12L x1) N) ih x2 σ h
noncomputable def F_X8_append_0 (x1 : Int32) (σ : zSt) : Option (Unit × zSt) :=
  bd (F_X8_hasRoom (4 : Int32) σ) (fun q2 s1 =>
    if q2 = 0 then (
      some ((), s1))
    else (
      zfix (F_X8_append_12L x1) zlim ((24 : Int32), s1)))
set_option maxHeartbeats 4000000 in
set_option maxRecDepth 100000 in
theorem p_X8_append_0 {G : zG} {C : zC} {r : Unit} {τ : zSt} (hR : zR G C none none τ) (x1 : Int32) (σ : zSt) (h : F_X8_append_0 x1 σ = some (r, τ)) : zAW G 2 RX8 cX8_append 3 C 0 [(0, .ref (zad G 33)), (1, .int x1)] [] σ := by
  unfold F_X8_append_0 at h
  refine z_aload e_X8_append_0 0 rfl ?_
  refine z_ic e_X8_append_1 ?_
  obtain ⟨q2, s1, e3, h⟩ := bd_e h
  refine z_callVi (c0 := 33) (As := [.int (4 : Int32)]) (rest := []) lk_X8_19 ob_33 e_X8_append_2 (m_X8_hasRoom G (4 : Int32) σ _ _ e3) (by decide) rfl (Nat.le_of_ble_eq_true rfl) ?_
  refine z_if_ne e_X8_append_5 h (fun c4 h => ?_) (fun c4 h => ?_)
  · cases h
    exact z_vreturn hR e_X8_append_8
  · refine z_ic e_X8_append_9 ?_
    refine z_istore e_X8_append_11 (by decide) [(2, .int (24 : Int32)), (0, .ref (zad G 33)), (1, .int x1)] rfl ?_
    exact z_sub [1, 2, 0] rfl (l_X8_append_12 hR x1 zlim (24 : Int32) s1 h)
noncomputable def F_X8_append (x1 : Int32) (σ : zSt) : Option (Unit × zSt) := F_X8_append_0 x1 σ
set_option maxRecDepth 100000 in
theorem m_X8_append (G : zG) (x1 : Int32) (σ : zSt) (q : Unit) (τ : zSt) (h : F_X8_append x1 σ = some (q, τ)) : zM G 2 yX8_append cX8_append 3 none [.ref (zad G 33), .int x1] σ none τ := by
  unfold F_X8_append at h
  refine zM.of (own := RX8) (by decide +kernel) rfl (Nat.le_of_ble_eq_true rfl) (fun C hR => ?_)
  exact z_sub [0, 1] rfl (p_X8_append_0 hR x1 σ h)
noncomputable def F_X11_feed_0 (x1 : Int32) (x2 : Int32) (x3 : Int32) (x4 : Int32) (x5 : Int32) (σ : zSt) : Option (Int32 × zSt) :=
  bd (F_X8_hasRoom (20 : Int32) σ) (fun q2 s1 =>
    if q2 = 0 then (
      some ((-1 : Int32), s1))
    else (
      bd (F_X8_append x1 s1) (fun _ s5 =>
        bd (F_X8_append x2 s5) (fun _ s8 =>
          bd (F_X8_append x3 s8) (fun _ s11 =>
            bd (F_X8_append x4 s11) (fun _ s14 =>
              bd (F_X8_append x5 s14) (fun _ s17 =>
                some ((s17.1 33 1), s17))))))))
set_option maxHeartbeats 4000000 in
set_option maxRecDepth 100000 in
theorem p_X11_feed_0 {G : zG} {C : zC} {r : Int32} {τ : zSt} (hR : zR G C (some .int) (some (.int r)) τ) (x1 : Int32) (x2 : Int32) (x3 : Int32) (x4 : Int32) (x5 : Int32) (σ : zSt) (h : F_X11_feed_0 x1 x2 x3 x4 x5 σ = some (r, τ)) : zAW G 3 RX11 cX11_feed 6 C 0 [(0, .ref (zad G 0)), (1, .int x1), (2, .int x2), (3, .int x3), (4, .int x4), (5, .int x5)] [] σ := by
  unfold F_X11_feed_0 at h
  refine z_aload e_X11_feed_0 0 rfl ?_
  refine z_getr gf_X11_39_0 e_X11_feed_1 ?_
  refine z_ic e_X11_feed_4 ?_
  obtain ⟨q2, s1, e3, h⟩ := bd_e h
  refine z_callVi (c0 := 33) (As := [.int (20 : Int32)]) (rest := []) lk_X11_133 ob_33 e_X11_feed_6 (m_X8_hasRoom G (20 : Int32) σ _ _ e3) (by decide) rfl (Nat.le_of_ble_eq_true rfl) ?_
  refine z_if_ne e_X11_feed_9 h (fun c4 h => ?_) (fun c4 h => ?_)
  · refine z_ic e_X11_feed_12 ?_
    cases h
    exact z_ireturn hR e_X11_feed_13
  · refine z_aload e_X11_feed_14 0 rfl ?_
    refine z_getr gf_X11_39_0 e_X11_feed_15 ?_
    refine z_iload e_X11_feed_18 1 rfl ?_
    obtain ⟨q6, s5, e7, h⟩ := bd_e h
    refine z_callVv (c0 := 33) (As := [.int x1]) (rest := []) lk_X11_136 ob_33 e_X11_feed_19 (m_X8_append G x1 s1 _ _ e7) (by decide) rfl (Nat.le_of_ble_eq_true rfl) ?_
    refine z_aload e_X11_feed_22 0 rfl ?_
    refine z_getr gf_X11_39_0 e_X11_feed_23 ?_
    refine z_iload e_X11_feed_26 2 rfl ?_
    obtain ⟨q9, s8, e10, h⟩ := bd_e h
    refine z_callVv (c0 := 33) (As := [.int x2]) (rest := []) lk_X11_136 ob_33 e_X11_feed_27 (m_X8_append G x2 s5 _ _ e10) (by decide) rfl (Nat.le_of_ble_eq_true rfl) ?_
    refine z_aload e_X11_feed_30 0 rfl ?_
    refine z_getr gf_X11_39_0 e_X11_feed_31 ?_
    refine z_iload e_X11_feed_34 3 rfl ?_
    obtain ⟨q12, s11, e13, h⟩ := bd_e h
    refine z_callVv (c0 := 33) (As := [.int x3]) (rest := []) lk_X11_136 ob_33 e_X11_feed_35 (m_X8_append G x3 s8 _ _ e13) (by decide) rfl (Nat.le_of_ble_eq_true rfl) ?_
    refine z_aload e_X11_feed_38 0 rfl ?_
    refine z_getr gf_X11_39_0 e_X11_feed_39 ?_
    refine z_iload e_X11_feed_42 4 rfl ?_
    obtain ⟨q15, s14, e16, h⟩ := bd_e h
    refine z_callVv (c0 := 33) (As := [.int x4]) (rest := []) lk_X11_136 ob_33 e_X11_feed_44 (m_X8_append G x4 s11 _ _ e16) (by decide) rfl (Nat.le_of_ble_eq_true rfl) ?_
    refine z_aload e_X11_feed_47 0 rfl ?_
    refine z_getr gf_X11_39_0 e_X11_feed_48 ?_
    refine z_iload e_X11_feed_51 5 rfl ?_
    obtain ⟨q18, s17, e19, h⟩ := bd_e h
    refine z_callVv (c0 := 33) (As := [.int x5]) (rest := []) lk_X11_136 ob_33 e_X11_feed_53 (m_X8_append G x5 s14 _ _ e19) (by decide) rfl (Nat.le_of_ble_eq_true rfl) ?_
    refine z_aload e_X11_feed_56 0 rfl ?_
    refine z_getr gf_X11_39_0 e_X11_feed_57 ?_
    refine z_geti gf_X11_140_33 e_X11_feed_60 ?_
    cases h
    exact z_ireturn hR e_X11_feed_63
noncomputable def F_X11_feed (x1 : Int32) (x2 : Int32) (x3 : Int32) (x4 : Int32) (x5 : Int32) (σ : zSt) : Option (Int32 × zSt) := F_X11_feed_0 x1 x2 x3 x4 x5 σ
set_option maxRecDepth 100000 in
theorem m_X11_feed (G : zG) (x1 : Int32) (x2 : Int32) (x3 : Int32) (x4 : Int32) (x5 : Int32) (σ : zSt) (q : Int32) (τ : zSt) (h : F_X11_feed x1 x2 x3 x4 x5 σ = some (q, τ)) : zM G 3 yX11_feed cX11_feed 6 (some .int) [.ref (zad G 0), .int x1, .int x2, .int x3, .int x4, .int x5] σ (some (.int q)) τ := by
  unfold F_X11_feed at h
  refine zM.of (own := RX11) (by decide +kernel) rfl (Nat.le_of_ble_eq_true rfl) (fun C hR => ?_)
  exact z_sub [0, 1, 2, 3, 4, 5] rfl (p_X11_feed_0 hR x1 x2 x3 x4 x5 σ h)
noncomputable def F_X12_types_2 (x1 : Int32) (w2 : (Int32 × zSt) → Option (Unit × zSt)) (x2 : Int32) (σ : zSt) : Option (Unit × zSt) :=
  if x2 < 0 then (
    some ((), σ))
  else (
    gd (vp_in (σ.1 69 14) 260) (nm (zwr σ 76 (σ.1 69 14).toNatClampNeg (vp_nar .byte ((x1 >>> (((8 : Int32) * x2) &&& 31)).toInt8.toInt32))) (fun s2 =>
      nm (zwr s2 69 14 ((s2.1 69 14) + (1 : Int32))) (fun s3 =>
        nm (x2 + (-1 : Int32)) (fun v4 =>
          w2 (v4, s3))))))
set_option maxHeartbeats 4000000 in
set_option maxRecDepth 100000 in
theorem b_X12_types_2 {G : zG} {C : zC} {r : Unit} {τ : zSt} (hR : zR G C none none τ) (x1 : Int32) (w2 : (Int32 × zSt) → Option (Unit × zSt)) (hw2 : ∀ (x2 : Int32) (σ : zSt), w2 (x2, σ) = some (r, τ) → zAW G 1 RX12 cX12_types 3 C 2 [(0, .ref (zad G 69)), (1, .int x1), (2, .int x2)] [] σ) (x2 : Int32) (σ : zSt) (h : F_X12_types_2 x1 w2 x2 σ = some (r, τ)) : zAW G 1 RX12 cX12_types 3 C 2 [(0, .ref (zad G 69)), (1, .int x1), (2, .int x2)] [] σ := by
  unfold F_X12_types_2 at h
  refine z_iload e_X12_types_2 2 rfl ?_
  refine z_if_lt e_X12_types_3 h (fun c1 h => ?_) (fun c1 h => ?_)
  · cases h
    exact z_vreturn hR e_X12_types_38
  · refine z_aload e_X12_types_6 0 rfl ?_
    refine z_getr gf_X12_28_69 e_X12_types_7 ?_
    refine z_aload e_X12_types_10 0 rfl ?_
    refine z_geti gf_X12_186_69 e_X12_types_11 ?_
    refine z_iload e_X12_types_14 1 rfl ?_
    refine z_ic e_X12_types_15 ?_
    refine z_iload e_X12_types_17 2 rfl ?_
    refine z_imul e_X12_types_18 ?_
    refine z_ishr e_X12_types_19 ?_
    refine z_i2b e_X12_types_20 ?_
    refine z_bast sh_76 e_X12_types_21 h (fun s2 h => ?_)
    refine z_aload e_X12_types_22 0 rfl ?_
    refine z_aload e_X12_types_23 0 rfl ?_
    refine z_geti gf_X12_186_69 e_X12_types_24 ?_
    refine z_ic e_X12_types_27 ?_
    refine z_iadd e_X12_types_28 ?_
    refine z_puti pf_X12_186_69 e_X12_types_29 h (fun s3 h => ?_)
    refine z_iinc e_X12_types_32 2 rfl (by decide) (by decide) h (fun y => [(2, .int y), (0, .ref (zad G 69)), (1, .int x1)]) (fun _ => rfl) (fun v4 h => ?_)
    refine z_goto e_X12_types_35 ?_
    exact z_sub [1, 2, 0] rfl (hw2 v4 s3 h)
noncomputable def F_X12_types_2L (x1 : Int32) : ((Int32 × zSt) → Option (Unit × zSt)) → (Int32 × zSt) → Option (Unit × zSt) := fun w s => F_X12_types_2 x1 w s.1 s.2
set_option maxRecDepth 100000 in
theorem l_X12_types_2 {G : zG} {C : zC} {r : Unit} {τ : zSt} (hR : zR G C none none τ) (x1 : Int32) : ∀ (N : Nat) (x2 : Int32) (σ : zSt), zfix (F_X12_types_2L x1) N (x2, σ) = some (r, τ) → zAW G 1 RX12 cX12_types 3 C 2 [(0, .ref (zad G 69)), (1, .int x1), (2, .int x2)] [] σ := by
  intro N
  induction N with
  | zero =>
    intro x2 σ h
    exact nomatch (show (none : Option (Unit × zSt)) = some (r, τ) from h)
  | succ N ih =>
    intro x2 σ h
    exact b_X12_types_2 hR x1 (zfix (F_X12_types_2L x1) N) ih x2 σ h
noncomputable def F_X12_types_0 (x1 : Int32) (σ : zSt) : Option (Unit × zSt) :=
  zfix (F_X12_types_2L x1) zlim ((3 : Int32), σ)
set_option maxHeartbeats 4000000 in
set_option maxRecDepth 100000 in
theorem p_X12_types_0 {G : zG} {C : zC} {r : Unit} {τ : zSt} (hR : zR G C none none τ) (x1 : Int32) (σ : zSt) (h : F_X12_types_0 x1 σ = some (r, τ)) : zAW G 1 RX12 cX12_types 3 C 0 [(0, .ref (zad G 69)), (1, .int x1)] [] σ := by
  unfold F_X12_types_0 at h
  refine z_ic e_X12_types_0 ?_
  refine z_istore e_X12_types_1 (by decide) [(2, .int (3 : Int32)), (0, .ref (zad G 69)), (1, .int x1)] rfl ?_
  exact z_sub [1, 2, 0] rfl (l_X12_types_2 hR x1 zlim (3 : Int32) σ h)
noncomputable def F_X12_types (x1 : Int32) (σ : zSt) : Option (Unit × zSt) := F_X12_types_0 x1 σ
set_option maxRecDepth 100000 in
theorem m_X12_types (G : zG) (x1 : Int32) (σ : zSt) (q : Unit) (τ : zSt) (h : F_X12_types x1 σ = some (q, τ)) : zM G 1 yX12_types cX12_types 3 none [.ref (zad G 69), .int x1] σ none τ := by
  unfold F_X12_types at h
  refine zM.of (own := RX12) (by decide +kernel) rfl (Nat.le_of_ble_eq_true rfl) (fun C hR => ?_)
  exact z_sub [0, 1] rfl (p_X12_types_0 hR x1 σ h)
noncomputable def F_X12_feed_0 (x1 : Int32) (x2 : Int32) (x3 : Int32) (x4 : Int32) (x5 : Int32) (σ : zSt) : Option (Int32 × zSt) :=
  if ((σ.1 69 14) + (20 : Int32)) ≤ (260 : Int32) then (
    bd (F_X12_types x1 σ) (fun _ s2 =>
      bd (F_X12_types x2 s2) (fun _ s5 =>
        bd (F_X12_types x3 s5) (fun _ s8 =>
          bd (F_X12_types x4 s8) (fun _ s11 =>
            bd (F_X12_types x5 s11) (fun _ s14 =>
              some ((s14.1 69 14), s14)))))))
  else (
    some ((-1 : Int32), σ))
set_option maxHeartbeats 4000000 in
set_option maxRecDepth 100000 in
theorem p_X12_feed_0 {G : zG} {C : zC} {r : Int32} {τ : zSt} (hR : zR G C (some .int) (some (.int r)) τ) (x1 : Int32) (x2 : Int32) (x3 : Int32) (x4 : Int32) (x5 : Int32) (σ : zSt) (h : F_X12_feed_0 x1 x2 x3 x4 x5 σ = some (r, τ)) : zAW G 2 RX12 cX12_feed 6 C 0 [(0, .ref (zad G 69)), (1, .int x1), (2, .int x2), (3, .int x3), (4, .int x4), (5, .int x5)] [] σ := by
  unfold F_X12_feed_0 at h
  refine z_aload e_X12_feed_0 0 rfl ?_
  refine z_geti gf_X12_186_69 e_X12_feed_1 ?_
  refine z_ic e_X12_feed_4 ?_
  refine z_iadd e_X12_feed_6 ?_
  refine z_ic e_X12_feed_7 ?_
  refine z_icmp_le e_X12_feed_10 h (fun c1 h => ?_) (fun c1 h => ?_)
  · refine z_aload e_X12_feed_15 0 rfl ?_
    refine z_iload e_X12_feed_16 1 rfl ?_
    obtain ⟨q3, s2, e4, h⟩ := bd_e h
    refine z_callVv (c0 := 69) (As := [.int x1]) (rest := []) lk_X12_189 ob_69 e_X12_feed_17 (m_X12_types G x1 σ _ _ e4) (by decide) rfl (Nat.le_of_ble_eq_true rfl) ?_
    refine z_aload e_X12_feed_20 0 rfl ?_
    refine z_iload e_X12_feed_21 2 rfl ?_
    obtain ⟨q6, s5, e7, h⟩ := bd_e h
    refine z_callVv (c0 := 69) (As := [.int x2]) (rest := []) lk_X12_189 ob_69 e_X12_feed_22 (m_X12_types G x2 s2 _ _ e7) (by decide) rfl (Nat.le_of_ble_eq_true rfl) ?_
    refine z_aload e_X12_feed_25 0 rfl ?_
    refine z_iload e_X12_feed_26 3 rfl ?_
    obtain ⟨q9, s8, e10, h⟩ := bd_e h
    refine z_callVv (c0 := 69) (As := [.int x3]) (rest := []) lk_X12_189 ob_69 e_X12_feed_27 (m_X12_types G x3 s5 _ _ e10) (by decide) rfl (Nat.le_of_ble_eq_true rfl) ?_
    refine z_aload e_X12_feed_30 0 rfl ?_
    refine z_iload e_X12_feed_31 4 rfl ?_
    obtain ⟨q12, s11, e13, h⟩ := bd_e h
    refine z_callVv (c0 := 69) (As := [.int x4]) (rest := []) lk_X12_189 ob_69 e_X12_feed_33 (m_X12_types G x4 s8 _ _ e13) (by decide) rfl (Nat.le_of_ble_eq_true rfl) ?_
    refine z_aload e_X12_feed_36 0 rfl ?_
    refine z_iload e_X12_feed_37 5 rfl ?_
    obtain ⟨q15, s14, e16, h⟩ := bd_e h
    refine z_callVv (c0 := 69) (As := [.int x5]) (rest := []) lk_X12_189 ob_69 e_X12_feed_39 (m_X12_types G x5 s11 _ _ e16) (by decide) rfl (Nat.le_of_ble_eq_true rfl) ?_
    refine z_aload e_X12_feed_42 0 rfl ?_
    refine z_geti gf_X12_186_69 e_X12_feed_43 ?_
    cases h
    exact z_ireturn hR e_X12_feed_46
  · refine z_ic e_X12_feed_13 ?_
    cases h
    exact z_ireturn hR e_X12_feed_14
noncomputable def F_X12_feed (x1 : Int32) (x2 : Int32) (x3 : Int32) (x4 : Int32) (x5 : Int32) (σ : zSt) : Option (Int32 × zSt) := F_X12_feed_0 x1 x2 x3 x4 x5 σ
set_option maxRecDepth 100000 in
theorem m_X12_feed (G : zG) (x1 : Int32) (x2 : Int32) (x3 : Int32) (x4 : Int32) (x5 : Int32) (σ : zSt) (q : Int32) (τ : zSt) (h : F_X12_feed x1 x2 x3 x4 x5 σ = some (q, τ)) : zM G 2 yX12_feed cX12_feed 6 (some .int) [.ref (zad G 69), .int x1, .int x2, .int x3, .int x4, .int x5] σ (some (.int q)) τ := by
  unfold F_X12_feed at h
  refine zM.of (own := RX12) (by decide +kernel) rfl (Nat.le_of_ble_eq_true rfl) (fun C hR => ?_)
  exact z_sub [0, 1, 2, 3, 4, 5] rfl (p_X12_feed_0 hR x1 x2 x3 x4 x5 σ h)
noncomputable def F_X8_take_0 (x1 : Int32) (σ : zSt) : Option (Int32 × zSt) :=
  if x1 < 0 then (
    some ((0 : Int32), σ))
  else (
    if x1 ≤ (σ.1 33 1) then (
      nm (zwr σ 33 2 x1) (fun s3 =>
        nm (zwr s3 33 1 (0 : Int32)) (fun s4 =>
          some ((1 : Int32), s4))))
    else (
      some ((0 : Int32), σ)))
set_option maxHeartbeats 4000000 in
set_option maxRecDepth 100000 in
theorem p_X8_take_0 {G : zG} {C : zC} {r : Int32} {τ : zSt} (hR : zR G C (some .boolean) (some (.int r)) τ) (x1 : Int32) (σ : zSt) (h : F_X8_take_0 x1 σ = some (r, τ)) : zAW G 1 RX8 cX8_take 2 C 0 [(0, .ref (zad G 33)), (1, .int x1)] [] σ := by
  unfold F_X8_take_0 at h
  refine z_iload e_X8_take_0 1 rfl ?_
  refine z_if_lt e_X8_take_1 h (fun c1 h => ?_) (fun c1 h => ?_)
  · refine z_ic e_X8_take_12 ?_
    cases h
    exact z_zreturn hR e_X8_take_13 (Or.inl rfl)
  · refine z_iload e_X8_take_4 1 rfl ?_
    refine z_aload e_X8_take_5 0 rfl ?_
    refine z_geti gf_X8_15_33 e_X8_take_6 ?_
    refine z_icmp_le e_X8_take_9 h (fun c2 h => ?_) (fun c2 h => ?_)
    · refine z_aload e_X8_take_14 0 rfl ?_
      refine z_iload e_X8_take_15 1 rfl ?_
      refine z_puti pf_X8_23_33 e_X8_take_16 h (fun s3 h => ?_)
      refine z_aload e_X8_take_19 0 rfl ?_
      refine z_ic e_X8_take_20 ?_
      refine z_puti pf_X8_15_33 e_X8_take_21 h (fun s4 h => ?_)
      refine z_ic e_X8_take_24 ?_
      cases h
      exact z_zreturn hR e_X8_take_25 (Or.inr rfl)
    · refine z_ic e_X8_take_12 ?_
      cases h
      exact z_zreturn hR e_X8_take_13 (Or.inl rfl)
noncomputable def F_X8_take (x1 : Int32) (σ : zSt) : Option (Int32 × zSt) := F_X8_take_0 x1 σ
set_option maxRecDepth 100000 in
theorem m_X8_take (G : zG) (x1 : Int32) (σ : zSt) (q : Int32) (τ : zSt) (h : F_X8_take x1 σ = some (q, τ)) : zM G 1 yX8_take cX8_take 2 (some .boolean) [.ref (zad G 33), .int x1] σ (some (.int q)) τ := by
  unfold F_X8_take at h
  refine zM.of (own := RX8) (by decide +kernel) rfl (Nat.le_of_ble_eq_true rfl) (fun C hR => ?_)
  exact z_sub [0, 1] rfl (p_X8_take_0 hR x1 σ h)
noncomputable def F_X1_here_0 (σ : zSt) : Option (Int32 × zSt) :=
  if (σ.1 35 11) < 0 then (
    some ((-1 : Int32), σ))
  else (
    if (σ.1 35 10) ≤ (σ.1 35 11) then (
      some ((-1 : Int32), σ))
    else (
      if (240 : Int32) ≤ (σ.1 35 11) then (
        some ((-1 : Int32), σ))
      else (
        gd (vp_in (σ.1 35 11) 240) (
          some ((σ.1 42 (σ.1 35 11).toNatClampNeg), σ)))))
set_option maxHeartbeats 4000000 in
set_option maxRecDepth 100000 in
theorem p_X1_here_0 {G : zG} {C : zC} {r : Int32} {τ : zSt} (hR : zR G C (some .int) (some (.int r)) τ)  (σ : zSt) (h : F_X1_here_0 σ = some (r, τ)) : zAW G 1 RX1 cX1_here 1 C 0 [(0, .ref (zad G 35))] [] σ := by
  unfold F_X1_here_0 at h
  refine z_aload e_X1_here_0 0 rfl ?_
  refine z_geti gf_X1_66_35 e_X1_here_1 ?_
  refine z_if_lt e_X1_here_4 h (fun c1 h => ?_) (fun c1 h => ?_)
  · refine z_ic e_X1_here_40 ?_
    cases h
    exact z_ireturn hR e_X1_here_41
  · refine z_aload e_X1_here_7 0 rfl ?_
    refine z_geti gf_X1_66_35 e_X1_here_8 ?_
    refine z_aload e_X1_here_11 0 rfl ?_
    refine z_geti gf_X1_61_35 e_X1_here_12 ?_
    refine z_icmp_ge e_X1_here_15 h (fun c2 h => ?_) (fun c2 h => ?_)
    · refine z_ic e_X1_here_40 ?_
      cases h
      exact z_ireturn hR e_X1_here_41
    · refine z_aload e_X1_here_18 0 rfl ?_
      refine z_geti gf_X1_66_35 e_X1_here_19 ?_
      refine z_ic e_X1_here_22 ?_
      refine z_icmp_ge e_X1_here_25 h (fun c3 h => ?_) (fun c3 h => ?_)
      · refine z_ic e_X1_here_40 ?_
        cases h
        exact z_ireturn hR e_X1_here_41
      · refine z_aload e_X1_here_28 0 rfl ?_
        refine z_getr gf_X1_30_35 e_X1_here_29 ?_
        refine z_aload e_X1_here_32 0 rfl ?_
        refine z_geti gf_X1_66_35 e_X1_here_33 ?_
        refine z_iald sh_42 e_X1_here_36 h (fun h => ?_)
        refine z_goto e_X1_here_37 ?_
        cases h
        exact z_ireturn hR e_X1_here_41
noncomputable def F_X1_here (σ : zSt) : Option (Int32 × zSt) := F_X1_here_0  σ
set_option maxRecDepth 100000 in
theorem m_X1_here (G : zG) (σ : zSt) (q : Int32) (τ : zSt) (h : F_X1_here  σ = some (q, τ)) : zM G 1 yX1_here cX1_here 1 (some .int) [.ref (zad G 35)] σ (some (.int q)) τ := by
  unfold F_X1_here at h
  refine zM.of (own := RX1) (by decide +kernel) rfl (Nat.le_of_ble_eq_true rfl) (fun C hR => ?_)
  exact z_sub [0] rfl (p_X1_here_0 hR  σ h)
noncomputable def F_J0_isLatin1_aae02_1002_0 (σ : zSt) : Option (Int32 × zSt) :=
  if (1 : Int32) = 0 then (
    some ((0 : Int32), σ))
  else (
    if (0 : Int32) = 0 then (
      some ((1 : Int32), σ))
    else (
      some ((0 : Int32), σ)))
set_option maxHeartbeats 4000000 in
set_option maxRecDepth 100000 in
theorem p_J0_isLatin1_aae02_1002_0 {G : zG} {C : zC} {r : Int32} {τ : zSt} (hR : zR G C (some .boolean) (some (.int r)) τ)  (σ : zSt) (h : F_J0_isLatin1_aae02_1002_0 σ = some (r, τ)) : zAW G 1 RJ0 cJ0_isLatin1_aae02 1 C 0 [(0, .ref (zad G 1002))] [] σ := by
  unfold F_J0_isLatin1_aae02_1002_0 at h
  refine z_gets_cs st_J0_38 e_J0_isLatin1_aae02_0 ?_
  refine z_if_eq e_J0_isLatin1_aae02_3 h (fun c1 h => ?_) (fun c1 h => ?_)
  · refine z_ic e_J0_isLatin1_aae02_17 ?_
    cases h
    exact z_zreturn hR e_J0_isLatin1_aae02_18 (Or.inl rfl)
  · refine z_aload e_J0_isLatin1_aae02_6 0 rfl ?_
    refine z_scod (i := 0) st_J0_15 (by decide) e_J0_isLatin1_aae02_7 ?_
    refine z_if_ne e_J0_isLatin1_aae02_10 h (fun c2 h => ?_) (fun c2 h => ?_)
    · refine z_ic e_J0_isLatin1_aae02_13 ?_
      refine z_goto e_J0_isLatin1_aae02_14 ?_
      cases h
      exact z_zreturn hR e_J0_isLatin1_aae02_18 (Or.inr rfl)
    · refine z_ic e_J0_isLatin1_aae02_17 ?_
      cases h
      exact z_zreturn hR e_J0_isLatin1_aae02_18 (Or.inl rfl)
noncomputable def F_J0_isLatin1_aae02_1002 (σ : zSt) : Option (Int32 × zSt) := F_J0_isLatin1_aae02_1002_0  σ
set_option maxRecDepth 100000 in
theorem m_J0_isLatin1_aae02_1002 (G : zG) (σ : zSt) (q : Int32) (τ : zSt) (h : F_J0_isLatin1_aae02_1002  σ = some (q, τ)) : zM G 1 yJ0_isLatin1_aae02 cJ0_isLatin1_aae02 1 (some .boolean) [.ref (zad G 1002)] σ (some (.int q)) τ := by
  unfold F_J0_isLatin1_aae02_1002 at h
  refine zM.of (own := RJ0) (by decide +kernel) rfl (Nat.le_of_ble_eq_true rfl) (fun C hR => ?_)
  exact z_sub [0] rfl (p_J0_isLatin1_aae02_1002_0 hR  σ h)
noncomputable def F_J0_coder_7d493_1002_0 (σ : zSt) : Option (Int32 × zSt) :=
  if (1 : Int32) = 0 then (
    some ((1 : Int32), σ))
  else (
    some ((0 : Int32), σ))
set_option maxHeartbeats 4000000 in
set_option maxRecDepth 100000 in
theorem p_J0_coder_7d493_1002_0 {G : zG} {C : zC} {r : Int32} {τ : zSt} (hR : zR G C (some .byte) (some (.int r)) τ)  (σ : zSt) (h : F_J0_coder_7d493_1002_0 σ = some (r, τ)) : zAW G 1 RJ0 cJ0_coder_7d493 1 C 0 [(0, .ref (zad G 1002))] [] σ := by
  unfold F_J0_coder_7d493_1002_0 at h
  refine z_gets_cs st_J0_38 e_J0_coder_7d493_0 ?_
  refine z_if_eq e_J0_coder_7d493_3 h (fun c1 h => ?_) (fun c1 h => ?_)
  · refine z_ic e_J0_coder_7d493_13 ?_
    cases h
    exact z_zreturnB hR e_J0_coder_7d493_14 (by decide)
  · refine z_aload e_J0_coder_7d493_6 0 rfl ?_
    refine z_scod (i := 0) st_J0_15 (by decide) e_J0_coder_7d493_7 ?_
    refine z_goto e_J0_coder_7d493_10 ?_
    cases h
    exact z_zreturnB hR e_J0_coder_7d493_14 (by decide)
noncomputable def F_J0_coder_7d493_1002 (σ : zSt) : Option (Int32 × zSt) := F_J0_coder_7d493_1002_0  σ
set_option maxRecDepth 100000 in
theorem m_J0_coder_7d493_1002 (G : zG) (σ : zSt) (q : Int32) (τ : zSt) (h : F_J0_coder_7d493_1002  σ = some (q, τ)) : zM G 1 yJ0_coder_7d493 cJ0_coder_7d493 1 (some .byte) [.ref (zad G 1002)] σ (some (.int q)) τ := by
  unfold F_J0_coder_7d493_1002 at h
  refine zM.of (own := RJ0) (by decide +kernel) rfl (Nat.le_of_ble_eq_true rfl) (fun C hR => ?_)
  exact z_sub [0] rfl (p_J0_coder_7d493_1002_0 hR  σ h)
noncomputable def F_J0_length_8abf5_1002_0 (σ : zSt) : Option (Int32 × zSt) :=
  bd (F_J0_coder_7d493_1002 σ) (fun q2 s1 =>
    some (((9 : Int32) >>> (q2 &&& 31)), s1))
set_option maxHeartbeats 4000000 in
set_option maxRecDepth 100000 in
theorem p_J0_length_8abf5_1002_0 {G : zG} {C : zC} {r : Int32} {τ : zSt} (hR : zR G C (some .int) (some (.int r)) τ)  (σ : zSt) (h : F_J0_length_8abf5_1002_0 σ = some (r, τ)) : zAW G 2 RJ0 cJ0_length_8abf5 1 C 0 [(0, .ref (zad G 1002))] [] σ := by
  unfold F_J0_length_8abf5_1002_0 at h
  refine z_aload e_J0_length_8abf5_0 0 rfl ?_
  refine z_sval (i := 0) st_J0_9 (by decide) e_J0_length_8abf5_1 ?_
  refine z_slen (i := 0) (by decide) 9 rfl e_J0_length_8abf5_4 ?_
  refine z_aload e_J0_length_8abf5_5 0 rfl ?_
  obtain ⟨q2, s1, e3, h⟩ := bd_e h
  refine z_callVsi (i := 0) (As := []) (rest := [.int (9 : Int32)]) lk_J0_335 rfl (by decide) e_J0_length_8abf5_6 (m_J0_coder_7d493_1002 G σ _ _ e3) (by decide) rfl (Nat.le_of_ble_eq_true rfl) ?_
  refine z_ishr e_J0_length_8abf5_9 ?_
  cases h
  exact z_ireturn hR e_J0_length_8abf5_10
noncomputable def F_J0_length_8abf5_1002 (σ : zSt) : Option (Int32 × zSt) := F_J0_length_8abf5_1002_0  σ
set_option maxRecDepth 100000 in
theorem m_J0_length_8abf5_1002 (G : zG) (σ : zSt) (q : Int32) (τ : zSt) (h : F_J0_length_8abf5_1002  σ = some (q, τ)) : zM G 2 yJ0_length_8abf5 cJ0_length_8abf5 1 (some .int) [.ref (zad G 1002)] σ (some (.int q)) τ := by
  unfold F_J0_length_8abf5_1002 at h
  refine zM.of (own := RJ0) (by decide +kernel) rfl (Nat.le_of_ble_eq_true rfl) (fun C hR => ?_)
  exact z_sub [0] rfl (p_J0_length_8abf5_1002_0 hR  σ h)
noncomputable def F_J1_canEncode_9a6ad_0 (x0 : Int32) (σ : zSt) : Option (Int32 × zSt) :=
  if x0 < 0 then (
    some ((0 : Int32), σ))
  else (
    if (255 : Int32) < x0 then (
      some ((0 : Int32), σ))
    else (
      some ((1 : Int32), σ)))
set_option maxHeartbeats 4000000 in
set_option maxRecDepth 100000 in
theorem p_J1_canEncode_9a6ad_0 {G : zG} {C : zC} {r : Int32} {τ : zSt} (hR : zR G C (some .boolean) (some (.int r)) τ) (x0 : Int32) (σ : zSt) (h : F_J1_canEncode_9a6ad_0 x0 σ = some (r, τ)) : zAW G 1 RJ1 cJ1_canEncode_9a6ad 1 C 0 [(0, .int x0)] [] σ := by
  unfold F_J1_canEncode_9a6ad_0 at h
  refine z_iload e_J1_canEncode_9a6ad_0 0 rfl ?_
  refine z_if_lt e_J1_canEncode_9a6ad_1 h (fun c1 h => ?_) (fun c1 h => ?_)
  · refine z_ic e_J1_canEncode_9a6ad_15 ?_
    cases h
    exact z_zreturn hR e_J1_canEncode_9a6ad_16 (Or.inl rfl)
  · refine z_iload e_J1_canEncode_9a6ad_4 0 rfl ?_
    refine z_ic e_J1_canEncode_9a6ad_5 ?_
    refine z_icmp_gt e_J1_canEncode_9a6ad_8 h (fun c2 h => ?_) (fun c2 h => ?_)
    · refine z_ic e_J1_canEncode_9a6ad_15 ?_
      cases h
      exact z_zreturn hR e_J1_canEncode_9a6ad_16 (Or.inl rfl)
    · refine z_ic e_J1_canEncode_9a6ad_11 ?_
      refine z_goto e_J1_canEncode_9a6ad_12 ?_
      cases h
      exact z_zreturn hR e_J1_canEncode_9a6ad_16 (Or.inr rfl)
noncomputable def F_J1_canEncode_9a6ad (x0 : Int32) (σ : zSt) : Option (Int32 × zSt) := F_J1_canEncode_9a6ad_0 x0 σ
set_option maxRecDepth 100000 in
theorem m_J1_canEncode_9a6ad (G : zG) (x0 : Int32) (σ : zSt) (q : Int32) (τ : zSt) (h : F_J1_canEncode_9a6ad x0 σ = some (q, τ)) : zM G 1 yJ1_canEncode_9a6ad cJ1_canEncode_9a6ad 1 (some .boolean) [.int x0] σ (some (.int q)) τ := by
  unfold F_J1_canEncode_9a6ad at h
  refine zM.of (own := RJ1) (by decide +kernel) rfl (Nat.le_of_ble_eq_true rfl) (fun C hR => ?_)
  exact z_sub [0] rfl (p_J1_canEncode_9a6ad_0 hR x0 σ h)
noncomputable def F_J1_indexOfChar_4cfef_1004_7 (x3 : Int32) (x4 : Int32) (w7 : (Int32 × zSt) → Option (Int32 × zSt)) (x5 : Int32) (σ : zSt) : Option (Int32 × zSt) :=
  if x3 ≤ x5 then (
    some ((-1 : Int32), σ))
  else (
    gd (vp_in x5 (([9, 6] : List Nat).getD 0 0)) (
      if ((zBy.getD 0 []).getD x5.toNatClampNeg 0) = x4 then (
        some (x5, σ))
      else (
        nm (x5 + (1 : Int32)) (fun v4 =>
          w7 (v4, σ)))))
set_option maxHeartbeats 4000000 in
set_option maxRecDepth 100000 in
theorem b_J1_indexOfChar_4cfef_1004_7 {G : zG} {C : zC} {r : Int32} {τ : zSt} (hR : zR G C (some .int) (some (.int r)) τ) (x3 : Int32) (x4 : Int32) (w7 : (Int32 × zSt) → Option (Int32 × zSt)) (hw7 : ∀ (x5 : Int32) (σ : zSt), w7 (x5, σ) = some (r, τ) → zAW G 1 RJ1 cJ1_indexOfChar_4cfef 6 C 7 [(0, .ref (zad G 1004)), (3, .int x3), (4, .int x4), (5, .int x5)] [] σ) (x5 : Int32) (σ : zSt) (h : F_J1_indexOfChar_4cfef_1004_7 x3 x4 w7 x5 σ = some (r, τ)) : zAW G 1 RJ1 cJ1_indexOfChar_4cfef 6 C 7 [(0, .ref (zad G 1004)), (3, .int x3), (4, .int x4), (5, .int x5)] [] σ := by
  unfold F_J1_indexOfChar_4cfef_1004_7 at h
  refine z_iload e_J1_indexOfChar_4cfef_7 3 rfl ?_
  refine z_iload e_J1_indexOfChar_4cfef_9 1 rfl ?_
  refine z_icmp_ge e_J1_indexOfChar_4cfef_10 h (fun c2 h => ?_) (fun c2 h => ?_)
  · refine z_ic e_J1_indexOfChar_4cfef_31 ?_
    cases h
    exact z_ireturn hR e_J1_indexOfChar_4cfef_32
  · refine z_aload e_J1_indexOfChar_4cfef_13 0 rfl ?_
    refine z_iload e_J1_indexOfChar_4cfef_14 3 rfl ?_
    refine z_sbald (i := 0) (by decide) e_J1_indexOfChar_4cfef_16 h (fun h => ?_)
    refine z_iload e_J1_indexOfChar_4cfef_17 2 rfl ?_
    refine z_icmp_ne e_J1_indexOfChar_4cfef_19 h (fun c3 h => ?_) (fun c3 h => ?_)
    · refine z_iload e_J1_indexOfChar_4cfef_22 3 rfl ?_
      cases h
      exact z_ireturn hR e_J1_indexOfChar_4cfef_24
    · refine z_iinc e_J1_indexOfChar_4cfef_25 3 rfl (by decide) (by decide) h (fun y => [(5, .int y), (0, .ref (zad G 1004)), (3, .int x3), (4, .int x4)]) (fun _ => rfl) (fun v4 h => ?_)
      refine z_goto e_J1_indexOfChar_4cfef_28 ?_
      exact z_sub [1, 2, 3, 0] rfl (hw7 v4 σ h)
noncomputable def F_J1_indexOfChar_4cfef_1004_7L (x3 : Int32) (x4 : Int32) : ((Int32 × zSt) → Option (Int32 × zSt)) → (Int32 × zSt) → Option (Int32 × zSt) := fun w s => F_J1_indexOfChar_4cfef_1004_7 x3 x4 w s.1 s.2
set_option maxRecDepth 100000 in
theorem l_J1_indexOfChar_4cfef_1004_7 {G : zG} {C : zC} {r : Int32} {τ : zSt} (hR : zR G C (some .int) (some (.int r)) τ) (x3 : Int32) (x4 : Int32) : ∀ (N : Nat) (x5 : Int32) (σ : zSt), zfix (F_J1_indexOfChar_4cfef_1004_7L x3 x4) N (x5, σ) = some (r, τ) → zAW G 1 RJ1 cJ1_indexOfChar_4cfef 6 C 7 [(0, .ref (zad G 1004)), (3, .int x3), (4, .int x4), (5, .int x5)] [] σ := by
  intro N
  induction N with
  | zero =>
    intro x5 σ h
    exact nomatch (show (none : Option (Int32 × zSt)) = some (r, τ) from h)
  | succ N ih =>
    intro x5 σ h
    exact b_J1_indexOfChar_4cfef_1004_7 hR x3 x4 (zfix (F_J1_indexOfChar_4cfef_1004_7L x3 x4) N) ih x5 σ h
noncomputable def F_J1_indexOfChar_4cfef_1004_0 (x1 : Int32) (x2 : Int32) (x3 : Int32) (σ : zSt) : Option (Int32 × zSt) :=
  nm (x1.toInt8.toInt32) (fun v1 =>
    zfix (F_J1_indexOfChar_4cfef_1004_7L x3 v1) zlim (x2, σ))
set_option maxHeartbeats 4000000 in
set_option maxRecDepth 100000 in
theorem p_J1_indexOfChar_4cfef_1004_0 {G : zG} {C : zC} {r : Int32} {τ : zSt} (hR : zR G C (some .int) (some (.int r)) τ) (x1 : Int32) (x2 : Int32) (x3 : Int32) (σ : zSt) (h : F_J1_indexOfChar_4cfef_1004_0 x1 x2 x3 σ = some (r, τ)) : zAW G 1 RJ1 cJ1_indexOfChar_4cfef 6 C 0 [(0, .ref (zad G 1004)), (1, .int x1), (2, .int x2), (3, .int x3)] [] σ := by
  unfold F_J1_indexOfChar_4cfef_1004_0 at h
  refine z_iload e_J1_indexOfChar_4cfef_0 1 rfl ?_
  refine z_i2b e_J1_indexOfChar_4cfef_1 ?_
  refine z_nmI h (fun v1 h => ?_)
  refine z_istore e_J1_indexOfChar_4cfef_2 (by decide) [(4, .int v1), (0, .ref (zad G 1004)), (1, .int x1), (2, .int x2), (3, .int x3)] rfl ?_
  refine z_iload e_J1_indexOfChar_4cfef_4 3 rfl ?_
  refine z_istore e_J1_indexOfChar_4cfef_5 (by decide) [(5, .int x2), (4, .int v1), (0, .ref (zad G 1004)), (1, .int x1), (2, .int x2), (3, .int x3)] rfl ?_
  exact z_sub [2, 5, 1, 0] rfl (l_J1_indexOfChar_4cfef_1004_7 hR x3 v1 zlim x2 σ h)
noncomputable def F_J1_indexOfChar_4cfef_1004 (x1 : Int32) (x2 : Int32) (x3 : Int32) (σ : zSt) : Option (Int32 × zSt) := F_J1_indexOfChar_4cfef_1004_0 x1 x2 x3 σ
set_option maxRecDepth 100000 in
theorem m_J1_indexOfChar_4cfef_1004 (G : zG) (x1 : Int32) (x2 : Int32) (x3 : Int32) (σ : zSt) (q : Int32) (τ : zSt) (h : F_J1_indexOfChar_4cfef_1004 x1 x2 x3 σ = some (q, τ)) : zM G 1 yJ1_indexOfChar_4cfef cJ1_indexOfChar_4cfef 6 (some .int) [.ref (zad G 1004), .int x1, .int x2, .int x3] σ (some (.int q)) τ := by
  unfold F_J1_indexOfChar_4cfef_1004 at h
  refine zM.of (own := RJ1) (by decide +kernel) rfl (Nat.le_of_ble_eq_true rfl) (fun C hR => ?_)
  exact z_sub [0, 1, 2, 3] rfl (p_J1_indexOfChar_4cfef_1004_0 hR x1 x2 x3 σ h)
noncomputable def F_J1_indexOf_4cfef_1004_0 (x1 : Int32) (x2 : Int32) (x3 : Int32) (σ : zSt) : Option (Int32 × zSt) :=
  bd (F_J1_canEncode_9a6ad x1 σ) (fun q2 s1 =>
    if q2 = 0 then (
      some ((-1 : Int32), s1))
    else (
      nm (jmax x2 (0 : Int32)) (fun v5 =>
        nm (jmin x3 (9 : Int32)) (fun v6 =>
          if v5 < v6 then (
            bd (F_J1_indexOfChar_4cfef_1004 x1 v5 v6 s1) (fun q9 s8 =>
              some (q9, s8)))
          else (
            some ((-1 : Int32), s1))))))
set_option maxHeartbeats 4000000 in
set_option maxRecDepth 100000 in
theorem p_J1_indexOf_4cfef_1004_0 {G : zG} {C : zC} {r : Int32} {τ : zSt} (hR : zR G C (some .int) (some (.int r)) τ) (x1 : Int32) (x2 : Int32) (x3 : Int32) (σ : zSt) (h : F_J1_indexOf_4cfef_1004_0 x1 x2 x3 σ = some (r, τ)) : zAW G 2 RJ1 cJ1_indexOf_4cfef 4 C 0 [(0, .ref (zad G 1004)), (1, .int x1), (2, .int x2), (3, .int x3)] [] σ := by
  unfold F_J1_indexOf_4cfef_1004_0 at h
  refine z_iload e_J1_indexOf_4cfef_0 1 rfl ?_
  obtain ⟨q2, s1, e3, h⟩ := bd_e h
  refine z_callSi (As := [.int x1]) (rest := []) lk_J1_88 e_J1_indexOf_4cfef_1 (m_J1_canEncode_9a6ad G x1 σ _ _ e3) (by decide) rfl (Nat.le_of_ble_eq_true rfl) ?_
  refine z_if_ne e_J1_indexOf_4cfef_4 h (fun c4 h => ?_) (fun c4 h => ?_)
  · refine z_ic e_J1_indexOf_4cfef_7 ?_
    cases h
    exact z_ireturn hR e_J1_indexOf_4cfef_8
  · refine z_iload e_J1_indexOf_4cfef_9 2 rfl ?_
    refine z_ic e_J1_indexOf_4cfef_10 ?_
    refine z_jmax mm_J1_92 (Nat.le_of_ble_eq_true rfl) (by decide) e_J1_indexOf_4cfef_11 ?_
    refine z_nmI h (fun v5 h => ?_)
    refine z_istore e_J1_indexOf_4cfef_14 (by decide) [(2, .int v5), (0, .ref (zad G 1004)), (1, .int x1), (3, .int x3)] rfl ?_
    refine z_iload e_J1_indexOf_4cfef_15 3 rfl ?_
    refine z_aload e_J1_indexOf_4cfef_16 1 rfl ?_
    refine z_slen (i := 0) (by decide) 9 rfl e_J1_indexOf_4cfef_17 ?_
    refine z_jmin mm_J1_38 (Nat.le_of_ble_eq_true rfl) (by decide) e_J1_indexOf_4cfef_18 ?_
    refine z_nmI h (fun v6 h => ?_)
    refine z_istore e_J1_indexOf_4cfef_21 (by decide) [(3, .int v6), (2, .int v5), (0, .ref (zad G 1004)), (1, .int x1)] rfl ?_
    refine z_iload e_J1_indexOf_4cfef_22 1 rfl ?_
    refine z_iload e_J1_indexOf_4cfef_23 0 rfl ?_
    refine z_icmp_lt e_J1_indexOf_4cfef_24 h (fun c7 h => ?_) (fun c7 h => ?_)
    · refine z_aload e_J1_indexOf_4cfef_29 2 rfl ?_
      refine z_iload e_J1_indexOf_4cfef_30 3 rfl ?_
      refine z_iload e_J1_indexOf_4cfef_31 1 rfl ?_
      refine z_iload e_J1_indexOf_4cfef_32 0 rfl ?_
      obtain ⟨q9, s8, e10, h⟩ := bd_e h
      refine z_callSi (As := [.ref (zad G 1004), .int x1, .int v5, .int v6]) (rest := []) lk_J1_95 e_J1_indexOf_4cfef_33 (m_J1_indexOfChar_4cfef_1004 G x1 v5 v6 s1 _ _ e10) (by decide) rfl (Nat.le_of_ble_eq_true rfl) ?_
      cases h
      exact z_ireturn hR e_J1_indexOf_4cfef_36
    · refine z_ic e_J1_indexOf_4cfef_27 ?_
      cases h
      exact z_ireturn hR e_J1_indexOf_4cfef_28
noncomputable def F_J1_indexOf_4cfef_1004 (x1 : Int32) (x2 : Int32) (x3 : Int32) (σ : zSt) : Option (Int32 × zSt) := F_J1_indexOf_4cfef_1004_0 x1 x2 x3 σ
set_option maxRecDepth 100000 in
theorem m_J1_indexOf_4cfef_1004 (G : zG) (x1 : Int32) (x2 : Int32) (x3 : Int32) (σ : zSt) (q : Int32) (τ : zSt) (h : F_J1_indexOf_4cfef_1004 x1 x2 x3 σ = some (q, τ)) : zM G 2 yJ1_indexOf_4cfef cJ1_indexOf_4cfef 4 (some .int) [.ref (zad G 1004), .int x1, .int x2, .int x3] σ (some (.int q)) τ := by
  unfold F_J1_indexOf_4cfef_1004 at h
  refine zM.of (own := RJ1) (by decide +kernel) rfl (Nat.le_of_ble_eq_true rfl) (fun C hR => ?_)
  exact z_sub [0, 1, 2, 3] rfl (p_J1_indexOf_4cfef_1004_0 hR x1 x2 x3 σ h)
noncomputable def F_J0_indexOf_7cf53_1002_0 (x1 : Int32) (x2 : Int32) (σ : zSt) : Option (Int32 × zSt) :=
  bd (F_J0_isLatin1_aae02_1002 σ) (fun q2 s1 =>
    if q2 = 0 then (
      bd (F_J0_length_8abf5_1002 s1) (fun q6 s5 =>
        none))
    else (
      bd (F_J0_length_8abf5_1002 s1) (fun q9 s8 =>
        bd (F_J1_indexOf_4cfef_1004 x1 x2 q9 s8) (fun q12 s11 =>
          some (q12, s11)))))
set_option maxHeartbeats 4000000 in
set_option maxRecDepth 100000 in
theorem p_J0_indexOf_7cf53_1002_0 {G : zG} {C : zC} {r : Int32} {τ : zSt} (hR : zR G C (some .int) (some (.int r)) τ) (x1 : Int32) (x2 : Int32) (σ : zSt) (h : F_J0_indexOf_7cf53_1002_0 x1 x2 σ = some (r, τ)) : zAW G 3 RJ0 cJ0_indexOf_7cf53 3 C 0 [(0, .ref (zad G 1002)), (1, .int x1), (2, .int x2)] [] σ := by
  unfold F_J0_indexOf_7cf53_1002_0 at h
  refine z_aload e_J0_indexOf_7cf53_0 0 rfl ?_
  obtain ⟨q2, s1, e3, h⟩ := bd_e h
  refine z_callVsi (i := 0) (As := []) (rest := []) lk_J0_492 rfl (by decide) e_J0_indexOf_7cf53_1 (m_J0_isLatin1_aae02_1002 G σ _ _ e3) (by decide) rfl (Nat.le_of_ble_eq_true rfl) ?_
  refine z_if_eq e_J0_indexOf_7cf53_4 h (fun c4 h => ?_) (fun c4 h => ?_)
  · refine z_aload e_J0_indexOf_7cf53_23 0 rfl ?_
    refine z_sval (i := 0) st_J0_9 (by decide) e_J0_indexOf_7cf53_24 ?_
    refine z_iload e_J0_indexOf_7cf53_27 1 rfl ?_
    refine z_iload e_J0_indexOf_7cf53_28 2 rfl ?_
    refine z_aload e_J0_indexOf_7cf53_29 0 rfl ?_
    obtain ⟨q6, s5, e7, h⟩ := bd_e h
    refine z_callVsi (i := 0) (As := []) (rest := [.int x2, .int x1, .ref (zad G 1004)]) lk_J0_505 rfl (by decide) e_J0_indexOf_7cf53_30 (m_J0_length_8abf5_1002 G s1 _ _ e7) (by decide) rfl (Nat.le_of_ble_eq_true rfl) ?_
    cases h
  · refine z_aload e_J0_indexOf_7cf53_7 0 rfl ?_
    refine z_sval (i := 0) st_J0_9 (by decide) e_J0_indexOf_7cf53_8 ?_
    refine z_iload e_J0_indexOf_7cf53_11 1 rfl ?_
    refine z_iload e_J0_indexOf_7cf53_12 2 rfl ?_
    refine z_aload e_J0_indexOf_7cf53_13 0 rfl ?_
    obtain ⟨q9, s8, e10, h⟩ := bd_e h
    refine z_callVsi (i := 0) (As := []) (rest := [.int x2, .int x1, .ref (zad G 1004)]) lk_J0_505 rfl (by decide) e_J0_indexOf_7cf53_14 (m_J0_length_8abf5_1002 G s1 _ _ e10) (by decide) rfl (Nat.le_of_ble_eq_true rfl) ?_
    obtain ⟨q12, s11, e13, h⟩ := bd_e h
    refine z_callSi (As := [.ref (zad G 1004), .int x1, .int x2, .int q9]) (rest := []) lk_J0_637 e_J0_indexOf_7cf53_17 (m_J1_indexOf_4cfef_1004 G x1 x2 q9 s8 _ _ e13) (by decide) rfl (Nat.le_of_ble_eq_true rfl) ?_
    refine z_goto e_J0_indexOf_7cf53_20 ?_
    cases h
    exact z_ireturn hR e_J0_indexOf_7cf53_36
noncomputable def F_J0_indexOf_7cf53_1002 (x1 : Int32) (x2 : Int32) (σ : zSt) : Option (Int32 × zSt) := F_J0_indexOf_7cf53_1002_0 x1 x2 σ
set_option maxRecDepth 100000 in
theorem m_J0_indexOf_7cf53_1002 (G : zG) (x1 : Int32) (x2 : Int32) (σ : zSt) (q : Int32) (τ : zSt) (h : F_J0_indexOf_7cf53_1002 x1 x2 σ = some (q, τ)) : zM G 3 yJ0_indexOf_7cf53 cJ0_indexOf_7cf53 3 (some .int) [.ref (zad G 1002), .int x1, .int x2] σ (some (.int q)) τ := by
  unfold F_J0_indexOf_7cf53_1002 at h
  refine zM.of (own := RJ0) (by decide +kernel) rfl (Nat.le_of_ble_eq_true rfl) (fun C hR => ?_)
  exact z_sub [0, 1, 2] rfl (p_J0_indexOf_7cf53_1002_0 hR x1 x2 σ h)
noncomputable def F_J0_indexOf_0f7a4_1002_0 (x1 : Int32) (σ : zSt) : Option (Int32 × zSt) :=
  bd (F_J0_indexOf_7cf53_1002 x1 (0 : Int32) σ) (fun q2 s1 =>
    some (q2, s1))
set_option maxHeartbeats 4000000 in
set_option maxRecDepth 100000 in
theorem p_J0_indexOf_0f7a4_1002_0 {G : zG} {C : zC} {r : Int32} {τ : zSt} (hR : zR G C (some .int) (some (.int r)) τ) (x1 : Int32) (σ : zSt) (h : F_J0_indexOf_0f7a4_1002_0 x1 σ = some (r, τ)) : zAW G 4 RJ0 cJ0_indexOf_0f7a4 2 C 0 [(0, .ref (zad G 1002)), (1, .int x1)] [] σ := by
  unfold F_J0_indexOf_0f7a4_1002_0 at h
  refine z_aload e_J0_indexOf_0f7a4_0 0 rfl ?_
  refine z_iload e_J0_indexOf_0f7a4_1 1 rfl ?_
  refine z_ic e_J0_indexOf_0f7a4_2 ?_
  obtain ⟨q2, s1, e3, h⟩ := bd_e h
  refine z_callVsi (i := 0) (As := [.int x1, .int (0 : Int32)]) (rest := []) lk_J0_633 rfl (by decide) e_J0_indexOf_0f7a4_3 (m_J0_indexOf_7cf53_1002 G x1 (0 : Int32) σ _ _ e3) (by decide) rfl (Nat.le_of_ble_eq_true rfl) ?_
  cases h
  exact z_ireturn hR e_J0_indexOf_0f7a4_6
noncomputable def F_J0_indexOf_0f7a4_1002 (x1 : Int32) (σ : zSt) : Option (Int32 × zSt) := F_J0_indexOf_0f7a4_1002_0 x1 σ
set_option maxRecDepth 100000 in
theorem m_J0_indexOf_0f7a4_1002 (G : zG) (x1 : Int32) (σ : zSt) (q : Int32) (τ : zSt) (h : F_J0_indexOf_0f7a4_1002 x1 σ = some (q, τ)) : zM G 4 yJ0_indexOf_0f7a4 cJ0_indexOf_0f7a4 2 (some .int) [.ref (zad G 1002), .int x1] σ (some (.int q)) τ := by
  unfold F_J0_indexOf_0f7a4_1002 at h
  refine zM.of (own := RJ0) (by decide +kernel) rfl (Nat.le_of_ble_eq_true rfl) (fun C hR => ?_)
  exact z_sub [0, 1] rfl (p_J0_indexOf_0f7a4_1002_0 hR x1 σ h)
noncomputable def F_X1_put_0 (x1 : Int32) (x2 : Int32) (σ : zSt) : Option (Int32 × zSt) :=
  if (σ.1 35 2) < 0 then (
    some ((-1 : Int32), σ))
  else (
    if (σ.1 35 2) < (240 : Int32) then (
      gd (vp_in (σ.1 35 2) 240) (nm (zwr σ 36 (σ.1 35 2).toNatClampNeg x1) (fun s3 =>
        gd (vp_in (s3.1 35 2) 240) (nm (zwr s3 37 (s3.1 35 2).toNatClampNeg x2) (fun s4 =>
          nm (zwr s4 35 2 ((s4.1 35 2) + (1 : Int32))) (fun s5 =>
            some (((s5.1 35 2) - (1 : Int32)), s5)))))))
    else (
      some ((-1 : Int32), σ)))
set_option maxHeartbeats 4000000 in
set_option maxRecDepth 100000 in
theorem p_X1_put_0 {G : zG} {C : zC} {r : Int32} {τ : zSt} (hR : zR G C (some .int) (some (.int r)) τ) (x1 : Int32) (x2 : Int32) (σ : zSt) (h : F_X1_put_0 x1 x2 σ = some (r, τ)) : zAW G 1 RX1 cX1_put 3 C 0 [(0, .ref (zad G 35)), (1, .int x1), (2, .int x2)] [] σ := by
  unfold F_X1_put_0 at h
  refine z_aload e_X1_put_0 0 rfl ?_
  refine z_geti gf_X1_68_35 e_X1_put_1 ?_
  refine z_if_lt e_X1_put_4 h (fun c1 h => ?_) (fun c1 h => ?_)
  · refine z_ic e_X1_put_17 ?_
    cases h
    exact z_ireturn hR e_X1_put_18
  · refine z_aload e_X1_put_7 0 rfl ?_
    refine z_geti gf_X1_68_35 e_X1_put_8 ?_
    refine z_ic e_X1_put_11 ?_
    refine z_icmp_lt e_X1_put_14 h (fun c2 h => ?_) (fun c2 h => ?_)
    · refine z_aload e_X1_put_19 0 rfl ?_
      refine z_getr gf_X1_11_35 e_X1_put_20 ?_
      refine z_aload e_X1_put_23 0 rfl ?_
      refine z_geti gf_X1_68_35 e_X1_put_24 ?_
      refine z_iload e_X1_put_27 1 rfl ?_
      refine z_iast sh_36 e_X1_put_28 h (fun s3 h => ?_)
      refine z_aload e_X1_put_29 0 rfl ?_
      refine z_getr gf_X1_15_35 e_X1_put_30 ?_
      refine z_aload e_X1_put_33 0 rfl ?_
      refine z_geti gf_X1_68_35 e_X1_put_34 ?_
      refine z_iload e_X1_put_37 2 rfl ?_
      refine z_iast sh_37 e_X1_put_38 h (fun s4 h => ?_)
      refine z_aload e_X1_put_39 0 rfl ?_
      refine z_dup e_X1_put_40 rfl ?_
      refine z_geti gf_X1_68_35 e_X1_put_41 ?_
      refine z_ic e_X1_put_44 ?_
      refine z_iadd e_X1_put_45 ?_
      refine z_puti pf_X1_68_35 e_X1_put_46 h (fun s5 h => ?_)
      refine z_aload e_X1_put_49 0 rfl ?_
      refine z_geti gf_X1_68_35 e_X1_put_50 ?_
      refine z_ic e_X1_put_53 ?_
      refine z_isub e_X1_put_54 ?_
      cases h
      exact z_ireturn hR e_X1_put_55
    · refine z_ic e_X1_put_17 ?_
      cases h
      exact z_ireturn hR e_X1_put_18
noncomputable def F_X1_put (x1 : Int32) (x2 : Int32) (σ : zSt) : Option (Int32 × zSt) := F_X1_put_0 x1 x2 σ
set_option maxRecDepth 100000 in
theorem m_X1_put (G : zG) (x1 : Int32) (x2 : Int32) (σ : zSt) (q : Int32) (τ : zSt) (h : F_X1_put x1 x2 σ = some (q, τ)) : zM G 1 yX1_put cX1_put 3 (some .int) [.ref (zad G 35), .int x1, .int x2] σ (some (.int q)) τ := by
  unfold F_X1_put at h
  refine zM.of (own := RX1) (by decide +kernel) rfl (Nat.le_of_ble_eq_true rfl) (fun C hR => ?_)
  exact z_sub [0, 1, 2] rfl (p_X1_put_0 hR x1 x2 σ h)
noncomputable def F_X1_wrong_0 (x1 : Int32) (σ : zSt) : Option (Int32 × zSt) :=
  nm (zwr σ 35 12 (((-1000 : Int32) * x1) - (σ.1 35 11))) (fun s1 =>
    some ((0 : Int32), s1))
set_option maxHeartbeats 4000000 in
set_option maxRecDepth 100000 in
theorem p_X1_wrong_0 {G : zG} {C : zC} {r : Int32} {τ : zSt} (hR : zR G C (some .boolean) (some (.int r)) τ) (x1 : Int32) (σ : zSt) (h : F_X1_wrong_0 x1 σ = some (r, τ)) : zAW G 1 RX1 cX1_wrong 2 C 0 [(0, .ref (zad G 35)), (1, .int x1)] [] σ := by
  unfold F_X1_wrong_0 at h
  refine z_aload e_X1_wrong_0 0 rfl ?_
  refine z_ic e_X1_wrong_1 ?_
  refine z_iload e_X1_wrong_4 1 rfl ?_
  refine z_imul e_X1_wrong_5 ?_
  refine z_aload e_X1_wrong_6 0 rfl ?_
  refine z_geti gf_X1_66_35 e_X1_wrong_7 ?_
  refine z_isub e_X1_wrong_10 ?_
  refine z_puti pf_X1_75_35 e_X1_wrong_11 h (fun s1 h => ?_)
  refine z_ic e_X1_wrong_14 ?_
  cases h
  exact z_zreturn hR e_X1_wrong_15 (Or.inl rfl)
noncomputable def F_X1_wrong (x1 : Int32) (σ : zSt) : Option (Int32 × zSt) := F_X1_wrong_0 x1 σ
set_option maxRecDepth 100000 in
theorem m_X1_wrong (G : zG) (x1 : Int32) (σ : zSt) (q : Int32) (τ : zSt) (h : F_X1_wrong x1 σ = some (q, τ)) : zM G 1 yX1_wrong cX1_wrong 2 (some .boolean) [.ref (zad G 35), .int x1] σ (some (.int q)) τ := by
  unfold F_X1_wrong at h
  refine zM.of (own := RX1) (by decide +kernel) rfl (Nat.le_of_ble_eq_true rfl) (fun C hR => ?_)
  exact z_sub [0, 1] rfl (p_X1_wrong_0 hR x1 σ h)
noncomputable def F_X1_readSign_46 (t0 : Int32) (σ : zSt) : Option (Int32 × zSt) :=
  nm (zwr σ 35 12 ((-1000 : Int32) - (σ.1 35 11))) (fun s2 =>
    nm (if t0 = 0 then (0 : Int32) else (1 : Int32)) (fun v3 =>
      nm (zwr s2 35 11 ((s2.1 35 11) + v3)) (fun s4 =>
        gd (t0 = 0 ∨ t0 = 1) (some (t0, s4)))))
set_option maxHeartbeats 4000000 in
set_option maxRecDepth 100000 in
theorem p_X1_readSign_46 {G : zG} {C : zC} {r : Int32} {τ : zSt} (hR : zR G C (some .boolean) (some (.int r)) τ) (t0 : Int32) (σ : zSt) (h : F_X1_readSign_46 t0 σ = some (r, τ)) : zAW G 1 RX1 cX1_readSign 3 C 46 [(0, .ref (zad G 35))] [.int t0] σ := by
  unfold F_X1_readSign_46 at h
  refine z_istore e_X1_readSign_46 (by decide) [(2, .int t0), (0, .ref (zad G 35))] rfl ?_
  refine z_aload e_X1_readSign_47 1 rfl ?_
  refine z_ic e_X1_readSign_48 ?_
  refine z_aload e_X1_readSign_51 1 rfl ?_
  refine z_geti gf_X1_66_35 e_X1_readSign_52 ?_
  refine z_isub e_X1_readSign_55 ?_
  refine z_puti pf_X1_75_35 e_X1_readSign_56 h (fun s2 h => ?_)
  refine z_aload e_X1_readSign_59 1 rfl ?_
  refine z_dup e_X1_readSign_60 rfl ?_
  refine z_geti gf_X1_66_35 e_X1_readSign_61 ?_
  refine z_iload e_X1_readSign_64 0 rfl ?_
  obtain ⟨v3, ev3, h⟩ := nm_i h
  have jv3 : zAW G 1 RX1 cX1_readSign 3 C 73 [(2, .int t0)] [.int v3, .int (s2.1 35 11), .ref (zad G 35)] s2 := by
    refine z_iadd e_X1_readSign_73 ?_
    refine z_puti pf_X1_66_35 e_X1_readSign_74 h (fun s4 h => ?_)
    refine z_iload e_X1_readSign_77 0 rfl ?_
    obtain ⟨hb5, h⟩ := gd_e h
    cases h
    exact z_zreturn hR e_X1_readSign_78 hb5
  refine y_if_eq e_X1_readSign_65 (fun c6 => ?_) (fun c6 => ?_)
  · refine z_ic e_X1_readSign_72 ?_
    rw [if_pos c6] at ev3
    subst ev3
    exact z_sub [0] rfl jv3
  · refine z_ic e_X1_readSign_68 ?_
    refine z_goto e_X1_readSign_69 ?_
    rw [if_neg c6] at ev3
    subst ev3
    exact z_sub [0] rfl jv3
noncomputable def F_X1_readSign_45 (σ : zSt) : Option (Int32 × zSt) :=
  F_X1_readSign_46 (0 : Int32) σ
set_option maxHeartbeats 4000000 in
set_option maxRecDepth 100000 in
theorem p_X1_readSign_45 {G : zG} {C : zC} {r : Int32} {τ : zSt} (hR : zR G C (some .boolean) (some (.int r)) τ)  (σ : zSt) (h : F_X1_readSign_45 σ = some (r, τ)) : zAW G 1 RX1 cX1_readSign 3 C 45 [(0, .ref (zad G 35))] [] σ := by
  unfold F_X1_readSign_45 at h
  refine z_ic e_X1_readSign_45 ?_
  exact z_sub [0] rfl (p_X1_readSign_46 hR (0 : Int32) σ h)
noncomputable def F_X1_readSign_0 (x1 : Int32) (σ : zSt) : Option (Int32 × zSt) :=
  if (σ.1 35 11) < 0 then (
    F_X1_readSign_45  σ)
  else (
    if (σ.1 35 10) ≤ (σ.1 35 11) then (
      F_X1_readSign_45  σ)
    else (
      if (240 : Int32) ≤ (σ.1 35 11) then (
        F_X1_readSign_45  σ)
      else (
        gd (vp_in (σ.1 35 11) 240) (
          nm (if (σ.1 42 (σ.1 35 11).toNatClampNeg) = x1 then (1 : Int32) else (0 : Int32)) (fun v9 =>
            nm (zwr σ 35 12 ((-1000 : Int32) - (σ.1 35 11))) (fun s10 =>
              nm (if v9 = 0 then (0 : Int32) else (1 : Int32)) (fun v11 =>
                nm (zwr s10 35 11 ((s10.1 35 11) + v11)) (fun s12 =>
                  gd (v9 = 0 ∨ v9 = 1) (some (v9, s12))))))))))
set_option maxHeartbeats 4000000 in
set_option maxRecDepth 100000 in
theorem p_X1_readSign_0 {G : zG} {C : zC} {r : Int32} {τ : zSt} (hR : zR G C (some .boolean) (some (.int r)) τ) (x1 : Int32) (σ : zSt) (h : F_X1_readSign_0 x1 σ = some (r, τ)) : zAW G 1 RX1 cX1_readSign 3 C 0 [(0, .ref (zad G 35)), (1, .int x1)] [] σ := by
  unfold F_X1_readSign_0 at h
  refine z_aload e_X1_readSign_0 0 rfl ?_
  refine z_geti gf_X1_66_35 e_X1_readSign_1 ?_
  refine z_if_lt e_X1_readSign_4 h (fun c1 h => ?_) (fun c1 h => ?_)
  · exact z_sub [0] rfl (p_X1_readSign_45 hR  σ h)
  · refine z_aload e_X1_readSign_7 0 rfl ?_
    refine z_geti gf_X1_66_35 e_X1_readSign_8 ?_
    refine z_aload e_X1_readSign_11 0 rfl ?_
    refine z_geti gf_X1_61_35 e_X1_readSign_12 ?_
    refine z_icmp_ge e_X1_readSign_15 h (fun c7 h => ?_) (fun c7 h => ?_)
    · exact z_sub [0] rfl (p_X1_readSign_45 hR  σ h)
    · refine z_aload e_X1_readSign_18 0 rfl ?_
      refine z_geti gf_X1_66_35 e_X1_readSign_19 ?_
      refine z_ic e_X1_readSign_22 ?_
      refine z_icmp_ge e_X1_readSign_25 h (fun c8 h => ?_) (fun c8 h => ?_)
      · exact z_sub [0] rfl (p_X1_readSign_45 hR  σ h)
      · refine z_aload e_X1_readSign_28 0 rfl ?_
        refine z_getr gf_X1_30_35 e_X1_readSign_29 ?_
        refine z_aload e_X1_readSign_32 0 rfl ?_
        refine z_geti gf_X1_66_35 e_X1_readSign_33 ?_
        refine z_iald sh_42 e_X1_readSign_36 h (fun h => ?_)
        refine z_iload e_X1_readSign_37 1 rfl ?_
        obtain ⟨v9, ev9, h⟩ := nm_i h
        have jv9 : zAW G 1 RX1 cX1_readSign 3 C 46 [(0, .ref (zad G 35))] [.int v9] σ := by
          refine z_istore e_X1_readSign_46 (by decide) [(2, .int v9), (0, .ref (zad G 35))] rfl ?_
          refine z_aload e_X1_readSign_47 1 rfl ?_
          refine z_ic e_X1_readSign_48 ?_
          refine z_aload e_X1_readSign_51 1 rfl ?_
          refine z_geti gf_X1_66_35 e_X1_readSign_52 ?_
          refine z_isub e_X1_readSign_55 ?_
          refine z_puti pf_X1_75_35 e_X1_readSign_56 h (fun s10 h => ?_)
          refine z_aload e_X1_readSign_59 1 rfl ?_
          refine z_dup e_X1_readSign_60 rfl ?_
          refine z_geti gf_X1_66_35 e_X1_readSign_61 ?_
          refine z_iload e_X1_readSign_64 0 rfl ?_
          obtain ⟨v11, ev11, h⟩ := nm_i h
          have jv11 : zAW G 1 RX1 cX1_readSign 3 C 73 [(2, .int v9)] [.int v11, .int (s10.1 35 11), .ref (zad G 35)] s10 := by
            refine z_iadd e_X1_readSign_73 ?_
            refine z_puti pf_X1_66_35 e_X1_readSign_74 h (fun s12 h => ?_)
            refine z_iload e_X1_readSign_77 0 rfl ?_
            obtain ⟨hb13, h⟩ := gd_e h
            cases h
            exact z_zreturn hR e_X1_readSign_78 hb13
          refine y_if_eq e_X1_readSign_65 (fun c14 => ?_) (fun c14 => ?_)
          · refine z_ic e_X1_readSign_72 ?_
            rw [if_pos c14] at ev11
            subst ev11
            exact z_sub [0] rfl jv11
          · refine z_ic e_X1_readSign_68 ?_
            refine z_goto e_X1_readSign_69 ?_
            rw [if_neg c14] at ev11
            subst ev11
            exact z_sub [0] rfl jv11
        refine y_icmp_ne e_X1_readSign_38 (fun c15 => ?_) (fun c15 => ?_)
        · refine z_ic e_X1_readSign_41 ?_
          refine z_goto e_X1_readSign_42 ?_
          rw [if_pos c15] at ev9
          subst ev9
          exact z_sub [0] rfl jv9
        · refine z_ic e_X1_readSign_45 ?_
          rw [if_neg c15] at ev9
          subst ev9
          exact z_sub [0] rfl jv9
noncomputable def F_X1_readSign (x1 : Int32) (σ : zSt) : Option (Int32 × zSt) := F_X1_readSign_0 x1 σ
set_option maxRecDepth 100000 in
theorem m_X1_readSign (G : zG) (x1 : Int32) (σ : zSt) (q : Int32) (τ : zSt) (h : F_X1_readSign x1 σ = some (q, τ)) : zM G 1 yX1_readSign cX1_readSign 3 (some .boolean) [.ref (zad G 35), .int x1] σ (some (.int q)) τ := by
  unfold F_X1_readSign at h
  refine zM.of (own := RX1) (by decide +kernel) rfl (Nat.le_of_ble_eq_true rfl) (fun C hR => ?_)
  exact z_sub [0, 1] rfl (p_X1_readSign_0 hR x1 σ h)
noncomputable def F_X1_readFactor_189 (rc : (Int32 → zSt → Option (Int32 × zSt)) × (Int32 → zSt → Option (Int32 × zSt))) (x4 : Int32) (x5 : Int32) (σ : zSt) : Option (Int32 × zSt) :=
  if x5 = 0 then (
    bd (F_X1_wrong (1 : Int32) σ) (fun q27 s26 =>
      gd (q27 = 0 ∨ q27 = 1) (some (q27, s26))))
  else (
    bd (F_X1_put (35 : Int32) x4 σ) (fun q31 s30 =>
      some ((1 : Int32), s30)))
set_option maxHeartbeats 4000000 in
set_option maxRecDepth 100000 in
theorem p_X1_readFactor_189 {G : zG} {C : zC} {r : Int32} {τ : zSt} (hR : zR G C (some .boolean) (some (.int r)) τ) (n : Nat) (rc : (Int32 → zSt → Option (Int32 × zSt)) × (Int32 → zSt → Option (Int32 × zSt))) (x4 : Int32) (x5 : Int32) (hrc : (∀ (a0 : Int32) (σ : zSt) (q : Int32) (τ : zSt), rc.1 a0 σ = some (q, τ) → zM G (5 + n) yX1_readFactor cX1_readFactor 6 (some .boolean) [.ref (zad G 35), .int a0] σ (some (.int q)) τ) ∧ (∀ (a0 : Int32) (σ : zSt) (q : Int32) (τ : zSt), rc.2 a0 σ = some (q, τ) → zM G (5 + n) yX1_readSum cX1_readSum 6 (some .boolean) [.ref (zad G 35), .int a0] σ (some (.int q)) τ)) (σ : zSt) (h : F_X1_readFactor_189 rc x4 x5 σ = some (r, τ)) : zAW G (5 + (n + 1)) RX1 cX1_readFactor 6 C 189 [(0, .ref (zad G 35)), (4, .int x4), (5, .int x5)] [] σ := by
  unfold F_X1_readFactor_189 at h
  refine z_iload e_X1_readFactor_189 2 rfl ?_
  refine z_if_ne e_X1_readFactor_191 h (fun c25 h => ?_) (fun c25 h => ?_)
  · refine z_aload e_X1_readFactor_194 0 rfl ?_
    refine z_ic e_X1_readFactor_195 ?_
    obtain ⟨q27, s26, e28, h⟩ := bd_e h
    refine z_callVi (c0 := 35) (As := [.int (1 : Int32)]) (rest := []) lk_X1_86 ob_35 e_X1_readFactor_196 (m_X1_wrong G (1 : Int32) σ _ _ e28) (by omega) rfl (Nat.le_of_ble_eq_true rfl) ?_
    obtain ⟨hb29, h⟩ := gd_e h
    cases h
    exact z_zreturn hR e_X1_readFactor_199 hb29
  · refine z_aload e_X1_readFactor_200 0 rfl ?_
    refine z_ic e_X1_readFactor_201 ?_
    refine z_iload e_X1_readFactor_203 1 rfl ?_
    obtain ⟨q31, s30, e32, h⟩ := bd_e h
    refine z_callVi (c0 := 35) (As := [.int (35 : Int32), .int x4]) (rest := []) lk_X1_98 ob_35 e_X1_readFactor_205 (m_X1_put G (35 : Int32) x4 σ _ _ e32) (by omega) rfl (Nat.le_of_ble_eq_true rfl) ?_
    refine z_pop e_X1_readFactor_208 rfl ?_
    refine z_ic e_X1_readFactor_209 ?_
    cases h
    exact z_zreturn hR e_X1_readFactor_210 (Or.inr rfl)
noncomputable def F_X1_readFactor_150 (rc : (Int32 → zSt → Option (Int32 × zSt)) × (Int32 → zSt → Option (Int32 × zSt))) (σ : zSt) : Option (Int32 × zSt) :=
  bd (F_X1_wrong (2 : Int32) σ) (fun q37 s36 =>
    gd (q37 = 0 ∨ q37 = 1) (some (q37, s36)))
set_option maxHeartbeats 4000000 in
set_option maxRecDepth 100000 in
theorem p_X1_readFactor_150 {G : zG} {C : zC} {r : Int32} {τ : zSt} (hR : zR G C (some .boolean) (some (.int r)) τ) (n : Nat) (rc : (Int32 → zSt → Option (Int32 × zSt)) × (Int32 → zSt → Option (Int32 × zSt))) (hrc : (∀ (a0 : Int32) (σ : zSt) (q : Int32) (τ : zSt), rc.1 a0 σ = some (q, τ) → zM G (5 + n) yX1_readFactor cX1_readFactor 6 (some .boolean) [.ref (zad G 35), .int a0] σ (some (.int q)) τ) ∧ (∀ (a0 : Int32) (σ : zSt) (q : Int32) (τ : zSt), rc.2 a0 σ = some (q, τ) → zM G (5 + n) yX1_readSum cX1_readSum 6 (some .boolean) [.ref (zad G 35), .int a0] σ (some (.int q)) τ)) (σ : zSt) (h : F_X1_readFactor_150 rc σ = some (r, τ)) : zAW G (5 + (n + 1)) RX1 cX1_readFactor 6 C 150 [(0, .ref (zad G 35))] [] σ := by
  unfold F_X1_readFactor_150 at h
  refine z_aload e_X1_readFactor_150 0 rfl ?_
  refine z_ic e_X1_readFactor_151 ?_
  obtain ⟨q37, s36, e38, h⟩ := bd_e h
  refine z_callVi (c0 := 35) (As := [.int (2 : Int32)]) (rest := []) lk_X1_86 ob_35 e_X1_readFactor_152 (m_X1_wrong G (2 : Int32) σ _ _ e38) (by omega) rfl (Nat.le_of_ble_eq_true rfl) ?_
  obtain ⟨hb39, h⟩ := gd_e h
  cases h
  exact z_zreturn hR e_X1_readFactor_155 hb39
noncomputable def F_X1_readFactor_126 (rc : (Int32 → zSt → Option (Int32 × zSt)) × (Int32 → zSt → Option (Int32 × zSt))) (w126 : (Int32 × Int32 × Int32 × zSt) → Option (Int32 × zSt)) (x2 : Int32) (x4 : Int32) (x5 : Int32) (σ : zSt) : Option (Int32 × zSt) :=
  if x2 < (48 : Int32) then (
    F_X1_readFactor_189 rc x4 x5 σ)
  else (
    if (57 : Int32) < x2 then (
      F_X1_readFactor_189 rc x4 x5 σ)
    else (
      if (5 : Int32) < x5 then (
        F_X1_readFactor_189 rc x4 x5 σ)
      else (
        if x5 = (5 : Int32) then (
          F_X1_readFactor_150 rc σ)
        else (
          nm ((((10 : Int32) * x4) + x2) - (48 : Int32)) (fun v40 =>
            nm (x5 + (1 : Int32)) (fun v41 =>
              nm (zwr σ 35 11 ((σ.1 35 11) + (1 : Int32))) (fun s42 =>
                bd (F_X1_here s42) (fun q44 s43 =>
                  w126 (q44, v40, v41, s43)))))))))
set_option maxHeartbeats 4000000 in
set_option maxRecDepth 100000 in
theorem b_X1_readFactor_126 {G : zG} {C : zC} {r : Int32} {τ : zSt} (hR : zR G C (some .boolean) (some (.int r)) τ) (n : Nat) (rc : (Int32 → zSt → Option (Int32 × zSt)) × (Int32 → zSt → Option (Int32 × zSt))) (w126 : (Int32 × Int32 × Int32 × zSt) → Option (Int32 × zSt)) (hw126 : ∀ (x2 : Int32) (x4 : Int32) (x5 : Int32) (σ : zSt), w126 (x2, x4, x5, σ) = some (r, τ) → zAW G (5 + (n + 1)) RX1 cX1_readFactor 6 C 126 [(0, .ref (zad G 35)), (2, .int x2), (4, .int x4), (5, .int x5)] [] σ) (hrc : (∀ (a0 : Int32) (σ : zSt) (q : Int32) (τ : zSt), rc.1 a0 σ = some (q, τ) → zM G (5 + n) yX1_readFactor cX1_readFactor 6 (some .boolean) [.ref (zad G 35), .int a0] σ (some (.int q)) τ) ∧ (∀ (a0 : Int32) (σ : zSt) (q : Int32) (τ : zSt), rc.2 a0 σ = some (q, τ) → zM G (5 + n) yX1_readSum cX1_readSum 6 (some .boolean) [.ref (zad G 35), .int a0] σ (some (.int q)) τ)) (x2 : Int32) (x4 : Int32) (x5 : Int32) (σ : zSt) (h : F_X1_readFactor_126 rc w126 x2 x4 x5 σ = some (r, τ)) : zAW G (5 + (n + 1)) RX1 cX1_readFactor 6 C 126 [(0, .ref (zad G 35)), (2, .int x2), (4, .int x4), (5, .int x5)] [] σ := by
  unfold F_X1_readFactor_126 at h
  refine z_iload e_X1_readFactor_126 1 rfl ?_
  refine z_ic e_X1_readFactor_127 ?_
  refine z_icmp_lt e_X1_readFactor_129 h (fun c24 h => ?_) (fun c24 h => ?_)
  · exact z_sub [0, 2, 3] rfl (p_X1_readFactor_189 hR n rc x4 x5 hrc σ h)
  · refine z_iload e_X1_readFactor_132 1 rfl ?_
    refine z_ic e_X1_readFactor_133 ?_
    refine z_icmp_gt e_X1_readFactor_135 h (fun c33 h => ?_) (fun c33 h => ?_)
    · exact z_sub [0, 2, 3] rfl (p_X1_readFactor_189 hR n rc x4 x5 hrc σ h)
    · refine z_iload e_X1_readFactor_138 3 rfl ?_
      refine z_ic e_X1_readFactor_140 ?_
      refine z_icmp_gt e_X1_readFactor_141 h (fun c34 h => ?_) (fun c34 h => ?_)
      · exact z_sub [0, 2, 3] rfl (p_X1_readFactor_189 hR n rc x4 x5 hrc σ h)
      · refine z_iload e_X1_readFactor_144 3 rfl ?_
        refine z_ic e_X1_readFactor_146 ?_
        refine z_icmp_ne e_X1_readFactor_147 h (fun c35 h => ?_) (fun c35 h => ?_)
        · exact z_sub [0] rfl (p_X1_readFactor_150 hR n rc hrc σ h)
        · refine z_ic e_X1_readFactor_156 ?_
          refine z_iload e_X1_readFactor_158 2 rfl ?_
          refine z_imul e_X1_readFactor_160 ?_
          refine z_iload e_X1_readFactor_161 1 rfl ?_
          refine z_iadd e_X1_readFactor_162 ?_
          refine z_ic e_X1_readFactor_163 ?_
          refine z_isub e_X1_readFactor_165 ?_
          refine z_nmI h (fun v40 h => ?_)
          refine z_istore e_X1_readFactor_166 (by decide) [(4, .int v40), (0, .ref (zad G 35)), (2, .int x2), (5, .int x5)] rfl ?_
          refine z_iinc e_X1_readFactor_168 3 rfl (by decide) (by decide) h (fun y => [(5, .int y), (4, .int v40), (0, .ref (zad G 35)), (2, .int x2)]) (fun _ => rfl) (fun v41 h => ?_)
          refine z_aload e_X1_readFactor_171 2 rfl ?_
          refine z_dup e_X1_readFactor_172 rfl ?_
          refine z_geti gf_X1_66_35 e_X1_readFactor_173 ?_
          refine z_ic e_X1_readFactor_176 ?_
          refine z_iadd e_X1_readFactor_177 ?_
          refine z_puti pf_X1_66_35 e_X1_readFactor_178 h (fun s42 h => ?_)
          refine z_aload e_X1_readFactor_181 2 rfl ?_
          obtain ⟨q44, s43, e45, h⟩ := bd_e h
          refine z_callVi (c0 := 35) (As := []) (rest := []) lk_X1_82 ob_35 e_X1_readFactor_182 (m_X1_here G s42 _ _ e45) (by omega) rfl (Nat.le_of_ble_eq_true rfl) ?_
          refine z_istore e_X1_readFactor_185 (by decide) [(2, .int q44), (5, .int v41), (4, .int v40), (0, .ref (zad G 35))] rfl ?_
          refine z_goto e_X1_readFactor_186 ?_
          exact z_sub [3, 0, 2, 1] rfl (hw126 q44 v40 v41 s43 h)
noncomputable def F_X1_readFactor_126L (rc : (Int32 → zSt → Option (Int32 × zSt)) × (Int32 → zSt → Option (Int32 × zSt))) : ((Int32 × Int32 × Int32 × zSt) → Option (Int32 × zSt)) → (Int32 × Int32 × Int32 × zSt) → Option (Int32 × zSt) := fun w s => F_X1_readFactor_126 rc w s.1 s.2.1 s.2.2.1 s.2.2.2
set_option maxRecDepth 100000 in
theorem l_X1_readFactor_126 {G : zG} {C : zC} {r : Int32} {τ : zSt} (hR : zR G C (some .boolean) (some (.int r)) τ) (n : Nat) (rc : (Int32 → zSt → Option (Int32 × zSt)) × (Int32 → zSt → Option (Int32 × zSt))) (hrc : (∀ (a0 : Int32) (σ : zSt) (q : Int32) (τ : zSt), rc.1 a0 σ = some (q, τ) → zM G (5 + n) yX1_readFactor cX1_readFactor 6 (some .boolean) [.ref (zad G 35), .int a0] σ (some (.int q)) τ) ∧ (∀ (a0 : Int32) (σ : zSt) (q : Int32) (τ : zSt), rc.2 a0 σ = some (q, τ) → zM G (5 + n) yX1_readSum cX1_readSum 6 (some .boolean) [.ref (zad G 35), .int a0] σ (some (.int q)) τ)) : ∀ (N : Nat) (x2 : Int32) (x4 : Int32) (x5 : Int32) (σ : zSt), zfix (F_X1_readFactor_126L rc) N (x2, x4, x5, σ) = some (r, τ) → zAW G (5 + (n + 1)) RX1 cX1_readFactor 6 C 126 [(0, .ref (zad G 35)), (2, .int x2), (4, .int x4), (5, .int x5)] [] σ := by
  intro N
  induction N with
  | zero =>
    intro x2 x4 x5 σ h
    exact nomatch (show (none : Option (Int32 × zSt)) = some (r, τ) from h)
  | succ N ih =>
    intro x2 x4 x5 σ h
    exact b_X1_readFactor_126 hR n rc (zfix (F_X1_readFactor_126L rc) N) ih hrc x2 x4 x5 σ h
noncomputable def F_X1_readFactor_73 (rc : (Int32 → zSt → Option (Int32 × zSt)) × (Int32 → zSt → Option (Int32 × zSt))) (x2 : Int32) (t0 : Int32) (σ : zSt) : Option (Int32 × zSt) :=
  if t0 < 0 then (
    zfix (F_X1_readFactor_126L rc) zlim (x2, (0 : Int32), (0 : Int32), σ))
  else (
    bd (F_X1_put (63 : Int32) t0 σ) (fun q47 s46 =>
      nm (if (s46.1 35 8) = 0 then (if t0 = (8 : Int32) then (1 : Int32) else (0 : Int32)) else (1 : Int32)) (fun v49 =>
        gd (v49 = 0 ∨ v49 = 1) (nm (zwr s46 35 8 v49) (fun s50 =>
          nm (zwr s50 35 11 ((s50.1 35 11) + (1 : Int32))) (fun s52 =>
            some ((1 : Int32), s52)))))))
set_option maxHeartbeats 4000000 in
set_option maxRecDepth 100000 in
theorem p_X1_readFactor_73 {G : zG} {C : zC} {r : Int32} {τ : zSt} (hR : zR G C (some .boolean) (some (.int r)) τ) (n : Nat) (rc : (Int32 → zSt → Option (Int32 × zSt)) × (Int32 → zSt → Option (Int32 × zSt))) (x2 : Int32) (t0 : Int32) (hrc : (∀ (a0 : Int32) (σ : zSt) (q : Int32) (τ : zSt), rc.1 a0 σ = some (q, τ) → zM G (5 + n) yX1_readFactor cX1_readFactor 6 (some .boolean) [.ref (zad G 35), .int a0] σ (some (.int q)) τ) ∧ (∀ (a0 : Int32) (σ : zSt) (q : Int32) (τ : zSt), rc.2 a0 σ = some (q, τ) → zM G (5 + n) yX1_readSum cX1_readSum 6 (some .boolean) [.ref (zad G 35), .int a0] σ (some (.int q)) τ)) (σ : zSt) (h : F_X1_readFactor_73 rc x2 t0 σ = some (r, τ)) : zAW G (5 + (n + 1)) RX1 cX1_readFactor 6 C 73 [(0, .ref (zad G 35)), (2, .int x2)] [.int t0] σ := by
  unfold F_X1_readFactor_73 at h
  refine z_istore e_X1_readFactor_73 (by decide) [(3, .int t0), (0, .ref (zad G 35)), (2, .int x2)] rfl ?_
  refine z_iload e_X1_readFactor_74 0 rfl ?_
  refine z_if_lt e_X1_readFactor_75 h (fun c23 h => ?_) (fun c23 h => ?_)
  · refine z_ic e_X1_readFactor_120 ?_
    refine z_istore e_X1_readFactor_121 (by decide) [(4, .int (0 : Int32)), (3, .int t0), (0, .ref (zad G 35)), (2, .int x2)] rfl ?_
    refine z_ic e_X1_readFactor_123 ?_
    refine z_istore e_X1_readFactor_124 (by decide) [(5, .int (0 : Int32)), (4, .int (0 : Int32)), (3, .int t0), (0, .ref (zad G 35)), (2, .int x2)] rfl ?_
    exact z_sub [3, 4, 1, 0] rfl (l_X1_readFactor_126 hR n rc hrc zlim x2 (0 : Int32) (0 : Int32) σ h)
  · refine z_aload e_X1_readFactor_78 1 rfl ?_
    refine z_ic e_X1_readFactor_79 ?_
    refine z_iload e_X1_readFactor_81 0 rfl ?_
    obtain ⟨q47, s46, e48, h⟩ := bd_e h
    refine z_callVi (c0 := 35) (As := [.int (63 : Int32), .int t0]) (rest := []) lk_X1_98 ob_35 e_X1_readFactor_82 (m_X1_put G (63 : Int32) t0 σ _ _ e48) (by omega) rfl (Nat.le_of_ble_eq_true rfl) ?_
    refine z_pop e_X1_readFactor_85 rfl ?_
    refine z_aload e_X1_readFactor_86 1 rfl ?_
    refine z_aload e_X1_readFactor_87 1 rfl ?_
    refine z_geti gf_X1_46_35 e_X1_readFactor_88 ?_
    obtain ⟨v49, ev49, h⟩ := nm_i h
    have jv49 : zAW G (5 + (n + 1)) RX1 cX1_readFactor 6 C 105 [(0, .ref (zad G 35))] [.int v49, .ref (zad G 35)] s46 := by
      obtain ⟨hb51, h⟩ := gd_e h
      refine z_putb pf_X1_46_35 e_X1_readFactor_105 hb51 h (fun s50 h => ?_)
      refine z_aload e_X1_readFactor_108 0 rfl ?_
      refine z_dup e_X1_readFactor_109 rfl ?_
      refine z_geti gf_X1_66_35 e_X1_readFactor_110 ?_
      refine z_ic e_X1_readFactor_113 ?_
      refine z_iadd e_X1_readFactor_114 ?_
      refine z_puti pf_X1_66_35 e_X1_readFactor_115 h (fun s52 h => ?_)
      refine z_ic e_X1_readFactor_118 ?_
      cases h
      exact z_zreturn hR e_X1_readFactor_119 (Or.inr rfl)
    refine y_if_ne e_X1_readFactor_91 (fun c53 => ?_) (fun c53 => ?_)
    · refine z_iload e_X1_readFactor_94 0 rfl ?_
      refine z_ic e_X1_readFactor_95 ?_
      refine y_icmp_ne e_X1_readFactor_97 (fun c54 => ?_) (fun c54 => ?_)
      · refine z_ic e_X1_readFactor_100 ?_
        refine z_goto e_X1_readFactor_101 ?_
        rw [if_pos c53, if_pos c54] at ev49
        subst ev49
        exact z_sub [1] rfl jv49
      · refine z_ic e_X1_readFactor_104 ?_
        rw [if_pos c53, if_neg c54] at ev49
        subst ev49
        exact z_sub [1] rfl jv49
    · refine z_ic e_X1_readFactor_100 ?_
      refine z_goto e_X1_readFactor_101 ?_
      rw [if_neg c53] at ev49
      subst ev49
      exact z_sub [1] rfl jv49
noncomputable def F_X1_readFactor_0 (rc : (Int32 → zSt → Option (Int32 × zSt)) × (Int32 → zSt → Option (Int32 × zSt))) (x1 : Int32) (σ : zSt) : Option (Int32 × zSt) :=
  bd (F_X1_here σ) (fun q2 s1 =>
    if q2 = (91 : Int32) then (
      if x1 < (6 : Int32) then (
        nm (zwr s1 35 11 ((s1.1 35 11) + (1 : Int32))) (fun s6 =>
          bd (rc.2 (x1 + (1 : Int32)) s6) (fun q8 s7 =>
            if q8 = 0 then (
              some ((0 : Int32), s7))
            else (
              bd (F_X1_readSign (93 : Int32) s7) (fun q12 s11 =>
                if q12 = 0 then (
                  some ((0 : Int32), s11))
                else (
                  some ((1 : Int32), s11)))))))
      else (
        bd (F_X1_wrong (5 : Int32) s1) (fun q16 s15 =>
          gd (q16 = 0 ∨ q16 = 1) (some (q16, s15)))))
    else (
      if 0 ≤ q2 then (
        bd (F_J0_indexOf_0f7a4_1002 ((q2.toUInt32 % 65536).toInt32) s1) (fun q21 s20 =>
          F_X1_readFactor_73 rc q2 q21 s20))
      else (
        F_X1_readFactor_73 rc q2 (-1 : Int32) s1)))
set_option maxHeartbeats 4000000 in
set_option maxRecDepth 100000 in
theorem p_X1_readFactor_0 {G : zG} {C : zC} {r : Int32} {τ : zSt} (hR : zR G C (some .boolean) (some (.int r)) τ) (n : Nat) (rc : (Int32 → zSt → Option (Int32 × zSt)) × (Int32 → zSt → Option (Int32 × zSt))) (x1 : Int32) (hrc : (∀ (a0 : Int32) (σ : zSt) (q : Int32) (τ : zSt), rc.1 a0 σ = some (q, τ) → zM G (5 + n) yX1_readFactor cX1_readFactor 6 (some .boolean) [.ref (zad G 35), .int a0] σ (some (.int q)) τ) ∧ (∀ (a0 : Int32) (σ : zSt) (q : Int32) (τ : zSt), rc.2 a0 σ = some (q, τ) → zM G (5 + n) yX1_readSum cX1_readSum 6 (some .boolean) [.ref (zad G 35), .int a0] σ (some (.int q)) τ)) (σ : zSt) (h : F_X1_readFactor_0 rc x1 σ = some (r, τ)) : zAW G (5 + (n + 1)) RX1 cX1_readFactor 6 C 0 [(0, .ref (zad G 35)), (1, .int x1)] [] σ := by
  unfold F_X1_readFactor_0 at h
  refine z_aload e_X1_readFactor_0 0 rfl ?_
  obtain ⟨q2, s1, e3, h⟩ := bd_e h
  refine z_callVi (c0 := 35) (As := []) (rest := []) lk_X1_82 ob_35 e_X1_readFactor_1 (m_X1_here G σ _ _ e3) (by omega) rfl (Nat.le_of_ble_eq_true rfl) ?_
  refine z_istore e_X1_readFactor_4 (by decide) [(2, .int q2), (0, .ref (zad G 35)), (1, .int x1)] rfl ?_
  refine z_iload e_X1_readFactor_5 0 rfl ?_
  refine z_ic e_X1_readFactor_6 ?_
  refine z_icmp_ne e_X1_readFactor_8 h (fun c4 h => ?_) (fun c4 h => ?_)
  · refine z_iload e_X1_readFactor_11 2 rfl ?_
    refine z_ic e_X1_readFactor_12 ?_
    refine z_icmp_lt e_X1_readFactor_14 h (fun c5 h => ?_) (fun c5 h => ?_)
    · refine z_aload e_X1_readFactor_23 1 rfl ?_
      refine z_dup e_X1_readFactor_24 rfl ?_
      refine z_geti gf_X1_66_35 e_X1_readFactor_25 ?_
      refine z_ic e_X1_readFactor_28 ?_
      refine z_iadd e_X1_readFactor_29 ?_
      refine z_puti pf_X1_66_35 e_X1_readFactor_30 h (fun s6 h => ?_)
      refine z_aload e_X1_readFactor_33 1 rfl ?_
      refine z_iload e_X1_readFactor_34 2 rfl ?_
      refine z_ic e_X1_readFactor_35 ?_
      refine z_iadd e_X1_readFactor_36 ?_
      obtain ⟨q8, s7, e9, h⟩ := bd_e h
      refine z_callVi (c0 := 35) (As := [.int (x1 + (1 : Int32))]) (rest := []) lk_X1_89 ob_35 e_X1_readFactor_37 (hrc.2 (x1 + (1 : Int32)) s6 _ _ e9) (by omega) rfl (Nat.le_of_ble_eq_true rfl) ?_
      refine z_if_eq e_X1_readFactor_40 h (fun c10 h => ?_) (fun c10 h => ?_)
      · refine z_ic e_X1_readFactor_56 ?_
        cases h
        exact z_zreturn hR e_X1_readFactor_57 (Or.inl rfl)
      · refine z_aload e_X1_readFactor_43 1 rfl ?_
        refine z_ic e_X1_readFactor_44 ?_
        obtain ⟨q12, s11, e13, h⟩ := bd_e h
        refine z_callVi (c0 := 35) (As := [.int (93 : Int32)]) (rest := []) lk_X1_78 ob_35 e_X1_readFactor_46 (m_X1_readSign G (93 : Int32) s7 _ _ e13) (by omega) rfl (Nat.le_of_ble_eq_true rfl) ?_
        refine z_if_eq e_X1_readFactor_49 h (fun c14 h => ?_) (fun c14 h => ?_)
        · refine z_ic e_X1_readFactor_56 ?_
          cases h
          exact z_zreturn hR e_X1_readFactor_57 (Or.inl rfl)
        · refine z_ic e_X1_readFactor_52 ?_
          refine z_goto e_X1_readFactor_53 ?_
          cases h
          exact z_zreturn hR e_X1_readFactor_57 (Or.inr rfl)
    · refine z_aload e_X1_readFactor_17 1 rfl ?_
      refine z_ic e_X1_readFactor_18 ?_
      obtain ⟨q16, s15, e17, h⟩ := bd_e h
      refine z_callVi (c0 := 35) (As := [.int (5 : Int32)]) (rest := []) lk_X1_86 ob_35 e_X1_readFactor_19 (m_X1_wrong G (5 : Int32) s1 _ _ e17) (by omega) rfl (Nat.le_of_ble_eq_true rfl) ?_
      obtain ⟨hb18, h⟩ := gd_e h
      cases h
      exact z_zreturn hR e_X1_readFactor_22 hb18
  · refine z_iload e_X1_readFactor_58 0 rfl ?_
    refine z_if_ge e_X1_readFactor_59 h (fun c19 h => ?_) (fun c19 h => ?_)
    · refine z_ldcS_law rfl e_X1_readFactor_66 ?_
      refine z_iload e_X1_readFactor_68 0 rfl ?_
      refine z_i2c e_X1_readFactor_69 ?_
      obtain ⟨q21, s20, e22, h⟩ := bd_e h
      refine z_callVsi (i := 0) (As := [.int (q2.toUInt32 % 65536).toInt32]) (rest := []) lk_X1_110 rfl (by decide) e_X1_readFactor_70 (m_J0_indexOf_0f7a4_1002 G ((q2.toUInt32 % 65536).toInt32) s1 _ _ e22) (by omega) rfl (Nat.le_of_ble_eq_true rfl) ?_
      exact z_sub [1, 0] rfl (p_X1_readFactor_73 hR n rc q2 q21 hrc s20 h)
    · refine z_ic e_X1_readFactor_62 ?_
      refine z_goto e_X1_readFactor_63 ?_
      exact z_sub [1, 0] rfl (p_X1_readFactor_73 hR n rc q2 (-1 : Int32) hrc s1 h)
noncomputable def O_X1_readFactor (rc : (Int32 → zSt → Option (Int32 × zSt)) × (Int32 → zSt → Option (Int32 × zSt))) (x1 : Int32) (σ : zSt) : Option (Int32 × zSt) := F_X1_readFactor_0 rc x1 σ
set_option maxRecDepth 100000 in
theorem o_X1_readFactor (G : zG) (n : Nat) (rc : (Int32 → zSt → Option (Int32 × zSt)) × (Int32 → zSt → Option (Int32 × zSt))) (hrc : (∀ (a0 : Int32) (σ : zSt) (q : Int32) (τ : zSt), rc.1 a0 σ = some (q, τ) → zM G (5 + n) yX1_readFactor cX1_readFactor 6 (some .boolean) [.ref (zad G 35), .int a0] σ (some (.int q)) τ) ∧ (∀ (a0 : Int32) (σ : zSt) (q : Int32) (τ : zSt), rc.2 a0 σ = some (q, τ) → zM G (5 + n) yX1_readSum cX1_readSum 6 (some .boolean) [.ref (zad G 35), .int a0] σ (some (.int q)) τ)) (x1 : Int32) (σ : zSt) (q : Int32) (τ : zSt) (h : O_X1_readFactor rc x1 σ = some (q, τ)) : zM G (5 + (n + 1)) yX1_readFactor cX1_readFactor 6 (some .boolean) [.ref (zad G 35), .int x1] σ (some (.int q)) τ := by
  unfold O_X1_readFactor at h
  refine zM.of (own := RX1) (by decide +kernel) rfl (Nat.le_of_ble_eq_true rfl) (fun C hR => ?_)
  exact z_sub [0, 1] rfl (p_X1_readFactor_0 hR n rc x1 hrc σ h)
noncomputable def F_X1_readSum_107 (rc : (Int32 → zSt → Option (Int32 × zSt)) × (Int32 → zSt → Option (Int32 × zSt))) (w7 : (Int32 × Int32 × Int32 × zSt) → Option (Int32 × zSt)) (x1 : Int32) (x2 : Int32) (x3 : Int32) (x4 : Int32) (σ : zSt) : Option (Int32 × zSt) :=
  nm (zwr σ 35 11 ((σ.1 35 11) + (1 : Int32))) (fun s14 =>
    nm (x4 + (1 : Int32)) (fun v15 =>
      w7 (x2, x3, v15, s14)))
set_option maxHeartbeats 4000000 in
set_option maxRecDepth 100000 in
theorem p_X1_readSum_107 {G : zG} {C : zC} {r : Int32} {τ : zSt} (hR : zR G C (some .boolean) (some (.int r)) τ) (n : Nat) (rc : (Int32 → zSt → Option (Int32 × zSt)) × (Int32 → zSt → Option (Int32 × zSt))) (w7 : (Int32 × Int32 × Int32 × zSt) → Option (Int32 × zSt)) (x1 : Int32) (x2 : Int32) (x3 : Int32) (x4 : Int32) (hw7 : ∀ (x2 : Int32) (x3 : Int32) (x4 : Int32) (σ : zSt), w7 (x2, x3, x4, σ) = some (r, τ) → zAW G (5 + (n + 1)) RX1 cX1_readSum 6 C 7 [(0, .ref (zad G 35)), (1, .int x1), (2, .int x2), (3, .int x3), (4, .int x4)] [] σ) (hrc : (∀ (a0 : Int32) (σ : zSt) (q : Int32) (τ : zSt), rc.1 a0 σ = some (q, τ) → zM G (5 + n) yX1_readFactor cX1_readFactor 6 (some .boolean) [.ref (zad G 35), .int a0] σ (some (.int q)) τ) ∧ (∀ (a0 : Int32) (σ : zSt) (q : Int32) (τ : zSt), rc.2 a0 σ = some (q, τ) → zM G (5 + n) yX1_readSum cX1_readSum 6 (some .boolean) [.ref (zad G 35), .int a0] σ (some (.int q)) τ)) (σ : zSt) (h : F_X1_readSum_107 rc w7 x1 x2 x3 x4 σ = some (r, τ)) : zAW G (5 + (n + 1)) RX1 cX1_readSum 6 C 107 [(0, .ref (zad G 35)), (1, .int x1), (2, .int x2), (3, .int x3), (4, .int x4)] [] σ := by
  unfold F_X1_readSum_107 at h
  refine z_aload e_X1_readSum_107 0 rfl ?_
  refine z_dup e_X1_readSum_108 rfl ?_
  refine z_geti gf_X1_66_35 e_X1_readSum_109 ?_
  refine z_ic e_X1_readSum_112 ?_
  refine z_iadd e_X1_readSum_113 ?_
  refine z_puti pf_X1_66_35 e_X1_readSum_114 h (fun s14 h => ?_)
  refine z_iinc e_X1_readSum_117 4 rfl (by decide) (by decide) h (fun y => [(4, .int y), (0, .ref (zad G 35)), (1, .int x1), (2, .int x2), (3, .int x3)]) (fun _ => rfl) (fun v15 h => ?_)
  refine z_goto e_X1_readSum_120 ?_
  exact z_sub [1, 2, 3, 4, 0] rfl (hw7 x2 x3 v15 s14 h)
noncomputable def F_X1_readSum_104 (rc : (Int32 → zSt → Option (Int32 × zSt)) × (Int32 → zSt → Option (Int32 × zSt))) (w7 : (Int32 × Int32 × Int32 × zSt) → Option (Int32 × zSt)) (x1 : Int32) (x2 : Int32) (x4 : Int32) (x5 : Int32) (σ : zSt) : Option (Int32 × zSt) :=
  F_X1_readSum_107 rc w7 x1 x2 x5 x4 σ
set_option maxHeartbeats 4000000 in
set_option maxRecDepth 100000 in
theorem p_X1_readSum_104 {G : zG} {C : zC} {r : Int32} {τ : zSt} (hR : zR G C (some .boolean) (some (.int r)) τ) (n : Nat) (rc : (Int32 → zSt → Option (Int32 × zSt)) × (Int32 → zSt → Option (Int32 × zSt))) (w7 : (Int32 × Int32 × Int32 × zSt) → Option (Int32 × zSt)) (x1 : Int32) (x2 : Int32) (x4 : Int32) (x5 : Int32) (hw7 : ∀ (x2 : Int32) (x3 : Int32) (x4 : Int32) (σ : zSt), w7 (x2, x3, x4, σ) = some (r, τ) → zAW G (5 + (n + 1)) RX1 cX1_readSum 6 C 7 [(0, .ref (zad G 35)), (1, .int x1), (2, .int x2), (3, .int x3), (4, .int x4)] [] σ) (hrc : (∀ (a0 : Int32) (σ : zSt) (q : Int32) (τ : zSt), rc.1 a0 σ = some (q, τ) → zM G (5 + n) yX1_readFactor cX1_readFactor 6 (some .boolean) [.ref (zad G 35), .int a0] σ (some (.int q)) τ) ∧ (∀ (a0 : Int32) (σ : zSt) (q : Int32) (τ : zSt), rc.2 a0 σ = some (q, τ) → zM G (5 + n) yX1_readSum cX1_readSum 6 (some .boolean) [.ref (zad G 35), .int a0] σ (some (.int q)) τ)) (σ : zSt) (h : F_X1_readSum_104 rc w7 x1 x2 x4 x5 σ = some (r, τ)) : zAW G (5 + (n + 1)) RX1 cX1_readSum 6 C 104 [(0, .ref (zad G 35)), (1, .int x1), (2, .int x2), (4, .int x4), (5, .int x5)] [] σ := by
  unfold F_X1_readSum_104 at h
  refine z_iload e_X1_readSum_104 4 rfl ?_
  refine z_istore e_X1_readSum_106 (by decide) [(3, .int x5), (0, .ref (zad G 35)), (1, .int x1), (2, .int x2), (4, .int x4), (5, .int x5)] rfl ?_
  exact z_sub [1, 2, 3, 0, 4] rfl (p_X1_readSum_107 hR n rc w7 x1 x2 x5 x4 hw7 hrc σ h)
noncomputable def F_X1_readSum_88 (rc : (Int32 → zSt → Option (Int32 × zSt)) × (Int32 → zSt → Option (Int32 × zSt))) (w7 : (Int32 × Int32 × Int32 × zSt) → Option (Int32 × zSt)) (x1 : Int32) (x2 : Int32) (x4 : Int32) (x5 : Int32) (σ : zSt) : Option (Int32 × zSt) :=
  if x5 = (43 : Int32) then (
    F_X1_readSum_104 rc w7 x1 x2 x4 x5 σ)
  else (
    if x5 = (45 : Int32) then (
      F_X1_readSum_104 rc w7 x1 x2 x4 x5 σ)
    else (
      some ((1 : Int32), σ)))
set_option maxHeartbeats 4000000 in
set_option maxRecDepth 100000 in
theorem p_X1_readSum_88 {G : zG} {C : zC} {r : Int32} {τ : zSt} (hR : zR G C (some .boolean) (some (.int r)) τ) (n : Nat) (rc : (Int32 → zSt → Option (Int32 × zSt)) × (Int32 → zSt → Option (Int32 × zSt))) (w7 : (Int32 × Int32 × Int32 × zSt) → Option (Int32 × zSt)) (x1 : Int32) (x2 : Int32) (x4 : Int32) (x5 : Int32) (hw7 : ∀ (x2 : Int32) (x3 : Int32) (x4 : Int32) (σ : zSt), w7 (x2, x3, x4, σ) = some (r, τ) → zAW G (5 + (n + 1)) RX1 cX1_readSum 6 C 7 [(0, .ref (zad G 35)), (1, .int x1), (2, .int x2), (3, .int x3), (4, .int x4)] [] σ) (hrc : (∀ (a0 : Int32) (σ : zSt) (q : Int32) (τ : zSt), rc.1 a0 σ = some (q, τ) → zM G (5 + n) yX1_readFactor cX1_readFactor 6 (some .boolean) [.ref (zad G 35), .int a0] σ (some (.int q)) τ) ∧ (∀ (a0 : Int32) (σ : zSt) (q : Int32) (τ : zSt), rc.2 a0 σ = some (q, τ) → zM G (5 + n) yX1_readSum cX1_readSum 6 (some .boolean) [.ref (zad G 35), .int a0] σ (some (.int q)) τ)) (σ : zSt) (h : F_X1_readSum_88 rc w7 x1 x2 x4 x5 σ = some (r, τ)) : zAW G (5 + (n + 1)) RX1 cX1_readSum 6 C 88 [(0, .ref (zad G 35)), (1, .int x1), (2, .int x2), (4, .int x4), (5, .int x5)] [] σ := by
  unfold F_X1_readSum_88 at h
  refine z_iload e_X1_readSum_88 4 rfl ?_
  refine z_ic e_X1_readSum_90 ?_
  refine z_icmp_eq e_X1_readSum_92 h (fun c13 h => ?_) (fun c13 h => ?_)
  · exact z_sub [0, 1, 2, 3, 4] rfl (p_X1_readSum_104 hR n rc w7 x1 x2 x4 x5 hw7 hrc σ h)
  · refine z_iload e_X1_readSum_95 4 rfl ?_
    refine z_ic e_X1_readSum_97 ?_
    refine z_icmp_eq e_X1_readSum_99 h (fun c16 h => ?_) (fun c16 h => ?_)
    · exact z_sub [0, 1, 2, 3, 4] rfl (p_X1_readSum_104 hR n rc w7 x1 x2 x4 x5 hw7 hrc σ h)
    · refine z_ic e_X1_readSum_102 ?_
      cases h
      exact z_zreturn hR e_X1_readSum_103 (Or.inr rfl)
noncomputable def F_X1_readSum_37 (rc : (Int32 → zSt → Option (Int32 × zSt)) × (Int32 → zSt → Option (Int32 × zSt))) (w7 : (Int32 × Int32 × Int32 × zSt) → Option (Int32 × zSt)) (x1 : Int32) (x3 : Int32) (x4 : Int32) (σ : zSt) : Option (Int32 × zSt) :=
  bd (F_X1_here σ) (fun q8 s7 =>
    nm (if q8 = (42 : Int32) then q8 else (if q8 = (47 : Int32) then q8 else (if q8 = (37 : Int32) then q8 else (-1 : Int32)))) (fun v10 =>
      if v10 = (-1 : Int32) then (
        if x3 = (-1 : Int32) then (
          F_X1_readSum_88 rc w7 x1 v10 x4 q8 s7)
        else (
          bd (F_X1_put x3 (0 : Int32) s7) (fun q18 s17 =>
            F_X1_readSum_88 rc w7 x1 v10 x4 q8 s17)))
      else (
        F_X1_readSum_107 rc w7 x1 v10 x3 x4 s7)))
set_option maxHeartbeats 4000000 in
set_option maxRecDepth 100000 in
theorem p_X1_readSum_37 {G : zG} {C : zC} {r : Int32} {τ : zSt} (hR : zR G C (some .boolean) (some (.int r)) τ) (n : Nat) (rc : (Int32 → zSt → Option (Int32 × zSt)) × (Int32 → zSt → Option (Int32 × zSt))) (w7 : (Int32 × Int32 × Int32 × zSt) → Option (Int32 × zSt)) (x1 : Int32) (x3 : Int32) (x4 : Int32) (hw7 : ∀ (x2 : Int32) (x3 : Int32) (x4 : Int32) (σ : zSt), w7 (x2, x3, x4, σ) = some (r, τ) → zAW G (5 + (n + 1)) RX1 cX1_readSum 6 C 7 [(0, .ref (zad G 35)), (1, .int x1), (2, .int x2), (3, .int x3), (4, .int x4)] [] σ) (hrc : (∀ (a0 : Int32) (σ : zSt) (q : Int32) (τ : zSt), rc.1 a0 σ = some (q, τ) → zM G (5 + n) yX1_readFactor cX1_readFactor 6 (some .boolean) [.ref (zad G 35), .int a0] σ (some (.int q)) τ) ∧ (∀ (a0 : Int32) (σ : zSt) (q : Int32) (τ : zSt), rc.2 a0 σ = some (q, τ) → zM G (5 + n) yX1_readSum cX1_readSum 6 (some .boolean) [.ref (zad G 35), .int a0] σ (some (.int q)) τ)) (σ : zSt) (h : F_X1_readSum_37 rc w7 x1 x3 x4 σ = some (r, τ)) : zAW G (5 + (n + 1)) RX1 cX1_readSum 6 C 37 [(0, .ref (zad G 35)), (1, .int x1), (3, .int x3), (4, .int x4)] [] σ := by
  unfold F_X1_readSum_37 at h
  refine z_aload e_X1_readSum_37 0 rfl ?_
  obtain ⟨q8, s7, e9, h⟩ := bd_e h
  refine z_callVi (c0 := 35) (As := []) (rest := []) lk_X1_82 ob_35 e_X1_readSum_38 (m_X1_here G σ _ _ e9) (by omega) rfl (Nat.le_of_ble_eq_true rfl) ?_
  refine z_istore e_X1_readSum_41 (by decide) [(5, .int q8), (0, .ref (zad G 35)), (1, .int x1), (3, .int x3), (4, .int x4)] rfl ?_
  refine z_iload e_X1_readSum_43 0 rfl ?_
  refine z_ic e_X1_readSum_45 ?_
  obtain ⟨v10, ev10, h⟩ := nm_i h
  have jv10 : zAW G (5 + (n + 1)) RX1 cX1_readSum 6 C 70 [(0, .ref (zad G 35)), (1, .int x1), (3, .int x3), (4, .int x4), (5, .int q8)] [.int v10] s7 := by
    refine z_istore e_X1_readSum_70 (by decide) [(2, .int v10), (0, .ref (zad G 35)), (1, .int x1), (3, .int x3), (4, .int x4), (5, .int q8)] rfl ?_
    refine z_iload e_X1_readSum_71 0 rfl ?_
    refine z_ic e_X1_readSum_72 ?_
    refine z_icmp_ne e_X1_readSum_73 h (fun c11 h => ?_) (fun c11 h => ?_)
    · refine z_iload e_X1_readSum_76 3 rfl ?_
      refine z_ic e_X1_readSum_77 ?_
      refine z_icmp_eq e_X1_readSum_78 h (fun c12 h => ?_) (fun c12 h => ?_)
      · exact z_sub [1, 2, 0, 4, 5] rfl (p_X1_readSum_88 hR n rc w7 x1 v10 x4 q8 hw7 hrc s7 h)
      · refine z_aload e_X1_readSum_81 1 rfl ?_
        refine z_iload e_X1_readSum_82 3 rfl ?_
        refine z_ic e_X1_readSum_83 ?_
        obtain ⟨q18, s17, e19, h⟩ := bd_e h
        refine z_callVi (c0 := 35) (As := [.int x3, .int (0 : Int32)]) (rest := []) lk_X1_98 ob_35 e_X1_readSum_84 (m_X1_put G x3 (0 : Int32) s7 _ _ e19) (by omega) rfl (Nat.le_of_ble_eq_true rfl) ?_
        refine z_pop e_X1_readSum_87 rfl ?_
        exact z_sub [1, 2, 0, 4, 5] rfl (p_X1_readSum_88 hR n rc w7 x1 v10 x4 q8 hw7 hrc s17 h)
    · exact z_sub [1, 2, 0, 3, 4] rfl (p_X1_readSum_107 hR n rc w7 x1 v10 x3 x4 hw7 hrc s7 h)
  refine y_icmp_eq e_X1_readSum_47 (fun c20 => ?_) (fun c20 => ?_)
  · refine z_iload e_X1_readSum_64 0 rfl ?_
    refine z_goto e_X1_readSum_66 ?_
    rw [if_pos c20] at ev10
    subst ev10
    exact z_sub [1, 2, 3, 4, 0] rfl jv10
  · refine z_iload e_X1_readSum_50 0 rfl ?_
    refine z_ic e_X1_readSum_52 ?_
    refine y_icmp_eq e_X1_readSum_54 (fun c21 => ?_) (fun c21 => ?_)
    · refine z_iload e_X1_readSum_64 0 rfl ?_
      refine z_goto e_X1_readSum_66 ?_
      rw [if_neg c20, if_pos c21] at ev10
      subst ev10
      exact z_sub [1, 2, 3, 4, 0] rfl jv10
    · refine z_iload e_X1_readSum_57 0 rfl ?_
      refine z_ic e_X1_readSum_59 ?_
      refine y_icmp_ne e_X1_readSum_61 (fun c22 => ?_) (fun c22 => ?_)
      · refine z_iload e_X1_readSum_64 0 rfl ?_
        refine z_goto e_X1_readSum_66 ?_
        rw [if_neg c20, if_neg c21, if_pos c22] at ev10
        subst ev10
        exact z_sub [1, 2, 3, 4, 0] rfl jv10
      · refine z_ic e_X1_readSum_69 ?_
        rw [if_neg c20, if_neg c21, if_neg c22] at ev10
        subst ev10
        exact z_sub [1, 2, 3, 4, 0] rfl jv10
noncomputable def F_X1_readSum_7 (rc : (Int32 → zSt → Option (Int32 × zSt)) × (Int32 → zSt → Option (Int32 × zSt))) (x1 : Int32) (w7 : (Int32 × Int32 × Int32 × zSt) → Option (Int32 × zSt)) (x2 : Int32) (x3 : Int32) (x4 : Int32) (σ : zSt) : Option (Int32 × zSt) :=
  if (240 : Int32) ≤ x4 then (
    some ((1 : Int32), σ))
  else (
    bd (rc.1 x1 σ) (fun q3 s2 =>
      if q3 = 0 then (
        some ((0 : Int32), s2))
      else (
        if x2 = (-1 : Int32) then (
          F_X1_readSum_37 rc w7 x1 x3 x4 s2)
        else (
          bd (F_X1_put x2 (0 : Int32) s2) (fun q24 s23 =>
            F_X1_readSum_37 rc w7 x1 x3 x4 s23)))))
set_option maxHeartbeats 4000000 in
set_option maxRecDepth 100000 in
theorem b_X1_readSum_7 {G : zG} {C : zC} {r : Int32} {τ : zSt} (hR : zR G C (some .boolean) (some (.int r)) τ) (n : Nat) (rc : (Int32 → zSt → Option (Int32 × zSt)) × (Int32 → zSt → Option (Int32 × zSt))) (x1 : Int32) (w7 : (Int32 × Int32 × Int32 × zSt) → Option (Int32 × zSt)) (hw7 : ∀ (x2 : Int32) (x3 : Int32) (x4 : Int32) (σ : zSt), w7 (x2, x3, x4, σ) = some (r, τ) → zAW G (5 + (n + 1)) RX1 cX1_readSum 6 C 7 [(0, .ref (zad G 35)), (1, .int x1), (2, .int x2), (3, .int x3), (4, .int x4)] [] σ) (hrc : (∀ (a0 : Int32) (σ : zSt) (q : Int32) (τ : zSt), rc.1 a0 σ = some (q, τ) → zM G (5 + n) yX1_readFactor cX1_readFactor 6 (some .boolean) [.ref (zad G 35), .int a0] σ (some (.int q)) τ) ∧ (∀ (a0 : Int32) (σ : zSt) (q : Int32) (τ : zSt), rc.2 a0 σ = some (q, τ) → zM G (5 + n) yX1_readSum cX1_readSum 6 (some .boolean) [.ref (zad G 35), .int a0] σ (some (.int q)) τ)) (x2 : Int32) (x3 : Int32) (x4 : Int32) (σ : zSt) (h : F_X1_readSum_7 rc x1 w7 x2 x3 x4 σ = some (r, τ)) : zAW G (5 + (n + 1)) RX1 cX1_readSum 6 C 7 [(0, .ref (zad G 35)), (1, .int x1), (2, .int x2), (3, .int x3), (4, .int x4)] [] σ := by
  unfold F_X1_readSum_7 at h
  refine z_iload e_X1_readSum_7 4 rfl ?_
  refine z_ic e_X1_readSum_9 ?_
  refine z_icmp_ge e_X1_readSum_12 h (fun c1 h => ?_) (fun c1 h => ?_)
  · refine z_ic e_X1_readSum_123 ?_
    cases h
    exact z_zreturn hR e_X1_readSum_124 (Or.inr rfl)
  · refine z_aload e_X1_readSum_15 0 rfl ?_
    refine z_iload e_X1_readSum_16 1 rfl ?_
    obtain ⟨q3, s2, e4, h⟩ := bd_e h
    refine z_callVi (c0 := 35) (As := [.int x1]) (rest := []) lk_X1_105 ob_35 e_X1_readSum_17 (hrc.1 x1 σ _ _ e4) (by omega) rfl (Nat.le_of_ble_eq_true rfl) ?_
    refine z_if_ne e_X1_readSum_20 h (fun c5 h => ?_) (fun c5 h => ?_)
    · refine z_ic e_X1_readSum_23 ?_
      cases h
      exact z_zreturn hR e_X1_readSum_24 (Or.inl rfl)
    · refine z_iload e_X1_readSum_25 2 rfl ?_
      refine z_ic e_X1_readSum_26 ?_
      refine z_icmp_eq e_X1_readSum_27 h (fun c6 h => ?_) (fun c6 h => ?_)
      · exact z_sub [0, 1, 3, 4] rfl (p_X1_readSum_37 hR n rc w7 x1 x3 x4 hw7 hrc s2 h)
      · refine z_aload e_X1_readSum_30 0 rfl ?_
        refine z_iload e_X1_readSum_31 2 rfl ?_
        refine z_ic e_X1_readSum_32 ?_
        obtain ⟨q24, s23, e25, h⟩ := bd_e h
        refine z_callVi (c0 := 35) (As := [.int x2, .int (0 : Int32)]) (rest := []) lk_X1_98 ob_35 e_X1_readSum_33 (m_X1_put G x2 (0 : Int32) s2 _ _ e25) (by omega) rfl (Nat.le_of_ble_eq_true rfl) ?_
        refine z_pop e_X1_readSum_36 rfl ?_
        exact z_sub [0, 1, 3, 4] rfl (p_X1_readSum_37 hR n rc w7 x1 x3 x4 hw7 hrc s23 h)
noncomputable def F_X1_readSum_7L (rc : (Int32 → zSt → Option (Int32 × zSt)) × (Int32 → zSt → Option (Int32 × zSt))) (x1 : Int32) : ((Int32 × Int32 × Int32 × zSt) → Option (Int32 × zSt)) → (Int32 × Int32 × Int32 × zSt) → Option (Int32 × zSt) := fun w s => F_X1_readSum_7 rc x1 w s.1 s.2.1 s.2.2.1 s.2.2.2
set_option maxRecDepth 100000 in
theorem l_X1_readSum_7 {G : zG} {C : zC} {r : Int32} {τ : zSt} (hR : zR G C (some .boolean) (some (.int r)) τ) (n : Nat) (rc : (Int32 → zSt → Option (Int32 × zSt)) × (Int32 → zSt → Option (Int32 × zSt))) (x1 : Int32) (hrc : (∀ (a0 : Int32) (σ : zSt) (q : Int32) (τ : zSt), rc.1 a0 σ = some (q, τ) → zM G (5 + n) yX1_readFactor cX1_readFactor 6 (some .boolean) [.ref (zad G 35), .int a0] σ (some (.int q)) τ) ∧ (∀ (a0 : Int32) (σ : zSt) (q : Int32) (τ : zSt), rc.2 a0 σ = some (q, τ) → zM G (5 + n) yX1_readSum cX1_readSum 6 (some .boolean) [.ref (zad G 35), .int a0] σ (some (.int q)) τ)) : ∀ (N : Nat) (x2 : Int32) (x3 : Int32) (x4 : Int32) (σ : zSt), zfix (F_X1_readSum_7L rc x1) N (x2, x3, x4, σ) = some (r, τ) → zAW G (5 + (n + 1)) RX1 cX1_readSum 6 C 7 [(0, .ref (zad G 35)), (1, .int x1), (2, .int x2), (3, .int x3), (4, .int x4)] [] σ := by
  intro N
  induction N with
  | zero =>
    intro x2 x3 x4 σ h
    exact nomatch (show (none : Option (Int32 × zSt)) = some (r, τ) from h)
  | succ N ih =>
    intro x2 x3 x4 σ h
    exact b_X1_readSum_7 hR n rc x1 (zfix (F_X1_readSum_7L rc x1) N) ih hrc x2 x3 x4 σ h
noncomputable def F_X1_readSum_0 (rc : (Int32 → zSt → Option (Int32 × zSt)) × (Int32 → zSt → Option (Int32 × zSt))) (x1 : Int32) (σ : zSt) : Option (Int32 × zSt) :=
  zfix (F_X1_readSum_7L rc x1) zlim ((-1 : Int32), (-1 : Int32), (0 : Int32), σ)
set_option maxHeartbeats 4000000 in
set_option maxRecDepth 100000 in
theorem p_X1_readSum_0 {G : zG} {C : zC} {r : Int32} {τ : zSt} (hR : zR G C (some .boolean) (some (.int r)) τ) (n : Nat) (rc : (Int32 → zSt → Option (Int32 × zSt)) × (Int32 → zSt → Option (Int32 × zSt))) (x1 : Int32) (hrc : (∀ (a0 : Int32) (σ : zSt) (q : Int32) (τ : zSt), rc.1 a0 σ = some (q, τ) → zM G (5 + n) yX1_readFactor cX1_readFactor 6 (some .boolean) [.ref (zad G 35), .int a0] σ (some (.int q)) τ) ∧ (∀ (a0 : Int32) (σ : zSt) (q : Int32) (τ : zSt), rc.2 a0 σ = some (q, τ) → zM G (5 + n) yX1_readSum cX1_readSum 6 (some .boolean) [.ref (zad G 35), .int a0] σ (some (.int q)) τ)) (σ : zSt) (h : F_X1_readSum_0 rc x1 σ = some (r, τ)) : zAW G (5 + (n + 1)) RX1 cX1_readSum 6 C 0 [(0, .ref (zad G 35)), (1, .int x1)] [] σ := by
  unfold F_X1_readSum_0 at h
  refine z_ic e_X1_readSum_0 ?_
  refine z_istore e_X1_readSum_1 (by decide) [(2, .int (-1 : Int32)), (0, .ref (zad G 35)), (1, .int x1)] rfl ?_
  refine z_ic e_X1_readSum_2 ?_
  refine z_istore e_X1_readSum_3 (by decide) [(3, .int (-1 : Int32)), (2, .int (-1 : Int32)), (0, .ref (zad G 35)), (1, .int x1)] rfl ?_
  refine z_ic e_X1_readSum_4 ?_
  refine z_istore e_X1_readSum_5 (by decide) [(4, .int (0 : Int32)), (3, .int (-1 : Int32)), (2, .int (-1 : Int32)), (0, .ref (zad G 35)), (1, .int x1)] rfl ?_
  exact z_sub [3, 4, 2, 1, 0] rfl (l_X1_readSum_7 hR n rc x1 hrc zlim (-1 : Int32) (-1 : Int32) (0 : Int32) σ h)
noncomputable def O_X1_readSum (rc : (Int32 → zSt → Option (Int32 × zSt)) × (Int32 → zSt → Option (Int32 × zSt))) (x1 : Int32) (σ : zSt) : Option (Int32 × zSt) := F_X1_readSum_0 rc x1 σ
set_option maxRecDepth 100000 in
theorem o_X1_readSum (G : zG) (n : Nat) (rc : (Int32 → zSt → Option (Int32 × zSt)) × (Int32 → zSt → Option (Int32 × zSt))) (hrc : (∀ (a0 : Int32) (σ : zSt) (q : Int32) (τ : zSt), rc.1 a0 σ = some (q, τ) → zM G (5 + n) yX1_readFactor cX1_readFactor 6 (some .boolean) [.ref (zad G 35), .int a0] σ (some (.int q)) τ) ∧ (∀ (a0 : Int32) (σ : zSt) (q : Int32) (τ : zSt), rc.2 a0 σ = some (q, τ) → zM G (5 + n) yX1_readSum cX1_readSum 6 (some .boolean) [.ref (zad G 35), .int a0] σ (some (.int q)) τ)) (x1 : Int32) (σ : zSt) (q : Int32) (τ : zSt) (h : O_X1_readSum rc x1 σ = some (q, τ)) : zM G (5 + (n + 1)) yX1_readSum cX1_readSum 6 (some .boolean) [.ref (zad G 35), .int x1] σ (some (.int q)) τ := by
  unfold O_X1_readSum at h
  refine zM.of (own := RX1) (by decide +kernel) rfl (Nat.le_of_ble_eq_true rfl) (fun C hR => ?_)
  exact z_sub [0, 1] rfl (p_X1_readSum_0 hR n rc x1 hrc σ h)
noncomputable def R_X1_readFactor_X1_readSum : Nat → (Int32 → zSt → Option (Int32 × zSt)) × (Int32 → zSt → Option (Int32 × zSt))
  | 0 => ((fun _ _ => none), (fun _ _ => none))
  | n + 1 => (O_X1_readFactor (R_X1_readFactor_X1_readSum n), O_X1_readSum (R_X1_readFactor_X1_readSum n))
set_option maxRecDepth 100000 in
theorem r_X1_readFactor_X1_readSum (G : zG) : ∀ N : Nat, (∀ (a0 : Int32) (σ : zSt) (q : Int32) (τ : zSt), (R_X1_readFactor_X1_readSum N).1 a0 σ = some (q, τ) → zM G (5 + N) yX1_readFactor cX1_readFactor 6 (some .boolean) [.ref (zad G 35), .int a0] σ (some (.int q)) τ) ∧ (∀ (a0 : Int32) (σ : zSt) (q : Int32) (τ : zSt), (R_X1_readFactor_X1_readSum N).2 a0 σ = some (q, τ) → zM G (5 + N) yX1_readSum cX1_readSum 6 (some .boolean) [.ref (zad G 35), .int a0] σ (some (.int q)) τ) := by
  intro N
  induction N with
  | zero => exact ⟨(fun _ _ _ _ h => nomatch (show none = some _ from h)), (fun _ _ _ _ h => nomatch (show none = some _ from h))⟩
  | succ N ih => exact ⟨(fun b0 b1 b2 b3 h => o_X1_readFactor G N _ ih b0 b1 b2 b3 h), (fun b0 b1 b2 b3 h => o_X1_readSum G N _ ih b0 b1 b2 b3 h)⟩
noncomputable def F_X1_readFactor (x1 : Int32) (σ : zSt) : Option (Int32 × zSt) := (R_X1_readFactor_X1_readSum 100).1 x1 σ
theorem m_X1_readFactor (G : zG) (x1 : Int32) (σ : zSt) (q : Int32) (τ : zSt) (h : F_X1_readFactor x1 σ = some (q, τ)) : zM G 105 yX1_readFactor cX1_readFactor 6 (some .boolean) [.ref (zad G 35), .int x1] σ (some (.int q)) τ := (r_X1_readFactor_X1_readSum G 100).1 x1 σ q τ h
noncomputable def F_X1_readSum (x1 : Int32) (σ : zSt) : Option (Int32 × zSt) := (R_X1_readFactor_X1_readSum 100).2 x1 σ
theorem m_X1_readSum (G : zG) (x1 : Int32) (σ : zSt) (q : Int32) (τ : zSt) (h : F_X1_readSum x1 σ = some (q, τ)) : zM G 105 yX1_readSum cX1_readSum 6 (some .boolean) [.ref (zad G 35), .int x1] σ (some (.int q)) τ := (r_X1_readFactor_X1_readSum G 100).2 x1 σ q τ h
noncomputable def F_X1_leadHere_4 (w4 : (Int32 × Int32 × zSt) → Option (Unit × zSt)) (x2 : Int32) (x3 : Int32) (σ : zSt) : Option (Unit × zSt) :=
  if (240 : Int32) ≤ x3 then (
    some ((), σ))
  else (
    if x2 < 0 then (
      some ((), σ))
    else (
      if (240 : Int32) ≤ x2 then (
        some ((), σ))
      else (
        gd (vp_in x2 240) (
          nm (σ.1 37 x2.toNatClampNeg) (fun v4 =>
            gd (vp_in x2 240) (nm (zwr σ 37 x2.toNatClampNeg (σ.1 35 2)) (fun s5 =>
              nm (x3 + (1 : Int32)) (fun v6 =>
                w4 (v4, v6, s5)))))))))
set_option maxHeartbeats 4000000 in
set_option maxRecDepth 100000 in
theorem b_X1_leadHere_4 {G : zG} {C : zC} {r : Unit} {τ : zSt} (hR : zR G C none none τ) (w4 : (Int32 × Int32 × zSt) → Option (Unit × zSt)) (hw4 : ∀ (x2 : Int32) (x3 : Int32) (σ : zSt), w4 (x2, x3, σ) = some (r, τ) → zAW G 1 RX1 cX1_leadHere 5 C 4 [(0, .ref (zad G 35)), (2, .int x2), (3, .int x3)] [] σ) (x2 : Int32) (x3 : Int32) (σ : zSt) (h : F_X1_leadHere_4 w4 x2 x3 σ = some (r, τ)) : zAW G 1 RX1 cX1_leadHere 5 C 4 [(0, .ref (zad G 35)), (2, .int x2), (3, .int x3)] [] σ := by
  unfold F_X1_leadHere_4 at h
  refine z_iload e_X1_leadHere_4 2 rfl ?_
  refine z_ic e_X1_leadHere_5 ?_
  refine z_icmp_ge e_X1_leadHere_8 h (fun c1 h => ?_) (fun c1 h => ?_)
  · cases h
    exact z_vreturn hR e_X1_leadHere_49
  · refine z_iload e_X1_leadHere_11 1 rfl ?_
    refine z_if_lt e_X1_leadHere_12 h (fun c2 h => ?_) (fun c2 h => ?_)
    · cases h
      exact z_vreturn hR e_X1_leadHere_49
    · refine z_iload e_X1_leadHere_15 1 rfl ?_
      refine z_ic e_X1_leadHere_16 ?_
      refine z_icmp_ge e_X1_leadHere_19 h (fun c3 h => ?_) (fun c3 h => ?_)
      · cases h
        exact z_vreturn hR e_X1_leadHere_49
      · refine z_aload e_X1_leadHere_22 0 rfl ?_
        refine z_getr gf_X1_15_35 e_X1_leadHere_23 ?_
        refine z_iload e_X1_leadHere_26 1 rfl ?_
        refine z_iald sh_37 e_X1_leadHere_27 h (fun h => ?_)
        refine z_nmI h (fun v4 h => ?_)
        refine z_istore e_X1_leadHere_28 (by decide) [(4, .int v4), (0, .ref (zad G 35)), (2, .int x2), (3, .int x3)] rfl ?_
        refine z_aload e_X1_leadHere_30 1 rfl ?_
        refine z_getr gf_X1_15_35 e_X1_leadHere_31 ?_
        refine z_iload e_X1_leadHere_34 2 rfl ?_
        refine z_aload e_X1_leadHere_35 1 rfl ?_
        refine z_geti gf_X1_68_35 e_X1_leadHere_36 ?_
        refine z_iast sh_37 e_X1_leadHere_39 h (fun s5 h => ?_)
        refine z_iload e_X1_leadHere_40 0 rfl ?_
        refine z_istore e_X1_leadHere_42 (by decide) [(2, .int v4), (4, .int v4), (0, .ref (zad G 35)), (3, .int x3)] rfl ?_
        refine z_iinc e_X1_leadHere_43 3 rfl (by decide) (by decide) h (fun y => [(3, .int y), (2, .int v4), (4, .int v4), (0, .ref (zad G 35))]) (fun _ => rfl) (fun v6 h => ?_)
        refine z_goto e_X1_leadHere_46 ?_
        exact z_sub [3, 1, 0] rfl (hw4 v4 v6 s5 h)
noncomputable def F_X1_leadHere_4L  : ((Int32 × Int32 × zSt) → Option (Unit × zSt)) → (Int32 × Int32 × zSt) → Option (Unit × zSt) := fun w s => F_X1_leadHere_4 w s.1 s.2.1 s.2.2
set_option maxRecDepth 100000 in
theorem l_X1_leadHere_4 {G : zG} {C : zC} {r : Unit} {τ : zSt} (hR : zR G C none none τ)  : ∀ (N : Nat) (x2 : Int32) (x3 : Int32) (σ : zSt), zfix (F_X1_leadHere_4L ) N (x2, x3, σ) = some (r, τ) → zAW G 1 RX1 cX1_leadHere 5 C 4 [(0, .ref (zad G 35)), (2, .int x2), (3, .int x3)] [] σ := by
  intro N
  induction N with
  | zero =>
    intro x2 x3 σ h
    exact nomatch (show (none : Option (Unit × zSt)) = some (r, τ) from h)
  | succ N ih =>
    intro x2 x3 σ h
    exact b_X1_leadHere_4 hR (zfix (F_X1_leadHere_4L ) N) ih x2 x3 σ h
noncomputable def F_X1_leadHere_0 (x1 : Int32) (σ : zSt) : Option (Unit × zSt) :=
  zfix (F_X1_leadHere_4L ) zlim (x1, (0 : Int32), σ)
set_option maxHeartbeats 4000000 in
set_option maxRecDepth 100000 in
theorem p_X1_leadHere_0 {G : zG} {C : zC} {r : Unit} {τ : zSt} (hR : zR G C none none τ) (x1 : Int32) (σ : zSt) (h : F_X1_leadHere_0 x1 σ = some (r, τ)) : zAW G 1 RX1 cX1_leadHere 5 C 0 [(0, .ref (zad G 35)), (1, .int x1)] [] σ := by
  unfold F_X1_leadHere_0 at h
  refine z_iload e_X1_leadHere_0 1 rfl ?_
  refine z_istore e_X1_leadHere_1 (by decide) [(2, .int x1), (0, .ref (zad G 35)), (1, .int x1)] rfl ?_
  refine z_ic e_X1_leadHere_2 ?_
  refine z_istore e_X1_leadHere_3 (by decide) [(3, .int (0 : Int32)), (2, .int x1), (0, .ref (zad G 35)), (1, .int x1)] rfl ?_
  exact z_sub [2, 1, 0] rfl (l_X1_leadHere_4 hR  zlim x1 (0 : Int32) σ h)
noncomputable def F_X1_leadHere (x1 : Int32) (σ : zSt) : Option (Unit × zSt) := F_X1_leadHere_0 x1 σ
set_option maxRecDepth 100000 in
theorem m_X1_leadHere (G : zG) (x1 : Int32) (σ : zSt) (q : Unit) (τ : zSt) (h : F_X1_leadHere x1 σ = some (q, τ)) : zM G 1 yX1_leadHere cX1_leadHere 5 none [.ref (zad G 35), .int x1] σ none τ := by
  unfold F_X1_leadHere at h
  refine zM.of (own := RX1) (by decide +kernel) rfl (Nat.le_of_ble_eq_true rfl) (fun C hR => ?_)
  exact z_sub [0, 1] rfl (p_X1_leadHere_0 hR x1 σ h)
