noncomputable def F_X1_readCondition_100 (rc : (Int32 → zSt → Option (Int32 × zSt)) × (Int32 → zSt → Option (Int32 × zSt))) (x2 : Int32) (σ : zSt) : Option (Int32 × zSt) :=
  bd (F_X1_leadHere x2 σ) (fun _ s2 =>
    some ((1 : Int32), s2))
set_option maxHeartbeats 4000000 in
set_option maxRecDepth 100000 in
theorem p_X1_readCondition_100 {G : zG} {C : zC} {r : Int32} {τ : zSt} (hR : zR G C (some .boolean) (some (.int r)) τ) (n : Nat) (rc : (Int32 → zSt → Option (Int32 × zSt)) × (Int32 → zSt → Option (Int32 × zSt))) (x2 : Int32) (hrc : (∀ (a0 : Int32) (σ : zSt) (q : Int32) (τ : zSt), rc.1 a0 σ = some (q, τ) → zM G (106 + n) yX1_readCondition cX1_readCondition 6 (some .boolean) [.ref (zad G 35), .int a0] σ (some (.int q)) τ) ∧ (∀ (a0 : Int32) (σ : zSt) (q : Int32) (τ : zSt), rc.2 a0 σ = some (q, τ) → zM G (106 + n) yX1_readPiece cX1_readPiece 4 (some .boolean) [.ref (zad G 35), .int a0] σ (some (.int q)) τ)) (σ : zSt) (h : F_X1_readCondition_100 rc x2 σ = some (r, τ)) : zAW G (106 + (n + 1)) RX1 cX1_readCondition 6 C 100 [(0, .ref (zad G 35)), (2, .int x2)] [] σ := by
  unfold F_X1_readCondition_100 at h
  refine z_aload e_X1_readCondition_100 0 rfl ?_
  refine z_iload e_X1_readCondition_101 1 rfl ?_
  obtain ⟨q3, s2, e4, h⟩ := bd_e h
  refine z_callVv (c0 := 35) (As := [.int x2]) (rest := []) lk_X1_101 ob_35 e_X1_readCondition_102 (m_X1_leadHere G x2 σ _ _ e4) (by omega) rfl (Nat.le_of_ble_eq_true rfl) ?_
  refine z_ic e_X1_readCondition_105 ?_
  cases h
  exact z_zreturn hR e_X1_readCondition_106 (Or.inr rfl)
noncomputable def F_X1_readCondition_94 (rc : (Int32 → zSt → Option (Int32 × zSt)) × (Int32 → zSt → Option (Int32 × zSt))) (w7 : (Int32 × Int32 × Int32 × zSt) → Option (Int32 × zSt)) (x1 : Int32) (x2 : Int32) (x3 : Int32) (x4 : Int32) (σ : zSt) : Option (Int32 × zSt) :=
  nm (x4 + (1 : Int32)) (fun v17 =>
    w7 (x2, x3, v17, σ))
set_option maxHeartbeats 4000000 in
set_option maxRecDepth 100000 in
theorem p_X1_readCondition_94 {G : zG} {C : zC} {r : Int32} {τ : zSt} (hR : zR G C (some .boolean) (some (.int r)) τ) (n : Nat) (rc : (Int32 → zSt → Option (Int32 × zSt)) × (Int32 → zSt → Option (Int32 × zSt))) (w7 : (Int32 × Int32 × Int32 × zSt) → Option (Int32 × zSt)) (x1 : Int32) (x2 : Int32) (x3 : Int32) (x4 : Int32) (hw7 : ∀ (x2 : Int32) (x3 : Int32) (x4 : Int32) (σ : zSt), w7 (x2, x3, x4, σ) = some (r, τ) → zAW G (106 + (n + 1)) RX1 cX1_readCondition 6 C 7 [(0, .ref (zad G 35)), (1, .int x1), (2, .int x2), (3, .int x3), (4, .int x4)] [] σ) (hrc : (∀ (a0 : Int32) (σ : zSt) (q : Int32) (τ : zSt), rc.1 a0 σ = some (q, τ) → zM G (106 + n) yX1_readCondition cX1_readCondition 6 (some .boolean) [.ref (zad G 35), .int a0] σ (some (.int q)) τ) ∧ (∀ (a0 : Int32) (σ : zSt) (q : Int32) (τ : zSt), rc.2 a0 σ = some (q, τ) → zM G (106 + n) yX1_readPiece cX1_readPiece 4 (some .boolean) [.ref (zad G 35), .int a0] σ (some (.int q)) τ)) (σ : zSt) (h : F_X1_readCondition_94 rc w7 x1 x2 x3 x4 σ = some (r, τ)) : zAW G (106 + (n + 1)) RX1 cX1_readCondition 6 C 94 [(0, .ref (zad G 35)), (1, .int x1), (2, .int x2), (3, .int x3), (4, .int x4)] [] σ := by
  unfold F_X1_readCondition_94 at h
  refine z_iinc e_X1_readCondition_94 4 rfl (by decide) (by decide) h (fun y => [(4, .int y), (0, .ref (zad G 35)), (1, .int x1), (2, .int x2), (3, .int x3)]) (fun _ => rfl) (fun v17 h => ?_)
  refine z_goto e_X1_readCondition_97 ?_
  exact z_sub [1, 2, 3, 4, 0] rfl (hw7 x2 x3 v17 σ h)
noncomputable def F_X1_readCondition_73 (rc : (Int32 → zSt → Option (Int32 × zSt)) × (Int32 → zSt → Option (Int32 × zSt))) (x2 : Int32) (σ : zSt) : Option (Int32 × zSt) :=
  F_X1_readCondition_100 rc x2 σ
set_option maxHeartbeats 4000000 in
set_option maxRecDepth 100000 in
theorem p_X1_readCondition_73 {G : zG} {C : zC} {r : Int32} {τ : zSt} (hR : zR G C (some .boolean) (some (.int r)) τ) (n : Nat) (rc : (Int32 → zSt → Option (Int32 × zSt)) × (Int32 → zSt → Option (Int32 × zSt))) (x2 : Int32) (hrc : (∀ (a0 : Int32) (σ : zSt) (q : Int32) (τ : zSt), rc.1 a0 σ = some (q, τ) → zM G (106 + n) yX1_readCondition cX1_readCondition 6 (some .boolean) [.ref (zad G 35), .int a0] σ (some (.int q)) τ) ∧ (∀ (a0 : Int32) (σ : zSt) (q : Int32) (τ : zSt), rc.2 a0 σ = some (q, τ) → zM G (106 + n) yX1_readPiece cX1_readPiece 4 (some .boolean) [.ref (zad G 35), .int a0] σ (some (.int q)) τ)) (σ : zSt) (h : F_X1_readCondition_73 rc x2 σ = some (r, τ)) : zAW G (106 + (n + 1)) RX1 cX1_readCondition 6 C 73 [(0, .ref (zad G 35)), (2, .int x2)] [] σ := by
  unfold F_X1_readCondition_73 at h
  refine z_goto e_X1_readCondition_73 ?_
  exact z_sub [0, 1] rfl (p_X1_readCondition_100 hR n rc x2 hrc σ h)
noncomputable def F_X1_readCondition_7 (rc : (Int32 → zSt → Option (Int32 × zSt)) × (Int32 → zSt → Option (Int32 × zSt))) (x1 : Int32) (w7 : (Int32 × Int32 × Int32 × zSt) → Option (Int32 × zSt)) (x2 : Int32) (x3 : Int32) (x4 : Int32) (σ : zSt) : Option (Int32 × zSt) :=
  if (240 : Int32) ≤ x4 then (
    F_X1_readCondition_100 rc x2 σ)
  else (
    bd (rc.2 x1 σ) (fun q6 s5 =>
      if q6 = 0 then (
        some ((0 : Int32), s5))
      else (
        bd (F_X1_here s5) (fun q10 s9 =>
          if q10 = (38 : Int32) then (
            bd (F_X1_put (38 : Int32) x3 s9) (fun q14 s13 =>
              nm (zwr s13 35 11 ((s13.1 35 11) + (1 : Int32))) (fun s16 =>
                F_X1_readCondition_94 rc w7 x1 x2 q14 x4 s16)))
          else (
            bd (F_X1_leadHere x3 s9) (fun _ s18 =>
              if q10 = (124 : Int32) then (
                bd (F_X1_put (124 : Int32) x2 s18) (fun q23 s22 =>
                  nm (zwr s22 35 11 ((s22.1 35 11) + (1 : Int32))) (fun s25 =>
                    F_X1_readCondition_94 rc w7 x1 q23 (-1 : Int32) x4 s25)))
              else (
                F_X1_readCondition_73 rc x2 s18)))))))
set_option maxHeartbeats 4000000 in
set_option maxRecDepth 100000 in
theorem b_X1_readCondition_7 {G : zG} {C : zC} {r : Int32} {τ : zSt} (hR : zR G C (some .boolean) (some (.int r)) τ) (n : Nat) (rc : (Int32 → zSt → Option (Int32 × zSt)) × (Int32 → zSt → Option (Int32 × zSt))) (x1 : Int32) (w7 : (Int32 × Int32 × Int32 × zSt) → Option (Int32 × zSt)) (hw7 : ∀ (x2 : Int32) (x3 : Int32) (x4 : Int32) (σ : zSt), w7 (x2, x3, x4, σ) = some (r, τ) → zAW G (106 + (n + 1)) RX1 cX1_readCondition 6 C 7 [(0, .ref (zad G 35)), (1, .int x1), (2, .int x2), (3, .int x3), (4, .int x4)] [] σ) (hrc : (∀ (a0 : Int32) (σ : zSt) (q : Int32) (τ : zSt), rc.1 a0 σ = some (q, τ) → zM G (106 + n) yX1_readCondition cX1_readCondition 6 (some .boolean) [.ref (zad G 35), .int a0] σ (some (.int q)) τ) ∧ (∀ (a0 : Int32) (σ : zSt) (q : Int32) (τ : zSt), rc.2 a0 σ = some (q, τ) → zM G (106 + n) yX1_readPiece cX1_readPiece 4 (some .boolean) [.ref (zad G 35), .int a0] σ (some (.int q)) τ)) (x2 : Int32) (x3 : Int32) (x4 : Int32) (σ : zSt) (h : F_X1_readCondition_7 rc x1 w7 x2 x3 x4 σ = some (r, τ)) : zAW G (106 + (n + 1)) RX1 cX1_readCondition 6 C 7 [(0, .ref (zad G 35)), (1, .int x1), (2, .int x2), (3, .int x3), (4, .int x4)] [] σ := by
  unfold F_X1_readCondition_7 at h
  refine z_iload e_X1_readCondition_7 4 rfl ?_
  refine z_ic e_X1_readCondition_9 ?_
  refine z_icmp_ge e_X1_readCondition_12 h (fun c1 h => ?_) (fun c1 h => ?_)
  · exact z_sub [0, 2] rfl (p_X1_readCondition_100 hR n rc x2 hrc σ h)
  · refine z_aload e_X1_readCondition_15 0 rfl ?_
    refine z_iload e_X1_readCondition_16 1 rfl ?_
    obtain ⟨q6, s5, e7, h⟩ := bd_e h
    refine z_callVi (c0 := 35) (As := [.int x1]) (rest := []) lk_X1_95 ob_35 e_X1_readCondition_17 (hrc.2 x1 σ _ _ e7) (by omega) rfl (Nat.le_of_ble_eq_true rfl) ?_
    refine z_if_ne e_X1_readCondition_20 h (fun c8 h => ?_) (fun c8 h => ?_)
    · refine z_ic e_X1_readCondition_23 ?_
      cases h
      exact z_zreturn hR e_X1_readCondition_24 (Or.inl rfl)
    · refine z_aload e_X1_readCondition_25 0 rfl ?_
      obtain ⟨q10, s9, e11, h⟩ := bd_e h
      refine z_callVi (c0 := 35) (As := []) (rest := []) lk_X1_82 ob_35 e_X1_readCondition_26 (m_X1_here G s5 _ _ e11) (by omega) rfl (Nat.le_of_ble_eq_true rfl) ?_
      refine z_istore e_X1_readCondition_29 (by decide) [(5, .int q10), (0, .ref (zad G 35)), (1, .int x1), (2, .int x2), (3, .int x3), (4, .int x4)] rfl ?_
      refine z_iload e_X1_readCondition_31 0 rfl ?_
      refine z_ic e_X1_readCondition_33 ?_
      refine z_icmp_ne e_X1_readCondition_35 h (fun c12 h => ?_) (fun c12 h => ?_)
      · refine z_aload e_X1_readCondition_38 1 rfl ?_
        refine z_ic e_X1_readCondition_39 ?_
        refine z_iload e_X1_readCondition_41 4 rfl ?_
        obtain ⟨q14, s13, e15, h⟩ := bd_e h
        refine z_callVi (c0 := 35) (As := [.int (38 : Int32), .int x3]) (rest := []) lk_X1_98 ob_35 e_X1_readCondition_42 (m_X1_put G (38 : Int32) x3 s9 _ _ e15) (by omega) rfl (Nat.le_of_ble_eq_true rfl) ?_
        refine z_istore e_X1_readCondition_45 (by decide) [(3, .int q14), (5, .int q10), (0, .ref (zad G 35)), (1, .int x1), (2, .int x2), (4, .int x4)] rfl ?_
        refine z_aload e_X1_readCondition_46 2 rfl ?_
        refine z_dup e_X1_readCondition_47 rfl ?_
        refine z_geti gf_X1_66_35 e_X1_readCondition_48 ?_
        refine z_ic e_X1_readCondition_51 ?_
        refine z_iadd e_X1_readCondition_52 ?_
        refine z_puti pf_X1_66_35 e_X1_readCondition_53 h (fun s16 h => ?_)
        refine z_goto e_X1_readCondition_56 ?_
        exact z_sub [2, 3, 4, 0, 5] rfl (p_X1_readCondition_94 hR n rc w7 x1 x2 q14 x4 hw7 hrc s16 h)
      · refine z_aload e_X1_readCondition_59 1 rfl ?_
        refine z_iload e_X1_readCondition_60 4 rfl ?_
        obtain ⟨q19, s18, e20, h⟩ := bd_e h
        refine z_callVv (c0 := 35) (As := [.int x3]) (rest := []) lk_X1_101 ob_35 e_X1_readCondition_61 (m_X1_leadHere G x3 s9 _ _ e20) (by omega) rfl (Nat.le_of_ble_eq_true rfl) ?_
        refine z_ic e_X1_readCondition_64 ?_
        refine z_istore e_X1_readCondition_65 (by decide) [(3, .int (-1 : Int32)), (5, .int q10), (0, .ref (zad G 35)), (1, .int x1), (2, .int x2), (4, .int x4)] rfl ?_
        refine z_iload e_X1_readCondition_66 1 rfl ?_
        refine z_ic e_X1_readCondition_68 ?_
        refine z_icmp_eq e_X1_readCondition_70 h (fun c21 h => ?_) (fun c21 h => ?_)
        · refine z_aload e_X1_readCondition_76 2 rfl ?_
          refine z_ic e_X1_readCondition_77 ?_
          refine z_iload e_X1_readCondition_79 4 rfl ?_
          obtain ⟨q23, s22, e24, h⟩ := bd_e h
          refine z_callVi (c0 := 35) (As := [.int (124 : Int32), .int x2]) (rest := []) lk_X1_98 ob_35 e_X1_readCondition_80 (m_X1_put G (124 : Int32) x2 s18 _ _ e24) (by omega) rfl (Nat.le_of_ble_eq_true rfl) ?_
          refine z_istore e_X1_readCondition_83 (by decide) [(2, .int q23), (3, .int (-1 : Int32)), (5, .int q10), (0, .ref (zad G 35)), (1, .int x1), (4, .int x4)] rfl ?_
          refine z_aload e_X1_readCondition_84 3 rfl ?_
          refine z_dup e_X1_readCondition_85 rfl ?_
          refine z_geti gf_X1_66_35 e_X1_readCondition_86 ?_
          refine z_ic e_X1_readCondition_89 ?_
          refine z_iadd e_X1_readCondition_90 ?_
          refine z_puti pf_X1_66_35 e_X1_readCondition_91 h (fun s25 h => ?_)
          exact z_sub [3, 4, 0, 1, 5] rfl (p_X1_readCondition_94 hR n rc w7 x1 q23 (-1 : Int32) x4 hw7 hrc s25 h)
        · exact z_sub [2, 4] rfl (p_X1_readCondition_73 hR n rc x2 hrc s18 h)
noncomputable def F_X1_readCondition_7L (rc : (Int32 → zSt → Option (Int32 × zSt)) × (Int32 → zSt → Option (Int32 × zSt))) (x1 : Int32) : ((Int32 × Int32 × Int32 × zSt) → Option (Int32 × zSt)) → (Int32 × Int32 × Int32 × zSt) → Option (Int32 × zSt) := fun w s => F_X1_readCondition_7 rc x1 w s.1 s.2.1 s.2.2.1 s.2.2.2
set_option maxRecDepth 100000 in
theorem l_X1_readCondition_7 {G : zG} {C : zC} {r : Int32} {τ : zSt} (hR : zR G C (some .boolean) (some (.int r)) τ) (n : Nat) (rc : (Int32 → zSt → Option (Int32 × zSt)) × (Int32 → zSt → Option (Int32 × zSt))) (x1 : Int32) (hrc : (∀ (a0 : Int32) (σ : zSt) (q : Int32) (τ : zSt), rc.1 a0 σ = some (q, τ) → zM G (106 + n) yX1_readCondition cX1_readCondition 6 (some .boolean) [.ref (zad G 35), .int a0] σ (some (.int q)) τ) ∧ (∀ (a0 : Int32) (σ : zSt) (q : Int32) (τ : zSt), rc.2 a0 σ = some (q, τ) → zM G (106 + n) yX1_readPiece cX1_readPiece 4 (some .boolean) [.ref (zad G 35), .int a0] σ (some (.int q)) τ)) : ∀ (N : Nat) (x2 : Int32) (x3 : Int32) (x4 : Int32) (σ : zSt), zfix (F_X1_readCondition_7L rc x1) N (x2, x3, x4, σ) = some (r, τ) → zAW G (106 + (n + 1)) RX1 cX1_readCondition 6 C 7 [(0, .ref (zad G 35)), (1, .int x1), (2, .int x2), (3, .int x3), (4, .int x4)] [] σ := by
  intro N
  induction N with
  | zero =>
    intro x2 x3 x4 σ h
    exact nomatch (show (none : Option (Int32 × zSt)) = some (r, τ) from h)
  | succ N ih =>
    intro x2 x3 x4 σ h
    exact b_X1_readCondition_7 hR n rc x1 (zfix (F_X1_readCondition_7L rc x1) N) ih hrc x2 x3 x4 σ h
noncomputable def F_X1_readCondition_0 (rc : (Int32 → zSt → Option (Int32 × zSt)) × (Int32 → zSt → Option (Int32 × zSt))) (x1 : Int32) (σ : zSt) : Option (Int32 × zSt) :=
  zfix (F_X1_readCondition_7L rc x1) zlim ((-1 : Int32), (-1 : Int32), (0 : Int32), σ)
set_option maxHeartbeats 4000000 in
set_option maxRecDepth 100000 in
theorem p_X1_readCondition_0 {G : zG} {C : zC} {r : Int32} {τ : zSt} (hR : zR G C (some .boolean) (some (.int r)) τ) (n : Nat) (rc : (Int32 → zSt → Option (Int32 × zSt)) × (Int32 → zSt → Option (Int32 × zSt))) (x1 : Int32) (hrc : (∀ (a0 : Int32) (σ : zSt) (q : Int32) (τ : zSt), rc.1 a0 σ = some (q, τ) → zM G (106 + n) yX1_readCondition cX1_readCondition 6 (some .boolean) [.ref (zad G 35), .int a0] σ (some (.int q)) τ) ∧ (∀ (a0 : Int32) (σ : zSt) (q : Int32) (τ : zSt), rc.2 a0 σ = some (q, τ) → zM G (106 + n) yX1_readPiece cX1_readPiece 4 (some .boolean) [.ref (zad G 35), .int a0] σ (some (.int q)) τ)) (σ : zSt) (h : F_X1_readCondition_0 rc x1 σ = some (r, τ)) : zAW G (106 + (n + 1)) RX1 cX1_readCondition 6 C 0 [(0, .ref (zad G 35)), (1, .int x1)] [] σ := by
  unfold F_X1_readCondition_0 at h
  refine z_ic e_X1_readCondition_0 ?_
  refine z_istore e_X1_readCondition_1 (by decide) [(2, .int (-1 : Int32)), (0, .ref (zad G 35)), (1, .int x1)] rfl ?_
  refine z_ic e_X1_readCondition_2 ?_
  refine z_istore e_X1_readCondition_3 (by decide) [(3, .int (-1 : Int32)), (2, .int (-1 : Int32)), (0, .ref (zad G 35)), (1, .int x1)] rfl ?_
  refine z_ic e_X1_readCondition_4 ?_
  refine z_istore e_X1_readCondition_5 (by decide) [(4, .int (0 : Int32)), (3, .int (-1 : Int32)), (2, .int (-1 : Int32)), (0, .ref (zad G 35)), (1, .int x1)] rfl ?_
  exact z_sub [3, 4, 2, 1, 0] rfl (l_X1_readCondition_7 hR n rc x1 hrc zlim (-1 : Int32) (-1 : Int32) (0 : Int32) σ h)
noncomputable def O_X1_readCondition (rc : (Int32 → zSt → Option (Int32 × zSt)) × (Int32 → zSt → Option (Int32 × zSt))) (x1 : Int32) (σ : zSt) : Option (Int32 × zSt) := F_X1_readCondition_0 rc x1 σ
set_option maxRecDepth 100000 in
theorem o_X1_readCondition (G : zG) (n : Nat) (rc : (Int32 → zSt → Option (Int32 × zSt)) × (Int32 → zSt → Option (Int32 × zSt))) (hrc : (∀ (a0 : Int32) (σ : zSt) (q : Int32) (τ : zSt), rc.1 a0 σ = some (q, τ) → zM G (106 + n) yX1_readCondition cX1_readCondition 6 (some .boolean) [.ref (zad G 35), .int a0] σ (some (.int q)) τ) ∧ (∀ (a0 : Int32) (σ : zSt) (q : Int32) (τ : zSt), rc.2 a0 σ = some (q, τ) → zM G (106 + n) yX1_readPiece cX1_readPiece 4 (some .boolean) [.ref (zad G 35), .int a0] σ (some (.int q)) τ)) (x1 : Int32) (σ : zSt) (q : Int32) (τ : zSt) (h : O_X1_readCondition rc x1 σ = some (q, τ)) : zM G (106 + (n + 1)) yX1_readCondition cX1_readCondition 6 (some .boolean) [.ref (zad G 35), .int x1] σ (some (.int q)) τ := by
  unfold O_X1_readCondition at h
  refine zM.of (own := RX1) (by decide +kernel) rfl (Nat.le_of_ble_eq_true rfl) (fun C hR => ?_)
  exact z_sub [0, 1] rfl (p_X1_readCondition_0 hR n rc x1 hrc σ h)
noncomputable def F_X1_readPiece_17 (rc : (Int32 → zSt → Option (Int32 × zSt)) × (Int32 → zSt → Option (Int32 × zSt))) (x1 : Int32) (x2 : Int32) (σ : zSt) : Option (Int32 × zSt) :=
  if x1 < (6 : Int32) then (
    nm (zwr σ 35 11 ((σ.1 35 11) + (1 : Int32))) (fun s6 =>
      if x2 = (40 : Int32) then (
        bd (rc.1 (x1 + (1 : Int32)) s6) (fun q9 s8 =>
          if q9 = 0 then (
            some ((0 : Int32), s8))
          else (
            bd (F_X1_readSign (41 : Int32) s8) (fun q13 s12 =>
              if q13 = 0 then (
                some ((0 : Int32), s12))
              else (
                some ((1 : Int32), s12))))))
      else (
        bd (rc.2 (x1 + (1 : Int32)) s6) (fun q17 s16 =>
          if q17 = 0 then (
            some ((0 : Int32), s16))
          else (
            bd (F_X1_put (33 : Int32) (0 : Int32) s16) (fun q21 s20 =>
              some ((1 : Int32), s20)))))))
  else (
    bd (F_X1_wrong (5 : Int32) σ) (fun q24 s23 =>
      gd (q24 = 0 ∨ q24 = 1) (some (q24, s23))))
set_option maxHeartbeats 4000000 in
set_option maxRecDepth 100000 in
theorem p_X1_readPiece_17 {G : zG} {C : zC} {r : Int32} {τ : zSt} (hR : zR G C (some .boolean) (some (.int r)) τ) (n : Nat) (rc : (Int32 → zSt → Option (Int32 × zSt)) × (Int32 → zSt → Option (Int32 × zSt))) (x1 : Int32) (x2 : Int32) (hrc : (∀ (a0 : Int32) (σ : zSt) (q : Int32) (τ : zSt), rc.1 a0 σ = some (q, τ) → zM G (106 + n) yX1_readCondition cX1_readCondition 6 (some .boolean) [.ref (zad G 35), .int a0] σ (some (.int q)) τ) ∧ (∀ (a0 : Int32) (σ : zSt) (q : Int32) (τ : zSt), rc.2 a0 σ = some (q, τ) → zM G (106 + n) yX1_readPiece cX1_readPiece 4 (some .boolean) [.ref (zad G 35), .int a0] σ (some (.int q)) τ)) (σ : zSt) (h : F_X1_readPiece_17 rc x1 x2 σ = some (r, τ)) : zAW G (106 + (n + 1)) RX1 cX1_readPiece 4 C 17 [(0, .ref (zad G 35)), (1, .int x1), (2, .int x2)] [] σ := by
  unfold F_X1_readPiece_17 at h
  refine z_iload e_X1_readPiece_17 1 rfl ?_
  refine z_ic e_X1_readPiece_18 ?_
  refine z_icmp_lt e_X1_readPiece_20 h (fun c5 h => ?_) (fun c5 h => ?_)
  · refine z_aload e_X1_readPiece_29 0 rfl ?_
    refine z_dup e_X1_readPiece_30 rfl ?_
    refine z_geti gf_X1_66_35 e_X1_readPiece_31 ?_
    refine z_ic e_X1_readPiece_34 ?_
    refine z_iadd e_X1_readPiece_35 ?_
    refine z_puti pf_X1_66_35 e_X1_readPiece_36 h (fun s6 h => ?_)
    refine z_iload e_X1_readPiece_39 2 rfl ?_
    refine z_ic e_X1_readPiece_40 ?_
    refine z_icmp_ne e_X1_readPiece_42 h (fun c7 h => ?_) (fun c7 h => ?_)
    · refine z_aload e_X1_readPiece_45 0 rfl ?_
      refine z_iload e_X1_readPiece_46 1 rfl ?_
      refine z_ic e_X1_readPiece_47 ?_
      refine z_iadd e_X1_readPiece_48 ?_
      obtain ⟨q9, s8, e10, h⟩ := bd_e h
      refine z_callVi (c0 := 35) (As := [.int (x1 + (1 : Int32))]) (rest := []) lk_X1_92 ob_35 e_X1_readPiece_49 (hrc.1 (x1 + (1 : Int32)) s6 _ _ e10) (by omega) rfl (Nat.le_of_ble_eq_true rfl) ?_
      refine z_if_eq e_X1_readPiece_52 h (fun c11 h => ?_) (fun c11 h => ?_)
      · refine z_ic e_X1_readPiece_68 ?_
        cases h
        exact z_zreturn hR e_X1_readPiece_69 (Or.inl rfl)
      · refine z_aload e_X1_readPiece_55 0 rfl ?_
        refine z_ic e_X1_readPiece_56 ?_
        obtain ⟨q13, s12, e14, h⟩ := bd_e h
        refine z_callVi (c0 := 35) (As := [.int (41 : Int32)]) (rest := []) lk_X1_78 ob_35 e_X1_readPiece_58 (m_X1_readSign G (41 : Int32) s8 _ _ e14) (by omega) rfl (Nat.le_of_ble_eq_true rfl) ?_
        refine z_if_eq e_X1_readPiece_61 h (fun c15 h => ?_) (fun c15 h => ?_)
        · refine z_ic e_X1_readPiece_68 ?_
          cases h
          exact z_zreturn hR e_X1_readPiece_69 (Or.inl rfl)
        · refine z_ic e_X1_readPiece_64 ?_
          refine z_goto e_X1_readPiece_65 ?_
          cases h
          exact z_zreturn hR e_X1_readPiece_69 (Or.inr rfl)
    · refine z_aload e_X1_readPiece_70 0 rfl ?_
      refine z_iload e_X1_readPiece_71 1 rfl ?_
      refine z_ic e_X1_readPiece_72 ?_
      refine z_iadd e_X1_readPiece_73 ?_
      obtain ⟨q17, s16, e18, h⟩ := bd_e h
      refine z_callVi (c0 := 35) (As := [.int (x1 + (1 : Int32))]) (rest := []) lk_X1_95 ob_35 e_X1_readPiece_74 (hrc.2 (x1 + (1 : Int32)) s6 _ _ e18) (by omega) rfl (Nat.le_of_ble_eq_true rfl) ?_
      refine z_if_ne e_X1_readPiece_77 h (fun c19 h => ?_) (fun c19 h => ?_)
      · refine z_ic e_X1_readPiece_80 ?_
        cases h
        exact z_zreturn hR e_X1_readPiece_81 (Or.inl rfl)
      · refine z_aload e_X1_readPiece_82 0 rfl ?_
        refine z_ic e_X1_readPiece_83 ?_
        refine z_ic e_X1_readPiece_85 ?_
        obtain ⟨q21, s20, e22, h⟩ := bd_e h
        refine z_callVi (c0 := 35) (As := [.int (33 : Int32), .int (0 : Int32)]) (rest := []) lk_X1_98 ob_35 e_X1_readPiece_86 (m_X1_put G (33 : Int32) (0 : Int32) s16 _ _ e22) (by omega) rfl (Nat.le_of_ble_eq_true rfl) ?_
        refine z_pop e_X1_readPiece_89 rfl ?_
        refine z_ic e_X1_readPiece_90 ?_
        cases h
        exact z_zreturn hR e_X1_readPiece_91 (Or.inr rfl)
  · refine z_aload e_X1_readPiece_23 0 rfl ?_
    refine z_ic e_X1_readPiece_24 ?_
    obtain ⟨q24, s23, e25, h⟩ := bd_e h
    refine z_callVi (c0 := 35) (As := [.int (5 : Int32)]) (rest := []) lk_X1_86 ob_35 e_X1_readPiece_25 (m_X1_wrong G (5 : Int32) σ _ _ e25) (by omega) rfl (Nat.le_of_ble_eq_true rfl) ?_
    obtain ⟨hb26, h⟩ := gd_e h
    cases h
    exact z_zreturn hR e_X1_readPiece_28 hb26
noncomputable def F_X1_readPiece_131 (rc : (Int32 → zSt → Option (Int32 × zSt)) × (Int32 → zSt → Option (Int32 × zSt))) (x1 : Int32) (x3 : Int32) (σ : zSt) : Option (Int32 × zSt) :=
  nm (zwr σ 35 11 ((σ.1 35 11) + (1 : Int32))) (fun s36 =>
    bd (F_X1_readSum x1 s36) (fun q38 s37 =>
      if q38 = 0 then (
        some ((0 : Int32), s37))
      else (
        bd (F_X1_put x3 (0 : Int32) s37) (fun q42 s41 =>
          some ((1 : Int32), s41)))))
set_option maxHeartbeats 4000000 in
set_option maxRecDepth 100000 in
theorem p_X1_readPiece_131 {G : zG} {C : zC} {r : Int32} {τ : zSt} (hR : zR G C (some .boolean) (some (.int r)) τ) (n : Nat) (rc : (Int32 → zSt → Option (Int32 × zSt)) × (Int32 → zSt → Option (Int32 × zSt))) (x1 : Int32) (x3 : Int32) (hrc : (∀ (a0 : Int32) (σ : zSt) (q : Int32) (τ : zSt), rc.1 a0 σ = some (q, τ) → zM G (106 + n) yX1_readCondition cX1_readCondition 6 (some .boolean) [.ref (zad G 35), .int a0] σ (some (.int q)) τ) ∧ (∀ (a0 : Int32) (σ : zSt) (q : Int32) (τ : zSt), rc.2 a0 σ = some (q, τ) → zM G (106 + n) yX1_readPiece cX1_readPiece 4 (some .boolean) [.ref (zad G 35), .int a0] σ (some (.int q)) τ)) (σ : zSt) (h : F_X1_readPiece_131 rc x1 x3 σ = some (r, τ)) : zAW G (106 + (n + 1)) RX1 cX1_readPiece 4 C 131 [(0, .ref (zad G 35)), (1, .int x1), (3, .int x3)] [] σ := by
  unfold F_X1_readPiece_131 at h
  refine z_aload e_X1_readPiece_131 0 rfl ?_
  refine z_dup e_X1_readPiece_132 rfl ?_
  refine z_geti gf_X1_66_35 e_X1_readPiece_133 ?_
  refine z_ic e_X1_readPiece_136 ?_
  refine z_iadd e_X1_readPiece_137 ?_
  refine z_puti pf_X1_66_35 e_X1_readPiece_138 h (fun s36 h => ?_)
  refine z_aload e_X1_readPiece_141 0 rfl ?_
  refine z_iload e_X1_readPiece_142 1 rfl ?_
  obtain ⟨q38, s37, e39, h⟩ := bd_e h
  refine z_callVi (c0 := 35) (As := [.int x1]) (rest := []) lk_X1_89 ob_35 e_X1_readPiece_143 (m_X1_readSum G x1 s36 _ _ e39) (by omega) rfl (Nat.le_of_ble_eq_true rfl) ?_
  refine z_if_ne e_X1_readPiece_146 h (fun c40 h => ?_) (fun c40 h => ?_)
  · refine z_ic e_X1_readPiece_149 ?_
    cases h
    exact z_zreturn hR e_X1_readPiece_150 (Or.inl rfl)
  · refine z_aload e_X1_readPiece_151 0 rfl ?_
    refine z_iload e_X1_readPiece_152 2 rfl ?_
    refine z_ic e_X1_readPiece_153 ?_
    obtain ⟨q42, s41, e43, h⟩ := bd_e h
    refine z_callVi (c0 := 35) (As := [.int x3, .int (0 : Int32)]) (rest := []) lk_X1_98 ob_35 e_X1_readPiece_154 (m_X1_put G x3 (0 : Int32) s37 _ _ e43) (by omega) rfl (Nat.le_of_ble_eq_true rfl) ?_
    refine z_pop e_X1_readPiece_157 rfl ?_
    refine z_ic e_X1_readPiece_158 ?_
    cases h
    exact z_zreturn hR e_X1_readPiece_159 (Or.inr rfl)
noncomputable def F_X1_readPiece_0 (rc : (Int32 → zSt → Option (Int32 × zSt)) × (Int32 → zSt → Option (Int32 × zSt))) (x1 : Int32) (σ : zSt) : Option (Int32 × zSt) :=
  bd (F_X1_here σ) (fun q2 s1 =>
    if q2 = (33 : Int32) then (
      F_X1_readPiece_17 rc x1 q2 s1)
    else (
      if q2 = (40 : Int32) then (
        F_X1_readPiece_17 rc x1 q2 s1)
      else (
        bd (F_X1_readSum x1 s1) (fun q29 s28 =>
          if q29 = 0 then (
            some ((0 : Int32), s28))
          else (
            bd (F_X1_here s28) (fun q33 s32 =>
              if q33 = (60 : Int32) then (
                F_X1_readPiece_131 rc x1 q33 s32)
              else (
                if q33 = (62 : Int32) then (
                  F_X1_readPiece_131 rc x1 q33 s32)
                else (
                  if q33 = (61 : Int32) then (
                    F_X1_readPiece_131 rc x1 q33 s32)
                  else (
                    bd (F_X1_wrong (1 : Int32) s32) (fun q47 s46 =>
                      gd (q47 = 0 ∨ q47 = 1) (some (q47, s46))))))))))))
set_option maxHeartbeats 4000000 in
set_option maxRecDepth 100000 in
theorem p_X1_readPiece_0 {G : zG} {C : zC} {r : Int32} {τ : zSt} (hR : zR G C (some .boolean) (some (.int r)) τ) (n : Nat) (rc : (Int32 → zSt → Option (Int32 × zSt)) × (Int32 → zSt → Option (Int32 × zSt))) (x1 : Int32) (hrc : (∀ (a0 : Int32) (σ : zSt) (q : Int32) (τ : zSt), rc.1 a0 σ = some (q, τ) → zM G (106 + n) yX1_readCondition cX1_readCondition 6 (some .boolean) [.ref (zad G 35), .int a0] σ (some (.int q)) τ) ∧ (∀ (a0 : Int32) (σ : zSt) (q : Int32) (τ : zSt), rc.2 a0 σ = some (q, τ) → zM G (106 + n) yX1_readPiece cX1_readPiece 4 (some .boolean) [.ref (zad G 35), .int a0] σ (some (.int q)) τ)) (σ : zSt) (h : F_X1_readPiece_0 rc x1 σ = some (r, τ)) : zAW G (106 + (n + 1)) RX1 cX1_readPiece 4 C 0 [(0, .ref (zad G 35)), (1, .int x1)] [] σ := by
  unfold F_X1_readPiece_0 at h
  refine z_aload e_X1_readPiece_0 0 rfl ?_
  obtain ⟨q2, s1, e3, h⟩ := bd_e h
  refine z_callVi (c0 := 35) (As := []) (rest := []) lk_X1_82 ob_35 e_X1_readPiece_1 (m_X1_here G σ _ _ e3) (by omega) rfl (Nat.le_of_ble_eq_true rfl) ?_
  refine z_istore e_X1_readPiece_4 (by decide) [(2, .int q2), (0, .ref (zad G 35)), (1, .int x1)] rfl ?_
  refine z_iload e_X1_readPiece_5 0 rfl ?_
  refine z_ic e_X1_readPiece_6 ?_
  refine z_icmp_eq e_X1_readPiece_8 h (fun c4 h => ?_) (fun c4 h => ?_)
  · exact z_sub [1, 2, 0] rfl (p_X1_readPiece_17 hR n rc x1 q2 hrc s1 h)
  · refine z_iload e_X1_readPiece_11 0 rfl ?_
    refine z_ic e_X1_readPiece_12 ?_
    refine z_icmp_ne e_X1_readPiece_14 h (fun c27 h => ?_) (fun c27 h => ?_)
    · exact z_sub [1, 2, 0] rfl (p_X1_readPiece_17 hR n rc x1 q2 hrc s1 h)
    · refine z_aload e_X1_readPiece_92 1 rfl ?_
      refine z_iload e_X1_readPiece_93 2 rfl ?_
      obtain ⟨q29, s28, e30, h⟩ := bd_e h
      refine z_callVi (c0 := 35) (As := [.int x1]) (rest := []) lk_X1_89 ob_35 e_X1_readPiece_94 (m_X1_readSum G x1 s1 _ _ e30) (by omega) rfl (Nat.le_of_ble_eq_true rfl) ?_
      refine z_if_ne e_X1_readPiece_97 h (fun c31 h => ?_) (fun c31 h => ?_)
      · refine z_ic e_X1_readPiece_100 ?_
        cases h
        exact z_zreturn hR e_X1_readPiece_101 (Or.inl rfl)
      · refine z_aload e_X1_readPiece_102 1 rfl ?_
        obtain ⟨q33, s32, e34, h⟩ := bd_e h
        refine z_callVi (c0 := 35) (As := []) (rest := []) lk_X1_82 ob_35 e_X1_readPiece_103 (m_X1_here G s28 _ _ e34) (by omega) rfl (Nat.le_of_ble_eq_true rfl) ?_
        refine z_istore e_X1_readPiece_106 (by decide) [(3, .int q33), (2, .int q2), (0, .ref (zad G 35)), (1, .int x1)] rfl ?_
        refine z_iload e_X1_readPiece_107 0 rfl ?_
        refine z_ic e_X1_readPiece_108 ?_
        refine z_icmp_eq e_X1_readPiece_110 h (fun c35 h => ?_) (fun c35 h => ?_)
        · exact z_sub [2, 3, 0] rfl (p_X1_readPiece_131 hR n rc x1 q33 hrc s32 h)
        · refine z_iload e_X1_readPiece_113 0 rfl ?_
          refine z_ic e_X1_readPiece_114 ?_
          refine z_icmp_eq e_X1_readPiece_116 h (fun c44 h => ?_) (fun c44 h => ?_)
          · exact z_sub [2, 3, 0] rfl (p_X1_readPiece_131 hR n rc x1 q33 hrc s32 h)
          · refine z_iload e_X1_readPiece_119 0 rfl ?_
            refine z_ic e_X1_readPiece_120 ?_
            refine z_icmp_eq e_X1_readPiece_122 h (fun c45 h => ?_) (fun c45 h => ?_)
            · exact z_sub [2, 3, 0] rfl (p_X1_readPiece_131 hR n rc x1 q33 hrc s32 h)
            · refine z_aload e_X1_readPiece_125 2 rfl ?_
              refine z_ic e_X1_readPiece_126 ?_
              obtain ⟨q47, s46, e48, h⟩ := bd_e h
              refine z_callVi (c0 := 35) (As := [.int (1 : Int32)]) (rest := []) lk_X1_86 ob_35 e_X1_readPiece_127 (m_X1_wrong G (1 : Int32) s32 _ _ e48) (by omega) rfl (Nat.le_of_ble_eq_true rfl) ?_
              obtain ⟨hb49, h⟩ := gd_e h
              cases h
              exact z_zreturn hR e_X1_readPiece_130 hb49
noncomputable def O_X1_readPiece (rc : (Int32 → zSt → Option (Int32 × zSt)) × (Int32 → zSt → Option (Int32 × zSt))) (x1 : Int32) (σ : zSt) : Option (Int32 × zSt) := F_X1_readPiece_0 rc x1 σ
set_option maxRecDepth 100000 in
theorem o_X1_readPiece (G : zG) (n : Nat) (rc : (Int32 → zSt → Option (Int32 × zSt)) × (Int32 → zSt → Option (Int32 × zSt))) (hrc : (∀ (a0 : Int32) (σ : zSt) (q : Int32) (τ : zSt), rc.1 a0 σ = some (q, τ) → zM G (106 + n) yX1_readCondition cX1_readCondition 6 (some .boolean) [.ref (zad G 35), .int a0] σ (some (.int q)) τ) ∧ (∀ (a0 : Int32) (σ : zSt) (q : Int32) (τ : zSt), rc.2 a0 σ = some (q, τ) → zM G (106 + n) yX1_readPiece cX1_readPiece 4 (some .boolean) [.ref (zad G 35), .int a0] σ (some (.int q)) τ)) (x1 : Int32) (σ : zSt) (q : Int32) (τ : zSt) (h : O_X1_readPiece rc x1 σ = some (q, τ)) : zM G (106 + (n + 1)) yX1_readPiece cX1_readPiece 4 (some .boolean) [.ref (zad G 35), .int x1] σ (some (.int q)) τ := by
  unfold O_X1_readPiece at h
  refine zM.of (own := RX1) (by decide +kernel) rfl (Nat.le_of_ble_eq_true rfl) (fun C hR => ?_)
  exact z_sub [0, 1] rfl (p_X1_readPiece_0 hR n rc x1 hrc σ h)
noncomputable def R_X1_readCondition_X1_readPiece : Nat → (Int32 → zSt → Option (Int32 × zSt)) × (Int32 → zSt → Option (Int32 × zSt))
  | 0 => ((fun _ _ => none), (fun _ _ => none))
  | n + 1 => (O_X1_readCondition (R_X1_readCondition_X1_readPiece n), O_X1_readPiece (R_X1_readCondition_X1_readPiece n))
set_option maxRecDepth 100000 in
theorem r_X1_readCondition_X1_readPiece (G : zG) : ∀ N : Nat, (∀ (a0 : Int32) (σ : zSt) (q : Int32) (τ : zSt), (R_X1_readCondition_X1_readPiece N).1 a0 σ = some (q, τ) → zM G (106 + N) yX1_readCondition cX1_readCondition 6 (some .boolean) [.ref (zad G 35), .int a0] σ (some (.int q)) τ) ∧ (∀ (a0 : Int32) (σ : zSt) (q : Int32) (τ : zSt), (R_X1_readCondition_X1_readPiece N).2 a0 σ = some (q, τ) → zM G (106 + N) yX1_readPiece cX1_readPiece 4 (some .boolean) [.ref (zad G 35), .int a0] σ (some (.int q)) τ) := by
  intro N
  induction N with
  | zero => exact ⟨(fun _ _ _ _ h => nomatch (show none = some _ from h)), (fun _ _ _ _ h => nomatch (show none = some _ from h))⟩
  | succ N ih => exact ⟨(fun b0 b1 b2 b3 h => o_X1_readCondition G N _ ih b0 b1 b2 b3 h), (fun b0 b1 b2 b3 h => o_X1_readPiece G N _ ih b0 b1 b2 b3 h)⟩
noncomputable def F_X1_readCondition (x1 : Int32) (σ : zSt) : Option (Int32 × zSt) := (R_X1_readCondition_X1_readPiece 100).1 x1 σ
theorem m_X1_readCondition (G : zG) (x1 : Int32) (σ : zSt) (q : Int32) (τ : zSt) (h : F_X1_readCondition x1 σ = some (q, τ)) : zM G 206 yX1_readCondition cX1_readCondition 6 (some .boolean) [.ref (zad G 35), .int x1] σ (some (.int q)) τ := (r_X1_readCondition_X1_readPiece G 100).1 x1 σ q τ h
noncomputable def F_X1_readPiece (x1 : Int32) (σ : zSt) : Option (Int32 × zSt) := (R_X1_readCondition_X1_readPiece 100).2 x1 σ
theorem m_X1_readPiece (G : zG) (x1 : Int32) (σ : zSt) (q : Int32) (τ : zSt) (h : F_X1_readPiece x1 σ = some (q, τ)) : zM G 206 yX1_readPiece cX1_readPiece 4 (some .boolean) [.ref (zad G 35), .int x1] σ (some (.int q)) τ := (r_X1_readCondition_X1_readPiece G 100).2 x1 σ q τ h
noncomputable def F_X1_readClause_23 (x1 : Int32) (σ : zSt) : Option (Int32 × zSt) :=
  if (σ.1 35 7) < (16 : Int32) then (
    gd (vp_in (σ.1 35 7) 16) (nm (zwr σ 38 (σ.1 35 7).toNatClampNeg x1) (fun s6 =>
      gd (vp_in (s6.1 35 7) 16) (nm (zwr s6 39 (s6.1 35 7).toNatClampNeg (s6.1 35 2)) (fun s7 =>
        nm (zwr s7 35 11 ((s7.1 35 11) + (1 : Int32))) (fun s8 =>
          bd (F_X1_readSum (0 : Int32) s8) (fun q10 s9 =>
            if q10 = 0 then (
              some ((0 : Int32), s9))
            else (
              gd (vp_in (s9.1 35 7) 16) (nm (zwr s9 40 (s9.1 35 7).toNatClampNeg (s9.1 35 2)) (fun s13 =>
                bd (F_X1_readSign (40 : Int32) s13) (fun q15 s14 =>
                  if q15 = 0 then (
                    some ((0 : Int32), s14))
                  else (
                    bd (F_X1_readCondition (1 : Int32) s14) (fun q19 s18 =>
                      if q19 = 0 then (
                        some ((0 : Int32), s18))
                      else (
                        bd (F_X1_readSign (41 : Int32) s18) (fun q23 s22 =>
                          if q23 = 0 then (
                            some ((0 : Int32), s22))
                          else (
                            gd (vp_in (s22.1 35 7) 16) (nm (zwr s22 41 (s22.1 35 7).toNatClampNeg (s22.1 35 2)) (fun s26 =>
                              nm (zwr s26 35 7 ((s26.1 35 7) + (1 : Int32))) (fun s27 =>
                                some ((1 : Int32), s27))))))))))))))))))))
  else (
    bd (F_X1_wrong (4 : Int32) σ) (fun q29 s28 =>
      gd (q29 = 0 ∨ q29 = 1) (some (q29, s28))))
set_option maxHeartbeats 4000000 in
set_option maxRecDepth 100000 in
theorem p_X1_readClause_23 {G : zG} {C : zC} {r : Int32} {τ : zSt} (hR : zR G C (some .boolean) (some (.int r)) τ) (x1 : Int32) (σ : zSt) (h : F_X1_readClause_23 x1 σ = some (r, τ)) : zAW G 207 RX1 cX1_readClause 2 C 23 [(0, .ref (zad G 35)), (1, .int x1)] [] σ := by
  unfold F_X1_readClause_23 at h
  refine z_aload e_X1_readClause_23 0 rfl ?_
  refine z_geti gf_X1_42_35 e_X1_readClause_24 ?_
  refine z_ic e_X1_readClause_27 ?_
  refine z_icmp_lt e_X1_readClause_29 h (fun c5 h => ?_) (fun c5 h => ?_)
  · refine z_aload e_X1_readClause_38 0 rfl ?_
    refine z_getr gf_X1_18_35 e_X1_readClause_39 ?_
    refine z_aload e_X1_readClause_42 0 rfl ?_
    refine z_geti gf_X1_42_35 e_X1_readClause_43 ?_
    refine z_iload e_X1_readClause_46 1 rfl ?_
    refine z_iast sh_38 e_X1_readClause_47 h (fun s6 h => ?_)
    refine z_aload e_X1_readClause_48 0 rfl ?_
    refine z_getr gf_X1_21_35 e_X1_readClause_49 ?_
    refine z_aload e_X1_readClause_52 0 rfl ?_
    refine z_geti gf_X1_42_35 e_X1_readClause_53 ?_
    refine z_aload e_X1_readClause_56 0 rfl ?_
    refine z_geti gf_X1_68_35 e_X1_readClause_57 ?_
    refine z_iast sh_39 e_X1_readClause_60 h (fun s7 h => ?_)
    refine z_aload e_X1_readClause_61 0 rfl ?_
    refine z_dup e_X1_readClause_62 rfl ?_
    refine z_geti gf_X1_66_35 e_X1_readClause_63 ?_
    refine z_ic e_X1_readClause_66 ?_
    refine z_iadd e_X1_readClause_67 ?_
    refine z_puti pf_X1_66_35 e_X1_readClause_68 h (fun s8 h => ?_)
    refine z_aload e_X1_readClause_71 0 rfl ?_
    refine z_ic e_X1_readClause_72 ?_
    obtain ⟨q10, s9, e11, h⟩ := bd_e h
    refine z_callVi (c0 := 35) (As := [.int (0 : Int32)]) (rest := []) lk_X1_89 ob_35 e_X1_readClause_73 (m_X1_readSum G (0 : Int32) s8 _ _ e11) (by decide) rfl (Nat.le_of_ble_eq_true rfl) ?_
    refine z_if_ne e_X1_readClause_76 h (fun c12 h => ?_) (fun c12 h => ?_)
    · refine z_ic e_X1_readClause_79 ?_
      cases h
      exact z_zreturn hR e_X1_readClause_80 (Or.inl rfl)
    · refine z_aload e_X1_readClause_81 0 rfl ?_
      refine z_getr gf_X1_24_35 e_X1_readClause_82 ?_
      refine z_aload e_X1_readClause_85 0 rfl ?_
      refine z_geti gf_X1_42_35 e_X1_readClause_86 ?_
      refine z_aload e_X1_readClause_89 0 rfl ?_
      refine z_geti gf_X1_68_35 e_X1_readClause_90 ?_
      refine z_iast sh_40 e_X1_readClause_93 h (fun s13 h => ?_)
      refine z_aload e_X1_readClause_94 0 rfl ?_
      refine z_ic e_X1_readClause_95 ?_
      obtain ⟨q15, s14, e16, h⟩ := bd_e h
      refine z_callVi (c0 := 35) (As := [.int (40 : Int32)]) (rest := []) lk_X1_78 ob_35 e_X1_readClause_97 (m_X1_readSign G (40 : Int32) s13 _ _ e16) (by decide) rfl (Nat.le_of_ble_eq_true rfl) ?_
      refine z_if_eq e_X1_readClause_100 h (fun c17 h => ?_) (fun c17 h => ?_)
      · refine z_ic e_X1_readClause_120 ?_
        cases h
        exact z_zreturn hR e_X1_readClause_121 (Or.inl rfl)
      · refine z_aload e_X1_readClause_103 0 rfl ?_
        refine z_ic e_X1_readClause_104 ?_
        obtain ⟨q19, s18, e20, h⟩ := bd_e h
        refine z_callVi (c0 := 35) (As := [.int (1 : Int32)]) (rest := []) lk_X1_92 ob_35 e_X1_readClause_105 (m_X1_readCondition G (1 : Int32) s14 _ _ e20) (by decide) rfl (Nat.le_of_ble_eq_true rfl) ?_
        refine z_if_eq e_X1_readClause_108 h (fun c21 h => ?_) (fun c21 h => ?_)
        · refine z_ic e_X1_readClause_120 ?_
          cases h
          exact z_zreturn hR e_X1_readClause_121 (Or.inl rfl)
        · refine z_aload e_X1_readClause_111 0 rfl ?_
          refine z_ic e_X1_readClause_112 ?_
          obtain ⟨q23, s22, e24, h⟩ := bd_e h
          refine z_callVi (c0 := 35) (As := [.int (41 : Int32)]) (rest := []) lk_X1_78 ob_35 e_X1_readClause_114 (m_X1_readSign G (41 : Int32) s18 _ _ e24) (by decide) rfl (Nat.le_of_ble_eq_true rfl) ?_
          refine z_if_ne e_X1_readClause_117 h (fun c25 h => ?_) (fun c25 h => ?_)
          · refine z_ic e_X1_readClause_120 ?_
            cases h
            exact z_zreturn hR e_X1_readClause_121 (Or.inl rfl)
          · refine z_aload e_X1_readClause_122 0 rfl ?_
            refine z_getr gf_X1_27_35 e_X1_readClause_123 ?_
            refine z_aload e_X1_readClause_126 0 rfl ?_
            refine z_geti gf_X1_42_35 e_X1_readClause_127 ?_
            refine z_aload e_X1_readClause_130 0 rfl ?_
            refine z_geti gf_X1_68_35 e_X1_readClause_131 ?_
            refine z_iast sh_41 e_X1_readClause_134 h (fun s26 h => ?_)
            refine z_aload e_X1_readClause_135 0 rfl ?_
            refine z_dup e_X1_readClause_136 rfl ?_
            refine z_geti gf_X1_42_35 e_X1_readClause_137 ?_
            refine z_ic e_X1_readClause_140 ?_
            refine z_iadd e_X1_readClause_141 ?_
            refine z_puti pf_X1_42_35 e_X1_readClause_142 h (fun s27 h => ?_)
            refine z_ic e_X1_readClause_145 ?_
            cases h
            exact z_zreturn hR e_X1_readClause_146 (Or.inr rfl)
  · refine z_aload e_X1_readClause_32 0 rfl ?_
    refine z_ic e_X1_readClause_33 ?_
    obtain ⟨q29, s28, e30, h⟩ := bd_e h
    refine z_callVi (c0 := 35) (As := [.int (4 : Int32)]) (rest := []) lk_X1_86 ob_35 e_X1_readClause_34 (m_X1_wrong G (4 : Int32) σ _ _ e30) (by decide) rfl (Nat.le_of_ble_eq_true rfl) ?_
    obtain ⟨hb31, h⟩ := gd_e h
    cases h
    exact z_zreturn hR e_X1_readClause_37 hb31
noncomputable def F_X1_readClause_0 (σ : zSt) : Option (Int32 × zSt) :=
  bd (F_X1_here σ) (fun q2 s1 =>
    if q2 = (109 : Int32) then (
      F_X1_readClause_23 q2 s1)
    else (
      if q2 = (108 : Int32) then (
        F_X1_readClause_23 q2 s1)
      else (
        bd (F_X1_wrong (1 : Int32) s1) (fun q34 s33 =>
          gd (q34 = 0 ∨ q34 = 1) (some (q34, s33))))))
set_option maxHeartbeats 4000000 in
set_option maxRecDepth 100000 in
theorem p_X1_readClause_0 {G : zG} {C : zC} {r : Int32} {τ : zSt} (hR : zR G C (some .boolean) (some (.int r)) τ)  (σ : zSt) (h : F_X1_readClause_0 σ = some (r, τ)) : zAW G 207 RX1 cX1_readClause 2 C 0 [(0, .ref (zad G 35))] [] σ := by
  unfold F_X1_readClause_0 at h
  refine z_aload e_X1_readClause_0 0 rfl ?_
  obtain ⟨q2, s1, e3, h⟩ := bd_e h
  refine z_callVi (c0 := 35) (As := []) (rest := []) lk_X1_82 ob_35 e_X1_readClause_1 (m_X1_here G σ _ _ e3) (by decide) rfl (Nat.le_of_ble_eq_true rfl) ?_
  refine z_istore e_X1_readClause_4 (by decide) [(1, .int q2), (0, .ref (zad G 35))] rfl ?_
  refine z_iload e_X1_readClause_5 0 rfl ?_
  refine z_ic e_X1_readClause_6 ?_
  refine z_icmp_eq e_X1_readClause_8 h (fun c4 h => ?_) (fun c4 h => ?_)
  · exact z_sub [1, 0] rfl (p_X1_readClause_23 hR q2 s1 h)
  · refine z_iload e_X1_readClause_11 0 rfl ?_
    refine z_ic e_X1_readClause_12 ?_
    refine z_icmp_eq e_X1_readClause_14 h (fun c32 h => ?_) (fun c32 h => ?_)
    · exact z_sub [1, 0] rfl (p_X1_readClause_23 hR q2 s1 h)
    · refine z_aload e_X1_readClause_17 1 rfl ?_
      refine z_ic e_X1_readClause_18 ?_
      obtain ⟨q34, s33, e35, h⟩ := bd_e h
      refine z_callVi (c0 := 35) (As := [.int (1 : Int32)]) (rest := []) lk_X1_86 ob_35 e_X1_readClause_19 (m_X1_wrong G (1 : Int32) s1 _ _ e35) (by decide) rfl (Nat.le_of_ble_eq_true rfl) ?_
      obtain ⟨hb36, h⟩ := gd_e h
      cases h
      exact z_zreturn hR e_X1_readClause_22 hb36
noncomputable def F_X1_readClause (σ : zSt) : Option (Int32 × zSt) := F_X1_readClause_0  σ
set_option maxRecDepth 100000 in
theorem m_X1_readClause (G : zG) (σ : zSt) (q : Int32) (τ : zSt) (h : F_X1_readClause  σ = some (q, τ)) : zM G 207 yX1_readClause cX1_readClause 2 (some .boolean) [.ref (zad G 35)] σ (some (.int q)) τ := by
  unfold F_X1_readClause at h
  refine zM.of (own := RX1) (by decide +kernel) rfl (Nat.le_of_ble_eq_true rfl) (fun C hR => ?_)
  exact z_sub [0] rfl (p_X1_readClause_0 hR  σ h)
noncomputable def F_X8_at_0 (x1 : Int32) (σ : zSt) : Option (Int32 × zSt) :=
  if x1 < 0 then (
    some ((-1 : Int32), σ))
  else (
    if (σ.1 33 2) ≤ x1 then (
      some ((-1 : Int32), σ))
    else (
      if (260 : Int32) ≤ x1 then (
        some ((-1 : Int32), σ))
      else (
        gd (vp_in x1 260) (
          some ((σ.1 34 x1.toNatClampNeg), σ)))))
set_option maxHeartbeats 4000000 in
set_option maxRecDepth 100000 in
theorem p_X8_at_0 {G : zG} {C : zC} {r : Int32} {τ : zSt} (hR : zR G C (some .int) (some (.int r)) τ) (x1 : Int32) (σ : zSt) (h : F_X8_at_0 x1 σ = some (r, τ)) : zAW G 1 RX8 cX8_at 2 C 0 [(0, .ref (zad G 33)), (1, .int x1)] [] σ := by
  unfold F_X8_at_0 at h
  refine z_iload e_X8_at_0 1 rfl ?_
  refine z_if_lt e_X8_at_1 h (fun c1 h => ?_) (fun c1 h => ?_)
  · refine z_ic e_X8_at_28 ?_
    cases h
    exact z_ireturn hR e_X8_at_29
  · refine z_iload e_X8_at_4 1 rfl ?_
    refine z_aload e_X8_at_5 0 rfl ?_
    refine z_geti gf_X8_23_33 e_X8_at_6 ?_
    refine z_icmp_ge e_X8_at_9 h (fun c2 h => ?_) (fun c2 h => ?_)
    · refine z_ic e_X8_at_28 ?_
      cases h
      exact z_ireturn hR e_X8_at_29
    · refine z_iload e_X8_at_12 1 rfl ?_
      refine z_ic e_X8_at_13 ?_
      refine z_icmp_ge e_X8_at_16 h (fun c3 h => ?_) (fun c3 h => ?_)
      · refine z_ic e_X8_at_28 ?_
        cases h
        exact z_ireturn hR e_X8_at_29
      · refine z_aload e_X8_at_19 0 rfl ?_
        refine z_getr gf_X8_11_33 e_X8_at_20 ?_
        refine z_iload e_X8_at_23 1 rfl ?_
        refine z_iald sh_34 e_X8_at_24 h (fun h => ?_)
        refine z_goto e_X8_at_25 ?_
        cases h
        exact z_ireturn hR e_X8_at_29
noncomputable def F_X8_at (x1 : Int32) (σ : zSt) : Option (Int32 × zSt) := F_X8_at_0 x1 σ
set_option maxRecDepth 100000 in
theorem m_X8_at (G : zG) (x1 : Int32) (σ : zSt) (q : Int32) (τ : zSt) (h : F_X8_at x1 σ = some (q, τ)) : zM G 1 yX8_at cX8_at 2 (some .int) [.ref (zad G 33), .int x1] σ (some (.int q)) τ := by
  unfold F_X8_at at h
  refine zM.of (own := RX8) (by decide +kernel) rfl (Nat.le_of_ble_eq_true rfl) (fun C hR => ?_)
  exact z_sub [0, 1] rfl (p_X8_at_0 hR x1 σ h)
noncomputable def F_X1_read_63 (w63 : (Int32 × zSt) → Option (Int32 × zSt)) (x2 : Int32) (σ : zSt) : Option (Int32 × zSt) :=
  if (16 : Int32) < x2 then (
    some ((σ.1 35 12), σ))
  else (
    bd (F_X1_readClause σ) (fun q9 s8 =>
      if q9 = 0 then (
        some ((s8.1 35 12), s8))
      else (
        if (s8.1 35 11) = (s8.1 35 10) then (
          some ((s8.1 35 7), s8))
        else (
          bd (F_X1_readSign (59 : Int32) s8) (fun q14 s13 =>
            if q14 = 0 then (
              some ((s13.1 35 12), s13))
            else (
              nm (x2 + (1 : Int32)) (fun v17 =>
                w63 (v17, s13))))))))
set_option maxHeartbeats 4000000 in
set_option maxRecDepth 100000 in
theorem b_X1_read_63 {G : zG} {C : zC} {r : Int32} {τ : zSt} (hR : zR G C (some .int) (some (.int r)) τ) (w63 : (Int32 × zSt) → Option (Int32 × zSt)) (hw63 : ∀ (x2 : Int32) (σ : zSt), w63 (x2, σ) = some (r, τ) → zAW G 208 RX1 cX1_read 3 C 63 [(0, .ref (zad G 35)), (2, .int x2)] [] σ) (x2 : Int32) (σ : zSt) (h : F_X1_read_63 w63 x2 σ = some (r, τ)) : zAW G 208 RX1 cX1_read 3 C 63 [(0, .ref (zad G 35)), (2, .int x2)] [] σ := by
  unfold F_X1_read_63 at h
  refine z_iload e_X1_read_63 1 rfl ?_
  refine z_ic e_X1_read_64 ?_
  refine z_icmp_gt e_X1_read_66 h (fun c7 h => ?_) (fun c7 h => ?_)
  · refine z_aload e_X1_read_117 0 rfl ?_
    refine z_geti gf_X1_75_35 e_X1_read_118 ?_
    cases h
    exact z_ireturn hR e_X1_read_121
  · refine z_aload e_X1_read_69 0 rfl ?_
    obtain ⟨q9, s8, e10, h⟩ := bd_e h
    refine z_callVi (c0 := 35) (As := []) (rest := []) lk_X1_71 ob_35 e_X1_read_70 (m_X1_readClause G σ _ _ e10) (by decide) rfl (Nat.le_of_ble_eq_true rfl) ?_
    refine z_if_ne e_X1_read_73 h (fun c11 h => ?_) (fun c11 h => ?_)
    · refine z_aload e_X1_read_76 0 rfl ?_
      refine z_geti gf_X1_75_35 e_X1_read_77 ?_
      cases h
      exact z_ireturn hR e_X1_read_80
    · refine z_aload e_X1_read_81 0 rfl ?_
      refine z_geti gf_X1_66_35 e_X1_read_82 ?_
      refine z_aload e_X1_read_85 0 rfl ?_
      refine z_geti gf_X1_61_35 e_X1_read_86 ?_
      refine z_icmp_ne e_X1_read_89 h (fun c12 h => ?_) (fun c12 h => ?_)
      · refine z_aload e_X1_read_92 0 rfl ?_
        refine z_geti gf_X1_42_35 e_X1_read_93 ?_
        cases h
        exact z_ireturn hR e_X1_read_96
      · refine z_aload e_X1_read_97 0 rfl ?_
        refine z_ic e_X1_read_98 ?_
        obtain ⟨q14, s13, e15, h⟩ := bd_e h
        refine z_callVi (c0 := 35) (As := [.int (59 : Int32)]) (rest := []) lk_X1_78 ob_35 e_X1_read_100 (m_X1_readSign G (59 : Int32) s8 _ _ e15) (by decide) rfl (Nat.le_of_ble_eq_true rfl) ?_
        refine z_if_ne e_X1_read_103 h (fun c16 h => ?_) (fun c16 h => ?_)
        · refine z_aload e_X1_read_106 0 rfl ?_
          refine z_geti gf_X1_75_35 e_X1_read_107 ?_
          cases h
          exact z_ireturn hR e_X1_read_110
        · refine z_iinc e_X1_read_111 1 rfl (by decide) (by decide) h (fun y => [(2, .int y), (0, .ref (zad G 35))]) (fun _ => rfl) (fun v17 h => ?_)
          refine z_goto e_X1_read_114 ?_
          exact z_sub [1, 0] rfl (hw63 v17 s13 h)
noncomputable def F_X1_read_63L  : ((Int32 × zSt) → Option (Int32 × zSt)) → (Int32 × zSt) → Option (Int32 × zSt) := fun w s => F_X1_read_63 w s.1 s.2
set_option maxRecDepth 100000 in
theorem l_X1_read_63 {G : zG} {C : zC} {r : Int32} {τ : zSt} (hR : zR G C (some .int) (some (.int r)) τ)  : ∀ (N : Nat) (x2 : Int32) (σ : zSt), zfix (F_X1_read_63L ) N (x2, σ) = some (r, τ) → zAW G 208 RX1 cX1_read 3 C 63 [(0, .ref (zad G 35)), (2, .int x2)] [] σ := by
  intro N
  induction N with
  | zero =>
    intro x2 σ h
    exact nomatch (show (none : Option (Int32 × zSt)) = some (r, τ) from h)
  | succ N ih =>
    intro x2 σ h
    exact b_X1_read_63 hR (zfix (F_X1_read_63L ) N) ih x2 σ h
noncomputable def F_X1_read_41 (σ : zSt) : Option (Int32 × zSt) :=
  nm (zwr σ 35 11 (0 : Int32)) (fun s3 =>
    nm (zwr s3 35 2 (0 : Int32)) (fun s4 =>
      nm (zwr s4 35 7 (0 : Int32)) (fun s5 =>
        nm (zwr s5 35 8 (0 : Int32)) (fun s6 =>
          zfix (F_X1_read_63L ) zlim ((0 : Int32), s6)))))
set_option maxHeartbeats 4000000 in
set_option maxRecDepth 100000 in
theorem p_X1_read_41 {G : zG} {C : zC} {r : Int32} {τ : zSt} (hR : zR G C (some .int) (some (.int r)) τ)  (σ : zSt) (h : F_X1_read_41 σ = some (r, τ)) : zAW G 208 RX1 cX1_read 3 C 41 [(0, .ref (zad G 35))] [] σ := by
  unfold F_X1_read_41 at h
  refine z_aload e_X1_read_41 0 rfl ?_
  refine z_ic e_X1_read_42 ?_
  refine z_puti pf_X1_66_35 e_X1_read_43 h (fun s3 h => ?_)
  refine z_aload e_X1_read_46 0 rfl ?_
  refine z_ic e_X1_read_47 ?_
  refine z_puti pf_X1_68_35 e_X1_read_48 h (fun s4 h => ?_)
  refine z_aload e_X1_read_51 0 rfl ?_
  refine z_ic e_X1_read_52 ?_
  refine z_puti pf_X1_42_35 e_X1_read_53 h (fun s5 h => ?_)
  refine z_aload e_X1_read_56 0 rfl ?_
  refine z_ic e_X1_read_57 ?_
  refine z_putb pf_X1_46_35 e_X1_read_58 (Or.inl rfl) h (fun s6 h => ?_)
  refine z_ic e_X1_read_61 ?_
  refine z_istore e_X1_read_62 (by decide) [(2, .int (0 : Int32)), (0, .ref (zad G 35))] rfl ?_
  exact z_sub [1, 0] rfl (l_X1_read_63 hR  zlim (0 : Int32) s6 h)
noncomputable def F_X1_read_16 (w16 : (Int32 × zSt) → Option (Int32 × zSt)) (x2 : Int32) (σ : zSt) : Option (Int32 × zSt) :=
  if (σ.1 35 10) ≤ x2 then (
    F_X1_read_41  σ)
  else (
    bd (F_X8_at x2 σ) (fun q19 s18 =>
      gd (vp_in x2 240) (nm (zwr s18 42 x2.toNatClampNeg q19) (fun s21 =>
        nm (x2 + (1 : Int32)) (fun v22 =>
          w16 (v22, s21))))))
set_option maxHeartbeats 4000000 in
set_option maxRecDepth 100000 in
theorem b_X1_read_16 {G : zG} {C : zC} {r : Int32} {τ : zSt} (hR : zR G C (some .int) (some (.int r)) τ) (w16 : (Int32 × zSt) → Option (Int32 × zSt)) (hw16 : ∀ (x2 : Int32) (σ : zSt), w16 (x2, σ) = some (r, τ) → zAW G 208 RX1 cX1_read 3 C 16 [(0, .ref (zad G 35)), (1, .ref (zad G 33)), (2, .int x2)] [] σ) (x2 : Int32) (σ : zSt) (h : F_X1_read_16 w16 x2 σ = some (r, τ)) : zAW G 208 RX1 cX1_read 3 C 16 [(0, .ref (zad G 35)), (1, .ref (zad G 33)), (2, .int x2)] [] σ := by
  unfold F_X1_read_16 at h
  refine z_iload e_X1_read_16 2 rfl ?_
  refine z_aload e_X1_read_17 0 rfl ?_
  refine z_geti gf_X1_61_35 e_X1_read_18 ?_
  refine z_icmp_ge e_X1_read_21 h (fun c2 h => ?_) (fun c2 h => ?_)
  · exact z_sub [0] rfl (p_X1_read_41 hR  σ h)
  · refine z_aload e_X1_read_24 0 rfl ?_
    refine z_getr gf_X1_30_35 e_X1_read_25 ?_
    refine z_iload e_X1_read_28 2 rfl ?_
    refine z_aload e_X1_read_29 1 rfl ?_
    refine z_iload e_X1_read_30 2 rfl ?_
    obtain ⟨q19, s18, e20, h⟩ := bd_e h
    refine z_callVi (c0 := 33) (As := [.int x2]) (rest := [.int x2, .ref (zad G 42)]) lk_X1_62 ob_33 e_X1_read_31 (m_X8_at G x2 σ _ _ e20) (by decide) rfl (Nat.le_of_ble_eq_true rfl) ?_
    refine z_iast sh_42 e_X1_read_34 h (fun s21 h => ?_)
    refine z_iinc e_X1_read_35 2 rfl (by decide) (by decide) h (fun y => [(2, .int y), (0, .ref (zad G 35)), (1, .ref (zad G 33))]) (fun _ => rfl) (fun v22 h => ?_)
    refine z_goto e_X1_read_38 ?_
    exact z_sub [1, 2, 0] rfl (hw16 v22 s21 h)
noncomputable def F_X1_read_16L  : ((Int32 × zSt) → Option (Int32 × zSt)) → (Int32 × zSt) → Option (Int32 × zSt) := fun w s => F_X1_read_16 w s.1 s.2
set_option maxRecDepth 100000 in
theorem l_X1_read_16 {G : zG} {C : zC} {r : Int32} {τ : zSt} (hR : zR G C (some .int) (some (.int r)) τ)  : ∀ (N : Nat) (x2 : Int32) (σ : zSt), zfix (F_X1_read_16L ) N (x2, σ) = some (r, τ) → zAW G 208 RX1 cX1_read 3 C 16 [(0, .ref (zad G 35)), (1, .ref (zad G 33)), (2, .int x2)] [] σ := by
  intro N
  induction N with
  | zero =>
    intro x2 σ h
    exact nomatch (show (none : Option (Int32 × zSt)) = some (r, τ) from h)
  | succ N ih =>
    intro x2 σ h
    exact b_X1_read_16 hR (zfix (F_X1_read_16L ) N) ih x2 σ h
noncomputable def F_X1_read_0 (σ : zSt) : Option (Int32 × zSt) :=
  nm (zwr σ 35 10 (jmin (σ.1 33 2) (240 : Int32))) (fun s1 =>
    zfix (F_X1_read_16L ) zlim ((0 : Int32), s1))
set_option maxHeartbeats 4000000 in
set_option maxRecDepth 100000 in
theorem p_X1_read_0 {G : zG} {C : zC} {r : Int32} {τ : zSt} (hR : zR G C (some .int) (some (.int r)) τ)  (σ : zSt) (h : F_X1_read_0 σ = some (r, τ)) : zAW G 208 RX1 cX1_read 3 C 0 [(0, .ref (zad G 35)), (1, .ref (zad G 33))] [] σ := by
  unfold F_X1_read_0 at h
  refine z_aload e_X1_read_0 0 rfl ?_
  refine z_aload e_X1_read_1 1 rfl ?_
  refine z_geti gf_X1_50_33 e_X1_read_2 ?_
  refine z_ic e_X1_read_5 ?_
  refine z_jmin mm_X1_55 (Nat.le_of_ble_eq_true rfl) (by decide) e_X1_read_8 ?_
  refine z_puti pf_X1_61_35 e_X1_read_11 h (fun s1 h => ?_)
  refine z_ic e_X1_read_14 ?_
  refine z_istore e_X1_read_15 (by decide) [(2, .int (0 : Int32)), (0, .ref (zad G 35)), (1, .ref (zad G 33))] rfl ?_
  exact z_sub [1, 2, 0] rfl (l_X1_read_16 hR  zlim (0 : Int32) s1 h)
noncomputable def F_X1_read (σ : zSt) : Option (Int32 × zSt) := F_X1_read_0  σ
set_option maxRecDepth 100000 in
theorem m_X1_read (G : zG) (σ : zSt) (q : Int32) (τ : zSt) (h : F_X1_read  σ = some (q, τ)) : zM G 208 yX1_read cX1_read 3 (some .int) [.ref (zad G 35), .ref (zad G 33)] σ (some (.int q)) τ := by
  unfold F_X1_read at h
  refine zM.of (own := RX1) (by decide +kernel) rfl (Nat.le_of_ble_eq_true rfl) (fun C hR => ?_)
  exact z_sub [0, 1] rfl (p_X1_read_0 hR  σ h)
noncomputable def F_X1_takeOver_0 (σ : zSt) : Option (Unit × zSt) :=
  nm (zrow σ 9 (va_cpy (σ.1 36) (σ.1 9) 0 0 240)) (fun s1 =>
    nm (zrow s1 10 (va_cpy (s1.1 37) (s1.1 10) 0 0 240)) (fun s2 =>
      nm (zrow s2 11 (va_cpy (s2.1 38) (s2.1 11) 0 0 16)) (fun s3 =>
        nm (zrow s3 12 (va_cpy (s3.1 39) (s3.1 12) 0 0 16)) (fun s4 =>
          nm (zrow s4 13 (va_cpy (s4.1 40) (s4.1 13) 0 0 16)) (fun s5 =>
            nm (zrow s5 14 (va_cpy (s5.1 41) (s5.1 14) 0 0 16)) (fun s6 =>
              nm (zwr s6 8 7 (s6.1 35 7)) (fun s7 =>
                gd ((s7.1 35 8) = 0 ∨ (s7.1 35 8) = 1) (nm (zwr s7 8 8 (s7.1 35 8)) (fun s8 =>
                  some ((), s8))))))))))
set_option maxHeartbeats 4000000 in
set_option maxRecDepth 100000 in
theorem p_X1_takeOver_0 {G : zG} {C : zC} {r : Unit} {τ : zSt} (hR : zR G C none none τ)  (σ : zSt) (h : F_X1_takeOver_0 σ = some (r, τ)) : zAW G 1 RX1 cX1_takeOver 2 C 0 [(0, .ref (zad G 8)), (1, .ref (zad G 35))] [] σ := by
  unfold F_X1_takeOver_0 at h
  refine z_aload e_X1_takeOver_0 1 rfl ?_
  refine z_getr gf_X1_11_35 e_X1_takeOver_1 ?_
  refine z_ic e_X1_takeOver_4 ?_
  refine z_aload e_X1_takeOver_5 0 rfl ?_
  refine z_getr gf_X1_11_8 e_X1_takeOver_6 ?_
  refine z_ic e_X1_takeOver_9 ?_
  refine z_ic e_X1_takeOver_10 ?_
  refine z_copyi ac_X1_36 sh_36 sh_9 ⟨by decide, rfl⟩ ⟨by decide, by decide⟩ (by decide) e_X1_takeOver_13 h (fun s1 h => ?_)
  refine z_aload e_X1_takeOver_16 1 rfl ?_
  refine z_getr gf_X1_15_35 e_X1_takeOver_17 ?_
  refine z_ic e_X1_takeOver_20 ?_
  refine z_aload e_X1_takeOver_21 0 rfl ?_
  refine z_getr gf_X1_15_8 e_X1_takeOver_22 ?_
  refine z_ic e_X1_takeOver_25 ?_
  refine z_ic e_X1_takeOver_26 ?_
  refine z_copyi ac_X1_36 sh_37 sh_10 ⟨by decide, rfl⟩ ⟨by decide, by decide⟩ (by decide) e_X1_takeOver_29 h (fun s2 h => ?_)
  refine z_aload e_X1_takeOver_32 1 rfl ?_
  refine z_getr gf_X1_18_35 e_X1_takeOver_33 ?_
  refine z_ic e_X1_takeOver_36 ?_
  refine z_aload e_X1_takeOver_37 0 rfl ?_
  refine z_getr gf_X1_18_8 e_X1_takeOver_38 ?_
  refine z_ic e_X1_takeOver_41 ?_
  refine z_ic e_X1_takeOver_42 ?_
  refine z_copyi ac_X1_36 sh_38 sh_11 ⟨by decide, rfl⟩ ⟨by decide, by decide⟩ (by decide) e_X1_takeOver_44 h (fun s3 h => ?_)
  refine z_aload e_X1_takeOver_47 1 rfl ?_
  refine z_getr gf_X1_21_35 e_X1_takeOver_48 ?_
  refine z_ic e_X1_takeOver_51 ?_
  refine z_aload e_X1_takeOver_52 0 rfl ?_
  refine z_getr gf_X1_21_8 e_X1_takeOver_53 ?_
  refine z_ic e_X1_takeOver_56 ?_
  refine z_ic e_X1_takeOver_57 ?_
  refine z_copyi ac_X1_36 sh_39 sh_12 ⟨by decide, rfl⟩ ⟨by decide, by decide⟩ (by decide) e_X1_takeOver_59 h (fun s4 h => ?_)
  refine z_aload e_X1_takeOver_62 1 rfl ?_
  refine z_getr gf_X1_24_35 e_X1_takeOver_63 ?_
  refine z_ic e_X1_takeOver_66 ?_
  refine z_aload e_X1_takeOver_67 0 rfl ?_
  refine z_getr gf_X1_24_8 e_X1_takeOver_68 ?_
  refine z_ic e_X1_takeOver_71 ?_
  refine z_ic e_X1_takeOver_72 ?_
  refine z_copyi ac_X1_36 sh_40 sh_13 ⟨by decide, rfl⟩ ⟨by decide, by decide⟩ (by decide) e_X1_takeOver_74 h (fun s5 h => ?_)
  refine z_aload e_X1_takeOver_77 1 rfl ?_
  refine z_getr gf_X1_27_35 e_X1_takeOver_78 ?_
  refine z_ic e_X1_takeOver_81 ?_
  refine z_aload e_X1_takeOver_82 0 rfl ?_
  refine z_getr gf_X1_27_8 e_X1_takeOver_83 ?_
  refine z_ic e_X1_takeOver_86 ?_
  refine z_ic e_X1_takeOver_87 ?_
  refine z_copyi ac_X1_36 sh_41 sh_14 ⟨by decide, rfl⟩ ⟨by decide, by decide⟩ (by decide) e_X1_takeOver_89 h (fun s6 h => ?_)
  refine z_aload e_X1_takeOver_92 0 rfl ?_
  refine z_aload e_X1_takeOver_93 1 rfl ?_
  refine z_geti gf_X1_42_35 e_X1_takeOver_94 ?_
  refine z_puti pf_X1_42_8 e_X1_takeOver_97 h (fun s7 h => ?_)
  refine z_aload e_X1_takeOver_100 0 rfl ?_
  refine z_aload e_X1_takeOver_101 1 rfl ?_
  refine z_geti gf_X1_46_35 e_X1_takeOver_102 ?_
  obtain ⟨hb9, h⟩ := gd_e h
  refine z_putb pf_X1_46_8 e_X1_takeOver_105 hb9 h (fun s8 h => ?_)
  cases h
  exact z_vreturn hR e_X1_takeOver_108
noncomputable def F_X1_takeOver (σ : zSt) : Option (Unit × zSt) := F_X1_takeOver_0  σ
set_option maxRecDepth 100000 in
theorem m_X1_takeOver (G : zG) (σ : zSt) (q : Unit) (τ : zSt) (h : F_X1_takeOver  σ = some (q, τ)) : zM G 1 yX1_takeOver cX1_takeOver 2 none [.ref (zad G 8), .ref (zad G 35)] σ none τ := by
  unfold F_X1_takeOver at h
  refine zM.of (own := RX1) (by decide +kernel) rfl (Nat.le_of_ble_eq_true rfl) (fun C hR => ?_)
  exact z_sub [0, 1] rfl (p_X1_takeOver_0 hR  σ h)
noncomputable def F_X11_law_0 (x1 : Int32) (σ : zSt) : Option (Int32 × zSt) :=
  if x1 < (1 : Int32) then (
    some ((-1 : Int32), σ))
  else (
    if (240 : Int32) < x1 then (
      some ((-1 : Int32), σ))
    else (
      bd (F_X8_take x1 σ) (fun q4 s3 =>
        if q4 = 0 then (
          some ((-1 : Int32), s3))
        else (
          bd (F_X1_read s3) (fun q8 s7 =>
            if q8 ≤ 0 then (
              some (q8, s7))
            else (
              bd (F_X1_takeOver s7) (fun _ s11 =>
                some (q8, s11))))))))
set_option maxHeartbeats 4000000 in
set_option maxRecDepth 100000 in
theorem p_X11_law_0 {G : zG} {C : zC} {r : Int32} {τ : zSt} (hR : zR G C (some .int) (some (.int r)) τ) (x1 : Int32) (σ : zSt) (h : F_X11_law_0 x1 σ = some (r, τ)) : zAW G 209 RX11 cX11_law 3 C 0 [(0, .ref (zad G 0)), (1, .int x1)] [] σ := by
  unfold F_X11_law_0 at h
  refine z_iload e_X11_law_0 1 rfl ?_
  refine z_ic e_X11_law_1 ?_
  refine z_icmp_lt e_X11_law_2 h (fun c1 h => ?_) (fun c1 h => ?_)
  · refine z_ic e_X11_law_23 ?_
    cases h
    exact z_ireturn hR e_X11_law_24
  · refine z_iload e_X11_law_5 1 rfl ?_
    refine z_ic e_X11_law_6 ?_
    refine z_icmp_gt e_X11_law_9 h (fun c2 h => ?_) (fun c2 h => ?_)
    · refine z_ic e_X11_law_23 ?_
      cases h
      exact z_ireturn hR e_X11_law_24
    · refine z_aload e_X11_law_12 0 rfl ?_
      refine z_getr gf_X11_39_0 e_X11_law_13 ?_
      refine z_iload e_X11_law_16 1 rfl ?_
      obtain ⟨q4, s3, e5, h⟩ := bd_e h
      refine z_callVi (c0 := 33) (As := [.int x1]) (rest := []) lk_X11_143 ob_33 e_X11_law_17 (m_X8_take G x1 σ _ _ e5) (by decide) rfl (Nat.le_of_ble_eq_true rfl) ?_
      refine z_if_ne e_X11_law_20 h (fun c6 h => ?_) (fun c6 h => ?_)
      · refine z_ic e_X11_law_23 ?_
        cases h
        exact z_ireturn hR e_X11_law_24
      · refine z_aload e_X11_law_25 0 rfl ?_
        refine z_getr gf_X11_47_0 e_X11_law_26 ?_
        refine z_aload e_X11_law_29 0 rfl ?_
        refine z_getr gf_X11_39_0 e_X11_law_30 ?_
        obtain ⟨q8, s7, e9, h⟩ := bd_e h
        refine z_callVi (c0 := 35) (As := [.ref (zad G 33)]) (rest := []) lk_X11_146 ob_35 e_X11_law_33 (m_X1_read G s3 _ _ e9) (by decide) rfl (Nat.le_of_ble_eq_true rfl) ?_
        refine z_istore e_X11_law_36 (by decide) [(2, .int q8), (0, .ref (zad G 0)), (1, .int x1)] rfl ?_
        refine z_iload e_X11_law_37 0 rfl ?_
        refine z_if_le e_X11_law_38 h (fun c10 h => ?_) (fun c10 h => ?_)
        · refine z_iload e_X11_law_52 0 rfl ?_
          cases h
          exact z_ireturn hR e_X11_law_53
        · refine z_aload e_X11_law_41 1 rfl ?_
          refine z_getr gf_X11_43_0 e_X11_law_42 ?_
          refine z_aload e_X11_law_45 1 rfl ?_
          refine z_getr gf_X11_47_0 e_X11_law_46 ?_
          obtain ⟨q12, s11, e13, h⟩ := bd_e h
          refine z_callVv (c0 := 8) (As := [.ref (zad G 35)]) (rest := []) lk_X11_150 ob_8 e_X11_law_49 (m_X1_takeOver G s7 _ _ e13) (by decide) rfl (Nat.le_of_ble_eq_true rfl) ?_
          refine z_iload e_X11_law_52 0 rfl ?_
          cases h
          exact z_ireturn hR e_X11_law_53
noncomputable def F_X11_law (x1 : Int32) (σ : zSt) : Option (Int32 × zSt) := F_X11_law_0 x1 σ
set_option maxRecDepth 100000 in
theorem m_X11_law (G : zG) (x1 : Int32) (σ : zSt) (q : Int32) (τ : zSt) (h : F_X11_law x1 σ = some (q, τ)) : zM G 209 yX11_law cX11_law 3 (some .int) [.ref (zad G 0), .int x1] σ (some (.int q)) τ := by
  unfold F_X11_law at h
  refine zM.of (own := RX11) (by decide +kernel) rfl (Nat.le_of_ble_eq_true rfl) (fun C hR => ?_)
  exact z_sub [0, 1] rfl (p_X11_law_0 hR x1 σ h)
noncomputable def F_X12_here_0 (σ : zSt) : Option (Int32 × zSt) :=
  if (σ.1 69 16) ≤ (σ.1 69 15) then (
    some ((-1 : Int32), σ))
  else (
    gd (vp_in (σ.1 69 15) 260) (
      some (((σ.1 76 (σ.1 69 15).toNatClampNeg) &&& (255 : Int32)), σ)))
set_option maxHeartbeats 4000000 in
set_option maxRecDepth 100000 in
theorem p_X12_here_0 {G : zG} {C : zC} {r : Int32} {τ : zSt} (hR : zR G C (some .int) (some (.int r)) τ)  (σ : zSt) (h : F_X12_here_0 σ = some (r, τ)) : zAW G 1 RX12 cX12_here 1 C 0 [(0, .ref (zad G 69))] [] σ := by
  unfold F_X12_here_0 at h
  refine z_aload e_X12_here_0 0 rfl ?_
  refine z_geti gf_X12_193_69 e_X12_here_1 ?_
  refine z_aload e_X12_here_4 0 rfl ?_
  refine z_geti gf_X12_196_69 e_X12_here_5 ?_
  refine z_icmp_ge e_X12_here_8 h (fun c1 h => ?_) (fun c1 h => ?_)
  · refine z_ic e_X12_here_27 ?_
    cases h
    exact z_ireturn hR e_X12_here_28
  · refine z_aload e_X12_here_11 0 rfl ?_
    refine z_getr gf_X12_28_69 e_X12_here_12 ?_
    refine z_aload e_X12_here_15 0 rfl ?_
    refine z_geti gf_X12_193_69 e_X12_here_16 ?_
    refine z_bald sh_76 e_X12_here_19 h (fun h => ?_)
    refine z_ic e_X12_here_20 ?_
    refine z_iand e_X12_here_23 ?_
    refine z_goto e_X12_here_24 ?_
    cases h
    exact z_ireturn hR e_X12_here_28
noncomputable def F_X12_here (σ : zSt) : Option (Int32 × zSt) := F_X12_here_0  σ
set_option maxRecDepth 100000 in
theorem m_X12_here (G : zG) (σ : zSt) (q : Int32) (τ : zSt) (h : F_X12_here  σ = some (q, τ)) : zM G 1 yX12_here cX12_here 1 (some .int) [.ref (zad G 69)] σ (some (.int q)) τ := by
  unfold F_X12_here at h
  refine zM.of (own := RX12) (by decide +kernel) rfl (Nat.le_of_ble_eq_true rfl) (fun C hR => ?_)
  exact z_sub [0] rfl (p_X12_here_0 hR  σ h)
noncomputable def F_X12_isDigit_0 (σ : zSt) : Option (Int32 × zSt) :=
  bd (F_X12_here σ) (fun q2 s1 =>
    if q2 < (48 : Int32) then (
      some ((0 : Int32), s1))
    else (
      bd (F_X12_here s1) (fun q6 s5 =>
        if (57 : Int32) < q6 then (
          some ((0 : Int32), s5))
        else (
          some ((1 : Int32), s5)))))
set_option maxHeartbeats 4000000 in
set_option maxRecDepth 100000 in
theorem p_X12_isDigit_0 {G : zG} {C : zC} {r : Int32} {τ : zSt} (hR : zR G C (some .boolean) (some (.int r)) τ)  (σ : zSt) (h : F_X12_isDigit_0 σ = some (r, τ)) : zAW G 2 RX12 cX12_isDigit 1 C 0 [(0, .ref (zad G 69))] [] σ := by
  unfold F_X12_isDigit_0 at h
  refine z_aload e_X12_isDigit_0 0 rfl ?_
  obtain ⟨q2, s1, e3, h⟩ := bd_e h
  refine z_callVi (c0 := 69) (As := []) (rest := []) lk_X12_199 ob_69 e_X12_isDigit_1 (m_X12_here G σ _ _ e3) (by decide) rfl (Nat.le_of_ble_eq_true rfl) ?_
  refine z_ic e_X12_isDigit_4 ?_
  refine z_icmp_lt e_X12_isDigit_6 h (fun c4 h => ?_) (fun c4 h => ?_)
  · refine z_ic e_X12_isDigit_22 ?_
    cases h
    exact z_zreturn hR e_X12_isDigit_23 (Or.inl rfl)
  · refine z_aload e_X12_isDigit_9 0 rfl ?_
    obtain ⟨q6, s5, e7, h⟩ := bd_e h
    refine z_callVi (c0 := 69) (As := []) (rest := []) lk_X12_199 ob_69 e_X12_isDigit_10 (m_X12_here G s1 _ _ e7) (by decide) rfl (Nat.le_of_ble_eq_true rfl) ?_
    refine z_ic e_X12_isDigit_13 ?_
    refine z_icmp_gt e_X12_isDigit_15 h (fun c8 h => ?_) (fun c8 h => ?_)
    · refine z_ic e_X12_isDigit_22 ?_
      cases h
      exact z_zreturn hR e_X12_isDigit_23 (Or.inl rfl)
    · refine z_ic e_X12_isDigit_18 ?_
      refine z_goto e_X12_isDigit_19 ?_
      cases h
      exact z_zreturn hR e_X12_isDigit_23 (Or.inr rfl)
noncomputable def F_X12_isDigit (σ : zSt) : Option (Int32 × zSt) := F_X12_isDigit_0  σ
set_option maxRecDepth 100000 in
theorem m_X12_isDigit (G : zG) (σ : zSt) (q : Int32) (τ : zSt) (h : F_X12_isDigit  σ = some (q, τ)) : zM G 2 yX12_isDigit cX12_isDigit 1 (some .boolean) [.ref (zad G 69)] σ (some (.int q)) τ := by
  unfold F_X12_isDigit at h
  refine zM.of (own := RX12) (by decide +kernel) rfl (Nat.le_of_ble_eq_true rfl) (fun C hR => ?_)
  exact z_sub [0] rfl (p_X12_isDigit_0 hR  σ h)
noncomputable def F_X12_factOf_0 (x0 : Int32) (σ : zSt) : Option (Int32 × zSt) :=
  if x0 = (100 : Int32) then (
    some ((3 : Int32), σ))
  else (
    if x0 = (104 : Int32) then (
      some ((1 : Int32), σ))
    else (
      if x0 = (105 : Int32) then (
        some ((2 : Int32), σ))
      else (
        if x0 = (107 : Int32) then (
          some ((6 : Int32), σ))
        else (
          if x0 = (110 : Int32) then (
            some ((0 : Int32), σ))
          else (
            if x0 = (111 : Int32) then (
              some ((7 : Int32), σ))
            else (
              if x0 = (114 : Int32) then (
                some ((8 : Int32), σ))
              else (
                if x0 = (115 : Int32) then (
                  some ((4 : Int32), σ))
                else (
                  if x0 = (119 : Int32) then (
                    some ((5 : Int32), σ))
                  else (
                    some ((-1 : Int32), σ))))))))))
set_option maxHeartbeats 4000000 in
set_option maxRecDepth 100000 in
theorem p_X12_factOf_0 {G : zG} {C : zC} {r : Int32} {τ : zSt} (hR : zR G C (some .int) (some (.int r)) τ) (x0 : Int32) (σ : zSt) (h : F_X12_factOf_0 x0 σ = some (r, τ)) : zAW G 1 RX12 cX12_factOf 1 C 0 [(0, .int x0)] [] σ := by
  unfold F_X12_factOf_0 at h
  refine z_iload e_X12_factOf_0 0 rfl ?_
  by_cases c1 : x0 = (100 : Int32)
  · rw [if_pos c1] at h
    refine z_tin (tgt := 102) e_X12_factOf_1 (100 : Int32) c1 (101) (by decide +kernel) ?_
    refine z_ic e_X12_factOf_102 ?_
    cases h
    exact z_ireturn hR e_X12_factOf_103
  · rw [if_neg c1] at h
    by_cases c2 : x0 = (104 : Int32)
    · rw [if_pos c2] at h
      refine z_tin (tgt := 98) e_X12_factOf_1 (104 : Int32) c2 (97) (by decide +kernel) ?_
      refine z_ic e_X12_factOf_98 ?_
      cases h
      exact z_ireturn hR e_X12_factOf_99
    · rw [if_neg c2] at h
      by_cases c3 : x0 = (105 : Int32)
      · rw [if_pos c3] at h
        refine z_tin (tgt := 100) e_X12_factOf_1 (105 : Int32) c3 (99) (by decide +kernel) ?_
        refine z_ic e_X12_factOf_100 ?_
        cases h
        exact z_ireturn hR e_X12_factOf_101
      · rw [if_neg c3] at h
        by_cases c4 : x0 = (107 : Int32)
        · rw [if_pos c4] at h
          refine z_tin (tgt := 108) e_X12_factOf_1 (107 : Int32) c4 (107) (by decide +kernel) ?_
          refine z_ic e_X12_factOf_108 ?_
          cases h
          exact z_ireturn hR e_X12_factOf_110
        · rw [if_neg c4] at h
          by_cases c5 : x0 = (110 : Int32)
          · rw [if_pos c5] at h
            refine z_tin (tgt := 96) e_X12_factOf_1 (110 : Int32) c5 (95) (by decide +kernel) ?_
            refine z_ic e_X12_factOf_96 ?_
            cases h
            exact z_ireturn hR e_X12_factOf_97
          · rw [if_neg c5] at h
            by_cases c6 : x0 = (111 : Int32)
            · rw [if_pos c6] at h
              refine z_tin (tgt := 111) e_X12_factOf_1 (111 : Int32) c6 (110) (by decide +kernel) ?_
              refine z_ic e_X12_factOf_111 ?_
              cases h
              exact z_ireturn hR e_X12_factOf_113
            · rw [if_neg c6] at h
              by_cases c7 : x0 = (114 : Int32)
              · rw [if_pos c7] at h
                refine z_tin (tgt := 114) e_X12_factOf_1 (114 : Int32) c7 (113) (by decide +kernel) ?_
                refine z_ic e_X12_factOf_114 ?_
                cases h
                exact z_ireturn hR e_X12_factOf_116
              · rw [if_neg c7] at h
                by_cases c8 : x0 = (115 : Int32)
                · rw [if_pos c8] at h
                  refine z_tin (tgt := 104) e_X12_factOf_1 (115 : Int32) c8 (103) (by decide +kernel) ?_
                  refine z_ic e_X12_factOf_104 ?_
                  cases h
                  exact z_ireturn hR e_X12_factOf_105
                · rw [if_neg c8] at h
                  by_cases c9 : x0 = (119 : Int32)
                  · rw [if_pos c9] at h
                    refine z_tin (tgt := 106) e_X12_factOf_1 (119 : Int32) c9 (105) (by decide +kernel) ?_
                    refine z_ic e_X12_factOf_106 ?_
                    cases h
                    exact z_ireturn hR e_X12_factOf_107
                  · rw [if_neg c9] at h
                    by_cases c10 : x0 = (101 : Int32)
                    · refine z_tin (tgt := 117) e_X12_factOf_1 (101 : Int32) c10 (116) (by decide +kernel) ?_
                      refine z_ic e_X12_factOf_117 ?_
                      cases h
                      exact z_ireturn hR e_X12_factOf_118
                    · by_cases c11 : x0 = (102 : Int32)
                      · refine z_tin (tgt := 117) e_X12_factOf_1 (102 : Int32) c11 (116) (by decide +kernel) ?_
                        refine z_ic e_X12_factOf_117 ?_
                        cases h
                        exact z_ireturn hR e_X12_factOf_118
                      · by_cases c12 : x0 = (103 : Int32)
                        · refine z_tin (tgt := 117) e_X12_factOf_1 (103 : Int32) c12 (116) (by decide +kernel) ?_
                          refine z_ic e_X12_factOf_117 ?_
                          cases h
                          exact z_ireturn hR e_X12_factOf_118
                        · by_cases c13 : x0 = (106 : Int32)
                          · refine z_tin (tgt := 117) e_X12_factOf_1 (106 : Int32) c13 (116) (by decide +kernel) ?_
                            refine z_ic e_X12_factOf_117 ?_
                            cases h
                            exact z_ireturn hR e_X12_factOf_118
                          · by_cases c14 : x0 = (108 : Int32)
                            · refine z_tin (tgt := 117) e_X12_factOf_1 (108 : Int32) c14 (116) (by decide +kernel) ?_
                              refine z_ic e_X12_factOf_117 ?_
                              cases h
                              exact z_ireturn hR e_X12_factOf_118
                            · by_cases c15 : x0 = (109 : Int32)
                              · refine z_tin (tgt := 117) e_X12_factOf_1 (109 : Int32) c15 (116) (by decide +kernel) ?_
                                refine z_ic e_X12_factOf_117 ?_
                                cases h
                                exact z_ireturn hR e_X12_factOf_118
                              · by_cases c16 : x0 = (112 : Int32)
                                · refine z_tin (tgt := 117) e_X12_factOf_1 (112 : Int32) c16 (116) (by decide +kernel) ?_
                                  refine z_ic e_X12_factOf_117 ?_
                                  cases h
                                  exact z_ireturn hR e_X12_factOf_118
                                · by_cases c17 : x0 = (113 : Int32)
                                  · refine z_tin (tgt := 117) e_X12_factOf_1 (113 : Int32) c17 (116) (by decide +kernel) ?_
                                    refine z_ic e_X12_factOf_117 ?_
                                    cases h
                                    exact z_ireturn hR e_X12_factOf_118
                                  · by_cases c18 : x0 = (116 : Int32)
                                    · refine z_tin (tgt := 117) e_X12_factOf_1 (116 : Int32) c18 (116) (by decide +kernel) ?_
                                      refine z_ic e_X12_factOf_117 ?_
                                      cases h
                                      exact z_ireturn hR e_X12_factOf_118
                                    · by_cases c19 : x0 = (117 : Int32)
                                      · refine z_tin (tgt := 117) e_X12_factOf_1 (117 : Int32) c19 (116) (by decide +kernel) ?_
                                        refine z_ic e_X12_factOf_117 ?_
                                        cases h
                                        exact z_ireturn hR e_X12_factOf_118
                                      · by_cases c20 : x0 = (118 : Int32)
                                        · refine z_tin (tgt := 117) e_X12_factOf_1 (118 : Int32) c20 (116) (by decide +kernel) ?_
                                          refine z_ic e_X12_factOf_117 ?_
                                          cases h
                                          exact z_ireturn hR e_X12_factOf_118
                                        · refine z_tout (tgt := 117) e_X12_factOf_1 (by
                                            have := lv_neT c1 (show (100 : Int32).toInt = 100 by decide)
                                            have := lv_neT c2 (show (104 : Int32).toInt = 104 by decide)
                                            have := lv_neT c3 (show (105 : Int32).toInt = 105 by decide)
                                            have := lv_neT c4 (show (107 : Int32).toInt = 107 by decide)
                                            have := lv_neT c5 (show (110 : Int32).toInt = 110 by decide)
                                            have := lv_neT c6 (show (111 : Int32).toInt = 111 by decide)
                                            have := lv_neT c7 (show (114 : Int32).toInt = 114 by decide)
                                            have := lv_neT c8 (show (115 : Int32).toInt = 115 by decide)
                                            have := lv_neT c9 (show (119 : Int32).toInt = 119 by decide)
                                            have := lv_neT c10 (show (101 : Int32).toInt = 101 by decide)
                                            have := lv_neT c11 (show (102 : Int32).toInt = 102 by decide)
                                            have := lv_neT c12 (show (103 : Int32).toInt = 103 by decide)
                                            have := lv_neT c13 (show (106 : Int32).toInt = 106 by decide)
                                            have := lv_neT c14 (show (108 : Int32).toInt = 108 by decide)
                                            have := lv_neT c15 (show (109 : Int32).toInt = 109 by decide)
                                            have := lv_neT c16 (show (112 : Int32).toInt = 112 by decide)
                                            have := lv_neT c17 (show (113 : Int32).toInt = 113 by decide)
                                            have := lv_neT c18 (show (116 : Int32).toInt = 116 by decide)
                                            have := lv_neT c19 (show (117 : Int32).toInt = 117 by decide)
                                            have := lv_neT c20 (show (118 : Int32).toInt = 118 by decide)
                                            omega) (by decide) ?_
                                          refine z_ic e_X12_factOf_117 ?_
                                          cases h
                                          exact z_ireturn hR e_X12_factOf_118
noncomputable def F_X12_factOf (x0 : Int32) (σ : zSt) : Option (Int32 × zSt) := F_X12_factOf_0 x0 σ
set_option maxRecDepth 100000 in
theorem m_X12_factOf (G : zG) (x0 : Int32) (σ : zSt) (q : Int32) (τ : zSt) (h : F_X12_factOf x0 σ = some (q, τ)) : zM G 1 yX12_factOf cX12_factOf 1 (some .int) [.int x0] σ (some (.int q)) τ := by
  unfold F_X12_factOf at h
  refine zM.of (own := RX12) (by decide +kernel) rfl (Nat.le_of_ble_eq_true rfl) (fun C hR => ?_)
  exact z_sub [0] rfl (p_X12_factOf_0 hR x0 σ h)
noncomputable def F_X12_notes_0 (x1 : Int32) (x2 : Int32) (σ : zSt) : Option (Unit × zSt) :=
  gd (vp_in (σ.1 69 20) 260) (nm (zwr σ 77 (σ.1 69 20).toNatClampNeg (((1048576 : Int32) * x1) + x2)) (fun s1 =>
    nm (zwr s1 69 20 ((s1.1 69 20) + (1 : Int32))) (fun s2 =>
      some ((), s2))))
set_option maxHeartbeats 4000000 in
set_option maxRecDepth 100000 in
theorem p_X12_notes_0 {G : zG} {C : zC} {r : Unit} {τ : zSt} (hR : zR G C none none τ) (x1 : Int32) (x2 : Int32) (σ : zSt) (h : F_X12_notes_0 x1 x2 σ = some (r, τ)) : zAW G 1 RX12 cX12_notes 3 C 0 [(0, .ref (zad G 69)), (1, .int x1), (2, .int x2)] [] σ := by
  unfold F_X12_notes_0 at h
  refine z_aload e_X12_notes_0 0 rfl ?_
  refine z_getr gf_X12_32_69 e_X12_notes_1 ?_
  refine z_aload e_X12_notes_4 0 rfl ?_
  refine z_geti gf_X12_216_69 e_X12_notes_5 ?_
  refine z_ldc cs_X12_219 e_X12_notes_8 ?_
  refine z_iload e_X12_notes_10 1 rfl ?_
  refine z_imul e_X12_notes_11 ?_
  refine z_iload e_X12_notes_12 2 rfl ?_
  refine z_iadd e_X12_notes_13 ?_
  refine z_iast sh_77 e_X12_notes_14 h (fun s1 h => ?_)
  refine z_aload e_X12_notes_15 0 rfl ?_
  refine z_aload e_X12_notes_16 0 rfl ?_
  refine z_geti gf_X12_216_69 e_X12_notes_17 ?_
  refine z_ic e_X12_notes_20 ?_
  refine z_iadd e_X12_notes_21 ?_
  refine z_puti pf_X12_216_69 e_X12_notes_22 h (fun s2 h => ?_)
  cases h
  exact z_vreturn hR e_X12_notes_25
noncomputable def F_X12_notes (x1 : Int32) (x2 : Int32) (σ : zSt) : Option (Unit × zSt) := F_X12_notes_0 x1 x2 σ
set_option maxRecDepth 100000 in
theorem m_X12_notes (G : zG) (x1 : Int32) (x2 : Int32) (σ : zSt) (q : Unit) (τ : zSt) (h : F_X12_notes x1 x2 σ = some (q, τ)) : zM G 1 yX12_notes cX12_notes 3 none [.ref (zad G 69), .int x1, .int x2] σ none τ := by
  unfold F_X12_notes at h
  refine zM.of (own := RX12) (by decide +kernel) rfl (Nat.le_of_ble_eq_true rfl) (fun C hR => ?_)
  exact z_sub [0, 1, 2] rfl (p_X12_notes_0 hR x1 x2 σ h)
noncomputable def F_X12_wrongAt_0 (x1 : Int32) (x2 : Int32) (σ : zSt) : Option (Int32 × zSt) :=
  nm (zwr σ 69 17 (((-1000 : Int32) * x1) - x2)) (fun s1 =>
    some ((0 : Int32), s1))
set_option maxHeartbeats 4000000 in
set_option maxRecDepth 100000 in
theorem p_X12_wrongAt_0 {G : zG} {C : zC} {r : Int32} {τ : zSt} (hR : zR G C (some .boolean) (some (.int r)) τ) (x1 : Int32) (x2 : Int32) (σ : zSt) (h : F_X12_wrongAt_0 x1 x2 σ = some (r, τ)) : zAW G 1 RX12 cX12_wrongAt 3 C 0 [(0, .ref (zad G 69)), (1, .int x1), (2, .int x2)] [] σ := by
  unfold F_X12_wrongAt_0 at h
  refine z_aload e_X12_wrongAt_0 0 rfl ?_
  refine z_ic e_X12_wrongAt_1 ?_
  refine z_iload e_X12_wrongAt_4 1 rfl ?_
  refine z_imul e_X12_wrongAt_5 ?_
  refine z_iload e_X12_wrongAt_6 2 rfl ?_
  refine z_isub e_X12_wrongAt_7 ?_
  refine z_puti pf_X12_203_69 e_X12_wrongAt_8 h (fun s1 h => ?_)
  refine z_ic e_X12_wrongAt_11 ?_
  cases h
  exact z_zreturn hR e_X12_wrongAt_12 (Or.inl rfl)
noncomputable def F_X12_wrongAt (x1 : Int32) (x2 : Int32) (σ : zSt) : Option (Int32 × zSt) := F_X12_wrongAt_0 x1 x2 σ
set_option maxRecDepth 100000 in
theorem m_X12_wrongAt (G : zG) (x1 : Int32) (x2 : Int32) (σ : zSt) (q : Int32) (τ : zSt) (h : F_X12_wrongAt x1 x2 σ = some (q, τ)) : zM G 1 yX12_wrongAt cX12_wrongAt 3 (some .boolean) [.ref (zad G 69), .int x1, .int x2] σ (some (.int q)) τ := by
  unfold F_X12_wrongAt at h
  refine zM.of (own := RX12) (by decide +kernel) rfl (Nat.le_of_ble_eq_true rfl) (fun C hR => ?_)
  exact z_sub [0, 1, 2] rfl (p_X12_wrongAt_0 hR x1 x2 σ h)
noncomputable def F_X12_readsNumber_27 (σ : zSt) : Option (Int32 × zSt) :=
  bd (F_X12_wrongAt (2 : Int32) (σ.1 69 15) σ) (fun q8 s7 =>
    gd (q8 = 0 ∨ q8 = 1) (some (q8, s7)))
set_option maxHeartbeats 4000000 in
set_option maxRecDepth 100000 in
theorem p_X12_readsNumber_27 {G : zG} {C : zC} {r : Int32} {τ : zSt} (hR : zR G C (some .boolean) (some (.int r)) τ)  (σ : zSt) (h : F_X12_readsNumber_27 σ = some (r, τ)) : zAW G 3 RX12 cX12_readsNumber 2 C 27 [(0, .ref (zad G 69))] [] σ := by
  unfold F_X12_readsNumber_27 at h
  refine z_aload e_X12_readsNumber_27 0 rfl ?_
  refine z_ic e_X12_readsNumber_28 ?_
  refine z_aload e_X12_readsNumber_29 0 rfl ?_
  refine z_geti gf_X12_193_69 e_X12_readsNumber_30 ?_
  obtain ⟨q8, s7, e9, h⟩ := bd_e h
  refine z_callVi (c0 := 69) (As := [.int (2 : Int32), .int (σ.1 69 15)]) (rest := []) lk_X12_206 ob_69 e_X12_readsNumber_33 (m_X12_wrongAt G (2 : Int32) (σ.1 69 15) σ _ _ e9) (by decide) rfl (Nat.le_of_ble_eq_true rfl) ?_
  obtain ⟨hb10, h⟩ := gd_e h
  cases h
  exact z_zreturn hR e_X12_readsNumber_36 hb10
noncomputable def F_X12_readsNumber_10 (x1 : Int32) (w10 : (zSt) → Option (Int32 × zSt)) (σ : zSt) : Option (Int32 × zSt) :=
  bd (F_X12_isDigit σ) (fun q3 s2 =>
    if q3 = 0 then (
      some ((1 : Int32), s2))
    else (
      if (s2.1 69 15) = (x1 + (5 : Int32)) then (
        F_X12_readsNumber_27  s2)
      else (
        bd (F_X12_here s2) (fun q12 s11 =>
          nm (zwr s11 69 18 ((((10 : Int32) * (s2.1 69 18)) + q12) - (48 : Int32))) (fun s14 =>
            nm (zwr s14 69 15 ((s14.1 69 15) + (1 : Int32))) (fun s15 =>
              w10 s15))))))
set_option maxHeartbeats 4000000 in
set_option maxRecDepth 100000 in
theorem b_X12_readsNumber_10 {G : zG} {C : zC} {r : Int32} {τ : zSt} (hR : zR G C (some .boolean) (some (.int r)) τ) (x1 : Int32) (w10 : (zSt) → Option (Int32 × zSt)) (hw10 : ∀  (σ : zSt), w10 σ = some (r, τ) → zAW G 3 RX12 cX12_readsNumber 2 C 10 [(0, .ref (zad G 69)), (1, .int x1)] [] σ) (σ : zSt) (h : F_X12_readsNumber_10 x1 w10 σ = some (r, τ)) : zAW G 3 RX12 cX12_readsNumber 2 C 10 [(0, .ref (zad G 69)), (1, .int x1)] [] σ := by
  unfold F_X12_readsNumber_10 at h
  refine z_aload e_X12_readsNumber_10 0 rfl ?_
  obtain ⟨q3, s2, e4, h⟩ := bd_e h
  refine z_callVi (c0 := 69) (As := []) (rest := []) lk_X12_212 ob_69 e_X12_readsNumber_11 (m_X12_isDigit G σ _ _ e4) (by decide) rfl (Nat.le_of_ble_eq_true rfl) ?_
  refine z_if_eq e_X12_readsNumber_14 h (fun c5 h => ?_) (fun c5 h => ?_)
  · refine z_ic e_X12_readsNumber_69 ?_
    cases h
    exact z_zreturn hR e_X12_readsNumber_70 (Or.inr rfl)
  · refine z_aload e_X12_readsNumber_17 0 rfl ?_
    refine z_geti gf_X12_193_69 e_X12_readsNumber_18 ?_
    refine z_iload e_X12_readsNumber_21 1 rfl ?_
    refine z_ic e_X12_readsNumber_22 ?_
    refine z_iadd e_X12_readsNumber_23 ?_
    refine z_icmp_ne e_X12_readsNumber_24 h (fun c6 h => ?_) (fun c6 h => ?_)
    · exact z_sub [0] rfl (p_X12_readsNumber_27 hR  s2 h)
    · refine z_aload e_X12_readsNumber_37 0 rfl ?_
      refine z_ic e_X12_readsNumber_38 ?_
      refine z_aload e_X12_readsNumber_40 0 rfl ?_
      refine z_geti gf_X12_209_69 e_X12_readsNumber_41 ?_
      refine z_imul e_X12_readsNumber_44 ?_
      refine z_aload e_X12_readsNumber_45 0 rfl ?_
      obtain ⟨q12, s11, e13, h⟩ := bd_e h
      refine z_callVi (c0 := 69) (As := []) (rest := [.int ((10 : Int32) * (s2.1 69 18)), .ref (zad G 69)]) lk_X12_199 ob_69 e_X12_readsNumber_46 (m_X12_here G s2 _ _ e13) (by decide) rfl (Nat.le_of_ble_eq_true rfl) ?_
      refine z_iadd e_X12_readsNumber_49 ?_
      refine z_ic e_X12_readsNumber_50 ?_
      refine z_isub e_X12_readsNumber_52 ?_
      refine z_puti pf_X12_209_69 e_X12_readsNumber_53 h (fun s14 h => ?_)
      refine z_aload e_X12_readsNumber_56 0 rfl ?_
      refine z_aload e_X12_readsNumber_57 0 rfl ?_
      refine z_geti gf_X12_193_69 e_X12_readsNumber_58 ?_
      refine z_ic e_X12_readsNumber_61 ?_
      refine z_iadd e_X12_readsNumber_62 ?_
      refine z_puti pf_X12_193_69 e_X12_readsNumber_63 h (fun s15 h => ?_)
      refine z_goto e_X12_readsNumber_66 ?_
      exact z_sub [0, 1] rfl (hw10  s15 h)
noncomputable def F_X12_readsNumber_10L (x1 : Int32) : ((zSt) → Option (Int32 × zSt)) → (zSt) → Option (Int32 × zSt) := fun w s => F_X12_readsNumber_10 x1 w s
set_option maxRecDepth 100000 in
theorem l_X12_readsNumber_10 {G : zG} {C : zC} {r : Int32} {τ : zSt} (hR : zR G C (some .boolean) (some (.int r)) τ) (x1 : Int32) : ∀ (N : Nat)  (σ : zSt), zfix (F_X12_readsNumber_10L x1) N σ = some (r, τ) → zAW G 3 RX12 cX12_readsNumber 2 C 10 [(0, .ref (zad G 69)), (1, .int x1)] [] σ := by
  intro N
  induction N with
  | zero =>
    intro  σ h
    exact nomatch (show (none : Option (Int32 × zSt)) = some (r, τ) from h)
  | succ N ih =>
    intro  σ h
    exact b_X12_readsNumber_10 hR x1 (zfix (F_X12_readsNumber_10L x1) N) ih  σ h
noncomputable def F_X12_readsNumber_0 (σ : zSt) : Option (Int32 × zSt) :=
  nm (zwr σ 69 18 (0 : Int32)) (fun s1 =>
    zfix (F_X12_readsNumber_10L (σ.1 69 15)) zlim s1)
set_option maxHeartbeats 4000000 in
set_option maxRecDepth 100000 in
theorem p_X12_readsNumber_0 {G : zG} {C : zC} {r : Int32} {τ : zSt} (hR : zR G C (some .boolean) (some (.int r)) τ)  (σ : zSt) (h : F_X12_readsNumber_0 σ = some (r, τ)) : zAW G 3 RX12 cX12_readsNumber 2 C 0 [(0, .ref (zad G 69))] [] σ := by
  unfold F_X12_readsNumber_0 at h
  refine z_aload e_X12_readsNumber_0 0 rfl ?_
  refine z_geti gf_X12_193_69 e_X12_readsNumber_1 ?_
  refine z_istore e_X12_readsNumber_4 (by decide) [(1, .int (σ.1 69 15)), (0, .ref (zad G 69))] rfl ?_
  refine z_aload e_X12_readsNumber_5 1 rfl ?_
  refine z_ic e_X12_readsNumber_6 ?_
  refine z_puti pf_X12_209_69 e_X12_readsNumber_7 h (fun s1 h => ?_)
  exact z_sub [1, 0] rfl (l_X12_readsNumber_10 hR (σ.1 69 15) zlim  s1 h)
noncomputable def F_X12_readsNumber (σ : zSt) : Option (Int32 × zSt) := F_X12_readsNumber_0  σ
set_option maxRecDepth 100000 in
theorem m_X12_readsNumber (G : zG) (σ : zSt) (q : Int32) (τ : zSt) (h : F_X12_readsNumber  σ = some (q, τ)) : zM G 3 yX12_readsNumber cX12_readsNumber 2 (some .boolean) [.ref (zad G 69)] σ (some (.int q)) τ := by
  unfold F_X12_readsNumber at h
  refine zM.of (own := RX12) (by decide +kernel) rfl (Nat.le_of_ble_eq_true rfl) (fun C hR => ?_)
  exact z_sub [0] rfl (p_X12_readsNumber_0 hR  σ h)
noncomputable def F_X12_opens_0 (x1 : Int32) (σ : zSt) : Option (Int32 × zSt) :=
  if (σ.1 69 19) = (6 : Int32) then (
    bd (F_X12_wrongAt (5 : Int32) (σ.1 69 15) σ) (fun q3 s2 =>
      gd (q3 = 0 ∨ q3 = 1) (some (q3, s2))))
  else (
    nm (zwr σ 69 19 ((σ.1 69 19) + (1 : Int32))) (fun s6 =>
      gd (vp_in (s6.1 69 21) 260) (nm (zwr s6 78 (s6.1 69 21).toNatClampNeg ((1048576 : Int32) * x1)) (fun s7 =>
        nm (zwr s7 69 21 ((s7.1 69 21) + (1 : Int32))) (fun s8 =>
          nm (zwr s8 69 15 ((s8.1 69 15) + (1 : Int32))) (fun s9 =>
            some ((1 : Int32), s9)))))))
set_option maxHeartbeats 4000000 in
set_option maxRecDepth 100000 in
theorem p_X12_opens_0 {G : zG} {C : zC} {r : Int32} {τ : zSt} (hR : zR G C (some .boolean) (some (.int r)) τ) (x1 : Int32) (σ : zSt) (h : F_X12_opens_0 x1 σ = some (r, τ)) : zAW G 2 RX12 cX12_opens 2 C 0 [(0, .ref (zad G 69)), (1, .int x1)] [] σ := by
  unfold F_X12_opens_0 at h
  refine z_aload e_X12_opens_0 0 rfl ?_
  refine z_geti gf_X12_220_69 e_X12_opens_1 ?_
  refine z_ic e_X12_opens_4 ?_
  refine z_icmp_ne e_X12_opens_6 h (fun c1 h => ?_) (fun c1 h => ?_)
  · refine z_aload e_X12_opens_9 0 rfl ?_
    refine z_ic e_X12_opens_10 ?_
    refine z_aload e_X12_opens_11 0 rfl ?_
    refine z_geti gf_X12_193_69 e_X12_opens_12 ?_
    obtain ⟨q3, s2, e4, h⟩ := bd_e h
    refine z_callVi (c0 := 69) (As := [.int (5 : Int32), .int (σ.1 69 15)]) (rest := []) lk_X12_206 ob_69 e_X12_opens_15 (m_X12_wrongAt G (5 : Int32) (σ.1 69 15) σ _ _ e4) (by decide) rfl (Nat.le_of_ble_eq_true rfl) ?_
    obtain ⟨hb5, h⟩ := gd_e h
    cases h
    exact z_zreturn hR e_X12_opens_18 hb5
  · refine z_aload e_X12_opens_19 0 rfl ?_
    refine z_aload e_X12_opens_20 0 rfl ?_
    refine z_geti gf_X12_220_69 e_X12_opens_21 ?_
    refine z_ic e_X12_opens_24 ?_
    refine z_iadd e_X12_opens_25 ?_
    refine z_puti pf_X12_220_69 e_X12_opens_26 h (fun s6 h => ?_)
    refine z_aload e_X12_opens_29 0 rfl ?_
    refine z_getr gf_X12_35_69 e_X12_opens_30 ?_
    refine z_aload e_X12_opens_33 0 rfl ?_
    refine z_geti gf_X12_223_69 e_X12_opens_34 ?_
    refine z_ldc cs_X12_219 e_X12_opens_37 ?_
    refine z_iload e_X12_opens_39 1 rfl ?_
    refine z_imul e_X12_opens_40 ?_
    refine z_iast sh_78 e_X12_opens_41 h (fun s7 h => ?_)
    refine z_aload e_X12_opens_42 0 rfl ?_
    refine z_aload e_X12_opens_43 0 rfl ?_
    refine z_geti gf_X12_223_69 e_X12_opens_44 ?_
    refine z_ic e_X12_opens_47 ?_
    refine z_iadd e_X12_opens_48 ?_
    refine z_puti pf_X12_223_69 e_X12_opens_49 h (fun s8 h => ?_)
    refine z_aload e_X12_opens_52 0 rfl ?_
    refine z_aload e_X12_opens_53 0 rfl ?_
    refine z_geti gf_X12_193_69 e_X12_opens_54 ?_
    refine z_ic e_X12_opens_57 ?_
    refine z_iadd e_X12_opens_58 ?_
    refine z_puti pf_X12_193_69 e_X12_opens_59 h (fun s9 h => ?_)
    refine z_ic e_X12_opens_62 ?_
    cases h
    exact z_zreturn hR e_X12_opens_63 (Or.inr rfl)
noncomputable def F_X12_opens (x1 : Int32) (σ : zSt) : Option (Int32 × zSt) := F_X12_opens_0 x1 σ
set_option maxRecDepth 100000 in
theorem m_X12_opens (G : zG) (x1 : Int32) (σ : zSt) (q : Int32) (τ : zSt) (h : F_X12_opens x1 σ = some (q, τ)) : zM G 2 yX12_opens cX12_opens 2 (some .boolean) [.ref (zad G 69), .int x1] σ (some (.int q)) τ := by
  unfold F_X12_opens at h
  refine zM.of (own := RX12) (by decide +kernel) rfl (Nat.le_of_ble_eq_true rfl) (fun C hR => ?_)
  exact z_sub [0, 1] rfl (p_X12_opens_0 hR x1 σ h)
noncomputable def F_X12_readsFactor_20 (σ : zSt) : Option (Int32 × zSt) :=
  bd (F_X12_isDigit σ) (fun q10 s9 =>
    if q10 = 0 then (
      bd (F_X12_here s9) (fun q14 s13 =>
        bd (F_X12_factOf q14 s13) (fun q17 s16 =>
          if q17 = (-1 : Int32) then (
            bd (F_X12_wrongAt (1 : Int32) (s16.1 69 15) s16) (fun q21 s20 =>
              gd (q21 = 0 ∨ q21 = 1) (some (q21, s20))))
          else (
            bd (F_X12_notes (1 : Int32) q17 s16) (fun _ s24 =>
              nm (zwr s24 69 15 ((s24.1 69 15) + (1 : Int32))) (fun s27 =>
                some ((1 : Int32), s27)))))))
    else (
      bd (F_X12_readsNumber s9) (fun q29 s28 =>
        if q29 = 0 then (
          some ((0 : Int32), s28))
        else (
          bd (F_X12_notes (0 : Int32) (s28.1 69 18) s28) (fun _ s32 =>
            some ((1 : Int32), s32))))))
set_option maxHeartbeats 4000000 in
set_option maxRecDepth 100000 in
theorem p_X12_readsFactor_20 {G : zG} {C : zC} {r : Int32} {τ : zSt} (hR : zR G C (some .boolean) (some (.int r)) τ)  (σ : zSt) (h : F_X12_readsFactor_20 σ = some (r, τ)) : zAW G 4 RX12 cX12_readsFactor 2 C 20 [(0, .ref (zad G 69))] [] σ := by
  unfold F_X12_readsFactor_20 at h
  refine z_aload e_X12_readsFactor_20 0 rfl ?_
  obtain ⟨q10, s9, e11, h⟩ := bd_e h
  refine z_callVi (c0 := 69) (As := []) (rest := []) lk_X12_212 ob_69 e_X12_readsFactor_21 (m_X12_isDigit G σ _ _ e11) (by decide) rfl (Nat.le_of_ble_eq_true rfl) ?_
  refine z_if_eq e_X12_readsFactor_24 h (fun c12 h => ?_) (fun c12 h => ?_)
  · refine z_aload e_X12_readsFactor_47 0 rfl ?_
    obtain ⟨q14, s13, e15, h⟩ := bd_e h
    refine z_callVi (c0 := 69) (As := []) (rest := []) lk_X12_199 ob_69 e_X12_readsFactor_48 (m_X12_here G s9 _ _ e15) (by decide) rfl (Nat.le_of_ble_eq_true rfl) ?_
    obtain ⟨q17, s16, e18, h⟩ := bd_e h
    refine z_callSi (As := [.int q14]) (rest := []) lk_X12_239 e_X12_readsFactor_51 (m_X12_factOf G q14 s13 _ _ e18) (by decide) rfl (Nat.le_of_ble_eq_true rfl) ?_
    refine z_istore e_X12_readsFactor_54 (by decide) [(1, .int q17), (0, .ref (zad G 69))] rfl ?_
    refine z_iload e_X12_readsFactor_55 0 rfl ?_
    refine z_ic e_X12_readsFactor_56 ?_
    refine z_icmp_ne e_X12_readsFactor_57 h (fun c19 h => ?_) (fun c19 h => ?_)
    · refine z_aload e_X12_readsFactor_60 1 rfl ?_
      refine z_ic e_X12_readsFactor_61 ?_
      refine z_aload e_X12_readsFactor_62 1 rfl ?_
      refine z_geti gf_X12_193_69 e_X12_readsFactor_63 ?_
      obtain ⟨q21, s20, e22, h⟩ := bd_e h
      refine z_callVi (c0 := 69) (As := [.int (1 : Int32), .int (s16.1 69 15)]) (rest := []) lk_X12_206 ob_69 e_X12_readsFactor_66 (m_X12_wrongAt G (1 : Int32) (s16.1 69 15) s16 _ _ e22) (by decide) rfl (Nat.le_of_ble_eq_true rfl) ?_
      obtain ⟨hb23, h⟩ := gd_e h
      cases h
      exact z_zreturn hR e_X12_readsFactor_69 hb23
    · refine z_aload e_X12_readsFactor_70 1 rfl ?_
      refine z_ic e_X12_readsFactor_71 ?_
      refine z_iload e_X12_readsFactor_72 0 rfl ?_
      obtain ⟨q25, s24, e26, h⟩ := bd_e h
      refine z_callVv (c0 := 69) (As := [.int (1 : Int32), .int q17]) (rest := []) lk_X12_229 ob_69 e_X12_readsFactor_73 (m_X12_notes G (1 : Int32) q17 s16 _ _ e26) (by decide) rfl (Nat.le_of_ble_eq_true rfl) ?_
      refine z_aload e_X12_readsFactor_76 1 rfl ?_
      refine z_aload e_X12_readsFactor_77 1 rfl ?_
      refine z_geti gf_X12_193_69 e_X12_readsFactor_78 ?_
      refine z_ic e_X12_readsFactor_81 ?_
      refine z_iadd e_X12_readsFactor_82 ?_
      refine z_puti pf_X12_193_69 e_X12_readsFactor_83 h (fun s27 h => ?_)
      refine z_ic e_X12_readsFactor_86 ?_
      cases h
      exact z_zreturn hR e_X12_readsFactor_87 (Or.inr rfl)
  · refine z_aload e_X12_readsFactor_27 0 rfl ?_
    obtain ⟨q29, s28, e30, h⟩ := bd_e h
    refine z_callVi (c0 := 69) (As := []) (rest := []) lk_X12_236 ob_69 e_X12_readsFactor_28 (m_X12_readsNumber G s9 _ _ e30) (by decide) rfl (Nat.le_of_ble_eq_true rfl) ?_
    refine z_if_ne e_X12_readsFactor_31 h (fun c31 h => ?_) (fun c31 h => ?_)
    · refine z_ic e_X12_readsFactor_34 ?_
      cases h
      exact z_zreturn hR e_X12_readsFactor_35 (Or.inl rfl)
    · refine z_aload e_X12_readsFactor_36 0 rfl ?_
      refine z_ic e_X12_readsFactor_37 ?_
      refine z_aload e_X12_readsFactor_38 0 rfl ?_
      refine z_geti gf_X12_209_69 e_X12_readsFactor_39 ?_
      obtain ⟨q33, s32, e34, h⟩ := bd_e h
      refine z_callVv (c0 := 69) (As := [.int (0 : Int32), .int (s28.1 69 18)]) (rest := []) lk_X12_229 ob_69 e_X12_readsFactor_42 (m_X12_notes G (0 : Int32) (s28.1 69 18) s28 _ _ e34) (by decide) rfl (Nat.le_of_ble_eq_true rfl) ?_
      refine z_ic e_X12_readsFactor_45 ?_
      cases h
      exact z_zreturn hR e_X12_readsFactor_46 (Or.inr rfl)
noncomputable def F_X12_readsFactor_0 (w0 : (zSt) → Option (Int32 × zSt)) (σ : zSt) : Option (Int32 × zSt) :=
  bd (F_X12_here σ) (fun q2 s1 =>
    if q2 = (91 : Int32) then (
      bd (F_X12_opens (14 : Int32) s1) (fun q6 s5 =>
        if q6 = 0 then (
          some ((0 : Int32), s5))
        else (
          w0 s5)))
    else (
      F_X12_readsFactor_20  s1))
set_option maxHeartbeats 4000000 in
set_option maxRecDepth 100000 in
theorem b_X12_readsFactor_0 {G : zG} {C : zC} {r : Int32} {τ : zSt} (hR : zR G C (some .boolean) (some (.int r)) τ) (w0 : (zSt) → Option (Int32 × zSt)) (hw0 : ∀  (σ : zSt), w0 σ = some (r, τ) → zAW G 4 RX12 cX12_readsFactor 2 C 0 [(0, .ref (zad G 69))] [] σ) (σ : zSt) (h : F_X12_readsFactor_0 w0 σ = some (r, τ)) : zAW G 4 RX12 cX12_readsFactor 2 C 0 [(0, .ref (zad G 69))] [] σ := by
  unfold F_X12_readsFactor_0 at h
  refine z_aload e_X12_readsFactor_0 0 rfl ?_
  obtain ⟨q2, s1, e3, h⟩ := bd_e h
  refine z_callVi (c0 := 69) (As := []) (rest := []) lk_X12_199 ob_69 e_X12_readsFactor_1 (m_X12_here G σ _ _ e3) (by decide) rfl (Nat.le_of_ble_eq_true rfl) ?_
  refine z_ic e_X12_readsFactor_4 ?_
  refine z_icmp_ne e_X12_readsFactor_6 h (fun c4 h => ?_) (fun c4 h => ?_)
  · refine z_aload e_X12_readsFactor_9 0 rfl ?_
    refine z_ic e_X12_readsFactor_10 ?_
    obtain ⟨q6, s5, e7, h⟩ := bd_e h
    refine z_callVi (c0 := 69) (As := [.int (14 : Int32)]) (rest := []) lk_X12_233 ob_69 e_X12_readsFactor_12 (m_X12_opens G (14 : Int32) s1 _ _ e7) (by decide) rfl (Nat.le_of_ble_eq_true rfl) ?_
    refine z_if_ne e_X12_readsFactor_15 h (fun c8 h => ?_) (fun c8 h => ?_)
    · refine z_ic e_X12_readsFactor_18 ?_
      cases h
      exact z_zreturn hR e_X12_readsFactor_19 (Or.inl rfl)
    · exact z_sub [0] rfl (hw0  s5 h)
  · exact z_sub [0] rfl (p_X12_readsFactor_20 hR  s1 h)
noncomputable def F_X12_readsFactor_0L  : ((zSt) → Option (Int32 × zSt)) → (zSt) → Option (Int32 × zSt) := fun w s => F_X12_readsFactor_0 w s
set_option maxRecDepth 100000 in
theorem l_X12_readsFactor_0 {G : zG} {C : zC} {r : Int32} {τ : zSt} (hR : zR G C (some .boolean) (some (.int r)) τ)  : ∀ (N : Nat)  (σ : zSt), zfix (F_X12_readsFactor_0L ) N σ = some (r, τ) → zAW G 4 RX12 cX12_readsFactor 2 C 0 [(0, .ref (zad G 69))] [] σ := by
  intro N
  induction N with
  | zero =>
    intro  σ h
    exact nomatch (show (none : Option (Int32 × zSt)) = some (r, τ) from h)
  | succ N ih =>
    intro  σ h
    exact b_X12_readsFactor_0 hR (zfix (F_X12_readsFactor_0L ) N) ih  σ h
noncomputable def F_X12_readsFactor (σ : zSt) : Option (Int32 × zSt) := zfix (F_X12_readsFactor_0L ) zlim σ
set_option maxRecDepth 100000 in
theorem m_X12_readsFactor (G : zG) (σ : zSt) (q : Int32) (τ : zSt) (h : F_X12_readsFactor  σ = some (q, τ)) : zM G 4 yX12_readsFactor cX12_readsFactor 2 (some .boolean) [.ref (zad G 69)] σ (some (.int q)) τ := by
  unfold F_X12_readsFactor at h
  refine zM.of (own := RX12) (by decide +kernel) rfl (Nat.le_of_ble_eq_true rfl) (fun C hR => ?_)
  exact z_sub [0] rfl (l_X12_readsFactor_0 hR  zlim  σ h)
noncomputable def F_X12_sumSign_0 (x0 : Int32) (σ : zSt) : Option (Int32 × zSt) :=
  if x0 = (43 : Int32) then (
    some ((2 : Int32), σ))
  else (
    if x0 = (45 : Int32) then (
      some ((3 : Int32), σ))
    else (
      if x0 = (42 : Int32) then (
        some ((4 : Int32), σ))
      else (
        if x0 = (47 : Int32) then (
          some ((5 : Int32), σ))
        else (
          if x0 = (37 : Int32) then (
            some ((6 : Int32), σ))
          else (
            some ((-1 : Int32), σ))))))
set_option maxHeartbeats 4000000 in
set_option maxRecDepth 100000 in
theorem p_X12_sumSign_0 {G : zG} {C : zC} {r : Int32} {τ : zSt} (hR : zR G C (some .int) (some (.int r)) τ) (x0 : Int32) (σ : zSt) (h : F_X12_sumSign_0 x0 σ = some (r, τ)) : zAW G 1 RX12 cX12_sumSign 1 C 0 [(0, .int x0)] [] σ := by
  unfold F_X12_sumSign_0 at h
  refine z_iload e_X12_sumSign_0 0 rfl ?_
  refine z_ic e_X12_sumSign_1 ?_
  refine z_icmp_ne e_X12_sumSign_3 h (fun c1 h => ?_) (fun c1 h => ?_)
  · refine z_ic e_X12_sumSign_6 ?_
    refine z_goto e_X12_sumSign_7 ?_
    cases h
    exact z_ireturn hR e_X12_sumSign_52
  · refine z_iload e_X12_sumSign_10 0 rfl ?_
    refine z_ic e_X12_sumSign_11 ?_
    refine z_icmp_ne e_X12_sumSign_13 h (fun c2 h => ?_) (fun c2 h => ?_)
    · refine z_ic e_X12_sumSign_16 ?_
      refine z_goto e_X12_sumSign_17 ?_
      cases h
      exact z_ireturn hR e_X12_sumSign_52
    · refine z_iload e_X12_sumSign_20 0 rfl ?_
      refine z_ic e_X12_sumSign_21 ?_
      refine z_icmp_ne e_X12_sumSign_23 h (fun c3 h => ?_) (fun c3 h => ?_)
      · refine z_ic e_X12_sumSign_26 ?_
        refine z_goto e_X12_sumSign_27 ?_
        cases h
        exact z_ireturn hR e_X12_sumSign_52
      · refine z_iload e_X12_sumSign_30 0 rfl ?_
        refine z_ic e_X12_sumSign_31 ?_
        refine z_icmp_ne e_X12_sumSign_33 h (fun c4 h => ?_) (fun c4 h => ?_)
        · refine z_ic e_X12_sumSign_36 ?_
          refine z_goto e_X12_sumSign_37 ?_
          cases h
          exact z_ireturn hR e_X12_sumSign_52
        · refine z_iload e_X12_sumSign_40 0 rfl ?_
          refine z_ic e_X12_sumSign_41 ?_
          refine z_icmp_ne e_X12_sumSign_43 h (fun c5 h => ?_) (fun c5 h => ?_)
          · refine z_ic e_X12_sumSign_46 ?_
            refine z_goto e_X12_sumSign_48 ?_
            cases h
            exact z_ireturn hR e_X12_sumSign_52
          · refine z_ic e_X12_sumSign_51 ?_
            cases h
            exact z_ireturn hR e_X12_sumSign_52
noncomputable def F_X12_sumSign (x0 : Int32) (σ : zSt) : Option (Int32 × zSt) := F_X12_sumSign_0 x0 σ
set_option maxRecDepth 100000 in
theorem m_X12_sumSign (G : zG) (x0 : Int32) (σ : zSt) (q : Int32) (τ : zSt) (h : F_X12_sumSign x0 σ = some (q, τ)) : zM G 1 yX12_sumSign cX12_sumSign 1 (some .int) [.int x0] σ (some (.int q)) τ := by
  unfold F_X12_sumSign at h
  refine zM.of (own := RX12) (by decide +kernel) rfl (Nat.le_of_ble_eq_true rfl) (fun C hR => ?_)
  exact z_sub [0] rfl (p_X12_sumSign_0 hR x0 σ h)
noncomputable def F_X12_hasOpenSum_2 (w2 : (Int32 × zSt) → Option (Int32 × zSt)) (x2 : Int32) (σ : zSt) : Option (Int32 × zSt) :=
  if (σ.1 69 21) ≤ x2 then (
    some ((0 : Int32), σ))
  else (
    gd (vp_in x2 260) (
      if ((σ.1 78 x2.toNatClampNeg) / (1048576 : Int32)) = (14 : Int32) then (
        some ((1 : Int32), σ))
      else (
        nm (x2 + (1 : Int32)) (fun v3 =>
          w2 (v3, σ)))))
set_option maxHeartbeats 4000000 in
set_option maxRecDepth 100000 in
theorem b_X12_hasOpenSum_2 {G : zG} {C : zC} {r : Int32} {τ : zSt} (hR : zR G C (some .boolean) (some (.int r)) τ) (w2 : (Int32 × zSt) → Option (Int32 × zSt)) (hw2 : ∀ (x2 : Int32) (σ : zSt), w2 (x2, σ) = some (r, τ) → zAW G 1 RX12 cX12_hasOpenSum 3 C 2 [(0, .ref (zad G 69)), (2, .int x2)] [] σ) (x2 : Int32) (σ : zSt) (h : F_X12_hasOpenSum_2 w2 x2 σ = some (r, τ)) : zAW G 1 RX12 cX12_hasOpenSum 3 C 2 [(0, .ref (zad G 69)), (2, .int x2)] [] σ := by
  unfold F_X12_hasOpenSum_2 at h
  refine z_iload e_X12_hasOpenSum_2 1 rfl ?_
  refine z_aload e_X12_hasOpenSum_3 0 rfl ?_
  refine z_geti gf_X12_223_69 e_X12_hasOpenSum_4 ?_
  refine z_icmp_ge e_X12_hasOpenSum_7 h (fun c1 h => ?_) (fun c1 h => ?_)
  · refine z_ic e_X12_hasOpenSum_32 ?_
    cases h
    exact z_zreturn hR e_X12_hasOpenSum_33 (Or.inl rfl)
  · refine z_aload e_X12_hasOpenSum_10 0 rfl ?_
    refine z_getr gf_X12_35_69 e_X12_hasOpenSum_11 ?_
    refine z_iload e_X12_hasOpenSum_14 1 rfl ?_
    refine z_iald sh_78 e_X12_hasOpenSum_15 h (fun h => ?_)
    refine z_ldc cs_X12_219 e_X12_hasOpenSum_16 ?_
    refine z_idiv e_X12_hasOpenSum_18 (by decide) ?_
    refine z_ic e_X12_hasOpenSum_19 ?_
    refine z_icmp_ne e_X12_hasOpenSum_21 h (fun c2 h => ?_) (fun c2 h => ?_)
    · refine z_ic e_X12_hasOpenSum_24 ?_
      cases h
      exact z_zreturn hR e_X12_hasOpenSum_25 (Or.inr rfl)
    · refine z_iinc e_X12_hasOpenSum_26 1 rfl (by decide) (by decide) h (fun y => [(2, .int y), (0, .ref (zad G 69))]) (fun _ => rfl) (fun v3 h => ?_)
      refine z_goto e_X12_hasOpenSum_29 ?_
      exact z_sub [1, 0] rfl (hw2 v3 σ h)
noncomputable def F_X12_hasOpenSum_2L  : ((Int32 × zSt) → Option (Int32 × zSt)) → (Int32 × zSt) → Option (Int32 × zSt) := fun w s => F_X12_hasOpenSum_2 w s.1 s.2
set_option maxRecDepth 100000 in
theorem l_X12_hasOpenSum_2 {G : zG} {C : zC} {r : Int32} {τ : zSt} (hR : zR G C (some .boolean) (some (.int r)) τ)  : ∀ (N : Nat) (x2 : Int32) (σ : zSt), zfix (F_X12_hasOpenSum_2L ) N (x2, σ) = some (r, τ) → zAW G 1 RX12 cX12_hasOpenSum 3 C 2 [(0, .ref (zad G 69)), (2, .int x2)] [] σ := by
  intro N
  induction N with
  | zero =>
    intro x2 σ h
    exact nomatch (show (none : Option (Int32 × zSt)) = some (r, τ) from h)
  | succ N ih =>
    intro x2 σ h
    exact b_X12_hasOpenSum_2 hR (zfix (F_X12_hasOpenSum_2L ) N) ih x2 σ h
noncomputable def F_X12_hasOpenSum_0 (x1 : Int32) (σ : zSt) : Option (Int32 × zSt) :=
  zfix (F_X12_hasOpenSum_2L ) zlim (x1, σ)
set_option maxHeartbeats 4000000 in
set_option maxRecDepth 100000 in
theorem p_X12_hasOpenSum_0 {G : zG} {C : zC} {r : Int32} {τ : zSt} (hR : zR G C (some .boolean) (some (.int r)) τ) (x1 : Int32) (σ : zSt) (h : F_X12_hasOpenSum_0 x1 σ = some (r, τ)) : zAW G 1 RX12 cX12_hasOpenSum 3 C 0 [(0, .ref (zad G 69)), (1, .int x1)] [] σ := by
  unfold F_X12_hasOpenSum_0 at h
  refine z_iload e_X12_hasOpenSum_0 1 rfl ?_
  refine z_istore e_X12_hasOpenSum_1 (by decide) [(2, .int x1), (0, .ref (zad G 69)), (1, .int x1)] rfl ?_
  exact z_sub [1, 0] rfl (l_X12_hasOpenSum_2 hR  zlim x1 σ h)
noncomputable def F_X12_hasOpenSum (x1 : Int32) (σ : zSt) : Option (Int32 × zSt) := F_X12_hasOpenSum_0 x1 σ
set_option maxRecDepth 100000 in
theorem m_X12_hasOpenSum (G : zG) (x1 : Int32) (σ : zSt) (q : Int32) (τ : zSt) (h : F_X12_hasOpenSum x1 σ = some (q, τ)) : zM G 1 yX12_hasOpenSum cX12_hasOpenSum 3 (some .boolean) [.ref (zad G 69), .int x1] σ (some (.int q)) τ := by
  unfold F_X12_hasOpenSum at h
  refine zM.of (own := RX12) (by decide +kernel) rfl (Nat.le_of_ble_eq_true rfl) (fun C hR => ?_)
  exact z_sub [0, 1] rfl (p_X12_hasOpenSum_0 hR x1 σ h)
noncomputable def F_X12_waitTop_0 (σ : zSt) : Option (Int32 × zSt) :=
  if (σ.1 69 21) = 0 then (
    some ((-1 : Int32), σ))
  else (
    gd (vp_in ((σ.1 69 21) - (1 : Int32)) 260) (
      some (((σ.1 78 ((σ.1 69 21) - (1 : Int32)).toNatClampNeg) / (1048576 : Int32)), σ)))
set_option maxHeartbeats 4000000 in
set_option maxRecDepth 100000 in
theorem p_X12_waitTop_0 {G : zG} {C : zC} {r : Int32} {τ : zSt} (hR : zR G C (some .int) (some (.int r)) τ)  (σ : zSt) (h : F_X12_waitTop_0 σ = some (r, τ)) : zAW G 1 RX12 cX12_waitTop 1 C 0 [(0, .ref (zad G 69))] [] σ := by
  unfold F_X12_waitTop_0 at h
  refine z_aload e_X12_waitTop_0 0 rfl ?_
  refine z_geti gf_X12_223_69 e_X12_waitTop_1 ?_
  refine z_if_ne e_X12_waitTop_4 h (fun c1 h => ?_) (fun c1 h => ?_)
  · refine z_ic e_X12_waitTop_7 ?_
    refine z_goto e_X12_waitTop_8 ?_
    cases h
    exact z_ireturn hR e_X12_waitTop_25
  · refine z_aload e_X12_waitTop_11 0 rfl ?_
    refine z_getr gf_X12_35_69 e_X12_waitTop_12 ?_
    refine z_aload e_X12_waitTop_15 0 rfl ?_
    refine z_geti gf_X12_223_69 e_X12_waitTop_16 ?_
    refine z_ic e_X12_waitTop_19 ?_
    refine z_isub e_X12_waitTop_20 ?_
    refine z_iald sh_78 e_X12_waitTop_21 h (fun h => ?_)
    refine z_ldc cs_X12_219 e_X12_waitTop_22 ?_
    refine z_idiv e_X12_waitTop_24 (by decide) ?_
    cases h
    exact z_ireturn hR e_X12_waitTop_25
noncomputable def F_X12_waitTop (σ : zSt) : Option (Int32 × zSt) := F_X12_waitTop_0  σ
set_option maxRecDepth 100000 in
theorem m_X12_waitTop (G : zG) (σ : zSt) (q : Int32) (τ : zSt) (h : F_X12_waitTop  σ = some (q, τ)) : zM G 1 yX12_waitTop cX12_waitTop 1 (some .int) [.ref (zad G 69)] σ (some (.int q)) τ := by
  unfold F_X12_waitTop at h
  refine zM.of (own := RX12) (by decide +kernel) rfl (Nat.le_of_ble_eq_true rfl) (fun C hR => ?_)
  exact z_sub [0] rfl (p_X12_waitTop_0 hR  σ h)
noncomputable def F_X12_closesSums_37 (w0 : (zSt) → Option (Unit × zSt)) (x1 : Int32) (σ : zSt) : Option (Unit × zSt) :=
  bd (F_X12_waitTop σ) (fun q11 s10 =>
    bd (F_X12_notes q11 (0 : Int32) s10) (fun _ s13 =>
      nm (zwr s13 69 21 ((s13.1 69 21) - (1 : Int32))) (fun s16 =>
        w0 s16)))
set_option maxHeartbeats 4000000 in
set_option maxRecDepth 100000 in
theorem p_X12_closesSums_37 {G : zG} {C : zC} {r : Unit} {τ : zSt} (hR : zR G C none none τ) (w0 : (zSt) → Option (Unit × zSt)) (x1 : Int32) (hw0 : ∀  (σ : zSt), w0 σ = some (r, τ) → zAW G 2 RX12 cX12_closesSums 2 C 0 [(0, .ref (zad G 69)), (1, .int x1)] [] σ) (σ : zSt) (h : F_X12_closesSums_37 w0 x1 σ = some (r, τ)) : zAW G 2 RX12 cX12_closesSums 2 C 37 [(0, .ref (zad G 69)), (1, .int x1)] [] σ := by
  unfold F_X12_closesSums_37 at h
  refine z_aload e_X12_closesSums_37 0 rfl ?_
  refine z_aload e_X12_closesSums_38 0 rfl ?_
  obtain ⟨q11, s10, e12, h⟩ := bd_e h
  refine z_callVi (c0 := 69) (As := []) (rest := [.ref (zad G 69)]) lk_X12_226 ob_69 e_X12_closesSums_39 (m_X12_waitTop G σ _ _ e12) (by decide) rfl (Nat.le_of_ble_eq_true rfl) ?_
  refine z_ic e_X12_closesSums_42 ?_
  obtain ⟨q14, s13, e15, h⟩ := bd_e h
  refine z_callVv (c0 := 69) (As := [.int q11, .int (0 : Int32)]) (rest := []) lk_X12_229 ob_69 e_X12_closesSums_43 (m_X12_notes G q11 (0 : Int32) s10 _ _ e15) (by decide) rfl (Nat.le_of_ble_eq_true rfl) ?_
  refine z_aload e_X12_closesSums_46 0 rfl ?_
  refine z_aload e_X12_closesSums_47 0 rfl ?_
  refine z_geti gf_X12_223_69 e_X12_closesSums_48 ?_
  refine z_ic e_X12_closesSums_51 ?_
  refine z_isub e_X12_closesSums_52 ?_
  refine z_puti pf_X12_223_69 e_X12_closesSums_53 h (fun s16 h => ?_)
  refine z_goto e_X12_closesSums_56 ?_
  exact z_sub [0, 1] rfl (hw0  s16 h)
noncomputable def F_X12_closesSums_17 (w0 : (zSt) → Option (Unit × zSt)) (x1 : Int32) (σ : zSt) : Option (Unit × zSt) :=
  if x1 = 0 then (
    some ((), σ))
  else (
    bd (F_X12_waitTop σ) (fun q7 s6 =>
      if q7 = (2 : Int32) then (
        F_X12_closesSums_37 w0 x1 s6)
      else (
        bd (F_X12_waitTop s6) (fun q18 s17 =>
          if q18 = (3 : Int32) then (
            F_X12_closesSums_37 w0 x1 s17)
          else (
            some ((), s17))))))
set_option maxHeartbeats 4000000 in
set_option maxRecDepth 100000 in
theorem p_X12_closesSums_17 {G : zG} {C : zC} {r : Unit} {τ : zSt} (hR : zR G C none none τ) (w0 : (zSt) → Option (Unit × zSt)) (x1 : Int32) (hw0 : ∀  (σ : zSt), w0 σ = some (r, τ) → zAW G 2 RX12 cX12_closesSums 2 C 0 [(0, .ref (zad G 69)), (1, .int x1)] [] σ) (σ : zSt) (h : F_X12_closesSums_17 w0 x1 σ = some (r, τ)) : zAW G 2 RX12 cX12_closesSums 2 C 17 [(0, .ref (zad G 69)), (1, .int x1)] [] σ := by
  unfold F_X12_closesSums_17 at h
  refine z_iload e_X12_closesSums_17 1 rfl ?_
  refine z_if_eq e_X12_closesSums_18 h (fun c5 h => ?_) (fun c5 h => ?_)
  · cases h
    exact z_vreturn hR e_X12_closesSums_59
  · refine z_aload e_X12_closesSums_21 0 rfl ?_
    obtain ⟨q7, s6, e8, h⟩ := bd_e h
    refine z_callVi (c0 := 69) (As := []) (rest := []) lk_X12_226 ob_69 e_X12_closesSums_22 (m_X12_waitTop G σ _ _ e8) (by decide) rfl (Nat.le_of_ble_eq_true rfl) ?_
    refine z_ic e_X12_closesSums_25 ?_
    refine z_icmp_eq e_X12_closesSums_26 h (fun c9 h => ?_) (fun c9 h => ?_)
    · exact z_sub [0, 1] rfl (p_X12_closesSums_37 hR w0 x1 hw0 s6 h)
    · refine z_aload e_X12_closesSums_29 0 rfl ?_
      obtain ⟨q18, s17, e19, h⟩ := bd_e h
      refine z_callVi (c0 := 69) (As := []) (rest := []) lk_X12_226 ob_69 e_X12_closesSums_30 (m_X12_waitTop G s6 _ _ e19) (by decide) rfl (Nat.le_of_ble_eq_true rfl) ?_
      refine z_ic e_X12_closesSums_33 ?_
      refine z_icmp_ne e_X12_closesSums_34 h (fun c20 h => ?_) (fun c20 h => ?_)
      · exact z_sub [0, 1] rfl (p_X12_closesSums_37 hR w0 x1 hw0 s17 h)
      · cases h
        exact z_vreturn hR e_X12_closesSums_59
noncomputable def F_X12_closesSums_0 (x1 : Int32) (w0 : (zSt) → Option (Unit × zSt)) (σ : zSt) : Option (Unit × zSt) :=
  bd (F_X12_waitTop σ) (fun q2 s1 =>
    if q2 < (4 : Int32) then (
      F_X12_closesSums_17 w0 x1 s1)
    else (
      bd (F_X12_waitTop s1) (fun q22 s21 =>
        if q22 ≤ (6 : Int32) then (
          F_X12_closesSums_37 w0 x1 s21)
        else (
          F_X12_closesSums_17 w0 x1 s21))))
set_option maxHeartbeats 4000000 in
set_option maxRecDepth 100000 in
theorem b_X12_closesSums_0 {G : zG} {C : zC} {r : Unit} {τ : zSt} (hR : zR G C none none τ) (x1 : Int32) (w0 : (zSt) → Option (Unit × zSt)) (hw0 : ∀  (σ : zSt), w0 σ = some (r, τ) → zAW G 2 RX12 cX12_closesSums 2 C 0 [(0, .ref (zad G 69)), (1, .int x1)] [] σ) (σ : zSt) (h : F_X12_closesSums_0 x1 w0 σ = some (r, τ)) : zAW G 2 RX12 cX12_closesSums 2 C 0 [(0, .ref (zad G 69)), (1, .int x1)] [] σ := by
  unfold F_X12_closesSums_0 at h
  refine z_aload e_X12_closesSums_0 0 rfl ?_
  obtain ⟨q2, s1, e3, h⟩ := bd_e h
  refine z_callVi (c0 := 69) (As := []) (rest := []) lk_X12_226 ob_69 e_X12_closesSums_1 (m_X12_waitTop G σ _ _ e3) (by decide) rfl (Nat.le_of_ble_eq_true rfl) ?_
  refine z_ic e_X12_closesSums_4 ?_
  refine z_icmp_lt e_X12_closesSums_5 h (fun c4 h => ?_) (fun c4 h => ?_)
  · exact z_sub [0, 1] rfl (p_X12_closesSums_17 hR w0 x1 hw0 s1 h)
  · refine z_aload e_X12_closesSums_8 0 rfl ?_
    obtain ⟨q22, s21, e23, h⟩ := bd_e h
    refine z_callVi (c0 := 69) (As := []) (rest := []) lk_X12_226 ob_69 e_X12_closesSums_9 (m_X12_waitTop G s1 _ _ e23) (by decide) rfl (Nat.le_of_ble_eq_true rfl) ?_
    refine z_ic e_X12_closesSums_12 ?_
    refine z_icmp_le e_X12_closesSums_14 h (fun c24 h => ?_) (fun c24 h => ?_)
    · exact z_sub [0, 1] rfl (p_X12_closesSums_37 hR w0 x1 hw0 s21 h)
    · exact z_sub [0, 1] rfl (p_X12_closesSums_17 hR w0 x1 hw0 s21 h)
noncomputable def F_X12_closesSums_0L (x1 : Int32) : ((zSt) → Option (Unit × zSt)) → (zSt) → Option (Unit × zSt) := fun w s => F_X12_closesSums_0 x1 w s
set_option maxRecDepth 100000 in
theorem l_X12_closesSums_0 {G : zG} {C : zC} {r : Unit} {τ : zSt} (hR : zR G C none none τ) (x1 : Int32) : ∀ (N : Nat)  (σ : zSt), zfix (F_X12_closesSums_0L x1) N σ = some (r, τ) → zAW G 2 RX12 cX12_closesSums 2 C 0 [(0, .ref (zad G 69)), (1, .int x1)] [] σ := by
  intro N
  induction N with
  | zero =>
    intro  σ h
    exact nomatch (show (none : Option (Unit × zSt)) = some (r, τ) from h)
  | succ N ih =>
    intro  σ h
    exact b_X12_closesSums_0 hR x1 (zfix (F_X12_closesSums_0L x1) N) ih  σ h
noncomputable def F_X12_closesSums (x1 : Int32) (σ : zSt) : Option (Unit × zSt) := zfix (F_X12_closesSums_0L x1) zlim σ
set_option maxRecDepth 100000 in
theorem m_X12_closesSums (G : zG) (x1 : Int32) (σ : zSt) (q : Unit) (τ : zSt) (h : F_X12_closesSums x1 σ = some (q, τ)) : zM G 2 yX12_closesSums cX12_closesSums 2 none [.ref (zad G 69), .int x1] σ none τ := by
  unfold F_X12_closesSums at h
  refine zM.of (own := RX12) (by decide +kernel) rfl (Nat.le_of_ble_eq_true rfl) (fun C hR => ?_)
  exact z_sub [0, 1] rfl (l_X12_closesSums_0 hR x1 zlim  σ h)
noncomputable def F_X12_readsSum_138 (x1 : Int32) (σ : zSt) : Option (Int32 × zSt) :=
  bd (F_X12_hasOpenSum x1 σ) (fun q21 s20 =>
    if q21 = 0 then (
      bd (F_X12_closesSums (1 : Int32) s20) (fun _ s24 =>
        some ((1 : Int32), s24)))
    else (
      bd (F_X12_wrongAt (1 : Int32) (s20.1 69 15) s20) (fun q28 s27 =>
        gd (q28 = 0 ∨ q28 = 1) (some (q28, s27)))))
set_option maxHeartbeats 4000000 in
set_option maxRecDepth 100000 in
theorem p_X12_readsSum_138 {G : zG} {C : zC} {r : Int32} {τ : zSt} (hR : zR G C (some .boolean) (some (.int r)) τ) (x1 : Int32) (σ : zSt) (h : F_X12_readsSum_138 x1 σ = some (r, τ)) : zAW G 5 RX12 cX12_readsSum 3 C 138 [(0, .ref (zad G 69)), (1, .int x1)] [] σ := by
  unfold F_X12_readsSum_138 at h
  refine z_aload e_X12_readsSum_138 0 rfl ?_
  refine z_iload e_X12_readsSum_139 1 rfl ?_
  obtain ⟨q21, s20, e22, h⟩ := bd_e h
  refine z_callVi (c0 := 69) (As := [.int x1]) (rest := []) lk_X12_252 ob_69 e_X12_readsSum_140 (m_X12_hasOpenSum G x1 σ _ _ e22) (by decide) rfl (Nat.le_of_ble_eq_true rfl) ?_
  refine z_if_eq e_X12_readsSum_143 h (fun c23 h => ?_) (fun c23 h => ?_)
  · refine z_aload e_X12_readsSum_156 0 rfl ?_
    refine z_ic e_X12_readsSum_157 ?_
    obtain ⟨q25, s24, e26, h⟩ := bd_e h
    refine z_callVv (c0 := 69) (As := [.int (1 : Int32)]) (rest := []) lk_X12_248 ob_69 e_X12_readsSum_158 (m_X12_closesSums G (1 : Int32) s20 _ _ e26) (by decide) rfl (Nat.le_of_ble_eq_true rfl) ?_
    refine z_ic e_X12_readsSum_161 ?_
    cases h
    exact z_zreturn hR e_X12_readsSum_162 (Or.inr rfl)
  · refine z_aload e_X12_readsSum_146 0 rfl ?_
    refine z_ic e_X12_readsSum_147 ?_
    refine z_aload e_X12_readsSum_148 0 rfl ?_
    refine z_geti gf_X12_193_69 e_X12_readsSum_149 ?_
    obtain ⟨q28, s27, e29, h⟩ := bd_e h
    refine z_callVi (c0 := 69) (As := [.int (1 : Int32), .int (s20.1 69 15)]) (rest := []) lk_X12_206 ob_69 e_X12_readsSum_152 (m_X12_wrongAt G (1 : Int32) (s20.1 69 15) s20 _ _ e29) (by decide) rfl (Nat.le_of_ble_eq_true rfl) ?_
    obtain ⟨hb30, h⟩ := gd_e h
    cases h
    exact z_zreturn hR e_X12_readsSum_155 hb30
noncomputable def F_X12_readsSum_163 (w14 : (zSt) → Option (Int32 × zSt)) (x1 : Int32) (σ : zSt) : Option (Int32 × zSt) :=
  w14 σ
set_option maxHeartbeats 4000000 in
set_option maxRecDepth 100000 in
theorem p_X12_readsSum_163 {G : zG} {C : zC} {r : Int32} {τ : zSt} (hR : zR G C (some .boolean) (some (.int r)) τ) (w14 : (zSt) → Option (Int32 × zSt)) (x1 : Int32) (hw14 : ∀  (σ : zSt), w14 σ = some (r, τ) → zAW G 5 RX12 cX12_readsSum 3 C 14 [(0, .ref (zad G 69)), (1, .int x1)] [] σ) (σ : zSt) (h : F_X12_readsSum_163 w14 x1 σ = some (r, τ)) : zAW G 5 RX12 cX12_readsSum 3 C 163 [(0, .ref (zad G 69)), (1, .int x1)] [] σ := by
  unfold F_X12_readsSum_163 at h
  refine z_goto e_X12_readsSum_163 ?_
  exact z_sub [0, 1] rfl (hw14  σ h)
noncomputable def F_X12_readsSum_14 (x1 : Int32) (w14 : (zSt) → Option (Int32 × zSt)) (σ : zSt) : Option (Int32 × zSt) :=
  bd (F_X12_here σ) (fun q6 s5 =>
    bd (F_X12_sumSign q6 s5) (fun q9 s8 =>
      if q9 = (-1 : Int32) then (
        bd (F_X12_here s8) (fun q13 s12 =>
          if q13 = (93 : Int32) then (
            bd (F_X12_hasOpenSum x1 s12) (fun q17 s16 =>
              if q17 = 0 then (
                F_X12_readsSum_138 x1 s16)
              else (
                bd (F_X12_closesSums (1 : Int32) s16) (fun _ s31 =>
                  nm (zwr s31 69 21 ((s31.1 69 21) - (1 : Int32))) (fun s34 =>
                    nm (zwr s34 69 19 ((s34.1 69 19) - (1 : Int32))) (fun s35 =>
                      nm (zwr s35 69 15 ((s35.1 69 15) + (1 : Int32))) (fun s36 =>
                        F_X12_readsSum_163 w14 x1 s36)))))))
          else (
            F_X12_readsSum_138 x1 s12)))
      else (
        nm (if (4 : Int32) ≤ q9 then (0 : Int32) else (1 : Int32)) (fun v37 =>
          bd (F_X12_closesSums v37 s8) (fun _ s38 =>
            gd (vp_in (s38.1 69 21) 260) (nm (zwr s38 78 (s38.1 69 21).toNatClampNeg ((1048576 : Int32) * q9)) (fun s41 =>
              nm (zwr s41 69 21 ((s41.1 69 21) + (1 : Int32))) (fun s42 =>
                nm (zwr s42 69 15 ((s42.1 69 15) + (1 : Int32))) (fun s43 =>
                  bd (F_X12_readsFactor s43) (fun q45 s44 =>
                    if q45 = 0 then (
                      some ((0 : Int32), s44))
                    else (
                      F_X12_readsSum_163 w14 x1 s44)))))))))))
set_option maxHeartbeats 4000000 in
set_option maxRecDepth 100000 in
theorem b_X12_readsSum_14 {G : zG} {C : zC} {r : Int32} {τ : zSt} (hR : zR G C (some .boolean) (some (.int r)) τ) (x1 : Int32) (w14 : (zSt) → Option (Int32 × zSt)) (hw14 : ∀  (σ : zSt), w14 σ = some (r, τ) → zAW G 5 RX12 cX12_readsSum 3 C 14 [(0, .ref (zad G 69)), (1, .int x1)] [] σ) (σ : zSt) (h : F_X12_readsSum_14 x1 w14 σ = some (r, τ)) : zAW G 5 RX12 cX12_readsSum 3 C 14 [(0, .ref (zad G 69)), (1, .int x1)] [] σ := by
  unfold F_X12_readsSum_14 at h
  refine z_aload e_X12_readsSum_14 0 rfl ?_
  obtain ⟨q6, s5, e7, h⟩ := bd_e h
  refine z_callVi (c0 := 69) (As := []) (rest := []) lk_X12_199 ob_69 e_X12_readsSum_15 (m_X12_here G σ _ _ e7) (by decide) rfl (Nat.le_of_ble_eq_true rfl) ?_
  obtain ⟨q9, s8, e10, h⟩ := bd_e h
  refine z_callSi (As := [.int q6]) (rest := []) lk_X12_245 e_X12_readsSum_18 (m_X12_sumSign G q6 s5 _ _ e10) (by decide) rfl (Nat.le_of_ble_eq_true rfl) ?_
  refine z_istore e_X12_readsSum_21 (by decide) [(2, .int q9), (0, .ref (zad G 69)), (1, .int x1)] rfl ?_
  refine z_iload e_X12_readsSum_22 0 rfl ?_
  refine z_ic e_X12_readsSum_23 ?_
  refine z_icmp_eq e_X12_readsSum_24 h (fun c11 h => ?_) (fun c11 h => ?_)
  · refine z_aload e_X12_readsSum_83 1 rfl ?_
    obtain ⟨q13, s12, e14, h⟩ := bd_e h
    refine z_callVi (c0 := 69) (As := []) (rest := []) lk_X12_199 ob_69 e_X12_readsSum_84 (m_X12_here G s8 _ _ e14) (by decide) rfl (Nat.le_of_ble_eq_true rfl) ?_
    refine z_ic e_X12_readsSum_87 ?_
    refine z_icmp_ne e_X12_readsSum_89 h (fun c15 h => ?_) (fun c15 h => ?_)
    · refine z_aload e_X12_readsSum_92 1 rfl ?_
      refine z_iload e_X12_readsSum_93 2 rfl ?_
      obtain ⟨q17, s16, e18, h⟩ := bd_e h
      refine z_callVi (c0 := 69) (As := [.int x1]) (rest := []) lk_X12_252 ob_69 e_X12_readsSum_94 (m_X12_hasOpenSum G x1 s12 _ _ e18) (by decide) rfl (Nat.le_of_ble_eq_true rfl) ?_
      refine z_if_eq e_X12_readsSum_97 h (fun c19 h => ?_) (fun c19 h => ?_)
      · exact z_sub [1, 2] rfl (p_X12_readsSum_138 hR x1 s16 h)
      · refine z_aload e_X12_readsSum_100 1 rfl ?_
        refine z_ic e_X12_readsSum_101 ?_
        obtain ⟨q32, s31, e33, h⟩ := bd_e h
        refine z_callVv (c0 := 69) (As := [.int (1 : Int32)]) (rest := []) lk_X12_248 ob_69 e_X12_readsSum_102 (m_X12_closesSums G (1 : Int32) s16 _ _ e33) (by decide) rfl (Nat.le_of_ble_eq_true rfl) ?_
        refine z_aload e_X12_readsSum_105 1 rfl ?_
        refine z_aload e_X12_readsSum_106 1 rfl ?_
        refine z_geti gf_X12_223_69 e_X12_readsSum_107 ?_
        refine z_ic e_X12_readsSum_110 ?_
        refine z_isub e_X12_readsSum_111 ?_
        refine z_puti pf_X12_223_69 e_X12_readsSum_112 h (fun s34 h => ?_)
        refine z_aload e_X12_readsSum_115 1 rfl ?_
        refine z_aload e_X12_readsSum_116 1 rfl ?_
        refine z_geti gf_X12_220_69 e_X12_readsSum_117 ?_
        refine z_ic e_X12_readsSum_120 ?_
        refine z_isub e_X12_readsSum_121 ?_
        refine z_puti pf_X12_220_69 e_X12_readsSum_122 h (fun s35 h => ?_)
        refine z_aload e_X12_readsSum_125 1 rfl ?_
        refine z_aload e_X12_readsSum_126 1 rfl ?_
        refine z_geti gf_X12_193_69 e_X12_readsSum_127 ?_
        refine z_ic e_X12_readsSum_130 ?_
        refine z_iadd e_X12_readsSum_131 ?_
        refine z_puti pf_X12_193_69 e_X12_readsSum_132 h (fun s36 h => ?_)
        refine z_goto e_X12_readsSum_135 ?_
        exact z_sub [1, 2] rfl (p_X12_readsSum_163 hR w14 x1 hw14 s36 h)
    · exact z_sub [1, 2] rfl (p_X12_readsSum_138 hR x1 s12 h)
  · refine z_aload e_X12_readsSum_27 1 rfl ?_
    refine z_iload e_X12_readsSum_28 0 rfl ?_
    refine z_ic e_X12_readsSum_29 ?_
    obtain ⟨v37, ev37, h⟩ := nm_i h
    have jv37 : zAW G 5 RX12 cX12_readsSum 3 C 38 [(0, .ref (zad G 69)), (1, .int x1), (2, .int q9)] [.int v37, .ref (zad G 69)] s8 := by
      obtain ⟨q39, s38, e40, h⟩ := bd_e h
      refine z_callVv (c0 := 69) (As := [.int v37]) (rest := []) lk_X12_248 ob_69 e_X12_readsSum_38 (m_X12_closesSums G v37 s8 _ _ e40) (by decide) rfl (Nat.le_of_ble_eq_true rfl) ?_
      refine z_aload e_X12_readsSum_41 0 rfl ?_
      refine z_getr gf_X12_35_69 e_X12_readsSum_42 ?_
      refine z_aload e_X12_readsSum_45 0 rfl ?_
      refine z_geti gf_X12_223_69 e_X12_readsSum_46 ?_
      refine z_ldc cs_X12_219 e_X12_readsSum_49 ?_
      refine z_iload e_X12_readsSum_51 2 rfl ?_
      refine z_imul e_X12_readsSum_52 ?_
      refine z_iast sh_78 e_X12_readsSum_53 h (fun s41 h => ?_)
      refine z_aload e_X12_readsSum_54 0 rfl ?_
      refine z_aload e_X12_readsSum_55 0 rfl ?_
      refine z_geti gf_X12_223_69 e_X12_readsSum_56 ?_
      refine z_ic e_X12_readsSum_59 ?_
      refine z_iadd e_X12_readsSum_60 ?_
      refine z_puti pf_X12_223_69 e_X12_readsSum_61 h (fun s42 h => ?_)
      refine z_aload e_X12_readsSum_64 0 rfl ?_
      refine z_aload e_X12_readsSum_65 0 rfl ?_
      refine z_geti gf_X12_193_69 e_X12_readsSum_66 ?_
      refine z_ic e_X12_readsSum_69 ?_
      refine z_iadd e_X12_readsSum_70 ?_
      refine z_puti pf_X12_193_69 e_X12_readsSum_71 h (fun s43 h => ?_)
      refine z_aload e_X12_readsSum_74 0 rfl ?_
      obtain ⟨q45, s44, e46, h⟩ := bd_e h
      refine z_callVi (c0 := 69) (As := []) (rest := []) lk_X12_242 ob_69 e_X12_readsSum_75 (m_X12_readsFactor G s43 _ _ e46) (by decide) rfl (Nat.le_of_ble_eq_true rfl) ?_
      refine z_if_ne e_X12_readsSum_78 h (fun c47 h => ?_) (fun c47 h => ?_)
      · refine z_ic e_X12_readsSum_81 ?_
        cases h
        exact z_zreturn hR e_X12_readsSum_82 (Or.inl rfl)
      · exact z_sub [0, 1] rfl (p_X12_readsSum_163 hR w14 x1 hw14 s44 h)
    refine y_icmp_ge e_X12_readsSum_30 (fun c48 => ?_) (fun c48 => ?_)
    · refine z_ic e_X12_readsSum_37 ?_
      rw [if_pos c48] at ev37
      subst ev37
      exact z_sub [1, 2, 0] rfl jv37
    · refine z_ic e_X12_readsSum_33 ?_
      refine z_goto e_X12_readsSum_34 ?_
      rw [if_neg c48] at ev37
      subst ev37
      exact z_sub [1, 2, 0] rfl jv37
noncomputable def F_X12_readsSum_14L (x1 : Int32) : ((zSt) → Option (Int32 × zSt)) → (zSt) → Option (Int32 × zSt) := fun w s => F_X12_readsSum_14 x1 w s
set_option maxRecDepth 100000 in
theorem l_X12_readsSum_14 {G : zG} {C : zC} {r : Int32} {τ : zSt} (hR : zR G C (some .boolean) (some (.int r)) τ) (x1 : Int32) : ∀ (N : Nat)  (σ : zSt), zfix (F_X12_readsSum_14L x1) N σ = some (r, τ) → zAW G 5 RX12 cX12_readsSum 3 C 14 [(0, .ref (zad G 69)), (1, .int x1)] [] σ := by
  intro N
  induction N with
  | zero =>
    intro  σ h
    exact nomatch (show (none : Option (Int32 × zSt)) = some (r, τ) from h)
  | succ N ih =>
    intro  σ h
    exact b_X12_readsSum_14 hR x1 (zfix (F_X12_readsSum_14L x1) N) ih  σ h
noncomputable def F_X12_readsSum_0 (σ : zSt) : Option (Int32 × zSt) :=
  bd (F_X12_readsFactor σ) (fun q2 s1 =>
    if q2 = 0 then (
      some ((0 : Int32), s1))
    else (
      zfix (F_X12_readsSum_14L (σ.1 69 21)) zlim s1))
set_option maxHeartbeats 4000000 in
set_option maxRecDepth 100000 in
theorem p_X12_readsSum_0 {G : zG} {C : zC} {r : Int32} {τ : zSt} (hR : zR G C (some .boolean) (some (.int r)) τ)  (σ : zSt) (h : F_X12_readsSum_0 σ = some (r, τ)) : zAW G 5 RX12 cX12_readsSum 3 C 0 [(0, .ref (zad G 69))] [] σ := by
  unfold F_X12_readsSum_0 at h
  refine z_aload e_X12_readsSum_0 0 rfl ?_
  refine z_geti gf_X12_223_69 e_X12_readsSum_1 ?_
  refine z_istore e_X12_readsSum_4 (by decide) [(1, .int (σ.1 69 21)), (0, .ref (zad G 69))] rfl ?_
  refine z_aload e_X12_readsSum_5 1 rfl ?_
  obtain ⟨q2, s1, e3, h⟩ := bd_e h
  refine z_callVi (c0 := 69) (As := []) (rest := []) lk_X12_242 ob_69 e_X12_readsSum_6 (m_X12_readsFactor G σ _ _ e3) (by decide) rfl (Nat.le_of_ble_eq_true rfl) ?_
  refine z_if_ne e_X12_readsSum_9 h (fun c4 h => ?_) (fun c4 h => ?_)
  · refine z_ic e_X12_readsSum_12 ?_
    cases h
    exact z_zreturn hR e_X12_readsSum_13 (Or.inl rfl)
  · exact z_sub [1, 0] rfl (l_X12_readsSum_14 hR (σ.1 69 21) zlim  s1 h)
noncomputable def F_X12_readsSum (σ : zSt) : Option (Int32 × zSt) := F_X12_readsSum_0  σ
set_option maxRecDepth 100000 in
theorem m_X12_readsSum (G : zG) (σ : zSt) (q : Int32) (τ : zSt) (h : F_X12_readsSum  σ = some (q, τ)) : zM G 5 yX12_readsSum cX12_readsSum 3 (some .boolean) [.ref (zad G 69)] σ (some (.int q)) τ := by
  unfold F_X12_readsSum at h
  refine zM.of (own := RX12) (by decide +kernel) rfl (Nat.le_of_ble_eq_true rfl) (fun C hR => ?_)
  exact z_sub [0] rfl (p_X12_readsSum_0 hR  σ h)
noncomputable def F_X12_endsPiece_0 (w0 : (zSt) → Option (Unit × zSt)) (σ : zSt) : Option (Unit × zSt) :=
  bd (F_X12_waitTop σ) (fun q2 s1 =>
    if q2 = (10 : Int32) then (
      bd (F_X12_notes (10 : Int32) (0 : Int32) s1) (fun _ s5 =>
        nm (zwr s5 69 21 ((s5.1 69 21) - (1 : Int32))) (fun s8 =>
          nm (zwr s8 69 19 ((s8.1 69 19) - (1 : Int32))) (fun s9 =>
            w0 s9))))
    else (
      some ((), s1)))
set_option maxHeartbeats 4000000 in
set_option maxRecDepth 100000 in
theorem b_X12_endsPiece_0 {G : zG} {C : zC} {r : Unit} {τ : zSt} (hR : zR G C none none τ) (w0 : (zSt) → Option (Unit × zSt)) (hw0 : ∀  (σ : zSt), w0 σ = some (r, τ) → zAW G 2 RX12 cX12_endsPiece 1 C 0 [(0, .ref (zad G 69))] [] σ) (σ : zSt) (h : F_X12_endsPiece_0 w0 σ = some (r, τ)) : zAW G 2 RX12 cX12_endsPiece 1 C 0 [(0, .ref (zad G 69))] [] σ := by
  unfold F_X12_endsPiece_0 at h
  refine z_aload e_X12_endsPiece_0 0 rfl ?_
  obtain ⟨q2, s1, e3, h⟩ := bd_e h
  refine z_callVi (c0 := 69) (As := []) (rest := []) lk_X12_226 ob_69 e_X12_endsPiece_1 (m_X12_waitTop G σ _ _ e3) (by decide) rfl (Nat.le_of_ble_eq_true rfl) ?_
  refine z_ic e_X12_endsPiece_4 ?_
  refine z_icmp_ne e_X12_endsPiece_6 h (fun c4 h => ?_) (fun c4 h => ?_)
  · refine z_aload e_X12_endsPiece_9 0 rfl ?_
    refine z_ic e_X12_endsPiece_10 ?_
    refine z_ic e_X12_endsPiece_12 ?_
    obtain ⟨q6, s5, e7, h⟩ := bd_e h
    refine z_callVv (c0 := 69) (As := [.int (10 : Int32), .int (0 : Int32)]) (rest := []) lk_X12_229 ob_69 e_X12_endsPiece_13 (m_X12_notes G (10 : Int32) (0 : Int32) s1 _ _ e7) (by decide) rfl (Nat.le_of_ble_eq_true rfl) ?_
    refine z_aload e_X12_endsPiece_16 0 rfl ?_
    refine z_aload e_X12_endsPiece_17 0 rfl ?_
    refine z_geti gf_X12_223_69 e_X12_endsPiece_18 ?_
    refine z_ic e_X12_endsPiece_21 ?_
    refine z_isub e_X12_endsPiece_22 ?_
    refine z_puti pf_X12_223_69 e_X12_endsPiece_23 h (fun s8 h => ?_)
    refine z_aload e_X12_endsPiece_26 0 rfl ?_
    refine z_aload e_X12_endsPiece_27 0 rfl ?_
    refine z_geti gf_X12_220_69 e_X12_endsPiece_28 ?_
    refine z_ic e_X12_endsPiece_31 ?_
    refine z_isub e_X12_endsPiece_32 ?_
    refine z_puti pf_X12_220_69 e_X12_endsPiece_33 h (fun s9 h => ?_)
    refine z_goto e_X12_endsPiece_36 ?_
    exact z_sub [0] rfl (hw0  s9 h)
  · cases h
    exact z_vreturn hR e_X12_endsPiece_39
noncomputable def F_X12_endsPiece_0L  : ((zSt) → Option (Unit × zSt)) → (zSt) → Option (Unit × zSt) := fun w s => F_X12_endsPiece_0 w s
set_option maxRecDepth 100000 in
theorem l_X12_endsPiece_0 {G : zG} {C : zC} {r : Unit} {τ : zSt} (hR : zR G C none none τ)  : ∀ (N : Nat)  (σ : zSt), zfix (F_X12_endsPiece_0L ) N σ = some (r, τ) → zAW G 2 RX12 cX12_endsPiece 1 C 0 [(0, .ref (zad G 69))] [] σ := by
  intro N
  induction N with
  | zero =>
    intro  σ h
    exact nomatch (show (none : Option (Unit × zSt)) = some (r, τ) from h)
  | succ N ih =>
    intro  σ h
    exact b_X12_endsPiece_0 hR (zfix (F_X12_endsPiece_0L ) N) ih  σ h
noncomputable def F_X12_endsPiece (σ : zSt) : Option (Unit × zSt) := zfix (F_X12_endsPiece_0L ) zlim σ
set_option maxRecDepth 100000 in
theorem m_X12_endsPiece (G : zG) (σ : zSt) (q : Unit) (τ : zSt) (h : F_X12_endsPiece  σ = some (q, τ)) : zM G 2 yX12_endsPiece cX12_endsPiece 1 none [.ref (zad G 69)] σ none τ := by
  unfold F_X12_endsPiece at h
  refine zM.of (own := RX12) (by decide +kernel) rfl (Nat.le_of_ble_eq_true rfl) (fun C hR => ?_)
  exact z_sub [0] rfl (l_X12_endsPiece_0 hR  zlim  σ h)
noncomputable def F_X12_readsCompared_52 (t0 : Int32) (σ : zSt) : Option (Int32 × zSt) :=
  if t0 = (-1 : Int32) then (
    bd (F_X12_wrongAt (1 : Int32) (σ.1 69 15) σ) (fun q11 s10 =>
      gd (q11 = 0 ∨ q11 = 1) (some (q11, s10))))
  else (
    nm (zwr σ 69 15 ((σ.1 69 15) + (1 : Int32))) (fun s14 =>
      bd (F_X12_readsSum s14) (fun q16 s15 =>
        if q16 = 0 then (
          some ((0 : Int32), s15))
        else (
          bd (F_X12_notes t0 (0 : Int32) s15) (fun _ s19 =>
            bd (F_X12_endsPiece s19) (fun _ s22 =>
              some ((1 : Int32), s22)))))))
set_option maxHeartbeats 4000000 in
set_option maxRecDepth 100000 in
theorem p_X12_readsCompared_52 {G : zG} {C : zC} {r : Int32} {τ : zSt} (hR : zR G C (some .boolean) (some (.int r)) τ) (t0 : Int32) (σ : zSt) (h : F_X12_readsCompared_52 t0 σ = some (r, τ)) : zAW G 6 RX12 cX12_readsCompared 2 C 52 [(0, .ref (zad G 69))] [.int t0] σ := by
  unfold F_X12_readsCompared_52 at h
  refine z_istore e_X12_readsCompared_52 (by decide) [(1, .int t0), (0, .ref (zad G 69))] rfl ?_
  refine z_iload e_X12_readsCompared_53 0 rfl ?_
  refine z_ic e_X12_readsCompared_54 ?_
  refine z_icmp_ne e_X12_readsCompared_55 h (fun c9 h => ?_) (fun c9 h => ?_)
  · refine z_aload e_X12_readsCompared_58 1 rfl ?_
    refine z_ic e_X12_readsCompared_59 ?_
    refine z_aload e_X12_readsCompared_60 1 rfl ?_
    refine z_geti gf_X12_193_69 e_X12_readsCompared_61 ?_
    obtain ⟨q11, s10, e12, h⟩ := bd_e h
    refine z_callVi (c0 := 69) (As := [.int (1 : Int32), .int (σ.1 69 15)]) (rest := []) lk_X12_206 ob_69 e_X12_readsCompared_64 (m_X12_wrongAt G (1 : Int32) (σ.1 69 15) σ _ _ e12) (by decide) rfl (Nat.le_of_ble_eq_true rfl) ?_
    obtain ⟨hb13, h⟩ := gd_e h
    cases h
    exact z_zreturn hR e_X12_readsCompared_67 hb13
  · refine z_aload e_X12_readsCompared_68 1 rfl ?_
    refine z_aload e_X12_readsCompared_69 1 rfl ?_
    refine z_geti gf_X12_193_69 e_X12_readsCompared_70 ?_
    refine z_ic e_X12_readsCompared_73 ?_
    refine z_iadd e_X12_readsCompared_74 ?_
    refine z_puti pf_X12_193_69 e_X12_readsCompared_75 h (fun s14 h => ?_)
    refine z_aload e_X12_readsCompared_78 1 rfl ?_
    obtain ⟨q16, s15, e17, h⟩ := bd_e h
    refine z_callVi (c0 := 69) (As := []) (rest := []) lk_X12_255 ob_69 e_X12_readsCompared_79 (m_X12_readsSum G s14 _ _ e17) (by decide) rfl (Nat.le_of_ble_eq_true rfl) ?_
    refine z_if_ne e_X12_readsCompared_82 h (fun c18 h => ?_) (fun c18 h => ?_)
    · refine z_ic e_X12_readsCompared_85 ?_
      cases h
      exact z_zreturn hR e_X12_readsCompared_86 (Or.inl rfl)
    · refine z_aload e_X12_readsCompared_87 1 rfl ?_
      refine z_iload e_X12_readsCompared_88 0 rfl ?_
      refine z_ic e_X12_readsCompared_89 ?_
      obtain ⟨q20, s19, e21, h⟩ := bd_e h
      refine z_callVv (c0 := 69) (As := [.int t0, .int (0 : Int32)]) (rest := []) lk_X12_229 ob_69 e_X12_readsCompared_90 (m_X12_notes G t0 (0 : Int32) s15 _ _ e21) (by decide) rfl (Nat.le_of_ble_eq_true rfl) ?_
      refine z_aload e_X12_readsCompared_93 1 rfl ?_
      obtain ⟨q23, s22, e24, h⟩ := bd_e h
      refine z_callVv (c0 := 69) (As := []) (rest := []) lk_X12_258 ob_69 e_X12_readsCompared_94 (m_X12_endsPiece G s19 _ _ e24) (by decide) rfl (Nat.le_of_ble_eq_true rfl) ?_
      refine z_ic e_X12_readsCompared_97 ?_
      cases h
      exact z_zreturn hR e_X12_readsCompared_98 (Or.inr rfl)
noncomputable def F_X12_readsCompared_0 (σ : zSt) : Option (Int32 × zSt) :=
  bd (F_X12_readsSum σ) (fun q2 s1 =>
    if q2 = 0 then (
      some ((0 : Int32), s1))
    else (
      bd (F_X12_here s1) (fun q6 s5 =>
        if q6 = (60 : Int32) then (
          F_X12_readsCompared_52 (7 : Int32) s5)
        else (
          bd (F_X12_here s5) (fun q26 s25 =>
            if q26 = (62 : Int32) then (
              F_X12_readsCompared_52 (8 : Int32) s25)
            else (
              bd (F_X12_here s25) (fun q30 s29 =>
                nm (if q30 = (61 : Int32) then (9 : Int32) else (-1 : Int32)) (fun v32 =>
                  F_X12_readsCompared_52 v32 s29))))))))
set_option maxHeartbeats 4000000 in
set_option maxRecDepth 100000 in
theorem p_X12_readsCompared_0 {G : zG} {C : zC} {r : Int32} {τ : zSt} (hR : zR G C (some .boolean) (some (.int r)) τ)  (σ : zSt) (h : F_X12_readsCompared_0 σ = some (r, τ)) : zAW G 6 RX12 cX12_readsCompared 2 C 0 [(0, .ref (zad G 69))] [] σ := by
  unfold F_X12_readsCompared_0 at h
  refine z_aload e_X12_readsCompared_0 0 rfl ?_
  obtain ⟨q2, s1, e3, h⟩ := bd_e h
  refine z_callVi (c0 := 69) (As := []) (rest := []) lk_X12_255 ob_69 e_X12_readsCompared_1 (m_X12_readsSum G σ _ _ e3) (by decide) rfl (Nat.le_of_ble_eq_true rfl) ?_
  refine z_if_ne e_X12_readsCompared_4 h (fun c4 h => ?_) (fun c4 h => ?_)
  · refine z_ic e_X12_readsCompared_7 ?_
    cases h
    exact z_zreturn hR e_X12_readsCompared_8 (Or.inl rfl)
  · refine z_aload e_X12_readsCompared_9 0 rfl ?_
    obtain ⟨q6, s5, e7, h⟩ := bd_e h
    refine z_callVi (c0 := 69) (As := []) (rest := []) lk_X12_199 ob_69 e_X12_readsCompared_10 (m_X12_here G s1 _ _ e7) (by decide) rfl (Nat.le_of_ble_eq_true rfl) ?_
    refine z_ic e_X12_readsCompared_13 ?_
    refine z_icmp_ne e_X12_readsCompared_15 h (fun c8 h => ?_) (fun c8 h => ?_)
    · refine z_ic e_X12_readsCompared_18 ?_
      refine z_goto e_X12_readsCompared_20 ?_
      exact z_sub [0] rfl (p_X12_readsCompared_52 hR (7 : Int32) s5 h)
    · refine z_aload e_X12_readsCompared_23 0 rfl ?_
      obtain ⟨q26, s25, e27, h⟩ := bd_e h
      refine z_callVi (c0 := 69) (As := []) (rest := []) lk_X12_199 ob_69 e_X12_readsCompared_24 (m_X12_here G s5 _ _ e27) (by decide) rfl (Nat.le_of_ble_eq_true rfl) ?_
      refine z_ic e_X12_readsCompared_27 ?_
      refine z_icmp_ne e_X12_readsCompared_29 h (fun c28 h => ?_) (fun c28 h => ?_)
      · refine z_ic e_X12_readsCompared_32 ?_
        refine z_goto e_X12_readsCompared_34 ?_
        exact z_sub [0] rfl (p_X12_readsCompared_52 hR (8 : Int32) s25 h)
      · refine z_aload e_X12_readsCompared_37 0 rfl ?_
        obtain ⟨q30, s29, e31, h⟩ := bd_e h
        refine z_callVi (c0 := 69) (As := []) (rest := []) lk_X12_199 ob_69 e_X12_readsCompared_38 (m_X12_here G s25 _ _ e31) (by decide) rfl (Nat.le_of_ble_eq_true rfl) ?_
        refine z_ic e_X12_readsCompared_41 ?_
        obtain ⟨v32, ev32, h⟩ := nm_i h
        have jv32 : zAW G 6 RX12 cX12_readsCompared 2 C 52 [(0, .ref (zad G 69))] [.int v32] s29 := by
          exact z_sub [0] rfl (p_X12_readsCompared_52 hR v32 s29 h)
        refine y_icmp_ne e_X12_readsCompared_43 (fun c33 => ?_) (fun c33 => ?_)
        · refine z_ic e_X12_readsCompared_46 ?_
          refine z_goto e_X12_readsCompared_48 ?_
          rw [if_pos c33] at ev32
          subst ev32
          exact z_sub [0] rfl jv32
        · refine z_ic e_X12_readsCompared_51 ?_
          rw [if_neg c33] at ev32
          subst ev32
          exact z_sub [0] rfl jv32
noncomputable def F_X12_readsCompared (σ : zSt) : Option (Int32 × zSt) := F_X12_readsCompared_0  σ
set_option maxRecDepth 100000 in
theorem m_X12_readsCompared (G : zG) (σ : zSt) (q : Int32) (τ : zSt) (h : F_X12_readsCompared  σ = some (q, τ)) : zM G 6 yX12_readsCompared cX12_readsCompared 2 (some .boolean) [.ref (zad G 69)] σ (some (.int q)) τ := by
  unfold F_X12_readsCompared at h
  refine zM.of (own := RX12) (by decide +kernel) rfl (Nat.le_of_ble_eq_true rfl) (fun C hR => ?_)
  exact z_sub [0] rfl (p_X12_readsCompared_0 hR  σ h)
noncomputable def F_X12_lands_22 (w0 : (zSt) → Option (Unit × zSt)) (x1 : Int32) (σ : zSt) : Option (Unit × zSt) :=
  gd (vp_in ((σ.1 69 21) - (1 : Int32)) 260) (
    nm ((σ.1 78 ((σ.1 69 21) - (1 : Int32)).toNatClampNeg) % (1048576 : Int32)) (fun v5 =>
      gd (vp_in v5 260) (
        gd (vp_in v5 260) (nm (zwr σ 77 v5.toNatClampNeg (((1048576 : Int32) * ((σ.1 77 v5.toNatClampNeg) / (1048576 : Int32))) + (σ.1 69 20))) (fun s6 =>
          nm (zwr s6 69 21 ((s6.1 69 21) - (1 : Int32))) (fun s7 =>
            w0 s7))))))
set_option maxHeartbeats 4000000 in
set_option maxRecDepth 100000 in
theorem p_X12_lands_22 {G : zG} {C : zC} {r : Unit} {τ : zSt} (hR : zR G C none none τ) (w0 : (zSt) → Option (Unit × zSt)) (x1 : Int32) (hw0 : ∀  (σ : zSt), w0 σ = some (r, τ) → zAW G 2 RX12 cX12_lands 3 C 0 [(0, .ref (zad G 69)), (1, .int x1)] [] σ) (σ : zSt) (h : F_X12_lands_22 w0 x1 σ = some (r, τ)) : zAW G 2 RX12 cX12_lands 3 C 22 [(0, .ref (zad G 69)), (1, .int x1)] [] σ := by
  unfold F_X12_lands_22 at h
  refine z_aload e_X12_lands_22 0 rfl ?_
  refine z_getr gf_X12_35_69 e_X12_lands_23 ?_
  refine z_aload e_X12_lands_26 0 rfl ?_
  refine z_geti gf_X12_223_69 e_X12_lands_27 ?_
  refine z_ic e_X12_lands_30 ?_
  refine z_isub e_X12_lands_31 ?_
  refine z_iald sh_78 e_X12_lands_32 h (fun h => ?_)
  refine z_ldc cs_X12_219 e_X12_lands_33 ?_
  refine z_irem e_X12_lands_35 (by decide) ?_
  refine z_nmI h (fun v5 h => ?_)
  refine z_istore e_X12_lands_36 (by decide) [(2, .int v5), (0, .ref (zad G 69)), (1, .int x1)] rfl ?_
  refine z_aload e_X12_lands_37 1 rfl ?_
  refine z_getr gf_X12_32_69 e_X12_lands_38 ?_
  refine z_iload e_X12_lands_41 0 rfl ?_
  refine z_ldc cs_X12_219 e_X12_lands_42 ?_
  refine z_aload e_X12_lands_44 1 rfl ?_
  refine z_getr gf_X12_32_69 e_X12_lands_45 ?_
  refine z_iload e_X12_lands_48 0 rfl ?_
  refine z_iald sh_77 e_X12_lands_49 h (fun h => ?_)
  refine z_ldc cs_X12_219 e_X12_lands_50 ?_
  refine z_idiv e_X12_lands_52 (by decide) ?_
  refine z_imul e_X12_lands_53 ?_
  refine z_aload e_X12_lands_54 1 rfl ?_
  refine z_geti gf_X12_216_69 e_X12_lands_55 ?_
  refine z_iadd e_X12_lands_58 ?_
  refine z_iast sh_77 e_X12_lands_59 h (fun s6 h => ?_)
  refine z_aload e_X12_lands_60 1 rfl ?_
  refine z_aload e_X12_lands_61 1 rfl ?_
  refine z_geti gf_X12_223_69 e_X12_lands_62 ?_
  refine z_ic e_X12_lands_65 ?_
  refine z_isub e_X12_lands_66 ?_
  refine z_puti pf_X12_223_69 e_X12_lands_67 h (fun s7 h => ?_)
  refine z_goto e_X12_lands_70 ?_
  exact z_sub [1, 2] rfl (hw0  s7 h)
noncomputable def F_X12_lands_0 (x1 : Int32) (w0 : (zSt) → Option (Unit × zSt)) (σ : zSt) : Option (Unit × zSt) :=
  bd (F_X12_waitTop σ) (fun q2 s1 =>
    if q2 = (11 : Int32) then (
      F_X12_lands_22 w0 x1 s1)
    else (
      if x1 = 0 then (
        some ((), s1))
      else (
        bd (F_X12_waitTop s1) (fun q10 s9 =>
          if q10 = (12 : Int32) then (
            F_X12_lands_22 w0 x1 s9)
          else (
            some ((), s9))))))
set_option maxHeartbeats 4000000 in
set_option maxRecDepth 100000 in
theorem b_X12_lands_0 {G : zG} {C : zC} {r : Unit} {τ : zSt} (hR : zR G C none none τ) (x1 : Int32) (w0 : (zSt) → Option (Unit × zSt)) (hw0 : ∀  (σ : zSt), w0 σ = some (r, τ) → zAW G 2 RX12 cX12_lands 3 C 0 [(0, .ref (zad G 69)), (1, .int x1)] [] σ) (σ : zSt) (h : F_X12_lands_0 x1 w0 σ = some (r, τ)) : zAW G 2 RX12 cX12_lands 3 C 0 [(0, .ref (zad G 69)), (1, .int x1)] [] σ := by
  unfold F_X12_lands_0 at h
  refine z_aload e_X12_lands_0 0 rfl ?_
  obtain ⟨q2, s1, e3, h⟩ := bd_e h
  refine z_callVi (c0 := 69) (As := []) (rest := []) lk_X12_226 ob_69 e_X12_lands_1 (m_X12_waitTop G σ _ _ e3) (by decide) rfl (Nat.le_of_ble_eq_true rfl) ?_
  refine z_ic e_X12_lands_4 ?_
  refine z_icmp_eq e_X12_lands_6 h (fun c4 h => ?_) (fun c4 h => ?_)
  · exact z_sub [0, 1] rfl (p_X12_lands_22 hR w0 x1 hw0 s1 h)
  · refine z_iload e_X12_lands_9 1 rfl ?_
    refine z_if_eq e_X12_lands_10 h (fun c8 h => ?_) (fun c8 h => ?_)
    · cases h
      exact z_vreturn hR e_X12_lands_73
    · refine z_aload e_X12_lands_13 0 rfl ?_
      obtain ⟨q10, s9, e11, h⟩ := bd_e h
      refine z_callVi (c0 := 69) (As := []) (rest := []) lk_X12_226 ob_69 e_X12_lands_14 (m_X12_waitTop G s1 _ _ e11) (by decide) rfl (Nat.le_of_ble_eq_true rfl) ?_
      refine z_ic e_X12_lands_17 ?_
      refine z_icmp_ne e_X12_lands_19 h (fun c12 h => ?_) (fun c12 h => ?_)
      · exact z_sub [0, 1] rfl (p_X12_lands_22 hR w0 x1 hw0 s9 h)
      · cases h
        exact z_vreturn hR e_X12_lands_73
noncomputable def F_X12_lands_0L (x1 : Int32) : ((zSt) → Option (Unit × zSt)) → (zSt) → Option (Unit × zSt) := fun w s => F_X12_lands_0 x1 w s
set_option maxRecDepth 100000 in
theorem l_X12_lands_0 {G : zG} {C : zC} {r : Unit} {τ : zSt} (hR : zR G C none none τ) (x1 : Int32) : ∀ (N : Nat)  (σ : zSt), zfix (F_X12_lands_0L x1) N σ = some (r, τ) → zAW G 2 RX12 cX12_lands 3 C 0 [(0, .ref (zad G 69)), (1, .int x1)] [] σ := by
  intro N
  induction N with
  | zero =>
    intro  σ h
    exact nomatch (show (none : Option (Unit × zSt)) = some (r, τ) from h)
  | succ N ih =>
    intro  σ h
    exact b_X12_lands_0 hR x1 (zfix (F_X12_lands_0L x1) N) ih  σ h
noncomputable def F_X12_lands (x1 : Int32) (σ : zSt) : Option (Unit × zSt) := zfix (F_X12_lands_0L x1) zlim σ
set_option maxRecDepth 100000 in
theorem m_X12_lands (G : zG) (x1 : Int32) (σ : zSt) (q : Unit) (τ : zSt) (h : F_X12_lands x1 σ = some (q, τ)) : zM G 2 yX12_lands cX12_lands 3 none [.ref (zad G 69), .int x1] σ none τ := by
  unfold F_X12_lands at h
  refine zM.of (own := RX12) (by decide +kernel) rfl (Nat.le_of_ble_eq_true rfl) (fun C hR => ?_)
  exact z_sub [0, 1] rfl (l_X12_lands_0 hR x1 zlim  σ h)
noncomputable def F_X12_jumps_0 (x1 : Int32) (σ : zSt) : Option (Unit × zSt) :=
  gd (vp_in (σ.1 69 21) 260) (nm (zwr σ 78 (σ.1 69 21).toNatClampNeg (((1048576 : Int32) * x1) + (σ.1 69 20))) (fun s1 =>
    nm (zwr s1 69 21 ((s1.1 69 21) + (1 : Int32))) (fun s2 =>
      bd (F_X12_notes x1 (0 : Int32) s2) (fun _ s3 =>
        nm (zwr s3 69 15 ((s3.1 69 15) + (1 : Int32))) (fun s6 =>
          some ((), s6))))))
set_option maxHeartbeats 4000000 in
set_option maxRecDepth 100000 in
theorem p_X12_jumps_0 {G : zG} {C : zC} {r : Unit} {τ : zSt} (hR : zR G C none none τ) (x1 : Int32) (σ : zSt) (h : F_X12_jumps_0 x1 σ = some (r, τ)) : zAW G 2 RX12 cX12_jumps 2 C 0 [(0, .ref (zad G 69)), (1, .int x1)] [] σ := by
  unfold F_X12_jumps_0 at h
  refine z_aload e_X12_jumps_0 0 rfl ?_
  refine z_getr gf_X12_35_69 e_X12_jumps_1 ?_
  refine z_aload e_X12_jumps_4 0 rfl ?_
  refine z_geti gf_X12_223_69 e_X12_jumps_5 ?_
  refine z_ldc cs_X12_219 e_X12_jumps_8 ?_
  refine z_iload e_X12_jumps_10 1 rfl ?_
  refine z_imul e_X12_jumps_11 ?_
  refine z_aload e_X12_jumps_12 0 rfl ?_
  refine z_geti gf_X12_216_69 e_X12_jumps_13 ?_
  refine z_iadd e_X12_jumps_16 ?_
  refine z_iast sh_78 e_X12_jumps_17 h (fun s1 h => ?_)
  refine z_aload e_X12_jumps_18 0 rfl ?_
  refine z_aload e_X12_jumps_19 0 rfl ?_
  refine z_geti gf_X12_223_69 e_X12_jumps_20 ?_
  refine z_ic e_X12_jumps_23 ?_
  refine z_iadd e_X12_jumps_24 ?_
  refine z_puti pf_X12_223_69 e_X12_jumps_25 h (fun s2 h => ?_)
  refine z_aload e_X12_jumps_28 0 rfl ?_
  refine z_iload e_X12_jumps_29 1 rfl ?_
  refine z_ic e_X12_jumps_30 ?_
  obtain ⟨q4, s3, e5, h⟩ := bd_e h
  refine z_callVv (c0 := 69) (As := [.int x1, .int (0 : Int32)]) (rest := []) lk_X12_229 ob_69 e_X12_jumps_31 (m_X12_notes G x1 (0 : Int32) s2 _ _ e5) (by decide) rfl (Nat.le_of_ble_eq_true rfl) ?_
  refine z_aload e_X12_jumps_34 0 rfl ?_
  refine z_aload e_X12_jumps_35 0 rfl ?_
  refine z_geti gf_X12_193_69 e_X12_jumps_36 ?_
  refine z_ic e_X12_jumps_39 ?_
  refine z_iadd e_X12_jumps_40 ?_
  refine z_puti pf_X12_193_69 e_X12_jumps_41 h (fun s6 h => ?_)
  cases h
  exact z_vreturn hR e_X12_jumps_44
noncomputable def F_X12_jumps (x1 : Int32) (σ : zSt) : Option (Unit × zSt) := F_X12_jumps_0 x1 σ
set_option maxRecDepth 100000 in
theorem m_X12_jumps (G : zG) (x1 : Int32) (σ : zSt) (q : Unit) (τ : zSt) (h : F_X12_jumps x1 σ = some (q, τ)) : zM G 2 yX12_jumps cX12_jumps 2 none [.ref (zad G 69), .int x1] σ none τ := by
  unfold F_X12_jumps at h
  refine zM.of (own := RX12) (by decide +kernel) rfl (Nat.le_of_ble_eq_true rfl) (fun C hR => ?_)
  exact z_sub [0, 1] rfl (p_X12_jumps_0 hR x1 σ h)
noncomputable def F_X12_readsCondition_58 (w40 : (zSt) → Option (Int32 × zSt)) (σ : zSt) : Option (Int32 × zSt) :=
  bd (F_X12_here σ) (fun q16 s15 =>
    nm (if q16 = (33 : Int32) then (10 : Int32) else (13 : Int32)) (fun v18 =>
      bd (F_X12_opens v18 s15) (fun q20 s19 =>
        if q20 = 0 then (
          some ((0 : Int32), s19))
        else (
          w40 s19))))
set_option maxHeartbeats 4000000 in
set_option maxRecDepth 100000 in
theorem p_X12_readsCondition_58 {G : zG} {C : zC} {r : Int32} {τ : zSt} (hR : zR G C (some .boolean) (some (.int r)) τ) (w40 : (zSt) → Option (Int32 × zSt)) (hw40 : ∀  (σ : zSt), w40 σ = some (r, τ) → zAW G 7 RX12 cX12_readsCondition 1 C 40 [(0, .ref (zad G 69))] [] σ) (σ : zSt) (h : F_X12_readsCondition_58 w40 σ = some (r, τ)) : zAW G 7 RX12 cX12_readsCondition 1 C 58 [(0, .ref (zad G 69))] [] σ := by
  unfold F_X12_readsCondition_58 at h
  refine z_aload e_X12_readsCondition_58 0 rfl ?_
  refine z_aload e_X12_readsCondition_59 0 rfl ?_
  obtain ⟨q16, s15, e17, h⟩ := bd_e h
  refine z_callVi (c0 := 69) (As := []) (rest := [.ref (zad G 69)]) lk_X12_199 ob_69 e_X12_readsCondition_60 (m_X12_here G σ _ _ e17) (by decide) rfl (Nat.le_of_ble_eq_true rfl) ?_
  refine z_ic e_X12_readsCondition_63 ?_
  obtain ⟨v18, ev18, h⟩ := nm_i h
  have jv18 : zAW G 7 RX12 cX12_readsCondition 1 C 75 [(0, .ref (zad G 69))] [.int v18, .ref (zad G 69)] s15 := by
    obtain ⟨q20, s19, e21, h⟩ := bd_e h
    refine z_callVi (c0 := 69) (As := [.int v18]) (rest := []) lk_X12_233 ob_69 e_X12_readsCondition_75 (m_X12_opens G v18 s15 _ _ e21) (by decide) rfl (Nat.le_of_ble_eq_true rfl) ?_
    refine z_if_ne e_X12_readsCondition_78 h (fun c22 h => ?_) (fun c22 h => ?_)
    · refine z_ic e_X12_readsCondition_81 ?_
      cases h
      exact z_zreturn hR e_X12_readsCondition_82 (Or.inl rfl)
    · exact z_sub [0] rfl (hw40  s19 h)
  refine y_icmp_ne e_X12_readsCondition_65 (fun c23 => ?_) (fun c23 => ?_)
  · refine z_ic e_X12_readsCondition_68 ?_
    refine z_goto e_X12_readsCondition_70 ?_
    rw [if_pos c23] at ev18
    subst ev18
    exact z_sub [0] rfl jv18
  · refine z_ic e_X12_readsCondition_73 ?_
    rw [if_neg c23] at ev18
    subst ev18
    exact z_sub [0] rfl jv18
noncomputable def F_X12_readsCondition_180 (w40 : (zSt) → Option (Int32 × zSt)) (σ : zSt) : Option (Int32 × zSt) :=
  bd (F_X12_here σ) (fun q51 s50 =>
    nm (if q51 = (124 : Int32) then (1 : Int32) else (0 : Int32)) (fun v53 =>
      bd (F_X12_lands v53 s50) (fun _ s54 =>
        bd (F_X12_here s54) (fun q58 s57 =>
          nm (if q58 = (38 : Int32) then (11 : Int32) else (12 : Int32)) (fun v60 =>
            bd (F_X12_jumps v60 s57) (fun _ s61 =>
              w40 s61))))))
set_option maxHeartbeats 4000000 in
set_option maxRecDepth 100000 in
theorem p_X12_readsCondition_180 {G : zG} {C : zC} {r : Int32} {τ : zSt} (hR : zR G C (some .boolean) (some (.int r)) τ) (w40 : (zSt) → Option (Int32 × zSt)) (hw40 : ∀  (σ : zSt), w40 σ = some (r, τ) → zAW G 7 RX12 cX12_readsCondition 1 C 40 [(0, .ref (zad G 69))] [] σ) (σ : zSt) (h : F_X12_readsCondition_180 w40 σ = some (r, τ)) : zAW G 7 RX12 cX12_readsCondition 1 C 180 [(0, .ref (zad G 69))] [] σ := by
  unfold F_X12_readsCondition_180 at h
  refine z_aload e_X12_readsCondition_180 0 rfl ?_
  refine z_aload e_X12_readsCondition_181 0 rfl ?_
  obtain ⟨q51, s50, e52, h⟩ := bd_e h
  refine z_callVi (c0 := 69) (As := []) (rest := [.ref (zad G 69)]) lk_X12_199 ob_69 e_X12_readsCondition_182 (m_X12_here G σ _ _ e52) (by decide) rfl (Nat.le_of_ble_eq_true rfl) ?_
  refine z_ic e_X12_readsCondition_185 ?_
  obtain ⟨v53, ev53, h⟩ := nm_i h
  have jv53 : zAW G 7 RX12 cX12_readsCondition 1 C 195 [(0, .ref (zad G 69))] [.int v53, .ref (zad G 69)] s50 := by
    obtain ⟨q55, s54, e56, h⟩ := bd_e h
    refine z_callVv (c0 := 69) (As := [.int v53]) (rest := []) lk_X12_264 ob_69 e_X12_readsCondition_195 (m_X12_lands G v53 s50 _ _ e56) (by decide) rfl (Nat.le_of_ble_eq_true rfl) ?_
    refine z_aload e_X12_readsCondition_198 0 rfl ?_
    refine z_aload e_X12_readsCondition_199 0 rfl ?_
    obtain ⟨q58, s57, e59, h⟩ := bd_e h
    refine z_callVi (c0 := 69) (As := []) (rest := [.ref (zad G 69)]) lk_X12_199 ob_69 e_X12_readsCondition_200 (m_X12_here G s54 _ _ e59) (by decide) rfl (Nat.le_of_ble_eq_true rfl) ?_
    refine z_ic e_X12_readsCondition_203 ?_
    obtain ⟨v60, ev60, h⟩ := nm_i h
    have jv60 : zAW G 7 RX12 cX12_readsCondition 1 C 215 [(0, .ref (zad G 69))] [.int v60, .ref (zad G 69)] s57 := by
      obtain ⟨q62, s61, e63, h⟩ := bd_e h
      refine z_callVv (c0 := 69) (As := [.int v60]) (rest := []) lk_X12_267 ob_69 e_X12_readsCondition_215 (m_X12_jumps G v60 s57 _ _ e63) (by decide) rfl (Nat.le_of_ble_eq_true rfl) ?_
      refine z_goto e_X12_readsCondition_218 ?_
      exact z_sub [0] rfl (hw40  s61 h)
    refine y_icmp_ne e_X12_readsCondition_205 (fun c64 => ?_) (fun c64 => ?_)
    · refine z_ic e_X12_readsCondition_208 ?_
      refine z_goto e_X12_readsCondition_210 ?_
      rw [if_pos c64] at ev60
      subst ev60
      exact z_sub [0] rfl jv60
    · refine z_ic e_X12_readsCondition_213 ?_
      rw [if_neg c64] at ev60
      subst ev60
      exact z_sub [0] rfl jv60
  refine y_icmp_ne e_X12_readsCondition_187 (fun c65 => ?_) (fun c65 => ?_)
  · refine z_ic e_X12_readsCondition_190 ?_
    refine z_goto e_X12_readsCondition_191 ?_
    rw [if_pos c65] at ev53
    subst ev53
    exact z_sub [0] rfl jv53
  · refine z_ic e_X12_readsCondition_194 ?_
    rw [if_neg c65] at ev53
    subst ev53
    exact z_sub [0] rfl jv53
noncomputable def F_X12_readsCondition_170 (σ : zSt) : Option (Int32 × zSt) :=
  bd (F_X12_wrongAt (1 : Int32) (σ.1 69 15) σ) (fun q71 s70 =>
    gd (q71 = 0 ∨ q71 = 1) (some (q71, s70)))
set_option maxHeartbeats 4000000 in
set_option maxRecDepth 100000 in
theorem p_X12_readsCondition_170 {G : zG} {C : zC} {r : Int32} {τ : zSt} (hR : zR G C (some .boolean) (some (.int r)) τ)  (σ : zSt) (h : F_X12_readsCondition_170 σ = some (r, τ)) : zAW G 7 RX12 cX12_readsCondition 1 C 170 [(0, .ref (zad G 69))] [] σ := by
  unfold F_X12_readsCondition_170 at h
  refine z_aload e_X12_readsCondition_170 0 rfl ?_
  refine z_ic e_X12_readsCondition_171 ?_
  refine z_aload e_X12_readsCondition_172 0 rfl ?_
  refine z_geti gf_X12_193_69 e_X12_readsCondition_173 ?_
  obtain ⟨q71, s70, e72, h⟩ := bd_e h
  refine z_callVi (c0 := 69) (As := [.int (1 : Int32), .int (σ.1 69 15)]) (rest := []) lk_X12_206 ob_69 e_X12_readsCondition_176 (m_X12_wrongAt G (1 : Int32) (σ.1 69 15) σ _ _ e72) (by decide) rfl (Nat.le_of_ble_eq_true rfl) ?_
  obtain ⟨hb73, h⟩ := gd_e h
  cases h
  exact z_zreturn hR e_X12_readsCondition_179 hb73
noncomputable def F_X12_readsCondition_152 (w40 : (zSt) → Option (Int32 × zSt)) (σ : zSt) : Option (Int32 × zSt) :=
  bd (F_X12_here σ) (fun q47 s46 =>
    if q47 = (38 : Int32) then (
      F_X12_readsCondition_180 w40 s46)
    else (
      bd (F_X12_here s46) (fun q67 s66 =>
        if q67 = (124 : Int32) then (
          F_X12_readsCondition_180 w40 s66)
        else (
          F_X12_readsCondition_170  s66))))
set_option maxHeartbeats 4000000 in
set_option maxRecDepth 100000 in
theorem p_X12_readsCondition_152 {G : zG} {C : zC} {r : Int32} {τ : zSt} (hR : zR G C (some .boolean) (some (.int r)) τ) (w40 : (zSt) → Option (Int32 × zSt)) (hw40 : ∀  (σ : zSt), w40 σ = some (r, τ) → zAW G 7 RX12 cX12_readsCondition 1 C 40 [(0, .ref (zad G 69))] [] σ) (σ : zSt) (h : F_X12_readsCondition_152 w40 σ = some (r, τ)) : zAW G 7 RX12 cX12_readsCondition 1 C 152 [(0, .ref (zad G 69))] [] σ := by
  unfold F_X12_readsCondition_152 at h
  refine z_aload e_X12_readsCondition_152 0 rfl ?_
  obtain ⟨q47, s46, e48, h⟩ := bd_e h
  refine z_callVi (c0 := 69) (As := []) (rest := []) lk_X12_199 ob_69 e_X12_readsCondition_153 (m_X12_here G σ _ _ e48) (by decide) rfl (Nat.le_of_ble_eq_true rfl) ?_
  refine z_ic e_X12_readsCondition_156 ?_
  refine z_icmp_eq e_X12_readsCondition_158 h (fun c49 h => ?_) (fun c49 h => ?_)
  · exact z_sub [0] rfl (p_X12_readsCondition_180 hR w40 hw40 s46 h)
  · refine z_aload e_X12_readsCondition_161 0 rfl ?_
    obtain ⟨q67, s66, e68, h⟩ := bd_e h
    refine z_callVi (c0 := 69) (As := []) (rest := []) lk_X12_199 ob_69 e_X12_readsCondition_162 (m_X12_here G s46 _ _ e68) (by decide) rfl (Nat.le_of_ble_eq_true rfl) ?_
    refine z_ic e_X12_readsCondition_165 ?_
    refine z_icmp_eq e_X12_readsCondition_167 h (fun c69 h => ?_) (fun c69 h => ?_)
    · exact z_sub [0] rfl (p_X12_readsCondition_180 hR w40 hw40 s66 h)
    · exact z_sub [0] rfl (p_X12_readsCondition_170 hR  s66 h)
noncomputable def F_X12_readsCondition_92 (w40 : (zSt) → Option (Int32 × zSt)) (w92 : (zSt) → Option (Int32 × zSt)) (σ : zSt) : Option (Int32 × zSt) :=
  bd (F_X12_here σ) (fun q33 s32 =>
    if q33 = (41 : Int32) then (
      bd (F_X12_lands (1 : Int32) s32) (fun _ s36 =>
        nm (zwr s36 69 21 ((s36.1 69 21) - (1 : Int32))) (fun s39 =>
          nm (zwr s39 69 19 ((s39.1 69 19) - (1 : Int32))) (fun s40 =>
            nm (zwr s40 69 15 ((s40.1 69 15) + (1 : Int32))) (fun s41 =>
              if (s41.1 69 21) = 0 then (
                some ((1 : Int32), s41))
              else (
                bd (F_X12_endsPiece s41) (fun _ s43 =>
                  w92 s43)))))))
    else (
      F_X12_readsCondition_152 w40 s32))
set_option maxHeartbeats 4000000 in
set_option maxRecDepth 100000 in
theorem b_X12_readsCondition_92 {G : zG} {C : zC} {r : Int32} {τ : zSt} (hR : zR G C (some .boolean) (some (.int r)) τ) (w40 : (zSt) → Option (Int32 × zSt)) (hw40 : ∀  (σ : zSt), w40 σ = some (r, τ) → zAW G 7 RX12 cX12_readsCondition 1 C 40 [(0, .ref (zad G 69))] [] σ) (w92 : (zSt) → Option (Int32 × zSt)) (hw92 : ∀  (σ : zSt), w92 σ = some (r, τ) → zAW G 7 RX12 cX12_readsCondition 1 C 92 [(0, .ref (zad G 69))] [] σ) (σ : zSt) (h : F_X12_readsCondition_92 w40 w92 σ = some (r, τ)) : zAW G 7 RX12 cX12_readsCondition 1 C 92 [(0, .ref (zad G 69))] [] σ := by
  unfold F_X12_readsCondition_92 at h
  refine z_aload e_X12_readsCondition_92 0 rfl ?_
  obtain ⟨q33, s32, e34, h⟩ := bd_e h
  refine z_callVi (c0 := 69) (As := []) (rest := []) lk_X12_199 ob_69 e_X12_readsCondition_93 (m_X12_here G σ _ _ e34) (by decide) rfl (Nat.le_of_ble_eq_true rfl) ?_
  refine z_ic e_X12_readsCondition_96 ?_
  refine z_icmp_ne e_X12_readsCondition_98 h (fun c35 h => ?_) (fun c35 h => ?_)
  · refine z_aload e_X12_readsCondition_101 0 rfl ?_
    refine z_ic e_X12_readsCondition_102 ?_
    obtain ⟨q37, s36, e38, h⟩ := bd_e h
    refine z_callVv (c0 := 69) (As := [.int (1 : Int32)]) (rest := []) lk_X12_264 ob_69 e_X12_readsCondition_103 (m_X12_lands G (1 : Int32) s32 _ _ e38) (by decide) rfl (Nat.le_of_ble_eq_true rfl) ?_
    refine z_aload e_X12_readsCondition_106 0 rfl ?_
    refine z_aload e_X12_readsCondition_107 0 rfl ?_
    refine z_geti gf_X12_223_69 e_X12_readsCondition_108 ?_
    refine z_ic e_X12_readsCondition_111 ?_
    refine z_isub e_X12_readsCondition_112 ?_
    refine z_puti pf_X12_223_69 e_X12_readsCondition_113 h (fun s39 h => ?_)
    refine z_aload e_X12_readsCondition_116 0 rfl ?_
    refine z_aload e_X12_readsCondition_117 0 rfl ?_
    refine z_geti gf_X12_220_69 e_X12_readsCondition_118 ?_
    refine z_ic e_X12_readsCondition_121 ?_
    refine z_isub e_X12_readsCondition_122 ?_
    refine z_puti pf_X12_220_69 e_X12_readsCondition_123 h (fun s40 h => ?_)
    refine z_aload e_X12_readsCondition_126 0 rfl ?_
    refine z_aload e_X12_readsCondition_127 0 rfl ?_
    refine z_geti gf_X12_193_69 e_X12_readsCondition_128 ?_
    refine z_ic e_X12_readsCondition_131 ?_
    refine z_iadd e_X12_readsCondition_132 ?_
    refine z_puti pf_X12_193_69 e_X12_readsCondition_133 h (fun s41 h => ?_)
    refine z_aload e_X12_readsCondition_136 0 rfl ?_
    refine z_geti gf_X12_223_69 e_X12_readsCondition_137 ?_
    refine z_if_ne e_X12_readsCondition_140 h (fun c42 h => ?_) (fun c42 h => ?_)
    · refine z_ic e_X12_readsCondition_143 ?_
      cases h
      exact z_zreturn hR e_X12_readsCondition_144 (Or.inr rfl)
    · refine z_aload e_X12_readsCondition_145 0 rfl ?_
      obtain ⟨q44, s43, e45, h⟩ := bd_e h
      refine z_callVv (c0 := 69) (As := []) (rest := []) lk_X12_258 ob_69 e_X12_readsCondition_146 (m_X12_endsPiece G s41 _ _ e45) (by decide) rfl (Nat.le_of_ble_eq_true rfl) ?_
      refine z_goto e_X12_readsCondition_149 ?_
      exact z_sub [0] rfl (hw92  s43 h)
  · exact z_sub [0] rfl (p_X12_readsCondition_152 hR w40 hw40 s32 h)
noncomputable def F_X12_readsCondition_92L (w40 : (zSt) → Option (Int32 × zSt)) : ((zSt) → Option (Int32 × zSt)) → (zSt) → Option (Int32 × zSt) := fun w s => F_X12_readsCondition_92 w40 w s
set_option maxRecDepth 100000 in
theorem l_X12_readsCondition_92 {G : zG} {C : zC} {r : Int32} {τ : zSt} (hR : zR G C (some .boolean) (some (.int r)) τ) (w40 : (zSt) → Option (Int32 × zSt)) (hw40 : ∀  (σ : zSt), w40 σ = some (r, τ) → zAW G 7 RX12 cX12_readsCondition 1 C 40 [(0, .ref (zad G 69))] [] σ) : ∀ (N : Nat)  (σ : zSt), zfix (F_X12_readsCondition_92L w40) N σ = some (r, τ) → zAW G 7 RX12 cX12_readsCondition 1 C 92 [(0, .ref (zad G 69))] [] σ := by
  intro N
  induction N with
  | zero =>
    intro  σ h
    exact nomatch (show (none : Option (Int32 × zSt)) = some (r, τ) from h)
  | succ N ih =>
    intro  σ h
    exact b_X12_readsCondition_92 hR w40 hw40 (zfix (F_X12_readsCondition_92L w40) N) ih  σ h
noncomputable def F_X12_readsCondition_40 (w40 : (zSt) → Option (Int32 × zSt)) (σ : zSt) : Option (Int32 × zSt) :=
  bd (F_X12_here σ) (fun q12 s11 =>
    if q12 = (33 : Int32) then (
      F_X12_readsCondition_58 w40 s11)
    else (
      bd (F_X12_here s11) (fun q25 s24 =>
        if q25 = (40 : Int32) then (
          F_X12_readsCondition_58 w40 s24)
        else (
          bd (F_X12_readsCompared s24) (fun q29 s28 =>
            if q29 = 0 then (
              some ((0 : Int32), s28))
            else (
              zfix (F_X12_readsCondition_92L w40) zlim s28))))))
set_option maxHeartbeats 4000000 in
set_option maxRecDepth 100000 in
theorem b_X12_readsCondition_40 {G : zG} {C : zC} {r : Int32} {τ : zSt} (hR : zR G C (some .boolean) (some (.int r)) τ) (w40 : (zSt) → Option (Int32 × zSt)) (hw40 : ∀  (σ : zSt), w40 σ = some (r, τ) → zAW G 7 RX12 cX12_readsCondition 1 C 40 [(0, .ref (zad G 69))] [] σ) (σ : zSt) (h : F_X12_readsCondition_40 w40 σ = some (r, τ)) : zAW G 7 RX12 cX12_readsCondition 1 C 40 [(0, .ref (zad G 69))] [] σ := by
  unfold F_X12_readsCondition_40 at h
  refine z_aload e_X12_readsCondition_40 0 rfl ?_
  obtain ⟨q12, s11, e13, h⟩ := bd_e h
  refine z_callVi (c0 := 69) (As := []) (rest := []) lk_X12_199 ob_69 e_X12_readsCondition_41 (m_X12_here G σ _ _ e13) (by decide) rfl (Nat.le_of_ble_eq_true rfl) ?_
  refine z_ic e_X12_readsCondition_44 ?_
  refine z_icmp_eq e_X12_readsCondition_46 h (fun c14 h => ?_) (fun c14 h => ?_)
  · exact z_sub [0] rfl (p_X12_readsCondition_58 hR w40 hw40 s11 h)
  · refine z_aload e_X12_readsCondition_49 0 rfl ?_
    obtain ⟨q25, s24, e26, h⟩ := bd_e h
    refine z_callVi (c0 := 69) (As := []) (rest := []) lk_X12_199 ob_69 e_X12_readsCondition_50 (m_X12_here G s11 _ _ e26) (by decide) rfl (Nat.le_of_ble_eq_true rfl) ?_
    refine z_ic e_X12_readsCondition_53 ?_
    refine z_icmp_ne e_X12_readsCondition_55 h (fun c27 h => ?_) (fun c27 h => ?_)
    · exact z_sub [0] rfl (p_X12_readsCondition_58 hR w40 hw40 s24 h)
    · refine z_aload e_X12_readsCondition_83 0 rfl ?_
      obtain ⟨q29, s28, e30, h⟩ := bd_e h
      refine z_callVi (c0 := 69) (As := []) (rest := []) lk_X12_261 ob_69 e_X12_readsCondition_84 (m_X12_readsCompared G s24 _ _ e30) (by decide) rfl (Nat.le_of_ble_eq_true rfl) ?_
      refine z_if_ne e_X12_readsCondition_87 h (fun c31 h => ?_) (fun c31 h => ?_)
      · refine z_ic e_X12_readsCondition_90 ?_
        cases h
        exact z_zreturn hR e_X12_readsCondition_91 (Or.inl rfl)
      · exact z_sub [0] rfl (l_X12_readsCondition_92 hR w40 hw40 zlim  s28 h)
noncomputable def F_X12_readsCondition_40L  : ((zSt) → Option (Int32 × zSt)) → (zSt) → Option (Int32 × zSt) := fun w s => F_X12_readsCondition_40 w s
set_option maxRecDepth 100000 in
theorem l_X12_readsCondition_40 {G : zG} {C : zC} {r : Int32} {τ : zSt} (hR : zR G C (some .boolean) (some (.int r)) τ)  : ∀ (N : Nat)  (σ : zSt), zfix (F_X12_readsCondition_40L ) N σ = some (r, τ) → zAW G 7 RX12 cX12_readsCondition 1 C 40 [(0, .ref (zad G 69))] [] σ := by
  intro N
  induction N with
  | zero =>
    intro  σ h
    exact nomatch (show (none : Option (Int32 × zSt)) = some (r, τ) from h)
  | succ N ih =>
    intro  σ h
    exact b_X12_readsCondition_40 hR (zfix (F_X12_readsCondition_40L ) N) ih  σ h
noncomputable def F_X12_readsCondition_0 (σ : zSt) : Option (Int32 × zSt) :=
  bd (F_X12_here σ) (fun q2 s1 =>
    if q2 = (40 : Int32) then (
      nm (zwr s1 69 19 (0 : Int32)) (fun s5 =>
        nm (zwr s5 69 21 (0 : Int32)) (fun s6 =>
          bd (F_X12_opens (13 : Int32) s6) (fun q8 s7 =>
            if q8 = 0 then (
              some ((0 : Int32), s7))
            else (
              zfix (F_X12_readsCondition_40L ) zlim s7)))))
    else (
      bd (F_X12_wrongAt (1 : Int32) (s1.1 69 15) s1) (fun q75 s74 =>
        gd (q75 = 0 ∨ q75 = 1) (some (q75, s74)))))
set_option maxHeartbeats 4000000 in
set_option maxRecDepth 100000 in
theorem p_X12_readsCondition_0 {G : zG} {C : zC} {r : Int32} {τ : zSt} (hR : zR G C (some .boolean) (some (.int r)) τ)  (σ : zSt) (h : F_X12_readsCondition_0 σ = some (r, τ)) : zAW G 7 RX12 cX12_readsCondition 1 C 0 [(0, .ref (zad G 69))] [] σ := by
  unfold F_X12_readsCondition_0 at h
  refine z_aload e_X12_readsCondition_0 0 rfl ?_
  obtain ⟨q2, s1, e3, h⟩ := bd_e h
  refine z_callVi (c0 := 69) (As := []) (rest := []) lk_X12_199 ob_69 e_X12_readsCondition_1 (m_X12_here G σ _ _ e3) (by decide) rfl (Nat.le_of_ble_eq_true rfl) ?_
  refine z_ic e_X12_readsCondition_4 ?_
  refine z_icmp_eq e_X12_readsCondition_6 h (fun c4 h => ?_) (fun c4 h => ?_)
  · refine z_aload e_X12_readsCondition_19 0 rfl ?_
    refine z_ic e_X12_readsCondition_20 ?_
    refine z_puti pf_X12_220_69 e_X12_readsCondition_21 h (fun s5 h => ?_)
    refine z_aload e_X12_readsCondition_24 0 rfl ?_
    refine z_ic e_X12_readsCondition_25 ?_
    refine z_puti pf_X12_223_69 e_X12_readsCondition_26 h (fun s6 h => ?_)
    refine z_aload e_X12_readsCondition_29 0 rfl ?_
    refine z_ic e_X12_readsCondition_30 ?_
    obtain ⟨q8, s7, e9, h⟩ := bd_e h
    refine z_callVi (c0 := 69) (As := [.int (13 : Int32)]) (rest := []) lk_X12_233 ob_69 e_X12_readsCondition_32 (m_X12_opens G (13 : Int32) s6 _ _ e9) (by decide) rfl (Nat.le_of_ble_eq_true rfl) ?_
    refine z_if_ne e_X12_readsCondition_35 h (fun c10 h => ?_) (fun c10 h => ?_)
    · refine z_ic e_X12_readsCondition_38 ?_
      cases h
      exact z_zreturn hR e_X12_readsCondition_39 (Or.inl rfl)
    · exact z_sub [0] rfl (l_X12_readsCondition_40 hR  zlim  s7 h)
  · refine z_aload e_X12_readsCondition_9 0 rfl ?_
    refine z_ic e_X12_readsCondition_10 ?_
    refine z_aload e_X12_readsCondition_11 0 rfl ?_
    refine z_geti gf_X12_193_69 e_X12_readsCondition_12 ?_
    obtain ⟨q75, s74, e76, h⟩ := bd_e h
    refine z_callVi (c0 := 69) (As := [.int (1 : Int32), .int (s1.1 69 15)]) (rest := []) lk_X12_206 ob_69 e_X12_readsCondition_15 (m_X12_wrongAt G (1 : Int32) (s1.1 69 15) s1 _ _ e76) (by decide) rfl (Nat.le_of_ble_eq_true rfl) ?_
    obtain ⟨hb77, h⟩ := gd_e h
    cases h
    exact z_zreturn hR e_X12_readsCondition_18 hb77
noncomputable def F_X12_readsCondition (σ : zSt) : Option (Int32 × zSt) := F_X12_readsCondition_0  σ
set_option maxRecDepth 100000 in
theorem m_X12_readsCondition (G : zG) (σ : zSt) (q : Int32) (τ : zSt) (h : F_X12_readsCondition  σ = some (q, τ)) : zM G 7 yX12_readsCondition cX12_readsCondition 1 (some .boolean) [.ref (zad G 69)] σ (some (.int q)) τ := by
  unfold F_X12_readsCondition at h
  refine zM.of (own := RX12) (by decide +kernel) rfl (Nat.le_of_ble_eq_true rfl) (fun C hR => ?_)
  exact z_sub [0] rfl (p_X12_readsCondition_0 hR  σ h)
noncomputable def F_X12_readsClause_27 (x1 : Int32) (σ : zSt) : Option (Int32 × zSt) :=
  if (σ.1 69 22) = (16 : Int32) then (
    bd (F_X12_wrongAt (4 : Int32) (σ.1 69 15) σ) (fun q7 s6 =>
      gd (q7 = 0 ∨ q7 = 1) (some (q7, s6))))
  else (
    gd (vp_in (σ.1 69 22) 16) (nm (zwr σ 79 (σ.1 69 22).toNatClampNeg x1) (fun s10 =>
      nm (zwr s10 69 15 ((s10.1 69 15) + (1 : Int32))) (fun s11 =>
        gd (vp_in (s11.1 69 22) 16) (nm (zwr s11 80 (s11.1 69 22).toNatClampNeg (s11.1 69 20)) (fun s12 =>
          nm (zwr s12 69 19 (0 : Int32)) (fun s13 =>
            nm (zwr s13 69 21 (0 : Int32)) (fun s14 =>
              bd (F_X12_readsSum s14) (fun q16 s15 =>
                if q16 = 0 then (
                  some ((0 : Int32), s15))
                else (
                  gd (vp_in (s15.1 69 22) 16) (nm (zwr s15 81 (s15.1 69 22).toNatClampNeg (s15.1 69 20)) (fun s19 =>
                    bd (F_X12_readsCondition s19) (fun q21 s20 =>
                      if q21 = 0 then (
                        some ((0 : Int32), s20))
                      else (
                        gd (vp_in (s20.1 69 22) 16) (nm (zwr s20 82 (s20.1 69 22).toNatClampNeg (s20.1 69 20)) (fun s24 =>
                          nm (zwr s24 69 22 ((s24.1 69 22) + (1 : Int32))) (fun s25 =>
                            some ((1 : Int32), s25))))))))))))))))))
set_option maxHeartbeats 4000000 in
set_option maxRecDepth 100000 in
theorem p_X12_readsClause_27 {G : zG} {C : zC} {r : Int32} {τ : zSt} (hR : zR G C (some .boolean) (some (.int r)) τ) (x1 : Int32) (σ : zSt) (h : F_X12_readsClause_27 x1 σ = some (r, τ)) : zAW G 8 RX12 cX12_readsClause 2 C 27 [(0, .ref (zad G 69)), (1, .int x1)] [] σ := by
  unfold F_X12_readsClause_27 at h
  refine z_aload e_X12_readsClause_27 0 rfl ?_
  refine z_geti gf_X12_270_69 e_X12_readsClause_28 ?_
  refine z_ic e_X12_readsClause_31 ?_
  refine z_icmp_ne e_X12_readsClause_33 h (fun c5 h => ?_) (fun c5 h => ?_)
  · refine z_aload e_X12_readsClause_36 0 rfl ?_
    refine z_ic e_X12_readsClause_37 ?_
    refine z_aload e_X12_readsClause_38 0 rfl ?_
    refine z_geti gf_X12_193_69 e_X12_readsClause_39 ?_
    obtain ⟨q7, s6, e8, h⟩ := bd_e h
    refine z_callVi (c0 := 69) (As := [.int (4 : Int32), .int (σ.1 69 15)]) (rest := []) lk_X12_206 ob_69 e_X12_readsClause_42 (m_X12_wrongAt G (4 : Int32) (σ.1 69 15) σ _ _ e8) (by decide) rfl (Nat.le_of_ble_eq_true rfl) ?_
    obtain ⟨hb9, h⟩ := gd_e h
    cases h
    exact z_zreturn hR e_X12_readsClause_45 hb9
  · refine z_aload e_X12_readsClause_46 0 rfl ?_
    refine z_getr gf_X12_38_69 e_X12_readsClause_47 ?_
    refine z_aload e_X12_readsClause_50 0 rfl ?_
    refine z_geti gf_X12_270_69 e_X12_readsClause_51 ?_
    refine z_iload e_X12_readsClause_54 1 rfl ?_
    refine z_iast sh_79 e_X12_readsClause_55 h (fun s10 h => ?_)
    refine z_aload e_X12_readsClause_56 0 rfl ?_
    refine z_aload e_X12_readsClause_57 0 rfl ?_
    refine z_geti gf_X12_193_69 e_X12_readsClause_58 ?_
    refine z_ic e_X12_readsClause_61 ?_
    refine z_iadd e_X12_readsClause_62 ?_
    refine z_puti pf_X12_193_69 e_X12_readsClause_63 h (fun s11 h => ?_)
    refine z_aload e_X12_readsClause_66 0 rfl ?_
    refine z_getr gf_X12_41_69 e_X12_readsClause_67 ?_
    refine z_aload e_X12_readsClause_70 0 rfl ?_
    refine z_geti gf_X12_270_69 e_X12_readsClause_71 ?_
    refine z_aload e_X12_readsClause_74 0 rfl ?_
    refine z_geti gf_X12_216_69 e_X12_readsClause_75 ?_
    refine z_iast sh_80 e_X12_readsClause_78 h (fun s12 h => ?_)
    refine z_aload e_X12_readsClause_79 0 rfl ?_
    refine z_ic e_X12_readsClause_80 ?_
    refine z_puti pf_X12_220_69 e_X12_readsClause_81 h (fun s13 h => ?_)
    refine z_aload e_X12_readsClause_84 0 rfl ?_
    refine z_ic e_X12_readsClause_85 ?_
    refine z_puti pf_X12_223_69 e_X12_readsClause_86 h (fun s14 h => ?_)
    refine z_aload e_X12_readsClause_89 0 rfl ?_
    obtain ⟨q16, s15, e17, h⟩ := bd_e h
    refine z_callVi (c0 := 69) (As := []) (rest := []) lk_X12_255 ob_69 e_X12_readsClause_90 (m_X12_readsSum G s14 _ _ e17) (by decide) rfl (Nat.le_of_ble_eq_true rfl) ?_
    refine z_if_ne e_X12_readsClause_93 h (fun c18 h => ?_) (fun c18 h => ?_)
    · refine z_ic e_X12_readsClause_96 ?_
      cases h
      exact z_zreturn hR e_X12_readsClause_97 (Or.inl rfl)
    · refine z_aload e_X12_readsClause_98 0 rfl ?_
      refine z_getr gf_X12_44_69 e_X12_readsClause_99 ?_
      refine z_aload e_X12_readsClause_102 0 rfl ?_
      refine z_geti gf_X12_270_69 e_X12_readsClause_103 ?_
      refine z_aload e_X12_readsClause_106 0 rfl ?_
      refine z_geti gf_X12_216_69 e_X12_readsClause_107 ?_
      refine z_iast sh_81 e_X12_readsClause_110 h (fun s19 h => ?_)
      refine z_aload e_X12_readsClause_111 0 rfl ?_
      obtain ⟨q21, s20, e22, h⟩ := bd_e h
      refine z_callVi (c0 := 69) (As := []) (rest := []) lk_X12_273 ob_69 e_X12_readsClause_112 (m_X12_readsCondition G s19 _ _ e22) (by decide) rfl (Nat.le_of_ble_eq_true rfl) ?_
      refine z_if_ne e_X12_readsClause_115 h (fun c23 h => ?_) (fun c23 h => ?_)
      · refine z_ic e_X12_readsClause_118 ?_
        cases h
        exact z_zreturn hR e_X12_readsClause_119 (Or.inl rfl)
      · refine z_aload e_X12_readsClause_120 0 rfl ?_
        refine z_getr gf_X12_47_69 e_X12_readsClause_121 ?_
        refine z_aload e_X12_readsClause_124 0 rfl ?_
        refine z_geti gf_X12_270_69 e_X12_readsClause_125 ?_
        refine z_aload e_X12_readsClause_128 0 rfl ?_
        refine z_geti gf_X12_216_69 e_X12_readsClause_129 ?_
        refine z_iast sh_82 e_X12_readsClause_132 h (fun s24 h => ?_)
        refine z_aload e_X12_readsClause_133 0 rfl ?_
        refine z_aload e_X12_readsClause_134 0 rfl ?_
        refine z_geti gf_X12_270_69 e_X12_readsClause_135 ?_
        refine z_ic e_X12_readsClause_138 ?_
        refine z_iadd e_X12_readsClause_139 ?_
        refine z_puti pf_X12_270_69 e_X12_readsClause_140 h (fun s25 h => ?_)
        refine z_ic e_X12_readsClause_143 ?_
        cases h
        exact z_zreturn hR e_X12_readsClause_144 (Or.inr rfl)
noncomputable def F_X12_readsClause_0 (σ : zSt) : Option (Int32 × zSt) :=
  bd (F_X12_here σ) (fun q2 s1 =>
    if q2 = (109 : Int32) then (
      F_X12_readsClause_27 q2 s1)
    else (
      if q2 = (108 : Int32) then (
        F_X12_readsClause_27 q2 s1)
      else (
        bd (F_X12_wrongAt (1 : Int32) (s1.1 69 15) s1) (fun q28 s27 =>
          gd (q28 = 0 ∨ q28 = 1) (some (q28, s27))))))
set_option maxHeartbeats 4000000 in
set_option maxRecDepth 100000 in
theorem p_X12_readsClause_0 {G : zG} {C : zC} {r : Int32} {τ : zSt} (hR : zR G C (some .boolean) (some (.int r)) τ)  (σ : zSt) (h : F_X12_readsClause_0 σ = some (r, τ)) : zAW G 8 RX12 cX12_readsClause 2 C 0 [(0, .ref (zad G 69))] [] σ := by
  unfold F_X12_readsClause_0 at h
  refine z_aload e_X12_readsClause_0 0 rfl ?_
  obtain ⟨q2, s1, e3, h⟩ := bd_e h
  refine z_callVi (c0 := 69) (As := []) (rest := []) lk_X12_199 ob_69 e_X12_readsClause_1 (m_X12_here G σ _ _ e3) (by decide) rfl (Nat.le_of_ble_eq_true rfl) ?_
  refine z_istore e_X12_readsClause_4 (by decide) [(1, .int q2), (0, .ref (zad G 69))] rfl ?_
  refine z_iload e_X12_readsClause_5 0 rfl ?_
  refine z_ic e_X12_readsClause_6 ?_
  refine z_icmp_eq e_X12_readsClause_8 h (fun c4 h => ?_) (fun c4 h => ?_)
  · exact z_sub [1, 0] rfl (p_X12_readsClause_27 hR q2 s1 h)
  · refine z_iload e_X12_readsClause_11 0 rfl ?_
    refine z_ic e_X12_readsClause_12 ?_
    refine z_icmp_eq e_X12_readsClause_14 h (fun c26 h => ?_) (fun c26 h => ?_)
    · exact z_sub [1, 0] rfl (p_X12_readsClause_27 hR q2 s1 h)
    · refine z_aload e_X12_readsClause_17 1 rfl ?_
      refine z_ic e_X12_readsClause_18 ?_
      refine z_aload e_X12_readsClause_19 1 rfl ?_
      refine z_geti gf_X12_193_69 e_X12_readsClause_20 ?_
      obtain ⟨q28, s27, e29, h⟩ := bd_e h
      refine z_callVi (c0 := 69) (As := [.int (1 : Int32), .int (s1.1 69 15)]) (rest := []) lk_X12_206 ob_69 e_X12_readsClause_23 (m_X12_wrongAt G (1 : Int32) (s1.1 69 15) s1 _ _ e29) (by decide) rfl (Nat.le_of_ble_eq_true rfl) ?_
      obtain ⟨hb30, h⟩ := gd_e h
      cases h
      exact z_zreturn hR e_X12_readsClause_26 hb30
noncomputable def F_X12_readsClause (σ : zSt) : Option (Int32 × zSt) := F_X12_readsClause_0  σ
set_option maxRecDepth 100000 in
theorem m_X12_readsClause (G : zG) (σ : zSt) (q : Int32) (τ : zSt) (h : F_X12_readsClause  σ = some (q, τ)) : zM G 8 yX12_readsClause cX12_readsClause 2 (some .boolean) [.ref (zad G 69)] σ (some (.int q)) τ := by
  unfold F_X12_readsClause at h
  refine zM.of (own := RX12) (by decide +kernel) rfl (Nat.le_of_ble_eq_true rfl) (fun C hR => ?_)
  exact z_sub [0] rfl (p_X12_readsClause_0 hR  σ h)
noncomputable def F_X12_takes_0 (x1 : Int32) (σ : zSt) : Option (Int32 × zSt) :=
  bd (F_X12_here σ) (fun q2 s1 =>
    if q2 = x1 then (
      nm (zwr s1 69 15 ((s1.1 69 15) + (1 : Int32))) (fun s5 =>
        some ((1 : Int32), s5)))
    else (
      bd (F_X12_wrongAt (1 : Int32) (s1.1 69 15) s1) (fun q7 s6 =>
        gd (q7 = 0 ∨ q7 = 1) (some (q7, s6)))))
set_option maxHeartbeats 4000000 in
set_option maxRecDepth 100000 in
theorem p_X12_takes_0 {G : zG} {C : zC} {r : Int32} {τ : zSt} (hR : zR G C (some .boolean) (some (.int r)) τ) (x1 : Int32) (σ : zSt) (h : F_X12_takes_0 x1 σ = some (r, τ)) : zAW G 2 RX12 cX12_takes 2 C 0 [(0, .ref (zad G 69)), (1, .int x1)] [] σ := by
  unfold F_X12_takes_0 at h
  refine z_aload e_X12_takes_0 0 rfl ?_
  obtain ⟨q2, s1, e3, h⟩ := bd_e h
  refine z_callVi (c0 := 69) (As := []) (rest := []) lk_X12_199 ob_69 e_X12_takes_1 (m_X12_here G σ _ _ e3) (by decide) rfl (Nat.le_of_ble_eq_true rfl) ?_
  refine z_iload e_X12_takes_4 1 rfl ?_
  refine z_icmp_eq e_X12_takes_5 h (fun c4 h => ?_) (fun c4 h => ?_)
  · refine z_aload e_X12_takes_18 0 rfl ?_
    refine z_aload e_X12_takes_19 0 rfl ?_
    refine z_geti gf_X12_193_69 e_X12_takes_20 ?_
    refine z_ic e_X12_takes_23 ?_
    refine z_iadd e_X12_takes_24 ?_
    refine z_puti pf_X12_193_69 e_X12_takes_25 h (fun s5 h => ?_)
    refine z_ic e_X12_takes_28 ?_
    cases h
    exact z_zreturn hR e_X12_takes_29 (Or.inr rfl)
  · refine z_aload e_X12_takes_8 0 rfl ?_
    refine z_ic e_X12_takes_9 ?_
    refine z_aload e_X12_takes_10 0 rfl ?_
    refine z_geti gf_X12_193_69 e_X12_takes_11 ?_
    obtain ⟨q7, s6, e8, h⟩ := bd_e h
    refine z_callVi (c0 := 69) (As := [.int (1 : Int32), .int (s1.1 69 15)]) (rest := []) lk_X12_206 ob_69 e_X12_takes_14 (m_X12_wrongAt G (1 : Int32) (s1.1 69 15) s1 _ _ e8) (by decide) rfl (Nat.le_of_ble_eq_true rfl) ?_
    obtain ⟨hb9, h⟩ := gd_e h
    cases h
    exact z_zreturn hR e_X12_takes_17 hb9
noncomputable def F_X12_takes (x1 : Int32) (σ : zSt) : Option (Int32 × zSt) := F_X12_takes_0 x1 σ
set_option maxRecDepth 100000 in
theorem m_X12_takes (G : zG) (x1 : Int32) (σ : zSt) (q : Int32) (τ : zSt) (h : F_X12_takes x1 σ = some (q, τ)) : zM G 2 yX12_takes cX12_takes 2 (some .boolean) [.ref (zad G 69), .int x1] σ (some (.int q)) τ := by
  unfold F_X12_takes at h
  refine zM.of (own := RX12) (by decide +kernel) rfl (Nat.le_of_ble_eq_true rfl) (fun C hR => ?_)
  exact z_sub [0, 1] rfl (p_X12_takes_0 hR x1 σ h)
