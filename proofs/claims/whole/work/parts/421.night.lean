/-! PURE: night, tried -/
def setW (W : zWo) (h x g d s : Nat) : zWo := (W.1, W.2.1, (wTol W, wWet W, h), (x, g, d, s))
theorem topW_set {W : zWo} {h x g d s : Nat} : ∀ n p, topW (setW W h x g d s) n p = topW W n p := by
  intro n
  induction n with
  | zero => intro p; rfl
  | succ n ih =>
    intro p
    unfold topW
    rw [show wWin (setW W h x g d s) p = wWin W p from rfl]
    cases wWin W p with
    | none => rfl
    | some q => exact ih q
theorem plN_set {W : zWo} {h x g d s : Nat} {p : Nat} : ∀ n, plN (setW W h x g d s) p n = plN W p n := by
  intro n
  induction n with
  | zero => rfl
  | succ n ih =>
    unfold plN
    rw [ih]
    rfl
theorem ltr_set {W : zWo} {h x g d s : Nat} {g' h' d' s' r' : Nat} : ltr (setW W h x g d s) g' h' d' s' r' = ltr W g' h' d' s' r' := by
  refine funext (fun j => ?_)
  have e : islW (setW W h x g d s) h' = islW W h' := congrArg (wIsl W) (topW_set 8 h')
  unfold ltr
  split
  all_goals first | rfl | rw [e] | rw [plN_set]
theorem mvN_set {σ0 : zSt} {W : zWo} {h x g d s : Nat} {g' h' d' s' r' : Nat} : mvN σ0 (setW W h x g d s) g' h' d' s' r' = mvN σ0 W g' h' d' s' r' := by
  unfold mvN
  rw [ltr_set]
  rfl
theorem syN_set {σ0 : zSt} {W : zWo} {h x g d s : Nat} {g' h' d' s' r' : Nat} : syN σ0 (setW W h x g d s) g' h' d' s' r' = syN σ0 W g' h' d' s' r' := by
  unfold syN
  rw [ltr_set]
  rfl
theorem WOK_set {W : zWo} {h x g d s : Nat} (hW : WOK W) (h1 : h < 8) (h2 : x < 65536) (h3 : g ≤ 600) (h4 : d ≤ 8) (h5 : s ≤ 8) : WOK (setW W h x g d s) := by
  obtain ⟨v1, v2, v3, v4, v5, v6, v7, v8, v9, v10⟩ := hW
  exact ⟨v1, v2, v3, v4, v5, v6, v7, v8, v9, h1, h3, h4, h5, h2⟩
def SN : List (Nat × Nat) := [(69, 2), (69, 3), (69, 4), (69, 5), (69, 6)]
theorem EM_set {W : zWo} {σ τ : zSt} {h x g d s : Nat} {L : List Nat} (hM : EM 70 0 W σ) (hf : fr L SN σ τ) (hL : (rowsM.all (fun c => !L.contains c) && !L.contains 69) = true) (a2 : τ.1 69 2 = nI h) (a3 : τ.1 69 3 = nI x) (a4 : τ.1 69 4 = nI g) (a5 : τ.1 69 5 = nI d) (a6 : τ.1 69 6 = nI s) : EM 70 0 (setW W h x g d s) τ := by
  rw [Bool.and_eq_true] at hL
  have r : ∀ c, c ∈ rowsM → τ.1 c = σ.1 c := by
    intro c hc
    refine hf.row ?_
    rw [Bool.and_eq_true]
    refine ⟨List.all_eq_true.mp hL.1 c hc, ?_⟩
    have : c ≠ 69 := by
      intro q
      rw [q] at hc
      revert hc
      decide
    simp [SN, Ne.symm this]
  have h69 : 69 ∉ L := by
    intro q
    have := hL.2
    rw [List.contains_iff_mem.mpr q] at this
    cases this
  obtain ⟨c1, c2, c3, c4, c5, c6, c7, c8, c9⟩ := hM
  exact ⟨fun j hj => (congrFun (r 70 (by decide)) j).trans (c1 j hj), fun j hj => (congrFun (r 71 (by decide)) j).trans (c2 j hj), fun j hj => (congrFun (r 72 (by decide)) j).trans (c3 j hj), fun j hj => (congrFun (r 73 (by decide)) j).trans (c4 j hj), fun j hj => (congrFun (r 74 (by decide)) j).trans (c5 j hj), fun j hj => (congrFun (r 75 (by decide)) j).trans (c6 j hj), (hf.rd h69 (by decide)).trans c7, (hf.rd h69 (by decide)).trans c8, a2, a4, a5, a6, a3⟩
theorem EM_get {W : zWo} {h x g d s : Nat} {τ : zSt} (hM : EM 70 0 (setW W h x g d s) τ) : τ.1 69 2 = nI h ∧ τ.1 69 3 = nI x ∧ τ.1 69 4 = nI g ∧ τ.1 69 5 = nI d ∧ τ.1 69 6 = nI s := by
  obtain ⟨c1, c2, c3, c4, c5, c6, c7, c8, c9, c10, c11, c12, c13⟩ := hM
  exact ⟨c9, c13, c10, c11, c12⟩
theorem EM_self {W : zWo} {σ : zSt} (hM : EM 70 0 W σ) : EM 70 0 (setW W (wHea W) (wX W) (wNig W) (wDus W) (wSai W)) σ := hM
/-- the next X -/
def nxX (x : Nat) : Nat := (25173 * x + 13849) % 65536
theorem nxX_lt {x : Nat} : nxX x < 65536 := Nat.mod_lt _ (by decide)
theorem nI_mod {a b : Nat} (h : a < 2147483648 ∧ 0 < b ∧ b < 2147483648) : nI a % nI b = nI (a % b) := by
  have h2 : a % b < b := Nat.mod_lt _ h.2.1
  rw [i_eq, Int32.toInt_mod, i_nI h.1, i_nI h.2.2, i_nI (by omega)]
  rfl
theorem nxX_e {x : Nat} (hx : x < 65536) : ((25173 : Int32) * nI x + (13849 : Int32)) % (65536 : Int32) = nI (nxX x) := by
  have e : (25173 : Int32) * nI x + (13849 : Int32) = nI (25173 * x + 13849) := by
    rw [show (25173 : Int32) = nI 25173 from rfl, show (13849 : Int32) = nI 13849 from rfl, pk_mul, nI_add]
  rw [e, show (65536 : Int32) = nI 65536 from rfl, nI_mod (by omega)]
  rfl
theorem mod10_e {x : Nat} (hx : x < 65536) : nI x % (10 : Int32) = nI (x % 10) := by
  rw [show (10 : Int32) = nI 10 from rfl, nI_mod (by omega)]
theorem T_pass {W : zWo} {σ0 σ : zSt} (hL : RLw σ0) (hs : eqOn rowsL slotsL σ0 σ) (hW : WOK W) (hC : EC 1 2 W σ) {g h d s x : Nat} (hh : h < 8) (hx : x < 65536) (e3 : σ.1 24 3 = nI h) (e4 : σ.1 24 4 = nI g) (e5 : σ.1 24 5 = nI s) (e6 : σ.1 24 6 = nI x) : wp (F_X3_pass (nI d) σ) (fun _ τ => fr [16, 24, 25] [] σ τ ∧ τ.1 24 3 = nI (mvN σ0 W g h d s (nxX x % 10)) ∧ τ.1 24 4 = nI (g + 1) ∧ τ.1 24 5 = nI (syN σ0 W g (mvN σ0 W g h d s (nxX x % 10)) d s (nxX x % 10)) ∧ τ.1 24 6 = nI (nxX x)) := by
  unfold F_X3_pass F_X3_pass_0
  simp only [nm_s, e6, nxX_e hx, zwr_r, upd_r, Nat.reduceEqDiff, ↓reduceIte, e3, mod10_e nxX_lt]
  have f1 : fr [16, 24, 25] [] σ (zwr σ 24 6 (nI (nxX x))) := fr_w (Or.inl (by decide))
  refine wp_bd2 (T_passFrom (g := g) (s := s) hL (hs.tr (f1.eqOn (by decide))) hW (f1.EC (by decide) hC) hh ?_ ?_) (fun _ τ hτ => ?_)
  · simp only [zwr_r, upd_r, Nat.reduceEqDiff, ↓reduceIte, e4]
  · simp only [zwr_r, upd_r, Nat.reduceEqDiff, ↓reduceIte, e5]
  · obtain ⟨a1, a2, a3, a4, a5⟩ := hτ
    refine wp_some ⟨f1.tr a1, a2, a3, a4, a5.trans ?_⟩
    simp only [zwr_r, upd_r, ↓reduceIte]
theorem T_nightGoes {W : zWo} {σ0 σ : zSt} (hL : RLw σ0) (hs : eqOn rowsL slotsL σ0 σ) (hW : WOK W) {g h d s x d' : Nat} (hh : h < 8) (hx : x < 65536) (hg : g ≤ 600) (hd : d ≤ 8) (hs8 : s ≤ 8) (hM : EM 70 0 (setW W h x g d s) σ) : wp (F_X12_nightGoes (nI d') σ) (fun a τ => a = nI (syN σ0 W g (mvN σ0 W g h d' s (nxX x % 10)) d' s (nxX x % 10)) ∧ fr [88, 89] SN σ τ ∧ EM 70 0 (setW W (mvN σ0 W g h d' s (nxX x % 10)) (nxX x) (g + 1) d' (syN σ0 W g (mvN σ0 W g h d' s (nxX x % 10)) d' s (nxX x % 10))) τ) := by
  obtain ⟨e2, e3, e4, e5, e6⟩ := EM_get hM
  have hW1 : WOK (setW W h (nxX x) g d s) := WOK_set hW hh nxX_lt hg hd hs8
  unfold F_X12_nightGoes F_X12_nightGoes_0 F_X12_draws F_X12_draws_0
  simp only [nm_s, e3, nxX_e hx, zwr_r, upd_r, Nat.reduceEqDiff, ↓reduceIte, mod10_e nxX_lt, bd_s, e4, e2, e6]
  have f1 : fr [88, 89] SN σ (zwr σ 69 3 (nI (nxX x))) := fr_w (Or.inr (by decide))
  have m1 : EM 70 0 (setW W h (nxX x) g d s) (zwr σ 69 3 (nI (nxX x))) := EM_set (W := setW W h x g d s) hM f1 (by decide) (by simp only [zwr_r, upd_r, Nat.reduceEqDiff, ↓reduceIte, e2]) (by simp only [zwr_r, upd_r, ↓reduceIte]) (by simp only [zwr_r, upd_r, Nat.reduceEqDiff, ↓reduceIte, e4]) (by simp only [zwr_r, upd_r, Nat.reduceEqDiff, ↓reduceIte, e5]) (by simp only [zwr_r, upd_r, Nat.reduceEqDiff, ↓reduceIte, e6])
  refine wp_bd2 (T_movesTo hL (hs.tr (f1.eqOn (by decide))) hW1 m1 hh) (fun a τ hτ => ?_)
  obtain ⟨rfl, g1⟩ := hτ
  rw [mvN_set]
  have hm8 : mvN σ0 W g h d' s (nxX x % 10) < 8 := mvN_lt hh
  have hW2 : WOK (setW W (mvN σ0 W g h d' s (nxX x % 10)) (nxX x) g d s) := WOK_set hW hm8 nxX_lt hg hd hs8
  obtain ⟨b2, b3, b4, b5, b6⟩ := EM_get (g1.EM (by decide) m1)
  have f2 : fr [88, 89] SN σ (zwr τ 69 2 (nI (mvN σ0 W g h d' s (nxX x % 10)))) := (f1.tr (g1.mono (by decide))).w (Or.inr (by decide))
  have m2 : EM 70 0 (setW W (mvN σ0 W g h d' s (nxX x % 10)) (nxX x) g d s) (zwr τ 69 2 (nI (mvN σ0 W g h d' s (nxX x % 10)))) := EM_set (W := setW W h x g d s) hM f2 (by decide) (by simp only [zwr_r, upd_r, ↓reduceIte]) (by simp only [zwr_r, upd_r, Nat.reduceEqDiff, ↓reduceIte, b3]) (by simp only [zwr_r, upd_r, Nat.reduceEqDiff, ↓reduceIte, b4]) (by simp only [zwr_r, upd_r, Nat.reduceEqDiff, ↓reduceIte, b5]) (by simp only [zwr_r, upd_r, Nat.reduceEqDiff, ↓reduceIte, b6])
  simp only [nm_s, zwr_r, upd_r, Nat.reduceEqDiff, ↓reduceIte, b4, b6]
  refine wp_bd2 (T_saysOf hL (hs.tr (f2.eqOn (by decide))) hW2 m2 hm8) (fun a υ hυ => ?_)
  obtain ⟨rfl, g2⟩ := hυ
  rw [syN_set]
  obtain ⟨c2, c3, c4, c5, c6⟩ := EM_get (g2.EM (by decide) m2)
  simp only [nm_s, zwr_r, upd_r, Nat.reduceEqDiff, ↓reduceIte, c4, nI_1]
  have f3 := (((f2.tr (g2.mono (L' := [88, 89]) (S' := SN) (by decide))).w (c := 69) (j := 6) (v := nI (syN σ0 W g (mvN σ0 W g h d' s (nxX x % 10)) d' s (nxX x % 10))) (Or.inr (by decide))).w (c := 69) (j := 5) (v := nI d') (Or.inr (by decide))).w (c := 69) (j := 4) (v := nI (g + 1)) (Or.inr (by decide))
  exact wp_some ⟨rfl, f3, EM_set (W := setW W h x g d s) hM f3 (by decide) (by simp only [zwr_r, upd_r, Nat.reduceEqDiff, ↓reduceIte, c2]) (by simp only [zwr_r, upd_r, Nat.reduceEqDiff, ↓reduceIte, c3]) (by simp only [zwr_r, upd_r, ↓reduceIte]) (by simp only [zwr_r, upd_r, Nat.reduceEqDiff, ↓reduceIte]) (by simp only [zwr_r, upd_r, Nat.reduceEqDiff, ↓reduceIte])⟩
theorem T_heart {W : zWo} {σ : zSt} (hW : WOK W) (hC : EC 1 2 W σ) : F_X11_heartIsTold σ = some (bI (isT W (nI (wHea W))), σ) := by
  have e : σ.1 1 8 = nI (wHea W) := hC.2.2.2.2.2.2.2.2.1
  unfold F_X11_heartIsTold F_X11_heartIsTold_0
  rw [e, T_isTold hW hC, bd_s, gd_01]
theorem T_begin {W : zWo} {σ : zSt} (hC : EC 1 2 W σ) : F_X3_begin σ = some ((), zwr (zwr (zwr (zwr σ 24 3 (nI (wHea W))) 24 4 (nI (wNig W))) 24 5 (nI (wSai W))) 24 6 (nI (wX W))) := by
  obtain ⟨c1, c2, c3, c4, c5, c6, c7, c8, c9, c10, c11, c12, c13⟩ := hC
  unfold F_X3_begin F_X3_begin_0
  simp only [nm_s, zwr_r, Nat.reduceEqDiff, ↓reduceIte, c9, c10, c12, c13]
theorem T_in_9 {x : Int32} {σ : zSt} : F_X12_in x 0 8 σ = some (bI (bel x 9), σ) := T_inN 8 rfl
theorem s_night {n : Nat} {σ : zSt} (hn : n < 512) (hR : Rel n σ) (x1 : Int32) : Both n (F_X11_night x1) (F_X12_night x1) σ := by
  obtain ⟨-, ⟨W, w0, w1, w2, w3⟩, -, -, hL, -⟩ := id hR
  have m2 : σ.1 69 2 = nI (wHea W) := w3.2.2.2.2.2.2.2.2.1
  have m4 : σ.1 69 4 = nI (wNig W) := w3.2.2.2.2.2.2.2.2.2.1
  have c9 : σ.1 1 9 = nI (wNig W) := w2.2.2.2.2.2.2.2.2.2.1
  by_cases h1 : bel x1 9
  rotate_left
  · exact Both.no (-1) hn hR (by simp (disch := omega) only [F_X11_night, F_X11_night_0, T_isBelow_2, T_isBelow_3, T_isBelow_4, T_isBelow_6, T_isBelow_8, T_isBelow_9, T_isBelow_10, T_isBelow_12, T_isBelow_16, T_isBelow_17, T_isBelow_31, T_isBelow_64, T_isBelow_256, T_isBelow_65536, T_in_1, T_in_2, T_in_3, T_in_4, T_in_5, T_in_8, T_in_11, T_in_16, T_in_30, T_in_63, T_in_255, T_in_65535, T_isIsland, T_isEight, bd_s, nm_s, bI_0, gd_n, gd_01, nI_cl, nI_add, nI_1, m4, Bool.false_eq_true, and_self, true_and, and_true, true_or, or_true, or_self, false_or, or_false, gd_T, not_true_eq_false, not_false_eq_true, ↓reduceIte, h1]) (by simp (disch := omega) only [F_X12_night, F_X12_night_0, T_isBelow_2, T_isBelow_3, T_isBelow_4, T_isBelow_6, T_isBelow_8, T_isBelow_9, T_isBelow_10, T_isBelow_12, T_isBelow_16, T_isBelow_17, T_isBelow_31, T_isBelow_64, T_isBelow_256, T_isBelow_65536, T_in_1, T_in_2, T_in_3, T_in_4, T_in_5, T_in_8, T_in_11, T_in_16, T_in_30, T_in_63, T_in_255, T_in_65535, T_isIsland, T_isEight, bd_s, nm_s, bI_0, gd_n, gd_01, nI_cl, nI_add, nI_1, m4, Bool.false_eq_true, and_self, true_and, and_true, true_or, or_true, or_self, false_or, or_false, gd_T, not_true_eq_false, not_false_eq_true, ↓reduceIte, h1])
  by_cases h2 : isT W (nI (wHea W))
  rotate_left
  · exact Both.no (-1) hn hR (by simp (disch := omega) only [F_X11_night, F_X11_night_0, T_isBelow_2, T_isBelow_3, T_isBelow_4, T_isBelow_6, T_isBelow_8, T_isBelow_9, T_isBelow_10, T_isBelow_12, T_isBelow_16, T_isBelow_17, T_isBelow_31, T_isBelow_64, T_isBelow_256, T_isBelow_65536, T_in_1, T_in_2, T_in_3, T_in_4, T_in_5, T_in_8, T_in_11, T_in_16, T_in_30, T_in_63, T_in_255, T_in_65535, T_isIsland, T_isEight, bd_s, nm_s, bI_0, gd_n, gd_01, nI_cl, nI_add, nI_1, m4, Bool.false_eq_true, and_self, true_and, and_true, true_or, or_true, or_self, false_or, or_false, gd_T, not_true_eq_false, not_false_eq_true, ↓reduceIte, h1, T_heart w0 w2, h2]) (by simp (disch := omega) only [F_X12_night, F_X12_night_0, T_isBelow_2, T_isBelow_3, T_isBelow_4, T_isBelow_6, T_isBelow_8, T_isBelow_9, T_isBelow_10, T_isBelow_12, T_isBelow_16, T_isBelow_17, T_isBelow_31, T_isBelow_64, T_isBelow_256, T_isBelow_65536, T_in_1, T_in_2, T_in_3, T_in_4, T_in_5, T_in_8, T_in_11, T_in_16, T_in_30, T_in_63, T_in_255, T_in_65535, T_isIsland, T_isEight, bd_s, nm_s, bI_0, gd_n, gd_01, nI_cl, nI_add, nI_1, m4, Bool.false_eq_true, and_self, true_and, and_true, true_or, or_true, or_self, false_or, or_false, gd_T, not_true_eq_false, not_false_eq_true, ↓reduceIte, h1, m2, T_isPlace w0 w3, h2])
  obtain ⟨d, hd, rfl⟩ := bel_of h1
  have hh : wHea W < 8 := w0.hea
  have hx : wX W < 65536 := w0.2.2.2.2.2.2.2.2.2.2.2.2.2
  have hg : wNig W ≤ 600 := w0.2.2.2.2.2.2.2.2.2.2.1
  have hd8 : wDus W ≤ 8 := w0.2.2.2.2.2.2.2.2.2.2.2.1
  have hs8 : wSai W ≤ 8 := w0.2.2.2.2.2.2.2.2.2.2.2.2.1
  have E1 : wp (F_X11_night (nI d) σ) (fun a τ => ∃ h' s', h' = mvN σ W (wNig W) (wHea W) d (wSai W) (nxX (wX W) % 10) ∧ s' = syN σ W (wNig W) h' d (wSai W) (nxX (wX W) % 10) ∧ a = nI s' ∧ fr [16, 24, 25] [(1, 8), (1, 9), (1, 10), (1, 11), (1, 12)] σ τ ∧ EC 1 2 (setW W h' (nxX (wX W)) (wNig W + 1) d s') τ) := by
    have E0 : F_X11_night (nI d) σ = bd (F_X3_begin σ) (fun _ s10 => bd (F_X3_pass (nI d) s10) (fun _ s13 => nm (zwr s13 1 8 (s13.1 24 3)) (fun s16 => nm (zwr s16 1 9 (s16.1 24 4)) (fun s17 => nm (zwr s17 1 10 (nI d)) (fun s18 => nm (zwr s18 1 11 (s18.1 24 5)) (fun s19 => nm (zwr s19 1 12 (s19.1 24 6)) (fun s20 => some ((s20.1 1 11), s20)))))))) := by
      simp (disch := omega) only [F_X11_night, F_X11_night_0, T_isBelow_2, T_isBelow_3, T_isBelow_4, T_isBelow_6, T_isBelow_8, T_isBelow_9, T_isBelow_10, T_isBelow_12, T_isBelow_16, T_isBelow_17, T_isBelow_31, T_isBelow_64, T_isBelow_256, T_isBelow_65536, T_in_1, T_in_2, T_in_3, T_in_4, T_in_5, T_in_8, T_in_11, T_in_16, T_in_30, T_in_63, T_in_255, T_in_65535, T_isIsland, T_isEight, bd_s, nm_s, bI_0, gd_n, gd_01, nI_cl, nI_add, nI_1, m4, Bool.false_eq_true, and_self, true_and, and_true, true_or, or_true, or_self, false_or, or_false, gd_T, not_true_eq_false, not_false_eq_true, ↓reduceIte, h1, T_heart w0 w2, h2, c9, lt_lit, if_pos]
    rw [E0, T_begin w2, bd_s]
    have f1 : fr [16, 24, 25] [] σ (zwr (zwr (zwr (zwr σ 24 3 (nI (wHea W))) 24 4 (nI (wNig W))) 24 5 (nI (wSai W))) 24 6 (nI (wX W))) := (((fr_w (Or.inl (by decide))).w (Or.inl (by decide))).w (Or.inl (by decide))).w (Or.inl (by decide))
    refine wp_bd2 (T_pass (g := wNig W) (h := wHea W) (s := wSai W) (x := wX W) hL (f1.eqOn (by decide)) w0 (f1.EC (by decide) w2) hh hx ?_ ?_ ?_ ?_) (fun _ τ hτ => ?_)
    · simp only [zwr_r, upd_r, Nat.reduceEqDiff, ↓reduceIte]
    · simp only [zwr_r, upd_r, Nat.reduceEqDiff, ↓reduceIte]
    · simp only [zwr_r, upd_r, Nat.reduceEqDiff, ↓reduceIte]
    · simp only [zwr_r, upd_r, Nat.reduceEqDiff, ↓reduceIte]
    obtain ⟨a1, a2, a3, a4, a5⟩ := hτ
    have f2 := f1.tr a1
    obtain ⟨c1, c2, c3, c4, c5, c6, c7, c8, -⟩ := f2.EC (by decide) w2
    simp only [nm_s, zwr_r, upd_r, Nat.reduceEqDiff, ↓reduceIte, a2, a3, a4, a5]
    exact wp_some ⟨_, _, rfl, rfl, rfl, (((((f2.mono (by decide)).w (Or.inr (by decide))).w (Or.inr (by decide))).w (Or.inr (by decide))).w (Or.inr (by decide))).w (Or.inr (by decide)), c1, c2, c3, c4, c5, c6, c7, c8, rfl, rfl, rfl, rfl, rfl⟩
  obtain ⟨a, τ, e1, h', s', rfl, rfl, rfl, f1, k1⟩ := E1
  have E2 : F_X12_night (nI d) τ = bd (F_X12_nightGoes (nI d) τ) (fun q11 s10 => some (q11, s10)) := by
    have w3p := f1.EM (by decide) w3
    have m2p : τ.1 69 2 = nI (wHea W) := w3p.2.2.2.2.2.2.2.2.1
    have m4p : τ.1 69 4 = nI (wNig W) := w3p.2.2.2.2.2.2.2.2.2.1
    simp (disch := omega) only [F_X12_night, F_X12_night_0, T_isBelow_2, T_isBelow_3, T_isBelow_4, T_isBelow_6, T_isBelow_8, T_isBelow_9, T_isBelow_10, T_isBelow_12, T_isBelow_16, T_isBelow_17, T_isBelow_31, T_isBelow_64, T_isBelow_256, T_isBelow_65536, T_in_1, T_in_2, T_in_3, T_in_4, T_in_5, T_in_8, T_in_11, T_in_16, T_in_30, T_in_63, T_in_255, T_in_65535, T_isIsland, T_isEight, bd_s, nm_s, bI_0, gd_n, gd_01, nI_cl, nI_add, nI_1, m4, Bool.false_eq_true, and_self, true_and, and_true, true_or, or_true, or_self, false_or, or_false, gd_T, not_true_eq_false, not_false_eq_true, ↓reduceIte, h1, m2p, T_isPlace w0 w3p, h2, m4p, eq_lit, if_neg]
  have E3 := T_nightGoes (d' := d) hL (f1.eqOn (by decide)) w0 hh hx hg hd8 hs8 (EM_self (f1.EM (by decide) w3))
  obtain ⟨a, υ, e3, rfl, f2, k2⟩ := E3
  refine Both.mk e1 (E2.trans (by rw [e3, bd_s])) ?_
  refine Rel_W hn hR ((f1.eqOn (by decide)).tr (f2.eqOn (by decide))) ⟨_, WOK_set w0 (mvN_lt hh) nxX_lt (show wNig W + 1 ≤ 600 by omega) (show d ≤ 8 by omega) (Nat.le_of_lt (syN_lt (mvN_lt hh))), Nat.succ_le_succ w1, ?_, k2⟩
  exact f2.EC (by decide) k1
/-- nights tried: h, x, said, truths, moves -/
noncomputable def trN (σ0 : zSt) (W : zWo) : Nat → Nat × Nat × Nat × Nat × Nat
  | 0 => (wHea W, wX W, wSai W, 0, 0)
  | k + 1 =>
    (mvN σ0 W (wNig W + k) (trN σ0 W k).1 (trN σ0 W k).2.2.1 (trN σ0 W k).2.2.1 (nxX (trN σ0 W k).2.1 % 10), nxX (trN σ0 W k).2.1,
      syN σ0 W (wNig W + k) (mvN σ0 W (wNig W + k) (trN σ0 W k).1 (trN σ0 W k).2.2.1 (trN σ0 W k).2.2.1 (nxX (trN σ0 W k).2.1 % 10)) (trN σ0 W k).2.2.1 (trN σ0 W k).2.2.1 (nxX (trN σ0 W k).2.1 % 10),
      (trN σ0 W k).2.2.2.1 + (if syN σ0 W (wNig W + k) (mvN σ0 W (wNig W + k) (trN σ0 W k).1 (trN σ0 W k).2.2.1 (trN σ0 W k).2.2.1 (nxX (trN σ0 W k).2.1 % 10)) (trN σ0 W k).2.2.1 (trN σ0 W k).2.2.1 (nxX (trN σ0 W k).2.1 % 10) = mvN σ0 W (wNig W + k) (trN σ0 W k).1 (trN σ0 W k).2.2.1 (trN σ0 W k).2.2.1 (nxX (trN σ0 W k).2.1 % 10) then 1 else 0),
      (trN σ0 W k).2.2.2.2 + (if (trN σ0 W k).1 = mvN σ0 W (wNig W + k) (trN σ0 W k).1 (trN σ0 W k).2.2.1 (trN σ0 W k).2.2.1 (nxX (trN σ0 W k).2.1 % 10) then 0 else 1))
theorem trN_b {σ0 : zSt} {W : zWo} (hW : WOK W) : ∀ k, (trN σ0 W k).1 < 8 ∧ (trN σ0 W k).2.1 < 65536 ∧ (trN σ0 W k).2.2.1 ≤ 8 := by
  intro k
  induction k with
  | zero => exact ⟨hW.hea, hW.2.2.2.2.2.2.2.2.2.2.2.2.2, hW.2.2.2.2.2.2.2.2.2.2.2.2.1⟩
  | succ k ih => exact ⟨mvN_lt ih.1, nxX_lt, Nat.le_of_lt (syN_lt (mvN_lt ih.1))⟩
theorem nI_ite {a b : Nat} (ha : a < 2147483648) (hb : b < 2147483648) {u v : Nat} : (if nI a = nI b then nI u else nI v) = nI (if a = b then u else v) := by
  by_cases h : a = b
  · rw [if_pos h, if_pos (by rw [h])]
  · rw [if_neg h, if_neg (fun q => h ((nI_eq ha hb).mp q))]
theorem fr_fix {L : List Nat} {σ τ : zSt} (h : fr L (SM ++ SN) σ τ) (a2 : τ.1 69 2 = σ.1 69 2) (a3 : τ.1 69 3 = σ.1 69 3) (a4 : τ.1 69 4 = σ.1 69 4) (a5 : τ.1 69 5 = σ.1 69 5) (a6 : τ.1 69 6 = σ.1 69 6) : fr L SM σ τ := by
  refine ⟨fun c j h1 h2 => ?_, h.2⟩
  by_cases q : (c, j) ∈ SN
  · simp only [SN, List.mem_cons, List.not_mem_nil, or_false, Prod.mk.injEq] at q
    rcases q with ⟨rfl, rfl⟩ | ⟨rfl, rfl⟩ | ⟨rfl, rfl⟩ | ⟨rfl, rfl⟩ | ⟨rfl, rfl⟩ <;> assumption
  · exact h.1 c j h1 (fun r => (List.mem_append.mp r).elim h2 q)
noncomputable def trA (σ0 : zSt) (W : zWo) (N : Nat) (x2 : Int32) : Int32 := if x2 = 0 then nI (trN σ0 W N).1 else (if x2 = 1 then nI (trN σ0 W N).2.2.1 else (if x2 = 2 then nI (trN σ0 W N).2.2.2.1 else nI (trN σ0 W N).2.2.2.2))
theorem T_trial {W : zWo} {σ0 σ : zSt} (hL : RLw σ0) (hs : eqOn rowsL slotsL σ0 σ) (hW : WOK W) (hC : EC 1 2 W σ) {N : Nat} (hN : N ≤ 20) (x2 : Int32) : wp (F_X3_trial (nI N) x2 σ) (fun a τ => a = trA σ0 W N x2 ∧ fr [16, 24, 25] [] σ τ) := by
  unfold F_X3_trial F_X3_trial_0
  rw [T_begin hC, bd_s]
  have f1 : fr [16, 24, 25] [] σ (zwr (zwr (zwr (zwr σ 24 3 (nI (wHea W))) 24 4 (nI (wNig W))) 24 5 (nI (wSai W))) 24 6 (nI (wX W))) := (((fr_w (Or.inl (by decide))).w (Or.inl (by decide))).w (Or.inl (by decide))).w (Or.inl (by decide))
  refine wp_for (fun k s => s.1 = nI (trN σ0 W k).2.2.2.1 ∧ s.2.1 = nI (trN σ0 W k).2.2.2.2 ∧ s.2.2.1 = nI k ∧ fr [16, 24, 25] [] σ s.2.2.2 ∧ s.2.2.2.1 24 3 = nI (trN σ0 W k).1 ∧ s.2.2.2.1 24 4 = nI (wNig W + k) ∧ s.2.2.2.1 24 5 = nI (trN σ0 W k).2.2.1 ∧ s.2.2.2.1 24 6 = nI (trN σ0 W k).2.1) N (by omega) (fun k w s hk hI hw => ?_) (fun w s hI => ?_) ⟨rfl, rfl, rfl, f1, ?_, ?_, ?_, ?_⟩
  · obtain ⟨x3, x4, x5, τ⟩ := s
    obtain ⟨i1, i2, i3, i4, i5, i6, i7, i8⟩ := hI
    simp only at i1 i2 i3 i4 i5 i6 i7 i8
    subst i1 i2 i3
    show wp (F_X3_trial_12 (nI N) x2 w _ _ (nI k) τ) _
    obtain ⟨b1, b2, b3⟩ := trN_b (σ0 := σ0) hW k
    unfold F_X3_trial_12
    rw [if_neg (by rw [nI_lep (by omega)]; omega), i7]
    refine wp_bd2 (T_pass hL (hs.tr (i4.eqOn (by decide))) hW (i4.EC (by decide) hC) b1 b2 i5 i6 i7 i8) (fun _ υ hυ => ?_)
    obtain ⟨a1, a2, a3, a4, a5⟩ := hυ
    have m8 : mvN σ0 W (wNig W + k) (trN σ0 W k).1 (trN σ0 W k).2.2.1 (trN σ0 W k).2.2.1 (nxX (trN σ0 W k).2.1 % 10) < 8 := mvN_lt b1
    have s8 : syN σ0 W (wNig W + k) (mvN σ0 W (wNig W + k) (trN σ0 W k).1 (trN σ0 W k).2.2.1 (trN σ0 W k).2.2.1 (nxX (trN σ0 W k).2.1 % 10)) (trN σ0 W k).2.2.1 (trN σ0 W k).2.2.1 (nxX (trN σ0 W k).2.1 % 10) < 8 := syN_lt m8
    simp only [nm_s, a2, a4, i5, show (1 : Int32) = nI 1 from rfl, show (0 : Int32) = nI 0 from rfl]
    rw [nI_ite (by omega) (by omega), nI_ite (by omega) (by omega), nI_add, nI_add, nI_add]
    exact hw _ ⟨rfl, rfl, rfl, i4.tr a1, a2, a3, a4, a5⟩
  · obtain ⟨x3, x4, x5, τ⟩ := s
    obtain ⟨i1, i2, i3, i4, i5, i6, i7, i8⟩ := hI
    simp only at i1 i2 i3 i4 i5 i6 i7 i8
    subst i1 i2 i3
    show wp (F_X3_trial_12 (nI N) x2 w _ _ (nI N) τ) _
    unfold F_X3_trial_12 F_X3_trial_76 trA
    rw [if_pos (by rw [nI_lep (by omega)]; omega), i5, i7]
    split
    · exact wp_some ⟨rfl, i4⟩
    · split
      · exact wp_some ⟨rfl, i4⟩
      · split <;> exact wp_some ⟨rfl, i4⟩
  · simp only [zwr_r, upd_r, Nat.reduceEqDiff, ↓reduceIte]
    rfl
  · simp only [zwr_r, upd_r, Nat.reduceEqDiff, ↓reduceIte, Nat.add_zero]
  · simp only [zwr_r, upd_r, Nat.reduceEqDiff, ↓reduceIte]
    rfl
  · simp only [zwr_r, upd_r, Nat.reduceEqDiff, ↓reduceIte]
    rfl
theorem T_triedM {W : zWo} {σ0 σ : zSt} (hL : RLw σ0) (hs : eqOn rowsL slotsL σ0 σ) (hW : WOK W) (hM : EM 70 0 W σ) (hg : wNig W ≤ 512) {N : Nat} (hN : N ≤ 20) (x2 : Int32) : wp (zfix (F_X12_tried_82L (nI N) x2 (σ.1 69 2) (σ.1 69 3) (σ.1 69 4) (σ.1 69 5) (σ.1 69 6)) zlim ((0 : Int32), (0 : Int32), (0 : Int32), σ)) (fun a τ => a = trA σ0 W N x2 ∧ fr [88, 89] SM σ τ) := by
  refine wp_for (fun k s => s.1 = nI (trN σ0 W k).2.2.2.1 ∧ s.2.1 = nI (trN σ0 W k).2.2.2.2 ∧ s.2.2.1 = nI k ∧ fr [88, 89] (SM ++ SN) σ s.2.2.2 ∧ ∃ d, d ≤ 8 ∧ EM 70 0 (setW W (trN σ0 W k).1 (trN σ0 W k).2.1 (wNig W + k) d (trN σ0 W k).2.2.1) s.2.2.2) N (by omega) (fun k w s hk hI hw => ?_) (fun w s hI => ?_) ⟨rfl, rfl, rfl, fr.rf, wDus W, hW.2.2.2.2.2.2.2.2.2.2.2.1, EM_self hM⟩
  · obtain ⟨x8, x9, x10, τ⟩ := s
    obtain ⟨i1, i2, i3, i4, d, hd, i5⟩ := hI
    simp only at i1 i2 i3 i4 i5
    subst i1 i2 i3
    show wp (F_X12_tried_82 (nI N) x2 _ _ _ _ _ w _ _ (nI k) τ) _
    obtain ⟨b1, b2, b3⟩ := trN_b (σ0 := σ0) hW k
    obtain ⟨e2, e3, e4, e5, e6⟩ := EM_get i5
    unfold F_X12_tried_82
    rw [if_neg (by rw [nI_lep (by omega)]; omega), e6, e2]
    refine wp_bd2 (T_nightGoes (d' := (trN σ0 W k).2.2.1) hL (hs.tr (i4.eqOn (by decide))) hW b1 b2 (by omega) hd b3 i5) (fun a υ hυ => ?_)
    obtain ⟨-, a1, a2⟩ := hυ
    obtain ⟨g2, g3, g4, g5, g6⟩ := EM_get a2
    have m8 : mvN σ0 W (wNig W + k) (trN σ0 W k).1 (trN σ0 W k).2.2.1 (trN σ0 W k).2.2.1 (nxX (trN σ0 W k).2.1 % 10) < 8 := mvN_lt b1
    have s8 : syN σ0 W (wNig W + k) (mvN σ0 W (wNig W + k) (trN σ0 W k).1 (trN σ0 W k).2.2.1 (trN σ0 W k).2.2.1 (nxX (trN σ0 W k).2.1 % 10)) (trN σ0 W k).2.2.1 (trN σ0 W k).2.2.1 (nxX (trN σ0 W k).2.1 % 10) < 8 := syN_lt m8
    simp only [nm_s, g2, g6, show (1 : Int32) = nI 1 from rfl, show (0 : Int32) = nI 0 from rfl]
    rw [nI_ite (by omega) (by omega), nI_ite (by omega) (by omega), nI_add, nI_add, nI_add]
    refine hw _ ⟨rfl, ?_, rfl, i4.tr (a1.mono (by decide)), (trN σ0 W k).2.2.1, b3, a2⟩
    show nI _ = nI ((trN σ0 W k).2.2.2.2 + _)
    simp only [eq_comm]
  · obtain ⟨x8, x9, x10, τ⟩ := s
    obtain ⟨i1, i2, i3, i4, d, hd, i5⟩ := hI
    simp only at i1 i2 i3 i4 i5
    subst i1 i2 i3
    show wp (F_X12_tried_82 (nI N) x2 _ _ _ _ _ w _ _ (nI N) τ) _
    obtain ⟨e2, e3, e4, e5, e6⟩ := EM_get i5
    unfold F_X12_tried_82 F_X12_tried_149
    rw [if_pos (by rw [nI_lep (by omega)]; omega)]
    simp only [nm_s, e2, e6]
    refine wp_some ⟨rfl, fr_fix (((((i4.w (Or.inr (by decide))).w (Or.inr (by decide))).w (Or.inr (by decide))).w (Or.inr (by decide))).w (Or.inr (by decide))) ?_ ?_ ?_ ?_ ?_⟩
    all_goals simp only [zwr_r, upd_r, Nat.reduceEqDiff, ↓reduceIte]
theorem T_in_20 {x : Int32} {σ : zSt} : F_X12_in x 1 20 σ = some (bI (1 ≤ x.toInt ∧ x.toInt ≤ 20), σ) := T_in
theorem s_tried {n : Nat} {σ : zSt} (hn : n < 512) (hR : Rel n σ) (x1 x2 : Int32) : Both n (F_X11_tried x1 x2) (F_X12_tried x1 x2) σ := by
  obtain ⟨-, ⟨W, w0, w1, w2, w3⟩, -, -, hL, -⟩ := id hR
  have m2 : σ.1 69 2 = nI (wHea W) := w3.2.2.2.2.2.2.2.2.1
  have m4 : σ.1 69 4 = nI (wNig W) := w3.2.2.2.2.2.2.2.2.2.1
  have c9 : σ.1 1 9 = nI (wNig W) := w2.2.2.2.2.2.2.2.2.2.1
  by_cases h1 : 1 ≤ x1.toInt ∧ x1.toInt ≤ 20
  rotate_left
  · refine Both.no (-1) hn hR ?_ (by simp (disch := omega) only [F_X12_tried, F_X12_tried_0, T_isBelow_2, T_isBelow_3, T_isBelow_4, T_isBelow_6, T_isBelow_8, T_isBelow_9, T_isBelow_10, T_isBelow_12, T_isBelow_16, T_isBelow_17, T_isBelow_31, T_isBelow_64, T_isBelow_256, T_isBelow_65536, T_in_1, T_in_2, T_in_3, T_in_4, T_in_5, T_in_8, T_in_11, T_in_16, T_in_30, T_in_63, T_in_255, T_in_65535, T_isIsland, T_isEight, bd_s, nm_s, bI_0, gd_n, gd_01, nI_cl, nI_add, nI_1, m4, Bool.false_eq_true, and_self, true_and, and_true, true_or, or_true, or_self, false_or, or_false, gd_T, not_true_eq_false, not_false_eq_true, ↓reduceIte, h1, T_in_20])
    unfold F_X11_tried F_X11_tried_0
    have a : (1 : Int32).toInt = 1 := rfl
    have b : (20 : Int32).toInt = 20 := rfl
    by_cases q : x1 < 1
    · rw [if_pos q]
    · rw [if_neg q, if_pos (by rw [i_lt] at q ⊢; omega)]
  obtain ⟨N, hN, rfl⟩ := i_of (n := 21) (x := x1) (by omega) (by omega)
  have h1' := h1
  rw [i_nI (by omega)] at h1'
  have hN1 : 1 ≤ N := by omega
  by_cases h2 : bel x2 4
  rotate_left
  · exact Both.no (-1) hn hR (by simp (disch := omega) only [F_X11_tried, F_X11_tried_0, T_isBelow_2, T_isBelow_3, T_isBelow_4, T_isBelow_6, T_isBelow_8, T_isBelow_9, T_isBelow_10, T_isBelow_12, T_isBelow_16, T_isBelow_17, T_isBelow_31, T_isBelow_64, T_isBelow_256, T_isBelow_65536, T_in_1, T_in_2, T_in_3, T_in_4, T_in_5, T_in_8, T_in_11, T_in_16, T_in_30, T_in_63, T_in_255, T_in_65535, T_isIsland, T_isEight, bd_s, nm_s, bI_0, gd_n, gd_01, nI_cl, nI_add, nI_1, m4, Bool.false_eq_true, and_self, true_and, and_true, true_or, or_true, or_self, false_or, or_false, gd_T, not_true_eq_false, not_false_eq_true, ↓reduceIte, h2, lt_lit, lit_lt, if_neg]) (by simp (disch := omega) only [F_X12_tried, F_X12_tried_0, T_isBelow_2, T_isBelow_3, T_isBelow_4, T_isBelow_6, T_isBelow_8, T_isBelow_9, T_isBelow_10, T_isBelow_12, T_isBelow_16, T_isBelow_17, T_isBelow_31, T_isBelow_64, T_isBelow_256, T_isBelow_65536, T_in_1, T_in_2, T_in_3, T_in_4, T_in_5, T_in_8, T_in_11, T_in_16, T_in_30, T_in_63, T_in_255, T_in_65535, T_isIsland, T_isEight, bd_s, nm_s, bI_0, gd_n, gd_01, nI_cl, nI_add, nI_1, m4, Bool.false_eq_true, and_self, true_and, and_true, true_or, or_true, or_self, false_or, or_false, gd_T, not_true_eq_false, not_false_eq_true, ↓reduceIte, h1, h2, T_in_20])
  by_cases h3 : isT W (nI (wHea W))
  rotate_left
  · exact Both.no (-1) hn hR (by simp (disch := omega) only [F_X11_tried, F_X11_tried_0, T_isBelow_2, T_isBelow_3, T_isBelow_4, T_isBelow_6, T_isBelow_8, T_isBelow_9, T_isBelow_10, T_isBelow_12, T_isBelow_16, T_isBelow_17, T_isBelow_31, T_isBelow_64, T_isBelow_256, T_isBelow_65536, T_in_1, T_in_2, T_in_3, T_in_4, T_in_5, T_in_8, T_in_11, T_in_16, T_in_30, T_in_63, T_in_255, T_in_65535, T_isIsland, T_isEight, bd_s, nm_s, bI_0, gd_n, gd_01, nI_cl, nI_add, nI_1, m4, Bool.false_eq_true, and_self, true_and, and_true, true_or, or_true, or_self, false_or, or_false, gd_T, not_true_eq_false, not_false_eq_true, ↓reduceIte, h2, lt_lit, lit_lt, if_neg, T_heart w0 w2, h3]) (by simp (disch := omega) only [F_X12_tried, F_X12_tried_0, T_isBelow_2, T_isBelow_3, T_isBelow_4, T_isBelow_6, T_isBelow_8, T_isBelow_9, T_isBelow_10, T_isBelow_12, T_isBelow_16, T_isBelow_17, T_isBelow_31, T_isBelow_64, T_isBelow_256, T_isBelow_65536, T_in_1, T_in_2, T_in_3, T_in_4, T_in_5, T_in_8, T_in_11, T_in_16, T_in_30, T_in_63, T_in_255, T_in_65535, T_isIsland, T_isEight, bd_s, nm_s, bI_0, gd_n, gd_01, nI_cl, nI_add, nI_1, m4, Bool.false_eq_true, and_self, true_and, and_true, true_or, or_true, or_self, false_or, or_false, gd_T, not_true_eq_false, not_false_eq_true, ↓reduceIte, h1, h2, T_in_20, m2, T_isPlace w0 w3, h3])
  have hsub : (9999 : Int32) - nI N = nI (9999 - N) := pk_sub (a := 9999) (by omega)
  have E1 : F_X11_tried (nI N) x2 σ = bd (F_X3_trial (nI N) x2 σ) (fun q13 s12 => some (q13, s12)) := by
    simp (disch := omega) only [F_X11_tried, F_X11_tried_0, T_isBelow_2, T_isBelow_3, T_isBelow_4, T_isBelow_6, T_isBelow_8, T_isBelow_9, T_isBelow_10, T_isBelow_12, T_isBelow_16, T_isBelow_17, T_isBelow_31, T_isBelow_64, T_isBelow_256, T_isBelow_65536, T_in_1, T_in_2, T_in_3, T_in_4, T_in_5, T_in_8, T_in_11, T_in_16, T_in_30, T_in_63, T_in_255, T_in_65535, T_isIsland, T_isEight, bd_s, nm_s, bI_0, gd_n, gd_01, nI_cl, nI_add, nI_1, m4, Bool.false_eq_true, and_self, true_and, and_true, true_or, or_true, or_self, false_or, or_false, gd_T, not_true_eq_false, not_false_eq_true, ↓reduceIte, h2, lt_lit, lit_lt, if_neg, T_heart w0 w2, h3, hsub, c9, nI_lep, if_pos]
  refine Both.fr (trA σ W N x2) hn hR ?_ (fun τ hτ f1 => ?_)
  · rw [E1]
    refine wp_bd2 (T_trial hL eqOn.rf w0 w2 (by omega) x2) (fun a τ h => ?_)
    exact wp_some ⟨h.1, h.2.mono (by decide)⟩
  · have w3' : EM 70 0 W τ := f1.EM (by decide) w3
    have m2' : τ.1 69 2 = nI (wHea W) := w3'.2.2.2.2.2.2.2.2.1
    have m4' : τ.1 69 4 = nI (wNig W) := w3'.2.2.2.2.2.2.2.2.2.1
    have E2 : F_X12_tried (nI N) x2 τ = zfix (F_X12_tried_82L (nI N) x2 (τ.1 69 2) (τ.1 69 3) (τ.1 69 4) (τ.1 69 5) (τ.1 69 6)) zlim ((0 : Int32), (0 : Int32), (0 : Int32), τ) := by
      unfold F_X12_tried F_X12_tried_0
      rw [T_in_20, bd_s, bI_t h1, if_neg (by decide), T_in_3, bd_s, bI_t h2, if_neg (by decide), m2', T_isPlace w0 w3', bd_s, bI_t h3, if_neg (by decide), m4', nI_add, if_pos (by rw [le_lit (by omega)]; omega), m2']
    rw [E2]
    refine wp_mono (T_triedM hL (f1.eqOn (by decide)) w0 w3' (by omega) (by omega) x2) (fun a υ h => ⟨h.1, h.2.mono (by decide)⟩)
