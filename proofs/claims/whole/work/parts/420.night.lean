/-! PURE: nights -/
theorem T_isWet {W : zWo} {σ : zSt} (hW : WOK W) (h : EC 1 2 W σ) {p : Nat} (hp : p < 8) : F_X10_isWet (nI p) σ = some (bI ((wWet W).testBit p = true), σ) := by
  have hb : bel (nI p) 8 := bel_t (by omega)
  have e : σ.1 1 7 = nI (wWet W) := h.2.2.2.2.2.2.2.1
  unfold F_X10_isWet F_X10_isWet_0
  rw [T_isBelow_8, bd_s, bI_t hb, if_neg (by decide), e]
  by_cases q : (wWet W).testBit p = true
  · rw [if_pos ((bit_is hW.wet hp).mpr q), bI_t q]
  · rw [if_neg (fun r => q ((bit_is hW.wet hp).mp r)), bI_f q]
def plN (W : zWo) (p : Nat) : Nat → Nat
  | 0 => 0
  | n + 1 => plN W p n + (if wIs W n = true ∧ wWin W n = some p then 1 else 0)
theorem T_placesIn {W : zWo} {σ : zSt} (hW : WOK W) (h : EC 1 2 W σ) {p : Nat} (hp : p < 8) : F_X10_placesIn (nI p) σ = some (nI (plN W p 8), σ) := by
  unfold F_X10_placesIn F_X10_placesIn_0
  refine zfix_run (fun i => (nI (plN W p i), nI i, σ)) 8 (by decide) (fun i w hi => ?_) (fun w => ?_)
  · show F_X10_placesIn_4 (nI p) w (nI (plN W p i)) (nI i) σ = _
    have eT : σ.1 1 6 = nI (wTol W) := h.2.2.2.2.2.2.1
    have e4 : σ.1 4 i = e1 (wWin W i) := h.2.2.1 i hi
    unfold F_X10_placesIn_4 F_X10_placesIn_37 F_X10_placesIn_38
    simp (disch := omega) only [lit_le, if_neg, eT, gd_n, nI_cl, e4, nm_s, nI_1]
    by_cases q : (wTol W).testBit i = true
    · rw [if_pos ((bit_is hW.told hi).mpr q)]
      by_cases r : wWin W i = some p
      · rw [if_pos ((e1_eq (by omega) (win16 hW hi)).mpr r)]
        simp only [plN, wIs_bit hi, q, r, and_self, ↓reduceIte, nI_1]
      · rw [if_neg (fun z => r ((e1_eq (by omega) (win16 hW hi)).mp z))]
        simp only [plN, r, and_false, ↓reduceIte, ← nI_0, nI_add]
    · rw [if_neg (fun z => q ((bit_is hW.told hi).mp z))]
      simp only [plN, wIs_bit hi, q, false_and, ↓reduceIte, ← nI_0, nI_add, Bool.false_eq_true]
  · show F_X10_placesIn_4 (nI p) w _ (nI 8) σ = _
    unfold F_X10_placesIn_4
    simp (disch := omega) only [lit_le, if_pos]
theorem T_nextLevel {W : zWo} {σ : zSt} (hW : WOK W) (h : EM 70 0 W σ) {p : Nat} (hp : p < 8) : F_X12_nextLevel (nI p) σ = some (nI (plN W p 8), σ) := by
  unfold F_X12_nextLevel F_X12_nextLevel_0
  refine zfix_run (fun i => (nI (plN W p i), nI i, σ)) 8 (by decide) (fun i w hi => ?_) (fun w => ?_)
  · show F_X12_nextLevel_4 (nI p) w (nI (plN W p i)) (nI i) σ = _
    have e4 : σ.1 72 i = e2 (wWin W i) := h.2.2.1 i hi
    unfold F_X12_nextLevel_4 F_X12_nextLevel_33 F_X12_nextLevel_34
    rw [T_isPlace hW h, bd_s]
    simp (disch := omega) only [lit_le, if_neg, gd_n, nI_cl, e4, nm_s, nI_1]
    by_cases q : wIs W i = true
    · rw [bI_t ((isT_n (by omega)).mpr q), if_neg (by decide)]
      by_cases r : wWin W i = some p
      · rw [if_pos ((e2_eq (by omega) (win16 hW hi)).mpr r)]
        simp only [plN, q, r, and_self, ↓reduceIte, nI_1]
      · rw [if_neg (fun z => r ((e2_eq (by omega) (win16 hW hi)).mp z))]
        simp only [plN, r, and_false, ↓reduceIte, ← nI_0, nI_add]
    · rw [bI_f (fun z => q ((isT_n (by omega)).mp z)), if_pos rfl]
      simp only [plN, q, false_and, ↓reduceIte, ← nI_0, nI_add, Bool.false_eq_true]
  · show F_X12_nextLevel_4 (nI p) w _ (nI 8) σ = _
    unfold F_X12_nextLevel_4
    simp (disch := omega) only [lit_le, if_pos]
/-- what a law is asked with -/
noncomputable def ltr (W : zWo) (g h d s r : Nat) : Nat → Int32
  | 0 => nI g
  | 1 => nI h
  | 2 => nI (islW W h)
  | 3 => nI d
  | 4 => nI s
  | 5 => bI ((wWet W).testBit h = true)
  | 6 => bI (wLok W h ≠ none)
  | 7 => nI (plN W h 8)
  | _ => nI r
theorem lok16 {W : zWo} (hW : WOK W) {h : Nat} (hh : h < 8) : ∀ k, wLok W h = some k → k < 16 := fun k q => by have := hW.lok h k hh q; omega
theorem lok_c {W : zWo} (hW : WOK W) {h : Nat} (hh : h < 8) : (if e1 (wLok W h) = -1 then (0 : Int32) else 1) = bI (wLok W h ≠ none) := by
  by_cases q : wLok W h = none
  · rw [if_pos ((e1_none (lok16 hW hh)).mpr q), bI_f (fun r => r q)]
  · rw [if_neg (fun r => q ((e1_none (lok16 hW hh)).mp r)), bI_t q]
theorem lok_m {W : zWo} (hW : WOK W) {h : Nat} (hh : h < 8) : (if e2 (wLok W h) < 0 then (0 : Int32) else 1) = bI (wLok W h ≠ none) := by
  by_cases q : wLok W h = none
  · rw [if_pos (i_lt.mpr ((e2_lt (lok16 hW hh)).mpr q)), bI_f (fun r => r q)]
  · rw [if_neg (fun r => q ((e2_lt (lok16 hW hh)).mp (i_lt.mp r))), bI_t q]
theorem t_look {W : zWo} {σ : zSt} (hW : WOK W) (hC : EC 1 2 W σ) {h : Nat} (hh : h < 8) (e : σ.1 24 3 = nI h) : F_X3_look σ = some ((), zwr (zwr (zwr (zwr (zwr (σ) 25 1 (nI h)) 25 2 (nI (islW W h))) 25 5 (bI ((wWet W).testBit h = true))) 25 6 (bI (wLok W h ≠ none))) 25 7 (nI (plN W h 8))) := by
  have hb : bel (nI h) 8 := bel_t (by omega)
  have c1 : EC 1 2 W (zwr (σ) 25 1 (nI h)) := (fr_w (L := [25]) (S := []) (Or.inl (by decide))).EC (by decide) hC
  have c2 : EC 1 2 W (zwr (zwr (σ) 25 1 (nI h)) 25 2 (nI (islW W h))) := (fr_w (L := [25]) (S := []) (Or.inl (by decide))).EC (by decide) c1
  have c3 : EC 1 2 W (zwr (zwr (zwr (σ) 25 1 (nI h)) 25 2 (nI (islW W h))) 25 5 (bI ((wWet W).testBit h = true))) := (fr_w (L := [25]) (S := []) (Or.inl (by decide))).EC (by decide) c2
  have c4 : EC 1 2 W (zwr (zwr (zwr (zwr (σ) 25 1 (nI h)) 25 2 (nI (islW W h))) 25 5 (bI ((wWet W).testBit h = true))) 25 6 (bI (wLok W h ≠ none))) := (fr_w (L := [25]) (S := []) (Or.inl (by decide))).EC (by decide) c3
  have e5 : σ.1 5 h = e1 (wLok W h) := hC.2.2.2.1 h hh
  unfold F_X3_look F_X3_look_0
  simp (disch := omega) only [nm_s, zwr_r, e, Nat.reduceEqDiff, ↓reduceIte, t_islandOf hW c1 hh, T_isWet hW c2 hh, bd_s, bI_id, T_isBelow_8, bI_t hb, d10, gd_n, nI_cl, e5, lok_c hW hh, T_placesIn hW c4 hh]
theorem t_look_l {W : zWo} {σ : zSt} (hW : WOK W) (hC : EC 1 2 W σ) {g h d s r : Nat} (hh : h < 8) (e : σ.1 24 3 = nI h) (e0 : σ.1 25 0 = nI g) (e3 : σ.1 25 3 = nI d) (e4 : σ.1 25 4 = nI s) (e8 : σ.1 25 8 = nI r) : wp (F_X3_look σ) (fun _ τ => fr [25] [] σ τ ∧ ∀ j, j < 9 → τ.1 25 j = ltr W g h d s r j) := by
  refine wp_of (t_look hW hC hh e) ⟨(((((fr.rf (L := [25]) (S := [])).w (Or.inl (by decide))).w (Or.inl (by decide))).w (Or.inl (by decide))).w (Or.inl (by decide))).w (Or.inl (by decide)), fun j hj => ?_⟩
  have q : j = 0 ∨ j = 1 ∨ j = 2 ∨ j = 3 ∨ j = 4 ∨ j = 5 ∨ j = 6 ∨ j = 7 ∨ j = 8 := by omega
  rcases q with rfl | rfl | rfl | rfl | rfl | rfl | rfl | rfl | rfl
  all_goals simp only [zwr_r, upd_r, Nat.reduceEqDiff, ↓reduceIte, ltr, e0, e3, e4, e8]
noncomputable def tor (W : zWo) (v : Int32) (h : Nat) : Nat := @ite _ (isT W v) (Classical.propDecidable _) v.toNatClampNeg h
theorem tor_t {W : zWo} {v : Int32} {h : Nat} (q : isT W v) : nI (tor W v h) = v := by
  unfold tor
  rw [if_pos q]
  obtain ⟨p, hp, hp2, rfl⟩ := isT_of q
  rw [nI_cl (by omega)]
theorem tor_f {W : zWo} {v : Int32} {h : Nat} (q : ¬ isT W v) : tor W v h = h := if_neg q
theorem tor_lt {W : zWo} {v : Int32} {h : Nat} (hh : h < 8) : tor W v h < 8 := by
  by_cases q : isT W v
  · unfold tor
    rw [if_pos q]
    obtain ⟨p, hp, hp2, rfl⟩ := isT_of q
    rw [nI_cl (by omega)]
    exact hp
  · rw [tor_f q]
    exact hh
/-- by the law, asked for κ with lt, v comes out: in both -/
def LA (σ0 : zSt) (κ : Int32) (lt : Nat → Int32) (v : Int32) : Prop :=
  (∀ σ : zSt, eqOn rowsL slotsL σ0 σ → (∀ j, j < 9 → σ.1 25 j = lt j) → ∃ st, F_X1_ask κ σ = some (v, zrow σ 16 st)) ∧
  (∀ (W : zWo) (h : Nat) (σ : zSt), WOK W → EM 70 0 W σ → eqOn rowsL slotsL σ0 σ → (∀ j, j < 9 → σ.1 89 j = lt j) → ∃ st, F_X12_byLaw κ (nI h) σ = some (nI (tor W v h), zrow σ 88 st))
theorem LA_ex {σ0 : zSt} (hL : RLw σ0) (κ : Int32) (lt : Nat → Int32) : ∃ v, LA σ0 κ lt v ∧ (σ0.1 8 8 = 0 → ∀ lt' : Nat → Int32, (∀ j, j < 8 → lt' j = lt j) → LA σ0 κ lt' v) := by
  obtain ⟨n, hn, n1, n2, hask, hc⟩ := hL
  have key : ∀ m k, k + m = n → ∃ v, ∀ lt' : Nat → Int32, (lt' = lt ∨ (σ0.1 8 8 = 0 ∧ ∀ j, j < 8 → lt' j = lt j)) →
      (∀ f (σ : zSt), m < f → eqOn rowsL slotsL σ0 σ → (∀ j, j < 9 → σ.1 25 j = lt' j) → ∃ st, zfix (F_X1_ask_2L κ) f (nI k, σ) = some (v, zrow σ 16 st)) ∧
      (∀ (W : zWo) (h : Nat) f (σ : zSt), m < f → WOK W → EM 70 0 W σ → eqOn rowsL slotsL σ0 σ → (∀ j, j < 9 → σ.1 89 j = lt' j) → ∃ st, zfix (F_X12_byLaw_2L κ (nI h)) f (nI k, σ) = some (nI (tor W v h), zrow σ 88 st)) := by
    intro m
    induction m with
    | zero =>
      intro k hk
      have hk' : k = n := by omega
      subst hk'
      refine ⟨-1, fun lt' _ => ⟨fun f σ hf hs hl => ⟨σ.1 16, ?_⟩, fun W h f σ hf hW hM hs hl => ⟨σ.1 88, ?_⟩⟩⟩
      · obtain ⟨f, rfl⟩ : ∃ q, f = q + 1 := ⟨f - 1, by omega⟩
        show F_X1_ask_2 κ (zfix (F_X1_ask_2L κ) f) (nI k) σ = _
        unfold F_X1_ask_2
        have e : σ.1 8 7 = nI k := (hs.2 (8, 7) (by decide)).trans n1
        rw [e, if_pos (i_le.mpr (Int.le_refl _)), zrow_same]
      · obtain ⟨f, rfl⟩ : ∃ q, f = q + 1 := ⟨f - 1, by omega⟩
        show F_X12_byLaw_2 κ (nI h) (zfix (F_X12_byLaw_2L κ (nI h)) f) (nI k) σ = _
        unfold F_X12_byLaw_2
        have e : σ.1 69 23 = nI k := (hs.2 (69, 23) (by decide)).trans n2
        rw [e, if_pos (i_le.mpr (Int.le_refl _)), zrow_same, tor_f isT_m1]
    | succ m ih =>
      intro k hk
      have hkn : k < n := by omega
      obtain ⟨hkd, hrc⟩ := hc k hkn
      obtain ⟨v1, h1⟩ := ih (k + 1) (by omega)
      obtain ⟨v, w, u, hrow, hvw, hu, hind⟩ := hrc lt
      have R : ∀ lt' : Nat → Int32, (lt' = lt ∨ (σ0.1 8 8 = 0 ∧ ∀ j, j < 8 → lt' j = lt j)) → LRow (σ0.1 9) (σ0.1 10) (σ0.1 83) (σ0.1 13 k) (σ0.1 14 k) (σ0.1 86 k) (σ0.1 87 k) lt' v w ∧ (w = 1 → LRow (σ0.1 9) (σ0.1 10) (σ0.1 83) (σ0.1 12 k) (σ0.1 13 k) (σ0.1 85 k) (σ0.1 86 k) lt' u u) := by
        rintro lt' (rfl | ⟨a, b⟩)
        · exact ⟨hrow, hu⟩
        · exact hind a lt' b
      by_cases hk2 : σ0.1 11 k = κ
      · -- the letter is the one that is asked for
        refine ⟨@ite _ (w = 1) (Classical.propDecidable _) u v1, fun lt' hlt => ⟨fun f σ hf hs hl => ?_, fun W h f σ hf hW hM hs hl => ?_⟩⟩
        · obtain ⟨f, rfl⟩ : ∃ q, f = q + 1 := ⟨f - 1, by omega⟩
          show ∃ st, F_X1_ask_2 κ (zfix (F_X1_ask_2L κ) f) (nI k) σ = _
          obtain ⟨st, hr⟩ := (R lt' hlt).1.1 σ (hs.1 9 (by decide)) (hs.1 10 (by decide)) hl
          have e : σ.1 8 7 = nI n := (hs.2 (8, 7) (by decide)).trans n1
          have e11 : σ.1 11 k = κ := (congrFun (hs.1 11 (by decide)) k).trans hk2
          have e13 : σ.1 13 = σ0.1 13 := hs.1 13 (by decide)
          have e14 : σ.1 14 = σ0.1 14 := hs.1 14 (by decide)
          have e12 : σ.1 12 = σ0.1 12 := hs.1 12 (by decide)
          unfold F_X1_ask_2 F_X1_ask_64 F_X1_ask_46
          simp (disch := omega) only [e, nI_lep, lit_le, if_neg, gd_n, nI_cl, e11, ↓reduceIte, e13, e14, hr, bd_s, nm_s, nI_1, zrow_r, Nat.reduceEqDiff, e12]
          have hs' : eqOn rowsL slotsL σ0 (zrow σ 16 st) := hs.tr (eqOn_row (by decide))
          have hl' : ∀ j, j < 9 → (zrow σ 16 st).1 25 j = lt' j := hl
          by_cases z : w = 1
          · rw [if_neg (hvw.mpr z), if_pos z]
            obtain ⟨st2, hr2⟩ := ((R lt' hlt).2 z).1 (zrow σ 16 st) (hs'.1 9 (by decide)) (hs'.1 10 (by decide)) hl'
            rw [hr2, bd_s, zrow_zrow]
            exact ⟨_, rfl⟩
          · rw [if_pos (Classical.byContradiction (fun q => z (hvw.mp q))), if_neg z]
            obtain ⟨st2, hr2⟩ := (h1 lt' hlt).1 f (zrow σ 16 st) (by omega) hs' hl'
            rw [hr2, zrow_zrow]
            exact ⟨_, rfl⟩
        · obtain ⟨f, rfl⟩ : ∃ q, f = q + 1 := ⟨f - 1, by omega⟩
          show ∃ st, F_X12_byLaw_2 κ (nI h) (zfix (F_X12_byLaw_2L κ (nI h)) f) (nI k) σ = _
          obtain ⟨st, hr⟩ := (R lt' hlt).1.2 σ (hs.1 83 (by decide)) hl
          have e : σ.1 69 23 = nI n := (hs.2 (69, 23) (by decide)).trans n2
          have e11 : σ.1 84 k = κ := (congrFun (hs.1 84 (by decide)) k).trans (hkd.symm.trans hk2)
          have e13 : σ.1 86 = σ0.1 86 := hs.1 86 (by decide)
          have e14 : σ.1 87 = σ0.1 87 := hs.1 87 (by decide)
          have e12 : σ.1 85 = σ0.1 85 := hs.1 85 (by decide)
          unfold F_X12_byLaw_2 F_X12_byLaw_77 F_X12_byLaw_43
          simp (disch := omega) only [e, nI_lep, lit_le, if_neg, gd_n, nI_cl, e11, ↓reduceIte, e13, e14, hr, bd_s, nm_s, nI_1, zrow_r, Nat.reduceEqDiff, e12]
          have hs' : eqOn rowsL slotsL σ0 (zrow σ 88 st) := hs.tr (eqOn_row (by decide))
          have hl' : ∀ j, j < 9 → (zrow σ 88 st).1 89 j = lt' j := hl
          have hM' : EM 70 0 W (zrow σ 88 st) := EM_on (eqOn_row (by decide)) hM
          by_cases z : w = 1
          · rw [if_pos z, if_pos z]
            obtain ⟨st2, hr2⟩ := ((R lt' hlt).2 z).2 (zrow σ 88 st) (hs'.1 83 (by decide)) hl'
            have hM2 : EM 70 0 W (zrow (zrow σ 88 st) 88 st2) := EM_on (eqOn_row (by decide)) hM'
            rw [hr2, bd_s, T_isPlace hW hM2, bd_s, zrow_zrow]
            by_cases y : isT W u
            · rw [bI_t y, if_neg (by decide), tor_t y]
              exact ⟨_, rfl⟩
            · rw [bI_f y, if_pos rfl, tor_f y]
              exact ⟨_, rfl⟩
          · rw [if_neg z, if_neg z]
            obtain ⟨st2, hr2⟩ := (h1 lt' hlt).2 W h f (zrow σ 88 st) (by omega) hW hM' hs' hl'
            rw [hr2, zrow_zrow]
            exact ⟨_, rfl⟩
      · refine ⟨v1, fun lt' hlt => ⟨fun f σ hf hs hl => ?_, fun W h f σ hf hW hM hs hl => ?_⟩⟩
        · obtain ⟨f, rfl⟩ : ∃ q, f = q + 1 := ⟨f - 1, by omega⟩
          show ∃ st, F_X1_ask_2 κ (zfix (F_X1_ask_2L κ) f) (nI k) σ = _
          have e : σ.1 8 7 = nI n := (hs.2 (8, 7) (by decide)).trans n1
          have e11 : σ.1 11 k = σ0.1 11 k := congrFun (hs.1 11 (by decide)) k
          unfold F_X1_ask_2 F_X1_ask_64
          simp (disch := omega) only [e, nI_lep, lit_le, if_neg, gd_n, nI_cl, e11, hk2, ↓reduceIte, nm_s, nI_1]
          exact (h1 lt' hlt).1 f σ (by omega) hs hl
        · obtain ⟨f, rfl⟩ : ∃ q, f = q + 1 := ⟨f - 1, by omega⟩
          show ∃ st, F_X12_byLaw_2 κ (nI h) (zfix (F_X12_byLaw_2L κ (nI h)) f) (nI k) σ = _
          have e : σ.1 69 23 = nI n := (hs.2 (69, 23) (by decide)).trans n2
          have e11 : σ.1 84 k = σ0.1 11 k := (congrFun (hs.1 84 (by decide)) k).trans hkd.symm
          unfold F_X12_byLaw_2 F_X12_byLaw_77
          simp (disch := omega) only [e, nI_lep, lit_le, if_neg, gd_n, nI_cl, e11, hk2, ↓reduceIte, nm_s, nI_1]
          exact (h1 lt' hlt).2 W h f σ (by omega) hW hM hs hl
  obtain ⟨v, hv⟩ := key n 0 (by omega)
  have fin : ∀ lt' : Nat → Int32, (lt' = lt ∨ (σ0.1 8 8 = 0 ∧ ∀ j, j < 8 → lt' j = lt j)) → LA σ0 κ lt' v := fun lt' hlt => ⟨fun σ hs hl => (hv lt' hlt).1 zlim σ (by show n < 1000000; omega) hs hl, fun W h σ hW hM hs hl => (hv lt' hlt).2 W h zlim σ (by show n < 1000000; omega) hW hM hs hl⟩
  exact ⟨v, fin lt (Or.inl rfl), fun a lt' b => fin lt' (Or.inr ⟨a, b⟩)⟩
theorem LA_u {σ0 : zSt} {κ : Int32} {lt : Nat → Int32} {v w : Int32} (h : LA σ0 κ lt v) (g : LA σ0 κ lt w) : v = w := by
  obtain ⟨a, ha⟩ := h.1 (zrow σ0 25 lt) (eqOn_row (by decide)) (fun j _ => congrFun zrow_c j)
  obtain ⟨b, hb⟩ := g.1 (zrow σ0 25 lt) (eqOn_row (by decide)) (fun j _ => congrFun zrow_c j)
  rw [ha] at hb
  exact congrArg Prod.fst (Option.some.inj hb)
noncomputable def lawv (σ0 : zSt) (κ : Int32) (lt : Nat → Int32) : Int32 := @dite _ (RLw σ0) (Classical.propDecidable _) (fun h => Classical.choose (LA_ex h κ lt)) (fun _ => 0)
theorem lawv_ok {σ0 : zSt} (h : RLw σ0) (κ : Int32) (lt : Nat → Int32) : LA σ0 κ lt (lawv σ0 κ lt) ∧ (σ0.1 8 8 = 0 → ∀ lt' : Nat → Int32, (∀ j, j < 8 → lt' j = lt j) → LA σ0 κ lt' (lawv σ0 κ lt)) := by
  unfold lawv
  rw [dif_pos h]
  exact Classical.choose_spec (LA_ex h κ lt)
theorem lawv_draw {σ0 : zSt} (h : RLw σ0) (ha : σ0.1 8 8 = 0) {κ : Int32} {lt lt' : Nat → Int32} (e : ∀ j, j < 8 → lt' j = lt j) : lawv σ0 κ lt' = lawv σ0 κ lt := LA_u (lawv_ok h κ lt').1 ((lawv_ok h κ lt).2 ha lt' e)
/-- a night: where he moves it, what he says -/
noncomputable def mvN (σ0 : zSt) (W : zWo) (g h d s r : Nat) : Nat := tor W (lawv σ0 109 (ltr W g h d s r)) h
noncomputable def syN (σ0 : zSt) (W : zWo) (g h d s r : Nat) : Nat := tor W (lawv σ0 108 (ltr W g h d s r)) h
theorem ltr_r {W : zWo} {g h d s r r' : Nat} : ∀ j, j < 8 → ltr W g h d s r' j = ltr W g h d s r j := by
  intro j hj
  have q : j = 0 ∨ j = 1 ∨ j = 2 ∨ j = 3 ∨ j = 4 ∨ j = 5 ∨ j = 6 ∨ j = 7 := by omega
  rcases q with rfl | rfl | rfl | rfl | rfl | rfl | rfl | rfl <;> rfl
theorem mvN_draw {σ0 : zSt} (hL : RLw σ0) (ha : σ0.1 8 8 = 0) {W : zWo} {g h d s r r' : Nat} : mvN σ0 W g h d s r' = mvN σ0 W g h d s r := by
  unfold mvN
  rw [lawv_draw hL ha ltr_r]
theorem syN_draw {σ0 : zSt} (hL : RLw σ0) (ha : σ0.1 8 8 = 0) {W : zWo} {g h d s r r' : Nat} : syN σ0 W g h d s r' = syN σ0 W g h d s r := by
  unfold syN
  rw [lawv_draw hL ha ltr_r]
theorem mvN_lt {σ0 : zSt} {W : zWo} {g h d s r : Nat} (hh : h < 8) : mvN σ0 W g h d s r < 8 := tor_lt hh
theorem syN_lt {σ0 : zSt} {W : zWo} {g h d s r : Nat} (hh : h < 8) : syN σ0 W g h d s r < 8 := tor_lt hh
theorem t_feels {W : zWo} {σ : zSt} (hW : WOK W) (hM : EM 70 0 W σ) {g h d s r : Nat} (hh : h < 8) : wp (F_X12_feels (nI g) (nI h) (nI d) (nI s) (nI r) σ) (fun _ τ => fr [89] [] σ τ ∧ ∀ j, j < 9 → τ.1 89 j = ltr W g h d s r j) := by
  have c2 : EM 70 0 W (zwr (zwr (σ) 89 0 (nI g)) 89 1 (nI h)) := (((fr.rf (L := [89]) (S := [])).w (Or.inl (by decide))).w (Or.inl (by decide))).EM (by decide) hM
  have c7 : EM 70 0 W (zwr (zwr (zwr (zwr (zwr (zwr (zwr (σ) 89 0 (nI g)) 89 1 (nI h)) 89 2 (nI (islW W h))) 89 3 (nI d)) 89 4 (nI s)) 89 5 (bI ((wWet W).testBit h = true))) 89 6 (bI (wLok W h ≠ none))) := ((((((((fr.rf (L := [89]) (S := [])).w (Or.inl (by decide))).w (Or.inl (by decide))).w (Or.inl (by decide))).w (Or.inl (by decide))).w (Or.inl (by decide))).w (Or.inl (by decide))).w (Or.inl (by decide))).EM (by decide) hM
  have e5 : σ.1 73 h = e2 (wLok W h) := hM.2.2.2.1 h hh
  have e1 : σ.1 69 1 = nI (wWet W) := hM.2.2.2.2.2.2.2.1
  have E : F_X12_feels (nI g) (nI h) (nI d) (nI s) (nI r) σ = some ((), zwr (zwr (zwr (zwr (zwr (zwr (zwr (zwr (zwr (σ) 89 0 (nI g)) 89 1 (nI h)) 89 2 (nI (islW W h))) 89 3 (nI d)) 89 4 (nI s)) 89 5 (bI ((wWet W).testBit h = true))) 89 6 (bI (wLok W h ≠ none))) 89 7 (nI (plN W h 8))) 89 8 (nI r)) := by
    unfold F_X12_feels F_X12_feels_0
    simp (disch := omega) only [nm_s, t_islandBy hW c2 hh, bd_s, zwr_r, Nat.reduceEqDiff, ↓reduceIte, e1, T_has (And.intro hW.wet hh), bI_id, gd_n, nI_cl, e5, lok_m hW hh, T_nextLevel hW c7 hh]
  refine wp_of E ⟨(((((((((fr.rf (L := [89]) (S := [])).w (Or.inl (by decide))).w (Or.inl (by decide))).w (Or.inl (by decide))).w (Or.inl (by decide))).w (Or.inl (by decide))).w (Or.inl (by decide))).w (Or.inl (by decide))).w (Or.inl (by decide))).w (Or.inl (by decide)), fun j hj => ?_⟩
  have q : j = 0 ∨ j = 1 ∨ j = 2 ∨ j = 3 ∨ j = 4 ∨ j = 5 ∨ j = 6 ∨ j = 7 ∨ j = 8 := by omega
  rcases q with rfl | rfl | rfl | rfl | rfl | rfl | rfl | rfl | rfl
  all_goals simp only [zwr_r, upd_r, Nat.reduceEqDiff, ↓reduceIte, ltr]
theorem T_movesTo {W : zWo} {σ0 σ : zSt} (hL : RLw σ0) (hs : eqOn rowsL slotsL σ0 σ) (hW : WOK W) (hM : EM 70 0 W σ) {g h d s r : Nat} (hh : h < 8) : wp (F_X12_movesTo (nI g) (nI h) (nI d) (nI s) (nI r) σ) (fun a τ => a = nI (mvN σ0 W g h d s r) ∧ fr [88, 89] [] σ τ) := by
  unfold F_X12_movesTo F_X12_movesTo_0
  refine wp_bd2 (t_feels hW hM hh) (fun _ τ hτ => ?_)
  obtain ⟨st, e⟩ := (lawv_ok hL 109 (ltr W g h d s r)).1.2 W h τ hW (hτ.1.EM (by decide) hM) (hs.tr (hτ.1.eqOn (by decide))) hτ.2
  rw [e, bd_s]
  exact wp_some ⟨rfl, (hτ.1.mono (by decide)).z (by decide)⟩
theorem T_saysOf {W : zWo} {σ0 σ : zSt} (hL : RLw σ0) (hs : eqOn rowsL slotsL σ0 σ) (hW : WOK W) (hM : EM 70 0 W σ) {g h d s r : Nat} (hh : h < 8) : wp (F_X12_saysOf (nI g) (nI h) (nI d) (nI s) (nI r) σ) (fun a τ => a = nI (syN σ0 W g h d s r) ∧ fr [88, 89] [] σ τ) := by
  unfold F_X12_saysOf F_X12_saysOf_0
  refine wp_bd2 (t_feels hW hM hh) (fun _ τ hτ => ?_)
  obtain ⟨st, e⟩ := (lawv_ok hL 108 (ltr W g h d s r)).1.2 W h τ hW (hτ.1.EM (by decide) hM) (hs.tr (hτ.1.eqOn (by decide))) hτ.2
  rw [e, bd_s]
  exact wp_some ⟨rfl, (hτ.1.mono (by decide)).z (by decide)⟩
theorem t_pass81 {W : zWo} {σ0 σ : zSt} (hL : RLw σ0) (hs : eqOn rowsL slotsL σ0 σ) (hW : WOK W) (hC : EC 1 2 W σ) {g h d s r : Nat} (hh : h < 8) (e3 : σ.1 24 3 = nI h) (e4 : σ.1 24 4 = nI g) (hl : ∀ j, j < 9 → σ.1 25 j = ltr W g h d s r j) : wp (F_X3_passFrom_81 σ) (fun _ τ => fr [16, 24, 25] [] σ τ ∧ τ.1 24 3 = nI h ∧ τ.1 24 4 = nI (g + 1) ∧ τ.1 24 5 = nI (syN σ0 W g h d s r) ∧ τ.1 24 6 = σ.1 24 6) := by
  unfold F_X3_passFrom_81
  obtain ⟨st, e⟩ := (lawv_ok hL 108 (ltr W g h d s r)).1.1 σ hs hl
  have hC' : EC 1 2 W (zrow σ 16 st) := EC_on (eqOn_row (by decide)) hC
  rw [e, bd_s, T_isTold hW hC', bd_s]
  have v : (if bI (isT W (lawv σ0 108 (ltr W g h d s r))) = 0 then (zrow σ 16 st).1 24 3 else lawv σ0 108 (ltr W g h d s r)) = nI (syN σ0 W g h d s r) := by
    unfold syN
    by_cases q : isT W (lawv σ0 108 (ltr W g h d s r))
    · rw [bI_t q, if_neg (by decide), tor_t q]
    · rw [bI_f q, if_pos rfl, tor_f q]
      exact e3
  simp only [nm_s, v]
  refine wp_some ⟨((fr_z (by decide)).w (Or.inl (by decide))).w (Or.inl (by decide)), ?_, ?_, ?_, ?_⟩
  all_goals simp only [zwr_r, zrow_r, upd_r, Nat.reduceEqDiff, ↓reduceIte, e3, e4, nI_1]
theorem T_passFrom {W : zWo} {σ0 σ : zSt} (hL : RLw σ0) (hs : eqOn rowsL slotsL σ0 σ) (hW : WOK W) (hC : EC 1 2 W σ) {g h d s r : Nat} (hh : h < 8) (e4 : σ.1 24 4 = nI g) (e5 : σ.1 24 5 = nI s) : wp (F_X3_passFrom (nI h) (nI d) (nI r) σ) (fun _ τ => fr [16, 24, 25] [] σ τ ∧ τ.1 24 3 = nI (mvN σ0 W g h d s r) ∧ τ.1 24 4 = nI (g + 1) ∧ τ.1 24 5 = nI (syN σ0 W g (mvN σ0 W g h d s r) d s r) ∧ τ.1 24 6 = σ.1 24 6) := by
  unfold F_X3_passFrom F_X3_passFrom_0
  simp only [nm_s, zwr_r, upd_r, Nat.reduceEqDiff, ↓reduceIte, e4, e5]
  have f1 : fr [16, 24, 25] [] σ (zwr (zwr (zwr (zwr (zwr σ 24 3 (nI h)) 25 0 (nI g)) 25 3 (nI d)) 25 4 (nI s)) 25 8 (nI r)) := (((((fr.rf.w (Or.inl (by decide))).w (Or.inl (by decide))).w (Or.inl (by decide))).w (Or.inl (by decide))).w (Or.inl (by decide)))
  have c1 := f1.EC (by decide) hC
  refine wp_bd2 (t_look_l (g := g) (h := h) (d := d) (s := s) (r := r) hW c1 hh ?_ ?_ ?_ ?_ ?_) (fun _ τ hτ => ?_)
  · simp only [zwr_r, upd_r, Nat.reduceEqDiff, ↓reduceIte]
  · simp only [zwr_r, upd_r, Nat.reduceEqDiff, ↓reduceIte]
  · simp only [zwr_r, upd_r, Nat.reduceEqDiff, ↓reduceIte]
  · simp only [zwr_r, upd_r, Nat.reduceEqDiff, ↓reduceIte]
  · simp only [zwr_r, upd_r, Nat.reduceEqDiff, ↓reduceIte]
  obtain ⟨g1, g2⟩ := hτ
  have f2 : fr [16, 24, 25] [] σ τ := f1.tr (g1.mono (by decide))
  obtain ⟨st, e⟩ := (lawv_ok hL 109 (ltr W g h d s r)).1.1 τ (hs.tr (f2.eqOn (by decide))) g2
  have f3 : fr [16, 24, 25] [] σ (zrow τ 16 st) := f2.z (by decide)
  have c3 := f3.EC (by decide) hC
  have t3 : τ.1 24 3 = nI h := by
    rw [g1.rd (by decide) (by decide)]
    simp only [zwr_r, upd_r, Nat.reduceEqDiff, ↓reduceIte]
  have t4 : τ.1 24 4 = nI g := by
    rw [g1.rd (by decide) (by decide)]
    simp only [zwr_r, upd_r, Nat.reduceEqDiff, ↓reduceIte, e4]
  have t6 : τ.1 24 6 = σ.1 24 6 := by
    rw [g1.rd (by decide) (by decide)]
    simp only [zwr_r, upd_r, Nat.reduceEqDiff, ↓reduceIte]
  rw [e, bd_s, T_isTold hW c3, bd_s]
  by_cases q : isT W (lawv σ0 109 (ltr W g h d s r))
  · rw [bI_t q, if_neg (by decide)]
    have hm : nI (mvN σ0 W g h d s r) = lawv σ0 109 (ltr W g h d s r) := tor_t q
    have hm8 : mvN σ0 W g h d s r < 8 := tor_lt hh
    rw [← hm]
    have f4 : fr [16, 24, 25] [] σ (zwr (zrow τ 16 st) 24 3 (nI (mvN σ0 W g h d s r))) := f3.w (Or.inl (by decide))
    refine wp_bd2 (t_look_l (g := g) (h := mvN σ0 W g h d s r) (d := d) (s := s) (r := r) hW (f4.EC (by decide) hC) hm8 ?_ ?_ ?_ ?_ ?_) (fun _ υ hυ => ?_)
    · simp only [zwr_r, upd_r, Nat.reduceEqDiff, ↓reduceIte]
    · exact g2 0 (by decide)
    · exact g2 3 (by decide)
    · exact g2 4 (by decide)
    · exact g2 8 (by decide)
    obtain ⟨k1, k2⟩ := hυ
    have f5 : fr [16, 24, 25] [] σ υ := f4.tr (k1.mono (by decide))
    have u3 : υ.1 24 3 = nI (mvN σ0 W g h d s r) := by
      rw [k1.rd (by decide) (by decide)]
      simp only [zwr_r, upd_r, Nat.reduceEqDiff, ↓reduceIte]
    have u4 : υ.1 24 4 = nI g := by
      rw [k1.rd (by decide) (by decide)]
      exact t4
    have u6 : υ.1 24 6 = σ.1 24 6 := by
      rw [k1.rd (by decide) (by decide)]
      exact t6
    refine wp_mono (t_pass81 hL (hs.tr (f5.eqOn (by decide))) hW (f5.EC (by decide) hC) hm8 u3 u4 k2) (fun _ ω h => ?_)
    obtain ⟨a1, a2, a3, a4, a5⟩ := h
    exact ⟨f5.tr a1, a2, a3, a4, a5.trans u6⟩
  · rw [bI_f q, if_pos rfl]
    have hm : mvN σ0 W g h d s r = h := tor_f q
    rw [hm]
    refine wp_mono (t_pass81 (g := g) (h := h) (d := d) (s := s) (r := r) hL (hs.tr (f3.eqOn (by decide))) hW c3 hh t3 t4 g2) (fun _ ω h => ?_)
    obtain ⟨a1, a2, a3, a4, a5⟩ := h
    exact ⟨f3.tr a1, a2, a3, a4, a5.trans t6⟩
