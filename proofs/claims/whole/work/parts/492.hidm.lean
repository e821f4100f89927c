/-! PURE: rows of KEYS, reference -/
/-- who hides, on the reference's cells -/
def HM (m : Nat) (H P : Nat → Nat) (σ : zSt) : Prop := σ.1 69 53 = nI m ∧ ∀ i, i < m → σ.1 96 i = nI (H i) ∧ σ.1 97 i = nI (P i)
theorem HM_fr {m : Nat} {H P : Nat → Nat} {σ τ : zSt} {L : List Nat} {S : List (Nat × Nat)} (h : HM m H P σ) (f : fr L S σ τ) (d : ([96, 97].all (fun c => !L.contains c && S.all (fun q => q.1 != c)) && [(69, 53)].all (fun q => !L.contains q.1 && !S.contains q)) = true) : HM m H P τ := by
  have g : eqOn [96, 97] [(69, 53)] σ τ := f.eqOn d
  refine ⟨(g.2 (69, 53) (by decide)).trans h.1, fun i hi => ?_⟩
  rw [g.1 96 (by decide), g.1 97 (by decide)]
  exact h.2 i hi
theorem snM_lt {m c : Nat} (hm : 0 < m ∧ m < 5) : ∀ j, snM m c j < 256 := by
  intro j
  induction j with
  | zero => exact (by decide : (0 : Nat) < 256)
  | succ j ih =>
    unfold snM
    have r : rM m c (m - 1 - j) < m := rM_lt hm.1
    exact or_lt ih (pow_lt8 (by omega))
theorem fdM_f {m c : Nat} {j : Nat} (h : fdM m c j = false) : ∀ n, fdM m c (j + n) = false := by
  intro n
  induction n with
  | zero => exact h
  | succ n ih =>
    show (fdM m c (j + n) && _) = false
    rw [ih, Bool.false_and]
theorem dm_i : ∀ m, m < 5 → 1 ≤ m → (∀ j, j < m → (nI m - 1) - nI j = nI (m - 1 - j) ∧ ((nI m - 1) - nI j) + (-1) = (nI m - 1) - nI (j + 1)) ∧ (nI m - 1) - nI m < 0 := by decide +kernel
theorem pw_e {m j : Nat} (h : j < m) : m - 1 - (m - 1 - j) = j := by omega
theorem T_readsRow {m c : Nat} (hm : 1 ≤ m ∧ m < 5) (hc : c < 65536) {σ : zSt} (h : σ.1 69 53 = nI m) : wp (F_X12_readsRow (nI c) σ) (fun a τ => fr [98] [] σ τ ∧ a = bI (okM m c = true) ∧ (okM m c = true → ∀ i, i < m → τ.1 98 i = nI (rM m c i))) := by
  unfold F_X12_readsRow F_X12_readsRow_0
  rw [h, nm_s]
  have mz : ¬ nI m = 0 := by
    rw [nI_e0 (by omega)]
    omega
  obtain ⟨dm1, dm2⟩ := dm_i m hm.2 hm.1
  refine wp_for (fun j s => s.1 = nI (c / m ^ j) ∧ s.2.1 = nI (snM m c j) ∧ s.2.2.1 = (nI m - 1) - nI j ∧ fr [98] [] σ s.2.2.2 ∧ fdM m c j = true ∧ ∀ i, m - j ≤ i → i < m → s.2.2.2.1 98 i = nI (rM m c i)) m (by omega) (fun j w s hj hI hw => ?_) (fun w s hI => ?_) ⟨?_, rfl, ?_, fr.rf, rfl, fun i h1 h2 => absurd h1 (by omega)⟩
  · obtain ⟨x, y, z, τ⟩ := s
    obtain ⟨i1, i2, i3, i4, i5, i6⟩ := hI
    simp only at i1 i2 i3 i4 i6
    subst i1 i2 i3
    obtain ⟨e1', e2'⟩ := dm1 j hj
    have eτ : τ.1 69 53 = nI m := (i4.rd0 (by decide)).trans h
    have sl := snM_lt (c := c) (show 0 < m ∧ m < 5 by omega) j
    have rl : rM m c (m - 1 - j) < m := rM_lt (by omega)
    have re : rM m c (m - 1 - j) = c / m ^ j % m := by
      unfold rM
      rw [pw_e hj]
    have cl : c / m ^ j < 2147483648 := by
      have := Nat.div_le_self c (m ^ j)
      omega
    show wp (F_X12_readsRow_12 w (nI (c / m ^ j)) (nI (snM m c j)) ((nI m - 1) - nI j) τ) _
    unfold F_X12_readsRow_12
    rw [eτ, e2', e1', if_neg (by rw [show (0 : Int32) = nI 0 from rfl, nI_ltp (by omega)]; omega), gd_t mz, gd_n (by omega), nI_cl (by omega), nI_mod (by omega), ← re, nm_s, zwr_n (by decide), eτ, gd_t mz, pk_div cl (by omega) (by omega), nm_s, gd_n (by omega), zwr_at, T_has (And.intro sl (by omega)), bd_s]
    have ed : c / m ^ j / m = c / m ^ (j + 1) := by rw [Nat.div_div_eq_div_mul, Nat.pow_succ]
    by_cases q : (snM m c j).testBit (rM m c (m - 1 - j)) = true
    · rw [bI_t q, if_neg (show ¬ (1 : Int32) = 0 by decide)]
      have f0 : fdM m c (j + 1) = false := by
        show (fdM m c j && !(snM m c j).testBit (rM m c (m - 1 - j))) = false
        rw [q, i5]
        rfl
      have nq : ¬ okM m c = true := by
        have := fdM_f f0 (m - (j + 1))
        rw [show j + 1 + (m - (j + 1)) = m by omega] at this
        unfold okM
        rw [this]
        decide
      exact wp_some ⟨i4.w (Or.inl (by decide)), (bI_f nq).symm, fun z => absurd z nq⟩
    · rw [bI_f q, if_pos rfl, gd_n (by omega), zwr_at, bit_1 _ (by omega), nI_or, nm_s, nm_s, ed]
      refine hw _ ⟨rfl, rfl, rfl, i4.w (Or.inl (by decide)), ?_, fun i h1 h2 => ?_⟩
      · show (fdM m c j && !(snM m c j).testBit (rM m c (m - 1 - j))) = true
        rw [i5, Bool.eq_false_iff.mpr q]
        rfl
      · show (zwr τ 98 (m - 1 - j) _).1 98 i = _
        by_cases z : i = m - 1 - j
        · rw [z, zwr_at]
        · rw [zwr_ne (Or.inr z)]
          exact i6 i (by omega) h2
  · obtain ⟨x, y, z, τ⟩ := s
    obtain ⟨i1, i2, i3, i4, i5, i6⟩ := hI
    simp only at i1 i2 i3 i4 i6
    subst i1 i2 i3
    show wp (F_X12_readsRow_12 w _ _ ((nI m - 1) - nI m) τ) _
    unfold F_X12_readsRow_12
    rw [if_pos dm2]
    exact wp_some ⟨i4, (bI_t (p := okM m c = true) i5).symm, fun _ i hi => i6 i (by omega) hi⟩
  · rw [Nat.pow_zero, Nat.div_one]
  · show nI m - 1 = (nI m - 1) - nI 0
    rw [show nI 0 = (0 : Int32) from rfl]
    exact (Int32.sub_zero _).symm
theorem T_hides {W : zWo} {m : Nat} {H P r : Nat → Nat} {κ : Nat → Option Nat} (hD : HD W m H P) (hr : ∀ i, i < m → r i < m) {σ : zSt} (hM : EM 70 0 (putW W κ) σ) (hH : HM m H P σ) (h98 : ∀ i, i < m → σ.1 98 i = nI (r i)) : wp (F_X12_hides σ) (fun _ τ => fr [75] [] σ τ ∧ EM 70 0 (putW W (kr H P r κ m)) τ) := by
  obtain ⟨d1, d2, d3⟩ := id hD
  unfold F_X12_hides F_X12_hides_0
  refine wp_for (fun i s => s.1 = nI i ∧ fr [75] [] σ s.2 ∧ EM 70 0 (putW W (kr H P r κ i)) s.2) m (by omega) (fun i w s hi hI hw => ?_) (fun w s hI => ?_) ⟨rfl, fr.rf, by exact hM⟩
  · obtain ⟨x, τ⟩ := s
    obtain ⟨i1, i2, i3⟩ := hI
    simp only at i1 i2 i3
    subst i1
    have hHτ := HM_fr hH i2 (by decide)
    have e98 : τ.1 98 i = nI (r i) := (i2.rd0 (by decide)).trans (h98 i hi)
    have hri := hr i hi
    obtain ⟨a1, a2⟩ := hHτ.2 i hi
    have hHi := (d3 i hi).1
    show wp (F_X12_hides_2 w (nI i) τ) _
    unfold F_X12_hides_2
    rw [hHτ.1, if_neg (by rw [nI_lep (by omega)]; omega), gd_n (by omega), gd_n (by omega), nI_cl (by omega), e98, gd_n (by omega), a1, gd_n (by omega), nI_cl (by omega), nI_cl (by omega), (hHτ.2 _ hri).2, nm_s, nm_s, nI_1]
    exact hw _ ⟨rfl, i2.w (Or.inl (by decide)), EM_setK (p := H i) (o := some (P (r i))) i3⟩
  · obtain ⟨x, τ⟩ := s
    obtain ⟨i1, i2, i3⟩ := hI
    simp only at i1 i2 i3
    subst i1
    have hHτ := HM_fr hH i2 (by decide)
    show wp (F_X12_hides_2 w (nI m) τ) _
    unfold F_X12_hides_2
    rw [hHτ.1, if_pos (by rw [nI_lep (by omega)]; omega)]
    exact wp_some ⟨i2, i3⟩
theorem T_comesBack {W : zWo} {m : Nat} {H P : Nat → Nat} {κ : Nat → Option Nat} (hD : HD W m H P) {σ : zSt} (hM : EM 70 0 (putW W κ) σ) (hH : HM m H P σ) (hO : Off W m H κ) : wp (F_X12_comesBack σ) (fun _ τ => fr [75] [] σ τ ∧ EM 70 0 W τ) := by
  obtain ⟨d1, d2, d3⟩ := id hD
  unfold F_X12_comesBack F_X12_comesBack_0
  refine wp_for (fun i s => s.1 = nI i ∧ fr [75] [] σ s.2 ∧ EM 70 0 (putW W (kr H P (fun j => j) κ i)) s.2) m (by omega) (fun i w s hi hI hw => ?_) (fun w s hI => ?_) ⟨rfl, fr.rf, by exact hM⟩
  · obtain ⟨x, τ⟩ := s
    obtain ⟨i1, i2, i3⟩ := hI
    simp only at i1 i2 i3
    subst i1
    have hHτ := HM_fr hH i2 (by decide)
    obtain ⟨a1, a2⟩ := hHτ.2 i hi
    have hHi := (d3 i hi).1
    show wp (F_X12_comesBack_2 w (nI i) τ) _
    unfold F_X12_comesBack_2
    rw [hHτ.1, if_neg (by rw [nI_lep (by omega)]; omega), gd_n (by omega), gd_n (by omega), nI_cl (by omega), a1, gd_n (by omega), nI_cl (by omega), a2, nm_s, nm_s, nI_1]
    exact hw _ ⟨rfl, i2.w (Or.inl (by decide)), EM_setK (p := H i) (o := some (P i)) i3⟩
  · obtain ⟨x, τ⟩ := s
    obtain ⟨i1, i2, i3⟩ := hI
    simp only at i1 i2 i3
    subst i1
    have hHτ := HM_fr hH i2 (by decide)
    show wp (F_X12_comesBack_2 w (nI m) τ) _
    unfold F_X12_comesBack_2
    rw [hHτ.1, if_pos (by rw [nI_lep (by omega)]; omega)]
    rw [kr_off hO, kr_id hD m (Nat.le_refl m), putW_id] at i3
    exact wp_some ⟨i2, i3⟩
/-- the best so far, as the reference keeps it -/
def MR (m : Nat) (b : Option (Nat × Nat)) (x5 x6 : Int32) : Prop := match b with
  | none => x5 = -1 ∧ x6 = -1
  | some (d, c) => ∃ x, x < m ^ m ∧ okM m x = true ∧ c = cvt m x ∧ x5 = nI x ∧ x6 = nI d ∧ d < 200000
def LH12 : List Nat := [75, 92, 93, 94, 95, 98]
def SH12 : List (Nat × Nat) := [(69, 49)]
theorem T_hidL {W : zWo} (hW : WOK W) {m : Nat} {H P : Nat → Nat} (hD : HD W m H P) {σ : zSt} (hT : ∀ κ, WOK (putW W κ) → ∃ T, OKT (putW W κ) 1 T 0) (hH : HM m H P σ) (hM : EM 70 0 W σ) {x2 : Int32} {Q : Int32 → zSt → Prop} (g : ∀ x5 x6 τ, fr LH12 SH12 σ τ → HM m H P τ → EM 70 0 W τ → MR m (fM (fun c => dyO (rowW W m H P c)) m (m ^ m)) x5 x6 → wp (F_X12_hidden_271 x2 x5 x6 τ) Q) : wp (zfix (F_X12_hidden_197L x2 (nI (m ^ m))) zlim (-1, -1, 0, σ)) Q := by
  obtain ⟨d1, d2, d3⟩ := id hD
  have m256 : m ^ m ≤ 256 := (by decide : ∀ m, m < 5 → m ^ m ≤ 256) m d2
  refine wp_for (fun c s => s.2.2.1 = nI c ∧ fr LH12 SH12 σ s.2.2.2 ∧ HM m H P s.2.2.2 ∧ EM 70 0 W s.2.2.2 ∧ MR m (fM (fun c => dyO (rowW W m H P c)) m c) s.1 s.2.1) (m ^ m) (by omega) (fun c w s hc hI hw => ?_) (fun w s hI => ?_) ⟨rfl, fr.rf, hH, hM, rfl, rfl⟩
  · obtain ⟨x5, x6, y, τ⟩ := s
    obtain ⟨i1, i2, i3, i4, i5⟩ := hI
    simp only at i1 i2 i3 i4 i5
    subst i1
    show wp (F_X12_hidden_197 x2 (nI (m ^ m)) w x5 x6 (nI c) τ) Q
    unfold F_X12_hidden_197 F_X12_hidden_265
    rw [if_neg (by rw [nI_lep (by omega)]; omega)]
    refine wp_bd2 (T_readsRow (show 1 ≤ m ∧ m < 5 by omega) (by omega) i3.1) (fun a υ hυ => ?_)
    obtain ⟨f1, rfl, u1⟩ := hυ
    have hHυ := HM_fr i3 f1 (by decide)
    have hMυ : EM 70 0 W υ := f1.EM (by decide) i4
    have f1' : fr LH12 SH12 σ υ := i2.tr (f1.mono (by decide))
    by_cases q : okM m c = true
    rotate_left
    · rw [bI_f q, if_pos rfl, nm_s, nI_1]
      refine hw _ ⟨rfl, f1', hHυ, hMυ, ?_⟩
      rw [fM_s, if_neg q]
      exact i5
    obtain ⟨cv1, cv2⟩ := cv_ok m d2 d1 c hc
    have rr := cv_row m d2 d1 c hc
    have rl : ∀ i, i < m → rM m c i < m := fun i _ => rM_lt (by omega)
    have rl' : ∀ i, i < m → rC m (cvt m c) i < m := fun i hi => by rw [rr i hi]; exact rl i hi
    have ew : putW W (kr H P (rM m c) (wKey W) m) = rowW W m H P (cvt m c) := by
      unfold rowW
      rw [kr_r m (fun j hj => (rr j hj).symm)]
    have w0' : WOK (rowW W m H P (cvt m c)) := rowW_ok hW hD rl'
    rw [bI_t q, if_neg (show ¬ (1 : Int32) = 0 by decide)]
    refine wp_bd2 (T_hides (κ := wKey W) hD rl hMυ hHυ (u1 q)) (fun _ ω hω => ?_)
    obtain ⟨f2, hMω⟩ := hω
    rw [ew] at hMω
    have hHω := HM_fr hHυ f2 (by decide)
    have S := T_solves (m := 0) w0' (by decide) hMω
    rw [show nI 0 = (0 : Int32) from rfl] at S
    refine wp_bd2 S (fun v κ' hκ => ?_)
    obtain ⟨f3, hPκ, U, -, hU, rfl⟩ := hκ
    have hHκ := HM_fr hHω f3 (by decide)
    have oo : Off W m H (kr H P (rC m (cvt m c)) (wKey W) m) := Off_kr (fun k => Or.inl rfl) m (Nat.le_refl m)
    refine wp_bd2 (T_comesBack hD hPκ.1 hHκ oo) (fun _ ρ hρ => ?_)
    obtain ⟨f4, hMρ⟩ := hρ
    have hHρ := HM_fr hHκ f4 (by decide)
    have ff : fr LH12 SH12 σ ρ := ((f1'.tr (f2.mono (by decide))).tr (f3.mono (by decide))).tr (f4.mono (by decide))
    obtain ⟨T, hT'⟩ := hT _ w0'
    replace hT' : OKT (rowW W m H P (cvt m c)) 1 T 0 := hT'
    obtain ⟨dq1, dq2⟩ := days_eq hT' hU
    have limT := T_lim hT' (O := 0) (B := 0) (i := 0) (by decide) (by decide) (by decide)
    have limU := T_lim hU (O := 0) (B := 0) (i := 0) (by decide) (by decide) (by decide)
    rw [show cod 0 0 0 = 0 from rfl] at limT limU
    by_cases z : U 0 = 1000000000
    · rw [if_pos (by rw [z]; rfl), nm_s, nI_1]
      refine hw _ ⟨rfl, ff, hHρ, hMρ, ?_⟩
      rw [fM_s, if_pos q]
      rw [stRw_n (show (fun c => dyO (rowW W m H P c)) (cvt m c) = none from dyO_f hT' (dq1.mpr z))]
      exact i5
    have zT : T 0 ≠ 1000000000 := fun y => z (dq1.mp y)
    have dy := dyO_t hT' zT
    have ed := dq2 (by omega)
    have dl : U 0 / 1024 < 200000 := by omega
    rw [if_neg (by rw [show (1000000000 : Int32) = nI 1000000000 from rfl, nI_eqp (by omega)]; exact z), show (1024 : Int32) = nI 1024 from rfl, pk_div (by omega) (by decide) (by decide)]
    have better : (∀ b, fM (fun c => dyO (rowW W m H P c)) m c = some b → b.1 < T 0 / 1024) → MR m (fM (fun c => dyO (rowW W m H P c)) m (c + 1)) (nI c) (nI (U 0 / 1024)) := by
      intro hb
      rw [fM_s, if_pos q]
      have st : stRw (fun c => dyO (rowW W m H P c)) (fM (fun c => dyO (rowW W m H P c)) m c) (cvt m c) = some (U 0 / 1024, cvt m c) := by
        unfold stRw
        simp only [dy]
        cases k : fM (fun c => dyO (rowW W m H P c)) m c with
        | none => rw [← ed]
        | some b =>
          show (if b.1 < T 0 / 1024 then some (T 0 / 1024, cvt m c) else some b) = _
          rw [if_pos (hb b k), ← ed]
      rw [st]
      exact ⟨c, hc, q, rfl, rfl, rfl, dl⟩
    cases k : fM (fun c => dyO (rowW W m H P c)) m c with
    | none =>
      rw [k] at i5
      rw [i5.2, if_pos (by rw [i_lt, i_nI (by omega), show (-1 : Int32).toInt = -1 from rfl]; omega), nm_s, nm_s, nI_1]
      exact hw _ ⟨rfl, ff, hHρ, hMρ, better (fun b hb => by rw [k] at hb; cases hb)⟩
    | some b =>
      obtain ⟨d, c0⟩ := b
      rw [k] at i5
      obtain ⟨x, b1, b2, b3, b4, b5, b6⟩ := id i5
      by_cases lt : d < T 0 / 1024
      · rw [b5, if_pos (by rw [nI_ltp (by omega)]; omega), nm_s, nm_s, nI_1]
        exact hw _ ⟨rfl, ff, hHρ, hMρ, better (fun b hb => by rw [k] at hb; cases hb; exact lt)⟩
      · rw [if_neg (by rw [b5, nI_ltp (by omega)]; omega), nm_s, nI_1]
        refine hw _ ⟨rfl, ff, hHρ, hMρ, ?_⟩
        rw [fM_s, if_pos q]
        unfold stRw
        simp only [dy, k]
        rw [if_neg lt]
        exact i5
  · obtain ⟨x5, x6, y, τ⟩ := s
    obtain ⟨i1, i2, i3, i4, i5⟩ := hI
    simp only at i1 i2 i3 i4 i5
    subst i1
    show wp (F_X12_hidden_197 x2 (nI (m ^ m)) w x5 x6 (nI (m ^ m)) τ) Q
    unfold F_X12_hidden_197
    rw [if_pos (by rw [nI_lep (by omega)]; omega)]
    exact g x5 x6 τ i2 i3 i4 i5
