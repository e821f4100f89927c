/-! PURE: rows of KEYS, class -/
theorem tkC_lt {m c : Nat} : ∀ i, tkC m c i < 16 := by
  intro i
  induction i with
  | zero => exact (by decide : (0 : Nat) < 16)
  | succ i ih =>
    unfold tkC
    have r4 : rC m c i < 4 := Nat.mod_lt _ (by decide)
    have p : 2 ^ rC m c i < 2 ^ 4 := Nat.pow_lt_pow_right (by decide) r4
    exact Nat.or_lt_two_pow (n := 4) ih p
theorem tk_s {m c i : Nat} (r4 : rC m c i < 4) : nI (tkC m c i) ||| ((1 : Int32) <<< (nI (rC m c i) &&& 31)) = nI (tkC m c (i + 1)) := by
  rw [bit_1 _ (by omega), nI_or]
  rfl
/-- who hides, on the class's cells -/
def HC (m : Nat) (H P : Nat → Nat) (σ : zSt) : Prop := σ.1 47 13 = nI m ∧ ∀ i, i < m → σ.1 53 i = nI (H i) ∧ σ.1 54 i = nI (P i)
theorem HC_fr {m : Nat} {H P : Nat → Nat} {σ τ : zSt} {L : List Nat} {S : List (Nat × Nat)} (h : HC m H P σ) (f : fr L S σ τ) (d : ([53, 54].all (fun c => !L.contains c && S.all (fun q => q.1 != c)) && [(47, 13)].all (fun q => !L.contains q.1 && !S.contains q)) = true) : HC m H P τ := by
  have g : eqOn [53, 54] [(47, 13)] σ τ := f.eqOn d
  refine ⟨(g.2 (47, 13) (by decide)).trans h.1, fun i hi => ?_⟩
  rw [g.1 53 (by decide), g.1 54 (by decide)]
  exact h.2 i hi
theorem T_takeRow {W : zWo} (hW : WOK W) {m c : Nat} {H P : Nat → Nat} {κ : Nat → Option Nat} (hD : HD W m H P) (hc : c < 4 ^ m) {σ : zSt} (hH : HC m H P σ) (hO : Off W m H κ) (hk : ∀ j k, j < 8 → κ j = some k → wIs W k = true ∨ (8 ≤ k ∧ k ≤ 10)) (hS : SK (putW W κ) σ) : wp (F_X4_takeRow (nI c) σ) (fun a τ => fr [21, 22, 55] [] σ τ ∧ a = bI (okC m c = true) ∧ (∀ i, i < m → τ.1 55 i = nI (rC m c i)) ∧ (okC m c = true → SK (rowW W m H P c) τ) ∧ (¬ okC m c = true → SK (putW W κ) τ)) := by
  obtain ⟨d1, d2, d3⟩ := id hD
  have c256 : c < 256 := by
    have : 4 ^ m ≤ 4 ^ 4 := Nat.pow_le_pow_right (by decide) (by omega)
    omega
  have r4 : ∀ i, rC m c i < 4 := fun i => Nat.mod_lt _ (by decide)
  unfold F_X4_takeRow F_X4_takeRow_0
  refine wp_for (fun i s => s.1 = nI (tkC m c i) ∧ s.2.1 = nI i ∧ fr [55] [] σ s.2.2 ∧ ∀ j, j < i → s.2.2.1 55 j = nI (rC m c j)) m (by omega) (fun i w s hi hI hw => ?_) (fun w s hI => ?_) ⟨rfl, rfl, fr.rf, fun j hj => absurd hj (Nat.not_lt_zero j)⟩
  · obtain ⟨x, y, τ⟩ := s
    obtain ⟨i1, i2, i3, i4⟩ := hI
    simp only at i1 i2 i3 i4
    subst i1 i2
    have e13 : τ.1 47 13 = nI m := (i3.rd0 (by decide)).trans hH.1
    show wp (F_X4_takeRow_4 (nI c) w (nI (tkC m c i)) (nI i) τ) _
    unfold F_X4_takeRow_4
    rw [e13, if_neg (by rw [nI_lep (by omega)]; omega), if_neg (by rw [show (4 : Int32) = nI 4 from rfl, nI_lep (by omega)]; omega), gd_n (by omega), nI_cl (by omega), show (2 : Int32) * ((nI m - 1) - nI i) = (2 : Int32) * ((nI m - 1) - nI i) from rfl, rC_i m d2 c hc i hi, nm_s, gd_n (by omega), zwr_at, tk_s (r4 i), nm_s, nm_s, nI_1]
    refine hw _ ⟨rfl, rfl, i3.w (Or.inl (by decide)), fun j hj => ?_⟩
    show (zwr τ 55 i _).1 55 j = _
    by_cases q : j = i
    · rw [q, zwr_at]
    · rw [zwr_ne (Or.inr q)]
      exact i4 j (by omega)
  · obtain ⟨x, y, τ⟩ := s
    obtain ⟨i1, i2, i3, i4⟩ := hI
    simp only at i1 i2 i3 i4
    subst i1 i2
    have e13 : τ.1 47 13 = nI m := (i3.rd0 (by decide)).trans hH.1
    have hSτ : SK (putW W κ) τ := SK_fr hS i3 (by decide)
    have hHτ : HC m H P τ := HC_fr hH i3 (by decide)
    have t16 := tkC_lt (m := m) (c := c) m
    have p16 : 2 ^ m - 1 < 16 := by
      have : 2 ^ m ≤ 2 ^ 4 := Nat.pow_le_pow_right (by decide) (by omega)
      omega
    show wp (F_X4_takeRow_4 (nI c) w (nI (tkC m c m)) (nI m) τ) _
    unfold F_X4_takeRow_4 F_X4_takeRow_54
    rw [e13, if_pos (by rw [nI_lep (by omega)]; omega), (m4_i m d2).2]
    by_cases q : tkC m c m = 2 ^ m - 1
    rotate_left
    · have nq : ¬ okC m c = true := fun z => q (of_decide_eq_true z)
      rw [if_neg (by rw [nI_eqp (by omega)]; exact q)]
      exact wp_some ⟨i3.mono (by decide), (bI_f nq).symm, i4, fun z => absurd z nq, fun _ => hSτ⟩
    have ok : okC m c = true := decide_eq_true q
    have rl := rC_lt m d2 c hc ok
    rw [if_pos (by rw [q])]
    refine wp_for (fun i s => s.1 = nI i ∧ fr [21, 22] [] τ s.2 ∧ SK (putW W (kr H P (rC m c) κ i)) s.2) m (by omega) (fun i w2 s hi hI hw2 => ?_) (fun w2 s hI => ?_) ⟨rfl, fr.rf, by exact hSτ⟩
    · obtain ⟨x, υ⟩ := s
      obtain ⟨j1, j2, j3⟩ := hI
      simp only at j1 j2 j3
      subst j1
      have hHυ := HC_fr hHτ j2 (by decide)
      have e55 : υ.1 55 i = nI (rC m c i) := (j2.rd0 (by decide)).trans (i4 i hi)
      have an3 : nI (rC m c i) &&& 3 = nI (rC m c i) := (by decide +kernel : ∀ r, r < 4 → nI r &&& 3 = nI r) _ (r4 i)
      have oo : WOK (setK (putW W (kr H P (rC m c) κ i)) (H i) (some (P (rC m c i)))) := WOK_put hW (kr_ok hD rl hk (i + 1) (by omega))
      have hp : P (rC m c i) < 8 := wIs_lt (d3 _ (rl i hi)).2.2
      show wp (F_X4_takeRow_70 w2 (nI i) υ) _
      unfold F_X4_takeRow_70
      rw [hHυ.1, if_neg (by rw [nI_lep (by omega)]; omega), if_neg (by rw [show (4 : Int32) = nI 4 from rfl, nI_lep (by omega)]; omega), gd_n (by omega), gd_n (by omega), nI_cl (by omega), e55, an3, gd_n (by have := r4 i; omega), nI_cl (by have := r4 i; omega), (hHυ.2 i hi).1, (hHυ.2 _ (rl i hi)).2]
      have SP := SK_put (p := H i) (o := some (P (rC m c i))) j3 (d3 i hi).1 oo
      rw [show e1 (some (P (rC m c i))) = nI (P (rC m c i)) from rfl] at SP
      refine wp_bd2 SP (fun _ b hb => ?_)
      rw [nm_s, nI_1]
      exact hw2 _ ⟨rfl, j2.tr hb.1, hb.2⟩
    · obtain ⟨x, υ⟩ := s
      obtain ⟨j1, j2, j3⟩ := hI
      simp only at j1 j2 j3
      subst j1
      have hHυ := HC_fr hHτ j2 (by decide)
      show wp (F_X4_takeRow_70 w2 (nI m) υ) _
      unfold F_X4_takeRow_70
      rw [hHυ.1, if_pos (by rw [nI_lep (by omega)]; omega)]
      rw [kr_off hO] at j3
      refine wp_some ⟨(i3.mono (by decide)).tr (j2.mono (by decide)), (bI_t ok).symm, fun i hi => ?_, fun _ => j3, fun z => absurd ok z⟩
      exact (j2.rd0 (by decide)).trans (i4 i hi)
/-- the best so far, on the class's cells -/
def BR (m : Nat) (b : Option (Nat × Nat)) (x : Int32) (σ : zSt) : Prop := match b with
  | none => x = -1
  | some (d, c) => x = nI d ∧ d < 200000 ∧ c < 4 ^ m ∧ okC m c = true ∧ ∀ i, i < m → σ.1 56 i = nI (rC m c i)
theorem BR_fr {m : Nat} {b : Option (Nat × Nat)} {x : Int32} {σ τ : zSt} (h : BR m b x σ) (f : ∀ i, τ.1 56 i = σ.1 56 i) : BR m b x τ := by
  cases b with
  | none => exact h
  | some b =>
    obtain ⟨d, c⟩ := b
    obtain ⟨h1, h2, h3, h4, h5⟩ := h
    exact ⟨h1, h2, h3, h4, fun i hi => (f i).trans (h5 i hi)⟩
theorem T_days {σ : zSt} {b : Nat} (h : σ.1 47 8 = nI b) (hb : b < 2147483648) : F_X4_days σ = some (nI (b / 1024), σ) := by
  unfold F_X4_days F_X4_days_0
  rw [h, show (1024 : Int32) = nI 1024 from rfl, pk_div hb (by decide) (by decide)]
def LH4 : List Nat := [18, 19, 20, 21, 22, 23, 48, 49, 50, 52, 53, 54, 55, 56]
def SH4 : List (Nat × Nat) := [(17, 6), (17, 7), (17, 8), (17, 9), (17, 10), (17, 11), (17, 12), (17, 13), (17, 14), (47, 5), (47, 6), (47, 8), (47, 13)]
theorem T_hideL {W : zWo} (hW : WOK W) (hh : wIs W (wHea W) = true) {m : Nat} {H P : Nat → Nat} (hD : HD W m H P) {σ : zSt} (hM : ∀ κ, WOK (putW W κ) → ∃ T, OKT (putW W κ) 1 T 0) (hH : HC m H P σ) (hS : SK W σ) : wp (zfix F_X4_hide_83L zlim (-1, 0, σ)) (fun a τ => fr LH4 SH4 σ τ ∧ HC m H P τ ∧ BR m (fC (fun c => dyO (rowW W m H P c)) m (4 ^ m)) a τ) := by
  obtain ⟨d1, d2, d3⟩ := id hD
  have m256 : 4 ^ m ≤ 256 := Nat.pow_le_pow_right (n := 4) (by decide) (show m ≤ 4 by omega)
  refine wp_for (fun c s => s.2.1 = nI c ∧ fr LH4 SH4 σ s.2.2 ∧ HC m H P s.2.2 ∧ BR m (fC (fun c => dyO (rowW W m H P c)) m c) s.1 s.2.2 ∧ ∃ κ, Off W m H κ ∧ (∀ j k, j < 8 → κ j = some k → wIs W k = true ∨ (8 ≤ k ∧ k ≤ 10)) ∧ SK (putW W κ) s.2.2) (4 ^ m) (by omega) (fun c w s hc hI hw => ?_) (fun w s hI => ?_) ⟨rfl, fr.rf, hH, by exact rfl, wKey W, fun k => Or.inl rfl, hW.2.2.2.2.2.2.1, by exact hS⟩
  · obtain ⟨x, y, τ⟩ := s
    obtain ⟨i1, i2, i3, i4, κ, i5, i6, i7⟩ := hI
    simp only at i1 i2 i3 i4 i7
    subst i1
    show wp (F_X4_hide_83 w x (nI c) τ) _
    unfold F_X4_hide_83 F_X4_hide_140
    rw [i3.1, (m4_i m d2).1, if_neg (by rw [nI_lep (by omega)]; omega)]
    refine wp_bd2 (T_takeRow hW hD hc i3 i5 i6 i7) (fun a υ hυ => ?_)
    obtain ⟨f1, rfl, u1, u2, u3⟩ := hυ
    have f1' : fr LH4 SH4 σ υ := i2.tr (f1.mono (by decide))
    have hHυ := HC_fr i3 f1 (by decide)
    have b56 : ∀ i, υ.1 56 i = τ.1 56 i := fun i => f1.rd0 (by decide)
    by_cases q : okC m c = true
    rotate_left
    · rw [bI_f q, if_pos rfl, nm_s, nI_1]
      refine hw _ ⟨rfl, f1', hHυ, ?_, κ, i5, i6, u3 q⟩
      rw [fC_s, if_neg q]
      exact BR_fr i4 b56
    have rl := rC_lt m d2 c hc q
    have w0' : WOK (rowW W m H P c) := rowW_ok hW hD rl
    have hh' : wIs (rowW W m H P c) (wHea (rowW W m H P c)) = true := hh
    obtain ⟨T, hT⟩ := hM _ w0'
    have hT' : OKT (rowW W m H P c) 1 T 0 := hT
    have lim := T_lim hT' (O := 0) (B := 0) (i := 0) (by decide) (by decide) (by decide)
    rw [show cod 0 0 0 = 0 from rfl] at lim
    rw [bI_t q, if_neg (show ¬ (1 : Int32) = 0 by decide)]
    have S := T_search (m := 1) w0' hh' (by decide) hT' (u2 q)
    rw [show nI (1 - 1) = (0 : Int32) from rfl] at S
    refine wp_bd2 S (fun v ω hω => ?_)
    obtain ⟨f2, f, bst, rfl, hs⟩ := hω
    have f2' : fr LH4 SH4 σ ω := f1'.tr (f2.mono (by decide))
    have hHω := HC_fr hHυ f2 (by decide)
    have o56 : ∀ i, ω.1 56 i = τ.1 56 i := fun i => (f2.rd (by decide) (by
      intro z
      simp [SS4] at z)).trans (b56 i)
    have hSω : ∃ κ', Off W m H κ' ∧ (∀ j k, j < 8 → κ' j = some k → wIs W k = true ∨ (8 ≤ k ∧ k ≤ 10)) ∧ SK (putW W κ') ω := ⟨kr H P (rC m c) (wKey W) m, Off_kr (fun k => Or.inl rfl) m (Nat.le_refl m), kr_ok hD rl hW.2.2.2.2.2.2.1 m (Nat.le_refl m), hs.1.1⟩
    obtain ⟨y1, y2⟩ := best_is w0' hh' hT' hs.2.2.2
    by_cases z : bst < 134217728
    rotate_left
    · have e := y2 z
      rw [bI_f z, if_pos rfl, nm_s, nI_1]
      refine hw _ ⟨rfl, f2', hHω, ?_, hSω⟩
      rw [fC_s, if_pos q]
      rw [stRw_n (show (fun c => dyO (rowW W m H P c)) c = none from dyO_f hT' e)]
      exact BR_fr i4 o56
    have e := y1 z
    have dy := dyO_t hT' (by omega)
    rw [bI_t z, if_neg (show ¬ (1 : Int32) = 0 by decide), T_days hs.2.2.1 (by omega), bd_s, e]
    have dl : T 0 / 1024 < 200000 := by omega
    have better : (∀ b, fC (fun c => dyO (rowW W m H P c)) m c = some b → b.1 < T 0 / 1024) → ¬ nI (T 0 / 1024) ≤ x → wp (if nI (T 0 / 1024) ≤ x then nm (nI c + 1) (fun v11 => w (x, v11, ω)) else bd (F_X4_days ω) (fun q21 s20 => nm (zrow s20 56 (va_cpy (s20.1 55) (s20.1 56) 0 0 4)) (fun s23 => nm (nI c + 1) (fun v11 => w (q21, v11, s23))))) (fun a τ => fr LH4 SH4 σ τ ∧ HC m H P τ ∧ BR m (fC (fun c => dyO (rowW W m H P c)) m (4 ^ m)) a τ) := by
      intro hb hx
      rw [if_neg hx, T_days hs.2.2.1 (by omega), bd_s, e, nm_s, nm_s, nI_1]
      have f56 : fr [56] [] ω (zrow ω 56 (va_cpy (ω.1 55) (ω.1 56) 0 0 4)) := fr_z (by decide)
      refine hw _ ⟨rfl, f2'.tr (f56.mono (by decide)), HC_fr hHω f56 (by decide), ?_, ?_⟩
      · rw [fC_s, if_pos q]
        have st : stRw (fun c => dyO (rowW W m H P c)) (fC (fun c => dyO (rowW W m H P c)) m c) c = some (T 0 / 1024, c) := by
          unfold stRw
          simp only [dy]
          cases k : fC (fun c => dyO (rowW W m H P c)) m c with
          | none => rfl
          | some b =>
            show (if b.1 < T 0 / 1024 then some (T 0 / 1024, c) else some b) = _
            rw [if_pos (hb b k)]
        rw [st]
        refine ⟨rfl, dl, hc, q, fun i hi => ?_⟩
        show (zrow ω 56 (va_cpy (ω.1 55) (ω.1 56) 0 0 4)).1 56 i = _
        rw [va_cpn, zrow_c, cpn_in (by omega)]
        exact (f2.rd (by decide) (by
          intro z
          simp [SS4] at z)).trans (u1 i hi)
      · obtain ⟨κ', k1, k2, k3⟩ := hSω
        exact ⟨κ', k1, k2, SK_fr k3 f56 (by decide)⟩
    cases k : fC (fun c => dyO (rowW W m H P c)) m c with
    | none =>
      rw [k] at i4
      replace i4 : x = -1 := i4
      exact better (fun b hb => by rw [k] at hb; cases hb) (by rw [i4, i_le, i_nI (by omega), show (-1 : Int32).toInt = -1 from rfl]; omega)
    | some b =>
      obtain ⟨d, c0⟩ := b
      rw [k] at i4
      obtain ⟨b1, b2, b3, b4, b5⟩ := i4
      by_cases lt : d < T 0 / 1024
      · exact better (fun b hb => by rw [k] at hb; cases hb; exact lt) (by rw [b1, nI_lep (by omega)]; omega)
      · rw [b1, if_pos (by rw [nI_lep (by omega)]; omega), nm_s, nI_1]
        refine hw _ ⟨rfl, f2', hHω, ?_, hSω⟩
        rw [fC_s, if_pos q]
        unfold stRw
        simp only [dy, k]
        rw [if_neg lt]
        exact ⟨rfl, b2, b3, b4, fun i hi => (o56 i).trans (b5 i hi)⟩
  · obtain ⟨x, y, τ⟩ := s
    obtain ⟨i1, i2, i3, i4, -⟩ := hI
    simp only at i1 i2 i3 i4
    subst i1
    show wp (F_X4_hide_83 w x (nI (4 ^ m)) τ) _
    unfold F_X4_hide_83
    rw [i3.1, (m4_i m d2).1, if_pos (by rw [nI_lep (by omega)]; omega)]
    exact wp_some ⟨i2, i3, i4⟩
theorem popn_s {K k : Nat} : popn K (k + 1) = popn K k + (K.testBit k).toNat := rfl
theorem T_hide {W : zWo} (hW : WOK W) (hh : wIs W (wHea W) = true) {K : Nat} (hK : K < 256) {P : Nat → Nat} (hD : HD W (popn K 8) (Hn K 8) P) {σ : zSt} (hM : ∀ κ, WOK (putW W κ) → ∃ T, OKT (putW W κ) 1 T 0) (hC : EC 1 2 W σ) : wp (F_X4_hide (nI K) σ) (fun a τ => fr LH4 SH4 σ τ ∧ HC (popn K 8) (Hn K 8) P τ ∧ BR (popn K 8) (fC (fun c => dyO (rowW W (popn K 8) (Hn K 8) P c)) (popn K 8) (4 ^ popn K 8)) a τ) := by
  obtain ⟨d1, d2, d3⟩ := id hD
  have go : ∀ τ, fr [53, 54] [(47, 13)] σ τ → HC (popn K 8) (Hn K 8) P τ → wp (F_X4_hide_71 τ) (fun a τ => fr LH4 SH4 σ τ ∧ HC (popn K 8) (Hn K 8) P τ ∧ BR (popn K 8) (fC (fun c => dyO (rowW W (popn K 8) (Hn K 8) P c)) (popn K 8) (4 ^ popn K 8)) a τ) := by
    intro τ f hH
    unfold F_X4_hide_71
    refine wp_bd2 (T_learn hW (f.EC (by decide) hC)) (fun _ υ hυ => ?_)
    refine wp_mono (T_hideL hW hh hD hM (HC_fr hH hυ.1 (by decide)) hυ.2) (fun a ω hω => ?_)
    exact ⟨((f.mono (by decide)).tr (hυ.1.mono (by decide))).tr hω.1, hω.2⟩
  unfold F_X4_hide F_X4_hide_0
  rw [nm_s]
  refine wp_for (fun k s => s.1 = nI k ∧ fr [53, 54] [(47, 13)] σ s.2 ∧ s.2.1 47 13 = nI (popn K k) ∧ popn K k ≤ popn K 8 ∧ ∀ i, i < popn K k → s.2.1 53 i = nI (Hn K k i) ∧ s.2.1 54 i = e1 (wKey W (Hn K k i))) 8 (by decide) (fun k w s hk hI hw => ?_) (fun w s hI => ?_) ⟨rfl, fr_w (Or.inr (by decide)), zwr_at, Nat.zero_le _, fun i hi => absurd hi (Nat.not_lt_zero i)⟩
  · obtain ⟨x, τ⟩ := s
    obtain ⟨i1, i2, i3, i4, i5⟩ := hI
    simp only at i1 i2 i3 i5
    subst i1
    have hCτ := i2.EC (by decide) hC
    show wp (F_X4_hide_7 (nI K) w (nI k) τ) _
    unfold F_X4_hide_7 F_X4_hide_65
    rw [if_neg (by rw [show (8 : Int32) = nI 8 from rfl, nI_lep (by omega)]; omega), i3]
    by_cases q4 : 4 ≤ popn K k
    · rw [if_pos (by rw [show (4 : Int32) = nI 4 from rfl, nI_lep (by omega)]; exact q4)]
      obtain ⟨u1, u2⟩ := Hn_up K hK k (by omega) q4 (by omega)
      refine go τ i2 ⟨by rw [← u1]; exact i3, fun i hi => ?_⟩
      have := i5 i (by omega)
      rw [u2 i (by omega), (d3 i hi).2.1] at this
      exact this
    rw [if_neg (by rw [show (4 : Int32) = nI 4 from rfl, nI_lep (by omega)]; exact q4)]
    by_cases b : K.testBit k = true
    · obtain ⟨a1, a2⟩ := Hn_at K hK k hk b
      have ek : τ.1 7 k = e1 (wKey W k) := hCτ.2.2.2.2.2.1 k hk
      rw [if_pos ((bit_is hK hk).mpr b), gd_n (by omega), nI_cl (by omega), nm_s, gd_n (by omega), nI_cl (by omega), zwr_ne (c := 53) (d := 47) (Or.inl (by decide)), zwr_ne (c := 53) (d := 7) (Or.inl (by decide)), i3, gd_n (by omega), nI_cl (by omega), nm_s, zwr_ne (c := 54) (d := 47) (Or.inl (by decide)), zwr_ne (c := 53) (d := 47) (Or.inl (by decide)), i3, nI_1, nm_s, nm_s, nI_1]
      have ep : popn K (k + 1) = popn K k + 1 := by rw [popn_s, b]; rfl
      have eh : Hn K (k + 1) = fset (Hn K k) (popn K k) k := by rw [Hn, if_pos b]
      refine hw _ ⟨rfl, ((i2.w (Or.inl (by decide))).w (Or.inl (by decide))).w (Or.inr (by decide)), ?_, by omega, fun i hi => ?_⟩
      · rw [ep]
        exact zwr_at
      · rw [eh]
        have r53 : (zwr (zwr (zwr τ 53 (popn K k) (nI k)) 54 (popn K k) (τ.1 7 k)) 47 13 (nI (popn K k + 1))).1 53 i = (zwr τ 53 (popn K k) (nI k)).1 53 i := by rw [zwr_ne (Or.inl (by decide)), zwr_ne (Or.inl (by decide))]
        have r54 : (zwr (zwr (zwr τ 53 (popn K k) (nI k)) 54 (popn K k) (τ.1 7 k)) 47 13 (nI (popn K k + 1))).1 54 i = (zwr (zwr τ 53 (popn K k) (nI k)) 54 (popn K k) (τ.1 7 k)).1 54 i := by rw [zwr_ne (Or.inl (by decide))]
        show (zwr (zwr (zwr τ 53 (popn K k) (nI k)) 54 (popn K k) (τ.1 7 k)) 47 13 (nI (popn K k + 1))).1 53 i = _ ∧ (zwr (zwr (zwr τ 53 (popn K k) (nI k)) 54 (popn K k) (τ.1 7 k)) 47 13 (nI (popn K k + 1))).1 54 i = _
        rw [r53, r54]
        by_cases z : i = popn K k
        · rw [z, zwr_at, zwr_at, fset_s, ek]
          exact ⟨rfl, rfl⟩
        · rw [zwr_ne (Or.inr z), zwr_ne (Or.inr z), zwr_ne (Or.inl (by decide)), fset_n z]
          exact i5 i (by omega)
    · rw [if_neg (fun z => b ((bit_is hK hk).mp z)), nm_s, nI_1]
      have ep : popn K (k + 1) = popn K k := by rw [popn_s, Bool.eq_false_iff.mpr b]; rfl
      have eh : Hn K (k + 1) = Hn K k := by rw [Hn, if_neg b]
      refine hw _ ⟨rfl, i2, ?_, ?_, ?_⟩
      · rw [ep]
        exact i3
      · rw [ep]
        exact i4
      · rw [ep, eh]
        exact i5
  · obtain ⟨x, τ⟩ := s
    obtain ⟨i1, i2, i3, i4, i5⟩ := hI
    simp only at i1 i2 i3 i5
    subst i1
    show wp (F_X4_hide_7 (nI K) w (nI 8) τ) _
    unfold F_X4_hide_7
    rw [if_pos (show (8 : Int32) ≤ nI 8 by decide)]
    refine go τ i2 ⟨i3, fun i hi => ?_⟩
    have := i5 i hi
    rw [(d3 i hi).2.1] at this
    exact this
