/-! PURE: the reference solves -/
def dn (n k : Nat) : Int32 := if k < n then nI (n - 1 - k) else -1
theorem dn_256 : ∀ k, k < 256 → dn 256 k + (-1) = dn 256 (k + 1) := by decide +kernel
theorem dn_27 : ∀ k, k < 27 → dn 27 k + (-1) = dn 27 (k + 1) := by decide +kernel
theorem OKT_lay {W : zWo} {m : Nat} {T V : Nat → Nat} {O B : Nat} (hO : O < 256) (hB : B < 27) (hT : OKT W m T (27 * O + B + 1)) (h : ∀ i, i < 4 → OKs W m (lay T (27 * O + B) V) O B i) : OKT W m (lay T (27 * O + B) V) (27 * O + B) := by
  intro O' B' i hO' hB' hi hL
  by_cases q : 27 * O' + B' = 27 * O + B
  · have e1' : O' = O := by omega
    have e2' : B' = B := by omega
    subst e1' e2'
    exact h i hi
  · refine OKs_c hO' hB' hi (fun s hs => lay_n (by omega)) (hT O' B' i hO' hB' hi (by omega))
theorem T_init {W : zWo} {σ : zSt} (hW : WOK W) {T : Nat → Nat} {O B : Nat} (hO : O < 256) (hB : B < 27) (e0 : σ.1 69 0 = nI (wTol W)) (hT : TB σ T (27 * O + B + 1)) {w89 w97 : (Int32 × zSt) → Option (Int32 × zSt)} {x2 : Int32} {Q : Int32 → zSt → Prop} (g : ∀ τ, fr [92] [] σ τ → TB τ T (27 * O + B + 1) → LV τ (27 * O + B) (fun _ => if subB O (wTol W) = true then 0 else 1000000000) → wp (F_X12_solves_177 w89 w97 x2 (nI O) (nI B) τ) Q) : wp (F_X12_solves_131 w89 w97 x2 (nI O) (nI B) σ) Q := by
  have hTo : wTol W < 256 := hW.2.2.2.2.2.2.2.1
  have v : (if nI O &&& (nI (wTol W) ^^^ (-1)) = 0 then (0 : Int32) else 1000000000) = nI (if subB O (wTol W) = true then 0 else 1000000000) := by
    rw [nI_andn hO hTo]
    have lt : O &&& (wTol W ^^^ 255) < 256 := and_lt hO
    by_cases q : O &&& (wTol W ^^^ 255) = 0
    · rw [if_pos (by rw [q]; rfl), if_pos (show subB O (wTol W) = true from decide_eq_true q)]
      rfl
    · rw [if_neg (by rw [nI_e0 (by omega)]; exact q), if_neg (fun z : subB O (wTol W) = true => q (of_decide_eq_true z))]
      rfl
  have vb : (if subB O (wTol W) = true then 0 else 1000000000) ≤ 1000000000 := by split <;> omega
  generalize (if subB O (wTol W) = true then 0 else 1000000000) = c at v vb g
  unfold F_X12_solves_131
  refine wp_for (fun i s => s.1 = nI i ∧ fr [92] [] σ s.2 ∧ TB s.2 T (27 * O + B + 1) ∧ ∀ j, j < i → s.2.1 92 (4 * (27 * O + B) + j) = nI c) 4 (by decide) (fun i w s hi hI hw => ?_) (fun w s hI => ?_) ⟨rfl, fr.rf, hT, fun j hj => absurd hj (Nat.not_lt_zero j)⟩
  · obtain ⟨x, τ⟩ := s
    obtain ⟨i1, i2, i3, i4⟩ := hI
    simp only at i1 i2 i3 i4
    subst i1
    show wp (F_X12_solves_134 w89 w97 _ _ _ w (nI i) τ) _
    unfold F_X12_solves_134
    rw [if_neg (by rw [show (4 : Int32) = nI 4 from rfl, nI_lep (by omega)]; omega), T_stateOf, bd_s, i2.rd (c := 69) (j := 0) (by decide) (by decide), e0, v, nm_s, show cod O B i = 4 * (27 * O + B) + i from rfl, gd_n (by omega), nI_cl (by omega), nm_s, nm_s, nI_1]
    refine hw _ ⟨rfl, i2.w (Or.inl (by decide)), TB_w i3 hi, fun j hj => ?_⟩
    by_cases q : j = i
    · rw [q, zwr_at]
    · rw [zwr_ne (Or.inr (by omega))]
      exact i4 j (by omega)
  · obtain ⟨x, τ⟩ := s
    obtain ⟨i1, i2, i3, i4⟩ := hI
    simp only at i1 i2 i3 i4
    subst i1
    show wp (F_X12_solves_134 w89 w97 _ _ _ w (nI 4) τ) _
    unfold F_X12_solves_134
    rw [if_pos (show (4 : Int32) ≤ nI 4 by decide)]
    exact g τ i2 i3 (fun j hj => ⟨i4 j hj, vb⟩)
theorem T_table {W : zWo} {m : Nat} {σ : zSt} (hW : WOK W) (hm : m < 2) (h : PM W m σ) : wp (zfix (F_X12_solves_89L (nI (golW W))) zlim (255, σ)) (fun a τ => fr [92] [] σ τ ∧ ∃ T, TB τ T 0 ∧ OKT W m T 0 ∧ a = nI (T 0)) := by
  have hTo : wTol W < 256 := hW.2.2.2.2.2.2.2.1
  have hGo := golW_lt hW
  refine wp_for (fun k s => s.1 = dn 256 k ∧ fr [92] [] σ s.2 ∧ ∃ T, TB s.2 T (27 * (256 - k)) ∧ OKT W m T (27 * (256 - k))) 256 (by decide) (fun k w s hk hI hw => ?_) (fun w s hI => ?_) ⟨(show (255 : Int32) = dn 256 0 by decide), fr.rf, fun _ => 0, fun s h1 h2 => by omega, fun O B i hO hB hi hL => by omega⟩
  · obtain ⟨x, τ⟩ := s
    obtain ⟨i1, i2, T, i3, i4⟩ := hI
    simp only at i1 i2 i3 i4
    subst i1
    show wp (F_X12_solves_89 _ w (dn 256 k) τ) _
    obtain ⟨O, eO⟩ : ∃ O, O = 255 - k := ⟨_, rfl⟩
    have hO : O < 256 := by omega
    have dO : dn 256 k = nI O := by rw [eO]; exact if_pos hk
    have s1 := dn_256 k hk
    rw [dO] at s1 ⊢
    unfold F_X12_solves_89
    rw [if_neg (nI_pos (by omega))]
    refine wp_for (fun j s => s.1 = dn 27 j ∧ fr [92] [] σ s.2 ∧ ∃ T, TB s.2 T (27 * O + (27 - j)) ∧ OKT W m T (27 * O + (27 - j))) 27 (by decide) (fun j w2 s hj hI hw2 => ?_) (fun w2 s hI => ?_) ⟨(show (26 : Int32) = dn 27 0 by decide), i2, T, by rw [show 27 * O + (27 - 0) = 27 * (256 - k) by omega]; exact i3, by rw [show 27 * O + (27 - 0) = 27 * (256 - k) by omega]; exact i4⟩
    · obtain ⟨x, υ⟩ := s
      obtain ⟨j1, j2, T, j3, j4⟩ := hI
      simp only at j1 j2 j3 j4
      subst j1
      show wp (F_X12_solves_97 w _ _ w2 (dn 27 j) υ) _
      obtain ⟨B, eB⟩ : ∃ B, B = 26 - j := ⟨_, rfl⟩
      have hB : B < 27 := by omega
      have dB : dn 27 j = nI B := by rw [eB]; exact if_pos hj
      have s2 := dn_27 j hj
      have hPυ := PM_fr h j2
      have e0 : υ.1 69 0 = nI (wTol W) := hPυ.1.2.2.2.2.2.2.1
      have eL : 27 * O + (27 - j) = 27 * O + B + 1 := by omega
      rw [eL] at j3 j4
      rw [dB] at s2 ⊢
      have go : ∀ τ', fr [92] [] σ τ' → (∃ T, TB τ' T (27 * O + B) ∧ OKT W m T (27 * O + B)) → wp (F_X12_solves_177 w w2 (nI (golW W)) (nI O) (nI B) τ') (fun a τ => fr [92] [] σ τ ∧ ∃ T, TB τ T 0 ∧ OKT W m T 0 ∧ a = nI (T 0)) := by
        intro τ' f ⟨T', t1, t2⟩
        unfold F_X12_solves_177
        rw [s2, nm_s]
        refine hw2 _ ⟨rfl, f, T', ?_, ?_⟩
        · rw [show 27 * O + (27 - (j + 1)) = 27 * O + B by omega]
          exact t1
        · rw [show 27 * O + (27 - (j + 1)) = 27 * O + B by omega]
          exact t2
      have ini : ∀ _ : subB O (wTol W) = false ∨ subB (golW W) O = true, wp (F_X12_solves_131 w w2 (nI (golW W)) (nI O) (nI B) υ) (fun a τ => fr [92] [] σ τ ∧ ∃ T, TB τ T 0 ∧ OKT W m T 0 ∧ a = nI (T 0)) := by
        intro cs
        refine T_init hW hO hB e0 j3 (fun τ' f t v => go τ' (j2.tr f) ⟨_, TB_lay t v, OKT_lay hO hB j4 (fun i hi => ?_)⟩)
        have ec : lay T (27 * O + B) (fun _ => if subB O (wTol W) = true then 0 else 1000000000) (cod O B i) = if subB O (wTol W) = true then 0 else 1000000000 := lay_i hi
        unfold OKs
        rw [ec]
        cases qs : subB O (wTol W) with
        | false =>
          rw [if_neg (by decide)]
          exact ⟨fun _ => rfl, fun z => (by cases z), fun z => (by cases z), Or.inl rfl⟩
        | true =>
          rw [if_pos rfl]
          refine ⟨fun z => (by cases z), fun _ _ => rfl, fun _ z => ?_, Or.inr (Nat.zero_le _)⟩
          rcases cs with cs | cs
          · rw [qs] at cs
            cases cs
          · rw [z] at cs
            cases cs
      unfold F_X12_solves_97
      rw [if_neg (nI_pos (by omega)), e0, nI_andn hO hTo, nI_andn hGo hO]
      have l1 : O &&& (wTol W ^^^ 255) < 256 := and_lt hO
      have l2 : golW W &&& (O ^^^ 255) < 256 := and_lt hGo
      by_cases q1 : O &&& (wTol W ^^^ 255) = 0
      rotate_left
      · rw [if_neg (by rw [nI_e0 (by omega)]; exact q1)]
        exact ini (Or.inl (decide_eq_false q1))
      rw [if_pos (by rw [q1]; rfl)]
      by_cases q2 : golW W &&& (O ^^^ 255) = 0
      · rw [if_pos (by rw [q2]; rfl)]
        exact ini (Or.inr (decide_eq_true q2))
      rw [if_neg (by rw [nI_e0 (by omega)]; exact q2)]
      refine wp_bd2 (T_laysFor hW hm hPυ hO hB j3) (fun _ τ' hτ => ?_)
      obtain ⟨f, t, b, hb, v⟩ := hτ
      exact go τ' (j2.tr f) ⟨_, TB_lay t v, OKT_lay hO hB j4 (OKs_lay hW hO hB (decide_eq_true q1) (decide_eq_false q2) j4 hb)⟩
    · obtain ⟨x, υ⟩ := s
      obtain ⟨j1, j2, T, j3, j4⟩ := hI
      simp only at j1 j2 j3 j4
      subst j1
      show wp (F_X12_solves_97 w _ _ w2 (dn 27 27) υ) _
      unfold F_X12_solves_97 F_X12_solves_183
      rw [if_pos (show dn 27 27 < 0 by decide), s1, nm_s]
      refine hw _ ⟨rfl, j2, T, ?_, ?_⟩
      · rw [show 27 * (256 - (k + 1)) = 27 * O + (27 - 27) by omega]
        exact j3
      · rw [show 27 * (256 - (k + 1)) = 27 * O + (27 - 27) by omega]
        exact j4
  · obtain ⟨x, τ⟩ := s
    obtain ⟨i1, i2, T, i3, i4⟩ := hI
    simp only at i1 i2 i3 i4
    subst i1
    show wp (F_X12_solves_89 _ w (dn 256 256) τ) _
    unfold F_X12_solves_89 F_X12_solves_189
    rw [if_pos (show dn 256 256 < 0 by decide), show (0 : Int32) = nI 0 from rfl, T_stateOf, bd_s, show cod 0 0 0 = 0 from rfl, gd_n (by omega), nI_cl (by omega)]
    exact wp_some ⟨i2, T, i3, i4, (i3 0 (by omega) (by omega)).1⟩
theorem T_solves {W : zWo} {m : Nat} {σ : zSt} (hW : WOK W) (hm : m < 2) (h : EM 70 0 W σ) : wp (F_X12_solves (nI m) σ) (fun a τ => fr [92, 93, 94, 95] [(69, 49)] σ τ ∧ PM W m τ ∧ ∃ T, TB τ T 0 ∧ OKT W m T 0 ∧ a = nI (T 0)) := by
  have g01 : nI m = 0 ∨ nI m = 1 := by
    rcases (by omega : m = 0 ∨ m = 1) with rfl | rfl
    · exact Or.inl rfl
    · exact Or.inr rfl
  unfold F_X12_solves F_X12_solves_0
  rw [gd_t g01, nm_s]
  have pl : ∀ (τ : zSt) (p : Nat), EM 70 0 W τ → F_X12_isPlace (nI p) τ = some (bI (isT W (nI p)), τ) := fun τ p e => T_isPlace hW e
  refine wp_for (fun p s => s.1 = nI p ∧ fr [92, 93, 94, 95] [(69, 49)] σ s.2 ∧ s.2.1 69 49 = nI m ∧ ∀ q, q < p → s.2.1 93 q = nI (keysW W q) ∧ s.2.1 95 q = if wIs W q = true then nI (islW W q) else -1) 8 (by decide) (fun p w s hp hI hw => ?_) (fun w s hI => ?_) ⟨rfl, fr_w (Or.inr (by decide)), zwr_at, fun q hq => absurd hq (Nat.not_lt_zero q)⟩
  · obtain ⟨x, τ⟩ := s
    obtain ⟨i1, i2, i3, i4⟩ := hI
    simp only at i1 i2 i3 i4
    subst i1
    have hMτ : EM 70 0 W τ := i2.EM (by decide) h
    show wp (F_X12_solves_7 w (nI p) τ) _
    unfold F_X12_solves_7
    rw [if_neg (by rw [show (8 : Int32) = nI 8 from rfl, nI_lep (by omega)]; omega), T_keysAt hW hMτ (by omega), bd_s, gd_n (by omega), nI_cl (by omega), nm_s]
    have f1 : fr [92, 93, 94, 95] [(69, 49)] σ (zwr τ 93 p (nI (keysW W p))) := i2.w (Or.inl (by decide))
    have hM1 : EM 70 0 W (zwr τ 93 p (nI (keysW W p))) := f1.EM (by decide) h
    have fin : ∀ v : Int32, v = (if wIs W p = true then nI (islW W p) else -1) → wp (F_X12_solves_46 w (nI p) v (nI p) (zwr τ 93 p (nI (keysW W p)))) (fun a τ => fr [92, 93, 94, 95] [(69, 49)] σ τ ∧ PM W m τ ∧ ∃ T, TB τ T 0 ∧ OKT W m T 0 ∧ a = nI (T 0)) := by
      intro v hv
      unfold F_X12_solves_46
      rw [gd_n (by omega), nI_cl (by omega), nm_s, nm_s, nI_1]
      refine hw _ ⟨rfl, f1.w (Or.inl (by decide)), ?_, fun q hq => ?_⟩
      · rw [zwr_ne (Or.inl (by decide)), zwr_ne (Or.inl (by decide))]
        exact i3
      · by_cases z : q = p
        · rw [z, zwr_at, zwr_ne (Or.inl (by decide)), zwr_at]
          exact ⟨rfl, hv⟩
        · rw [zwr_ne (Or.inl (by decide)), zwr_ne (Or.inr z), zwr_ne (Or.inr z), zwr_ne (Or.inl (by decide))]
          exact i4 q (by omega)
    rw [pl _ p hM1, bd_s]
    by_cases q : wIs W p = true
    · rw [bI_t ((isT_n (by omega)).mpr q), if_neg (show ¬ (1 : Int32) = 0 by decide), t_islandBy hW hM1 hp, bd_s]
      exact fin _ (by rw [if_pos q])
    · rw [bI_f (fun z => q ((isT_n (by omega)).mp z)), if_pos rfl]
      exact fin _ (by rw [if_neg q])
  · obtain ⟨x, τ⟩ := s
    obtain ⟨i1, i2, i3, i4⟩ := hI
    simp only at i1 i2 i3 i4
    subst i1
    show wp (F_X12_solves_7 w (nI 8) τ) _
    unfold F_X12_solves_7 F_X12_solves_53
    rw [if_pos (show (8 : Int32) ≤ nI 8 by decide)]
    refine wp_for (fun b s => s.1 = nI b ∧ fr [92, 93, 94, 95] [(69, 49)] σ s.2 ∧ s.2.1 69 49 = nI m ∧ (∀ q, q < 8 → s.2.1 93 q = nI (keysW W q) ∧ s.2.1 95 q = if wIs W q = true then nI (islW W q) else -1) ∧ ∀ q, q < b → s.2.1 94 q = nI (keysW W (8 + q))) 3 (by decide) (fun b w s hb hI hw => ?_) (fun w s hI => ?_) ⟨rfl, i2, i3, i4, fun q hq => absurd hq (Nat.not_lt_zero q)⟩
    · obtain ⟨x, υ⟩ := s
      obtain ⟨j1, j2, j3, j4, j5⟩ := hI
      simp only at j1 j2 j3 j4 j5
      subst j1
      have hMυ : EM 70 0 W υ := j2.EM (by decide) h
      show wp (F_X12_solves_55 w (nI b) υ) _
      unfold F_X12_solves_55
      rw [if_neg (by rw [show (3 : Int32) = nI 3 from rfl, nI_lep (by omega)]; omega), show (8 : Int32) = nI 8 from rfl, nI_add, T_keysAt hW hMυ (by omega), bd_s, gd_n (by omega), nI_cl (by omega), nm_s, nm_s, nI_1]
      refine hw _ ⟨rfl, j2.w (Or.inl (by decide)), ?_, fun q hq => ?_, fun q hq => ?_⟩
      · rw [zwr_ne (Or.inl (by decide))]
        exact j3
      · rw [zwr_ne (Or.inl (by decide)), zwr_ne (Or.inl (by decide))]
        exact j4 q hq
      · by_cases z : q = b
        · rw [z, zwr_at]
        · rw [zwr_ne (Or.inr z)]
          exact j5 q (by omega)
    · obtain ⟨x, υ⟩ := s
      obtain ⟨j1, j2, j3, j4, j5⟩ := hI
      simp only at j1 j2 j3 j4 j5
      subst j1
      have hMυ : EM 70 0 W υ := j2.EM (by decide) h
      have hP : PM W m υ := ⟨hMυ, fun p hp => (j4 p hp).1, j5, fun p hp => (j4 p hp).2, j3⟩
      show wp (F_X12_solves_55 w (nI 3) υ) _
      unfold F_X12_solves_55 F_X12_solves_80
      rw [if_pos (show (3 : Int32) ≤ nI 3 by decide), T_aims hW hMυ, bd_s]
      refine wp_mono (T_table hW hm hP) (fun a κ hk => ?_)
      exact ⟨j2.tr (hk.1.mono (by decide)), PM_fr hP hk.1, hk.2⟩

