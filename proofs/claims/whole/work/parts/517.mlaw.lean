/-! PURE: the law, the reference reads and takes over -/
def RdM (σ : zSt) (res : Sum Int32 (Nat × lCl)) (x : Option (Int32 × zSt)) : Prop := ∃ υ, fr [77, 78, 79, 80, 81, 82] kSl σ υ ∧ match res with
  | Sum.inl E => x = F_X12_law_86 0 υ ∧ υ.1 69 17 = E
  | Sum.inr (n, cl) => x = F_X12_law_86 1 υ ∧ (1 ≤ n ∧ n ≤ 16) ∧ υ.1 69 22 = nI n ∧ ∃ s, s ≤ 240 ∧ υ.1 69 20 = nI s ∧ ∀ c, c < n → KMl υ s c (cl c)
theorem RdM.tr {σ τ : zSt} {res : Sum Int32 (Nat × lCl)} {x : Option (Int32 × zSt)} (h : RdM τ res x) (f : fr [77, 78, 79, 80, 81, 82] kSl σ τ) : RdM σ res x := by
  obtain ⟨υ, h1, h2⟩ := h
  exact ⟨υ, f.tr h1, h2⟩
theorem claT_lt {tp : Nat → Nat} {N m p : Nat} {z : Nat × Nat × lDen × lDen} (hm : m ≤ 16) (es : claT tp N m p = Sum.inr z) : m < 16 := by
  by_cases q : m < 16
  · exact q
  · exfalso
    have m16 : m = 16 := by omega
    subst m16
    unfold claT at es
    by_cases q0 : chN tp N p = some 109 ∨ chN tp N p = some 108
    · rw [if_pos q0, if_pos (by decide)] at es
      cases es
    · rw [if_neg q0] at es
      cases es
theorem T_mReadL {tp : Nat → Nat} {N : Nat} : ∀ F f m p s cl (σ : zSt) (r : Int32) (τ : zSt), N < F + p → F < f → m ≤ 16 → MQs tp N p s σ → (∀ c, c < m → KMl σ s c (cl c)) → ClM tp N m p s σ (claT tp N m p) r τ → RdM σ (lawT tp N F m p cl) (zfix F_X12_law_46L f (r, τ)) := by
  intro F
  induction F with
  | zero =>
    intro f m p s cl σ r τ h1 h2 h3 hP
    have := hP.2.2.2.2.1
    omega
  | succ F ih =>
    intro f m p s cl σ r τ h1 h2 hm hP hK hQ
    have h24 := hP.2.1
    have hpN := hP.2.2.2.2.1
    obtain ⟨f, rfl⟩ : ∃ x, f = x + 1 := ⟨f - 1, by omega⟩
    show RdM σ (lawT tp N (F + 1) m p cl) (F_X12_law_46 (zfix F_X12_law_46L f) r τ)
    unfold F_X12_law_46 lawT
    obtain ⟨hf, hQ⟩ := hQ
    cases es : claT tp N m p with
    | inl E =>
      rw [es] at hQ
      obtain ⟨a1, a2⟩ := hQ
      rw [a1, if_pos rfl]
      exact ⟨τ, hf, rfl, a2⟩
    | inr qk =>
      obtain ⟨q, k⟩ := qk
      rw [es] at hQ
      obtain ⟨a1, t, hM, a2, a3, a4, a5, a6, a7⟩ := hQ
      have hqN := hM.2.2.2.2.1
      have htq := hM.2.2.2.2.2
      have m15 := claT_lt hm es
      have hK' : ∀ c, c < m + 1 → KMl τ t c (fset cl m k c) := by
        intro c hc
        by_cases z : c = m
        · subst z
          rw [fset_s]
          exact a3
        · rw [fset_n z]
          exact KMl_on (hK c (by omega)) a4 a6 (a7 c (by omega))
      rw [a1, if_neg (show ¬ (1 : Int32) = 0 by decide), hM.1.2.1, hM.2.2.1]
      show RdM σ (if q = N then Sum.inr (m + 1, fset cl m k) else if chN tp N q = some 59 then lawT tp N F (m + 1) (q + 1) (fset cl m k) else Sum.inl (flt 1 q)) _
      by_cases q1 : q = N
      · rw [if_pos q1, if_pos (by rw [nI_lep (by omega)]; omega)]
        exact ⟨τ, hf, rfl, ⟨by omega, by omega⟩, a2, t, by omega, hM.2.2.2.1, hK'⟩
      · have nle : ¬ nI N ≤ nI q := by
          rw [nI_lep (by omega)]
          omega
        rw [if_neg q1, if_neg nle]
        have e59 : F_X12_takes (59 : Int32) τ = if chN tp N q = some 59 then some (1, zwr τ 69 15 (nI (q + 1))) else some (0, zwr τ 69 17 (flt 1 q)) := T_takes (c := 59) hM.1 hM.2.2.1 (by omega) (by omega)
        rw [e59]
        by_cases q2 : chN tp N q = some 59
        · rw [if_pos q2, if_pos q2, bd_s, if_neg (show ¬ (1 : Int32) = 0 by decide)]
          have f2 : fr [77, 78, 79, 80, 81, 82] kSl τ (zwr τ 69 15 (nI (q + 1))) := fr_w (Or.inr (by decide))
          have hM2 : MQs tp N (q + 1) t (zwr τ 69 15 (nI (q + 1))) := ⟨TXm_fr hM.1 f2 (by decide), h24, zwr_at, by rw [zwr_ne (by decide)]; exact hM.2.2.2.1, by omega, by omega⟩
          obtain ⟨r2, τ2, e2, hQ2⟩ := T_mClause (m := m + 1) hM2 (by rw [zwr_ne (by decide)]; exact a2) (by omega)
          have hr : r2 = 0 ∨ r2 = 1 := by
            cases et : claT tp N (m + 1) (q + 1) with
            | inl E =>
              have h := hQ2.2
              rw [et] at h
              exact Or.inl h.1
            | inr qk =>
              have h := hQ2.2
              rw [et] at h
              exact Or.inr h.1
          have er : (if r2 = 0 then (0 : Int32) else 1) = r2 := by
            rcases hr with rfl | rfl
            · rfl
            · rfl
          rw [e2, bd_s, nm_s, er]
          refine RdM.tr (ih f (m + 1) (q + 1) t (fset cl m k) _ r2 τ2 (by omega) (by omega) (by omega) hM2 (fun c hc => ?_) hQ2) (hf.tr f2)
          exact KMl_on (hK' c hc) (Nat.le_refl t) (fun j hj => by rw [zwr_n (by decide)]) ⟨by rw [zwr_n (by decide)], by rw [zwr_n (by decide)], by rw [zwr_n (by decide)], by rw [zwr_n (by decide)]⟩
        · rw [if_neg q2, if_neg q2, bd_s, if_pos rfl]
          obtain ⟨f, rfl⟩ : ∃ x, f = x + 1 := ⟨f - 1, by omega⟩
          refine ⟨zwr τ 69 17 (flt 1 q), hf.w (Or.inr (by decide)), ?_, zwr_at⟩
          show F_X12_law_46 (zfix F_X12_law_46L f) 0 (zwr τ 69 17 (flt 1 q)) = _
          unfold F_X12_law_46
          rw [if_pos rfl]
theorem T_law86 {n s : Nat} {υ : zSt} (hn : n ≤ 16) (hs : s ≤ 240) (h22 : υ.1 69 22 = nI n) (h20 : υ.1 69 20 = nI s) : wp (F_X12_law_86 1 υ) (fun r τ => r = nI n ∧ fr [83, 84, 85, 86, 87] [(69, 14), (69, 23)] υ τ ∧ τ.1 69 14 = 0 ∧ τ.1 69 23 = nI n ∧ (∀ j, j < s → τ.1 83 j = υ.1 77 j) ∧ ∀ c, c < n → τ.1 84 c = υ.1 79 c ∧ τ.1 85 c = υ.1 80 c ∧ τ.1 86 c = υ.1 81 c ∧ τ.1 87 c = υ.1 82 c) := by
  unfold F_X12_law_86
  rw [nm_s, if_neg (show ¬ (1 : Int32) = 0 by decide), zwr_ne (by decide), h22, nm_s]
  have f1 : fr [83, 84, 85, 86, 87] [(69, 14), (69, 23)] υ (zwr (zwr υ 69 14 0) 69 23 (nI n)) := (fr_w (Or.inr (by decide))).w (Or.inr (by decide))
  have g14 : (zwr (zwr υ 69 14 0) 69 23 (nI n)).1 69 14 = 0 := by
    rw [zwr_ne (by decide)]
    exact zwr_at
  have g23 : (zwr (zwr υ 69 14 0) 69 23 (nI n)).1 69 23 = nI n := zwr_at
  generalize zwr (zwr υ 69 14 0) 69 23 (nI n) = σ at f1 g14 g23
  have k22 : σ.1 69 22 = nI n := (f1.rd (by decide) (by decide)).trans h22
  have k20 : σ.1 69 20 = nI s := (f1.rd (by decide) (by decide)).trans h20
  refine wp_for (fun k z => z.1 = nI k ∧ fr [83] [] σ z.2 ∧ ∀ j, j < k → z.2.1 83 j = σ.1 77 j) s (by omega) (fun k w z hk hI next => ?_) (fun w z hI => ?_) ⟨rfl, fr.rf, fun j hj => absurd hj (Nat.not_lt_zero j)⟩
  · obtain ⟨x, τ⟩ := z
    simp only at hI
    obtain ⟨i1, i2, i3⟩ := hI
    subst i1
    show wp (F_X12_law_110 w (nI k) τ) _
    unfold F_X12_law_110
    rw [i2.rd (c := 69) (by decide) (by decide), k20, if_neg (by rw [nI_lep (by omega)]; omega), gd_n (by omega), gd_n (by omega), nI_cl (by omega), nm_s, nI_1, nm_s]
    refine next _ ⟨rfl, i2.w (Or.inl (by decide)), fun j hj => ?_⟩
    show (zwr τ 83 k (τ.1 77 k)).1 83 j = σ.1 77 j
    rw [zwr_c]
    by_cases z : j = k
    · subst z
      rw [pk_us, i2.row (c := 77) (by decide)]
    · rw [pk_un z]
      exact i3 j (by omega)
  · obtain ⟨x, τ⟩ := z
    simp only at hI
    obtain ⟨i1, i2, i3⟩ := hI
    subst i1
    show wp (F_X12_law_110 w (nI s) τ) _
    unfold F_X12_law_110 F_X12_law_136
    rw [i2.rd (c := 69) (by decide) (by decide), k20, if_pos (by rw [nI_lep (by omega)]; omega)]
    refine wp_for (fun k z => z.1 = nI k ∧ fr [84, 85, 86, 87] [] τ z.2 ∧ ∀ c, c < k → z.2.1 84 c = τ.1 79 c ∧ z.2.1 85 c = τ.1 80 c ∧ z.2.1 86 c = τ.1 81 c ∧ z.2.1 87 c = τ.1 82 c) n (by omega) (fun k w z hk hI next => ?_) (fun w z hI => ?_) ⟨rfl, fr.rf, fun j hj => absurd hj (Nat.not_lt_zero j)⟩
    · obtain ⟨x, ω⟩ := z
      simp only at hI
      obtain ⟨j1, j2, j3⟩ := hI
      subst j1
      show wp (F_X12_law_138 w (nI k) ω) _
      unfold F_X12_law_138
      rw [j2.rd (c := 69) (by decide) (by decide), i2.rd (c := 69) (by decide) (by decide), k22, if_neg (by rw [nI_lep (by omega)]; omega), gd_n (by omega), gd_n (by omega), nI_cl (by omega), nm_s, gd_n (by omega), gd_n (by omega), nm_s, gd_n (by omega), gd_n (by omega), nm_s, gd_n (by omega), gd_n (by omega), nm_s, nI_1, nm_s]
      refine next _ ⟨rfl, (((j2.w (Or.inl (by decide))).w (Or.inl (by decide))).w (Or.inl (by decide))).w (Or.inl (by decide)), fun c hc => ?_⟩
      have r79 : ω.1 79 = τ.1 79 := j2.row (by decide)
      have r80 : ω.1 80 = τ.1 80 := j2.row (by decide)
      have r81 : ω.1 81 = τ.1 81 := j2.row (by decide)
      have r82 : ω.1 82 = τ.1 82 := j2.row (by decide)
      by_cases z : c = k
      · subst z
        refine ⟨?_, ?_, ?_, ?_⟩
        · rw [zwr_n (by decide), zwr_n (by decide), zwr_n (by decide), zwr_at, r79]
        · rw [zwr_n (by decide), zwr_n (by decide), zwr_at, zwr_n (by decide), r80]
        · rw [zwr_n (by decide), zwr_at, zwr_n (by decide), zwr_n (by decide), r81]
        · rw [zwr_at, zwr_n (by decide), zwr_n (by decide), zwr_n (by decide), r82]
      · obtain ⟨y1, y2, y3, y4⟩ := j3 c (by omega)
        refine ⟨?_, ?_, ?_, ?_⟩
        · rw [zwr_n (by decide), zwr_n (by decide), zwr_n (by decide), zwr_c, pk_un z, y1]
        · rw [zwr_n (by decide), zwr_n (by decide), zwr_c, pk_un z, zwr_n (by decide), y2]
        · rw [zwr_n (by decide), zwr_c, pk_un z, zwr_n (by decide), zwr_n (by decide), y3]
        · rw [zwr_c, pk_un z, zwr_n (by decide), zwr_n (by decide), zwr_n (by decide), y4]
    · obtain ⟨x, ω⟩ := z
      simp only at hI
      obtain ⟨j1, j2, j3⟩ := hI
      subst j1
      show wp (F_X12_law_138 w (nI n) ω) _
      unfold F_X12_law_138
      have o22 : ω.1 69 22 = nI n := by rw [j2.rd (by decide) (by decide), i2.rd (by decide) (by decide), k22]
      rw [o22, if_pos (by rw [nI_lep (by omega)]; omega)]
      refine wp_some ⟨rfl, (f1.tr (i2.mono (by decide))).tr (j2.mono (by decide)), ?_, ?_, fun j hj => ?_, fun c hc => ?_⟩
      · rw [j2.rd (by decide) (by decide), i2.rd (by decide) (by decide), g14]
      · rw [j2.rd (by decide) (by decide), i2.rd (by decide) (by decide), g23]
      · rw [j2.row (c := 83) (by decide), i3 j hj, f1.row (c := 77) (by decide)]
      · obtain ⟨y1, y2, y3, y4⟩ := j3 c hc
        refine ⟨?_, ?_, ?_, ?_⟩
        · rw [y1, i2.row (c := 79) (by decide), f1.row (c := 79) (by decide)]
        · rw [y2, i2.row (c := 80) (by decide), f1.row (c := 80) (by decide)]
        · rw [y3, i2.row (c := 81) (by decide), f1.row (c := 81) (by decide)]
        · rw [y4, i2.row (c := 82) (by decide), f1.row (c := 82) (by decide)]
/-- a clause as it stands in the law -/
def KMf (σ : zSt) (c : Nat) (k : Nat × lDen × lDen) : Prop := ∃ a b e, σ.1 84 c = nI k.1 ∧ σ.1 85 c = nI a ∧ σ.1 86 c = nI b ∧ σ.1 87 c = nI e ∧ CM (σ.1 83) a b 15 k.2.1 ∧ CM (σ.1 83) b e 15 k.2.2 ∧ e ≤ 240
def mLs : List (Nat × Nat) := [(69, 15), (69, 17), (69, 18), (69, 19), (69, 20), (69, 21), (69, 22), (69, 14), (69, 16), (69, 23)]
def LwM (σ : zSt) (res : Sum Int32 (Nat × lCl)) (r : Int32) (τ : zSt) : Prop := τ.1 69 14 = 0 ∧ match res with
  | Sum.inl E => r = E ∧ fr LM ((69, 14) :: SM) σ τ
  | Sum.inr (n, cl) => r = nI n ∧ fr ([83, 84, 85, 86, 87] ++ LM) ((69, 14) :: (69, 23) :: SM) σ τ ∧ τ.1 69 23 = nI n ∧ ∀ c, c < n → KMf τ c (cl c)
theorem T_in_l240 {x : Int32} {σ : zSt} : F_X12_in x 1 240 σ = some (bI (1 ≤ x.toInt ∧ x.toInt ≤ 240), σ) := T_in
theorem T_mLaw {tp : Nat → Nat} {N m : Nat} {σ : zSt} (h1 : 1 ≤ N) (h2 : N ≤ 240) (hm : m ≤ 260) (e : σ.1 69 14 = nI m) (h3 : N ≤ m) (ht : ∀ j, j < N → tp j < 256 ∧ σ.1 76 j = sb (tp j)) : wp (F_X12_law (nI N) σ) (LwM σ (lawT tp N 300 0 0 lcl0)) := by
  unfold F_X12_law F_X12_law_0
  rw [T_in_l240, bd_s, bI_t (by rw [i_nI (by omega)]; omega), if_neg (show ¬ (1 : Int32) = 0 by decide), e, if_pos (by rw [nI_lep (by omega)]; exact h3)]
  refine wp_let (fun a ha => ?_)
  refine wp_let (fun b hb => ?_)
  refine wp_let (fun c hc => ?_)
  refine wp_let (fun d hd => ?_)
  have fd : fr LM ((69, 14) :: SM) σ d := by
    rw [hd, hc, hb, ha]
    exact (((fr_w (Or.inr (by decide))).w (Or.inr (by decide))).w (Or.inr (by decide))).w (Or.inr (by decide))
  have hM : MQs tp N 0 0 d := by
    refine ⟨⟨by omega, ?_, fun j hj => ⟨(ht j hj).1, ?_⟩⟩, h2, ?_, ?_, Nat.zero_le N, Nat.le_refl 0⟩
    · rw [hd, zwr_ne (by decide), hc, zwr_ne (by decide), hb, zwr_at]
    · rw [fd.row (c := 76) (by decide)]
      exact (ht j hj).2
    · rw [hd, zwr_ne (by decide), hc, zwr_ne (by decide), hb, zwr_ne (by decide), ha, zwr_at]
      rfl
    · rw [hd, zwr_ne (by decide), hc, zwr_at]
      rfl
  have h22 : d.1 69 22 = nI 0 := by
    rw [hd, zwr_at]
    rfl
  obtain ⟨r, τ, e2, hQ⟩ := T_mClause (m := 0) hM h22 (by omega)
  rw [e2, bd_s]
  obtain ⟨υ, f2, hR⟩ := T_mReadL (tp := tp) (N := N) 300 zlim 0 0 0 lcl0 d r τ (by omega) (by show 300 < 1000000; omega) (by omega) hM (fun c hc => absurd hc (Nat.not_lt_zero c)) hQ
  have f3 : fr LM ((69, 14) :: SM) σ υ := fd.tr (f2.mono (by decide))
  cases es : lawT tp N 300 0 0 lcl0 with
  | inl E =>
    rw [es] at hR
    obtain ⟨a1, a2⟩ := hR
    rw [a1]
    unfold F_X12_law_86
    rw [nm_s, if_pos rfl, zwr_ne (by decide), a2]
    exact wp_some ⟨zwr_at, rfl, f3.w (Or.inr (by decide))⟩
  | inr nc =>
    obtain ⟨n, cl⟩ := nc
    rw [es] at hR
    obtain ⟨a1, a2, a3, s, a4, a5, a6⟩ := hR
    rw [a1]
    refine wp_mono (T_law86 a2.2 a4 a3 a5) (fun r ω hω => ?_)
    obtain ⟨b1, b2, b3, b4, b5, b6⟩ := hω
    refine ⟨b3, b1, (f3.mono (by decide)).tr (b2.mono (by decide)), b4, fun c hc => ?_⟩
    obtain ⟨x, y, z, c1, c2, c3, c4, c5, c6, c7⟩ := a6 c hc
    obtain ⟨d1, d2, d3, d4⟩ := b6 c hc
    have := c6.1
    exact ⟨x, y, z, d1.trans c1, d2.trans c2, d3.trans c3, d4.trans c4, CM_on c5 (fun j _ j2 => b5 j (by omega)), CM_on c6 (fun j _ j2 => b5 j (by omega)), by omega⟩
