/-! PURE: the law, the reference reads numbers and factors -/
theorem dg_let {b : Nat} (h : ¬ dgB b = none) : letB b = none := by
  unfold dgB at h
  by_cases q : 48 ≤ b ∧ b ≤ 57
  · unfold letB
    rw [if_neg (by omega), if_neg (by omega), if_neg (by omega), if_neg (by omega), if_neg (by omega), if_neg (by omega), if_neg (by omega), if_neg (by omega), if_neg (by omega)]
  · rw [if_neg q] at h
    exact absurd rfl h
def OutN (tp : Nat → Nat) (N s w o p0 : Nat) (σ0 : zSt) (x : Option (Int32 × zSt)) (res : lRes) : Prop := match res with
  | Sum.inl E => ∃ τ, x = some ((0 : Int32), τ) ∧ τ.1 69 17 = E ∧ fr [77, 78] mSl σ0 τ
  | Sum.inr (q, den) => ∃ τ u, x = some ((1 : Int32), τ) ∧ MPs tp N q s w o τ ∧ mfr s w σ0 τ ∧ τ.1 69 18 = nI u ∧ u < 1048576 ∧ den = (fun _ => some (nI u)) ∧ p0 < q
theorem T_mNum {tp : Nat → Nat} {N s w o p0 : Nat} {σ0 : zSt} : ∀ F fu k v (σ : zSt), F + k = 7 → k ≤ 5 → F ≤ fu → v < 10 ^ k → MPs tp N (p0 + k) s w o σ → mfr s w σ0 σ → σ.1 69 18 = nI v → (k = 0 → ¬ (chN tp N (p0 + k)).bind dgB = none) → OutN tp N s w o p0 σ0 (zfix (F_X12_readsNumber_10L (nI p0)) fu σ) (numS tp N F (p0 + k) k v) := by
  intro F
  induction F with
  | zero =>
    intro fu k v σ h1 h2
    omega
  | succ F ih =>
    intro fu k v σ h1 h2 h3 h4 h5 h6 h7 h8
    obtain ⟨fu, rfl⟩ : ∃ g, fu = g + 1 := ⟨fu - 1, by omega⟩
    have h24 := h5.2.1
    have hpN := h5.2.2.2.2.2.2.1
    have hD := T_digitM h5.1 h5.2.2.1 (by omega)
    have e0 : zfix (F_X12_readsNumber_10L (nI p0)) (fu + 1) σ = F_X12_readsNumber_10 (nI p0) (zfix (F_X12_readsNumber_10L (nI p0)) fu) σ := rfl
    rw [e0]
    unfold F_X12_readsNumber_10 numS
    rw [hD, bd_s]
    cases ec : (chN tp N (p0 + k)).bind dgB with
    | none =>
      have k0 : ¬ k = 0 := fun z => h8 z ec
      rw [if_pos (bI_f (fun z => z rfl))]
      show OutN tp N s w o p0 σ0 (some ((1 : Int32), σ)) (if k = 0 then Sum.inl (flt 1 (p0 + k)) else Sum.inr (p0 + k, fun _ => some (nI v)))
      rw [if_neg k0]
      have := Nat.pow_le_pow_right (n := 10) (by decide) h2
      exact ⟨σ, v, rfl, h5, h6, h7, by omega, rfl, by omega⟩
    | some dd =>
      obtain ⟨b, eb, ed⟩ : ∃ b, chN tp N (p0 + k) = some b ∧ dgB b = some dd := by
        cases eb : chN tp N (p0 + k) with
        | none =>
          rw [eb] at ec
          cases ec
        | some b =>
          rw [eb] at ec
          exact ⟨b, rfl, ec⟩
      have hdd := dgB_lt ed
      rw [if_neg (by rw [bI_t (by exact fun z => by cases z)]; decide), h5.2.2.1, show nI p0 + (5 : Int32) = nI (p0 + 5) from nI_add p0 5]
      show OutN tp N s w o p0 σ0 _ (if k = 5 then Sum.inl (flt 2 (p0 + k)) else numS tp N F (p0 + k + 1) (k + 1) (10 * v + dd))
      by_cases q5 : k = 5
      · rw [if_pos (by rw [q5]), if_pos q5]
        unfold F_X12_readsNumber_27
        rw [h5.2.2.1, T_wrong2, bd_s, g01_0]
        exact ⟨_, rfl, zwr_at, h6.1.w (Or.inr (by decide))⟩
      rw [if_neg (by rw [nI_eqp (by omega)]; omega), if_neg q5, h5.here, bd_s, nm_s, zwr_ne (by decide), h5.2.2.1, nI_1, nm_s, h7, eb, show (10 : Int32) * nI v + e1 (some b) - 48 = nI (10 * v + dd) by
        show (10 : Int32) * nI v + nI b - 48 = nI (10 * v + dd)
        rw [show (10 : Int32) * nI v = nI (10 * v) from pk_mul 10 v, nI_add, show nI (10 * v + b) - (48 : Int32) = nI (10 * v + b - 48) from pk_sub (a := 10 * v + b) (b := 48) (by omega), show 10 * v + b - 48 = 10 * v + dd by omega]]
      have f1 : mfr s w σ (zwr σ 69 18 (nI (10 * v + dd))) := mfr_w (by decide)
      have hM : MPs tp N (p0 + k) s w o (zwr σ 69 18 (nI (10 * v + dd))) := ⟨TXm_mf h5.1 f1, h24, by rw [zwr_ne (by decide)]; exact h5.2.2.1, by rw [zwr_ne (by decide)]; exact h5.2.2.2.1, by rw [zwr_ne (by decide)]; exact h5.2.2.2.2.1, by rw [zwr_ne (by decide)]; exact h5.2.2.2.2.2.1, h5.2.2.2.2.2.2⟩
      obtain ⟨g0, g1, g2⟩ := hM.step eb
      have hv : 10 * v + dd < 10 ^ (k + 1) := by
        rw [Nat.pow_succ]
        omega
      exact ih fu (k + 1) (10 * v + dd) _ (by omega) (by omega) (by omega) hv g1 (h6.tr (f1.tr g2)) (by rw [zwr_ne (by decide)]; exact zwr_at) (fun z => by omega)
theorem T_mFac {tp : Nat → Nat} {N b g d d2 : Nat} {sub : Nat → lRes} (hg : g ≤ 6) (h1 : 1 ≤ d) (h2 : d2 ≤ d) (hsub : ¬ g = 0 → ∀ ff f p s w (σ : zSt), MPs tp N p s w (6 - (g - 1)) σ → topOK w σ → b ≤ w → N < ff + p → N < f + p → OutS tp N b s p w (6 - (g - 1)) d2 σ (FSf b ff f σ) (sub p)) : ∀ ff f p s w (σ : zSt), MPs tp N p s w (6 - g) σ → b ≤ w → N < ff + p → N < f + p → OutF tp N b s w (6 - g) d p σ (FSf b ff f σ) (facS tp N sub g p) := by
  intro ff f p s w σ hP hb hff hf
  have h24 := hP.2.1
  have hpN := hP.2.2.2.2.2.2.1
  have hsp := hP.2.2.2.2.2.2.2.1
  obtain ⟨ff, rfl⟩ : ∃ k, ff = k + 1 := ⟨ff - 1, by omega⟩
  have e0 : FSf b (ff + 1) f σ = bd (F_X12_readsFactor_0 (zfix F_X12_readsFactor_0L ff) σ) (fun q s => if q = 0 then some ((0 : Int32), s) else lawLS b f s) := rfl
  rw [e0]
  unfold F_X12_readsFactor_0 facS
  rw [hP.here, bd_s]
  by_cases q : chN tp N p = some 91
  · rw [if_pos (by rw [show (91 : Int32) = nI 91 from rfl, hP.eq (by omega)]; exact q), if_pos q]
    by_cases g0 : g = 0
    · subst g0
      rw [if_pos rfl, T_mOpens6 hP, bd_s, if_pos rfl, bd_s, if_pos rfl]
      exact ⟨_, rfl, zwr_at, fr_w (Or.inr (by decide))⟩
    rw [if_neg g0]
    obtain ⟨σ2, a1, a2, a3, a4⟩ := T_mOpens (op := 14) hP q (by omega)
    rw [show (14 : Int32) = nI 14 from rfl, a1, bd_s, if_neg (show ¬ (1 : Int32) = 0 by decide)]
    rw [show 6 - g + 1 = 6 - (g - 1) by omega] at a2
    have hS := hsub g0 ff f (p + 1) s (w + 1) σ2 a2 (Or.inr ⟨14, 0, by omega, by omega, by omega, a4⟩) (by omega) (by omega) (by omega)
    show OutF tp N b s w (6 - g) d p σ (FSf b ff f σ2) _
    cases es : sub (p + 1) with
    | inl E =>
      rw [es] at hS
      obtain ⟨τ, z1, z2, z3⟩ := hS
      exact ⟨τ, z1, z2, a3.1.tr z3⟩
    | inr qv =>
      obtain ⟨q', v⟩ := qv
      rw [es] at hS
      obtain ⟨f1, τ, t, W, t2, τ', ⟨b1, b2, b3, b4⟩, ⟨b5, b6, b7, b8⟩, b9, c1, c2, c3, c4, c5⟩ := hS
      have hq' := b5.2.2.2.2.2.2.1
      obtain ⟨f2, rfl⟩ : ∃ k, f1 = k + 1 := ⟨f1 - 1, by omega⟩
      have hw : F_X12_hasOpenSum (nI b) τ = some (1, τ) := by
        refine T_open1 b5.2.2.2.2.1 (by have := b5.2.2.2.2.2.2.2.2; omega) hb (by omega) ?_
        rw [b8.2.2 w (Nat.lt_succ_self w), a4, oI_div (by omega)]
        rfl
      have sg : (if isMul (chN tp N q') = true ∨ isAdd (chN tp N q') = true then nI (opM ((chN tp N q').getD 0)) else (-1 : Int32)) = -1 := if_neg (fun z => z.elim b3 b4)
      rw [b1]
      show OutF tp N b s w (6 - g) d p σ (F_X12_readsSum_14 (nI b) (zfix (F_X12_readsSum_14L (nI b)) f2) τ) (if chN tp N q' = some 93 then Sum.inr (q' + 1, v) else Sum.inl (flt 1 q'))
      unfold F_X12_readsSum_14
      rw [b5.here, bd_s, T_sumSign (fun b hb => b5.b b hb), bd_s, sg, if_pos rfl, b5.here, bd_s]
      by_cases q2 : chN tp N q' = some 93
      · rw [if_pos (by rw [show (93 : Int32) = nI 93 from rfl, b5.eq (by omega)]; exact q2), if_pos q2, hw, bd_s, if_neg (show ¬ (1 : Int32) = 0 by decide), b9, bd_s]
        obtain ⟨k1, k2, k3⟩ := c1.pop
        rw [show 6 - (g - 1) = 6 - g + 1 by omega] at k2
        obtain ⟨l1, l2, l3⟩ := k2.deep (by omega)
        obtain ⟨m1, m2, m3⟩ := l2.step q2
        rw [k1, nm_s, l1, nm_s, m1, nm_s]
        have fr1 : mfr s w σ τ' := a3.tr (c2.dn (by omega))
        have fr2 : mfr t2 w τ' (zwr (zwr (zwr τ' 69 21 (nI w)) 69 19 (nI (6 - g))) 69 15 (nI (q' + 1))) := (k3.tr l3).tr m3
        refine ⟨f2, _, t2, rfl, by omega, m2, fr1.tr (fr2.dn (by omega)), ?_, c4, by omega⟩
        exact CM_up (CM_on c3 (fun j j1 j2 => fr2.2.1 j j2)) h2
      · rw [if_neg (by rw [show (93 : Int32) = nI 93 from rfl, b5.eq (by omega)]; exact q2), if_neg q2]
        unfold F_X12_readsSum_138
        rw [hw, bd_s, if_neg (show ¬ (1 : Int32) = 0 by decide), b5.2.2.1, T_wrong1, bd_s, g01_0]
        exact ⟨_, rfl, zwr_at, (a3.1.tr b8.1).w (Or.inr (by decide))⟩
  rw [if_neg (by rw [show (91 : Int32) = nI 91 from rfl, hP.eq (by omega)]; exact q), if_neg q]
  unfold F_X12_readsFactor_20
  rw [T_digitM hP.1 hP.2.2.1 (by omega), bd_s]
  by_cases dz : (chN tp N p).bind dgB = none
  · rw [if_pos (bI_f (fun z => z dz)), hP.here, bd_s, T_factOf (fun b hb => hP.b b hb), bd_s]
    cases ek : (chN tp N p).bind letB with
    | none =>
      rw [if_pos (show e1 none = -1 from rfl), hP.2.2.1, T_wrong1, bd_s, g01_0, bd_s, if_pos rfl]
      show OutF tp N b s w (6 - g) d p σ _ (numS tp N 7 p 0 0)
      rw [numS, dz]
      exact ⟨_, rfl, zwr_at, fr_w (Or.inr (by decide))⟩
    | some k =>
      obtain ⟨c, eb, el⟩ : ∃ c, chN tp N p = some c ∧ letB c = some k := by
        cases eb : chN tp N p with
        | none =>
          rw [eb] at ek
          cases ek
        | some c =>
          rw [eb] at ek
          exact ⟨c, rfl, ek⟩
      have hk := letB_lt el
      have hp1 := chN_in eb
      rw [if_neg (show ¬ e1 (some k) = -1 from e1_n (by omega))]
      have hn := T_notes (op := 1) (v := k) hP.2.2.2.1 (by omega)
      rw [show (1 : Int32) = nI 1 from rfl, show e1 (some k) = nI k from rfl, hn, bd_s, zwr_ne (by decide), zwr_n (by decide), hP.2.2.1]
      have hf1 : mfr s w σ (zwr (zwr (zwr σ 77 s (oI 1 k)) 69 20 (nI (s + 1))) 69 15 (nI (p + 1))) := ((mfr_c (Nat.le_refl s)).tr (mfr_w (by decide))).tr (mfr_w (by decide))
      rw [show nI p + nI 1 = nI (p + 1) from nI_add p 1, nm_s, bd_s, if_neg (show ¬ nI 1 = 0 by decide)]
      refine ⟨f, _, s + 1, rfl, by omega, ⟨TXm_mf hP.1 hf1, h24, zwr_at, ?_, ?_, ?_, by omega, by omega, by have := hP.2.2.2.2.2.2.2.2; omega⟩, hf1, CM_up (CM_let hk ?_) h1, by omega, by omega⟩
      · rw [zwr_ne (by decide)]
        exact zwr_at
      · rw [zwr_ne (by decide), zwr_ne (by decide), zwr_n (by decide)]
        exact hP.2.2.2.2.1
      · rw [zwr_ne (by decide), zwr_ne (by decide), zwr_n (by decide)]
        exact hP.2.2.2.2.2.1
      · rw [zwr_n (by decide), zwr_n (by decide), zwr_c, pk_us]
  · rw [if_neg (by rw [bI_t dz]; decide)]
    have ek : (chN tp N p).bind letB = none := by
      cases eb : chN tp N p with
      | none => rfl
      | some c =>
        rw [eb] at dz
        exact dg_let dz
    rw [ek]
    show OutF tp N b s w (6 - g) d p σ _ (numS tp N 7 p 0 0)
    unfold F_X12_readsNumber F_X12_readsNumber_0
    rw [hP.2.2.1, nm_s]
    have f1 : mfr s w σ (zwr σ 69 18 0) := mfr_w (by decide)
    have hM : MPs tp N (p + 0) s w (6 - g) (zwr σ 69 18 0) := ⟨TXm_mf hP.1 f1, h24, by rw [zwr_ne (by decide)]; exact hP.2.2.1, by rw [zwr_ne (by decide)]; exact hP.2.2.2.1, by rw [zwr_ne (by decide)]; exact hP.2.2.2.2.1, by rw [zwr_ne (by decide)]; exact hP.2.2.2.2.2.1, hP.2.2.2.2.2.2⟩
    have hN := T_mNum (p0 := p) (σ0 := σ) 7 zlim 0 0 _ (by omega) (by omega) (by show 7 ≤ 1000000; omega) (by decide) hM f1 zwr_at (fun _ => dz)
    rw [Nat.add_zero] at hN
    cases en : numS tp N 7 p 0 0 with
    | inl E =>
      rw [en] at hN
      obtain ⟨τ, a1, a2, a3⟩ := hN
      rw [a1, bd_s, if_pos rfl, bd_s, if_pos rfl]
      exact ⟨τ, rfl, a2, a3⟩
    | inr qv =>
      obtain ⟨q', den⟩ := qv
      rw [en] at hN
      obtain ⟨τ, u, a1, a2, a3, a4, a5, a6, a7⟩ := hN
      rw [a1, bd_s, if_neg (show ¬ (1 : Int32) = 0 by decide), a4]
      obtain ⟨τ1, b1, b2, b3, b4, b5⟩ := T_mNote (op := 0) (v := u) a2 (by omega)
      rw [show (0 : Int32) = nI 0 from rfl, b1, bd_s, bd_s, if_neg (show ¬ (1 : Int32) = nI 0 by decide), a6]
      exact ⟨f, τ1, s + 1, rfl, by omega, b2, a3.tr b3, CM_up (CM_num a5 b4) h1, by omega, by omega⟩
theorem T_mSumS {tp : Nat → Nat} {N b : Nat} : ∀ g, g ≤ 6 → ∀ ff f p s w (σ : zSt), MPs tp N p s w (6 - g) σ → topOK w σ → b ≤ w → N < ff + p → N < f + p → OutS tp N b s p w (6 - g) (3 + 2 * g) σ (FSf b ff f σ) (sumS tp N g p) := by
  have key : ∀ g (sub : Nat → lRes), g ≤ 6 → (¬ g = 0 → ∀ ff f p s w (σ : zSt), MPs tp N p s w (6 - (g - 1)) σ → topOK w σ → b ≤ w → N < ff + p → N < f + p → OutS tp N b s p w (6 - (g - 1)) (1 + 2 * g) σ (FSf b ff f σ) (sub p)) → ∀ ff f p s w (σ : zSt), MPs tp N p s w (6 - g) σ → topOK w σ → b ≤ w → N < ff + p → N < f + p → OutS tp N b s p w (6 - g) (3 + 2 * g) σ (FSf b ff f σ) (sumL tp N (facS tp N sub g) 300 p none none) := by
    intro g sub hg hsub ff f p s w σ hP ht hb hff hf
    rw [show 3 + 2 * g = 1 + 2 * g + 2 by omega]
    exact T_mSumL (T_mFac (b := b) hg (by omega) (Nat.le_refl (1 + 2 * g)) hsub) hb 300 ff f p s s none none σ (by have := hP.2.1; omega) hff hf ⟨hP, rfl, rfl, trivial, trivial, fun c v e => (by cases e), fun c v e => (by cases e), ht, by show s + 0 + 0 + p ≤ s + p; omega, hP.2.2.2.2.2.2.2.1⟩ mfr.rf
  intro g
  induction g with
  | zero =>
    intro hg
    exact key 0 _ hg (fun z => absurd rfl z)
  | succ g ih =>
    intro hg
    refine key (g + 1) (sumS tp N g) hg (fun _ ff f p s w σ h1 h2 h3 h4 h5 => ?_)
    have := ih (by omega) ff f p s w σ h1 h2 h3 h4 h5
    rw [show 3 + 2 * g = 1 + 2 * (g + 1) by omega] at this
    exact this
/-- a whole sum -/
theorem T_mSum {tp : Nat → Nat} {N g p s w : Nat} {σ : zSt} (hg : g ≤ 6) (hP : MPs tp N p s w (6 - g) σ) (ht : topOK w σ) : match (motive := lRes → Prop) sumS tp N g p with
  | Sum.inl E => ∃ τ, F_X12_readsSum σ = some ((0 : Int32), τ) ∧ τ.1 69 17 = E ∧ fr [77, 78] mSl σ τ
  | Sum.inr (q, v) => ∃ τ t, F_X12_readsSum σ = some ((1 : Int32), τ) ∧ MPs tp N q t w (6 - g) τ ∧ mfr s w σ τ ∧ CM (τ.1 77) s t (3 + 2 * g) v ∧ s < t ∧ t + p ≤ s + q := by
  have h24 := hP.2.1
  have hS := T_mSumS (tp := tp) (N := N) (b := w) g hg zlim zlim p s w σ hP ht (Nat.le_refl w) (by show N < 1000000 + p; omega) (by show N < 1000000 + p; omega)
  have e0 : F_X12_readsSum σ = FSf w zlim zlim σ := by
    unfold F_X12_readsSum F_X12_readsSum_0
    rw [hP.2.2.2.2.1]
    rfl
  rw [e0]
  cases es : sumS tp N g p with
  | inl E =>
    rw [es] at hS
    exact hS
  | inr qv =>
    obtain ⟨q', v⟩ := qv
    rw [es] at hS
    obtain ⟨f1, τ, t, W, t2, τ', ⟨b1, b2, b3, b4⟩, ⟨b5, b6, b7, b8⟩, b9, c1, c2, c3, c4, c5⟩ := hS
    have hq' := b5.2.2.2.2.2.2.1
    obtain ⟨f2, rfl⟩ : ∃ k, f1 = k + 1 := ⟨f1 - 1, by omega⟩
    have hw : F_X12_hasOpenSum (nI w) τ = some (0, τ) := T_open0 b5.2.2.2.2.1 (by have := b5.2.2.2.2.2.2.2.2; omega) b6 b7
    have sg : (if isMul (chN tp N q') = true ∨ isAdd (chN tp N q') = true then nI (opM ((chN tp N q').getD 0)) else (-1 : Int32)) = -1 := if_neg (fun z => z.elim b3 b4)
    have e1' : FSf w zlim zlim σ = some ((1 : Int32), τ') := by
      rw [b1]
      show F_X12_readsSum_14 (nI w) (zfix (F_X12_readsSum_14L (nI w)) f2) τ = _
      have e138 : F_X12_readsSum_138 (nI w) τ = some ((1 : Int32), τ') := by
        unfold F_X12_readsSum_138
        rw [hw, bd_s, if_pos rfl, b9, bd_s]
      unfold F_X12_readsSum_14
      rw [b5.here, bd_s, T_sumSign (fun b hb => b5.b b hb), bd_s, sg, if_pos rfl, b5.here, bd_s]
      by_cases q2 : chN tp N q' = some 93
      · rw [if_pos (by rw [show (93 : Int32) = nI 93 from rfl, b5.eq (by omega)]; exact q2), hw, bd_s, if_pos rfl]
        exact e138
      · rw [if_neg (by rw [show (93 : Int32) = nI 93 from rfl, b5.eq (by omega)]; exact q2)]
        exact e138
    exact ⟨τ', t2, e1', c1, c2, c3, c4, c5⟩
