/-! PURE: the law, the reference reads conditions, by levels -/
theorem cmpS_bo {tp : Nat → Nat} {N g p q : Nat} {v : lDen} (h : cmpS tp N g p = Sum.inr (q, v)) : lBo v := by
  unfold cmpS at h
  cases es : sumS tp N g p with
  | inl E =>
    rw [es] at h
    cases h
  | inr qa =>
    obtain ⟨z, a⟩ := qa
    rw [es] at h
    replace h : (if isCmp (chN tp N z) = true then (match sumS tp N g (z + 1) with
      | Sum.inl f => Sum.inl f
      | Sum.inr (r, b) => Sum.inr (r, lBin ((chN tp N z).getD 0) a b)) else Sum.inl (flt 1 z)) = (Sum.inr (q, v) : lRes) := h
    by_cases q1 : isCmp (chN tp N z) = true
    · rw [if_pos q1] at h
      obtain ⟨c, ec, hc⟩ := cmpB q1
      cases et : sumS tp N g (z + 1) with
      | inl E =>
        rw [et] at h
        cases h
      | inr rb =>
        obtain ⟨r, b⟩ := rb
        rw [et] at h
        cases h
        rw [show (chN tp N z).getD 0 = c by rw [ec]; rfl]
        exact lBo_cmp hc
    · rw [if_neg q1] at h
      cases h
theorem conL_bo {tp : Nat → Nat} {N : Nat} {pie : Nat → lRes} (hp : ∀ p q v, pie p = Sum.inr (q, v) → lBo v) : ∀ F p D A q v, lBo D → lBo A → conL tp N pie F p D A = Sum.inr (q, v) → lBo v := by
  intro F
  induction F with
  | zero =>
    intro p D A q v _ _ h
    cases h
  | succ F ih =>
    intro p D A q v hD hA h
    unfold conL at h
    cases es : pie p with
    | inl E =>
      rw [es] at h
      cases h
    | inr qa =>
      obtain ⟨z, P⟩ := qa
      rw [es] at h
      have hP := hp p z P es
      replace h : (if chN tp N z = some 38 then conL tp N pie F (z + 1) D (lAnd A P) else if chN tp N z = some 124 then conL tp N pie F (z + 1) (lOr D (lAnd A P)) lOne else Sum.inr (z, lOr D (lAnd A P))) = Sum.inr (q, v) := h
      by_cases q1 : chN tp N z = some 38
      · rw [if_pos q1] at h
        exact ih _ _ _ _ _ hD (lBo_and hA hP) h
      rw [if_neg q1] at h
      by_cases q2 : chN tp N z = some 124
      · rw [if_pos q2] at h
        exact ih _ _ _ _ _ (lBo_or hD (lBo_and hA hP)) lBo_one h
      rw [if_neg q2] at h
      cases h
      exact lBo_or hD (lBo_and hA hP)
theorem pieS_bo {tp : Nat → Nat} {N : Nat} : ∀ g p q v, pieS tp N g p = Sum.inr (q, v) → lBo v := by
  intro g
  induction g with
  | zero =>
    intro p q v h
    unfold pieS at h
    by_cases q1 : chN tp N p = some 33 ∨ chN tp N p = some 40
    · rw [if_pos q1] at h
      cases h
    · rw [if_neg q1] at h
      exact cmpS_bo h
  | succ g ih =>
    intro p q v h
    unfold pieS at h
    by_cases q1 : chN tp N p = some 33
    · rw [if_pos q1] at h
      cases es : pieS tp N g (p + 1) with
      | inl E =>
        rw [es] at h
        cases h
      | inr qa =>
        obtain ⟨z, P⟩ := qa
        rw [es] at h
        cases h
        exact lBo_not (ih _ _ _ es)
    rw [if_neg q1] at h
    by_cases q2 : chN tp N p = some 40
    · rw [if_pos q2] at h
      cases es : conL tp N (pieS tp N g) 300 (p + 1) lZer lOne with
      | inl E =>
        rw [es] at h
        cases h
      | inr qa =>
        obtain ⟨z, P⟩ := qa
        rw [es] at h
        replace h : (if chN tp N z = some 41 then Sum.inr (z + 1, P) else Sum.inl (flt 1 z)) = (Sum.inr (q, v) : lRes) := h
        by_cases q3 : chN tp N z = some 41
        · rw [if_pos q3] at h
          cases h
          exact conL_bo ih 300 (p + 1) lZer lOne _ _ lBo_zer lBo_one es
        · rw [if_neg q3] at h
          cases h
    · rw [if_neg q2] at h
      exact cmpS_bo h
theorem bd_bd1 {α : Type} {x : Option (Unit × zSt)} {f : Int32 → zSt → Option α} : bd (bd x (fun _ s => some ((1 : Int32), s))) f = bd x (fun _ s => f 1 s) := by
  cases x with
  | none => rfl
  | some p =>
    obtain ⟨u, s⟩ := p
    rfl
def OutE (tp : Nat → Nat) (N s w o d p : Nat) (σ : zSt) (x : Option (Int32 × zSt)) (res : lRes) : Prop := match res with
  | Sum.inl E => ∃ τ, x = some ((0 : Int32), τ) ∧ τ.1 69 17 = E ∧ fr [77, 78] mSl σ τ
  | Sum.inr (q, v) => ∃ τ t, x = bd (F_X12_endsPiece τ) (fun _ s => some ((1 : Int32), s)) ∧ MPs tp N q t w o τ ∧ mfr s w σ τ ∧ CM (τ.1 77) s t d v ∧ s < t ∧ t + p ≤ s + q
/-- two sums compared -/
theorem T_mCmp {tp : Nat → Nat} {N g p s w : Nat} {σ : zSt} (hg : g ≤ 6) (hP : MPs tp N p s w (6 - g) σ) (ht : topOK w σ) : OutE tp N s w (6 - g) (4 + 2 * g) p σ (F_X12_readsCompared σ) (cmpS tp N g p) := by
  have h24 := hP.2.1
  have hsp := hP.2.2.2.2.2.2.2.1
  unfold F_X12_readsCompared F_X12_readsCompared_0 cmpS
  have hS := T_mSum hg hP ht
  cases es : sumS tp N g p with
  | inl E =>
    rw [es] at hS
    obtain ⟨τ, a1, a2, a3⟩ := hS
    rw [a1, bd_s, if_pos rfl]
    exact ⟨τ, rfl, a2, a3⟩
  | inr qv =>
    obtain ⟨q, a⟩ := qv
    rw [es] at hS
    obtain ⟨τ, t, a1, a2, a3, a4, a5, a6⟩ := hS
    have hqN := a2.2.2.2.2.2.2.1
    rw [a1, bd_s, if_neg (show ¬ (1 : Int32) = 0 by decide), a2.here, bd_s]
    show OutE tp N s w (6 - g) (4 + 2 * g) p σ _ (if isCmp (chN tp N q) = true then (match sumS tp N g (q + 1) with
      | Sum.inl f => Sum.inl f
      | Sum.inr (r, b) => Sum.inr (r, lBin ((chN tp N q).getD 0) a b)) else Sum.inl (flt 1 q))
    have e60 : (e1 (chN tp N q) = 60) = (chN tp N q = some 60) := a2.eq (c := 60) (by omega)
    have e61 : (e1 (chN tp N q) = 61) = (chN tp N q = some 61) := a2.eq (c := 61) (by omega)
    have e62 : (e1 (chN tp N q) = 62) = (chN tp N q = some 62) := a2.eq (c := 62) (by omega)
    by_cases q1 : isCmp (chN tp N q) = true
    · obtain ⟨c, ec, hc⟩ := cmpB q1
      rw [if_pos q1, show (chN tp N q).getD 0 = c by rw [ec]; rfl]
      have hop := @opM_lt c
      have k : OutE tp N s w (6 - g) (4 + 2 * g) p σ (F_X12_readsCompared_52 (nI (opM c)) τ) (match sumS tp N g (q + 1) with
        | Sum.inl f => Sum.inl f
        | Sum.inr (r, b) => Sum.inr (r, lBin c a b)) := by
        unfold F_X12_readsCompared_52
        obtain ⟨m1, m2, m3⟩ := a2.step ec
        rw [if_neg (e1_n (k := opM c) (by omega)), m1, nm_s]
        have hS2 := T_mSum hg m2 (topOK_f (topOK_f ht a3) m3)
        cases et : sumS tp N g (q + 1) with
        | inl E =>
          rw [et] at hS2
          obtain ⟨τ2, b1, b2, b3⟩ := hS2
          rw [b1, bd_s, if_pos rfl]
          exact ⟨τ2, rfl, b2, (a3.1.tr m3.1).tr b3⟩
        | inr rb =>
          obtain ⟨z, b⟩ := rb
          rw [et] at hS2
          obtain ⟨τ2, t2, b1, b2, b3, b4, b5, b6⟩ := hS2
          rw [b1, bd_s, if_neg (show ¬ (1 : Int32) = 0 by decide)]
          obtain ⟨τ3, c1, c2, c3, c4, c5⟩ := T_mNote (op := opM c) (v := 0) b2 (by omega)
          show OutE tp N s w (6 - g) (4 + 2 * g) p σ (bd (F_X12_notes (nI (opM c)) (nI 0) τ2) _) _
          rw [c1, bd_s]
          have f1 : mfr t w τ τ3 := (m3.tr b3).tr (c3.dn (by omega))
          refine ⟨τ3, t2 + 1, rfl, c2, a3.tr (f1.dn (by omega)), ?_, by omega, by omega⟩
          rw [show 4 + 2 * g = 3 + 2 * g + 1 by omega]
          exact CM_bin (CM_up (CM_on a4 (fun j j1 j2 => f1.2.1 j j2)) (by omega)) (CM_on b4 (fun j j1 j2 => c3.2.1 j j2)) (by unfold isOp; omega) c4
      by_cases q2 : chN tp N q = some 60
      · have c60 : c = 60 := Option.some.inj (ec.symm.trans q2)
        subst c60
        rw [if_pos (by rw [e60]; exact q2)]
        exact k
      rw [if_neg (by rw [e60]; exact q2), a2.here, bd_s]
      by_cases q3 : chN tp N q = some 62
      · have c62 : c = 62 := Option.some.inj (ec.symm.trans q3)
        subst c62
        rw [if_pos (by rw [e62]; exact q3)]
        exact k
      have c61 : c = 61 := by
        rcases hc with h | h | h
        · exact absurd (by rw [ec, h]) q2
        · exact h
        · exact absurd (by rw [ec, h]) q3
      subst c61
      rw [if_neg (by rw [e62]; exact q3), a2.here, bd_s, if_pos (by rw [e61]; exact ec), nm_s]
      exact k
    · have n60 : ¬ chN tp N q = some 60 := fun z => q1 (by unfold isCmp; exact decide_eq_true (Or.inl z))
      have n61 : ¬ chN tp N q = some 61 := fun z => q1 (by unfold isCmp; exact decide_eq_true (Or.inr (Or.inl z)))
      have n62 : ¬ chN tp N q = some 62 := fun z => q1 (by unfold isCmp; exact decide_eq_true (Or.inr (Or.inr z)))
      rw [if_neg q1, if_neg (by rw [e60]; exact n60), a2.here, bd_s, if_neg (by rw [e62]; exact n62), a2.here, bd_s, if_neg (by rw [e61]; exact n61), nm_s]
      unfold F_X12_readsCompared_52
      rw [if_pos rfl, a2.2.2.1, T_wrong1, bd_s, g01_0]
      exact ⟨_, rfl, zwr_at, a3.1.w (Or.inr (by decide))⟩
/-- a piece -/
theorem T_mPie {tp : Nat → Nat} {N g : Nat} (hg : g ≤ 5) (hcon : ∀ k, g = k + 1 → ∀ f p s w (σ : zSt), MPs tp N p s w (6 - k) σ → (∃ w1, w = w1 + 1 ∧ σ.1 78 w1 = oI 13 0) → N < f + p → OutC tp N s p w (6 - k) (4 + 2 * k) σ (lawP f σ) (conL tp N (pieS tp N k) 300 p lZer lOne)) (hpie : ∀ k, g = k + 1 → ∀ f p s w (σ : zSt), MPs tp N p s w (6 - k) σ → topOK w σ → 0 < w → N < f + p → OutP tp N s w (6 - k) (4 + 2 * k) p σ (lawP f σ) (pieS tp N k p)) : ∀ f p s w (σ : zSt), MPs tp N p s w (6 - g) σ → topOK w σ → 0 < w → N < f + p → OutP tp N s w (6 - g) (4 + 2 * g) p σ (lawP f σ) (pieS tp N g p) := by
  intro f p s w σ hP ht hw hf
  have h24 := hP.2.1
  have hpN := hP.2.2.2.2.2.2.1
  have hsp := hP.2.2.2.2.2.2.2.1
  obtain ⟨f, rfl⟩ : ∃ x, f = x + 1 := ⟨f - 1, by omega⟩
  have e33 : (e1 (chN tp N p) = 33) = (chN tp N p = some 33) := hP.eq (c := 33) (by omega)
  have e40 : (e1 (chN tp N p) = 40) = (chN tp N p = some 40) := hP.eq (c := 40) (by omega)
  have e0 : lawP (f + 1) σ = F_X12_readsCondition_40 (zfix F_X12_readsCondition_40L f) σ := rfl
  rw [e0]
  unfold F_X12_readsCondition_40
  rw [hP.here, bd_s]
  by_cases q1 : chN tp N p = some 33
  · rw [if_pos (by rw [e33]; exact q1)]
    unfold F_X12_readsCondition_58
    rw [hP.here, bd_s, if_pos (by rw [e33]; exact q1), nm_s]
    cases g with
    | zero =>
      rw [pieS, if_pos (Or.inl q1), T_mOpens6 hP, bd_s, if_pos rfl]
      exact ⟨_, rfl, zwr_at, fr_w (Or.inr (by decide))⟩
    | succ g =>
      rw [pieS, if_pos q1]
      obtain ⟨σ2, a1, a2, a3, a4⟩ := T_mOpens (op := 10) hP q1 (by omega)
      rw [show (10 : Int32) = nI 10 from rfl, a1, bd_s, if_neg (show ¬ (1 : Int32) = 0 by decide)]
      rw [show 6 - (g + 1) + 1 = 6 - g by omega] at a2
      have hF := hpie g rfl f (p + 1) s (w + 1) σ2 a2 (Or.inr ⟨10, 0, by omega, by omega, by omega, a4⟩) (by omega) (by omega)
      show OutP tp N s w (6 - (g + 1)) (4 + 2 * (g + 1)) p σ (lawP f σ2) _
      cases es : pieS tp N g (p + 1) with
      | inl E =>
        rw [es] at hF
        obtain ⟨τ, z1, z2, z3⟩ := hF
        exact ⟨τ, z1, z2, a3.1.tr z3⟩
      | inr qv =>
        obtain ⟨q, v⟩ := qv
        rw [es] at hF
        obtain ⟨f1, g1, h1, τ, t, b1, ⟨b2, b3, b4⟩, b5, b6, b7, b8, b9⟩ := hF
        have hqN := b5.2.2.2.2.2.2.1
        obtain ⟨h2, rfl⟩ : ∃ x, h1 = x + 1 := ⟨h1 - 1, by omega⟩
        have eT := T_top b5 (op := 10) (v := 0) (by omega) ((b6.2.2 w (Nat.lt_succ_self w)).trans a4)
        obtain ⟨τ1, c1, c2, c3, c4, c5⟩ := T_mNote (op := 10) (v := 0) b5 (by omega)
        obtain ⟨k1, k2, k3⟩ := c2.pop
        rw [show 6 - g = 6 - (g + 1) + 1 by omega] at k2
        obtain ⟨l1, l2, l3⟩ := k2.deep (by omega)
        have e : lawK f1 g1 (h2 + 1) τ = lawK f1 g1 h2 (zwr (zwr τ1 69 21 (nI w)) 69 19 (nI (6 - (g + 1)))) := by
          have ee : zfix F_X12_endsPiece_0L (h2 + 1) τ = zfix F_X12_endsPiece_0L h2 (zwr (zwr τ1 69 21 (nI w)) 69 19 (nI (6 - (g + 1)))) := by
            show F_X12_endsPiece_0 (zfix F_X12_endsPiece_0L h2) τ = _
            unfold F_X12_endsPiece_0
            rw [eT, bd_s, if_pos (show nI 10 = 10 from rfl), show (10 : Int32) = nI 10 from rfl, show (0 : Int32) = nI 0 from rfl, c1, bd_s, k1, nm_s, l1, nm_s]
          unfold lawK
          rw [ee]
        rw [b1, e]
        have f2 : mfr s w τ (zwr (zwr τ1 69 21 (nI w)) 69 19 (nI (6 - (g + 1)))) := ((c3.dn (by omega)).tr (k3.dn (by omega))).tr (l3.dn (by omega))
        refine ⟨f1, g1, h2, _, t + 1, rfl, ⟨b2, b3, by omega⟩, l2, (a3.tr (b6.dn (by omega))).tr f2, ?_, by omega, by omega⟩
        rw [zwr_n (by decide), zwr_n (by decide)]
        exact CM_up (CM_not (CM_on b7 (fun j j1 j2 => c3.2.1 j j2)) (by omega) c4) (by omega)
  rw [if_neg (by rw [e33]; exact q1), hP.here, bd_s]
  by_cases q2 : chN tp N p = some 40
  · rw [if_pos (by rw [e40]; exact q2)]
    unfold F_X12_readsCondition_58
    rw [hP.here, bd_s, if_neg (by rw [e33]; exact q1), nm_s]
    cases g with
    | zero =>
      rw [pieS, if_pos (Or.inr q2), T_mOpens6 hP, bd_s, if_pos rfl]
      exact ⟨_, rfl, zwr_at, fr_w (Or.inr (by decide))⟩
    | succ g =>
      rw [pieS, if_neg q1, if_pos q2]
      obtain ⟨σ2, a1, a2, a3, a4⟩ := T_mOpens (op := 13) hP q2 (by omega)
      rw [show (13 : Int32) = nI 13 from rfl, a1, bd_s, if_neg (show ¬ (1 : Int32) = 0 by decide)]
      rw [show 6 - (g + 1) + 1 = 6 - g by omega] at a2
      have hF := hcon g rfl f (p + 1) s (w + 1) σ2 a2 ⟨w, rfl, a4⟩ (by omega)
      show OutP tp N s w (6 - (g + 1)) (4 + 2 * (g + 1)) p σ (lawP f σ2) _
      cases es : conL tp N (pieS tp N g) 300 (p + 1) lZer lOne with
      | inl E =>
        rw [es] at hF
        obtain ⟨τ, z1, z2, z3⟩ := hF
        exact ⟨τ, z1, z2, a3.1.tr z3⟩
      | inr qv =>
        obtain ⟨q, v⟩ := qv
        rw [es] at hF
        obtain ⟨f1, g1, τ, t, W, τ', b1, ⟨b2, b3⟩, ⟨b4, b5⟩, b6, bf, b7, b8, b9, c1, c2, c3⟩ := hF
        have hqN := b6.2.2.2.2.2.2.1
        obtain ⟨g2, rfl⟩ : ∃ x, g1 = x + 1 := ⟨g1 - 1, by omega⟩
        have e41 : (e1 (chN tp N q) = 41) = (chN tp N q = some 41) := b6.eq (c := 41) (by omega)
        have e38 : (e1 (chN tp N q) = 38) = (chN tp N q = some 38) := b6.eq (c := 38) (by omega)
        have e124 : (e1 (chN tp N q) = 124) = (chN tp N q = some 124) := b6.eq (c := 124) (by omega)
        rw [b1]
        show OutP tp N s w (6 - (g + 1)) (4 + 2 * (g + 1)) p σ (F_X12_readsCondition_92 (zfix F_X12_readsCondition_40L f1) (lawM f1 g2) τ) (if chN tp N q = some 41 then Sum.inr (q + 1, v) else Sum.inl (flt 1 q))
        unfold F_X12_readsCondition_92
        rw [b6.here, bd_s]
        by_cases q3 : chN tp N q = some 41
        · rw [if_pos (by rw [e41]; exact q3), if_pos q3, b7, bd_s]
          obtain ⟨k1, k2, k3⟩ := b8.pop
          rw [show 6 - g = 6 - (g + 1) + 1 by omega] at k2
          obtain ⟨l1, l2, l3⟩ := k2.deep (by omega)
          obtain ⟨m1, m2, m3⟩ := l2.step q3
          rw [k1, nm_s, l1, nm_s, m1, nm_s, m2.2.2.2.2.1, if_neg (by rw [show (0 : Int32) = nI 0 from rfl, nI_eqp (by have := m2.2.2.2.2.2.2.2.2; omega)]; omega)]
          have f2 : mfr t w τ' (zwr (zwr (zwr τ' 69 21 (nI w)) 69 19 (nI (6 - (g + 1)))) 69 15 (nI (q + 1))) := (k3.tr l3).tr m3
          refine ⟨f1, g2, zlim, _, t, rfl, ⟨by omega, by omega, by show w < 1000000; have := m2.2.2.2.2.2.2.2.2; omega⟩, m2, (a3.tr (b9.dn (by omega))).tr (f2.dn (by omega)), ?_, c2, by omega⟩
          exact CM_up (CM_on c1 (fun j j1 j2 => f2.2.1 j j2)) (by omega)
        · rw [if_neg (by rw [e41]; exact q3), if_neg q3]
          unfold F_X12_readsCondition_152 F_X12_readsCondition_170
          rw [b6.here, bd_s, if_neg (by rw [e38]; exact b4), b6.here, bd_s, if_neg (by rw [e124]; exact b5), b6.2.2.1, T_wrong1, bd_s, g01_0]
          exact ⟨_, rfl, zwr_at, (a3.1.tr bf).w (Or.inr (by decide))⟩
  rw [if_neg (by rw [e40]; exact q2)]
  have ec : pieS tp N g p = cmpS tp N g p := by
    cases g with
    | zero => rw [pieS, if_neg (fun w => w.elim q1 q2)]
    | succ g => rw [pieS, if_neg q1, if_neg q2]
  rw [ec]
  have hE := T_mCmp (by omega) hP ht
  cases es : cmpS tp N g p with
  | inl E =>
    rw [es] at hE
    obtain ⟨τ, z1, z2, z3⟩ := hE
    rw [z1, bd_s, if_pos rfl]
    exact ⟨τ, rfl, z2, z3⟩
  | inr qv =>
    obtain ⟨q, v⟩ := qv
    rw [es] at hE
    obtain ⟨τ, t, b1, b2, b3, b4, b5, b6⟩ := hE
    refine ⟨f, zlim, zlim, τ, t, ?_, ⟨by omega, by show N < 1000000 + q; omega, by show w < 1000000; have := b2.2.2.2.2.2.2.2.2; have := b2.2.2.2.2.2.2.1; omega⟩, b2, b3, b4, b5, b6⟩
    rw [b1, bd_bd1]
    rfl
theorem T_mCon {tp : Nat → Nat} {N : Nat} : ∀ g, g ≤ 5 → (∀ f p s w (σ : zSt), MPs tp N p s w (6 - g) σ → topOK w σ → 0 < w → N < f + p → OutP tp N s w (6 - g) (4 + 2 * g) p σ (lawP f σ) (pieS tp N g p)) ∧ (∀ f p s w (σ : zSt), MPs tp N p s w (6 - g) σ → (∃ w1, w = w1 + 1 ∧ σ.1 78 w1 = oI 13 0) → N < f + p → OutC tp N s p w (6 - g) (4 + 2 * g) σ (lawP f σ) (conL tp N (pieS tp N g) 300 p lZer lOne)) := by
  have key : ∀ g, (∀ f p s w (σ : zSt), MPs tp N p s w (6 - g) σ → topOK w σ → 0 < w → N < f + p → OutP tp N s w (6 - g) (4 + 2 * g) p σ (lawP f σ) (pieS tp N g p)) → (∀ f p s w (σ : zSt), MPs tp N p s w (6 - g) σ → (∃ w1, w = w1 + 1 ∧ σ.1 78 w1 = oI 13 0) → N < f + p → OutC tp N s p w (6 - g) (4 + 2 * g) σ (lawP f σ) (conL tp N (pieS tp N g) 300 p lZer lOne)) := by
    intro g hp f p s w σ hP hT hf
    have h24 := hP.2.1
    have := T_mConL (d := 4 + 2 * g) (by omega) hp (fun p q v h => pieS_bo g p q v h) (s0 := s) (p0 := p) (w0 := w) (σ0 := σ) 300 f p s s none none σ (by omega) hf ⟨hP, rfl, rfl, trivial, trivial, hT, by omega, hP.2.2.2.2.2.2.2.1⟩ mfr.rf
    exact this
  intro g
  induction g with
  | zero =>
    intro hg
    have h1 := T_mPie (tp := tp) (N := N) (g := 0) hg (fun k hk => absurd hk (by omega)) (fun k hk => absurd hk (by omega))
    exact ⟨h1, key 0 h1⟩
  | succ g ih =>
    intro hg
    obtain ⟨i1, i2⟩ := ih (by omega)
    have h1 := T_mPie (tp := tp) (N := N) (g := g + 1) hg (fun k hk => by cases hk; exact i2) (fun k hk => by cases hk; exact i1)
    exact ⟨h1, key (g + 1) h1⟩
