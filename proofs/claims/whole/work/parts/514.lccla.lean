/-! PURE: the law, the class reads clauses -/
def conS (tp : Nat → Nat) (N p : Nat) : lRes := if chN tp N p = some 40 then (match conL tp N (pieS tp N 5) 300 (p + 1) lZer lOne with
  | Sum.inl f => Sum.inl f
  | Sum.inr (r, c) => if chN tp N r = some 41 then Sum.inr (r + 1, c) else Sum.inl (flt 1 r)) else Sum.inl (flt 1 p)
theorem conS_bo {tp : Nat → Nat} {N p q : Nat} {v : lDen} (h : conS tp N p = Sum.inr (q, v)) : lBo v := by
  unfold conS at h
  by_cases q1 : chN tp N p = some 40
  · rw [if_pos q1] at h
    cases es : conL tp N (pieS tp N 5) 300 (p + 1) lZer lOne with
    | inl E =>
      rw [es] at h
      cases h
    | inr qa =>
      obtain ⟨z, P⟩ := qa
      rw [es] at h
      replace h : (if chN tp N z = some 41 then Sum.inr (z + 1, P) else Sum.inl (flt 1 z)) = (Sum.inr (q, v) : lRes) := h
      by_cases q3 : chN tp N z = some 41
      · rw [if_pos q3] at h
        cases h
        exact conL_bo (pieS_bo 5) 300 (p + 1) lZer lOne _ _ lBo_zer lBo_one es
      · rw [if_neg q3] at h
        cases h
  · rw [if_neg q1] at h
    cases h
def claT (tp : Nat → Nat) (N m p : Nat) : Sum Int32 (Nat × Nat × lDen × lDen) :=
  if chN tp N p = some 109 ∨ chN tp N p = some 108 then (if 16 ≤ m then Sum.inl (flt 4 p) else match sumS tp N 6 (p + 1) with
    | Sum.inl f => Sum.inl f
    | Sum.inr (q, e) => match conS tp N q with
      | Sum.inl f => Sum.inl f
      | Sum.inr (r, c) => Sum.inr (r, (chN tp N p).getD 0, e, c))
  else Sum.inl (flt 1 p)
def lawT (tp : Nat → Nat) (N : Nat) : Nat → Nat → Nat → lCl → Sum Int32 (Nat × lCl)
  | 0, _, _, _ => Sum.inl 0
  | F + 1, m, p, cl => match claT tp N m p with
    | Sum.inl f => Sum.inl f
    | Sum.inr (q, k) => if q = N then Sum.inr (m + 1, fset cl m k) else
      if chN tp N q = some 59 then lawT tp N F (m + 1) (q + 1) (fset cl m k) else Sum.inl (flt 1 q)
theorem CP.keep {tp : Nat → Nat} {N p s : Nat} {σ τ : zSt} (h : CP tp N p s σ) (e1' : τ.1 35 = σ.1 35) (e2' : τ.1 42 = σ.1 42) : CP tp N p s τ := by
  obtain ⟨⟨h0, h1, h2⟩, h3, h4, h5, h6, h7⟩ := h
  exact ⟨⟨h0, by rw [e1']; exact h1, fun j hj => by rw [e2']; exact h2 j hj⟩, by rw [e1']; exact h3, by rw [e1']; exact h4, h5, h6, by rw [e1']; exact h7⟩
def cSl : List (Nat × Nat) := [(35, 2), (35, 7), (35, 8), (35, 11), (35, 12)]
/-- a condition in its brackets -/
theorem T_cConS {tp : Nat → Nat} {N s p : Nat} {σ : zSt} {β : Type} (K : zSt → Option (Int32 × zSt)) (hP : CP tp N p s σ) (Q : Int32 → zSt → Prop) (hno : ∀ τ E, E ≤ 0 → τ.1 35 12 = E → fr [36, 37] [(35, 2), (35, 8), (35, 11), (35, 12)] σ τ → conS tp N p = Sum.inl E → Q 0 τ) (hyes : ∀ τ q v t, conS tp N p = Sum.inr (q, v) → cfr s σ τ → CP tp N q t τ → s < t → t + p + 2 ≤ s + q → CS (τ.1 36) (τ.1 37) s t 15 v → (τ.1 35 8 = 0 → σ.1 35 8 = 0 ∧ lIn v) → wp (K τ) Q) : wp (bd (F_X1_readSign (40 : Int32) σ) (fun q15 s14 => if q15 = 0 then some ((0 : Int32), s14) else bd (F_X1_readCondition (1 : Int32) s14) (fun q19 s18 => if q19 = 0 then some ((0 : Int32), s18) else bd (F_X1_readSign (41 : Int32) s18) (fun q23 s22 => if q23 = 0 then some ((0 : Int32), s22) else K s22)))) Q := by
  have h24 := hP.1.1
  have hpN := hP.2.2.2.1
  have hsp := hP.2.2.2.2.1
  have e40 : F_X1_readSign (40 : Int32) σ = if chN tp N p = some 40 then some (1, zwr (zwr σ 35 12 (flt 1 p)) 35 11 (nI (p + 1))) else some (0, zwr (zwr σ 35 12 (flt 1 p)) 35 11 (nI p)) := T_cSign (c := 40) hP.1 hP.2.1 (by omega) (by omega)
  rw [e40]
  have w1 : cfr s σ (zwr σ 35 12 (flt 1 p)) := cfr_w (by decide)
  have hP' : CP tp N p s (zwr σ 35 12 (flt 1 p)) := ⟨TXc_fr hP.1 w1, by rw [zwr_ne (by decide)]; exact hP.2.1, by rw [zwr_ne (by decide)]; exact hP.2.2.1, hpN, hsp, by rw [zwr_ne (by decide)]; exact hP.2.2.2.2.2⟩
  by_cases q1 : chN tp N p = some 40
  rotate_left
  · rw [if_neg q1, bd_s, if_pos rfl]
    refine wp_some (hno _ (flt 1 p) (flt_le 1 (by decide) p (by omega)) (by rw [zwr_ne (by decide)]; exact zwr_at) ((fr_w (Or.inr (by decide))).w (Or.inr (by decide))) ?_)
    unfold conS
    rw [if_neg q1]
  rw [if_pos q1, bd_s, if_neg (show ¬ (1 : Int32) = 0 by decide)]
  obtain ⟨k1, k2⟩ := hP'.step q1
  unfold F_X1_readCondition
  refine wp_bd2 ((T_cCon 5 (by decide)).2 100 (by decide) s (p + 1) _ k1) (fun r τ hQ => ?_)
  have ec : conS tp N p = (match conL tp N (pieS tp N 5) 300 (p + 1) lZer lOne with
    | Sum.inl f => Sum.inl f
    | Sum.inr (r, c) => if chN tp N r = some 41 then Sum.inr (r + 1, c) else Sum.inl (flt 1 r)) := by
    unfold conS
    rw [if_pos q1]
  cases es : conL tp N (pieS tp N 5) 300 (p + 1) lZer lOne with
  | inl E =>
    rw [es] at hQ ec
    obtain ⟨a1, a2, a3, a4⟩ := hQ
    rw [a1, if_pos rfl]
    exact wp_some (hno τ E a3 a2 ((w1.1.tr k2.1).tr a4) ec)
  | inr qv =>
    obtain ⟨q, v⟩ := qv
    rw [es] at hQ ec
    replace ec : conS tp N p = if chN tp N q = some 41 then Sum.inr (q + 1, v) else Sum.inl (flt 1 q) := ec
    obtain ⟨a1, a2, t, hC, a3, a4, a5, a6⟩ := hQ
    have hqN := hC.2.2.2.1
    have f1 : cfr s σ τ := (w1.tr k2).tr a2
    have e41 : F_X1_readSign (41 : Int32) τ = if chN tp N q = some 41 then some (1, zwr (zwr τ 35 12 (flt 1 q)) 35 11 (nI (q + 1))) else some (0, zwr (zwr τ 35 12 (flt 1 q)) 35 11 (nI q)) := T_cSign (c := 41) hC.1 hC.2.1 (by omega) (by omega)
    rw [a1, if_neg (show ¬ (1 : Int32) = 0 by decide), e41]
    by_cases q3 : chN tp N q = some 41
    · rw [if_pos q3, bd_s, if_neg (show ¬ (1 : Int32) = 0 by decide)]
      rw [if_pos q3] at ec
      have w2 : cfr s τ (zwr τ 35 12 (flt 1 q)) := cfr_w (by decide)
      have hC' : CP tp N q t (zwr τ 35 12 (flt 1 q)) := ⟨TXc_fr hC.1 w2, by rw [zwr_ne (by decide)]; exact hC.2.1, by rw [zwr_ne (by decide)]; exact hC.2.2.1, hC.2.2.2.1, hC.2.2.2.2.1, by rw [zwr_ne (by decide)]; exact hC.2.2.2.2.2⟩
      obtain ⟨k3, k4⟩ := hC'.step q3
      refine hyes _ (q + 1) v t ec (f1.tr (w2.tr (k4.dn (by omega)))) k3 a3 (by omega) ?_ ?_
      · rw [zwr_n (by decide), zwr_n (by decide), zwr_n (by decide), zwr_n (by decide)]
        exact CS_up a5 (by omega)
      · intro e
        rw [zwr_ne (by decide), zwr_ne (by decide)] at e
        obtain ⟨b1, b2⟩ := a6 e
        rw [zwr_ne (by decide), zwr_ne (by decide)] at b1
        exact ⟨b1, b2⟩
    · rw [if_neg q3, bd_s, if_pos rfl]
      rw [if_neg q3] at ec
      exact wp_some (hno _ (flt 1 q) (flt_le 1 (by decide) q (by omega)) (by rw [zwr_ne (by decide)]; exact zwr_at) ((f1.1.w (Or.inr (by decide))).w (Or.inr (by decide))) ec)
/-- what is known of a clause that is read -/
def KCl (σ : zSt) (s c : Nat) (k : Nat × lDen × lDen) : Prop := ∃ a b e, σ.1 38 c = nI k.1 ∧ σ.1 39 c = nI a ∧ σ.1 40 c = nI b ∧ σ.1 41 c = nI e ∧ CS (σ.1 36) (σ.1 37) a b 15 k.2.1 ∧ CS (σ.1 36) (σ.1 37) b e 15 k.2.2 ∧ e ≤ s
def ClQ (tp : Nat → Nat) (N m p s : Nat) (σ : zSt) (res : Sum Int32 (Nat × Nat × lDen × lDen)) (r : Int32) (τ : zSt) : Prop := fr [36, 37, 38, 39, 40, 41] cSl σ τ ∧ match res with
  | Sum.inl E => r = 0 ∧ τ.1 35 12 = E ∧ E ≤ 0
  | Sum.inr (q, k) => r = 1 ∧ ∃ t, CP tp N q t τ ∧ τ.1 35 7 = nI (m + 1) ∧ KCl τ t m k ∧ (τ.1 35 8 = 0 → σ.1 35 8 = 0 ∧ lIn k.2.1 ∧ lIn k.2.2) ∧ s ≤ t ∧ p < q ∧ lBo k.2.2 ∧ (∀ j, j < s → τ.1 36 j = σ.1 36 j ∧ τ.1 37 j = σ.1 37 j) ∧ (∀ c, c < m → τ.1 38 c = σ.1 38 c ∧ τ.1 39 c = σ.1 39 c ∧ τ.1 40 c = σ.1 40 c ∧ τ.1 41 c = σ.1 41 c)
theorem T_cClause {tp : Nat → Nat} {N m p s : Nat} {σ : zSt} (hP : CP tp N p s σ) (h7 : σ.1 35 7 = nI m) (hm : m ≤ 16) : wp (F_X1_readClause σ) (ClQ tp N m p s σ (claT tp N m p)) := by
  have h24 := hP.1.1
  have hpN := hP.2.2.2.1
  have hsp := hP.2.2.2.2.1
  unfold F_X1_readClause F_X1_readClause_0 claT
  rw [hP.here, bd_s]
  have e109 : (e1 (chN tp N p) = 109) = (chN tp N p = some 109) := hP.eq (c := 109) (by omega)
  have e108 : (e1 (chN tp N p) = 108) = (chN tp N p = some 108) := hP.eq (c := 108) (by omega)
  by_cases q0 : chN tp N p = some 109 ∨ chN tp N p = some 108
  rotate_left
  · rw [if_neg (by rw [e109]; exact fun z => q0 (Or.inl z)), if_neg (by rw [e108]; exact fun z => q0 (Or.inr z)), if_neg q0, T_cWrong1 hP.2.1, bd_s, g01_0]
    exact wp_some ⟨fr_w (Or.inr (by decide)), rfl, zwr_at, flt_le 1 (by decide) p (by omega)⟩
  obtain ⟨b, eb⟩ : ∃ b, chN tp N p = some b := by
    rcases q0 with q0 | q0
    · exact ⟨_, q0⟩
    · exact ⟨_, q0⟩
  rw [if_pos q0]
  have main : wp (F_X1_readClause_23 (e1 (chN tp N p)) σ) (ClQ tp N m p s σ (if 16 ≤ m then Sum.inl (flt 4 p) else match sumS tp N 6 (p + 1) with
    | Sum.inl f => Sum.inl f
    | Sum.inr (q, e) => match conS tp N q with
      | Sum.inl f => Sum.inl f
      | Sum.inr (r, c) => Sum.inr (r, (chN tp N p).getD 0, e, c))) := by
    unfold F_X1_readClause_23
    rw [h7]
    by_cases m16 : 16 ≤ m
    · rw [if_neg (by rw [show (16 : Int32) = nI 16 from rfl, nI_ltp (by omega)]; omega), if_pos m16, T_cWrong4 hP.2.1, bd_s, g01_0]
      exact wp_some ⟨fr_w (Or.inr (by decide)), rfl, zwr_at, flt_le 4 (by decide) p (by omega)⟩
    rw [if_pos (by rw [show (16 : Int32) = nI 16 from rfl, nI_ltp (by omega)]; omega), if_neg m16, gd_n (by omega), nI_cl (by omega), nm_s]
    rw [zwr_n (by decide), h7, gd_n (by omega), nI_cl (by omega), hP.2.2.1, nm_s, zwr_n (by decide), zwr_n (by decide), hP.2.1, nI_1, nm_s]
    generalize hσ1 : zwr (zwr σ 38 m (e1 (chN tp N p))) 39 m (nI s) = σ1
    have r38 : σ1.1 38 m = e1 (chN tp N p) := by
      rw [← hσ1, zwr_n (by decide), zwr_c, pk_us]
    have r39 : σ1.1 39 m = nI s := by
      rw [← hσ1, zwr_c, pk_us]
    have f0 : fr [36, 37, 38, 39, 40, 41] cSl σ σ1 := by
      rw [← hσ1]
      exact (fr_w (Or.inl (by decide))).w (Or.inl (by decide))
    have o35 : σ1.1 35 = σ.1 35 := by
      rw [← hσ1, zwr_n (by decide), zwr_n (by decide)]
    have o36 : σ1.1 36 = σ.1 36 := by
      rw [← hσ1, zwr_n (by decide), zwr_n (by decide)]
    have o37 : σ1.1 37 = σ.1 37 := by
      rw [← hσ1, zwr_n (by decide), zwr_n (by decide)]
    have ocl : ∀ c, c < m → σ1.1 38 c = σ.1 38 c ∧ σ1.1 39 c = σ.1 39 c ∧ σ1.1 40 c = σ.1 40 c ∧ σ1.1 41 c = σ.1 41 c := by
      intro c hc
      rw [← hσ1]
      refine ⟨?_, ?_, ?_, ?_⟩
      · rw [zwr_n (by decide), zwr_c, pk_un (by omega)]
      · rw [zwr_c, pk_un (by omega), zwr_n (by decide)]
      · rw [zwr_n (by decide), zwr_n (by decide)]
      · rw [zwr_n (by decide), zwr_n (by decide)]
    have hP1 : CP tp N p s σ1 := hP.keep o35 (by rw [← hσ1, zwr_n (by decide), zwr_n (by decide)])
    obtain ⟨k1, k2⟩ := hP1.step eb
    unfold F_X1_readSum
    refine wp_bd2 (T_cSum 6 100 (by decide) (by decide) s (p + 1) _ k1) (fun r τ hQ => ?_)
    cases es : sumS tp N 6 (p + 1) with
    | inl E =>
      rw [es] at hQ
      obtain ⟨a1, a2, a3, a4⟩ := hQ
      rw [a1, if_pos rfl]
      exact wp_some ⟨f0.tr ((k2.1.tr a4).mono (by decide)), rfl, a2, a3⟩
    | inr qv =>
      obtain ⟨q, ev⟩ := qv
      rw [es] at hQ
      obtain ⟨a1, a2, t, hC, a3, a4, a5, a6⟩ := hQ
      have hqN := hC.2.2.2.1
      have f1 : cfr s σ1 τ := k2.tr a2
      have t7 : τ.1 35 7 = nI m := by
        rw [f1.1.rd (by decide) (by decide), o35]
        exact h7
      rw [a1, if_neg (show ¬ (1 : Int32) = 0 by decide), t7, gd_n (by omega), nI_cl (by omega), hC.2.2.1, nm_s]
      generalize hσ2 : zwr τ 40 m (nI t) = σ2
      have f2 : fr [36, 37, 38, 39, 40, 41] cSl τ σ2 := by
        rw [← hσ2]
        exact fr_w (Or.inl (by decide))
      have p35 : σ2.1 35 = τ.1 35 := by rw [← hσ2, zwr_n (by decide)]
      have p36 : σ2.1 36 = τ.1 36 := by rw [← hσ2, zwr_n (by decide)]
      have p37 : σ2.1 37 = τ.1 37 := by rw [← hσ2, zwr_n (by decide)]
      have p40 : σ2.1 40 m = nI t := by rw [← hσ2, zwr_c, pk_us]
      have pcl : ∀ c, c < m → σ2.1 38 c = σ.1 38 c ∧ σ2.1 39 c = σ.1 39 c ∧ σ2.1 40 c = σ.1 40 c ∧ σ2.1 41 c = σ.1 41 c := by
        intro c hc
        obtain ⟨z1, z2, z3, z4⟩ := ocl c hc
        rw [← hσ2]
        refine ⟨?_, ?_, ?_, ?_⟩
        · rw [zwr_n (by decide), f1.1.row (c := 38) (by decide), z1]
        · rw [zwr_n (by decide), f1.1.row (c := 39) (by decide), z2]
        · rw [zwr_c, pk_un (by omega), f1.1.row (c := 40) (by decide), z3]
        · rw [zwr_n (by decide), f1.1.row (c := 41) (by decide), z4]
      have p38 : σ2.1 38 m = e1 (chN tp N p) := by
        rw [← hσ2, zwr_n (by decide), f1.1.row (c := 38) (by decide), r38]
      have p39 : σ2.1 39 m = nI s := by
        rw [← hσ2, zwr_n (by decide), f1.1.row (c := 39) (by decide), r39]
      have hP2 : CP tp N q t σ2 := hC.keep p35 (by rw [← hσ2, zwr_n (by decide)])
      have f02 : fr [36, 37, 38, 39, 40, 41] cSl σ σ2 := (f0.tr (f1.1.mono (by decide))).tr f2
      show wp _ (ClQ tp N m p s σ (match conS tp N q with
        | Sum.inl f => Sum.inl f
        | Sum.inr (r, c) => Sum.inr (r, (chN tp N p).getD 0, ev, c)))
      refine T_cConS (β := Int32) (fun s22 => gd (vp_in (s22.1 35 7) 16) (nm (zwr s22 41 (s22.1 35 7).toNatClampNeg (s22.1 35 2)) (fun s26 => nm (zwr s26 35 7 ((s26.1 35 7) + (1 : Int32))) (fun s27 => some ((1 : Int32), s27))))) hP2 _ (fun υ E c1 c2 c3 c4 => ?_) (fun υ q2 cv t2 c1 c2 c3 c4 c5 c6 c7 => ?_)
      · rw [c4]
        exact ⟨f02.tr (c3.mono (by decide)), rfl, c2, c1⟩
      · rw [c1]
        have u7 : υ.1 35 7 = nI m := by
          rw [c2.1.rd (by decide) (by decide), p35]
          exact t7
        rw [u7, gd_n (by omega), nI_cl (by omega), c3.2.2.1, nm_s, zwr_n (by decide), u7, nI_1, nm_s]
        refine wp_some ⟨((f02.tr (c2.1.mono (by decide))).w (Or.inl (by decide))).w (Or.inr (by decide)), rfl, t2, ?_, zwr_at, ⟨s, t, t2, ?_, ?_, ?_, ?_, ?_, ?_, Nat.le_refl t2⟩, ?_, by omega, by omega, conS_bo c1, ?_, ?_⟩
        · obtain ⟨⟨x0, x1, x2⟩, x3, x4, x5, x6, x7⟩ := c3
          refine ⟨⟨x0, ?_, fun j hj => ?_⟩, ?_, ?_, x5, x6, ?_⟩
          · rw [zwr_ne (by decide), zwr_n (by decide)]
            exact x1
          · rw [zwr_n (by decide), zwr_n (by decide)]
            exact x2 j hj
          · rw [zwr_ne (by decide), zwr_n (by decide)]
            exact x3
          · rw [zwr_ne (by decide), zwr_n (by decide)]
            exact x4
          · rw [zwr_ne (by decide), zwr_n (by decide)]
            exact x7
        · rw [zwr_n (by decide), zwr_n (by decide), c2.1.row (c := 38) (by decide), p38, eb]
          rfl
        · rw [zwr_n (by decide), zwr_n (by decide), c2.1.row (c := 39) (by decide), p39]
        · rw [zwr_n (by decide), zwr_n (by decide), c2.1.row (c := 40) (by decide), p40]
        · rw [zwr_n (by decide), zwr_c, pk_us]
        · rw [zwr_n (by decide), zwr_n (by decide), zwr_n (by decide), zwr_n (by decide)]
          exact CS_on a5 (fun j j1 j2 => ⟨by rw [(c2.2 j j2).1, p36], by rw [(c2.2 j j2).2, p37]⟩)
        · rw [zwr_n (by decide), zwr_n (by decide), zwr_n (by decide), zwr_n (by decide)]
          exact c6
        · intro e
          rw [zwr_ne (by decide), zwr_n (by decide)] at e
          obtain ⟨y1, y2⟩ := c7 e
          rw [p35] at y1
          obtain ⟨y3, y4⟩ := a6 y1
          rw [zwr_ne (by decide), o35] at y3
          exact ⟨y3, y4, y2⟩
        · intro j hj
          refine ⟨?_, ?_⟩
          · rw [zwr_n (by decide), zwr_n (by decide), (c2.2 j (by omega)).1, p36, (f1.2 j hj).1, o36]
          · rw [zwr_n (by decide), zwr_n (by decide), (c2.2 j (by omega)).2, p37, (f1.2 j hj).2, o37]
        · intro c hc
          obtain ⟨z1, z2, z3, z4⟩ := pcl c hc
          refine ⟨?_, ?_, ?_, ?_⟩
          · rw [zwr_n (by decide), zwr_n (by decide), c2.1.row (c := 38) (by decide), z1]
          · rw [zwr_n (by decide), zwr_n (by decide), c2.1.row (c := 39) (by decide), z2]
          · rw [zwr_n (by decide), zwr_n (by decide), c2.1.row (c := 40) (by decide), z3]
          · rw [zwr_n (by decide), zwr_c, pk_un (by omega), c2.1.row (c := 41) (by decide), z4]
  by_cases q9 : chN tp N p = some 109
  · rw [if_pos (by rw [e109]; exact q9)]
    exact main
  · rw [if_neg (by rw [e109]; exact q9), if_pos (by rw [e108]; exact q0.resolve_left q9)]
    exact main
