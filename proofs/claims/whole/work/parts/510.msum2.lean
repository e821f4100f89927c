/-! PURE: the law, the reference reads a sum, by levels -/
def OutS (tp : Nat → Nat) (N b s0 p0 w0 o d : Nat) (σ0 : zSt) (x : Option (Int32 × zSt)) (res : lRes) : Prop := match res with
  | Sum.inl E => ∃ τ, x = some ((0 : Int32), τ) ∧ τ.1 69 17 = E ∧ fr [77, 78] mSl σ0 τ
  | Sum.inr (q, v) => ∃ f τ t W t2 τ', (x = lawLS b f τ ∧ N < f + q ∧ ¬ isMul (chN tp N q) = true ∧ ¬ isAdd (chN tp N q) = true) ∧ (MPs tp N q t W o τ ∧ w0 ≤ W ∧ (∀ j, w0 ≤ j → j < W → ¬ τ.1 78 j / (1048576 : Int32) = 14) ∧ mfr s0 w0 σ0 τ) ∧ F_X12_closesSums 1 τ = some ((), τ') ∧ MPs tp N q t2 w0 o τ' ∧ mfr s0 w0 σ0 τ' ∧ CM (τ'.1 77) s0 t2 d v ∧ s0 < t2 ∧ t2 + p0 ≤ s0 + q
def OutF (tp : Nat → Nat) (N b s w o d p : Nat) (σ : zSt) (x : Option (Int32 × zSt)) (res : lRes) : Prop := match res with
  | Sum.inl E => ∃ τ, x = some ((0 : Int32), τ) ∧ τ.1 69 17 = E ∧ fr [77, 78] mSl σ τ
  | Sum.inr (q, v) => ∃ f τ t, x = lawLS b f τ ∧ N < f + q ∧ MPs tp N q t w o τ ∧ mfr s w σ τ ∧ CM (τ.1 77) s t d v ∧ s < t ∧ t + p ≤ s + q
/-- a sign is pushed and passed -/
theorem T_mPush {β : Type} {tp : Nat → Nat} {N q t W o c op : Nat} {τ : zSt} (h : MPs tp N q t W o τ) (hc : chN tp N q = some c) : ∃ σ2, (∀ K : zSt → Option β, gd (vp_in (τ.1 69 21) 260) (nm (zwr τ 78 (τ.1 69 21).toNatClampNeg ((1048576 : Int32) * nI op)) (fun s41 => nm (zwr s41 69 21 ((s41.1 69 21) + (1 : Int32))) (fun s42 => nm (zwr s42 69 15 ((s42.1 69 15) + (1 : Int32))) (fun s43 => K s43)))) = K σ2) ∧ MPs tp N (q + 1) t (W + 1) o σ2 ∧ mfr t W τ σ2 ∧ σ2.1 78 W = oI op 0 := by
  obtain ⟨h1, h2, h3, h4, h5, h6, h7, h8, h9⟩ := h
  have hq := chN_in hc
  have f : mfr t W τ (zwr (zwr (zwr τ 78 W (oI op 0)) 69 21 (nI (W + 1))) 69 15 (nI (q + 1))) := ((mfr_k (Nat.le_refl W)).tr (mfr_w (by decide))).tr (mfr_w (by decide))
  refine ⟨zwr (zwr (zwr τ 78 W (oI op 0)) 69 21 (nI (W + 1))) 69 15 (nI (q + 1)), fun K => ?_, ⟨TXm_mf h1 f, h2, zwr_at, ?_, ?_, ?_, by omega, by omega, by omega⟩, f, ?_⟩
  · rw [h5, gd_n (by omega), nI_cl (by omega), show (1048576 : Int32) * nI op = oI op 0 from pk_mul 1048576 op, nm_s, zwr_n (by decide), h5, nI_1, nm_s, zwr_ne (by decide), zwr_n (by decide), h3, nI_1, nm_s]
  · rw [zwr_ne (by decide), zwr_ne (by decide), zwr_n (by decide)]
    exact h4
  · rw [zwr_ne (by decide)]
    exact zwr_at
  · rw [zwr_ne (by decide), zwr_ne (by decide), zwr_n (by decide)]
    exact h6
  · rw [zwr_n (by decide), zwr_n (by decide), zwr_c, pk_us]
theorem T_mOpens {tp : Nat → Nat} {N p s w o c op : Nat} {σ : zSt} (h : MPs tp N p s w o σ) (hc : chN tp N p = some c) (ho : o < 6) : ∃ σ2, F_X12_opens (nI op) σ = some (1, σ2) ∧ MPs tp N (p + 1) s (w + 1) (o + 1) σ2 ∧ mfr s w σ σ2 ∧ σ2.1 78 w = oI op 0 := by
  obtain ⟨h1, h2, h3, h4, h5, h6, h7, h8, h9⟩ := h
  have hq := chN_in hc
  have f : mfr s w σ (zwr (zwr (zwr (zwr σ 69 19 (nI (o + 1))) 78 w (oI op 0)) 69 21 (nI (w + 1))) 69 15 (nI (p + 1))) := (((mfr_w (by decide)).tr (mfr_k (Nat.le_refl w))).tr (mfr_w (by decide))).tr (mfr_w (by decide))
  refine ⟨zwr (zwr (zwr (zwr σ 69 19 (nI (o + 1))) 78 w (oI op 0)) 69 21 (nI (w + 1))) 69 15 (nI (p + 1)), ?_, ⟨TXm_mf h1 f, h2, zwr_at, ?_, ?_, ?_, by omega, by omega, by omega⟩, f, ?_⟩
  · unfold F_X12_opens F_X12_opens_0
    rw [h6, if_neg (by rw [show (6 : Int32) = nI 6 from rfl, nI_eqp (by omega)]; omega), nI_1, nm_s, zwr_ne (by decide), h5, gd_n (by omega), nI_cl (by omega), show (1048576 : Int32) * nI op = oI op 0 from pk_mul 1048576 op, nm_s, zwr_n (by decide), zwr_ne (by decide), h5, nI_1, nm_s, zwr_ne (by decide), zwr_n (by decide), zwr_ne (by decide), h3, nI_1, nm_s]
  · rw [zwr_ne (by decide), zwr_ne (by decide), zwr_n (by decide), zwr_ne (by decide)]
    exact h4
  · rw [zwr_ne (by decide)]
    exact zwr_at
  · rw [zwr_ne (by decide), zwr_ne (by decide), zwr_n (by decide)]
    exact zwr_at
  · rw [zwr_n (by decide), zwr_n (by decide), zwr_c, pk_us]
theorem T_mOpens6 {tp : Nat → Nat} {N p s w : Nat} {x : Int32} {σ : zSt} (h : MPs tp N p s w 6 σ) : F_X12_opens x σ = some (0, zwr σ 69 17 (flt 5 p)) := by
  unfold F_X12_opens F_X12_opens_0
  rw [h.2.2.2.2.2.1, if_pos (show nI 6 = 6 from rfl), h.2.2.1, T_wrong5, bd_s, g01_0]
theorem T_mSumL {tp : Nat → Nat} {N b o d : Nat} {fac : Nat → lRes} (hfac : ∀ ff f p s w (σ : zSt), MPs tp N p s w o σ → b ≤ w → N < ff + p → N < f + p → OutF tp N b s w o d p σ (FSf b ff f σ) (fac p)) {s0 p0 w0 : Nat} {σ0 : zSt} (hb : b ≤ w0) : ∀ F ff f p k m wv jv (σ : zSt), N < F + p → N < ff + p → N < f + p → AF tp N s0 p0 w0 o d m k k p wv jv σ → mfr s0 w0 σ0 σ → OutS tp N b s0 p0 w0 o (d + 2) σ0 (FSf b ff f σ) (sumL tp N fac F p wv jv) := by
  intro F
  induction F with
  | zero =>
    intro ff f p k m wv jv σ h1 h2 h3 h4
    have := h4.st.2.2.2.2.2.2.1
    omega
  | succ F ih =>
    intro ff f p k m wv jv σ h1 h2 h3 h4 h5
    have hF := hfac ff f p k (w0 + cn wv + cn jv) σ h4.st (by omega) h2 h3
    unfold sumL
    cases es : fac p with
    | inl E =>
      rw [es] at hF
      obtain ⟨τ, z1, z2, z3⟩ := hF
      exact ⟨τ, z1, z2, h5.1.tr z3⟩
    | inr qv =>
      obtain ⟨q, f0⟩ := qv
      rw [es] at hF
      obtain ⟨f1, τ, t, a1, a2, a3, a4, a5, a6, a7⟩ := hF
      have sm := PDm_le h4.wp
      have mk := PDm_le h4.jp
      have hsp := h4.sp
      have hnb := h4.nb
      have hqN := a3.2.2.2.2.2.2.1
      have hA : AF tp N s0 p0 w0 o d m k t q wv jv τ := ⟨a3, PDm_on h4.wp (fun j j1 j2 => a4.2.1 j (by omega)), PDm_on h4.jp (fun j j1 j2 => a4.2.1 j j2), (by
        cases wv with
        | none => trivial
        | some cv => exact KO_on h4.wk (a4.2.2 w0 (by show w0 < w0 + 1 + cn jv; omega))), (by
        cases jv with
        | none => trivial
        | some cv => exact KO_on h4.jk (a4.2.2 (w0 + cn wv) (by show w0 + cn wv < w0 + cn wv + 1; omega))), h4.wc, h4.jc, topOK_f h4.tk (a4.dn (s' := 0) (by omega)), by omega, hsp⟩
      have hm0 : mfr s0 w0 σ0 τ := h5.tr (a4.dn (by omega))
      rw [a1]
      show OutS tp N b s0 p0 w0 o (d + 2) σ0 (lawLS b f1 τ) (if isMul (chN tp N q) = true then sumL tp N fac F (q + 1) wv (some ((chN tp N q).getD 0, lJn jv f0)) else if isAdd (chN tp N q) = true then sumL tp N fac F (q + 1) (some ((chN tp N q).getD 0, lJn wv (lJn jv f0))) none else Sum.inr (q, lJn wv (lJn jv f0)))
      obtain ⟨f2, rfl⟩ : ∃ g, f1 = g + 1 := ⟨f1 - 1, by omega⟩
      by_cases q1 : isMul (chN tp N q) = true
      · obtain ⟨c, ec, hc⟩ := mulB q1
        have hop := opM_mul hc
        rw [if_pos q1, show (chN tp N q).getD 0 = c by rw [ec]; rfl]
        obtain ⟨τ1, b1, b2, b3, b4⟩ := T_close0 hA a5
        obtain ⟨τ2, c1, c2, c3, c4⟩ := T_mPush (β := Int32 × zSt) (op := opM c) b2 ec
        have e : lawLS b (f2 + 1) τ = FSf b zlim f2 τ2 := by
          show F_X12_readsSum_14 (nI b) (zfix (F_X12_readsSum_14L (nI b)) f2) τ = _
          unfold F_X12_readsSum_14
          rw [a3.here, bd_s, T_sumSign (fun b hb => a3.b b hb), bd_s, if_pos (Or.inl q1), show (chN tp N q).getD 0 = c by rw [ec]; rfl, if_neg (e1_n (k := opM c) (by omega)), if_pos (by rw [show (4 : Int32) = nI 4 from rfl, nI_lep (by omega)]; omega), nm_s, b1, bd_s]
          exact c1 (fun s43 => bd (F_X12_readsFactor s43) (fun q45 s44 => if q45 = 0 then some ((0 : Int32), s44) else F_X12_readsSum_163 (zfix (F_X12_readsSum_14L (nI b)) f2) (nI b) s44))
        rw [e]
        have f12 : mfr t w0 τ τ2 := (b3.dn (by omega)).tr (c3.dn (by omega))
        refine ih zlim f2 (q + 1) (t + cn jv) m wv (some (c, lJn jv f0)) τ2 (by omega) (by show N < 1000000 + (q + 1); have := a3.2.1; omega) (by omega) ?_ (hm0.tr (f12.dn (by omega)))
        refine ⟨c2, PDm_on hA.wp (fun j j1 j2 => f12.2.1 j (by omega)), ⟨by unfold isOp; omega, CM_on b4 (fun j j1 j2 => c3.2.1 j j2)⟩, ?_, c4, hA.wc, ?_, topOK_f hA.tk (f12.dn (s' := 0) (by omega)), ?_, hsp⟩
        · cases wv with
          | none => trivial
          | some cv => exact KO_on hA.wk ((c3.2.2 w0 (Nat.lt_succ_self w0)).trans (b3.2.2 w0 (Nat.lt_succ_self w0)))
        · intro c' v' e'
          cases e'
          exact hc
        · show t + cn jv + cn wv + 1 + p0 ≤ s0 + (q + 1)
          omega
      · rw [if_neg q1]
        obtain ⟨τ1, b1, b2, b3, b4⟩ := T_close1 hA a5
        by_cases q2 : isAdd (chN tp N q) = true
        · obtain ⟨c, ec, hc⟩ := addB q2
          have hop := opM_add hc
          rw [if_pos q2, show (chN tp N q).getD 0 = c by rw [ec]; rfl]
          obtain ⟨τ2, c1, c2, c3, c4⟩ := T_mPush (β := Int32 × zSt) (op := opM c) b2 ec
          have e : lawLS b (f2 + 1) τ = FSf b zlim f2 τ2 := by
            show F_X12_readsSum_14 (nI b) (zfix (F_X12_readsSum_14L (nI b)) f2) τ = _
            unfold F_X12_readsSum_14
            rw [a3.here, bd_s, T_sumSign (fun b hb => a3.b b hb), bd_s, if_pos (Or.inr q2), show (chN tp N q).getD 0 = c by rw [ec]; rfl, if_neg (e1_n (k := opM c) (by omega)), if_neg (by rw [show (4 : Int32) = nI 4 from rfl, nI_lep (by omega)]; omega), nm_s, b1, bd_s]
            exact c1 (fun s43 => bd (F_X12_readsFactor s43) (fun q45 s44 => if q45 = 0 then some ((0 : Int32), s44) else F_X12_readsSum_163 (zfix (F_X12_readsSum_14L (nI b)) f2) (nI b) s44))
          rw [e]
          have f12 : mfr t w0 τ τ2 := b3.tr (c3.dn (by omega))
          refine ih zlim f2 (q + 1) (t + cn jv + cn wv) (t + cn jv + cn wv) (some (c, lJn wv (lJn jv f0))) none τ2 (by omega) (by show N < 1000000 + (q + 1); have := a3.2.1; omega) (by omega) ?_ (hm0.tr (f12.dn (by omega)))
          refine ⟨c2, ⟨by unfold isOp; omega, CM_on b4 (fun j j1 j2 => c3.2.1 j j2)⟩, rfl, c4, trivial, ?_, fun c' v' e' => (by cases e'), topOK_f hA.tk (f12.dn (s' := 0) (by omega)), ?_, hsp⟩
          · intro c' v' e'
            cases e'
            exact hc
          · show t + cn jv + cn wv + 1 + 0 + p0 ≤ s0 + (q + 1)
            have := hA.nb
            omega
        · rw [if_neg q2]
          refine ⟨f2 + 1, τ, t, w0 + cn wv + cn jv, t + cn jv + cn wv, τ1, ⟨rfl, a2, q1, q2⟩, ⟨a3, by omega, fun j j1 j2 => ?_, hm0⟩, b1, b2, hm0.tr (b3.dn (by omega)), b4, b4.1, ?_⟩
          · have no : ∀ c, isOp c → ¬ oI (opM c) 0 / (1048576 : Int32) = 14 := by
              intro c hc
              have hop := @opM_lt c
              rw [oI_div (by omega), show (14 : Int32) = nI 14 from rfl, nI_eqp (by omega)]
              omega
            by_cases z : j = w0
            · cases wv with
              | none =>
                cases jv with
                | none =>
                  exfalso
                  replace j2 : j < w0 + 0 + 0 := j2
                  omega
                | some cv =>
                  obtain ⟨c, v⟩ := cv
                  have := hA.jk
                  replace this : τ.1 78 (w0 + 0) = oI (opM c) 0 := this
                  rw [z, show w0 = w0 + 0 from rfl, this]
                  exact no c hA.jp.1
              | some cv =>
                obtain ⟨c, v⟩ := cv
                have := hA.wk
                replace this : τ.1 78 w0 = oI (opM c) 0 := this
                rw [z, this]
                exact no c hA.wp.1
            · cases wv with
              | none =>
                exfalso
                replace j2 : j < w0 + 0 + cn jv := j2
                have := @cn_le jv
                omega
              | some cw =>
                cases jv with
                | none =>
                  exfalso
                  replace j2 : j < w0 + 1 + 0 := j2
                  omega
                | some cv =>
                  obtain ⟨c, v⟩ := cv
                  replace j2 : j < w0 + 1 + 1 := j2
                  have := hA.jk
                  replace this : τ.1 78 (w0 + 1) = oI (opM c) 0 := this
                  rw [show j = w0 + 1 by omega, this]
                  exact no c hA.jp.1
          · have := hA.nb
            omega
