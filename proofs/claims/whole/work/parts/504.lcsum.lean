/-! PURE: the law, the class reads a sum -/
def SQ (tp : Nat → Nat) (N d s : Nat) (σ : zSt) (p : Nat) (res : lRes) (r : Int32) (τ : zSt) : Prop := match res with
  | Sum.inl F => r = 0 ∧ τ.1 35 12 = F ∧ F ≤ 0 ∧ fr [36, 37] [(35, 2), (35, 8), (35, 11), (35, 12)] σ τ
  | Sum.inr (q, v) => r = 1 ∧ cfr s σ τ ∧ ∃ t, CP tp N q t τ ∧ s < t ∧ t + p ≤ s + q ∧ CS (τ.1 36) (τ.1 37) s t d v ∧ (τ.1 35 8 = 0 → σ.1 35 8 = 0 ∧ lIn v)
theorem SQ_no {tp : Nat → Nat} {N d s p k q : Nat} {σ τ : zSt} (hk : k < 6) (hq : q < 300) (e : τ.1 35 12 = flt k q) (f : fr [36, 37] [(35, 2), (35, 8), (35, 11), (35, 12)] σ τ) : SQ tp N d s σ p (Sum.inl (flt k q)) 0 τ := ⟨rfl, e, flt_le k hk q hq, f⟩
theorem wp_eq2 {α : Type} {x y : Option (α × zSt)} {Q : α → zSt → Prop} (e : x = y) (h : wp y Q) : wp x Q := by
  rw [e]
  exact h
/-- a number -/
theorem T_cNum {tp : Nat → Nat} {N : Nat} (rc : (Int32 → zSt → Option (Int32 × zSt)) × (Int32 → zSt → Option (Int32 × zSt))) {s p0 : Nat} {σ0 : zSt} : ∀ F fu k v (σ : zSt), F + k = 7 → F ≤ fu → k ≤ 5 → s ≤ p0 → CP tp N (p0 + k) s σ → cfr s σ0 σ → σ.1 35 8 = σ0.1 35 8 → wp (zfix (F_X1_readFactor_126L rc) fu (e1 (chN tp N (p0 + k)), nI v, nI k, σ)) (SQ tp N 1 s σ0 p0 (numS tp N F (p0 + k) k v)) := by
  intro F
  induction F with
  | zero =>
    intro fu k v σ h1 h2 h3
    omega
  | succ F ih =>
    intro fu k v σ h1 h2 h3 hs hP hf h8
    obtain ⟨fu, rfl⟩ : ∃ g, fu = g + 1 := ⟨fu - 1, by omega⟩
    have h24 := hP.1.1
    have hpN := hP.2.2.2.1
    show wp (F_X1_readFactor_126 rc (zfix (F_X1_readFactor_126L rc) fu) (e1 (chN tp N (p0 + k))) (nI v) (nI k) σ) _
    unfold F_X1_readFactor_126 numS
    have fin : (chN tp N (p0 + k)).bind dgB = none → wp (F_X1_readFactor_189 rc (nI v) (nI k) σ) (SQ tp N 1 s σ0 p0 (if k = 0 then Sum.inl (flt 1 (p0 + k)) else Sum.inr (p0 + k, fun _ => some (nI v)))) := by
      intro _
      unfold F_X1_readFactor_189
      by_cases q : k = 0
      · rw [if_pos (by rw [q]; rfl), if_pos q, T_cWrong1 hP.2.1, bd_s, g01_0]
        exact wp_some (SQ_no (by omega) (by omega) zwr_at (hf.1.w (Or.inr (by decide))))
      · rw [if_neg (by rw [show (0 : Int32) = nI 0 from rfl, nI_eqp (by omega)]; exact q), if_neg q, T_cPut hP.2.2.1 (by omega), bd_s]
        have f : cfr s σ (zwr (zwr (zwr σ 36 s 35) 37 s (nI v)) 35 2 (nI (s + 1))) := ⟨((fr_w (Or.inl (by decide))).w (Or.inl (by decide))).w (Or.inr (by decide)), fun j hj => ⟨by rw [zwr_n (by decide), zwr_n (by decide), zwr_c, pk_un (by omega)], by rw [zwr_n (by decide), zwr_c, pk_un (by omega), zwr_n (by decide)]⟩⟩
        refine wp_some ⟨rfl, hf.tr f, s + 1, ⟨TXc_fr hP.1 f, by rw [zwr_ne (by decide), zwr_n (by decide), zwr_n (by decide)]; exact hP.2.1, zwr_at, hpN, by omega, by rw [zwr_ne (by decide), zwr_n (by decide), zwr_n (by decide)]; exact hP.2.2.2.2.2⟩, by omega, by omega, ?_, ?_⟩
        · exact CS_num (by rw [zwr_n (by decide), zwr_n (by decide), zwr_c, pk_us]) (by rw [zwr_n (by decide), zwr_c, pk_us])
        · intro e
          rw [zwr_ne (by decide), zwr_n (by decide), zwr_n (by decide)] at e
          exact ⟨h8.symm.trans e, fun _ _ _ => rfl⟩
    cases ec : chN tp N (p0 + k) with
    | none =>
      rw [ec] at fin
      rw [if_pos (show e1 none < 48 by decide)]
      exact fin rfl
    | some b =>
      have hb := hP.b b ec
      rw [ec] at fin
      show wp (if nI b < 48 then _ else _) _
      by_cases q : b < 48
      · have z : dgB b = none := by
          unfold dgB
          rw [if_neg (by omega)]
        rw [if_pos (by rw [show (48 : Int32) = nI 48 from rfl, nI_ltp (by omega)]; exact q), show (some b).bind dgB = none from z]
        exact fin z
      by_cases q2 : 57 < b
      · have z : dgB b = none := by
          unfold dgB
          rw [if_neg (by omega)]
        rw [if_neg (by rw [show (48 : Int32) = nI 48 from rfl, nI_ltp (by omega)]; exact q), if_pos (by rw [show (57 : Int32) = nI 57 from rfl]; exact (by rw [nI_ltp (by omega)]; exact q2 : nI 57 < nI b)), show (some b).bind dgB = none from z]
        exact fin z
      have z : dgB b = some (b - 48) := by
        unfold dgB
        rw [if_pos (by omega)]
      rw [if_neg (by rw [show (48 : Int32) = nI 48 from rfl, nI_ltp (by omega)]; exact q), if_neg (by exact (by rw [nI_ltp (by omega)]; exact q2 : ¬ nI 57 < nI b)), if_neg (by rw [show (5 : Int32) = nI 5 from rfl, nI_ltp (by omega)]; omega), show (some b).bind dgB = some (b - 48) from z]
      show wp _ (SQ tp N 1 s σ0 p0 (if k = 5 then Sum.inl (flt 2 (p0 + k)) else numS tp N F (p0 + k + 1) (k + 1) (10 * v + (b - 48))))
      by_cases q3 : k = 5
      · rw [if_pos (by rw [q3]; rfl), if_pos q3]
        unfold F_X1_readFactor_150
        rw [T_cWrong2 hP.2.1, bd_s, g01_0]
        exact wp_some (SQ_no (by omega) (by omega) zwr_at (hf.1.w (Or.inr (by decide))))
      rw [if_neg (by rw [show (5 : Int32) = nI 5 from rfl, nI_eqp (by omega)]; exact q3), if_neg q3, nm_s, nm_s, nm_s, hP.2.1, nI_1, nI_1]
      obtain ⟨g1, g2⟩ := hP.step ec
      rw [g1.here, bd_s, show (10 : Int32) * nI v + e1 (some b) - 48 = nI (10 * v + (b - 48)) by show (10 : Int32) * nI v + nI b - 48 = nI (10 * v + (b - 48)); rw [show (10 : Int32) * nI v = nI (10 * v) from pk_mul 10 v, nI_add, show nI (10 * v + b) - (48 : Int32) = nI (10 * v + b - 48) from pk_sub (a := 10 * v + b) (b := 48) (by omega), show 10 * v + b - 48 = 10 * v + (b - 48) by omega]]
      exact ih fu (k + 1) (10 * v + (b - 48)) _ (by omega) (by omega) (by omega) hs g1 (hf.tr g2) (by rw [zwr_ne (by decide)]; exact h8)
/-- a factor -/
theorem T_cFac {tp : Nat → Nat} {N s p g d d2 : Nat} {rc : (Int32 → zSt → Option (Int32 × zSt)) × (Int32 → zSt → Option (Int32 × zSt))} {sub : Nat → lRes} {σ : zSt} (hg : g ≤ 6) (hsub : ¬ g = 0 → ∀ s p σ, CP tp N p s σ → wp (rc.2 (nI (6 - (g - 1))) σ) (SQ tp N d2 s σ p (sub p))) (h1 : 1 ≤ d) (h2 : d2 ≤ d) (hP : CP tp N p s σ) : wp (F_X1_readFactor_0 rc (nI (6 - g)) σ) (SQ tp N d s σ p (facS tp N sub g p)) := by
  have h24 := hP.1.1
  have hpN := hP.2.2.2.1
  have hsp := hP.2.2.2.2.1
  unfold F_X1_readFactor_0 facS
  rw [hP.here, bd_s]
  by_cases q : chN tp N p = some 91
  · rw [if_pos (by rw [show (91 : Int32) = nI 91 from rfl, hP.eq (by omega)]; exact q), if_pos q]
    by_cases q0 : g = 0
    · rw [if_neg (by rw [show (6 : Int32) = nI 6 from rfl, nI_ltp (by omega)]; omega), if_pos q0, T_cWrong5 hP.2.1, bd_s, g01_0]
      exact wp_some (SQ_no (by omega) (by omega) zwr_at (fr_w (Or.inr (by decide))))
    rw [if_pos (by rw [show (6 : Int32) = nI 6 from rfl, nI_ltp (by omega)]; omega), if_neg q0, nm_s, hP.2.1, nI_1, nI_1]
    obtain ⟨g1, g2⟩ := hP.step q
    rw [show 6 - g + 1 = 6 - (g - 1) by omega]
    refine wp_bd2 (hsub q0 s (p + 1) _ g1) (fun r τ hQ => ?_)
    cases es : sub (p + 1) with
    | inl F =>
      rw [es] at hQ
      obtain ⟨a1, a2, a3, a4⟩ := hQ
      rw [a1, if_pos rfl]
      exact wp_some ⟨rfl, a2, a3, g2.1.tr a4⟩
    | inr qv =>
      obtain ⟨q', v⟩ := qv
      rw [es] at hQ
      obtain ⟨a1, a2, t, hC, a3, a4, a5, a6⟩ := hQ
      rw [a1, if_neg (show ¬ (1 : Int32) = 0 by decide), show (93 : Int32) = nI 93 from rfl, T_cSign hC.1 hC.2.1 (by have := hC.2.2.2.1; omega) (by omega)]
      show wp _ (SQ tp N d s σ p (if chN tp N q' = some 93 then Sum.inr (q' + 1, v) else Sum.inl (flt 1 q')))
      by_cases q2 : chN tp N q' = some 93
      · rw [if_pos q2, if_pos q2, bd_s, if_neg (show ¬ (1 : Int32) = 0 by decide)]
        have w1 : cfr s τ (zwr τ 35 12 (flt 1 q')) := cfr_w (by decide)
        have hC' : CP tp N q' t (zwr τ 35 12 (flt 1 q')) := ⟨TXc_fr hC.1 w1, by rw [zwr_ne (by decide)]; exact hC.2.1, by rw [zwr_ne (by decide)]; exact hC.2.2.1, hC.2.2.2.1, hC.2.2.2.2.1, by rw [zwr_ne (by decide)]; exact hC.2.2.2.2.2⟩
        obtain ⟨k1, k2⟩ := hC'.step q2
        refine wp_some ⟨rfl, (g2.tr a2).tr (w1.tr (k2.dn (by omega))), t, k1, a3, by omega, ?_, ?_⟩
        · rw [zwr_n (by decide), zwr_n (by decide), zwr_n (by decide), zwr_n (by decide)]
          exact CS_up a5 h2
        · intro e
          rw [zwr_ne (by decide), zwr_ne (by decide)] at e
          obtain ⟨b1, b2⟩ := a6 e
          rw [zwr_ne (by decide)] at b1
          exact ⟨b1, b2⟩
      · rw [if_neg q2, if_neg q2, bd_s, if_pos rfl]
        exact wp_some (SQ_no (by omega) (by have := hC.2.2.2.1; omega) (by rw [zwr_ne (by decide)]; exact zwr_at) (((g2.1.tr a2.1).w (Or.inr (by decide))).w (Or.inr (by decide))))
  rw [if_neg (by rw [show (91 : Int32) = nI 91 from rfl, hP.eq (by omega)]; exact q), if_neg q]
  refine wp_eq2 (T_letter2 (fun b hb => hP.b b hb) (fun q21 s20 => F_X1_readFactor_73 rc (e1 (chN tp N p)) q21 s20)) ?_
  unfold F_X1_readFactor_73
  cases ek : (chN tp N p).bind letB with
  | none =>
    rw [if_pos (show e1 none < 0 by decide)]
    have := T_cNum (tp := tp) (N := N) rc (s := s) (p0 := p) (σ0 := σ) 7 zlim 0 0 σ (by omega) (by show 7 ≤ 1000000; omega) (by omega) hsp hP cfr.rf rfl
    refine wp_mono this (fun r τ h => ?_)
    show SQ tp N d s σ p (numS tp N 7 p 0 0) r τ
    have h' : SQ tp N 1 s σ p (numS tp N 7 p 0 0) r τ := h
    cases en : numS tp N 7 p 0 0 with
    | inl F =>
      rw [en] at h'
      exact h'
    | inr qv =>
      obtain ⟨q', v⟩ := qv
      rw [en] at h'
      obtain ⟨a1, a2, t, hC, a3, a4, a5, a6⟩ := h'
      exact ⟨a1, a2, t, hC, a3, a4, CS_up a5 h1, a6⟩
  | some k =>
    obtain ⟨b, eb, el⟩ : ∃ b, chN tp N p = some b ∧ letB b = some k := by
      cases eb : chN tp N p with
      | none =>
        rw [eb] at ek
        cases ek
      | some b =>
        rw [eb] at ek
        exact ⟨b, rfl, ek⟩
    have hk := letB_lt el
    have hpl := chN_in eb
    rw [if_neg (show ¬ e1 (some k) < 0 from nI_pos (by omega)), show e1 (some k) = nI k from rfl, T_cPut hP.2.2.1 (by omega), bd_s]
    have f : cfr s σ (zwr (zwr (zwr σ 36 s 63) 37 s (nI k)) 35 2 (nI (s + 1))) := ⟨((fr_w (Or.inl (by decide))).w (Or.inl (by decide))).w (Or.inr (by decide)), fun j hj => ⟨by rw [zwr_n (by decide), zwr_n (by decide), zwr_c, pk_un (by omega)], by rw [zwr_n (by decide), zwr_c, pk_un (by omega), zwr_n (by decide)]⟩⟩
    have e8 : (zwr (zwr (zwr σ 36 s 63) 37 s (nI k)) 35 2 (nI (s + 1))).1 35 8 = σ.1 35 8 := by
      rw [zwr_ne (by decide), zwr_n (by decide), zwr_n (by decide)]
    have key : ∀ ask : Int32, (ask = 0 ∨ ask = 1) → (ask = 0 → σ.1 35 8 = 0 ∧ ¬ k = 8) → wp (gd (ask = 0 ∨ ask = 1) (nm (zwr (zwr (zwr (zwr σ 36 s 63) 37 s (nI k)) 35 2 (nI (s + 1))) 35 8 ask) (fun s50 => nm (zwr s50 35 11 ((s50.1 35 11) + (1 : Int32))) (fun s52 => some ((1 : Int32), s52))))) (SQ tp N d s σ p (Sum.inr (p + 1, fun lt => some (lt k)))) := by
      intro ask h0 ha
      rw [gd_t h0, nm_s, zwr_ne (by decide), zwr_ne (by decide), zwr_n (by decide), zwr_n (by decide), hP.2.1, nI_1, nm_s]
      have f2 : cfr s (zwr (zwr (zwr σ 36 s 63) 37 s (nI k)) 35 2 (nI (s + 1))) (zwr (zwr (zwr (zwr (zwr σ 36 s 63) 37 s (nI k)) 35 2 (nI (s + 1))) 35 8 ask) 35 11 (nI (p + 1))) := (cfr_w (by decide)).tr (cfr_w (by decide))
      refine wp_some ⟨rfl, f.tr f2, s + 1, ⟨TXc_fr hP.1 (f.tr f2), zwr_at, by rw [zwr_ne (by decide), zwr_ne (by decide)]; exact zwr_at, by omega, by omega, by rw [zwr_ne (by decide), zwr_at]; exact h0⟩, by omega, by omega, ?_, ?_⟩
      · refine CS_up (CS_let hk ?_ ?_) h1
        · rw [zwr_n (by decide), zwr_n (by decide), zwr_n (by decide), zwr_n (by decide), zwr_c, pk_us]
        · rw [zwr_n (by decide), zwr_n (by decide), zwr_n (by decide), zwr_c, pk_us]
      · intro e
        rw [zwr_ne (by decide), zwr_at] at e
        obtain ⟨b1, b2⟩ := ha e
        refine ⟨b1, fun l1 l2 hl => ?_⟩
        show some (l2 k) = some (l1 k)
        rw [hl k (by omega)]
    rw [e8]
    show wp (nm _ _) _
    rw [nm_s]
    by_cases z : σ.1 35 8 = 0
    · rw [if_pos z]
      by_cases z2 : k = 8
      · rw [if_pos (show nI k = 8 by rw [z2]; rfl)]
        exact key 1 (Or.inr rfl) (fun w => absurd w (by decide))
      · rw [if_neg (show ¬ nI k = 8 by exact (by rw [nI_eqp (by omega)]; exact z2 : ¬ nI k = nI 8))]
        exact key 0 (Or.inl rfl) (fun _ => ⟨z, z2⟩)
    · rw [if_neg z]
      exact key 1 (Or.inr rfl) (fun w => absurd w (by decide))
