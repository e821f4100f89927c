/-! PURE: the law, the class reads a condition -/
theorem T_cLead {tp : Nat → Nat} {N q t b lo : Nat} {ch : List Nat} {h : Int32} {σ : zSt} (hC : CP tp N q t σ) (e : lkd (σ.1 37) ch b h) (hb : b ≤ 240) (hl : ∀ j, j ∈ ch → lo ≤ j) : ∃ τ, F_X1_leadHere h σ = some ((), τ) ∧ CP tp N q t τ ∧ cfr lo σ τ ∧ τ.1 36 = σ.1 36 ∧ (∀ j, τ.1 37 j = if j ∈ ch then nI t else σ.1 37 j) ∧ τ.1 35 8 = σ.1 35 8 := by
  obtain ⟨v, ev, hv⟩ := T_leadHere e hb
  have f : cfr lo σ (zrow σ 37 v) := ⟨fr_z (by decide), fun j hj => ⟨by rw [zrow_r]; rfl, by
    rw [zrow_r, if_pos rfl, hv j, if_neg (fun q => by have := hl j q; omega)]⟩⟩
  have r35 : (zrow σ 37 v).1 35 = σ.1 35 := by
    rw [zrow_r]
    rfl
  refine ⟨zrow σ 37 v, ev, ⟨TXc_fr hC.1 f, by rw [r35]; exact hC.2.1, by rw [r35]; exact hC.2.2.1, hC.2.2.2.1, hC.2.2.2.2.1, by rw [r35]; exact hC.2.2.2.2.2⟩, f, by rw [zrow_r]; rfl, fun j => ?_, by rw [r35]⟩
  rw [zrow_r, if_pos rfl, hv j, hC.2.2.1]
theorem T_cPutP {tp : Nat → Nat} {N q t : Nat} {x y : Int32} {σ : zSt} (hC : CP tp N q t σ) (ht : t + 1 ≤ q) : ∃ τ, F_X1_put x y σ = some (nI t, τ) ∧ CP tp N q (t + 1) τ ∧ cfr t σ τ ∧ τ.1 36 t = x ∧ τ.1 37 t = y ∧ τ.1 35 8 = σ.1 35 8 := by
  have hq := hC.2.2.2.1
  have h24 := hC.1.1
  have f1 : cfr t σ (zwr (zwr (zwr σ 36 t x) 37 t y) 35 2 (nI (t + 1))) := ⟨((fr_w (Or.inl (by decide))).w (Or.inl (by decide))).w (Or.inr (by decide)), fun j hj => ⟨by rw [zwr_n (by decide), zwr_n (by decide), zwr_c, pk_un (by omega)], by rw [zwr_n (by decide), zwr_c, pk_un (by omega), zwr_n (by decide)]⟩⟩
  have e8 : (zwr (zwr (zwr σ 36 t x) 37 t y) 35 2 (nI (t + 1))).1 35 8 = σ.1 35 8 := by
    rw [zwr_ne (by decide), zwr_n (by decide), zwr_n (by decide)]
  refine ⟨_, T_cPut hC.2.2.1 (by omega), ⟨TXc_fr hC.1 f1, by rw [zwr_ne (by decide), zwr_n (by decide), zwr_n (by decide)]; exact hC.2.1, zwr_at, hq, ht, by rw [e8]; exact hC.2.2.2.2.2⟩, f1, ?_, ?_, e8⟩
  · rw [zwr_n (by decide), zwr_n (by decide), zwr_c, pk_us]
  · rw [zwr_n (by decide), zwr_c, pk_us]
/-- a leap is put, its sign passed -/
theorem T_cLeap {β : Type} {tp : Nat → Nat} {N q t b : Nat} {x y : Int32} {σ : zSt} (hC : CP tp N q t σ) (hb : chN tp N q = some b) : ∃ τ, (∀ K : Int32 → zSt → Option β, bd (F_X1_put x y σ) (fun r s => nm (zwr s 35 11 ((s.1 35 11) + (1 : Int32))) (fun s2 => K r s2)) = K (nI t) τ) ∧ CP tp N (q + 1) (t + 1) τ ∧ cfr t σ τ ∧ τ.1 36 t = x ∧ τ.1 37 t = y ∧ τ.1 35 8 = σ.1 35 8 := by
  have hq := chN_in hb
  have h24 := hC.1.1
  have htq := hC.2.2.2.2.1
  have f1 : cfr t σ (zwr (zwr (zwr σ 36 t x) 37 t y) 35 2 (nI (t + 1))) := ⟨((fr_w (Or.inl (by decide))).w (Or.inl (by decide))).w (Or.inr (by decide)), fun j hj => ⟨by rw [zwr_n (by decide), zwr_n (by decide), zwr_c, pk_un (by omega)], by rw [zwr_n (by decide), zwr_c, pk_un (by omega), zwr_n (by decide)]⟩⟩
  have f2 : cfr t σ (zwr (zwr (zwr (zwr σ 36 t x) 37 t y) 35 2 (nI (t + 1))) 35 11 (nI (q + 1))) := f1.tr (cfr_w (by decide))
  refine ⟨zwr (zwr (zwr (zwr σ 36 t x) 37 t y) 35 2 (nI (t + 1))) 35 11 (nI (q + 1)), fun K => ?_, ⟨TXc_fr hC.1 f2, zwr_at, by rw [zwr_ne (by decide)]; exact zwr_at, by omega, by omega, by rw [zwr_ne (by decide), zwr_ne (by decide), zwr_n (by decide), zwr_n (by decide)]; exact hC.2.2.2.2.2⟩, f2, ?_, ?_, ?_⟩
  · rw [T_cPut hC.2.2.1 (by omega), bd_s, zwr_ne (by decide), zwr_n (by decide), zwr_n (by decide), hC.2.1, nI_1, nm_s]
  · rw [zwr_n (by decide), zwr_n (by decide), zwr_n (by decide), zwr_c, pk_us]
  · rw [zwr_n (by decide), zwr_n (by decide), zwr_c, pk_us]
  · rw [zwr_ne (by decide), zwr_ne (by decide), zwr_n (by decide), zwr_n (by decide)]
theorem T_cConL {tp : Nat → Nat} {N d : Nat} {rc : (Int32 → zSt → Option (Int32 × zSt)) × (Int32 → zSt → Option (Int32 × zSt))} {x1 : Int32} {pie : Nat → lRes} (hd : 1 ≤ d) (hpie : ∀ s p σ, CP tp N p s σ → wp (rc.2 x1 σ) (SQ tp N d s σ p (pie p))) {s0 p0 : Nat} {σ0 : zSt} (hs0 : s0 ≤ p0) : ∀ F fu i p k m co ca xo xa D A (σ : zSt), N < F + p → F ≤ fu → 2 * i + p0 ≤ p → k + p0 ≤ s0 + p → CP tp N p k σ → cfr s0 σ0 σ → PJ true (σ.1 36) (σ.1 37) s0 m co d D → PJ false (σ.1 36) (σ.1 37) m k ca d A → lkd (σ.1 37) co m xo → lkd (σ.1 37) ca k xa → (σ.1 35 8 = 0 → σ0.1 35 8 = 0 ∧ lIn D ∧ lIn A) → wp (zfix (F_X1_readCondition_7L rc x1) fu (xo, xa, nI i, σ)) (SQ tp N d s0 σ0 p0 (conL tp N pie F p D A)) := by
  intro F
  induction F with
  | zero =>
    intro fu i p k m co ca xo xa D A σ h1 h2 h3 h4 hP
    have := hP.2.2.2.1
    omega
  | succ F ih =>
    intro fu i p k m co ca xo xa D A σ h1 h2 h3 h4 hP hf hD hA lo la h8
    obtain ⟨fu, rfl⟩ : ∃ g, fu = g + 1 := ⟨fu - 1, by omega⟩
    have h24 := hP.1.1
    have hpN := hP.2.2.2.1
    have hkp := hP.2.2.2.2.1
    have sm := hD.1.1
    have mk := hA.1.1
    show wp (F_X1_readCondition_7 rc x1 (zfix (F_X1_readCondition_7L rc x1) fu) xo xa (nI i) σ) _
    unfold F_X1_readCondition_7 conL
    rw [if_neg (by rw [show (240 : Int32) = nI 240 from rfl, nI_lep (by omega)]; omega)]
    refine wp_bd2 (hpie k p σ hP) (fun r τ hQ => ?_)
    cases es : pie p with
    | inl E =>
      rw [es] at hQ
      obtain ⟨a1, a2, a3, a4⟩ := hQ
      rw [a1, if_pos rfl]
      exact wp_some ⟨rfl, a2, a3, hf.1.tr a4⟩
    | inr qv =>
      obtain ⟨q, P⟩ := qv
      rw [es] at hQ
      obtain ⟨a1, a2, t, hC, a3, a4, a5, a6⟩ := hQ
      have hqN := hC.2.2.2.1
      have htq := hC.2.2.2.2.1
      rw [a1, if_neg (show ¬ (1 : Int32) = 0 by decide), hC.here, bd_s]
      show wp _ (SQ tp N d s0 σ0 p0 (if chN tp N q = some 38 then conL tp N pie F (q + 1) D (lAnd A P) else if chN tp N q = some 124 then conL tp N pie F (q + 1) (lOr D (lAnd A P)) lOne else Sum.inr (q, lOr D (lAnd A P))))
      have e38 : (e1 (chN tp N q) = 38) = (chN tp N q = some 38) := hC.eq (c := 38) (by omega)
      have e124 : (e1 (chN tp N q) = 124) = (chN tp N q = some 124) := hC.eq (c := 124) (by omega)
      have ht1 : cfr s0 σ0 τ := hf.tr (a2.dn (by omega))
      have hD1 : PJ true (τ.1 36) (τ.1 37) s0 m co d D := PJ_on hD (fun j j1 j2 => a2.2 j (by omega))
      have hA1 : PJ false (τ.1 36) (τ.1 37) m k ca d A := PJ_on hA (fun j j1 j2 => a2.2 j (by omega))
      have lo1 : lkd (τ.1 37) co m xo := lkd_on (s := 0) co m xo lo (fun j _ => Nat.zero_le j) (fun j _ j2 => (a2.2 j (by omega)).2)
      have la1 : lkd (τ.1 37) ca k xa := lkd_on (s := 0) ca k xa la (fun j _ => Nat.zero_le j) (fun j _ j2 => (a2.2 j (by omega)).2)
      by_cases q1 : chN tp N q = some 38
      · rw [if_pos (by rw [e38]; exact q1), if_pos q1]
        obtain ⟨τ1, b1, b2, b3, b4, b5, b6⟩ := T_cLeap (β := Int32 × zSt) (x := 38) (y := xa) hC q1
        rw [b1 (fun q14 s16 => F_X1_readCondition_94 rc (zfix (F_X1_readCondition_7L rc x1) fu) x1 xo q14 (nI i) s16)]
        unfold F_X1_readCondition_94
        rw [nm_s, nI_1]
        refine ih fu (i + 1) (q + 1) (t + 1) m co (t :: ca) xo (nI t) D (lAnd A P) τ1 (by omega) (by omega) (by omega) (by omega) b2 (ht1.tr (b3.dn (by omega))) (PJ_on hD1 (fun j j1 j2 => b3.2 j (by omega))) ?_ (lkd_on (s := 0) co m xo lo1 (fun j _ => Nat.zero_le j) (fun j _ j2 => (b3.2 j (by omega)).2)) ⟨rfl, Nat.lt_succ_self t, ?_⟩ ?_
        · rw [← lJ_and]
          exact PJ_s (PJ_on hA1 (fun j j1 j2 => b3.2 j (by omega))) (CS_on a5 (fun j j1 j2 => b3.2 j j2)) hd b4
        · rw [b5]
          exact lkd_up (lkd_on (s := 0) ca k xa la1 (fun j _ => Nat.zero_le j) (fun j _ j2 => (b3.2 j (by omega)).2)) (by omega)
        · intro e
          rw [b6] at e
          obtain ⟨c1, c2⟩ := a6 e
          obtain ⟨d1, d2, d3⟩ := h8 c1
          exact ⟨d1, d2, lIn_and d3 c2⟩
      rw [if_neg (by rw [e38]; exact q1), if_neg q1]
      obtain ⟨τ1, b1, b2, b3, b4, b5, b6⟩ := T_cLead (lo := m) hC la1 (by omega) (fun j hj => (hA1.1.2 j hj).1)
      rw [b1, bd_s]
      have hT : CS (τ1.1 36) (τ1.1 37) m t d (lAnd A P) := by
        rw [← lJ_and]
        exact PJ_e hA1 a5 (fun j j1 j2 => ⟨by rw [b4], b5 j⟩)
      have hD2 : PJ true (τ1.1 36) (τ1.1 37) s0 m co d D := PJ_on hD1 (fun j j1 j2 => b3.2 j j2)
      have lo2 : lkd (τ1.1 37) co m xo := lkd_on (s := 0) co m xo lo1 (fun j _ => Nat.zero_le j) (fun j _ j2 => (b3.2 j j2).2)
      have ht2 : cfr s0 σ0 τ1 := ht1.tr (b3.dn sm)
      have ask : τ1.1 35 8 = 0 → σ0.1 35 8 = 0 ∧ lIn D ∧ lIn (lAnd A P) := by
        intro e
        rw [b6] at e
        obtain ⟨c1, c2⟩ := a6 e
        obtain ⟨d1, d2, d3⟩ := h8 c1
        exact ⟨d1, d2, lIn_and d3 c2⟩
      by_cases q2 : chN tp N q = some 124
      · rw [if_pos (by rw [e124]; exact q2), if_pos q2]
        obtain ⟨τ2, v1, v2, v3, v4, v5, v6⟩ := T_cLeap (β := Int32 × zSt) (x := 124) (y := xo) b2 q2
        rw [v1 (fun q23 s25 => F_X1_readCondition_94 rc (zfix (F_X1_readCondition_7L rc x1) fu) x1 q23 (-1) (nI i) s25)]
        unfold F_X1_readCondition_94
        rw [nm_s, nI_1]
        refine ih fu (i + 1) (q + 1) (t + 1) (t + 1) (t :: co) [] (nI t) (-1) (lOr D (lAnd A P)) lOne τ2 (by omega) (by omega) (by omega) (by omega) v2 (ht2.tr (v3.dn (by omega))) ?_ PJ_0 ⟨rfl, Nat.lt_succ_self t, ?_⟩ rfl ?_
        · rw [← lJ_or]
          exact PJ_s (PJ_on hD2 (fun j j1 j2 => v3.2 j (by omega))) (CS_on hT (fun j j1 j2 => v3.2 j j2)) hd v4
        · rw [v5]
          exact lkd_up (lkd_on (s := 0) co m xo lo2 (fun j _ => Nat.zero_le j) (fun j _ j2 => (v3.2 j (by omega)).2)) (by omega)
        · intro e
          rw [v6] at e
          obtain ⟨d1, d2, d3⟩ := ask e
          exact ⟨d1, lIn_or d2 d3, fun _ _ _ => rfl⟩
      rw [if_neg (by rw [e124]; exact q2), if_neg q2]
      unfold F_X1_readCondition_73 F_X1_readCondition_100
      obtain ⟨τ2, v1, v2, v3, v4, v5, v6⟩ := T_cLead (lo := s0) b2 lo2 (by omega) (fun j hj => (hD2.1.2 j hj).1)
      rw [v1, bd_s]
      refine wp_some ⟨rfl, ht2.tr v3, t, v2, by omega, by omega, ?_, ?_⟩
      · rw [← lJ_or]
        exact PJ_e hD2 hT (fun j j1 j2 => ⟨by rw [v4], v5 j⟩)
      · intro e
        rw [v6] at e
        obtain ⟨d1, d2, d3⟩ := ask e
        exact ⟨d1, lIn_or d2 d3⟩
theorem cmpB {o : Option Nat} (h : isCmp o = true) : ∃ c, o = some c ∧ (c = 60 ∨ c = 61 ∨ c = 62) := by
  unfold isCmp at h
  have h' := of_decide_eq_true h
  rcases h' with e | e | e
  · exact ⟨60, e, Or.inl rfl⟩
  · exact ⟨61, e, Or.inr (Or.inl rfl)⟩
  · exact ⟨62, e, Or.inr (Or.inr rfl)⟩
/-- two sums compared -/
theorem T_cCmp {tp : Nat → Nat} {N g s p : Nat} {rc : (Int32 → zSt → Option (Int32 × zSt)) × (Int32 → zSt → Option (Int32 × zSt))} {σ : zSt} (hg : g ≤ 6) (hP : CP tp N p s σ) : wp (bd (F_X1_readSum (nI (6 - g)) σ) (fun q29 s28 => if q29 = 0 then some ((0 : Int32), s28) else bd (F_X1_here s28) (fun q33 s32 => if q33 = (60 : Int32) then F_X1_readPiece_131 rc (nI (6 - g)) q33 s32 else (if q33 = (62 : Int32) then F_X1_readPiece_131 rc (nI (6 - g)) q33 s32 else (if q33 = (61 : Int32) then F_X1_readPiece_131 rc (nI (6 - g)) q33 s32 else bd (F_X1_wrong (1 : Int32) s32) (fun q47 s46 => gd (q47 = 0 ∨ q47 = 1) (some (q47, s46)))))))) (SQ tp N (4 + 2 * g) s σ p (cmpS tp N g p)) := by
  have h24 := hP.1.1
  have hsp := hP.2.2.2.2.1
  unfold cmpS F_X1_readSum
  refine wp_bd2 (T_cSum g 100 hg (by omega) s p σ hP) (fun r τ hQ => ?_)
  cases es : sumS tp N g p with
  | inl E =>
    rw [es] at hQ
    obtain ⟨a1, a2, a3, a4⟩ := hQ
    rw [a1, if_pos rfl]
    exact wp_some ⟨rfl, a2, a3, a4⟩
  | inr qv =>
    obtain ⟨q, a⟩ := qv
    rw [es] at hQ
    obtain ⟨a1, a2, t, hC, a3, a4, a5, a6⟩ := hQ
    have hqN := hC.2.2.2.1
    rw [a1, if_neg (show ¬ (1 : Int32) = 0 by decide), hC.here, bd_s]
    show wp _ (SQ tp N (4 + 2 * g) s σ p (if isCmp (chN tp N q) = true then (match sumS tp N g (q + 1) with
    | Sum.inl f => Sum.inl f
    | Sum.inr (r, b) => Sum.inr (r, lBin ((chN tp N q).getD 0) a b)) else Sum.inl (flt 1 q)))
    have e60 : (e1 (chN tp N q) = 60) = (chN tp N q = some 60) := hC.eq (c := 60) (by omega)
    have e61 : (e1 (chN tp N q) = 61) = (chN tp N q = some 61) := hC.eq (c := 61) (by omega)
    have e62 : (e1 (chN tp N q) = 62) = (chN tp N q = some 62) := hC.eq (c := 62) (by omega)
    by_cases q1 : isCmp (chN tp N q) = true
    · obtain ⟨c, ec, hc⟩ := cmpB q1
      rw [if_pos q1, show (chN tp N q).getD 0 = c by rw [ec]; rfl]
      have k : wp (F_X1_readPiece_131 rc (nI (6 - g)) (e1 (chN tp N q)) τ) (SQ tp N (4 + 2 * g) s σ p (match sumS tp N g (q + 1) with
    | Sum.inl f => Sum.inl f
    | Sum.inr (r, b) => Sum.inr (r, lBin c a b))) := by
        unfold F_X1_readPiece_131 F_X1_readSum
        obtain ⟨k1, k2⟩ := hC.step ec
        rw [hC.2.1, nI_1, nm_s]
        refine wp_bd2 (T_cSum g 100 hg (by omega) t (q + 1) _ k1) (fun r2 τ2 hQ2 => ?_)
        cases et : sumS tp N g (q + 1) with
        | inl E =>
          rw [et] at hQ2
          obtain ⟨c1, c2, c3, c4⟩ := hQ2
          rw [c1, if_pos rfl]
          exact wp_some ⟨rfl, c2, c3, (a2.1.tr k2.1).tr c4⟩
        | inr rb =>
          obtain ⟨z, b⟩ := rb
          rw [et] at hQ2
          obtain ⟨c1, c2, t2, hC2, c3, c4, c5, c6⟩ := hQ2
          rw [c1, if_neg (show ¬ (1 : Int32) = 0 by decide), ec]
          obtain ⟨τ3, d1, d2, d3, d4, d5, d6⟩ := T_cPutP (x := nI c) (y := 0) hC2 (by omega)
          show wp (bd (F_X1_put (nI c) 0 τ2) _) _
          rw [d1, bd_s]
          have f1 : cfr t τ τ3 := (k2.tr c2).tr (d3.dn (by omega))
          refine wp_some ⟨rfl, a2.tr (f1.dn (by omega)), t2 + 1, d2, by omega, by omega, ?_, ?_⟩
          · have e4 : 4 + 2 * g = (3 + 2 * g) + 1 := by omega
            rw [e4]
            refine CS_bin (CS_up (CS_on a5 (fun j j1 j2 => f1.2 j j2)) (by omega)) (CS_on c5 (fun j j1 j2 => d3.2 j j2)) (by omega) (by unfold isOp; omega) d4
          · intro e
            rw [d6] at e
            obtain ⟨w1, w2⟩ := c6 e
            rw [zwr_ne (by decide)] at w1
            obtain ⟨w3, w4⟩ := a6 w1
            exact ⟨w3, lIn_bin w4 w2⟩
      by_cases q2 : chN tp N q = some 60
      · rw [if_pos (by rw [e60]; exact q2)]
        exact k
      rw [if_neg (by rw [e60]; exact q2)]
      by_cases q3 : chN tp N q = some 62
      · rw [if_pos (by rw [e62]; exact q3)]
        exact k
      rw [if_neg (by rw [e62]; exact q3), if_pos (by rw [e61, ec]; rcases hc with rfl | rfl | rfl; exact absurd ec q2; rfl; exact absurd ec q3)]
      exact k
    · have n60 : ¬ chN tp N q = some 60 := fun z => q1 (by unfold isCmp; exact decide_eq_true (Or.inl z))
      have n61 : ¬ chN tp N q = some 61 := fun z => q1 (by unfold isCmp; exact decide_eq_true (Or.inr (Or.inl z)))
      have n62 : ¬ chN tp N q = some 62 := fun z => q1 (by unfold isCmp; exact decide_eq_true (Or.inr (Or.inr z)))
      rw [if_neg q1, if_neg (by rw [e60]; exact n60), if_neg (by rw [e62]; exact n62), if_neg (by rw [e61]; exact n61), T_cWrong1 hC.2.1, bd_s, g01_0]
      exact wp_some (SQ_no (by omega) (by omega) zwr_at (a2.1.w (Or.inr (by decide))))
theorem SQ_move {tp : Nat → Nat} {N d s p b : Nat} {σ τ : zSt} {res : lRes} {r : Int32} (hP : CP tp N p s σ) (hb : chN tp N p = some b) (h : SQ tp N d s (zwr σ 35 11 (nI (p + 1))) (p + 1) res r τ) : match (motive := lRes → Prop) res with
  | Sum.inl F => r = 0 ∧ τ.1 35 12 = F ∧ F ≤ 0 ∧ fr [36, 37] [(35, 2), (35, 8), (35, 11), (35, 12)] σ τ
  | Sum.inr (q, v) => r = 1 ∧ cfr s σ τ ∧ ∃ t, CP tp N q t τ ∧ s < t ∧ t + p + 1 ≤ s + q ∧ CS (τ.1 36) (τ.1 37) s t d v ∧ (τ.1 35 8 = 0 → σ.1 35 8 = 0 ∧ lIn v) := by
  obtain ⟨g1, g2⟩ := hP.step hb
  cases res with
  | inl F => exact ⟨h.1, h.2.1, h.2.2.1, g2.1.tr h.2.2.2⟩
  | inr qv =>
    obtain ⟨q, v⟩ := qv
    obtain ⟨a1, a2, t, hC, a3, a4, a5, a6⟩ := h
    refine ⟨a1, g2.tr a2, t, hC, a3, by omega, a5, fun e => ?_⟩
    have := a6 e
    rw [zwr_ne (by decide)] at this
    exact this
/-- a piece: not, a condition in brackets, or two sums compared -/
theorem T_cPie {tp : Nat → Nat} {N g s p : Nat} {rc : (Int32 → zSt → Option (Int32 × zSt)) × (Int32 → zSt → Option (Int32 × zSt))} {σ : zSt} (hg : g ≤ 5) (hcon : ∀ k, g = k + 1 → ∀ s p σ, CP tp N p s σ → wp (rc.1 (nI (6 - k)) σ) (SQ tp N (4 + 2 * k) s σ p (conL tp N (pieS tp N k) 300 p lZer lOne))) (hpie : ∀ k, g = k + 1 → ∀ s p σ, CP tp N p s σ → wp (rc.2 (nI (6 - k)) σ) (SQ tp N (4 + 2 * k) s σ p (pieS tp N k p))) (hP : CP tp N p s σ) : wp (F_X1_readPiece_0 rc (nI (6 - g)) σ) (SQ tp N (4 + 2 * g) s σ p (pieS tp N g p)) := by
  have h24 := hP.1.1
  have hpN := hP.2.2.2.1
  have hsp := hP.2.2.2.2.1
  have e33 : (e1 (chN tp N p) = 33) = (chN tp N p = some 33) := hP.eq (c := 33) (by omega)
  have e40 : (e1 (chN tp N p) = 40) = (chN tp N p = some 40) := hP.eq (c := 40) (by omega)
  unfold F_X1_readPiece_0
  rw [hP.here, bd_s]
  have low : g = 0 → wp (F_X1_readPiece_17 rc (nI (6 - g)) (e1 (chN tp N p)) σ) (SQ tp N (4 + 2 * g) s σ p (Sum.inl (flt 5 p))) := by
    intro g0
    unfold F_X1_readPiece_17
    rw [if_neg (by rw [show (6 : Int32) = nI 6 from rfl, nI_ltp (by omega)]; omega), T_cWrong5 hP.2.1, bd_s, g01_0]
    exact wp_some (SQ_no (by omega) (by omega) zwr_at (fr_w (Or.inr (by decide))))
  by_cases q1 : chN tp N p = some 33
  · rw [if_pos (by rw [e33]; exact q1)]
    cases g with
    | zero =>
      rw [pieS, if_pos (Or.inl q1)]
      exact low rfl
    | succ g =>
      rw [pieS, if_pos q1]
      unfold F_X1_readPiece_17
      rw [if_pos (by rw [show (6 : Int32) = nI 6 from rfl, nI_ltp (by omega)]; omega), hP.2.1, nI_1, nm_s, if_neg (by rw [e40, q1]; exact fun w => absurd (Option.some.inj w) (by decide)), nI_1, show 6 - (g + 1) + 1 = 6 - g by omega]
      obtain ⟨k1, k2⟩ := hP.step q1
      refine wp_bd2 (hpie g rfl s (p + 1) _ k1) (fun r τ hQ => ?_)
      have hQ' := SQ_move hP q1 hQ
      cases es : pieS tp N g (p + 1) with
      | inl E =>
        rw [es] at hQ'
        obtain ⟨a1, a2, a3, a4⟩ := hQ'
        rw [a1, if_pos rfl]
        exact wp_some ⟨rfl, a2, a3, a4⟩
      | inr qv =>
        obtain ⟨q, v⟩ := qv
        rw [es] at hQ'
        obtain ⟨a1, a2, t, hC, a3, a4, a5, a6⟩ := hQ'
        rw [a1, if_neg (show ¬ (1 : Int32) = 0 by decide)]
        obtain ⟨τ3, d1, d2, d3, d4, d5, d6⟩ := T_cPutP (x := 33) (y := 0) hC (by omega)
        rw [d1, bd_s]
        refine wp_some ⟨rfl, a2.tr (d3.dn (by omega)), t + 1, d2, by omega, by omega, CS_up (CS_not (CS_on a5 (fun j j1 j2 => d3.2 j j2)) (by omega) d4) (by omega), ?_⟩
        intro e
        rw [d6] at e
        obtain ⟨w1, w2⟩ := a6 e
        exact ⟨w1, lIn_not w2⟩
  rw [if_neg (by rw [e33]; exact q1)]
  by_cases q2 : chN tp N p = some 40
  · rw [if_pos (by rw [e40]; exact q2)]
    cases g with
    | zero =>
      rw [pieS, if_pos (Or.inr q2)]
      exact low rfl
    | succ g =>
      rw [pieS, if_neg q1, if_pos q2]
      unfold F_X1_readPiece_17
      rw [if_pos (by rw [show (6 : Int32) = nI 6 from rfl, nI_ltp (by omega)]; omega), hP.2.1, nI_1, nm_s, if_pos (by rw [e40]; exact q2), nI_1, show 6 - (g + 1) + 1 = 6 - g by omega]
      obtain ⟨k1, k2⟩ := hP.step q2
      refine wp_bd2 (hcon g rfl s (p + 1) _ k1) (fun r τ hQ => ?_)
      have hQ' := SQ_move hP q2 hQ
      cases es : conL tp N (pieS tp N g) 300 (p + 1) lZer lOne with
      | inl E =>
        rw [es] at hQ'
        obtain ⟨a1, a2, a3, a4⟩ := hQ'
        rw [a1, if_pos rfl]
        exact wp_some ⟨rfl, a2, a3, a4⟩
      | inr qv =>
        obtain ⟨q, v⟩ := qv
        rw [es] at hQ'
        obtain ⟨a1, a2, t, hC, a3, a4, a5, a6⟩ := hQ'
        have hqN := hC.2.2.2.1
        rw [a1, if_neg (show ¬ (1 : Int32) = 0 by decide), show (41 : Int32) = nI 41 from rfl, T_cSign hC.1 hC.2.1 (by omega) (by omega)]
        show wp _ (SQ tp N (4 + 2 * (g + 1)) s σ p (if chN tp N q = some 41 then Sum.inr (q + 1, v) else Sum.inl (flt 1 q)))
        by_cases q3 : chN tp N q = some 41
        · rw [if_pos q3, if_pos q3, bd_s, if_neg (show ¬ (1 : Int32) = 0 by decide)]
          have w1 : cfr s τ (zwr τ 35 12 (flt 1 q)) := cfr_w (by decide)
          have hC' : CP tp N q t (zwr τ 35 12 (flt 1 q)) := ⟨TXc_fr hC.1 w1, by rw [zwr_ne (by decide)]; exact hC.2.1, by rw [zwr_ne (by decide)]; exact hC.2.2.1, hC.2.2.2.1, hC.2.2.2.2.1, by rw [zwr_ne (by decide)]; exact hC.2.2.2.2.2⟩
          obtain ⟨k3, k4⟩ := hC'.step q3
          refine wp_some ⟨rfl, a2.tr (w1.tr (k4.dn (by omega))), t, k3, a3, by omega, ?_, ?_⟩
          · rw [zwr_n (by decide), zwr_n (by decide), zwr_n (by decide), zwr_n (by decide)]
            exact CS_up a5 (by omega)
          · intro e
            rw [zwr_ne (by decide), zwr_ne (by decide)] at e
            exact a6 e
        · rw [if_neg q3, if_neg q3, bd_s, if_pos rfl]
          exact wp_some (SQ_no (by omega) (by omega) (by rw [zwr_ne (by decide)]; exact zwr_at) ((a2.1.w (Or.inr (by decide))).w (Or.inr (by decide))))
  rw [if_neg (by rw [e40]; exact q2)]
  have ec : pieS tp N g p = cmpS tp N g p := by
    cases g with
    | zero => rw [pieS, if_neg (fun w => w.elim q1 q2)]
    | succ g => rw [pieS, if_neg q1, if_neg q2]
  rw [ec]
  exact T_cCmp (by omega) hP
theorem T_cCon {tp : Nat → Nat} {N : Nat} : ∀ g, g ≤ 5 → (∀ n, 2 * g + 1 ≤ n → ∀ s p (σ : zSt), CP tp N p s σ → wp ((R_X1_readCondition_X1_readPiece n).2 (nI (6 - g)) σ) (SQ tp N (4 + 2 * g) s σ p (pieS tp N g p))) ∧ (∀ n, 2 * g + 2 ≤ n → ∀ s p (σ : zSt), CP tp N p s σ → wp ((R_X1_readCondition_X1_readPiece n).1 (nI (6 - g)) σ) (SQ tp N (4 + 2 * g) s σ p (conL tp N (pieS tp N g) 300 p lZer lOne))) := by
  intro g
  induction g with
  | zero =>
    intro hg
    have h1 : ∀ n, 2 * 0 + 1 ≤ n → ∀ s p (σ : zSt), CP tp N p s σ → wp ((R_X1_readCondition_X1_readPiece n).2 (nI (6 - 0)) σ) (SQ tp N (4 + 2 * 0) s σ p (pieS tp N 0 p)) := by
      intro n hn s p σ hP
      obtain ⟨n, rfl⟩ : ∃ k, n = k + 1 := ⟨n - 1, by omega⟩
      exact T_cPie (rc := R_X1_readCondition_X1_readPiece n) hg (fun k hk => absurd hk (by omega)) (fun k hk => absurd hk (by omega)) hP
    refine ⟨h1, fun n hn s p σ hP => ?_⟩
    obtain ⟨n, rfl⟩ : ∃ k, n = k + 1 := ⟨n - 1, by omega⟩
    have := hP.1.1
    exact T_cConL (rc := R_X1_readCondition_X1_readPiece n) (x1 := nI (6 - 0)) (pie := pieS tp N 0) (by omega) (fun s p σ hP => h1 n (by omega) s p σ hP) hP.2.2.2.2.1 300 zlim 0 p s s [] [] (-1) (-1) lZer lOne σ (by omega) (by show 300 ≤ 1000000; omega) (by omega) (by omega) hP cfr.rf PJ_0 PJ_0 rfl rfl (fun e => ⟨e, fun _ _ _ => rfl, fun _ _ _ => rfl⟩)
  | succ g ih =>
    intro hg
    obtain ⟨i1, i2⟩ := ih (by omega)
    have h1 : ∀ n, 2 * (g + 1) + 1 ≤ n → ∀ s p (σ : zSt), CP tp N p s σ → wp ((R_X1_readCondition_X1_readPiece n).2 (nI (6 - (g + 1))) σ) (SQ tp N (4 + 2 * (g + 1)) s σ p (pieS tp N (g + 1) p)) := by
      intro n hn s p σ hP
      obtain ⟨n, rfl⟩ : ∃ k, n = k + 1 := ⟨n - 1, by omega⟩
      exact T_cPie (rc := R_X1_readCondition_X1_readPiece n) hg (fun k hk s p σ hP => by cases hk; exact i2 n (by omega) s p σ hP) (fun k hk s p σ hP => by cases hk; exact i1 n (by omega) s p σ hP) hP
    refine ⟨h1, fun n hn s p σ hP => ?_⟩
    obtain ⟨n, rfl⟩ : ∃ k, n = k + 1 := ⟨n - 1, by omega⟩
    have := hP.1.1
    exact T_cConL (rc := R_X1_readCondition_X1_readPiece n) (x1 := nI (6 - (g + 1))) (pie := pieS tp N (g + 1)) (by omega) (fun s p σ hP => h1 n (by omega) s p σ hP) hP.2.2.2.2.1 300 zlim 0 p s s [] [] (-1) (-1) lZer lOne σ (by omega) (by show 300 ≤ 1000000; omega) (by omega) (by omega) hP cfr.rf PJ_0 PJ_0 rfl rfl (fun e => ⟨e, fun _ _ _ => rfl, fun _ _ _ => rfl⟩)
