/-! PURE: the law, the class joins a sum -/
def jc (o : Option (Nat × lDen)) : Int32 := match o with
  | none => -1
  | some (c, _) => nI c
def cn (o : Option (Nat × lDen)) : Nat := match o with
  | none => 0
  | some _ => 1
/-- what waits stands in the steps a to b -/
def PD (sg vl : Nat → Int32) (a b d : Nat) (o : Option (Nat × lDen)) : Prop := match o with
  | none => a = b
  | some (c, v) => isOp c ∧ CS sg vl a b d v
def lIo (o : Option (Nat × lDen)) : Prop := match o with
  | none => True
  | some (_, v) => lIn v
theorem PD_on {sg vl sg' vl' : Nat → Int32} {a b d : Nat} {o : Option (Nat × lDen)} (h : PD sg vl a b d o) (e : ∀ j, a ≤ j → j < b → sg' j = sg j ∧ vl' j = vl j) : PD sg' vl' a b d o := by
  cases o with
  | none => exact h
  | some cv =>
    obtain ⟨c, v⟩ := cv
    exact ⟨h.1, CS_on h.2 e⟩
theorem lIn_jn {o : Option (Nat × lDen)} {f : lDen} (h : lIo o) (g : lIn f) : lIn (lJn o f) := by
  cases o with
  | none => exact g
  | some cv =>
    obtain ⟨c, v⟩ := cv
    exact lIn_bin h g
theorem PD_le {sg vl : Nat → Int32} {a b d : Nat} {o : Option (Nat × lDen)} (h : PD sg vl a b d o) : a ≤ b := by
  cases o with
  | none => exact Nat.le_of_eq h
  | some cv =>
    obtain ⟨c, v⟩ := cv
    exact Nat.le_of_lt h.2.1
theorem isOp_lt {c : Nat} (h : isOp c) : c < 64 := by
  unfold isOp at h
  omega
/-- what waits is put -/
theorem T_cJoin {β : Type} {tp : Nat → Nat} {N q a m b d : Nat} {o : Option (Nat × lDen)} {f : lDen} {σ : zSt} (hd : 1 ≤ d) (hC : CP tp N q b σ) (h1 : PD (σ.1 36) (σ.1 37) a m (d + 1) o) (h2 : CS (σ.1 36) (σ.1 37) m b d f) (hb : b + cn o ≤ q) : ∃ τ, (∀ K : zSt → Option β, (if jc o = -1 then K σ else bd (F_X1_put (jc o) 0 σ) (fun _ s => K s)) = K τ) ∧ CP tp N q (b + cn o) τ ∧ cfr b σ τ ∧ CS (τ.1 36) (τ.1 37) a (b + cn o) (d + 1) (lJn o f) ∧ τ.1 35 8 = σ.1 35 8 := by
  cases o with
  | none =>
    replace h1 : a = m := h1
    subst h1
    exact ⟨σ, fun K => if_pos rfl, hC, cfr.rf, CS_up h2 (by omega), rfl⟩
  | some cv =>
    obtain ⟨c, v⟩ := cv
    have hc := isOp_lt h1.1
    have hq := hC.2.2.2.1
    have h24 := hC.1.1
    replace hb : b + 1 ≤ q := hb
    have f1 : cfr b σ (zwr (zwr (zwr σ 36 b (nI c)) 37 b 0) 35 2 (nI (b + 1))) := ⟨((fr_w (Or.inl (by decide))).w (Or.inl (by decide))).w (Or.inr (by decide)), fun j hj => ⟨by rw [zwr_n (by decide), zwr_n (by decide), zwr_c, pk_un (by omega)], by rw [zwr_n (by decide), zwr_c, pk_un (by omega), zwr_n (by decide)]⟩⟩
    have e8 : (zwr (zwr (zwr σ 36 b (nI c)) 37 b 0) 35 2 (nI (b + 1))).1 35 8 = σ.1 35 8 := by
      rw [zwr_ne (by decide), zwr_n (by decide), zwr_n (by decide)]
    refine ⟨zwr (zwr (zwr σ 36 b (nI c)) 37 b 0) 35 2 (nI (b + 1)), fun K => ?_, ⟨TXc_fr hC.1 f1, by rw [zwr_ne (by decide), zwr_n (by decide), zwr_n (by decide)]; exact hC.2.1, zwr_at, hq, hb, by rw [e8]; exact hC.2.2.2.2.2⟩, f1, ?_, e8⟩
    · show (if nI c = -1 then K σ else bd (F_X1_put (nI c) 0 σ) (fun _ s => K s)) = _
      rw [if_neg (e1_n (k := c) (by omega)), T_cPut hC.2.2.1 (by omega), bd_s]
    · refine CS_bin (CS_on h1.2 (fun j j1 j2 => f1.2 j (by have := h2.1; omega))) (CS_on h2 (fun j j1 j2 => f1.2 j j2)) hd h1.1 ?_
      rw [zwr_n (by decide), zwr_n (by decide), zwr_c, pk_us]
theorem SQ_tr {tp : Nat → Nat} {N d s : Nat} {σ0 : zSt} {p0 : Nat} {res : lRes} {r : Int32} {τ : zSt} {d' : Nat} (h : SQ tp N d' s σ0 p0 res r τ) (hd : d' ≤ d) : SQ tp N d s σ0 p0 res r τ := by
  cases res with
  | inl F => exact h
  | inr qv =>
    obtain ⟨q, v⟩ := qv
    obtain ⟨a1, a2, t, hC, a3, a4, a5, a6⟩ := h
    exact ⟨a1, a2, t, hC, a3, a4, CS_up a5 hd, a6⟩
theorem mulB {o : Option Nat} (h : isMul o = true) : ∃ c, o = some c ∧ (c = 42 ∨ c = 47 ∨ c = 37) := by
  unfold isMul at h
  have h' := of_decide_eq_true h
  rcases h' with e | e | e
  · exact ⟨42, e, Or.inl rfl⟩
  · exact ⟨47, e, Or.inr (Or.inl rfl)⟩
  · exact ⟨37, e, Or.inr (Or.inr rfl)⟩
theorem addB {o : Option Nat} (h : isAdd o = true) : ∃ c, o = some c ∧ (c = 43 ∨ c = 45) := by
  unfold isAdd at h
  have h' := of_decide_eq_true h
  rcases h' with e | e
  · exact ⟨43, e, Or.inl rfl⟩
  · exact ⟨45, e, Or.inr rfl⟩
theorem T_cSumL {tp : Nat → Nat} {N d : Nat} {rc : (Int32 → zSt → Option (Int32 × zSt)) × (Int32 → zSt → Option (Int32 × zSt))} {x1 : Int32} {fac : Nat → lRes} (hd : 1 ≤ d) (hfac : ∀ s p σ, CP tp N p s σ → wp (rc.1 x1 σ) (SQ tp N d s σ p (fac p))) {s0 p0 : Nat} {σ0 : zSt} (hs0 : s0 ≤ p0) : ∀ F fu i p k m w j (σ : zSt), N < F + p → F ≤ fu → 2 * i + p0 ≤ p → k + cn w + cn j + p0 ≤ s0 + p → CP tp N p k σ → cfr s0 σ0 σ → PD (σ.1 36) (σ.1 37) s0 m (d + 2) w → PD (σ.1 36) (σ.1 37) m k (d + 1) j → (σ.1 35 8 = 0 → σ0.1 35 8 = 0 ∧ lIo w ∧ lIo j) → wp (zfix (F_X1_readSum_7L rc x1) fu (jc j, jc w, nI i, σ)) (SQ tp N (d + 2) s0 σ0 p0 (sumL tp N fac F p w j)) := by
  intro F
  induction F with
  | zero =>
    intro fu i p k m w j σ h1 h2 h3 h4 hP
    have := hP.2.2.2.1
    omega
  | succ F ih =>
    intro fu i p k m w j σ h1 h2 h3 h4 hP hf hw hj h8
    obtain ⟨fu, rfl⟩ : ∃ g, fu = g + 1 := ⟨fu - 1, by omega⟩
    have h24 := hP.1.1
    have hpN := hP.2.2.2.1
    have hkp := hP.2.2.2.2.1
    have sm := PD_le hw
    have mk := PD_le hj
    show wp (F_X1_readSum_7 rc x1 (zfix (F_X1_readSum_7L rc x1) fu) (jc j) (jc w) (nI i) σ) _
    unfold F_X1_readSum_7 sumL
    rw [if_neg (by rw [show (240 : Int32) = nI 240 from rfl, nI_lep (by omega)]; omega)]
    refine wp_bd2 (hfac k p σ hP) (fun r τ hQ => ?_)
    cases es : fac p with
    | inl E =>
      rw [es] at hQ
      obtain ⟨a1, a2, a3, a4⟩ := hQ
      rw [a1, if_pos rfl]
      exact wp_some ⟨rfl, a2, a3, hf.1.tr a4⟩
    | inr qv =>
      obtain ⟨q, f⟩ := qv
      rw [es] at hQ
      obtain ⟨a1, a2, t, hC, a3, a4, a5, a6⟩ := hQ
      rw [a1, if_neg (show ¬ (1 : Int32) = 0 by decide)]
      have hqN := hC.2.2.2.1
      obtain ⟨τ1, b1, b2, b3, b4, b5⟩ := T_cJoin (β := Int32 × zSt) (Nat.le_trans hd (Nat.le_refl d)) hC (PD_on hj (fun i i1 i2 => a2.2 i i2)) a5 (by omega)
      rw [b1 (fun s => F_X1_readSum_37 rc (zfix (F_X1_readSum_7L rc x1) fu) x1 (jc w) (nI i) s)]
      have g1 : cfr k σ τ1 := a2.tr (b3.dn (by omega))
      have hw1 : PD (τ1.1 36) (τ1.1 37) s0 m (d + 2) w := PD_on hw (fun i i1 i2 => g1.2 i (by omega))
      have hf1 : cfr s0 σ0 τ1 := hf.tr (g1.dn (by omega))
      unfold F_X1_readSum_37
      rw [b2.here, bd_s]
      show wp (nm _ _) (SQ tp N (d + 2) s0 σ0 p0 (if isMul (chN tp N q) = true then sumL tp N fac F (q + 1) w (some ((chN tp N q).getD 0, lJn j f)) else if isAdd (chN tp N q) = true then sumL tp N fac F (q + 1) (some ((chN tp N q).getD 0, lJn w (lJn j f))) none else Sum.inr (q, lJn w (lJn j f))))
      have e42 : (e1 (chN tp N q) = 42) = (chN tp N q = some 42) := b2.eq (c := 42) (by omega)
      have e47 : (e1 (chN tp N q) = 47) = (chN tp N q = some 47) := b2.eq (c := 47) (by omega)
      have e37 : (e1 (chN tp N q) = 37) = (chN tp N q = some 37) := b2.eq (c := 37) (by omega)
      have e43 : (e1 (chN tp N q) = 43) = (chN tp N q = some 43) := b2.eq (c := 43) (by omega)
      have e45 : (e1 (chN tp N q) = 45) = (chN tp N q = some 45) := b2.eq (c := 45) (by omega)
      by_cases q1 : isMul (chN tp N q) = true
      · obtain ⟨c, ec, hc⟩ := mulB q1
        rw [if_pos q1]
        have ev : (if e1 (chN tp N q) = 42 then e1 (chN tp N q) else if e1 (chN tp N q) = 47 then e1 (chN tp N q) else if e1 (chN tp N q) = 37 then e1 (chN tp N q) else -1) = nI c := by
          rw [ec]
          rcases hc with rfl | rfl | rfl <;> rfl
        rw [ev, nm_s, if_neg (e1_n (k := c) (by omega))]
        unfold F_X1_readSum_107
        obtain ⟨k1, k2⟩ := b2.step ec
        rw [b2.2.1, nI_1, nm_s, nm_s, nI_1]
        have eg : (chN tp N q).getD 0 = c := by rw [ec]; rfl
        rw [eg]
        have g2 : cfr (t + cn j) τ1 (zwr τ1 35 11 (nI (q + 1))) := k2
        refine ih fu (i + 1) (q + 1) (t + cn j) m w (some (c, lJn j f)) _ (by omega) (by omega) (by omega) (by show t + cn j + cn w + 1 + p0 ≤ s0 + (q + 1); omega) k1 (hf1.tr (k2.dn (by have := b4.1; omega))) ?_ ?_ ?_
        · rw [zwr_n (by decide), zwr_n (by decide)]
          exact hw1
        · rw [zwr_n (by decide), zwr_n (by decide)]
          exact ⟨by unfold isOp; omega, b4⟩
        · intro e
          rw [zwr_ne (by decide), b5] at e
          obtain ⟨c1, c2⟩ := a6 e
          obtain ⟨d1, d2, d3⟩ := h8 c1
          exact ⟨d1, d2, lIn_jn d3 c2⟩
      · have n42 : ¬ chN tp N q = some 42 := fun z => q1 (by unfold isMul; exact decide_eq_true (Or.inl z))
        have n47 : ¬ chN tp N q = some 47 := fun z => q1 (by unfold isMul; exact decide_eq_true (Or.inr (Or.inl z)))
        have n37 : ¬ chN tp N q = some 37 := fun z => q1 (by unfold isMul; exact decide_eq_true (Or.inr (Or.inr z)))
        rw [if_neg q1, if_neg (by rw [e42]; exact n42), if_neg (by rw [e47]; exact n47), if_neg (by rw [e37]; exact n37), nm_s, if_pos rfl]
        obtain ⟨τ2, v1, v2, v3, v4, v5⟩ := T_cJoin (β := Int32 × zSt) (Nat.le_succ_of_le hd) b2 hw1 b4 (by omega)
        rw [v1 (fun s => F_X1_readSum_88 rc (zfix (F_X1_readSum_7L rc x1) fu) x1 (-1) (nI i) (e1 (chN tp N q)) s)]
        have hf2 : cfr s0 σ0 τ2 := hf1.tr (v3.dn (by have := b4.1; omega))
        have ask : τ2.1 35 8 = 0 → σ0.1 35 8 = 0 ∧ lIn (lJn w (lJn j f)) := by
          intro e
          rw [v5, b5] at e
          obtain ⟨c1, c2⟩ := a6 e
          obtain ⟨d1, d2, d3⟩ := h8 c1
          exact ⟨d1, lIn_jn d2 (lIn_jn d3 c2)⟩
        unfold F_X1_readSum_88
        by_cases q2 : isAdd (chN tp N q) = true
        · obtain ⟨c, ec, hc⟩ := addB q2
          rw [if_pos q2]
          have eg : (chN tp N q).getD 0 = c := by rw [ec]; rfl
          rw [eg]
          have step : wp (F_X1_readSum_104 rc (zfix (F_X1_readSum_7L rc x1) fu) x1 (-1) (nI i) (e1 (chN tp N q)) τ2) (SQ tp N (d + 2) s0 σ0 p0 (sumL tp N fac F (q + 1) (some (c, lJn w (lJn j f))) none)) := by
            unfold F_X1_readSum_104 F_X1_readSum_107
            obtain ⟨k1, k2⟩ := v2.step ec
            rw [v2.2.1, nI_1, nm_s, nm_s, nI_1, ec]
            refine ih fu (i + 1) (q + 1) (t + cn j + cn w) (t + cn j + cn w) (some (c, lJn w (lJn j f))) none _ (by omega) (by omega) (by omega) (by show t + cn j + cn w + 1 + 0 + p0 ≤ s0 + (q + 1); omega) k1 (hf2.tr (k2.dn (by have := v4.1; omega))) ?_ rfl ?_
            · rw [zwr_n (by decide), zwr_n (by decide)]
              exact ⟨by unfold isOp; omega, v4⟩
            · intro e
              rw [zwr_ne (by decide)] at e
              exact ⟨(ask e).1, (ask e).2, trivial⟩
          by_cases q3 : chN tp N q = some 43
          · rw [if_pos (by rw [e43]; exact q3)]
            exact step
          · rw [if_neg (by rw [e43]; exact q3), if_pos (by rw [e45, ec]; rcases hc with rfl | rfl; exact absurd ec q3; rfl)]
            exact step
        · have n43 : ¬ chN tp N q = some 43 := fun z => q2 (by unfold isAdd; exact decide_eq_true (Or.inl z))
          have n45 : ¬ chN tp N q = some 45 := fun z => q2 (by unfold isAdd; exact decide_eq_true (Or.inr z))
          rw [if_neg q2, if_neg (by rw [e43]; exact n43), if_neg (by rw [e45]; exact n45)]
          have := v4.1
          exact wp_some ⟨rfl, hf2, t + cn j + cn w, v2, v4.1, by omega, v4, ask⟩
/-- a sum of the class, by levels -/
theorem T_cSum {tp : Nat → Nat} {N : Nat} : ∀ g n, g ≤ 6 → 2 * g + 2 ≤ n → ∀ s p (σ : zSt), CP tp N p s σ → wp ((R_X1_readFactor_X1_readSum n).2 (nI (6 - g)) σ) (SQ tp N (3 + 2 * g) s σ p (sumS tp N g p)) := by
  have key : ∀ g n (sub : Nat → lRes), g ≤ 6 → (¬ g = 0 → ∀ s p (σ : zSt), CP tp N p s σ → wp ((R_X1_readFactor_X1_readSum n).2 (nI (6 - (g - 1))) σ) (SQ tp N (1 + 2 * g) s σ p (sub p))) → ∀ s p (σ : zSt), CP tp N p s σ → wp ((R_X1_readFactor_X1_readSum (n + 2)).2 (nI (6 - g)) σ) (SQ tp N (3 + 2 * g) s σ p (sumL tp N (facS tp N sub g) 300 p none none)) := by
    intro g n sub hg hsub s p σ hP
    show wp (zfix (F_X1_readSum_7L (R_X1_readFactor_X1_readSum (n + 1)) (nI (6 - g))) zlim ((-1 : Int32), (-1 : Int32), (0 : Int32), σ)) _
    have := hP.1.1
    have := hP.2.2.2.1
    refine wp_mono (T_cSumL (d := 1 + 2 * g) (rc := R_X1_readFactor_X1_readSum (n + 1)) (x1 := nI (6 - g)) (fac := facS tp N sub g) (by omega) (fun s p σ hP => ?_) hP.2.2.2.2.1 300 zlim 0 p s s none none σ (by omega) (by show 300 ≤ 1000000; omega) (by omega) (by show s + 0 + 0 + p ≤ s + p; omega) hP cfr.rf rfl rfl (fun e => ⟨e, trivial, trivial⟩)) (fun r τ h => SQ_tr h (by omega))
    exact T_cFac hg hsub (by omega) (Nat.le_refl _) hP
  intro g
  induction g with
  | zero =>
    intro n h1 h2 s p σ hP
    obtain ⟨n, rfl⟩ : ∃ k, n = k + 2 := ⟨n - 2, by omega⟩
    exact key 0 n _ h1 (fun z => absurd rfl z) s p σ hP
  | succ g ih =>
    intro n h1 h2 s p σ hP
    obtain ⟨n, rfl⟩ : ∃ k, n = k + 2 := ⟨n - 2, by omega⟩
    refine key (g + 1) n (sumS tp N g) h1 (fun _ s p σ hP => ?_) s p σ hP
    have := ih n (by omega) (by omega) s p σ hP
    rw [show 3 + 2 * g = 1 + 2 * (g + 1) by omega] at this
    exact this
