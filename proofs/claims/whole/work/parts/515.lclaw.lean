/-! PURE: the law, the class reads and takes over -/
theorem KCl_on {σ τ : zSt} {s t c : Nat} {k : Nat × lDen × lDen} (h : KCl σ s c k) (hs : s ≤ t) (e : ∀ j, j < s → τ.1 36 j = σ.1 36 j ∧ τ.1 37 j = σ.1 37 j) (g : τ.1 38 c = σ.1 38 c ∧ τ.1 39 c = σ.1 39 c ∧ τ.1 40 c = σ.1 40 c ∧ τ.1 41 c = σ.1 41 c) : KCl τ t c k := by
  obtain ⟨a, b, z, h1, h2, h3, h4, h5, h6, h7⟩ := h
  have := h6.1
  exact ⟨a, b, z, g.1.trans h1, g.2.1.trans h2, g.2.2.1.trans h3, g.2.2.2.trans h4, CS_on h5 (fun j _ j2 => e j (by omega)), CS_on h6 (fun j _ j2 => e j (by omega)), by omega⟩
def RdQ (σ : zSt) (res : Sum Int32 (Nat × lCl)) (r : Int32) (τ : zSt) : Prop := fr [36, 37, 38, 39, 40, 41] cSl σ τ ∧ match res with
  | Sum.inl E => r = E ∧ E ≤ 0
  | Sum.inr (n, cl) => r = nI n ∧ (1 ≤ n ∧ n ≤ 16) ∧ τ.1 35 7 = nI n ∧ (τ.1 35 8 = 0 ∨ τ.1 35 8 = 1) ∧ (∀ c, c < n → KCl τ 240 c (cl c) ∧ lBo (cl c).2.2) ∧ (τ.1 35 8 = 0 → ∀ c, c < n → lIn (cl c).2.1 ∧ lIn (cl c).2.2)
theorem T_cReadL {tp : Nat → Nat} {N : Nat} : ∀ F f m p s cl (σ : zSt), N < F + p → F ≤ f → m ≤ 16 → CP tp N p s σ → σ.1 35 7 = nI m → (∀ c, c < m → KCl σ s c (cl c) ∧ lBo (cl c).2.2) → (σ.1 35 8 = 0 → ∀ c, c < m → lIn (cl c).2.1 ∧ lIn (cl c).2.2) → wp (zfix F_X1_read_63L f (nI m, σ)) (RdQ σ (lawT tp N F m p cl)) := by
  intro F
  induction F with
  | zero =>
    intro f m p s cl σ h1 h2 h3 hP
    have := hP.2.2.2.1
    omega
  | succ F ih =>
    intro f m p s cl σ h1 h2 hm hP h7 hK hI
    have h24 := hP.1.1
    have hpN := hP.2.2.2.1
    obtain ⟨f, rfl⟩ : ∃ x, f = x + 1 := ⟨f - 1, by omega⟩
    show wp (F_X1_read_63 (zfix F_X1_read_63L f) (nI m) σ) _
    unfold F_X1_read_63 lawT
    rw [if_neg (by rw [show (16 : Int32) = nI 16 from rfl, nI_ltp (by omega)]; omega)]
    refine wp_bd2 (T_cClause hP h7 hm) (fun r τ hQ => ?_)
    obtain ⟨hf, hQ⟩ := hQ
    cases es : claT tp N m p with
    | inl E =>
      rw [es] at hQ
      obtain ⟨a1, a2, a3⟩ := hQ
      rw [a1, if_pos rfl, a2]
      exact wp_some ⟨hf, rfl, a3⟩
    | inr qk =>
      obtain ⟨q, k⟩ := qk
      rw [es] at hQ
      obtain ⟨a1, t, hC, a2, a3, a4, a5, a6, a7, a8, a9⟩ := hQ
      have hqN := hC.2.2.2.1
      have m15 : m < 16 := by
        by_cases z : m < 16
        · exact z
        · exfalso
          have m16 : m = 16 := by omega
          subst m16
          unfold claT at es
          by_cases q0 : chN tp N p = some 109 ∨ chN tp N p = some 108
          · rw [if_pos q0, if_pos (by decide)] at es
            cases es
          · rw [if_neg q0] at es
            cases es
      have hK' : ∀ c, c < m + 1 → KCl τ t c (fset cl m k c) ∧ lBo (fset cl m k c).2.2 := by
        intro c hc
        by_cases z : c = m
        · subst z
          rw [fset_s]
          exact ⟨a3, a7⟩
        · rw [fset_n z]
          obtain ⟨y1, y2⟩ := hK c (by omega)
          exact ⟨KCl_on y1 a5 a8 (a9 c (by omega)), y2⟩
      have hI' : τ.1 35 8 = 0 → ∀ c, c < m + 1 → lIn (fset cl m k c).2.1 ∧ lIn (fset cl m k c).2.2 := by
        intro e c hc
        obtain ⟨y1, y2⟩ := a4 e
        by_cases z : c = m
        · subst z
          rw [fset_s]
          exact y2
        · rw [fset_n z]
          exact hI y1 c (by omega)
      rw [a1, if_neg (show ¬ (1 : Int32) = 0 by decide), hC.2.1, hC.1.2.1]
      show wp _ (RdQ σ (if q = N then Sum.inr (m + 1, fset cl m k) else if chN tp N q = some 59 then lawT tp N F (m + 1) (q + 1) (fset cl m k) else Sum.inl (flt 1 q)))
      by_cases q1 : q = N
      · rw [if_pos (by rw [q1]), if_pos q1, a2]
        refine wp_some ⟨hf, rfl, ⟨by omega, by omega⟩, a2, hC.2.2.2.2.2, fun c hc => ?_, hI'⟩
        obtain ⟨y1, y2⟩ := hK' c hc
        exact ⟨KCl_on y1 (by have := hC.2.2.2.2.1; omega) (fun j hj => ⟨rfl, rfl⟩) ⟨rfl, rfl, rfl, rfl⟩, y2⟩
      · rw [if_neg (by rw [nI_eqp (by omega)]; exact q1), if_neg q1]
        have e59 : F_X1_readSign (59 : Int32) τ = if chN tp N q = some 59 then some (1, zwr (zwr τ 35 12 (flt 1 q)) 35 11 (nI (q + 1))) else some (0, zwr (zwr τ 35 12 (flt 1 q)) 35 11 (nI q)) := T_cSign (c := 59) hC.1 hC.2.1 (by omega) (by omega)
        rw [e59]
        by_cases q2 : chN tp N q = some 59
        · rw [if_pos q2, if_pos q2, bd_s, if_neg (show ¬ (1 : Int32) = 0 by decide), nI_1, nm_s]
          have w2 : cfr t τ (zwr τ 35 12 (flt 1 q)) := cfr_w (by decide)
          have hC' : CP tp N q t (zwr τ 35 12 (flt 1 q)) := ⟨TXc_fr hC.1 w2, by rw [zwr_ne (by decide)]; exact hC.2.1, by rw [zwr_ne (by decide)]; exact hC.2.2.1, hC.2.2.2.1, hC.2.2.2.2.1, by rw [zwr_ne (by decide)]; exact hC.2.2.2.2.2⟩
          obtain ⟨k3, k4⟩ := hC'.step q2
          have f2 : fr [36, 37, 38, 39, 40, 41] cSl τ (zwr (zwr τ 35 12 (flt 1 q)) 35 11 (nI (q + 1))) := (fr_w (Or.inr (by decide))).w (Or.inr (by decide))
          refine wp_mono (ih f (m + 1) (q + 1) t (fset cl m k) _ (by omega) (by omega) (by omega) k3 ?_ (fun c hc => ?_) ?_) (fun r υ h => ⟨(hf.tr f2).tr h.1, h.2⟩)
          · rw [zwr_ne (by decide), zwr_ne (by decide)]
            exact a2
          · obtain ⟨y1, y2⟩ := hK' c hc
            refine ⟨KCl_on y1 (Nat.le_refl t) (fun j hj => ⟨?_, ?_⟩) ⟨?_, ?_, ?_, ?_⟩, y2⟩
            · rw [zwr_n (by decide), zwr_n (by decide)]
            · rw [zwr_n (by decide), zwr_n (by decide)]
            · rw [zwr_n (by decide), zwr_n (by decide)]
            · rw [zwr_n (by decide), zwr_n (by decide)]
            · rw [zwr_n (by decide), zwr_n (by decide)]
            · rw [zwr_n (by decide), zwr_n (by decide)]
          · rw [zwr_ne (by decide), zwr_ne (by decide)]
            exact hI'
        · rw [if_neg q2, if_neg q2, bd_s, if_pos rfl, zwr_ne (by decide), zwr_at]
          exact wp_some ⟨(hf.w (Or.inr (by decide))).w (Or.inr (by decide)), rfl, flt_le 1 (by decide) q (by omega)⟩
def lcl0 : lCl := fun _ => (0, lOne, lOne)
def cSr : List (Nat × Nat) := [(35, 2), (35, 7), (35, 8), (35, 10), (35, 11), (35, 12)]
theorem T_cRead {tp : Nat → Nat} {N : Nat} {σ : zSt} (h : TX tp N σ) (hN : N ≤ 240) : wp (F_X1_read σ) (fun r τ => ∃ σ1, fr [42] cSr σ σ1 ∧ RdQ σ1 (lawT tp N 300 0 0 lcl0) r τ) := by
  unfold F_X1_read F_X1_read_0
  have ej : jmin (σ.1 33 2) (240 : Int32) = nI N := by
    rw [h.2.1]
    show (if nI 240 < nI N then nI 240 else nI N) = nI N
    rw [if_neg (by rw [nI_ltp (by omega)]; omega)]
  rw [ej, nm_s]
  refine wp_for (fun k s => s.1 = nI k ∧ fr [42] cSr σ s.2 ∧ s.2.1 35 10 = nI N ∧ ∀ j, j < k → s.2.1 42 j = nI (tp j)) N (by omega) (fun k w s hk hI next => ?_) (fun w s hI => ?_) ⟨rfl, fr_w (Or.inr (by decide)), zwr_at, fun j hj => absurd hj (Nat.not_lt_zero j)⟩
  · obtain ⟨x, τ⟩ := s
    simp only at hI
    obtain ⟨i1, i2, i3, i4⟩ := hI
    subst i1
    show wp (F_X1_read_16 w (nI k) τ) _
    unfold F_X1_read_16
    have hT : TX tp N τ := TX_fr h i2 (by decide)
    rw [i3, if_neg (by rw [nI_lep (by omega)]; omega), T_chr hT (by omega), bd_s, gd_n (by omega), nI_cl (by omega), nm_s, nI_1, nm_s]
    refine next _ ⟨rfl, i2.w (Or.inl (by decide)), by rw [zwr_n (by decide)]; exact i3, fun j hj => ?_⟩
    show (zwr τ 42 k (e1 (chN tp N k))).1 42 j = nI (tp j)
    rw [zwr_c]
    by_cases z : j = k
    · subst z
      rw [pk_us]
      unfold chN
      rw [if_pos hk]
      rfl
    · rw [pk_un z]
      exact i4 j (by omega)
  · obtain ⟨x, τ⟩ := s
    simp only at hI
    obtain ⟨i1, i2, i3, i4⟩ := hI
    subst i1
    show wp (F_X1_read_16 w (nI N) τ) _
    unfold F_X1_read_16 F_X1_read_41
    rw [i3, if_pos (by rw [nI_lep (by omega)]; omega), nm_s, nm_s, nm_s, nm_s]
    generalize hσ1 : zwr (zwr (zwr (zwr τ 35 11 0) 35 2 0) 35 7 0) 35 8 0 = σ1
    have f1 : fr [42] cSr τ σ1 := by
      rw [← hσ1]
      exact (((fr_w (Or.inr (by decide))).w (Or.inr (by decide))).w (Or.inr (by decide))).w (Or.inr (by decide))
    have hP : CP tp N 0 0 σ1 := by
      refine ⟨⟨hN, ?_, fun j hj => ⟨(h.2.2 j hj).1, ?_⟩⟩, ?_, ?_, Nat.zero_le N, Nat.le_refl 0, Or.inl ?_⟩
      · rw [← hσ1, zwr_ne (by decide), zwr_ne (by decide), zwr_ne (by decide), zwr_ne (by decide)]
        exact i3
      · rw [← hσ1, zwr_n (by decide), zwr_n (by decide), zwr_n (by decide), zwr_n (by decide)]
        exact i4 j hj
      · rw [← hσ1, zwr_ne (by decide), zwr_ne (by decide), zwr_ne (by decide), zwr_at]
        rfl
      · rw [← hσ1, zwr_ne (by decide), zwr_ne (by decide), zwr_at]
        rfl
      · rw [← hσ1, zwr_at]
    have h7 : σ1.1 35 7 = nI 0 := by
      rw [← hσ1, zwr_ne (by decide), zwr_at]
      rfl
    refine wp_mono (T_cReadL (tp := tp) (N := N) 300 zlim 0 0 0 lcl0 σ1 (by omega) (by show 300 ≤ 1000000; omega) (by decide) hP h7 (fun c hc => absurd hc (Nat.not_lt_zero c)) (fun _ c hc => absurd hc (Nat.not_lt_zero c))) (fun r υ hr => ⟨σ1, i2.tr f1, hr⟩)
/-- a clause as it stands in the law -/
def KCf (σ : zSt) (c : Nat) (k : Nat × lDen × lDen) : Prop := ∃ a b e, σ.1 11 c = nI k.1 ∧ σ.1 12 c = nI a ∧ σ.1 13 c = nI b ∧ σ.1 14 c = nI e ∧ CS (σ.1 9) (σ.1 10) a b 15 k.2.1 ∧ CS (σ.1 9) (σ.1 10) b e 15 k.2.2 ∧ e ≤ 240
theorem T_takeOver {n : Nat} {cl : lCl} {σ : zSt} (hn : n ≤ 16) (h7 : σ.1 35 7 = nI n) (h8 : σ.1 35 8 = 0 ∨ σ.1 35 8 = 1) (hK : ∀ c, c < n → KCl σ 240 c (cl c) ∧ lBo (cl c).2.2) : ∃ τ, F_X1_takeOver σ = some ((), τ) ∧ fr [9, 10, 11, 12, 13, 14] [(8, 2), (8, 7), (8, 8)] σ τ ∧ τ.1 8 7 = nI n ∧ τ.1 8 8 = σ.1 35 8 ∧ ∀ c, c < n → KCf τ c (cl c) ∧ lBo (cl c).2.2 := by
  have e0 : F_X1_takeOver σ = (fun τ0 : zSt => gd ((zwr τ0 8 7 (τ0.1 35 7)).1 35 8 = 0 ∨ (zwr τ0 8 7 (τ0.1 35 7)).1 35 8 = 1) (nm (zwr (zwr τ0 8 7 (τ0.1 35 7)) 8 8 ((zwr τ0 8 7 (τ0.1 35 7)).1 35 8)) (fun s9 => some ((), s9)))) (zrow (zrow (zrow (zrow (zrow (zrow σ 9 (va_cpy (σ.1 36) (σ.1 9) 0 0 240)) 10 (va_cpy (σ.1 37) (σ.1 10) 0 0 240)) 11 (va_cpy (σ.1 38) (σ.1 11) 0 0 16)) 12 (va_cpy (σ.1 39) (σ.1 12) 0 0 16)) 13 (va_cpy (σ.1 40) (σ.1 13) 0 0 16)) 14 (va_cpy (σ.1 41) (σ.1 14) 0 0 16)) := rfl
  rw [e0]
  generalize hτ : zrow (zrow (zrow (zrow (zrow (zrow σ 9 (va_cpy (σ.1 36) (σ.1 9) 0 0 240)) 10 (va_cpy (σ.1 37) (σ.1 10) 0 0 240)) 11 (va_cpy (σ.1 38) (σ.1 11) 0 0 16)) 12 (va_cpy (σ.1 39) (σ.1 12) 0 0 16)) 13 (va_cpy (σ.1 40) (σ.1 13) 0 0 16)) 14 (va_cpy (σ.1 41) (σ.1 14) 0 0 16) = τ0
  have f0 : fr [9, 10, 11, 12, 13, 14] [(8, 2), (8, 7), (8, 8)] σ τ0 := by
    rw [← hτ]
    exact (((((fr_z (by decide)).z (by decide)).z (by decide)).z (by decide)).z (by decide)).z (by decide)
  have o35 : τ0.1 35 = σ.1 35 := f0.row (by decide)
  have q9 : τ0.1 9 = cpn (σ.1 36) (σ.1 9) 240 := by
    rw [← hτ, va_cpn]
    rfl
  have q10 : τ0.1 10 = cpn (σ.1 37) (σ.1 10) 240 := by
    rw [← hτ, va_cpn, va_cpn]
    rfl
  have q11 : τ0.1 11 = cpn (σ.1 38) (σ.1 11) 16 := by
    rw [← hτ, va_cpn, va_cpn, va_cpn]
    rfl
  have q12 : τ0.1 12 = cpn (σ.1 39) (σ.1 12) 16 := by
    rw [← hτ, va_cpn, va_cpn, va_cpn, va_cpn]
    rfl
  have q13 : τ0.1 13 = cpn (σ.1 40) (σ.1 13) 16 := by
    rw [← hτ, va_cpn, va_cpn, va_cpn, va_cpn, va_cpn]
    rfl
  have q14 : τ0.1 14 = cpn (σ.1 41) (σ.1 14) 16 := by
    rw [← hτ, va_cpn, va_cpn, va_cpn, va_cpn, va_cpn, va_cpn]
    rfl
  have e35 : (zwr τ0 8 7 (τ0.1 35 7)).1 35 8 = σ.1 35 8 := by
    rw [zwr_n (by decide), o35]
  refine ⟨zwr (zwr τ0 8 7 (τ0.1 35 7)) 8 8 (σ.1 35 8), ?_, (f0.w (Or.inr (by decide))).w (Or.inr (by decide)), ?_, zwr_at, fun c hc => ?_⟩
  · show gd ((zwr τ0 8 7 (τ0.1 35 7)).1 35 8 = 0 ∨ (zwr τ0 8 7 (τ0.1 35 7)).1 35 8 = 1) _ = _
    rw [e35, gd_t h8, nm_s]
  · rw [zwr_ne (by decide), zwr_at, o35]
    exact h7
  · obtain ⟨⟨a, b, e, h1, h2, h3, h4, h5, h6, h7'⟩, hb⟩ := hK c hc
    have r : ∀ d, d ≠ 8 → (zwr (zwr τ0 8 7 (τ0.1 35 7)) 8 8 (σ.1 35 8)).1 d = τ0.1 d := fun d hd => by
      rw [zwr_n hd, zwr_n hd]
    have := h6.1
    refine ⟨⟨a, b, e, ?_, ?_, ?_, ?_, ?_, ?_, h7'⟩, hb⟩
    · rw [r 11 (by decide), q11, cpn_in (by omega)]
      exact h1
    · rw [r 12 (by decide), q12, cpn_in (by omega)]
      exact h2
    · rw [r 13 (by decide), q13, cpn_in (by omega)]
      exact h3
    · rw [r 14 (by decide), q14, cpn_in (by omega)]
      exact h4
    · rw [r 9 (by decide), r 10 (by decide), q9, q10]
      exact CS_on h5 (fun j _ j2 => ⟨cpn_in (by omega), cpn_in (by omega)⟩)
    · rw [r 9 (by decide), r 10 (by decide), q9, q10]
      exact CS_on h6 (fun j _ j2 => ⟨cpn_in (by omega), cpn_in (by omega)⟩)
def LwC (σ : zSt) (res : Sum Int32 (Nat × lCl)) (r : Int32) (τ : zSt) : Prop := τ.1 33 1 = 0 ∧ match res with
  | Sum.inl E => r = E ∧ fr LC [(33, 1), (33, 2)] σ τ
  | Sum.inr (n, cl) => r = nI n ∧ fr ([9, 10, 11, 12, 13, 14] ++ LC) [(33, 1), (33, 2), (8, 2), (8, 7), (8, 8)] σ τ ∧ (1 ≤ n ∧ n ≤ 16) ∧ τ.1 8 7 = nI n ∧ (τ.1 8 8 = 0 ∨ τ.1 8 8 = 1) ∧ (∀ c, c < n → KCf τ c (cl c) ∧ lBo (cl c).2.2) ∧ (τ.1 8 8 = 0 → ∀ c, c < n → lIn (cl c).2.1 ∧ lIn (cl c).2.2)
theorem T_cLaw {tp : Nat → Nat} {N m : Nat} {σ : zSt} (h1 : 1 ≤ N) (h2 : N ≤ 240) (hm : m ≤ 260) (e : σ.1 33 1 = nI m) (h3 : N ≤ m) (ht : ∀ j, j < N → tp j < 256 ∧ σ.1 34 j = nI (tp j)) : wp (F_X11_law (nI N) σ) (LwC σ (lawT tp N 300 0 0 lcl0)) := by
  unfold F_X11_law F_X11_law_0
  rw [if_neg (by rw [show (1 : Int32) = nI 1 from rfl, nI_ltp (by omega)]; omega), if_neg (by exact (by rw [nI_ltp (by omega)]; omega : ¬ nI 240 < nI N)), take_yes hm e h3, bd_s, if_neg (show ¬ (1 : Int32) = 0 by decide)]
  have f1 : fr [] [(33, 1), (33, 2)] σ (zwr (zwr σ 33 2 (nI N)) 33 1 0) := (fr_w (Or.inr (by decide))).w (Or.inr (by decide))
  have T1 : TX tp N (zwr (zwr σ 33 2 (nI N)) 33 1 0) := by
    refine ⟨by omega, ?_, fun j hj => ⟨(ht j hj).1, ?_⟩⟩
    · rw [zwr_ne (by decide), zwr_at]
    · rw [f1.row (c := 34) (by decide)]
      exact (ht j hj).2
  have z33 : (zwr (zwr σ 33 2 (nI N)) 33 1 0).1 33 1 = 0 := zwr_at
  generalize zwr (zwr σ 33 2 (nI N)) 33 1 0 = s at f1 T1 z33
  refine wp_bd2 (T_cRead T1 h2) (fun r τ hQ => ?_)
  obtain ⟨σ1, g1, g2, g3⟩ := hQ
  have f2 : fr [36, 37, 38, 39, 40, 41, 42] cSr s τ := (g1.mono (by decide)).tr (g2.mono (by decide))
  have f3 : fr LC [(33, 1), (33, 2)] σ τ := (f1.mono (by decide)).tr (f2.mono (by decide))
  have zτ : τ.1 33 1 = 0 := (f2.rd (by decide) (by decide)).trans z33
  cases es : lawT tp N 300 0 0 lcl0 with
  | inl E =>
    rw [es] at g3
    obtain ⟨a1, a2⟩ := g3
    rw [a1, if_pos a2]
    exact wp_some ⟨zτ, rfl, f3⟩
  | inr nc =>
    obtain ⟨n, cl⟩ := nc
    rw [es] at g3
    obtain ⟨a1, a2, a3, a4, a5, a6⟩ := g3
    obtain ⟨υ, b1, b2, b3, b4, b5⟩ := T_takeOver a2.2 a3 a4 a5
    rw [a1, if_neg (by rw [show (0 : Int32) = nI 0 from rfl, nI_lep (by omega)]; omega), b1, bd_s]
    exact wp_some ⟨(b2.rd (by decide) (by decide)).trans zτ, rfl, (f3.mono (by decide)).tr (b2.mono (by decide)), a2, b3, by rw [b4]; exact a4, b5, by rw [b4]; exact a6⟩
