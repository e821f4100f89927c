/-! PURE: missed -/
theorem s_missed {n : Nat} {σ : zSt} (hn : n < 512) (hR : Rel n σ) (x1 : Int32) : Both n (F_X11_missed x1) (F_X12_missed x1) σ := by
  obtain ⟨-, ⟨W, w0, w1, w2, w3⟩, -, -, -, -⟩ := id hR
  have m2 : σ.1 69 2 = nI (wHea W) := w3.2.2.2.2.2.2.2.2.1
  have h8 := w0.hea
  by_cases h1 : bel x1 8
  rotate_left
  · refine Both.no (-1) hn hR ?_ ?_
    · unfold F_X11_missed F_X11_missed_0
      rw [T_isBelow_8, bd_s, bI_f h1, if_pos rfl]
    · unfold F_X12_missed F_X12_missed_0
      rw [T_isEight, bd_s, bI_f h1, if_pos rfl]
  by_cases h2 : isT W (nI (wHea W))
  rotate_left
  · refine Both.no (-1) hn hR ?_ ?_
    · unfold F_X11_missed F_X11_missed_0
      rw [T_isBelow_8, bd_s, bI_t h1, if_neg (show ¬ (1 : Int32) = 0 by decide), T_heart w0 w2, bd_s, bI_f h2, if_pos rfl]
    · unfold F_X12_missed F_X12_missed_0
      rw [T_isEight, bd_s, bI_t h1, if_neg (show ¬ (1 : Int32) = 0 by decide), m2, T_isPlace w0 w3, bd_s, bI_f h2, if_pos rfl]
  obtain ⟨p, hp, rfl⟩ := bel_of h1
  have hh : wIs W (wHea W) = true := (isT_n (by omega)).mp h2
  have w0' : WOK (setK W p none) := WOK_setK w0 (fun k e => by cases e)
  have hh' : wIs (setK W p none) (wHea (setK W p none)) = true := hh
  obtain ⟨_, _, _, _, _, T, _, hT, _⟩ := T_solves (m := 1) w0 (by decide) w3
  obtain ⟨_, _, _, _, _, T', _, hT', _⟩ := T_solves (m := 1) w0' (by decide) (EM_setK (p := p) (o := none) w3)
  have lim := T_lim hT (O := 0) (B := 0) (i := 0) (by decide) (by decide) (by decide)
  have lim' := T_lim hT' (O := 0) (B := 0) (i := 0) (by decide) (by decide) (by decide)
  rw [show cod 0 0 0 = 0 from rfl] at lim lim'
  refine Both.fr (if T 0 = 1000000000 then -3 else if T' 0 = 1000000000 then -2 else nI (T' 0 / 1024) - nI (T 0 / 1024)) hn hR ?_ (fun τ hRτ f => ?_)
  · unfold F_X11_missed F_X11_missed_0
    rw [T_isBelow_8, bd_s, bI_t h1, if_neg (show ¬ (1 : Int32) = 0 by decide), T_heart w0 w2, bd_s, bI_t h2, if_neg (show ¬ (1 : Int32) = 0 by decide)]
    refine wp_bd2 (T_learn w0 w2) (fun _ a ha => ?_)
    obtain ⟨f1, hS⟩ := ha
    have S := T_search (m := 1) w0 hh (by decide) hT hS
    rw [show nI (1 - 1) = (0 : Int32) from rfl] at S
    refine wp_bd2 S (fun v b hb => ?_)
    obtain ⟨f2, g, bst, rfl, hs⟩ := hb
    have ff : fr LC SC σ b := (f1.mono (by decide)).tr (f2.mono (by decide))
    obtain ⟨y1, y2⟩ := best_is w0 hh hT hs.2.2.2
    by_cases q : bst < 134217728
    rotate_left
    · have e := y2 q
      rw [bI_f q, if_pos rfl, if_pos e]
      exact wp_some ⟨rfl, ff⟩
    have e := y1 q
    rw [bI_t q, if_neg (show ¬ (1 : Int32) = 0 by decide), if_neg (show ¬ T 0 = 1000000000 by omega)]
    have D : F_X4_days b = some (nI (T 0 / 1024), b) := by
      unfold F_X4_days F_X4_days_0
      rw [hs.2.2.1, show (1024 : Int32) = nI 1024 from rfl, pk_div (by omega) (by decide) (by decide), e]
    rw [D, bd_s]
    have SP := SK_put (p := p) (o := none) hs.1.1 hp w0'
    rw [show e1 none = (-1 : Int32) from rfl] at SP
    refine wp_bd2 SP (fun _ c hc => ?_)
    obtain ⟨f3, hSc⟩ := hc
    have S2 := T_search (m := 1) w0' hh' (by decide) hT' hSc
    rw [show nI (1 - 1) = (0 : Int32) from rfl] at S2
    refine wp_bd2 S2 (fun v d hd => ?_)
    obtain ⟨f4, g', bst', rfl, hs'⟩ := hd
    have ff' : fr LC SC σ d := (ff.tr (f3.mono (by decide))).tr (f4.mono (by decide))
    obtain ⟨z1, z2⟩ := best_is w0' hh' hT' hs'.2.2.2
    by_cases q' : bst' < 134217728
    · have e' := z1 q'
      rw [bI_t q', if_neg (show ¬ (1 : Int32) = 0 by decide), if_neg (show ¬ T' 0 = 1000000000 by omega)]
      unfold F_X4_days F_X4_days_0
      rw [hs'.2.2.1, show (1024 : Int32) = nI 1024 from rfl, pk_div (by omega) (by decide) (by decide), bd_s, e']
      exact wp_some ⟨rfl, ff'⟩
    · have e' := z2 q'
      rw [bI_f q', if_pos rfl, if_pos e']
      exact wp_some ⟨rfl, ff'⟩
  · have hMτ : EM 70 0 W τ := f.EM (by decide) w3
    have m2τ : τ.1 69 2 = nI (wHea W) := hMτ.2.2.2.2.2.2.2.2.1
    unfold F_X12_missed F_X12_missed_0
    rw [T_isEight, bd_s, bI_t h1, if_neg (show ¬ (1 : Int32) = 0 by decide), m2τ, T_isPlace w0 hMτ, bd_s, bI_t h2, if_neg (show ¬ (1 : Int32) = 0 by decide)]
    have S := T_solves (m := 0) w0 (by decide) hMτ
    rw [show nI 0 = (0 : Int32) from rfl] at S
    refine wp_bd2 S (fun v b hb => ?_)
    obtain ⟨f2, hPb, U, -, hU, rfl⟩ := hb
    have ff : fr LM SM τ b := f2.mono (by decide)
    obtain ⟨d1, d2⟩ := days_eq hT hU
    have limU := T_lim hU (O := 0) (B := 0) (i := 0) (by decide) (by decide) (by decide)
    rw [show cod 0 0 0 = 0 from rfl] at limU
    by_cases q : U 0 = 1000000000
    · rw [if_pos (by rw [q]; rfl), if_pos (d1.mpr q)]
      exact wp_some ⟨rfl, ff⟩
    have qT : ¬ T 0 = 1000000000 := fun z => q (d1.mp z)
    rw [if_neg (by rw [show (1000000000 : Int32) = nI 1000000000 from rfl, nI_eqp (by omega)]; exact q), if_neg qT, gd_n (by omega), nI_cl (by omega), nm_s, gd_n (by omega), nm_s]
    have hM' : EM 70 0 (setK W p none) (zwr b 75 p (e2 none)) := EM_setK hPb.1
    rw [show e2 none = (-2 : Int32) from rfl] at hM'
    have S2 := T_solves (m := 0) w0' (by decide) hM'
    rw [show nI 0 = (0 : Int32) from rfl] at S2
    refine wp_bd2 S2 (fun v c hc => ?_)
    obtain ⟨f3, -, U', -, hU', rfl⟩ := hc
    obtain ⟨d1', d2'⟩ := days_eq hT' hU'
    have limU' := T_lim hU' (O := 0) (B := 0) (i := 0) (by decide) (by decide) (by decide)
    rw [show cod 0 0 0 = 0 from rfl] at limU'
    have ff' : fr LM SM τ (zwr c 75 p (b.1 75 p)) := by
      refine ff.tr ⟨fun x j hx hj => ?_, fun x hx => ?_⟩
      · have f3' : fr LM SM (zwr b 75 p (-2)) c := f3.mono (by decide)
        by_cases z : x = 75 ∧ j = p
        · rw [z.1, z.2, zwr_at]
        · have z' : x ≠ 75 ∨ j ≠ p := by
            by_cases y : x = 75
            · exact Or.inr (fun k => z ⟨y, k⟩)
            · exact Or.inl y
          rw [zwr_ne z', f3'.1 x j hx hj, zwr_ne z']
      · have f3' : fr LM SM (zwr b 75 p (-2)) c := f3.mono (by decide)
        exact f3'.2 x hx
    rw [gd_n (by omega), nm_s]
    by_cases q' : U' 0 = 1000000000
    · rw [if_pos (by rw [q']; rfl), if_pos (d1'.mpr q')]
      exact wp_some ⟨rfl, ff'⟩
    have qT' : ¬ T' 0 = 1000000000 := fun z => q' (d1'.mp z)
    rw [if_neg (by rw [show (1000000000 : Int32) = nI 1000000000 from rfl, nI_eqp (by omega)]; exact q'), if_neg qT', show (1024 : Int32) = nI 1024 from rfl, pk_div (by omega) (by decide) (by decide), pk_div (by omega) (by decide) (by decide), d2 (by omega), d2' (by omega)]
    exact wp_some ⟨rfl, ff'⟩

