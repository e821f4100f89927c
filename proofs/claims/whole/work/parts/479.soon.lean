/-! PURE: soonest -/
theorem T0_uniq {W : zWo} {m : Nat} (hW : WOK W) (hh : wIs W (wHea W) = true) (hm : m < 2) {T T' : Nat → Nat} (hT : OKT W m T 0) (hT' : OKT W m T' 0) {σ : zSt} (hS : SK W σ) : T 0 = T' 0 := by
  obtain ⟨a, τ, e, -, f, bst, -, s⟩ := T_search hW hh hm hT hS
  obtain ⟨a', τ', e', -, f', bst', -, s'⟩ := T_search hW hh hm hT' hS
  rw [e] at e'
  cases e'
  have q : nI bst = nI bst' := s.2.2.1.symm.trans s'.2.2.1
  have b1 := s.2.2.2.1
  have b2 := s'.2.2.2.1
  rw [nI_eqp (by omega)] at q
  obtain ⟨x1, x2⟩ := best_is hW hh hT s.2.2.2
  obtain ⟨y1, y2⟩ := best_is hW hh hT' s'.2.2.2
  by_cases z : bst < 134217728
  · have := x1 z
    have := y1 (by omega)
    omega
  · have := x2 z
    have := y2 (by omega)
    omega
theorem s_soonest {n : Nat} {σ : zSt} (hn : n < 512) (hR : Rel n σ) (x1 : Int32) : Both n (F_X11_soonest x1) (F_X12_soonest x1) σ := by
  obtain ⟨-, ⟨W, w0, w1, w2, w3⟩, -, -, -, -⟩ := id hR
  have m2 : σ.1 69 2 = nI (wHea W) := w3.2.2.2.2.2.2.2.2.1
  have h8 := w0.hea
  by_cases h1 : bel x1 2
  rotate_left
  · refine Both.no (-1) hn hR ?_ ?_
    · unfold F_X11_soonest F_X11_soonest_0
      rw [T_isBelow_2, bd_s, bI_f h1, if_pos rfl]
    · unfold F_X12_soonest F_X12_soonest_0
      rw [T_in_1, bd_s, bI_f h1, if_pos rfl]
  by_cases h2 : isT W (nI (wHea W))
  rotate_left
  · refine Both.no (-1) hn hR ?_ ?_
    · unfold F_X11_soonest F_X11_soonest_0
      rw [T_isBelow_2, bd_s, bI_t h1, if_neg (show ¬ (1 : Int32) = 0 by decide), T_heart w0 w2, bd_s, bI_f h2, if_pos rfl]
    · unfold F_X12_soonest F_X12_soonest_0
      rw [T_in_1, bd_s, bI_t h1, if_neg (show ¬ (1 : Int32) = 0 by decide), m2, T_isPlace w0 w3, bd_s, bI_f h2, if_pos rfl]
  have hh : wIs W (wHea W) = true := (isT_n (by omega)).mp h2
  obtain ⟨_, _, _, _, _, T, _, hT, _⟩ := T_solves (m := 1) w0 (by decide) w3
  obtain ⟨_, σ1, _, _, hS1⟩ := T_learn w0 w2
  have lim := T_lim hT (O := 0) (B := 0) (i := 0) (by decide) (by decide) (by decide)
  rw [show cod 0 0 0 = 0 from rfl] at lim
  refine Both.fr (if T 0 = 1000000000 then -2 else if x1 = 0 then nI (T 0 / 1024) else nI (T 0 % 1024)) hn hR ?_ (fun τ hRτ f => ?_)
  · unfold F_X11_soonest F_X11_soonest_0
    rw [T_isBelow_2, bd_s, bI_t h1, if_neg (show ¬ (1 : Int32) = 0 by decide), T_heart w0 w2, bd_s, bI_t h2, if_neg (show ¬ (1 : Int32) = 0 by decide)]
    refine wp_bd2 (T_learn w0 w2) (fun _ a ha => ?_)
    obtain ⟨f1, hS⟩ := ha
    have S := T_search (m := 1) w0 hh (by decide) hT hS
    rw [show nI (1 - 1) = (0 : Int32) from rfl] at S
    refine wp_bd2 S (fun v b hb => ?_)
    obtain ⟨f2, g, bst, rfl, hs⟩ := hb
    have ff : fr LC SC σ b := (f1.mono (by decide)).tr (f2.mono (by decide))
    obtain ⟨y1, y2⟩ := best_is w0 hh hT hs.2.2.2
    by_cases q : bst < 134217728
    · have e := y1 q
      rw [bI_t q, if_neg (show ¬ (1 : Int32) = 0 by decide), if_neg (show ¬ T 0 = 1000000000 by omega)]
      by_cases x0 : x1 = 0
      · rw [if_pos x0, if_pos x0]
        unfold F_X4_days F_X4_days_0
        rw [hs.2.2.1, show (1024 : Int32) = nI 1024 from rfl, pk_div (by omega) (by decide) (by decide), bd_s, e]
        exact wp_some ⟨rfl, ff⟩
      · rw [if_neg x0, if_neg x0]
        unfold F_X4_rest F_X4_rest_0
        rw [hs.2.2.1, show (1024 : Int32) = nI 1024 from rfl, nI_mod (by omega), bd_s, e]
        exact wp_some ⟨rfl, ff⟩
    · have e := y2 q
      rw [bI_f q, if_pos rfl, if_pos e]
      exact wp_some ⟨rfl, ff⟩
  · have hMτ : EM 70 0 W τ := f.EM (by decide) w3
    have m2τ : τ.1 69 2 = nI (wHea W) := hMτ.2.2.2.2.2.2.2.2.1
    unfold F_X12_soonest F_X12_soonest_0
    rw [T_in_1, bd_s, bI_t h1, if_neg (show ¬ (1 : Int32) = 0 by decide), m2τ, T_isPlace w0 hMτ, bd_s, bI_t h2, if_neg (show ¬ (1 : Int32) = 0 by decide)]
    have S := T_solves (m := 1) w0 (by decide) hMτ
    rw [show nI 1 = (1 : Int32) from rfl] at S
    refine wp_bd2 S (fun v b hb => ?_)
    obtain ⟨f2, -, T', -, hT', rfl⟩ := hb
    have e := T0_uniq w0 hh (by decide) hT' hT hS1
    rw [e]
    have ff : fr LM SM τ b := f2.mono (by decide)
    by_cases q : T 0 = 1000000000
    · rw [if_pos (by rw [q]; rfl), if_pos q]
      exact wp_some ⟨rfl, ff⟩
    · rw [if_neg (by rw [show (1000000000 : Int32) = nI 1000000000 from rfl, nI_eqp (by omega)]; exact q), if_neg q]
      by_cases x0 : x1 = 0
      · rw [if_pos x0, if_pos x0, show (1024 : Int32) = nI 1024 from rfl, pk_div (by omega) (by decide) (by decide)]
        exact wp_some ⟨rfl, ff⟩
      · rw [if_neg x0, if_neg x0, show (1024 : Int32) = nI 1024 from rfl, nI_mod (by omega)]
        exact wp_some ⟨rfl, ff⟩

