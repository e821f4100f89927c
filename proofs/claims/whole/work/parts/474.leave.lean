/-! PURE: the planner leaves a state -/
theorem shr_0 : ∀ b, b < 256 → ∀ d, d < 8 → (nI b >>> (nI d &&& 31) = 0 ↔ b < 2 ^ d) := by decide +kernel
theorem ST_48 {W : zWo} {O B i : Nat} {σ τ : zSt} (h : ST W O B i σ) (f : fr [48] [] σ τ) : ST W O B i τ := by
  obtain ⟨⟨a1, a2, a3, a4, a5, a6, a7, a8⟩, h2, h3⟩ := h
  have g : ∀ j, τ.1 17 j = σ.1 17 j := fun j => by rw [f.row (c := 17) (by decide)]
  have g2 : ∀ j, τ.1 23 j = σ.1 23 j := fun j => by rw [f.row (c := 23) (by decide)]
  exact ⟨⟨(g 8).trans a1, (g 9).trans a2, (g 10).trans a3, (g 11).trans a4, (g 12).trans a5, (g 13).trans a6, (g 14).trans a7, (g2 5).trans a8⟩, (g 7).trans h2, fun l hl => (g2 l).trans (h3 l hl)⟩
theorem PU_48 {W : zWo} {σ τ : zSt} (h : PU W σ) (f : fr [48] [] σ τ) : PU W τ := ⟨(f.rd (by decide) (by decide)).trans h.1, fun l hl => by rw [f.row (c := 52) (by decide)]; exact h.2 l hl⟩
theorem hlp_lt {W : zWo} (hW : WOK W) {l : Nat} : hlpW W l < 256 := by
  unfold hlpW
  split
  · decide
  · split
    · exact (use_lt hW).1
    · exact bset_lt _ 3 (by decide)
/-- an act that can be done and helps -/
def hB (W : zWo) (O B i l d : Nat) : Bool := (canW W O B i l &&& hlpW W l).testBit d
theorem hB_c {W : zWo} {O B i l d : Nat} (h : hB W O B i l d = true) : canB W O B i l d = true ∧ (hlpW W l).testBit d = true := by
  unfold hB at h
  rw [Nat.testBit_and, Bool.and_eq_true] at h
  exact h
/-- the planner's table, where only useful places are open -/
def FT (W : zWo) (σ : zSt) (f : Nat → Nat) : Prop := ∀ s, s < 27648 → subB (s / 108) (useW W) = true → σ.1 48 s = nI (f s) ∧ f s ≤ 134217728
theorem hB_in {W : zWo} {O B i l d : Nat} (hO : O < 256) (hB' : B < 27) (hi : i < 4) (hl : l < 6) (h1 : 1 ≤ l) (hd : d < 8) (hU : subB O (useW W) = true) (h : hB W O B i l d = true) : 4 * (27 * O + B + 1) ≤ nxt O B i l d ∧ nxt O B i l d < 27648 ∧ subB (nxt O B i l d / 108) (useW W) = true := by
  obtain ⟨c1, c2⟩ := hB_c h
  have hd' := can_dg hi hl hd c1
  obtain ⟨n1, n2⟩ := nxt_ok hO hB' hi hl h1 hd' c1
  obtain ⟨a1, a2, a3, -⟩ := ac_ok hO hB' hi hl hd c1
  refine ⟨n1, n2, ?_⟩
  rw [show nxt O B i l d / 108 = acO O l d by unfold nxt cod; omega]
  unfold acO
  by_cases q : 2 ≤ l ∧ l ≤ 4
  · rw [if_pos q, Nat.or_comm, sub_or hO hd, hU, Bool.and_true]
    have e : hlpW W l = useW W := by
      unfold hlpW
      rw [if_neg (by omega), if_pos q.2]
    rw [← e]
    exact c2
  · rw [if_neg q]
    exact hU
/-- what leaving has done to the table -/
def LVP (W : zWo) (m : Nat) (f f' : Nat → Nat) (V O B i : Nat) (dn : Nat → Nat → Prop) : Prop := (∀ s, f' s ≤ f s) ∧ (∀ l d, dn l d → 1 ≤ l → l < 6 → d < 8 → hB W O B i l d = true → f' (nxt O B i l d) ≤ V + cstW W m i l d) ∧ ∀ s, f' s = f s ∨ ∃ l d, 1 ≤ l ∧ l < 6 ∧ d < 8 ∧ hB W O B i l d = true ∧ s = nxt O B i l d ∧ f' s = V + cstW W m i l d
theorem LVP_dn {W : zWo} {m : Nat} {f f' : Nat → Nat} {V O B i : Nat} {dn dn' : Nat → Nat → Prop} (h : LVP W m f f' V O B i dn) (g : ∀ l d, dn' l d → d < 8 → hB W O B i l d = true → dn l d) : LVP W m f f' V O B i dn' := ⟨h.1, fun l d x h1 hl hd hb => h.2.1 l d (g l d x hd hb) h1 hl hd hb, h.2.2⟩
theorem T_leave {W : zWo} {m : Nat} (hW : WOK W) (hm : m < 2) {σ : zSt} {f : Nat → Nat} {O B i : Nat} (hO : O < 256) (hB' : B < 27) (hi : i < 4) (hU : subB O (useW W) = true) (hS : SK W σ) (hE : EN W O B σ) (hPU : PU W σ) (e5 : σ.1 47 5 = nI (1 - m)) (hF : FT W σ f) : wp (F_X4_leave (nI (cod O B i)) σ) (fun _ τ => fr [23, 48] [(17, 7)] σ τ ∧ EN W O B τ ∧ ∃ f', FT W τ f' ∧ LVP W m f f' (f (cod O B i)) O B i (fun _ _ => True)) := by
  have cb : cod O B i < 27648 := by unfold cod; omega
  obtain ⟨v1, v2⟩ := hF (cod O B i) cb (by rw [show cod O B i / 108 = O by unfold cod; omega]; exact hU)
  unfold F_X4_leave F_X4_leave_0
  rw [gd_n (by omega), nI_cl (by omega), v1, nm_s, show (4 : Int32) = nI 4 from rfl, nI_mod (by omega), show cod O B i % 4 = i by unfold cod; omega]
  generalize f (cod O B i) = V at v2
  refine wp_bd2 (T_arrive hW hS hi hE) (fun _ τ hτ => ?_)
  obtain ⟨f1, hT⟩ := hτ
  have hPτ : PU W τ := ⟨(f1.rd (by decide) (by decide)).trans hPU.1, fun l hl => by rw [f1.row (c := 52) (by decide)]; exact hPU.2 l hl⟩
  have e5τ : τ.1 47 5 = nI (1 - m) := (f1.rd (by decide) (by decide)).trans e5
  have hFτ : FT W τ f := fun s h1 h2 => by rw [f1.row (c := 48) (by decide)]; exact hF s h1 h2
  refine wp_for (fun k s => s.1 = nI (k + 1) ∧ fr [48] [] τ s.2 ∧ ∃ f', FT W s.2 f' ∧ LVP W m f f' V O B i (fun l _ => l ≤ k)) 5 (by decide) (fun k w s hk hI hw => ?_) (fun w s hI => ?_) ⟨rfl, fr.rf, f, hFτ, fun s => Nat.le_refl _, fun l d x h1 => absurd h1 (by omega), fun s => Or.inl rfl⟩
  · obtain ⟨x, υ⟩ := s
    obtain ⟨i1, i2, f', i3, i4⟩ := hI
    simp only at i1 i2 i3
    subst i1
    obtain ⟨l, el⟩ : ∃ l, l = k + 1 := ⟨_, rfl⟩
    have hl : l < 6 := by omega
    have Hlt : canW W O B i l &&& hlpW W l < 256 := by
      rw [Nat.and_comm]
      exact and_lt (hlp_lt hW)
    have s1 := T_canBits (ST_48 hT i2) hl
    have hp := (PU_48 hPτ i2).2 l hl
    have EH : F_X4_helpfulBits (nI l) υ = some (nI (canW W O B i l &&& hlpW W l), υ) := by
      unfold F_X4_helpfulBits F_X4_helpfulBits_0
      rw [if_neg (nI_pos (by omega)), if_neg (by rw [show (6 : Int32) = nI 6 from rfl, nI_lep (by omega)]; omega), s1, bd_s, gd_n (by omega), nI_cl (by omega), hp, nI_and]
    have v9 : (if nI l = 5 then (0 : Int32) else 1) = nI (if l = 5 then 0 else 1) := by
      by_cases q : l = 5
      · rw [if_pos (by rw [q]; rfl), if_pos q]
        rfl
      · rw [if_neg (by rw [show (5 : Int32) = nI 5 from rfl, nI_eqp (by omega)]; exact q), if_neg q]
        rfl
    have ec : ∀ d, 1024 * (if l = 5 then 0 else 1) + (if m = 0 then 1 else if l = 2 ∨ l = 3 ∨ l = 4 then 1 else 0) = cstW W m i l d := by
      intro d
      unfold cstW dyW
      rw [if_neg (show ¬ l = 0 by omega)]
    have cle := cstW_le hW (m := m) (l := l) (d := 0) hi (fun z => by omega)
    rw [← el]
    show wp (F_X4_leave_19 (nI V) w (nI l) υ) _
    unfold F_X4_leave_19
    rw [if_neg (by rw [show (6 : Int32) = nI 6 from rfl, nI_lep (by omega)]; omega), EH, bd_s, v9, nm_s, T_price hm ((i2.rd (by decide) (by decide)).trans e5τ) hl, bd_s, ec 0, nI_add, nm_s]
    have out : ∀ (κ : zSt) (g : Nat → Nat) (n : Nat), fr [48] [] τ κ → FT W κ g → LVP W m f g V O B i (fun l' d => l' ≤ k ∨ (l' = l ∧ d < n)) → (∀ d, d < 8 → n ≤ d → hB W O B i l d = false) → wp (w (nI (l + 1), κ)) (fun _ τ => fr [23, 48] [(17, 7)] σ τ ∧ EN W O B τ ∧ ∃ f', FT W τ f' ∧ LVP W m f f' V O B i (fun _ _ => True)) := by
      intro κ g n a1 a2 a3 a4
      rw [el]
      refine hw _ ⟨rfl, a1, g, a2, LVP_dn a3 (fun l' d x hd hb => ?_)⟩
      by_cases z : l' = l
      · subst z
        by_cases y : d < n
        · exact Or.inr ⟨rfl, y⟩
        · rw [a4 d hd (by omega)] at hb
          cases hb
      · exact Or.inl (by omega)
    refine wp_for (fun d s => s.1 = nI d ∧ fr [48] [] τ s.2 ∧ ∃ g, FT W s.2 g ∧ LVP W m f g V O B i (fun l' d' => l' ≤ k ∨ (l' = l ∧ d' < d))) 8 (by decide) (fun d w2 s hd hI hw2 => ?_) (fun w2 s hI => ?_) ⟨rfl, i2, f', i3, LVP_dn i4 (fun l' d' x _ _ => by rcases x with x | x <;> omega)⟩
    · obtain ⟨x, κ⟩ := s
      obtain ⟨j1, j2, g, j3, j4⟩ := hI
      simp only at j1 j2 j3
      subst j1
      show wp (F_X4_leave_54 w (nI V) (nI l) _ _ w2 (nI d) κ) _
      unfold F_X4_leave_54 F_X4_leave_136
      rw [if_neg (by rw [show (8 : Int32) = nI 8 from rfl, nI_lep (by omega)]; omega)]
      by_cases z : canW W O B i l &&& hlpW W l < 2 ^ d
      · rw [if_pos ((shr_0 _ Hlt d hd).mpr z), nm_s, nI_1]
        refine out κ g d j2 j3 j4 (fun d' _ hn => ?_)
        exact Nat.testBit_lt_two_pow (Nat.lt_of_lt_of_le z (Nat.pow_le_pow_right (by decide) hn))
      rw [if_neg (fun y => z ((shr_0 _ Hlt d hd).mp y))]
      have next : ∀ (κ' : zSt) (g' : Nat → Nat), fr [48] [] τ κ' → FT W κ' g' → LVP W m f g' V O B i (fun l' d' => l' ≤ k ∨ (l' = l ∧ d' < d + 1)) → wp (F_X4_leave_130 w w2 (nI V) (nI l) (nI (canW W O B i l &&& hlpW W l)) (nI (V + cstW W m i l 0)) (nI d) κ') (fun _ τ => fr [23, 48] [(17, 7)] σ τ ∧ EN W O B τ ∧ ∃ f', FT W τ f' ∧ LVP W m f f' V O B i (fun _ _ => True)) := by
        intro κ' g' a1 a2 a3
        unfold F_X4_leave_130
        rw [nm_s, nI_1]
        exact hw2 _ ⟨rfl, a1, g', a2, a3⟩
      by_cases b : hB W O B i l d = true
      rotate_left
      · rw [if_neg (fun y => b ((bit_is Hlt hd).mp y))]
        unfold F_X4_leave_94
        rw [if_pos (show (-1 : Int32) < 0 by decide)]
        refine next κ g j2 j3 (LVP_dn j4 (fun l' d' x _ hb => ?_))
        rcases x with x | ⟨x, y⟩
        · exact Or.inl x
        · by_cases e : d' = d
          · subst x e
            exact absurd hb b
          · exact Or.inr ⟨x, by omega⟩
      obtain ⟨n1, n2, n3⟩ := hB_in hO hB' hi hl (by omega) hd hU b
      obtain ⟨t1, t2⟩ := j3 _ n2 n3
      rw [if_pos ((bit_is Hlt hd).mpr b), T_after (ST_48 hT j2) hl hd (fun e => by have := (hB_c b).1; subst e; exact (can_5.mp this).1), bd_s]
      show wp (F_X4_leave_94 w w2 (nI V) (nI l) _ _ (nI d) (nI (nxt O B i l d)) κ) _
      unfold F_X4_leave_94
      rw [if_neg (nI_pos (by omega)), if_neg (by rw [show (27648 : Int32) = nI 27648 from rfl, nI_lep (by omega)]; omega), gd_n (by omega), nI_cl (by omega), t1]
      have ecd : cstW W m i l 0 = cstW W m i l d := (ec 0).symm.trans (ec d)
      by_cases le : g (nxt O B i l d) ≤ V + cstW W m i l 0
      · rw [if_pos (by rw [nI_lep (by omega)]; exact le)]
        refine next κ g j2 j3 ⟨j4.1, fun l' d' x h1 hl' hd' hb => ?_, j4.2.2⟩
        rcases x with x | ⟨x, y⟩
        · exact j4.2.1 l' d' (Or.inl x) h1 hl' hd' hb
        · by_cases e : d' = d
          · subst x e
            rw [← ecd]
            exact le
          · exact j4.2.1 l' d' (Or.inr ⟨x, by omega⟩) h1 hl' hd' hb
      · rw [if_neg (by rw [nI_lep (by omega)]; exact le), gd_n (by omega), nm_s]
        refine next _ (fset g (nxt O B i l d) (V + cstW W m i l d)) (j2.w (Or.inl (by decide))) (fun s h1 h2 => ?_) ⟨fun s => ?_, fun l' d' x h1 hl' hd' hb => ?_, fun s => ?_⟩
        · by_cases e : s = nxt O B i l d
          · subst e
            rw [zwr_at, fset_s, ecd]
            exact ⟨rfl, by omega⟩
          · rw [zwr_ne (Or.inr e), fset_n e]
            exact j3 s h1 h2
        · by_cases e : s = nxt O B i l d
          · subst e
            rw [fset_s]
            have := j4.1 (nxt O B i l d)
            omega
          · rw [fset_n e]
            exact j4.1 s
        · by_cases e : nxt O B i l' d' = nxt O B i l d
          · rw [e, fset_s]
            rcases x with x | ⟨x, y⟩
            · have := j4.2.1 l' d' (Or.inl x) h1 hl' hd' hb
              rw [e] at this
              omega
            · by_cases ed : d' = d
              · subst x ed
                exact Nat.le_refl _
              · have := j4.2.1 l' d' (Or.inr ⟨x, by omega⟩) h1 hl' hd' hb
                rw [e] at this
                omega
          · rw [fset_n e]
            rcases x with x | ⟨x, y⟩
            · exact j4.2.1 l' d' (Or.inl x) h1 hl' hd' hb
            · by_cases ed : d' = d
              · subst x ed
                exact absurd rfl e
              · exact j4.2.1 l' d' (Or.inr ⟨x, by omega⟩) h1 hl' hd' hb
        · by_cases e : s = nxt O B i l d
          · exact Or.inr ⟨l, d, by omega, hl, hd, b, e, by rw [e, fset_s]⟩
          · rw [fset_n e]
            exact j4.2.2 s
    · obtain ⟨x, κ⟩ := s
      obtain ⟨j1, j2, g, j3, j4⟩ := hI
      simp only at j1 j2 j3
      subst j1
      show wp (F_X4_leave_54 w (nI V) (nI l) _ _ w2 (nI 8) κ) _
      unfold F_X4_leave_54 F_X4_leave_136
      rw [if_pos (show (8 : Int32) ≤ nI 8 by decide), nm_s, nI_1]
      exact out κ g 8 j2 j3 j4 (fun d' h1 h2 => by omega)
  · obtain ⟨x, υ⟩ := s
    obtain ⟨i1, i2, f', i3, i4⟩ := hI
    simp only at i1 i2 i3
    subst i1
    show wp (F_X4_leave_19 (nI V) w (nI 6) υ) _
    unfold F_X4_leave_19
    rw [if_pos (show (6 : Int32) ≤ nI 6 by decide)]
    exact wp_some ⟨(f1.mono (by decide)).tr (i2.mono (by decide)), (ST_48 hT i2).1, f', i3, i4.1, fun l d _ h1 hl hd hb => i4.2.1 l d (by omega) h1 hl hd hb, i4.2.2⟩

