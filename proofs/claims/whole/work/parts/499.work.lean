/-! PURE: the reference's table -/
theorem T_laysFor {W : zWo} {m : Nat} {σ : zSt} (hW : WOK W) (hm : m < 2) (h : PM W m σ) {T : Nat → Nat} {O B : Nat} (hO : O < 256) (hB : B < 27) (hT : TB σ T (27 * O + B + 1)) : wp (F_X12_laysFor (nI O) (nI B) σ) (fun _ τ => fr [92] [] σ τ ∧ TB τ T (27 * O + B + 1) ∧ ∃ b, (∀ i, i < 4 → BB W m T O B i (fun _ _ => True) (b i)) ∧ LV τ (27 * O + B) (rnd (wyW W m) b 4)) := by
  unfold F_X12_laysFor F_X12_laysFor_0
  rw [T_keysWith hW h hO hB, bd_s]
  refine wp_for (fun i s => s.1 = nI i ∧ fr [92] [] σ s.2 ∧ TB s.2 T (27 * O + B + 1) ∧ ∃ b : Nat → Nat, ∀ j, j < i → BB W m T O B j (fun _ _ => True) (b j) ∧ s.2.1 92 (4 * (27 * O + B) + j) = nI (b j)) 4 (by decide) (fun i w s hi hI hw => ?_) (fun w s hI => ?_) ⟨rfl, fr.rf, hT, fun _ => 0, fun j hj => absurd hj (Nat.not_lt_zero j)⟩
  · obtain ⟨x, τ⟩ := s
    obtain ⟨i1, i2, i3, b, i4⟩ := hI
    simp only at i1 i2 i3 i4
    subst i1
    show wp (F_X12_laysFor_10 _ _ _ w (nI i) τ) _
    unfold F_X12_laysFor_10
    rw [if_neg (by rw [show (4 : Int32) = nI 4 from rfl, nI_lep (by omega)]; omega), T_stateOf, bd_s]
    refine wp_bd2 (T_bestBy hW hm (PM_fr h i2) hO hB hi i3) (fun a υ hυ => ?_)
    obtain ⟨rfl, v, rfl, hv⟩ := hυ
    rw [show cod O B i = 4 * (27 * O + B) + i from rfl, gd_n (by omega), nI_cl (by omega), nm_s, nm_s, nI_1]
    refine hw _ ⟨rfl, i2.w (Or.inl (by decide)), TB_w i3 hi, fset b i v, fun j hj => ?_⟩
    by_cases q : j = i
    · subst q
      rw [fset_s, zwr_at]
      exact ⟨hv, rfl⟩
    · rw [fset_n q, zwr_ne (Or.inr (by omega))]
      exact i4 j (by omega)
  · obtain ⟨x, τ⟩ := s
    obtain ⟨i1, i2, i3, b, i4⟩ := hI
    simp only at i1 i2 i3 i4
    subst i1
    show wp (F_X12_laysFor_10 _ _ _ w (nI 4) τ) _
    unfold F_X12_laysFor_10 F_X12_laysFor_43
    rw [if_pos (show (4 : Int32) ≤ nI 4 by decide)]
    refine wp_for (fun c s => s.1 = nI c ∧ fr [92] [] σ s.2 ∧ TB s.2 T (27 * O + B + 1) ∧ LV s.2 (27 * O + B) (rnd (wyW W m) b c)) 4 (by decide) (fun c w2 s hc hI hw => ?_) (fun w2 s hI => ?_) ⟨rfl, i2, i3, fun j hj => ⟨(i4 j hj).2, (i4 j hj).1.1⟩⟩
    · obtain ⟨x, υ⟩ := s
      obtain ⟨j1, j2, j3, j4⟩ := hI
      simp only at j1 j2 j3 j4
      subst j1
      show wp (F_X12_laysFor_46 _ _ _ w2 (nI c) υ) _
      unfold F_X12_laysFor_46
      rw [if_neg (by rw [show (4 : Int32) = nI 4 from rfl, nI_lep (by omega)]; omega)]
      refine wp_for (fun i s => s.1 = nI i ∧ fr [92] [] σ s.2 ∧ TB s.2 T (27 * O + B + 1) ∧ LV s.2 (27 * O + B) (rli (wyW W m) (rnd (wyW W m) b c) i)) 4 (by decide) (fun i w3 s hi hI hw3 => ?_) (fun w3 s hI => ?_) ⟨rfl, j2, j3, j4⟩
      · obtain ⟨x, ω⟩ := s
        obtain ⟨l1, l2, l3, l4⟩ := hI
        simp only at l1 l2 l3 l4
        subst l1
        show wp (F_X12_laysFor_55 w2 _ _ _ (nI c) w3 (nI i) ω) _
        unfold F_X12_laysFor_55
        rw [if_neg (by rw [show (4 : Int32) = nI 4 from rfl, nI_lep (by omega)]; omega)]
        refine wp_for (fun j s => s.1 = nI j ∧ fr [92] [] σ s.2 ∧ TB s.2 T (27 * O + B + 1) ∧ LV s.2 (27 * O + B) (rlr (wyW W m) (rli (wyW W m) (rnd (wyW W m) b c) i) i j)) 4 (by decide) (fun j w4 s hj hI hw4 => ?_) (fun w4 s hI => ?_) ⟨rfl, l2, l3, l4⟩
        · obtain ⟨x, κ⟩ := s
          obtain ⟨o1, o2, o3, o4⟩ := hI
          simp only at o1 o2 o3 o4
          subst o1
          exact T_relax hW hm (PM_fr h o2) hO hB hi hj o3 o4 (fun τ' f t v => hw4 _ ⟨rfl, o2.tr f, t, v⟩)
        · obtain ⟨x, κ⟩ := s
          obtain ⟨o1, o2, o3, o4⟩ := hI
          simp only at o1 o2 o3 o4
          subst o1
          show wp (F_X12_laysFor_64 w2 w3 _ _ _ (nI c) (nI i) w4 (nI 4) κ) _
          unfold F_X12_laysFor_64 F_X12_laysFor_155
          rw [if_pos (show (4 : Int32) ≤ nI 4 by decide), nm_s, nI_1]
          exact hw3 _ ⟨rfl, o2, o3, o4⟩
      · obtain ⟨x, ω⟩ := s
        obtain ⟨l1, l2, l3, l4⟩ := hI
        simp only at l1 l2 l3 l4
        subst l1
        show wp (F_X12_laysFor_55 w2 _ _ _ (nI c) w3 (nI 4) ω) _
        unfold F_X12_laysFor_55 F_X12_laysFor_161
        rw [if_pos (show (4 : Int32) ≤ nI 4 by decide), nm_s, nI_1]
        exact hw _ ⟨rfl, l2, l3, l4⟩
    · obtain ⟨x, υ⟩ := s
      obtain ⟨j1, j2, j3, j4⟩ := hI
      simp only at j1 j2 j3 j4
      subst j1
      show wp (F_X12_laysFor_46 _ _ _ w2 (nI 4) υ) _
      unfold F_X12_laysFor_46
      rw [if_pos (show (4 : Int32) ≤ nI 4 by decide)]
      exact wp_some ⟨j2, j3, b, fun i hi => (i4 i hi).1, j4⟩
/-- the table with one layer more -/
def lay (T : Nat → Nat) (L : Nat) (V : Nat → Nat) : Nat → Nat := fun s => if s < 4 * L + 4 then V (s - 4 * L) else T s
theorem lay_i {T V : Nat → Nat} {L i : Nat} (hi : i < 4) : lay T L V (4 * L + i) = V i := by
  unfold lay
  rw [if_pos (by omega), Nat.add_sub_cancel_left]
theorem lay_n {T V : Nat → Nat} {L s : Nat} (h : 4 * (L + 1) ≤ s) : lay T L V s = T s := if_neg (by omega)
theorem TB_lay {σ : zSt} {T V : Nat → Nat} {L : Nat} (h : TB σ T (L + 1)) (hV : LV σ L V) : TB σ (lay T L V) L := by
  intro s h1 h2
  by_cases q : s < 4 * L + 4
  · obtain ⟨i, hi, rfl⟩ : ∃ i, i < 4 ∧ s = 4 * L + i := ⟨s - 4 * L, by omega, by omega⟩
    rw [lay_i hi]
    exact hV i hi
  · rw [lay_n (by omega)]
    exact h s (by omega) h2
/-- what the cost of a state is -/
def OKs (W : zWo) (m : Nat) (T : Nat → Nat) (O B i : Nat) : Prop := (subB O (wTol W) = false → T (cod O B i) = 1000000000) ∧ (subB O (wTol W) = true → subB (golW W) O = true → T (cod O B i) = 0) ∧ (subB O (wTol W) = true → subB (golW W) O = false → (∀ l d, l < 6 → d < dgs l → canB W O B i l d = true → T (nxt O B i l d) < 1000000000 → T (cod O B i) ≤ T (nxt O B i l d) + cstW W m i l d) ∧ (T (cod O B i) = 1000000000 ∨ ∃ l d, l < 6 ∧ d < dgs l ∧ canB W O B i l d = true ∧ T (nxt O B i l d) < 1000000000 ∧ T (cod O B i) = T (nxt O B i l d) + cstW W m i l d)) ∧ (T (cod O B i) = 1000000000 ∨ T (cod O B i) ≤ KB (rk O B))
/-- so from the layer L on -/
def OKT (W : zWo) (m : Nat) (T : Nat → Nat) (L : Nat) : Prop := ∀ O B i, O < 256 → B < 27 → i < 4 → L ≤ 27 * O + B → OKs W m T O B i
theorem OKs_c {W : zWo} {m : Nat} {T T' : Nat → Nat} {O B i : Nat} (hO : O < 256) (hB : B < 27) (hi : i < 4) (e : ∀ s, 4 * (27 * O + B) ≤ s → T' s = T s) (h : OKs W m T O B i) : OKs W m T' O B i := by
  have e0 : T' (cod O B i) = T (cod O B i) := e _ (by unfold cod; omega)
  have en : ∀ l d, l < 6 → d < dgs l → canB W O B i l d = true → T' (nxt O B i l d) = T (nxt O B i l d) := by
    intro l d hl hd hc
    refine e _ ?_
    by_cases q : l = 0
    · subst q
      show 4 * (27 * O + B) ≤ 4 * (27 * O + B) + d
      omega
    · have := (nxt_ok hO hB hi hl (by omega) hd hc).1
      omega
  obtain ⟨h1, h2, h3, h4⟩ := h
  unfold OKs
  rw [e0]
  refine ⟨h1, h2, fun a b => ⟨fun l d hl hd hc ht => ?_, ?_⟩, h4⟩
  · rw [en l d hl hd hc] at ht ⊢
    exact (h3 a b).1 l d hl hd hc ht
  · rcases (h3 a b).2 with z | ⟨l, d, hl, hd, hc, ht, hs⟩
    · exact Or.inl z
    · refine Or.inr ⟨l, d, hl, hd, hc, ?_, ?_⟩
      · rw [en l d hl hd hc]
        exact ht
      · rw [en l d hl hd hc]
        exact hs
theorem OKs_lay {W : zWo} (hW : WOK W) {m : Nat} {T b : Nat → Nat} {O B : Nat} (hO : O < 256) (hB : B < 27) (hs : subB O (wTol W) = true) (hg : subB (golW W) O = false) (hT : OKT W m T (27 * O + B + 1)) (hb : ∀ i, i < 4 → BB W m T O B i (fun _ _ => True) (b i)) : ∀ i, i < 4 → OKs W m (lay T (27 * O + B) (rnd (wyW W m) b 4)) O B i := by
  have w0 : ∀ i, i < 4 → wyW W m i i = 0 := by
    intro i hi
    unfold wyW
    rw [show 4 * i + i = 5 * i by omega, hW.2.1 i hi]
    rfl
  have w1 : ∀ i j, i < 4 → j < 4 → wyW W m i j ≤ 30721 := by
    intro i j hi hj
    unfold wyW
    split
    · exact cstW_le hW hi (fun _ => hj)
    · omega
  have r11 := rk_le hO hB
  have bX : ∀ i, i < 4 → b i = 1000000000 ∨ b i ≤ KB (rk O B + 1) + 30721 := by
    intro i hi
    rcases (hb i hi).2.2 with z | ⟨l, d, h1, hl, hd, hc, ht, e⟩
    · exact Or.inl z
    · have hd8 : d < 8 := by have := (dgs_le l hl).2; omega
      obtain ⟨a1, a2, a3, -⟩ := ac_ok hO hB hi hl hd8 hc
      have up := rk_up hO hB hi hl h1 hd hc
      have nk := nxt_ok hO hB hi hl h1 hd hc
      have cb := cstW_le hW (m := m) (l := l) (d := d) hi (fun z => by omega)
      have ok := (hT (acO O l d) (acB B l d) (acI i l d) a1 a2 a3 (by have := nk.1; unfold nxt cod at this; omega)).2.2.2
      rw [show cod (acO O l d) (acB B l d) (acI i l d) = nxt O B i l d from rfl] at ok
      have rk2 := rk_le a1 a2
      rcases ok with z | z
      · omega
      · refine Or.inr ?_
        have mono : KB (rk (acO O l d) (acB B l d)) ≤ KB (rk O B + 1) := by
          unfold KB
          omega
        omega
  obtain ⟨r1, r2, r3, r4⟩ := rnd_ok (w := wyW W m) (b := b) (X := KB (rk O B + 1) + 30721) w0 w1 bX (by unfold KB; omega)
  intro i hi
  generalize rnd (wyW W m) b 4 = V at r1 r2 r3 r4
  have ec : ∀ j, j < 4 → lay T (27 * O + B) V (cod O B j) = V j := fun j hj => lay_i hj
  have en : ∀ l d, 1 ≤ l → l < 6 → d < dgs l → canB W O B i l d = true → lay T (27 * O + B) V (nxt O B i l d) = T (nxt O B i l d) := fun l d h1 hl hd hc => lay_n (nxt_ok hO hB hi hl h1 hd hc).1
  have kk : KB (rk O B + 1) + 30721 + 1966144 ≤ KB (rk O B) ∨ rk O B = 11 := by
    unfold KB
    omega
  unfold OKs
  rw [ec i hi]
  refine ⟨fun z => (by rw [hs] at z; cases z), fun _ z => (by rw [hg] at z; cases z), fun _ _ => ⟨fun l d hl hd hc ht => ?_, ?_⟩, ?_⟩
  · by_cases q : l = 0
    · subst q
      have hd4 : d < 4 := hd
      obtain ⟨y1, y2⟩ := (wyW_c (W := W) (m := m) (O := O) (B := B) (i := i) hd4).1 hc
      rw [show nxt O B i 0 d = cod O B d from rfl, ec d hd4, ← y1]
      exact r1 i d hi hd4 y2
    · rw [en l d (by omega) hl hd hc] at ht ⊢
      exact Nat.le_trans (r2 i hi) ((hb i hi).2.1 l d trivial (by omega) hl hd hc ht)
  · rcases r3 i hi with z | ⟨j, hj, wj, tj, sj⟩
    · rcases (hb i hi).2.2 with y | ⟨l, d, h1, hl, hd, hc, ht, e⟩
      · exact Or.inl (z.trans y)
      · refine Or.inr ⟨l, d, hl, hd, hc, ?_, ?_⟩
        · rw [en l d h1 hl hd hc]
          exact ht
        · rw [en l d h1 hl hd hc, z]
          exact e
    · obtain ⟨y1, y2⟩ := wyW_c (W := W) (m := m) (O := O) (B := B) (i := i) hj
      have hc : canB W O B i 0 j = true := by
        by_cases c : canB W O B i 0 j = true
        · exact c
        · exact absurd (y2 c) wj
      refine Or.inr ⟨0, j, by decide, hj, hc, ?_, ?_⟩
      · rw [show nxt O B i 0 j = cod O B j from rfl, ec j hj]
        exact tj
      · rw [show nxt O B i 0 j = cod O B j from rfl, ec j hj, ← (y1 hc).1]
        exact sj
  · rcases r4 i hi with z | z
    · exact Or.inl z
    · rcases kk with k | k
      · exact Or.inr (by omega)
      · refine Or.inr ?_
        have : KB (rk O B + 1) = 0 := by unfold KB; omega
        have : KB (rk O B) = 2000000 := by unfold KB; omega
        omega

