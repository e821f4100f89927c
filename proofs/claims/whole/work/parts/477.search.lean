/-! PURE: the planner searches -/
def LS4 : List Nat := [23, 48, 49, 50, 52]
def SS4 : List (Nat × Nat) := [(17, 7), (17, 8), (17, 9), (17, 10), (17, 11), (17, 12), (17, 13), (17, 14), (47, 5), (47, 6), (47, 8)]
theorem sub_le {O U : Nat} (hO : O < 256) (h : subB O U = true) : O ≤ U := by
  have e : O &&& U = O := by
    apply Nat.eq_of_testBit_eq
    intro k
    rw [Nat.testBit_and]
    cases o : O.testBit k with
    | false => rfl
    | true =>
      by_cases k8 : k < 8
      · rw [(subB_i hO).mp h k k8 o]
        rfl
      · rw [tb_hi hO (by omega)] at o
        cases o
  rw [← e]
  exact Nat.and_le_right
theorem SI_pass {W : zWo} {m : Nat} {T f : Nat → Nat} {bst O : Nat} (hn : subB O (useW W) = false) (h : SI W m T f bst (27 * O) (4 * (27 * O))) : SI W m T f bst (27 * (O + 1)) (4 * (27 * (O + 1))) := by
  obtain ⟨h1, h2, h3, h4, h5, h6, h7⟩ := h
  have ne : ∀ O', subB O' (useW W) = true → O' ≠ O := fun O' q e => by
    rw [e, hn] at q
    cases q
  refine ⟨h1, fun O' B' a b q1 q2 q3 q4 q5 q6 => ?_, fun O' B' i l d q1 q2 q3 q4 q5 => ?_, fun O' B' i q1 q2 q3 q4 q5 => ?_, ?_, h6, h7⟩
  · have := ne O' q5
    exact h2 O' B' a b q1 q2 q3 q4 q5 (by omega)
  · have := ne O' q4
    exact h3 O' B' i l d q1 q2 q3 q4 (by unfold cod at q5 ⊢; omega)
  · have := ne O' q4
    exact h4 O' B' i q1 q2 q3 q4 (by unfold cod at q5 ⊢; omega)
  · rcases h5 with z | ⟨O', B', i, q1, q2, q3, q4, q5, q6, q7⟩
    · exact Or.inl z
    · have := ne O' q4
      exact Or.inr ⟨O', B', i, q1, q2, q3, q4, by unfold cod at q5 ⊢; omega, q6, q7⟩
theorem SI_all {W : zWo} {m : Nat} {T f : Nat → Nat} {bst : Nat} (h : SI W m T f bst (27 * (useW W + 1)) (4 * (27 * (useW W + 1)))) : SI W m T f bst 6912 27648 := by
  obtain ⟨h1, h2, h3, h4, h5, h6, h7⟩ := h
  refine ⟨h1, fun O' B' a b q1 q2 q3 q4 q5 q6 => ?_, fun O' B' i l d q1 q2 q3 q4 q5 => ?_, fun O' B' i q1 q2 q3 q4 q5 => ?_, ?_, h6, h7⟩
  · have := sub_le q1 q5
    exact h2 O' B' a b q1 q2 q3 q4 q5 (by omega)
  · have := sub_le q1 q4
    exact h3 O' B' i l d q1 q2 q3 q4 (by unfold cod; omega)
  · have := sub_le q1 q4
    exact h4 O' B' i q1 q2 q3 q4 (by unfold cod; omega)
  · rcases h5 with z | ⟨O', B', i, q1, q2, q3, q4, q5, q6, q7⟩
    · exact Or.inl z
    · exact Or.inr ⟨O', B', i, q1, q2, q3, q4, by unfold cod; omega, q6, q7⟩
theorem T_clear {σ : zSt} {O : Nat} (hO : O < 256) : wp (F_X4_clear (nI O) σ) (fun _ τ => fr [48] [] σ τ ∧ (∀ s, s < 108 * O ∨ 108 * O + 108 ≤ s → τ.1 48 s = σ.1 48 s) ∧ ∀ s, 108 * O ≤ s → s < 108 * O + 108 → τ.1 48 s = nI 134217728) := by
  unfold F_X4_clear F_X4_clear_0
  rw [show (nI O * (27 : Int32)) * (4 : Int32) = nI (108 * O) by rw [show (27 : Int32) = nI 27 from rfl, show (4 : Int32) = nI 4 from rfl, pk_mul, pk_mul]; congr 1; omega, nm_s]
  refine wp_for (fun k s => s.1 = nI k ∧ fr [48] [] σ s.2 ∧ (∀ x, x < 108 * O ∨ 108 * O + k ≤ x → s.2.1 48 x = σ.1 48 x) ∧ ∀ x, 108 * O ≤ x → x < 108 * O + k → s.2.1 48 x = nI 134217728) 108 (by decide) (fun k w s hk hI hw => ?_) (fun w s hI => ?_) ⟨rfl, fr.rf, fun _ _ => rfl, fun x h1 h2 => absurd h2 (by omega)⟩
  · obtain ⟨x, τ⟩ := s
    obtain ⟨i1, i2, i3, i4⟩ := hI
    simp only at i1 i2 i3 i4
    subst i1
    show wp (F_X4_clear_9 (nI (108 * O)) w (nI k) τ) _
    unfold F_X4_clear_9
    rw [if_neg (by rw [show (108 : Int32) = nI 108 from rfl, nI_lep (by omega)]; omega), nI_add, if_neg (by rw [show (27648 : Int32) = nI 27648 from rfl, nI_lep (by omega)]; omega), gd_n (by omega), nI_cl (by omega), nm_s, nm_s, nI_1]
    refine hw _ ⟨rfl, i2.w (Or.inl (by decide)), fun x hx => ?_, fun x h1 h2 => ?_⟩
    · rw [zwr_ne (Or.inr (by omega))]
      exact i3 x (by omega)
    · by_cases q : x = 108 * O + k
      · rw [q, zwr_at]
        rfl
      · rw [zwr_ne (Or.inr q)]
        exact i4 x h1 (by omega)
  · obtain ⟨x, τ⟩ := s
    obtain ⟨i1, i2, i3, i4⟩ := hI
    simp only at i1 i2 i3 i4
    subst i1
    show wp (F_X4_clear_9 (nI (108 * O)) w (nI 108) τ) _
    unfold F_X4_clear_9
    rw [if_pos (show (108 : Int32) ≤ nI 108 by decide)]
    exact wp_some ⟨i2, i3, i4⟩
/-- what the search has found -/
def SRS (W : zWo) (m : Nat) (T f : Nat → Nat) (bst : Nat) (σ : zSt) : Prop := AD W m σ ∧ FT W σ f ∧ σ.1 47 8 = nI bst ∧ SI W m T f bst 6912 27648
theorem T_search {W : zWo} {m : Nat} (hW : WOK W) (hh : wIs W (wHea W) = true) (hm : m < 2) {T : Nat → Nat} (hT : OKT W m T 0) {σ : zSt} (hS : SK W σ) : wp (F_X4_search (nI (1 - m)) σ) (fun a τ => fr LS4 SS4 σ τ ∧ ∃ f bst, a = bI (bst < 134217728) ∧ SRS W m T f bst τ) := by
  have hU := (use_lt hW).1
  have g01 : nI (1 - m) = 0 ∨ nI (1 - m) = 1 := by
    rcases (by omega : m = 0 ∨ m = 1) with rfl | rfl
    · exact Or.inr rfl
    · exact Or.inl rfl
  unfold F_X4_search F_X4_search_0
  rw [gd_t g01]
  refine wp_let (fun a ha => ?_)
  refine wp_let (fun b hb => ?_)
  have fb : fr LS4 SS4 σ b := by
    rw [hb, ha]
    exact (fr_w (Or.inr (by decide))).w (Or.inr (by decide))
  have b5 : b.1 47 5 = nI (1 - m) := by rw [hb, zwr_ne (Or.inr (by decide)), ha, zwr_at]
  have b8 : b.1 47 8 = nI 134217728 := by
    rw [hb, zwr_at]
    rfl
  have hSb := SK_fr hS fb (by decide)
  refine wp_bd2 (T_useful hW hSb) (fun _ c hc => ?_)
  obtain ⟨fc, hPU⟩ := hc
  have hSc := SK_fr hSb fc (by decide)
  have c5 : c.1 47 5 = nI (1 - m) := (fc.rd (by decide) (by decide)).trans b5
  have c8 : c.1 47 8 = nI 134217728 := (fc.rd (by decide) (by decide)).trans b8
  refine wp_bd2 (T_paths hW hm hSc c5) (fun _ d hd => ?_)
  obtain ⟨fd, hPR⟩ := hd
  have d5 : d.1 47 5 = nI (1 - m) := (fd.rd (by decide) (by decide)).trans c5
  have d8 : d.1 47 8 = nI 134217728 := (fd.rd (by decide) (by decide)).trans c8
  have hAd : AD W m d := ⟨SK_fr hSc fd (by decide), ⟨(fd.rd (by decide) (by decide)).trans hPU.1, fun l hl => by rw [fd.row (c := 52) (by decide)]; exact hPU.2 l hl⟩, d5, hPR⟩
  have fσd : fr LS4 SS4 σ d := (fb.tr (fc.mono (by decide))).tr (fd.mono (by decide))
  clear hb ha fb b5 b8 hSb fc hPU hSc c5 c8 fd hPR d5
  have nd : ∀ O, O < 256 → nI O &&& (nI (useW W) ^^^ (-1)) = nI (O &&& (useW W ^^^ 255)) := fun O hO => nI_andn hO hU
  refine wp_for (fun k s => s.1 = nI k ∧ fr LA4 SA4 d s.2 ∧ s.2.1 47 8 = nI 134217728 ∧ ∀ x, x < 108 * k → subB (x / 108) (useW W) = true → s.2.1 48 x = nI 134217728) (useW W + 1) (by omega) (fun k w s hk hI hw => ?_) (fun w s hI => ?_) ⟨rfl, fr.rf, d8, fun x hx => absurd hx (by omega)⟩
  · obtain ⟨x, τ⟩ := s
    obtain ⟨i1, i2, i3, i4⟩ := hI
    simp only at i1 i2 i3 i4
    subst i1
    have k256 : k < 256 := by omega
    have τ6 : τ.1 47 6 = nI (useW W) := (AD_fr hAd i2).2.1.1
    have lt : k &&& (useW W ^^^ 255) < 256 := and_lt k256
    show wp (F_X4_search_21 w (nI k) τ) _
    unfold F_X4_search_21 F_X4_search_45
    rw [τ6, if_neg (by rw [nI_ltp (by omega)]; omega), nd k k256]
    by_cases q : k &&& (useW W ^^^ 255) = 0
    · rw [if_pos (by rw [q]; rfl)]
      refine wp_bd2 (T_clear k256) (fun _ υ hυ => ?_)
      obtain ⟨f1, u1, u2⟩ := hυ
      rw [nm_s, nI_1]
      refine hw _ ⟨rfl, i2.tr (f1.mono (by decide)), (f1.rd (by decide) (by decide)).trans i3, fun x hx hs => ?_⟩
      by_cases z : x < 108 * k
      · rw [u1 x (Or.inl z)]
        exact i4 x z hs
      · exact u2 x (by omega) (by omega)
    · rw [if_neg (by rw [nI_e0 (by omega)]; exact q), nm_s, nI_1]
      refine hw _ ⟨rfl, i2, i3, fun x hx hs => ?_⟩
      by_cases z : x < 108 * k
      · exact i4 x z hs
      · rw [show x / 108 = k by omega] at hs
        exact absurd (of_decide_eq_true hs) q
  · obtain ⟨x, τ⟩ := s
    obtain ⟨i1, i2, i3, i4⟩ := hI
    simp only at i1 i2 i3 i4
    subst i1
    have τ6 : τ.1 47 6 = nI (useW W) := (AD_fr hAd i2).2.1.1
    show wp (F_X4_search_21 w (nI (useW W + 1)) τ) _
    unfold F_X4_search_21 F_X4_search_51
    rw [τ6, if_pos (by rw [nI_ltp (by omega)]; omega)]
    refine wp_let (fun e he => ?_)
    have fe : fr LA4 SA4 d e := by
      rw [he]
      exact i2.w (Or.inl (by decide))
    have F0 : FT W e (fset (fun _ => 134217728) 0 0) := by
      intro s h1 h2
      rw [he]
      by_cases z : s = 0
      · rw [z, zwr_at, fset_s]
        exact ⟨rfl, Nat.zero_le _⟩
      · rw [zwr_ne (Or.inr z), fset_n z]
        have : s / 108 ≤ useW W := sub_le (by omega) h2
        exact ⟨i4 s (by omega) h2, Nat.le_refl _⟩
    have I0 : SI W m T (fset (fun _ => 134217728) 0 0) 134217728 (27 * 0) (4 * (27 * 0)) := by
      refine ⟨Nat.le_refl _, fun O B a b _ _ _ _ _ q => absurd q (by omega), fun O B i l d _ _ _ _ q => absurd q (by omega), fun O B i _ _ _ _ q => absurd q (by omega), Or.inl rfl, fun O B i q1 q2 q3 q4 q5 q6 => ?_, fset_s⟩
      by_cases z : cod O B i = 0
      · rw [z, fset_s]
        omega
      · rw [fset_n z] at q5
        omega
    have e8 : e.1 47 8 = nI 134217728 := by rw [he, zwr_n (by decide), i3]
    refine wp_for (fun k s => s.1 = nI k ∧ fr LA4 SA4 d s.2 ∧ AS W m T (27 * k) (4 * (27 * k)) s.2) (useW W + 1) (by omega) (fun k w2 s hk hI hw2 => ?_) (fun w2 s hI => ?_) ⟨rfl, fe, _, 134217728, F0, e8, I0⟩
    · obtain ⟨x, υ⟩ := s
      obtain ⟨j1, j2, j3⟩ := hI
      simp only at j1 j2 j3
      subst j1
      have k256 : k < 256 := by omega
      have hAυ := AD_fr hAd j2
      have lt : k &&& (useW W ^^^ 255) < 256 := and_lt k256
      show wp (F_X4_search_60 w2 (nI k) υ) _
      unfold F_X4_search_60 F_X4_search_84
      rw [hAυ.2.1.1, if_neg (by rw [nI_ltp (by omega)]; omega), nd k k256]
      by_cases q : k &&& (useW W ^^^ 255) = 0
      · rw [if_pos (by rw [q]; rfl)]
        refine wp_bd2 (T_advance hW hh hm hT k256 (decide_eq_true q) hAυ j3) (fun _ κ hκ => ?_)
        rw [nm_s, nI_1]
        exact hw2 _ ⟨rfl, j2.tr hκ.1, hκ.2⟩
      · rw [if_neg (by rw [nI_e0 (by omega)]; exact q), nm_s, nI_1]
        obtain ⟨f, bst, a1, a2, a3⟩ := j3
        exact hw2 _ ⟨rfl, j2, f, bst, a1, a2, SI_pass (decide_eq_false q) a3⟩
    · obtain ⟨x, υ⟩ := s
      obtain ⟨j1, j2, f, bst, a1, a2, a3⟩ := hI
      simp only at j1 j2 a1 a2
      subst j1
      have hAυ := AD_fr hAd j2
      have bb := a3.1
      show wp (F_X4_search_60 w2 (nI (useW W + 1)) υ) _
      unfold F_X4_search_60 F_X4_search_90
      rw [hAυ.2.1.1, if_pos (by rw [nI_ltp (by omega)]; omega), a2]
      have fin : SRS W m T f bst υ := ⟨hAυ, a1, a2, SI_all a3⟩
      have ff : fr LS4 SS4 σ υ := fσd.tr (j2.mono (by decide))
      by_cases q : bst < 134217728
      · rw [if_neg (by rw [show (134217728 : Int32) = nI 134217728 from rfl, nI_lep (by omega)]; omega)]
        exact wp_some ⟨ff, f, bst, (bI_t q).symm, fin⟩
      · rw [if_pos (by rw [show (134217728 : Int32) = nI 134217728 from rfl, nI_lep (by omega)]; omega)]
        exact wp_some ⟨ff, f, bst, (bI_f q).symm, fin⟩

