/-! PURE: eggs and tests -/
theorem bI_eq {p q : Prop} : (bI p = bI q) = (p ↔ q) := by
  by_cases a : p
  · by_cases b : q
    · rw [bI_t a, bI_t b]
      exact (eq_true rfl).trans (eq_true ⟨fun _ => b, fun _ => a⟩).symm
    · rw [bI_t a, bI_f b]
      exact (eq_false (by decide)).trans (eq_false (fun r => b (r.mp a))).symm
  · by_cases b : q
    · rw [bI_f a, bI_t b]
      exact (eq_false (by decide)).trans (eq_false (fun r => a (r.mpr b))).symm
    · rw [bI_f a, bI_f b]
      exact (eq_true rfl).trans (eq_true ⟨fun r => absurd r a, fun r => absurd r b⟩).symm
def alkF (te : Nat → Nat) (i j T t : Nat) : Prop := ∀ s, t ≤ s → s < 6 → T.testBit s = true → (te s).testBit i = (te s).testBit j
theorem alkF_6 {te : Nat → Nat} {i j T : Nat} : alkF te i j T 6 := fun s h1 h2 => by omega
theorem alkF_s {te : Nat → Nat} {i j T t : Nat} (ht : t < 6) : alkF te i j T t ↔ (T.testBit t = true → (te t).testBit i = (te t).testBit j) ∧ alkF te i j T (t + 1) := by
  constructor
  · intro h
    exact ⟨fun q => h t (Nat.le_refl t) ht q, fun s h1 h2 => h s (by omega) h2⟩
  · intro ⟨h1, h2⟩ s a b c
    by_cases e : s = t
    · rw [e] at c ⊢
      exact h1 c
    · exact h2 s (by omega) b c
theorem b01_eq {m m' : Nat} {i j : Nat} (hm : m < 256) (hm' : m' < 256) (hi : i < 8) (hj : j < 8) : (((nI m >>> (nI i &&& 31)) &&& (1 : Int32)) = ((nI m' >>> (nI j &&& 31)) &&& (1 : Int32))) = (m.testBit i = m'.testBit j) := by
  rw [bit_01 m hm i hi, bit_01 m' hm' j hj]
  cases m.testBit i <;> cases m'.testBit j <;> decide
def TE (te : Nat → Nat) (σ : zSt) : Prop := ∀ t, t < 6 → te t < 256 ∧ σ.1 66 t = nI (te t) ∧ σ.1 103 t = nI (te t)
theorem T_alkC {te : Nat → Nat} {σ : zSt} (h : TE te σ) {i j T : Nat} (hi : i < 8) (hj : j < 8) (hT : T < 64) : F_X0_isShownAlike (nI i) (nI j) (nI T) σ = some (bI (alkF te i j T 0), σ) := by
  unfold F_X0_isShownAlike F_X0_isShownAlike_0
  refine zfix_out (fun t => (nI t, σ)) (fun t => some (bI (alkF te i j T t), σ)) 6 (by decide) (fun t w ht ih => ?_) (fun w => ?_) 0 (by decide)
  · show F_X0_isShownAlike_3 (nI i) (nI j) (nI T) w (nI t) σ = _
    obtain ⟨a1, a2, a3⟩ := h t ht
    unfold F_X0_isShownAlike_3 F_X0_isShownAlike_47
    simp (disch := omega) only [lit_le, if_neg, nm_s, nI_1, gd_n, nI_cl, a2, bit_is, b01_eq a1 a1 hi hj]
    rw [ih]
    by_cases q : T.testBit t = true
    · rw [if_pos q]
      by_cases r : (te t).testBit i = (te t).testBit j
      · rw [if_pos r, bI_c (alkF_s ht)]
        exact congrArg (fun x => some (x, σ)) (bI_c ⟨fun g => ⟨fun _ => r, g⟩, fun g => g.2⟩)
      · rw [if_neg r, bI_f (fun g => r ((alkF_s ht).mp g |>.1 q))]
    · rw [if_neg q, bI_c (alkF_s ht)]
      exact congrArg (fun x => some (x, σ)) (bI_c ⟨fun g => ⟨fun r => absurd r q, g⟩, fun g => g.2⟩)
  · show F_X0_isShownAlike_3 (nI i) (nI j) (nI T) w (nI 6) σ = _
    unfold F_X0_isShownAlike_3
    simp (disch := omega) only [lit_le, if_pos]
    rw [bI_t alkF_6]
theorem T_alkM {te : Nat → Nat} {σ : zSt} (h : TE te σ) {i j T : Nat} (hi : i < 8) (hj : j < 8) (hT : T < 64) : F_X12_areAlike (nI i) (nI j) (nI T) σ = some (bI (alkF te i j T 0), σ) := by
  unfold F_X12_areAlike F_X12_areAlike_0
  refine zfix_out (fun t => (nI t, σ)) (fun t => some (bI (alkF te i j T t), σ)) 6 (by decide) (fun t w ht ih => ?_) (fun w => ?_) 0 (by decide)
  · show F_X12_areAlike_3 (nI i) (nI j) (nI T) w (nI t) σ = _
    obtain ⟨a1, a2, a3⟩ := h t ht
    unfold F_X12_areAlike_3 F_X12_areAlike_46
    rw [T_has (show T < 256 ∧ t < 8 by omega), bd_s]
    simp (disch := omega) only [lit_le, if_neg, nm_s, nI_1, gd_n, nI_cl, a3]
    rw [T_has ⟨a1, hi⟩, bd_s, a3, T_has ⟨a1, hj⟩, bd_s, ih]
    by_cases q : T.testBit t = true
    · rw [bI_t q, if_neg (by decide)]
      by_cases r : (te t).testBit i = (te t).testBit j
      · rw [if_pos (by rw [r]), bI_c (alkF_s ht)]
        exact congrArg (fun x => some (x, σ)) (bI_c ⟨fun g => ⟨fun _ => r, g⟩, fun g => g.2⟩)
      · rw [if_neg (by rw [bI_eq]; exact fun z => r (Bool.eq_iff_iff.mpr z)), bI_f (fun g => r ((alkF_s ht).mp g |>.1 q))]
    · rw [bI_f q, if_pos rfl, bI_c (alkF_s ht)]
      exact congrArg (fun x => some (x, σ)) (bI_c ⟨fun g => ⟨fun r => absurd r q, g⟩, fun g => g.2⟩)
  · show F_X12_areAlike_3 (nI i) (nI j) (nI T) w (nI 6) σ = _
    unfold F_X12_areAlike_3
    simp (disch := omega) only [lit_le, if_pos]
    rw [bI_t alkF_6]
/-- the told EGGS that are shown as i is -/
noncomputable def alm (E : Nat) (te : Nat → Nat) (i T : Nat) : Nat → Nat
  | 0 => 0
  | j + 1 => alm E te i T j ||| @ite _ (E.testBit j = true ∧ alkF te i j T 0) (Classical.propDecidable _) (2 ^ j) 0
theorem alm_lt (E : Nat) (te : Nat → Nat) (i T : Nat) : ∀ n, n ≤ 8 → alm E te i T n < 256 := by
  intro n
  induction n with
  | zero => intro _; exact Nat.zero_lt_succ 255
  | succ n ih =>
    intro h
    unfold alm
    refine or_lt (ih (by omega)) ?_
    split
    · exact pow_lt8 (by omega)
    · decide
theorem alm_bit (E : Nat) (te : Nat → Nat) (i T : Nat) : ∀ n k, (alm E te i T n).testBit k = true ↔ k < n ∧ E.testBit k = true ∧ alkF te i k T 0 := by
  intro n
  induction n with
  | zero => intro k; simp [alm]
  | succ n ih =>
    intro k
    unfold alm
    rw [Nat.testBit_or, Bool.or_eq_true, ih k]
    by_cases h : E.testBit n = true ∧ alkF te i n T 0
    · rw [if_pos h, Nat.testBit_two_pow, decide_eq_true_eq]
      constructor
      · rintro (⟨a, b⟩ | a)
        · exact ⟨by omega, b⟩
        · rw [← a]
          exact ⟨Nat.lt_succ_self n, h⟩
      · intro ⟨a, b⟩
        by_cases q : n = k
        · exact Or.inr q
        · exact Or.inl ⟨by omega, b⟩
    · rw [if_neg h, Nat.zero_testBit]
      constructor
      · rintro (⟨a, b⟩ | a)
        · exact ⟨by omega, b⟩
        · cases a
      · intro ⟨a, b⟩
        by_cases q : k = n
        · rw [q] at b
          exact absurd b h
        · exact Or.inl ⟨by omega, b⟩
theorem T_sameC {E : Nat} {te : Nat → Nat} {σ : zSt} (hE : E < 256) (e : σ.1 65 0 = nI E) (h : TE te σ) {i T : Nat} (hi : i < 8) (ht : E.testBit i = true) (hT : T < 64) : F_X0_sameAs (nI i) (nI T) σ = some (nI (alm E te i T 8), σ) := by
  have hb : bel (nI T) 64 := bel_t (by omega)
  have E0 : F_X0_sameAs (nI i) (nI T) σ = zfix (F_X0_sameAs_24L (nI i) (nI T)) zlim ((0 : Int32), (0 : Int32), σ) := by
    simp (disch := omega) only [F_X0_sameAs, F_X0_sameAs_0, T_isBelow_2, T_isBelow_3, T_isBelow_4, T_isBelow_6, T_isBelow_8, T_isBelow_9, T_isBelow_10, T_isBelow_12, T_isBelow_16, T_isBelow_17, T_isBelow_31, T_isBelow_64, T_isBelow_256, T_isBelow_65536, T_in_1, T_in_2, T_in_3, T_in_4, T_in_5, T_in_8, T_in_11, T_in_16, T_in_30, T_in_63, T_in_255, T_in_65535, T_isIsland, T_isEight, bd_s, nm_s, bI_0, gd_n, gd_01, nI_cl, nI_add, nI_1, m4, Bool.false_eq_true, and_self, true_and, and_true, true_or, or_true, or_self, false_or, or_false, gd_T, not_true_eq_false, not_false_eq_true, ↓reduceIte, T_isToldE hE hi e, ht, hb]
  rw [E0]
  refine zfix_run (fun j => (nI (alm E te i T j), nI j, σ)) 8 (by decide) (fun j w hj => ?_) (fun w => ?_)
  · show F_X0_sameAs_24 (nI i) (nI T) w _ _ σ = _
    unfold F_X0_sameAs_24
    rw [T_isToldE hE hj e, bd_s]
    simp (disch := omega) only [lit_le, if_neg, T_alkC h hi hj hT, bd_s, nm_s, nI_1, F_X0_sameAs_59, F_X0_sameAs_60, alm]
    by_cases q : E.testBit j = true
    · rw [bI_t q, if_neg (by decide)]
      by_cases r : alkF te i j T 0
      · rw [bI_t r, if_neg (by decide), if_pos ⟨q, r⟩, bit_1 j hj, nI_or]
      · rw [bI_f r, if_pos rfl, if_neg (fun g => r g.2), ← nI_0, nI_or]
    · rw [bI_f q, if_pos rfl, if_neg (fun g => q g.1), ← nI_0, nI_or]
  · show F_X0_sameAs_24 (nI i) (nI T) w _ (nI 8) σ = _
    unfold F_X0_sameAs_24
    simp (disch := omega) only [lit_le, if_pos]
theorem s_alike {n : Nat} {σ : zSt} (hn : n < 512) (hR : Rel n σ) (x1 x2 : Int32) : Both n (F_X11_alike x1 x2) (F_X12_alike x1 x2) σ := by
  obtain ⟨E, te, hE, g1, g2, g3⟩ := hR.2.2.2.2.2.1
  by_cases h1 : bel x1 8
  rotate_left
  · exact Both.no (-1) hn hR (by simp (disch := omega) only [F_X11_alike, F_X11_alike_0, F_X0_sameAs, F_X0_sameAs_0, F_X0_isTold, F_X0_isTold_0, F_X12_alike, F_X12_alike_0, T_isBelow_2, T_isBelow_3, T_isBelow_4, T_isBelow_6, T_isBelow_8, T_isBelow_9, T_isBelow_10, T_isBelow_12, T_isBelow_16, T_isBelow_17, T_isBelow_31, T_isBelow_64, T_isBelow_256, T_isBelow_65536, T_in_1, T_in_2, T_in_3, T_in_4, T_in_5, T_in_8, T_in_11, T_in_16, T_in_30, T_in_63, T_in_255, T_in_65535, T_isIsland, T_isEight, bd_s, nm_s, bI_0, gd_n, gd_01, nI_cl, nI_add, nI_1, m4, Bool.false_eq_true, and_self, true_and, and_true, true_or, or_true, or_self, false_or, or_false, gd_T, not_true_eq_false, not_false_eq_true, ↓reduceIte, h1]) (by simp (disch := omega) only [F_X11_alike, F_X11_alike_0, F_X0_sameAs, F_X0_sameAs_0, F_X0_isTold, F_X0_isTold_0, F_X12_alike, F_X12_alike_0, T_isBelow_2, T_isBelow_3, T_isBelow_4, T_isBelow_6, T_isBelow_8, T_isBelow_9, T_isBelow_10, T_isBelow_12, T_isBelow_16, T_isBelow_17, T_isBelow_31, T_isBelow_64, T_isBelow_256, T_isBelow_65536, T_in_1, T_in_2, T_in_3, T_in_4, T_in_5, T_in_8, T_in_11, T_in_16, T_in_30, T_in_63, T_in_255, T_in_65535, T_isIsland, T_isEight, bd_s, nm_s, bI_0, gd_n, gd_01, nI_cl, nI_add, nI_1, m4, Bool.false_eq_true, and_self, true_and, and_true, true_or, or_true, or_self, false_or, or_false, gd_T, not_true_eq_false, not_false_eq_true, ↓reduceIte, h1])
  obtain ⟨i, hi, rfl⟩ := bel_of h1
  by_cases q : E.testBit i = true
  rotate_left
  · exact Both.no (-1) hn hR (by simp (disch := omega) only [F_X11_alike, F_X11_alike_0, F_X0_sameAs, F_X0_sameAs_0, F_X12_alike, F_X12_alike_0, T_isBelow_2, T_isBelow_3, T_isBelow_4, T_isBelow_6, T_isBelow_8, T_isBelow_9, T_isBelow_10, T_isBelow_12, T_isBelow_16, T_isBelow_17, T_isBelow_31, T_isBelow_64, T_isBelow_256, T_isBelow_65536, T_in_1, T_in_2, T_in_3, T_in_4, T_in_5, T_in_8, T_in_11, T_in_16, T_in_30, T_in_63, T_in_255, T_in_65535, T_isIsland, T_isEight, bd_s, nm_s, bI_0, gd_n, gd_01, nI_cl, nI_add, nI_1, m4, Bool.false_eq_true, and_self, true_and, and_true, true_or, or_true, or_self, false_or, or_false, gd_T, not_true_eq_false, not_false_eq_true, ↓reduceIte, h1, T_isToldE hE hi g1, q, g2, T_has (And.intro hE hi)]) (by simp (disch := omega) only [F_X11_alike, F_X11_alike_0, F_X0_sameAs, F_X0_sameAs_0, F_X12_alike, F_X12_alike_0, T_isBelow_2, T_isBelow_3, T_isBelow_4, T_isBelow_6, T_isBelow_8, T_isBelow_9, T_isBelow_10, T_isBelow_12, T_isBelow_16, T_isBelow_17, T_isBelow_31, T_isBelow_64, T_isBelow_256, T_isBelow_65536, T_in_1, T_in_2, T_in_3, T_in_4, T_in_5, T_in_8, T_in_11, T_in_16, T_in_30, T_in_63, T_in_255, T_in_65535, T_isIsland, T_isEight, bd_s, nm_s, bI_0, gd_n, gd_01, nI_cl, nI_add, nI_1, m4, Bool.false_eq_true, and_self, true_and, and_true, true_or, or_true, or_self, false_or, or_false, gd_T, not_true_eq_false, not_false_eq_true, ↓reduceIte, h1, T_isToldE hE hi g1, q, g2, T_has (And.intro hE hi)])
  by_cases h2 : bel x2 64
  rotate_left
  · exact Both.no (-1) hn hR (by simp (disch := omega) only [F_X11_alike, F_X11_alike_0, F_X0_sameAs, F_X0_sameAs_0, F_X12_alike, F_X12_alike_0, T_isBelow_2, T_isBelow_3, T_isBelow_4, T_isBelow_6, T_isBelow_8, T_isBelow_9, T_isBelow_10, T_isBelow_12, T_isBelow_16, T_isBelow_17, T_isBelow_31, T_isBelow_64, T_isBelow_256, T_isBelow_65536, T_in_1, T_in_2, T_in_3, T_in_4, T_in_5, T_in_8, T_in_11, T_in_16, T_in_30, T_in_63, T_in_255, T_in_65535, T_isIsland, T_isEight, bd_s, nm_s, bI_0, gd_n, gd_01, nI_cl, nI_add, nI_1, m4, Bool.false_eq_true, and_self, true_and, and_true, true_or, or_true, or_self, false_or, or_false, gd_T, not_true_eq_false, not_false_eq_true, ↓reduceIte, h1, h2, T_isToldE hE hi g1, q, g2, T_has (And.intro hE hi)]) (by simp (disch := omega) only [F_X11_alike, F_X11_alike_0, F_X0_sameAs, F_X0_sameAs_0, F_X12_alike, F_X12_alike_0, T_isBelow_2, T_isBelow_3, T_isBelow_4, T_isBelow_6, T_isBelow_8, T_isBelow_9, T_isBelow_10, T_isBelow_12, T_isBelow_16, T_isBelow_17, T_isBelow_31, T_isBelow_64, T_isBelow_256, T_isBelow_65536, T_in_1, T_in_2, T_in_3, T_in_4, T_in_5, T_in_8, T_in_11, T_in_16, T_in_30, T_in_63, T_in_255, T_in_65535, T_isIsland, T_isEight, bd_s, nm_s, bI_0, gd_n, gd_01, nI_cl, nI_add, nI_1, m4, Bool.false_eq_true, and_self, true_and, and_true, true_or, or_true, or_self, false_or, or_false, gd_T, not_true_eq_false, not_false_eq_true, ↓reduceIte, h1, h2, T_isToldE hE hi g1, q, g2, T_has (And.intro hE hi)])
  obtain ⟨T, hT, rfl⟩ := bel_of h2
  refine Both.no (nI (alm E te i T 8)) hn hR (by simp (disch := omega) only [F_X11_alike, F_X11_alike_0, T_isBelow_2, T_isBelow_3, T_isBelow_4, T_isBelow_6, T_isBelow_8, T_isBelow_9, T_isBelow_10, T_isBelow_12, T_isBelow_16, T_isBelow_17, T_isBelow_31, T_isBelow_64, T_isBelow_256, T_isBelow_65536, T_in_1, T_in_2, T_in_3, T_in_4, T_in_5, T_in_8, T_in_11, T_in_16, T_in_30, T_in_63, T_in_255, T_in_65535, T_isIsland, T_isEight, bd_s, nm_s, bI_0, gd_n, gd_01, nI_cl, nI_add, nI_1, m4, Bool.false_eq_true, and_self, true_and, and_true, true_or, or_true, or_self, false_or, or_false, gd_T, not_true_eq_false, not_false_eq_true, ↓reduceIte, T_sameC hE g1 g3 hi q hT]) ?_
  have E0 : F_X12_alike (nI i) (nI T) σ = zfix (F_X12_alike_35L (nI i) (nI T)) zlim ((0 : Int32), (0 : Int32), σ) := by
    simp (disch := omega) only [F_X12_alike, F_X12_alike_0, T_isBelow_2, T_isBelow_3, T_isBelow_4, T_isBelow_6, T_isBelow_8, T_isBelow_9, T_isBelow_10, T_isBelow_12, T_isBelow_16, T_isBelow_17, T_isBelow_31, T_isBelow_64, T_isBelow_256, T_isBelow_65536, T_in_1, T_in_2, T_in_3, T_in_4, T_in_5, T_in_8, T_in_11, T_in_16, T_in_30, T_in_63, T_in_255, T_in_65535, T_isIsland, T_isEight, bd_s, nm_s, bI_0, gd_n, gd_01, nI_cl, nI_add, nI_1, m4, Bool.false_eq_true, and_self, true_and, and_true, true_or, or_true, or_self, false_or, or_false, gd_T, not_true_eq_false, not_false_eq_true, ↓reduceIte, h1, h2, q, g2, T_has (And.intro hE hi)]
  rw [E0]
  refine zfix_run (fun j => (nI (alm E te i T j), nI j, σ)) 8 (by decide) (fun j w hj => ?_) (fun w => ?_)
  · show F_X12_alike_35 (nI i) (nI T) w _ _ σ = _
    unfold F_X12_alike_35
    rw [g2, T_has ⟨hE, hj⟩, bd_s, T_alkM g3 hi hj hT, bd_s]
    simp (disch := omega) only [lit_le, if_neg, nm_s, nI_1, F_X12_alike_72, alm]
    by_cases q : E.testBit j = true
    · rw [bI_t q, if_neg (by decide)]
      by_cases r : alkF te i j T 0
      · rw [bI_t r, if_neg (by decide), if_pos ⟨q, r⟩, bit_1 j hj, nI_or]
      · rw [bI_f r, if_pos rfl, if_neg (fun g => r g.2), Nat.or_zero]
    · rw [bI_f q, if_pos rfl, if_neg (fun g => q g.1), Nat.or_zero]
  · show F_X12_alike_35 (nI i) (nI T) w _ (nI 8) σ = _
    unfold F_X12_alike_35
    simp (disch := omega) only [lit_le, if_pos]
theorem alkF_sym {te : Nat → Nat} {i j T : Nat} (h : alkF te i j T 0) : alkF te j i T 0 := fun s a b c => (h s a b c).symm
/-- all are told apart -/
def apt (E : Nat) (te : Nat → Nat) (T i : Nat) : Prop := ∀ a, i ≤ a → a < 8 → ∀ b, b < 8 → E.testBit a = true → E.testBit b = true → alkF te a b T 0 → a = b
theorem alm_one {E : Nat} {te : Nat → Nat} {i T : Nat} (hi : i < 8) (ht : E.testBit i = true) : alm E te i T 8 = 2 ^ i ↔ ∀ b, b < 8 → E.testBit b = true → alkF te i b T 0 → i = b := by
  constructor
  · intro h b hb h1 h2
    have := (alm_bit E te i T 8 b).mpr ⟨hb, h1, h2⟩
    rw [h, Nat.testBit_two_pow, decide_eq_true_eq] at this
    exact this
  · intro h
    apply Nat.eq_of_testBit_eq
    intro k
    rw [Nat.testBit_two_pow]
    by_cases q : i = k
    · subst q
      rw [decide_eq_true rfl]
      exact (alm_bit E te i T 8 i).mpr ⟨hi, ht, fun s _ _ _ => rfl⟩
    · rw [decide_eq_false q]
      cases r : (alm E te i T 8).testBit k with
      | false => rfl
      | true =>
        obtain ⟨a, b, c⟩ := (alm_bit E te i T 8 k).mp r
        exact absurd (h k a b c) q
theorem T_aptC {E : Nat} {te : Nat → Nat} {σ : zSt} (hE : E < 256) (e : σ.1 65 0 = nI E) (h : TE te σ) {T : Nat} (hT : T < 64) : F_X0_areApart (nI T) σ = some (bI (apt E te T 0), σ) := by
  unfold F_X0_areApart F_X0_areApart_0
  refine zfix_out (fun i => (nI i, σ)) (fun i => some (bI (apt E te T i), σ)) 8 (by decide) (fun i w hi ih => ?_) (fun w => ?_) 0 (by decide)
  · show F_X0_areApart_2 (nI T) w (nI i) σ = _
    unfold F_X0_areApart_2 F_X0_areApart_30
    rw [T_isToldE hE hi e, bd_s]
    simp (disch := omega) only [lit_le, if_neg, nm_s, nI_1]
    rw [ih]
    by_cases q : E.testBit i = true
    · rw [bI_t q, if_neg (by decide), T_sameC hE e h hi q hT, bd_s, bit_1 i hi]
      have hl := alm_lt E te i T 8 (Nat.le_refl 8)
      have hp := pow_lt8 hi
      by_cases r : alm E te i T 8 = 2 ^ i
      · rw [if_pos (by rw [r])]
        have e9 : apt E te T (i + 1) ↔ apt E te T i := by
          refine ⟨fun g a ha hb b hb2 h1 h2 h3 => ?_, fun g a ha => g a (by omega)⟩
          by_cases z : a = i
          · subst z
            exact (alm_one hi q).mp r b hb2 h2 h3
          · exact g a (by omega) hb b hb2 h1 h2 h3
        rw [ih, bI_c e9]
      · rw [if_neg (by rw [nI_eqp (by omega)]; exact r), bI_f (fun g => r ((alm_one hi q).mpr (fun b hb h1 h2 => g i (Nat.le_refl i) hi b hb q h1 h2)))]
    · rw [bI_f q, if_pos rfl]
      have e9 : apt E te T (i + 1) ↔ apt E te T i := by
        refine ⟨fun g a ha hb b hb2 h1 h2 h3 => ?_, fun g a ha => g a (by omega)⟩
        by_cases z : a = i
        · rw [z] at h1
          exact absurd h1 q
        · exact g a (by omega) hb b hb2 h1 h2 h3
      rw [bI_c e9]
  · show F_X0_areApart_2 (nI T) w (nI 8) σ = _
    unfold F_X0_areApart_2
    simp (disch := omega) only [lit_le, if_pos]
    rw [bI_t (p := apt E te T 8) (fun a ha hb => by omega)]
def aptM (E : Nat) (te : Nat → Nat) (T i j : Nat) : Prop := (i < 8 → ∀ b, j ≤ b → b < i → E.testBit i = true → E.testBit b = true → ¬ alkF te i b T 0) ∧ ∀ a, i < a → a < 8 → ∀ b, b < a → E.testBit a = true → E.testBit b = true → ¬ alkF te a b T 0
theorem T_aptM {E : Nat} {te : Nat → Nat} {σ : zSt} (hE : E < 256) (e : σ.1 69 59 = nI E) (h : TE te σ) {T : Nat} (hT : T < 64) : F_X12_tellsAll (nI T) σ = some (bI (apt E te T 0), σ) := by
  unfold F_X12_tellsAll F_X12_tellsAll_0
  have key := zfix_out (body := F_X12_tellsAll_2L (nI T)) (fun i => (nI i, σ)) (fun i => some (bI (aptM E te T i 0), σ)) 8 (by decide) (fun i w hi ih => ?_) (fun w => ?_) 0 (by decide)
  · refine key.trans (congrArg (fun x => some (x, σ)) (bI_c ⟨fun g a ha hb b hb2 h1 h2 h3 => ?_, fun g => ⟨fun _ b _ hb => by omega, fun a ha hb b hb2 h1 h2 h3 => ?_⟩⟩))
    · rcases Nat.lt_trichotomy a b with z | z | z
      · exact absurd (alkF_sym h3) (g.2 b (by omega) hb2 a z h2 h1)
      · exact z
      · exact absurd h3 (g.2 a (by omega) hb b z h1 h2)
    · have := g a (by omega) hb b (by omega) h1 h2 h3
      omega
  · show F_X12_tellsAll_2 (nI T) w (nI i) σ = _
    unfold F_X12_tellsAll_2
    simp (disch := omega) only [lit_le, if_neg]
    refine zfix_out (fun j => (nI j, σ)) (fun j => some (bI (aptM E te T i j), σ)) i (by omega) (fun j w2 hj ih2 => ?_) (fun w2 => ?_) 0 (by omega)
    · show F_X12_tellsAll_10 w (nI T) (nI i) w2 (nI j) σ = _
      unfold F_X12_tellsAll_10 F_X12_tellsAll_49
      rw [e, T_has ⟨hE, hi⟩, bd_s, e, T_has ⟨hE, (show j < 8 by omega)⟩, bd_s, T_alkM h hi (by omega) hT, bd_s]
      simp (disch := omega) only [nI_lep, if_neg, nm_s, nI_1]
      rw [ih2]
      by_cases q : E.testBit i = true
      · rw [bI_t q, if_neg (by decide)]
        by_cases r : E.testBit j = true
        · rw [bI_t r, if_neg (by decide)]
          by_cases z : alkF te i j T 0
          · rw [bI_t z, if_neg (by decide), bI_f (fun g => g.1 hi j (Nat.le_refl j) hj q r z)]
          · rw [bI_f z, if_pos rfl]
            refine congrArg (fun x => some (x, σ)) (bI_c ⟨fun g => ⟨fun _ b h1 h2 h3 h4 => ?_, g.2⟩, fun g => ⟨fun _ b h1 => g.1 hi b (by omega), g.2⟩⟩)
            by_cases y : b = j
            · rw [y]
              exact z
            · exact g.1 hi b (by omega) h2 h3 h4
        · rw [bI_f r, if_pos rfl]
          refine congrArg (fun x => some (x, σ)) (bI_c ⟨fun g => ⟨fun _ b h1 h2 h3 h4 => ?_, g.2⟩, fun g => ⟨fun _ b h1 => g.1 hi b (by omega), g.2⟩⟩)
          by_cases y : b = j
          · rw [y] at h4
            exact absurd h4 r
          · exact g.1 hi b (by omega) h2 h3 h4
      · rw [bI_f q, if_pos rfl]
        refine congrArg (fun x => some (x, σ)) (bI_c ⟨fun g => ⟨fun _ b h1 h2 h3 h4 => absurd h3 q, g.2⟩, fun g => ⟨fun _ b h1 => g.1 hi b (by omega), g.2⟩⟩)
    · show F_X12_tellsAll_10 w (nI T) (nI i) w2 (nI i) σ = _
      unfold F_X12_tellsAll_10 F_X12_tellsAll_55
      simp (disch := omega) only [nI_lep, Nat.le_refl, ↓reduceIte, nm_s, nI_1]
      rw [ih]
      have e9 : aptM E te T (i + 1) 0 ↔ aptM E te T i i := by
        refine ⟨fun g => ⟨fun _ b h1 h2 => by omega, fun a ha hb b hb2 => ?_⟩, fun g => ⟨fun h8 b _ hb => g.2 (i + 1) (Nat.lt_succ_self i) h8 b hb, fun a ha => g.2 a (by omega)⟩⟩
        by_cases y : a = i + 1
        · subst y
          exact g.1 hb b (Nat.zero_le b) hb2
        · exact g.2 a (by omega) hb b hb2
      rw [bI_c e9]
  · show F_X12_tellsAll_2 (nI T) w (nI 8) σ = _
    unfold F_X12_tellsAll_2
    simp (disch := omega) only [lit_le, if_pos]
    rw [bI_t ⟨fun h8 => absurd h8 (by decide), fun a ha hb => by omega⟩]
/-- the fewest TESTS so far -/
noncomputable def fwt (E : Nat) (te : Nat → Nat) : Nat → Option Nat
  | 0 => none
  | T + 1 => match fwt E te T with
    | none => @ite _ (apt E te T 0) (Classical.propDecidable _) (some T) none
    | some b => @ite _ (pop8 T < pop8 b ∧ apt E te T 0) (Classical.propDecidable _) (some T) (some b)
theorem fwt_lt {E : Nat} {te : Nat → Nat} : ∀ T b, fwt E te T = some b → b < T := by
  intro T
  induction T with
  | zero => intro b h; cases h
  | succ T ih =>
    intro b h
    unfold fwt at h
    cases q : fwt E te T with
    | none =>
      rw [q] at h
      simp only at h
      split at h
      · cases h
        exact Nat.lt_succ_self T
      · cases h
    | some c =>
      rw [q] at h
      simp only at h
      split at h
      · cases h
        exact Nat.lt_succ_self T
      · cases h
        exact Nat.lt_succ_of_lt (ih _ q)
theorem s_apart {n : Nat} {σ : zSt} (hn : n < 512) (hR : Rel n σ) (x1 : Int32) : Both n (F_X11_apart x1) (F_X12_apart x1) σ := by
  obtain ⟨E, te, hE, g1, g2, g3⟩ := hR.2.2.2.2.2.1
  by_cases h1 : bel x1 2
  rotate_left
  · exact Both.no (-1) hn hR (by simp (disch := omega) only [F_X11_apart, F_X11_apart_0, F_X12_apart, F_X12_apart_0, T_isBelow_2, T_isBelow_3, T_isBelow_4, T_isBelow_6, T_isBelow_8, T_isBelow_9, T_isBelow_10, T_isBelow_12, T_isBelow_16, T_isBelow_17, T_isBelow_31, T_isBelow_64, T_isBelow_256, T_isBelow_65536, T_in_1, T_in_2, T_in_3, T_in_4, T_in_5, T_in_8, T_in_11, T_in_16, T_in_30, T_in_63, T_in_255, T_in_65535, T_isIsland, T_isEight, bd_s, nm_s, bI_0, gd_n, gd_01, nI_cl, nI_add, nI_1, m4, Bool.false_eq_true, and_self, true_and, and_true, true_or, or_true, or_self, false_or, or_false, gd_T, not_true_eq_false, not_false_eq_true, ↓reduceIte, h1]) (by simp (disch := omega) only [F_X11_apart, F_X11_apart_0, F_X12_apart, F_X12_apart_0, T_isBelow_2, T_isBelow_3, T_isBelow_4, T_isBelow_6, T_isBelow_8, T_isBelow_9, T_isBelow_10, T_isBelow_12, T_isBelow_16, T_isBelow_17, T_isBelow_31, T_isBelow_64, T_isBelow_256, T_isBelow_65536, T_in_1, T_in_2, T_in_3, T_in_4, T_in_5, T_in_8, T_in_11, T_in_16, T_in_30, T_in_63, T_in_255, T_in_65535, T_isIsland, T_isEight, bd_s, nm_s, bI_0, gd_n, gd_01, nI_cl, nI_add, nI_1, m4, Bool.false_eq_true, and_self, true_and, and_true, true_or, or_true, or_self, false_or, or_false, gd_T, not_true_eq_false, not_false_eq_true, ↓reduceIte, h1])
  have hp : ∀ m, pop8 m ≤ 8 := fun m => popn_le m 8
  refine Both.no (match fwt E te 64 with | none => -2 | some b => if x1 = 0 then nI (pop8 b) else nI b) hn hR ?_ ?_
  · have E0 : F_X11_apart x1 σ = zfix (F_X0_fewestTests_4L x1) zlim ((-1 : Int32), (0 : Int32), σ) := by
      simp (disch := omega) only [F_X11_apart, F_X11_apart_0, F_X0_fewestTests, F_X0_fewestTests_0, T_isBelow_2, T_isBelow_3, T_isBelow_4, T_isBelow_6, T_isBelow_8, T_isBelow_9, T_isBelow_10, T_isBelow_12, T_isBelow_16, T_isBelow_17, T_isBelow_31, T_isBelow_64, T_isBelow_256, T_isBelow_65536, T_in_1, T_in_2, T_in_3, T_in_4, T_in_5, T_in_8, T_in_11, T_in_16, T_in_30, T_in_63, T_in_255, T_in_65535, T_isIsland, T_isEight, bd_s, nm_s, bI_0, gd_n, gd_01, nI_cl, nI_add, nI_1, m4, Bool.false_eq_true, and_self, true_and, and_true, true_or, or_true, or_self, false_or, or_false, gd_T, not_true_eq_false, not_false_eq_true, ↓reduceIte, h1]
      cases zfix (F_X0_fewestTests_4L x1) zlim ((-1 : Int32), (0 : Int32), σ) <;> rfl
    rw [E0]
    refine zfix_run (fun T => (e1 (fwt E te T), nI T, σ)) 64 (by decide) (fun T w hT => ?_) (fun w => ?_)
    · show F_X0_fewestTests_4 x1 w _ (nI T) σ = w (e1 (fwt E te (T + 1)), _, σ)
      unfold F_X0_fewestTests_4
      rw [T_bitCount (show T < 256 by omega), bd_s]
      simp (disch := omega) only [lit_le, if_neg]
      cases q : fwt E te T with
      | none =>
        simp only [e1, ↓reduceIte, F_X0_fewestTests_26, F_X0_fewestTests_31, F_X0_fewestTests_48, d10, T_aptC hE g1 g3 hT, bd_s, nm_s, nI_1, fwt, q]
        by_cases r : apt E te T 0
        · rw [bI_t r, if_neg (by decide), if_pos r]
        · rw [bI_f r, if_pos rfl, if_neg r]
      | some b =>
        have hb := fwt_lt T b q
        have a1 := hp T
        have a2 := hp b
        simp (disch := omega) only [e1, nI_ne_m1, ↓reduceIte, T_bitCount (show b < 256 by omega), F_X0_fewestTests_48, T_aptC hE g1 g3 hT, bd_s, nm_s, nI_1, fwt, q, nI_lep]
        by_cases z : pop8 b ≤ pop8 T
        · rw [if_pos z, if_pos rfl, if_neg (fun g => by omega)]
        · rw [if_neg z, if_neg (by decide)]
          by_cases r : apt E te T 0
          · rw [bI_t r, if_neg (by decide), if_pos ⟨by omega, r⟩]
          · rw [bI_f r, if_pos rfl, if_neg (fun g => r g.2)]
    · show F_X0_fewestTests_4 x1 w _ (nI 64) σ = _
      unfold F_X0_fewestTests_4 F_X0_fewestTests_54
      simp (disch := omega) only [lit_le, if_pos]
      cases q : fwt E te 64 with
      | none => simp only [e1, ↓reduceIte]
      | some b =>
        have hb := fwt_lt 64 b q
        simp (disch := omega) only [e1, nI_ne_m1, ↓reduceIte, T_bitCount (show b < 256 by omega), bd_s]
        split <;> rfl
  · have E0 : F_X12_apart x1 σ = zfix (F_X12_apart_15L x1) zlim ((-1 : Int32), (0 : Int32), σ) := by
      simp (disch := omega) only [F_X12_apart, F_X12_apart_0, T_isBelow_2, T_isBelow_3, T_isBelow_4, T_isBelow_6, T_isBelow_8, T_isBelow_9, T_isBelow_10, T_isBelow_12, T_isBelow_16, T_isBelow_17, T_isBelow_31, T_isBelow_64, T_isBelow_256, T_isBelow_65536, T_in_1, T_in_2, T_in_3, T_in_4, T_in_5, T_in_8, T_in_11, T_in_16, T_in_30, T_in_63, T_in_255, T_in_65535, T_isIsland, T_isEight, bd_s, nm_s, bI_0, gd_n, gd_01, nI_cl, nI_add, nI_1, m4, Bool.false_eq_true, and_self, true_and, and_true, true_or, or_true, or_self, false_or, or_false, gd_T, not_true_eq_false, not_false_eq_true, ↓reduceIte, h1]
    rw [E0]
    refine zfix_run (fun T => (e1 (fwt E te T), nI T, σ)) 64 (by decide) (fun T w hT => ?_) (fun w => ?_)
    · show F_X12_apart_15 x1 w _ (nI T) σ = w (e1 (fwt E te (T + 1)), _, σ)
      unfold F_X12_apart_15
      rw [T_bits (show T < 256 by omega), bd_s]
      simp (disch := omega) only [lit_le, if_neg]
      cases q : fwt E te T with
      | none =>
        simp only [e1, ↓reduceIte, F_X12_apart_37, F_X12_apart_47, d10, T_aptM hE g2 g3 hT, bd_s, nm_s, nI_1, fwt, q]
        by_cases r : apt E te T 0
        · rw [bI_t r, if_neg (by decide), if_pos r]
        · rw [bI_f r, if_pos rfl, if_neg r]
      | some b =>
        have hb := fwt_lt T b q
        have a1 := hp T
        have a2 := hp b
        simp (disch := omega) only [e1, nI_ne_m1, ↓reduceIte, T_bits (show b < 256 by omega), F_X12_apart_37, F_X12_apart_47, T_aptM hE g2 g3 hT, bd_s, nm_s, nI_1, fwt, q, nI_lep]
        by_cases z : pop8 b ≤ pop8 T
        · rw [if_pos z, if_neg (fun g => by omega)]
        · rw [if_neg z]
          by_cases r : apt E te T 0
          · rw [bI_t r, if_neg (by decide), if_pos ⟨by omega, r⟩]
          · rw [bI_f r, if_pos rfl, if_neg (fun g => r g.2)]
    · show F_X12_apart_15 x1 w _ (nI 64) σ = _
      unfold F_X12_apart_15 F_X12_apart_53
      simp (disch := omega) only [lit_le, if_pos]
      cases q : fwt E te 64 with
      | none => simp only [e1, ↓reduceIte]
      | some b =>
        have hb := fwt_lt 64 b q
        simp (disch := omega) only [e1, nI_ne_m1, ↓reduceIte, T_bits (show b < 256 by omega), bd_s]
        split <;> rfl
