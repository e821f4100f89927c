/-! PURE: eggs and tests -/
theorem bI_eq {p q : Prop} : (bI p = bI q) = (p ↔ q) := by
  by_cases a : p
  · by_cases b : q
    · rw [bI_t a, bI_t b]
      exact (eq_true rfl).trans (eq_true ⟨fun _ => b, fun _ => a⟩).symm
    · rw [bI_t a, bI_f b]
      exact (eq_false (by decide)).trans (eq_false (fun r => b (r.mp a))).symm
  · by_cases b : q
    · rw [bI_f a, bI_t b]
      exact (eq_false (by decide)).trans (eq_false (fun r => a (r.mpr b))).symm
    · rw [bI_f a, bI_f b]
      exact (eq_true rfl).trans (eq_true ⟨fun r => absurd r a, fun r => absurd r b⟩).symm
def alkF (te : Nat → Nat) (i j T t : Nat) : Prop := ∀ s, t ≤ s → s < 6 → T.testBit s = true → (te s).testBit i = (te s).testBit j
theorem alkF_6 {te : Nat → Nat} {i j T : Nat} : alkF te i j T 6 := fun s h1 h2 => by omega
theorem alkF_s {te : Nat → Nat} {i j T t : Nat} (ht : t < 6) : alkF te i j T t ↔ (T.testBit t = true → (te t).testBit i = (te t).testBit j) ∧ alkF te i j T (t + 1) := by
  constructor
  · intro h
    exact ⟨fun q => h t (Nat.le_refl t) ht q, fun s h1 h2 => h s (by omega) h2⟩
  · intro ⟨h1, h2⟩ s a b c
    by_cases e : s = t
    · rw [e] at c ⊢
      exact h1 c
    · exact h2 s (by omega) b c
theorem b01_eq {m m' : Nat} {i j : Nat} (hm : m < 256) (hm' : m' < 256) (hi : i < 8) (hj : j < 8) : (((nI m >>> (nI i &&& 31)) &&& (1 : Int32)) = ((nI m' >>> (nI j &&& 31)) &&& (1 : Int32))) = (m.testBit i = m'.testBit j) := by
  rw [bit_01 m hm i hi, bit_01 m' hm' j hj]
  cases m.testBit i <;> cases m'.testBit j <;> decide
def TE (te : Nat → Nat) (σ : zSt) : Prop := ∀ t, t < 6 → te t < 256 ∧ σ.1 66 t = nI (te t) ∧ σ.1 103 t = nI (te t)
theorem T_alkC {te : Nat → Nat} {σ : zSt} (h : TE te σ) {i j T : Nat} (hi : i < 8) (hj : j < 8) (hT : T < 64) : F_X0_isShownAlike (nI i) (nI j) (nI T) σ = some (bI (alkF te i j T 0), σ) := by
  unfold F_X0_isShownAlike F_X0_isShownAlike_0
  refine zfix_out (fun t => (nI t, σ)) (fun t => some (bI (alkF te i j T t), σ)) 6 (by decide) (fun t w ht ih => ?_) (fun w => ?_) 0 (by decide)
  · show F_X0_isShownAlike_3 (nI i) (nI j) (nI T) w (nI t) σ = _
    obtain ⟨a1, a2, a3⟩ := h t ht
    unfold F_X0_isShownAlike_3 F_X0_isShownAlike_47
    simp (disch := omega) only [lit_le, if_neg, nm_s, nI_1, gd_n, nI_cl, a2, bit_is, b01_eq a1 a1 hi hj]
    rw [ih]
    by_cases q : T.testBit t = true
    · rw [if_pos q]
      by_cases r : (te t).testBit i = (te t).testBit j
      · rw [if_pos r, bI_c (alkF_s ht)]
        exact congrArg (fun x => some (x, σ)) (bI_c ⟨fun g => ⟨fun _ => r, g⟩, fun g => g.2⟩)
      · rw [if_neg r, bI_f (fun g => r ((alkF_s ht).mp g |>.1 q))]
    · rw [if_neg q, bI_c (alkF_s ht)]
      exact congrArg (fun x => some (x, σ)) (bI_c ⟨fun g => ⟨fun r => absurd r q, g⟩, fun g => g.2⟩)
  · show F_X0_isShownAlike_3 (nI i) (nI j) (nI T) w (nI 6) σ = _
    unfold F_X0_isShownAlike_3
    simp (disch := omega) only [lit_le, if_pos]
    rw [bI_t alkF_6]
theorem T_alkM {te : Nat → Nat} {σ : zSt} (h : TE te σ) {i j T : Nat} (hi : i < 8) (hj : j < 8) (hT : T < 64) : F_X12_areAlike (nI i) (nI j) (nI T) σ = some (bI (alkF te i j T 0), σ) := by
  unfold F_X12_areAlike F_X12_areAlike_0
  refine zfix_out (fun t => (nI t, σ)) (fun t => some (bI (alkF te i j T t), σ)) 6 (by decide) (fun t w ht ih => ?_) (fun w => ?_) 0 (by decide)
  · show F_X12_areAlike_3 (nI i) (nI j) (nI T) w (nI t) σ = _
    obtain ⟨a1, a2, a3⟩ := h t ht
    unfold F_X12_areAlike_3 F_X12_areAlike_46
    rw [T_has (show T < 256 ∧ t < 8 by omega), bd_s]
    simp (disch := omega) only [lit_le, if_neg, nm_s, nI_1, gd_n, nI_cl, a3]
    rw [T_has ⟨a1, hi⟩, bd_s, a3, T_has ⟨a1, hj⟩, bd_s, ih]
    by_cases q : T.testBit t = true
    · rw [bI_t q, if_neg (by decide)]
      by_cases r : (te t).testBit i = (te t).testBit j
      · rw [if_pos (by rw [r]), bI_c (alkF_s ht)]
        exact congrArg (fun x => some (x, σ)) (bI_c ⟨fun g => ⟨fun _ => r, g⟩, fun g => g.2⟩)
      · rw [if_neg (by rw [bI_eq]; exact fun z => r (Bool.eq_iff_iff.mpr z)), bI_f (fun g => r ((alkF_s ht).mp g |>.1 q))]
    · rw [bI_f q, if_pos rfl, bI_c (alkF_s ht)]
      exact congrArg (fun x => some (x, σ)) (bI_c ⟨fun g => ⟨fun r => absurd r q, g⟩, fun g => g.2⟩)
  · show F_X12_areAlike_3 (nI i) (nI j) (nI T) w (nI 6) σ = _
    unfold F_X12_areAlike_3
    simp (disch := omega) only [lit_le, if_pos]
    rw [bI_t alkF_6]
/-- the told EGGS that are shown as i is -/
noncomputable def alm (E : Nat) (te : Nat → Nat) (i T : Nat) : Nat → Nat
  | 0 => 0
  | j + 1 => alm E te i T j ||| @ite _ (E.testBit j = true ∧ alkF te i j T 0) (Classical.propDecidable _) (2 ^ j) 0
theorem alm_lt (E : Nat) (te : Nat → Nat) (i T : Nat) : ∀ n, n ≤ 8 → alm E te i T n < 256 := by
  intro n
  induction n with
  | zero => intro _; exact Nat.zero_lt_succ 255
  | succ n ih =>
    intro h
    unfold alm
    refine or_lt (ih (by omega)) ?_
    split
    · exact pow_lt8 (by omega)
    · decide
theorem alm_bit (E : Nat) (te : Nat → Nat) (i T : Nat) : ∀ n k, (alm E te i T n).testBit k = true ↔ k < n ∧ E.testBit k = true ∧ alkF te i k T 0 := by
  intro n
  induction n with
  | zero => intro k; simp [alm]
  | succ n ih =>
    intro k
    unfold alm
    rw [Nat.testBit_or, Bool.or_eq_true, ih k]
    by_cases h : E.testBit n = true ∧ alkF te i n T 0
    · rw [if_pos h, Nat.testBit_two_pow, decide_eq_true_eq]
      constructor
      · rintro (⟨a, b⟩ | a)
        · exact ⟨by omega, b⟩
        · rw [← a]
          exact ⟨Nat.lt_succ_self n, h⟩
      · intro ⟨a, b⟩
        by_cases q : n = k
        · exact Or.inr q
        · exact Or.inl ⟨by omega, b⟩
    · rw [if_neg h, Nat.zero_testBit]
      constructor
      · rintro (⟨a, b⟩ | a)
        · exact ⟨by omega, b⟩
        · cases a
      · intro ⟨a, b⟩
        by_cases q : k = n
        · rw [q] at b
          exact absurd b h
        · exact Or.inl ⟨by omega, b⟩
theorem T_sameC {E : Nat} {te : Nat → Nat} {σ : zSt} (hE : E < 256) (e : σ.1 65 0 = nI E) (h : TE te σ) {i T : Nat} (hi : i < 8) (ht : E.testBit i = true) (hT : T < 64) : F_X0_sameAs (nI i) (nI T) σ = some (nI (alm E te i T 8), σ) := by
  have hb : bel (nI T) 64 := bel_t (by omega)
  have E0 : F_X0_sameAs (nI i) (nI T) σ = zfix (F_X0_sameAs_24L (nI i) (nI T)) zlim ((0 : Int32), (0 : Int32), σ) := by
    simp (disch := omega) only [F_X0_sameAs, F_X0_sameAs_0, T_isBelow_2, T_isBelow_3, T_isBelow_4, T_isBelow_6, T_isBelow_8, T_isBelow_9, T_isBelow_10, T_isBelow_12, T_isBelow_16, T_isBelow_17, T_isBelow_31, T_isBelow_64, T_isBelow_256, T_isBelow_65536, T_in_1, T_in_2, T_in_3, T_in_4, T_in_5, T_in_8, T_in_11, T_in_16, T_in_30, T_in_63, T_in_255, T_in_65535, T_isIsland, T_isEight, bd_s, nm_s, bI_0, gd_n, gd_01, nI_cl, nI_add, nI_1, m4, Bool.false_eq_true, and_self, true_and, and_true, true_or, or_true, or_self, false_or, or_false, gd_T, not_true_eq_false, not_false_eq_true, ↓reduceIte, T_isToldE hE hi e, ht, hb]
  rw [E0]
  refine zfix_run (fun j => (nI (alm E te i T j), nI j, σ)) 8 (by decide) (fun j w hj => ?_) (fun w => ?_)
  · show F_X0_sameAs_24 (nI i) (nI T) w _ _ σ = _
    unfold F_X0_sameAs_24
    rw [T_isToldE hE hj e, bd_s]
    simp (disch := omega) only [lit_le, if_neg, T_alkC h hi hj hT, bd_s, nm_s, nI_1, F_X0_sameAs_59, F_X0_sameAs_60, alm]
    by_cases q : E.testBit j = true
    · rw [bI_t q, if_neg (by decide)]
      by_cases r : alkF te i j T 0
      · rw [bI_t r, if_neg (by decide), if_pos ⟨q, r⟩, bit_1 j hj, nI_or]
      · rw [bI_f r, if_pos rfl, if_neg (fun g => r g.2), ← nI_0, nI_or]
    · rw [bI_f q, if_pos rfl, if_neg (fun g => q g.1), ← nI_0, nI_or]
  · show F_X0_sameAs_24 (nI i) (nI T) w _ (nI 8) σ = _
    unfold F_X0_sameAs_24
    simp (disch := omega) only [lit_le, if_pos]
theorem s_alike {n : Nat} {σ : zSt} (hn : n < 512) (hR : Rel n σ) (x1 x2 : Int32) : Both n (F_X11_alike x1 x2) (F_X12_alike x1 x2) σ := by
  obtain ⟨E, te, hE, g1, g2, g3⟩ := hR.2.2.2.2.2.1
  by_cases h1 : bel x1 8
  rotate_left
  · exact Both.no (-1) hn hR (by simp (disch := omega) only [F_X11_alike, F_X11_alike_0, F_X0_sameAs, F_X0_sameAs_0, F_X0_isTold, F_X0_isTold_0, F_X12_alike, F_X12_alike_0, T_isBelow_2, T_isBelow_3, T_isBelow_4, T_isBelow_6, T_isBelow_8, T_isBelow_9, T_isBelow_10, T_isBelow_12, T_isBelow_16, T_isBelow_17, T_isBelow_31, T_isBelow_64, T_isBelow_256, T_isBelow_65536, T_in_1, T_in_2, T_in_3, T_in_4, T_in_5, T_in_8, T_in_11, T_in_16, T_in_30, T_in_63, T_in_255, T_in_65535, T_isIsland, T_isEight, bd_s, nm_s, bI_0, gd_n, gd_01, nI_cl, nI_add, nI_1, m4, Bool.false_eq_true, and_self, true_and, and_true, true_or, or_true, or_self, false_or, or_false, gd_T, not_true_eq_false, not_false_eq_true, ↓reduceIte, h1]) (by simp (disch := omega) only [F_X11_alike, F_X11_alike_0, F_X0_sameAs, F_X0_sameAs_0, F_X0_isTold, F_X0_isTold_0, F_X12_alike, F_X12_alike_0, T_isBelow_2, T_isBelow_3, T_isBelow_4, T_isBelow_6, T_isBelow_8, T_isBelow_9, T_isBelow_10, T_isBelow_12, T_isBelow_16, T_isBelow_17, T_isBelow_31, T_isBelow_64, T_isBelow_256, T_isBelow_65536, T_in_1, T_in_2, T_in_3, T_in_4, T_in_5, T_in_8, T_in_11, T_in_16, T_in_30, T_in_63, T_in_255, T_in_65535, T_isIsland, T_isEight, bd_s, nm_s, bI_0, gd_n, gd_01, nI_cl, nI_add, nI_1, m4, Bool.false_eq_true, and_self, true_and, and_true, true_or, or_true, or_self, false_or, or_false, gd_T, not_true_eq_false, not_false_eq_true, ↓reduceIte, h1])
  obtain ⟨i, hi, rfl⟩ := bel_of h1
  by_cases q : E.testBit i = true
  rotate_left
  · exact Both.no (-1) hn hR (by simp (disch := omega) only [F_X11_alike, F_X11_alike_0, F_X0_sameAs, F_X0_sameAs_0, F_X12_alike, F_X12_alike_0, T_isBelow_2, T_isBelow_3, T_isBelow_4, T_isBelow_6, T_isBelow_8, T_isBelow_9, T_isBelow_10, T_isBelow_12, T_isBelow_16, T_isBelow_17, T_isBelow_31, T_isBelow_64, T_isBelow_256, T_isBelow_65536, T_in_1, T_in_2, T_in_3, T_in_4, T_in_5, T_in_8, T_in_11, T_in_16, T_in_30, T_in_63, T_in_255, T_in_65535, T_isIsland, T_isEight, bd_s, nm_s, bI_0, gd_n, gd_01, nI_cl, nI_add, nI_1, m4, Bool.false_eq_true, and_self, true_and, and_true, true_or, or_true, or_self, false_or, or_false, gd_T, not_true_eq_false, not_false_eq_true, ↓reduceIte, h1, T_isToldE hE hi g1, q, g2, T_has (And.intro hE hi)]) (by simp (disch := omega) only [F_X11_alike, F_X11_alike_0, F_X0_sameAs, F_X0_sameAs_0, F_X12_alike, F_X12_alike_0, T_isBelow_2, T_isBelow_3, T_isBelow_4, T_isBelow_6, T_isBelow_8, T_isBelow_9, T_isBelow_10, T_isBelow_12, T_isBelow_16, T_isBelow_17, T_isBelow_31, T_isBelow_64, T_isBelow_256, T_isBelow_65536, T_in_1, T_in_2, T_in_3, T_in_4, T_in_5, T_in_8, T_in_11, T_in_16, T_in_30, T_in_63, T_in_255, T_in_65535, T_isIsland, T_isEight, bd_s, nm_s, bI_0, gd_n, gd_01, nI_cl, nI_add, nI_1, m4, Bool.false_eq_true, and_self, true_and, and_true, true_or, or_true, or_self, false_or, or_false, gd_T, not_true_eq_false, not_false_eq_true, ↓reduceIte, h1, T_isToldE hE hi g1, q, g2, T_has (And.intro hE hi)])
  by_cases h2 : bel x2 64
  rotate_left
  · exact Both.no (-1) hn hR (by simp (disch := omega) only [F_X11_alike, F_X11_alike_0, F_X0_sameAs, F_X0_sameAs_0, F_X12_alike, F_X12_alike_0, T_isBelow_2, T_isBelow_3, T_isBelow_4, T_isBelow_6, T_isBelow_8, T_isBelow_9, T_isBelow_10, T_isBelow_12, T_isBelow_16, T_isBelow_17, T_isBelow_31, T_isBelow_64, T_isBelow_256, T_isBelow_65536, T_in_1, T_in_2, T_in_3, T_in_4, T_in_5, T_in_8, T_in_11, T_in_16, T_in_30, T_in_63, T_in_255, T_in_65535, T_isIsland, T_isEight, bd_s, nm_s, bI_0, gd_n, gd_01, nI_cl, nI_add, nI_1, m4, Bool.false_eq_true, and_self, true_and, and_true, true_or, or_true, or_self, false_or, or_false, gd_T, not_true_eq_false, not_false_eq_true, ↓reduceIte, h1, h2, T_isToldE hE hi g1, q, g2, T_has (And.intro hE hi)]) (by simp (disch := omega) only [F_X11_alike, F_X11_alike_0, F_X0_sameAs, F_X0_sameAs_0, F_X12_alike, F_X12_alike_0, T_isBelow_2, T_isBelow_3, T_isBelow_4, T_isBelow_6, T_isBelow_8, T_isBelow_9, T_isBelow_10, T_isBelow_12, T_isBelow_16, T_isBelow_17, T_isBelow_31, T_isBelow_64, T_isBelow_256, T_isBelow_65536, T_in_1, T_in_2, T_in_3, T_in_4, T_in_5, T_in_8, T_in_11, T_in_16, T_in_30, T_in_63, T_in_255, T_in_65535, T_isIsland, T_isEight, bd_s, nm_s, bI_0, gd_n, gd_01, nI_cl, nI_add, nI_1, m4, Bool.false_eq_true, and_self, true_and, and_true, true_or, or_true, or_self, false_or, or_false, gd_T, not_true_eq_false, not_false_eq_true, ↓reduceIte, h1, h2, T_isToldE hE hi g1, q, g2, T_has (And.intro hE hi)])
  obtain ⟨T, hT, rfl⟩ := bel_of h2
  refine Both.no (nI (alm E te i T 8)) hn hR (by simp (disch := omega) only [F_X11_alike, F_X11_alike_0, T_isBelow_2, T_isBelow_3, T_isBelow_4, T_isBelow_6, T_isBelow_8, T_isBelow_9, T_isBelow_10, T_isBelow_12, T_isBelow_16, T_isBelow_17, T_isBelow_31, T_isBelow_64, T_isBelow_256, T_isBelow_65536, T_in_1, T_in_2, T_in_3, T_in_4, T_in_5, T_in_8, T_in_11, T_in_16, T_in_30, T_in_63, T_in_255, T_in_65535, T_isIsland, T_isEight, bd_s, nm_s, bI_0, gd_n, gd_01, nI_cl, nI_add, nI_1, m4, Bool.false_eq_true, and_self, true_and, and_true, true_or, or_true, or_self, false_or, or_false, gd_T, not_true_eq_false, not_false_eq_true, ↓reduceIte, T_sameC hE g1 g3 hi q hT]) ?_
  have E0 : F_X12_alike (nI i) (nI T) σ = zfix (F_X12_alike_35L (nI i) (nI T)) zlim ((0 : Int32), (0 : Int32), σ) := by
    simp (disch := omega) only [F_X12_alike, F_X12_alike_0, T_isBelow_2, T_isBelow_3, T_isBelow_4, T_isBelow_6, T_isBelow_8, T_isBelow_9, T_isBelow_10, T_isBelow_12, T_isBelow_16, T_isBelow_17, T_isBelow_31, T_isBelow_64, T_isBelow_256, T_isBelow_65536, T_in_1, T_in_2, T_in_3, T_in_4, T_in_5, T_in_8, T_in_11, T_in_16, T_in_30, T_in_63, T_in_255, T_in_65535, T_isIsland, T_isEight, bd_s, nm_s, bI_0, gd_n, gd_01, nI_cl, nI_add, nI_1, m4, Bool.false_eq_true, and_self, true_and, and_true, true_or, or_true, or_self, false_or, or_false, gd_T, not_true_eq_false, not_false_eq_true, ↓reduceIte, h1, h2, q, g2, T_has (And.intro hE hi)]
  rw [E0]
  refine zfix_run (fun j => (nI (alm E te i T j), nI j, σ)) 8 (by decide) (fun j w hj => ?_) (fun w => ?_)
  · show F_X12_alike_35 (nI i) (nI T) w _ _ σ = _
    unfold F_X12_alike_35
    rw [g2, T_has ⟨hE, hj⟩, bd_s, T_alkM g3 hi hj hT, bd_s]
    simp (disch := omega) only [lit_le, if_neg, nm_s, nI_1, F_X12_alike_72, alm]
    by_cases q : E.testBit j = true
    · rw [bI_t q, if_neg (by decide)]
      by_cases r : alkF te i j T 0
      · rw [bI_t r, if_neg (by decide), if_pos ⟨q, r⟩, bit_1 j hj, nI_or]
      · rw [bI_f r, if_pos rfl, if_neg (fun g => r g.2), Nat.or_zero]
    · rw [bI_f q, if_pos rfl, if_neg (fun g => q g.1), Nat.or_zero]
  · show F_X12_alike_35 (nI i) (nI T) w _ (nI 8) σ = _
    unfold F_X12_alike_35
    simp (disch := omega) only [lit_le, if_pos]
theorem alkF_sym {te : Nat → Nat} {i j T : Nat} (h : alkF te i j T 0) : alkF te j i T 0 := fun s a b c => (h s a b c).symm
/-- all are told apart -/
def apt (E : Nat) (te : Nat → Nat) (T i : Nat) : Prop := ∀ a, i ≤ a → a < 8 → ∀ b, b < 8 → E.testBit a = true → E.testBit b = true → alkF te a b T 0 → a = b
theorem alm_one {E : Nat} {te : Nat → Nat} {i T : Nat} (hi : i < 8) (ht : E.testBit i = true) : alm E te i T 8 = 2 ^ i ↔ ∀ b, b < 8 → E.testBit b = true → alkF te i b T 0 → i = b := by
  constructor
  · intro h b hb h1 h2
    have := (alm_bit E te i T 8 b).mpr ⟨hb, h1, h2⟩
    rw [h, Nat.testBit_two_pow, decide_eq_true_eq] at this
    exact this
  · intro h
    apply Nat.eq_of_testBit_eq
    intro k
    rw [Nat.testBit_two_pow]
    by_cases q : i = k
    · subst q
      rw [decide_eq_true rfl]
      exact (alm_bit E te i T 8 i).mpr ⟨hi, ht, fun s _ _ _ => rfl⟩
    · rw [decide_eq_false q]
      cases r : (alm E te i T 8).testBit k with
      | false => rfl
      | true =>
        obtain ⟨a, b, c⟩ := (alm_bit E te i T 8 k).mp r
        exact absurd (h k a b c) q
theorem T_aptC {E : Nat} {te : Nat → Nat} {σ : zSt} (hE : E < 256) (e : σ.1 65 0 = nI E) (h : TE te σ) {T : Nat} (hT : T < 64) : F_X0_areApart (nI T) σ = some (bI (apt E te T 0), σ) := by
  unfold F_X0_areApart F_X0_areApart_0
  refine zfix_out (fun i => (nI i, σ)) (fun i => some (bI (apt E te T i), σ)) 8 (by decide) (fun i w hi ih => ?_) (fun w => ?_) 0 (by decide)
  · show F_X0_areApart_2 (nI T) w (nI i) σ = _
    unfold F_X0_areApart_2 F_X0_areApart_30
    rw [T_isToldE hE hi e, bd_s]
    simp (disch := omega) only [lit_le, if_neg, nm_s, nI_1]
    rw [ih]
    by_cases q : E.testBit i = true
    · rw [bI_t q, if_neg (by decide), T_sameC hE e h hi q hT, bd_s, bit_1 i hi]
      have hl := alm_lt E te i T 8 (Nat.le_refl 8)
      have hp := pow_lt8 hi
      by_cases r : alm E te i T 8 = 2 ^ i
      · rw [if_pos (by rw [r])]
        have e9 : apt E te T (i + 1) ↔ apt E te T i := by
          refine ⟨fun g a ha hb b hb2 h1 h2 h3 => ?_, fun g a ha => g a (by omega)⟩
          by_cases z : a = i
          · subst z
            exact (alm_one hi q).mp r b hb2 h2 h3
          · exact g a (by omega) hb b hb2 h1 h2 h3
        rw [ih, bI_c e9]
      · rw [if_neg (by rw [nI_eqp (by omega)]; exact r), bI_f (fun g => r ((alm_one hi q).mpr (fun b hb h1 h2 => g i (Nat.le_refl i) hi b hb q h1 h2)))]
    · rw [bI_f q, if_pos rfl]
      have e9 : apt E te T (i + 1) ↔ apt E te T i := by
        refine ⟨fun g a ha hb b hb2 h1 h2 h3 => ?_, fun g a ha => g a (by omega)⟩
        by_cases z : a = i
        · rw [z] at h1
          exact absurd h1 q
        · exact g a (by omega) hb b hb2 h1 h2 h3
      rw [bI_c e9]
  · show F_X0_areApart_2 (nI T) w (nI 8) σ = _
    unfold F_X0_areApart_2
    simp (disch := omega) only [lit_le, if_pos]
    rw [bI_t (p := apt E te T 8) (fun a ha hb => by omega)]
def aptM (E : Nat) (te : Nat → Nat) (T i j : Nat) : Prop := (i < 8 → ∀ b, j ≤ b → b < i → E.testBit i = true → E.testBit b = true → ¬ alkF te i b T 0) ∧ ∀ a, i < a → a < 8 → ∀ b, b < a → E.testBit a = true → E.testBit b = true → ¬ alkF te a b T 0
theorem T_aptM {E : Nat} {te : Nat → Nat} {σ : zSt} (hE : E < 256) (e : σ.1 69 59 = nI E) (h : TE te σ) {T : Nat} (hT : T < 64) : F_X12_tellsAll (nI T) σ = some (bI (apt E te T 0), σ) := by
  unfold F_X12_tellsAll F_X12_tellsAll_0
  have key := zfix_out (body := F_X12_tellsAll_2L (nI T)) (fun i => (nI i, σ)) (fun i => some (bI (aptM E te T i 0), σ)) 8 (by decide) (fun i w hi ih => ?_) (fun w => ?_) 0 (by decide)
  · refine key.trans (congrArg (fun x => some (x, σ)) (bI_c ⟨fun g a ha hb b hb2 h1 h2 h3 => ?_, fun g => ⟨fun _ b _ hb => by omega, fun a ha hb b hb2 h1 h2 h3 => ?_⟩⟩))
    · rcases Nat.lt_trichotomy a b with z | z | z
      · exact absurd (alkF_sym h3) (g.2 b (by omega) hb2 a z h2 h1)
      · exact z
      · exact absurd h3 (g.2 a (by omega) hb b z h1 h2)
    · have := g a (by omega) hb b (by omega) h1 h2 h3
      omega
  · show F_X12_tellsAll_2 (nI T) w (nI i) σ = _
    unfold F_X12_tellsAll_2
    simp (disch := omega) only [lit_le, if_neg]
    refine zfix_out (fun j => (nI j, σ)) (fun j => some (bI (aptM E te T i j), σ)) i (by omega) (fun j w2 hj ih2 => ?_) (fun w2 => ?_) 0 (by omega)
    · show F_X12_tellsAll_10 w (nI T) (nI i) w2 (nI j) σ = _
      unfold F_X12_tellsAll_10 F_X12_tellsAll_49
      rw [e, T_has ⟨hE, hi⟩, bd_s, e, T_has ⟨hE, (show j < 8 by omega)⟩, bd_s, T_alkM h hi (by omega) hT, bd_s]
      simp (disch := omega) only [nI_lep, if_neg, nm_s, nI_1]
      rw [ih2]
      by_cases q : E.testBit i = true
      · rw [bI_t q, if_neg (by decide)]
        by_cases r : E.testBit j = true
        · rw [bI_t r, if_neg (by decide)]
          by_cases z : alkF te i j T 0
          · rw [bI_t z, if_neg (by decide), bI_f (fun g => g.1 hi j (Nat.le_refl j) hj q r z)]
          · rw [bI_f z, if_pos rfl]
            refine congrArg (fun x => some (x, σ)) (bI_c ⟨fun g => ⟨fun _ b h1 h2 h3 h4 => ?_, g.2⟩, fun g => ⟨fun _ b h1 => g.1 hi b (by omega), g.2⟩⟩)
            by_cases y : b = j
            · rw [y]
              exact z
            · exact g.1 hi b (by omega) h2 h3 h4
        · rw [bI_f r, if_pos rfl]
          refine congrArg (fun x => some (x, σ)) (bI_c ⟨fun g => ⟨fun _ b h1 h2 h3 h4 => ?_, g.2⟩, fun g => ⟨fun _ b h1 => g.1 hi b (by omega), g.2⟩⟩)
          by_cases y : b = j
          · rw [y] at h4
            exact absurd h4 r
          · exact g.1 hi b (by omega) h2 h3 h4
      · rw [bI_f q, if_pos rfl]
        refine congrArg (fun x => some (x, σ)) (bI_c ⟨fun g => ⟨fun _ b h1 h2 h3 h4 => absurd h3 q, g.2⟩, fun g => ⟨fun _ b h1 => g.1 hi b (by omega), g.2⟩⟩)
    · show F_X12_tellsAll_10 w (nI T) (nI i) w2 (nI i) σ = _
      unfold F_X12_tellsAll_10 F_X12_tellsAll_55
      simp (disch := omega) only [nI_lep, Nat.le_refl, ↓reduceIte, nm_s, nI_1]
      rw [ih]
      have e9 : aptM E te T (i + 1) 0 ↔ aptM E te T i i := by
        refine ⟨fun g => ⟨fun _ b h1 h2 => by omega, fun a ha hb b hb2 => ?_⟩, fun g => ⟨fun h8 b _ hb => g.2 (i + 1) (Nat.lt_succ_self i) h8 b hb, fun a ha => g.2 a (by omega)⟩⟩
        by_cases y : a = i + 1
        · subst y
          exact g.1 hb b (Nat.zero_le b) hb2
        · exact g.2 a (by omega) hb b hb2
      rw [bI_c e9]
  · show F_X12_tellsAll_2 (nI T) w (nI 8) σ = _
    unfold F_X12_tellsAll_2
    simp (disch := omega) only [lit_le, if_pos]
    rw [bI_t ⟨fun h8 => absurd h8 (by decide), fun a ha hb => by omega⟩]
/-- the fewest TESTS so far -/
noncomputable def fwt (E : Nat) (te : Nat → Nat) : Nat → Option Nat
  | 0 => none
  | T + 1 => match fwt E te T with
    | none => @ite _ (apt E te T 0) (Classical.propDecidable _) (some T) none
    | some b => @ite _ (pop8 T < pop8 b ∧ apt E te T 0) (Classical.propDecidable _) (some T) (some b)
theorem fwt_lt {E : Nat} {te : Nat → Nat} : ∀ T b, fwt E te T = some b → b < T := by
  intro T
  induction T with
  | zero => intro b h; cases h
  | succ T ih =>
    intro b h
    unfold fwt at h
    cases q : fwt E te T with
    | none =>
      rw [q] at h
      simp only at h
      split at h
      · cases h
        exact Nat.lt_succ_self T
      · cases h
    | some c =>
      rw [q] at h
      simp only at h
      split at h
      · cases h
        exact Nat.lt_succ_self T
      · cases h
        exact Nat.lt_succ_of_lt (ih _ q)
theorem s_apart {n : Nat} {σ : zSt} (hn : n < 512) (hR : Rel n σ) (x1 : Int32) : Both n (F_X11_apart x1) (F_X12_apart x1) σ := by
  obtain ⟨E, te, hE, g1, g2, g3⟩ := hR.2.2.2.2.2.1
  by_cases h1 : bel x1 2
  rotate_left
  · exact Both.no (-1) hn hR (by simp (disch := omega) only [F_X11_apart, F_X11_apart_0, F_X12_apart, F_X12_apart_0, T_isBelow_2, T_isBelow_3, T_isBelow_4, T_isBelow_6, T_isBelow_8, T_isBelow_9, T_isBelow_10, T_isBelow_12, T_isBelow_16, T_isBelow_17, T_isBelow_31, T_isBelow_64, T_isBelow_256, T_isBelow_65536, T_in_1, T_in_2, T_in_3, T_in_4, T_in_5, T_in_8, T_in_11, T_in_16, T_in_30, T_in_63, T_in_255, T_in_65535, T_isIsland, T_isEight, bd_s, nm_s, bI_0, gd_n, gd_01, nI_cl, nI_add, nI_1, m4, Bool.false_eq_true, and_self, true_and, and_true, true_or, or_true, or_self, false_or, or_false, gd_T, not_true_eq_false, not_false_eq_true, ↓reduceIte, h1]) (by simp (disch := omega) only [F_X11_apart, F_X11_apart_0, F_X12_apart, F_X12_apart_0, T_isBelow_2, T_isBelow_3, T_isBelow_4, T_isBelow_6, T_isBelow_8, T_isBelow_9, T_isBelow_10, T_isBelow_12, T_isBelow_16, T_isBelow_17, T_isBelow_31, T_isBelow_64, T_isBelow_256, T_isBelow_65536, T_in_1, T_in_2, T_in_3, T_in_4, T_in_5, T_in_8, T_in_11, T_in_16, T_in_30, T_in_63, T_in_255, T_in_65535, T_isIsland, T_isEight, bd_s, nm_s, bI_0, gd_n, gd_01, nI_cl, nI_add, nI_1, m4, Bool.false_eq_true, and_self, true_and, and_true, true_or, or_true, or_self, false_or, or_false, gd_T, not_true_eq_false, not_false_eq_true, ↓reduceIte, h1])
  have hp : ∀ m, pop8 m ≤ 8 := fun m => popn_le m 8
  refine Both.no (match fwt E te 64 with | none => -2 | some b => if x1 = 0 then nI (pop8 b) else nI b) hn hR ?_ ?_
  · have E0 : F_X11_apart x1 σ = zfix (F_X0_fewestTests_4L x1) zlim ((-1 : Int32), (0 : Int32), σ) := by
      simp (disch := omega) only [F_X11_apart, F_X11_apart_0, F_X0_fewestTests, F_X0_fewestTests_0, T_isBelow_2, T_isBelow_3, T_isBelow_4, T_isBelow_6, T_isBelow_8, T_isBelow_9, T_isBelow_10, T_isBelow_12, T_isBelow_16, T_isBelow_17, T_isBelow_31, T_isBelow_64, T_isBelow_256, T_isBelow_65536, T_in_1, T_in_2, T_in_3, T_in_4, T_in_5, T_in_8, T_in_11, T_in_16, T_in_30, T_in_63, T_in_255, T_in_65535, T_isIsland, T_isEight, bd_s, nm_s, bI_0, gd_n, gd_01, nI_cl, nI_add, nI_1, m4, Bool.false_eq_true, and_self, true_and, and_true, true_or, or_true, or_self, false_or, or_false, gd_T, not_true_eq_false, not_false_eq_true, ↓reduceIte, h1]
      cases zfix (F_X0_fewestTests_4L x1) zlim ((-1 : Int32), (0 : Int32), σ) <;> rfl
    rw [E0]
    refine zfix_run (fun T => (e1 (fwt E te T), nI T, σ)) 64 (by decide) (fun T w hT => ?_) (fun w => ?_)
    · show F_X0_fewestTests_4 x1 w _ (nI T) σ = w (e1 (fwt E te (T + 1)), _, σ)
      unfold F_X0_fewestTests_4
      rw [T_bitCount (show T < 256 by omega), bd_s]
      simp (disch := omega) only [lit_le, if_neg]
      cases q : fwt E te T with
      | none =>
        simp only [e1, ↓reduceIte, F_X0_fewestTests_26, F_X0_fewestTests_31, F_X0_fewestTests_48, d10, T_aptC hE g1 g3 hT, bd_s, nm_s, nI_1, fwt, q]
        by_cases r : apt E te T 0
        · rw [bI_t r, if_neg (by decide), if_pos r]
        · rw [bI_f r, if_pos rfl, if_neg r]
      | some b =>
        have hb := fwt_lt T b q
        have a1 := hp T
        have a2 := hp b
        simp (disch := omega) only [e1, nI_ne_m1, ↓reduceIte, T_bitCount (show b < 256 by omega), F_X0_fewestTests_48, T_aptC hE g1 g3 hT, bd_s, nm_s, nI_1, fwt, q, nI_lep]
        by_cases z : pop8 b ≤ pop8 T
        · rw [if_pos z, if_pos rfl, if_neg (fun g => by omega)]
        · rw [if_neg z, if_neg (by decide)]
          by_cases r : apt E te T 0
          · rw [bI_t r, if_neg (by decide), if_pos ⟨by omega, r⟩]
          · rw [bI_f r, if_pos rfl, if_neg (fun g => r g.2)]
    · show F_X0_fewestTests_4 x1 w _ (nI 64) σ = _
      unfold F_X0_fewestTests_4 F_X0_fewestTests_54
      simp (disch := omega) only [lit_le, if_pos]
      cases q : fwt E te 64 with
      | none => simp only [e1, ↓reduceIte]
      | some b =>
        have hb := fwt_lt 64 b q
        simp (disch := omega) only [e1, nI_ne_m1, ↓reduceIte, T_bitCount (show b < 256 by omega), bd_s]
        split <;> rfl
  · have E0 : F_X12_apart x1 σ = zfix (F_X12_apart_15L x1) zlim ((-1 : Int32), (0 : Int32), σ) := by
      simp (disch := omega) only [F_X12_apart, F_X12_apart_0, T_isBelow_2, T_isBelow_3, T_isBelow_4, T_isBelow_6, T_isBelow_8, T_isBelow_9, T_isBelow_10, T_isBelow_12, T_isBelow_16, T_isBelow_17, T_isBelow_31, T_isBelow_64, T_isBelow_256, T_isBelow_65536, T_in_1, T_in_2, T_in_3, T_in_4, T_in_5, T_in_8, T_in_11, T_in_16, T_in_30, T_in_63, T_in_255, T_in_65535, T_isIsland, T_isEight, bd_s, nm_s, bI_0, gd_n, gd_01, nI_cl, nI_add, nI_1, m4, Bool.false_eq_true, and_self, true_and, and_true, true_or, or_true, or_self, false_or, or_false, gd_T, not_true_eq_false, not_false_eq_true, ↓reduceIte, h1]
    rw [E0]
    refine zfix_run (fun T => (e1 (fwt E te T), nI T, σ)) 64 (by decide) (fun T w hT => ?_) (fun w => ?_)
    · show F_X12_apart_15 x1 w _ (nI T) σ = w (e1 (fwt E te (T + 1)), _, σ)
      unfold F_X12_apart_15
      rw [T_bits (show T < 256 by omega), bd_s]
      simp (disch := omega) only [lit_le, if_neg]
      cases q : fwt E te T with
      | none =>
        simp only [e1, ↓reduceIte, F_X12_apart_37, F_X12_apart_47, d10, T_aptM hE g2 g3 hT, bd_s, nm_s, nI_1, fwt, q]
        by_cases r : apt E te T 0
        · rw [bI_t r, if_neg (by decide), if_pos r]
        · rw [bI_f r, if_pos rfl, if_neg r]
      | some b =>
        have hb := fwt_lt T b q
        have a1 := hp T
        have a2 := hp b
        simp (disch := omega) only [e1, nI_ne_m1, ↓reduceIte, T_bits (show b < 256 by omega), F_X12_apart_37, F_X12_apart_47, T_aptM hE g2 g3 hT, bd_s, nm_s, nI_1, fwt, q, nI_lep]
        by_cases z : pop8 b ≤ pop8 T
        · rw [if_pos z, if_neg (fun g => by omega)]
        · rw [if_neg z]
          by_cases r : apt E te T 0
          · rw [bI_t r, if_neg (by decide), if_pos ⟨by omega, r⟩]
          · rw [bI_f r, if_pos rfl, if_neg (fun g => r g.2)]
    · show F_X12_apart_15 x1 w _ (nI 64) σ = _
      unfold F_X12_apart_15 F_X12_apart_53
      simp (disch := omega) only [lit_le, if_pos]
      cases q : fwt E te 64 with
      | none => simp only [e1, ↓reduceIte]
      | some b =>
        have hb := fwt_lt 64 b q
        simp (disch := omega) only [e1, nI_ne_m1, ↓reduceIte, T_bits (show b < 256 by omega), bd_s]
        split <;> rfl
/-! PURE: nights -/
theorem T_isWet {W : zWo} {σ : zSt} (hW : WOK W) (h : EC 1 2 W σ) {p : Nat} (hp : p < 8) : F_X10_isWet (nI p) σ = some (bI ((wWet W).testBit p = true), σ) := by
  have hb : bel (nI p) 8 := bel_t (by omega)
  have e : σ.1 1 7 = nI (wWet W) := h.2.2.2.2.2.2.2.1
  unfold F_X10_isWet F_X10_isWet_0
  rw [T_isBelow_8, bd_s, bI_t hb, if_neg (by decide), e]
  by_cases q : (wWet W).testBit p = true
  · rw [if_pos ((bit_is hW.wet hp).mpr q), bI_t q]
  · rw [if_neg (fun r => q ((bit_is hW.wet hp).mp r)), bI_f q]
def plN (W : zWo) (p : Nat) : Nat → Nat
  | 0 => 0
  | n + 1 => plN W p n + (if wIs W n = true ∧ wWin W n = some p then 1 else 0)
theorem T_placesIn {W : zWo} {σ : zSt} (hW : WOK W) (h : EC 1 2 W σ) {p : Nat} (hp : p < 8) : F_X10_placesIn (nI p) σ = some (nI (plN W p 8), σ) := by
  unfold F_X10_placesIn F_X10_placesIn_0
  refine zfix_run (fun i => (nI (plN W p i), nI i, σ)) 8 (by decide) (fun i w hi => ?_) (fun w => ?_)
  · show F_X10_placesIn_4 (nI p) w (nI (plN W p i)) (nI i) σ = _
    have eT : σ.1 1 6 = nI (wTol W) := h.2.2.2.2.2.2.1
    have e4 : σ.1 4 i = e1 (wWin W i) := h.2.2.1 i hi
    unfold F_X10_placesIn_4 F_X10_placesIn_37 F_X10_placesIn_38
    simp (disch := omega) only [lit_le, if_neg, eT, gd_n, nI_cl, e4, nm_s, nI_1]
    by_cases q : (wTol W).testBit i = true
    · rw [if_pos ((bit_is hW.told hi).mpr q)]
      by_cases r : wWin W i = some p
      · rw [if_pos ((e1_eq (by omega) (win16 hW hi)).mpr r)]
        simp only [plN, wIs_bit hi, q, r, and_self, ↓reduceIte, nI_1]
      · rw [if_neg (fun z => r ((e1_eq (by omega) (win16 hW hi)).mp z))]
        simp only [plN, r, and_false, ↓reduceIte, ← nI_0, nI_add]
    · rw [if_neg (fun z => q ((bit_is hW.told hi).mp z))]
      simp only [plN, wIs_bit hi, q, false_and, ↓reduceIte, ← nI_0, nI_add, Bool.false_eq_true]
  · show F_X10_placesIn_4 (nI p) w _ (nI 8) σ = _
    unfold F_X10_placesIn_4
    simp (disch := omega) only [lit_le, if_pos]
theorem T_nextLevel {W : zWo} {σ : zSt} (hW : WOK W) (h : EM 70 0 W σ) {p : Nat} (hp : p < 8) : F_X12_nextLevel (nI p) σ = some (nI (plN W p 8), σ) := by
  unfold F_X12_nextLevel F_X12_nextLevel_0
  refine zfix_run (fun i => (nI (plN W p i), nI i, σ)) 8 (by decide) (fun i w hi => ?_) (fun w => ?_)
  · show F_X12_nextLevel_4 (nI p) w (nI (plN W p i)) (nI i) σ = _
    have e4 : σ.1 72 i = e2 (wWin W i) := h.2.2.1 i hi
    unfold F_X12_nextLevel_4 F_X12_nextLevel_33 F_X12_nextLevel_34
    rw [T_isPlace hW h, bd_s]
    simp (disch := omega) only [lit_le, if_neg, gd_n, nI_cl, e4, nm_s, nI_1]
    by_cases q : wIs W i = true
    · rw [bI_t ((isT_n (by omega)).mpr q), if_neg (by decide)]
      by_cases r : wWin W i = some p
      · rw [if_pos ((e2_eq (by omega) (win16 hW hi)).mpr r)]
        simp only [plN, q, r, and_self, ↓reduceIte, nI_1]
      · rw [if_neg (fun z => r ((e2_eq (by omega) (win16 hW hi)).mp z))]
        simp only [plN, r, and_false, ↓reduceIte, ← nI_0, nI_add]
    · rw [bI_f (fun z => q ((isT_n (by omega)).mp z)), if_pos rfl]
      simp only [plN, q, false_and, ↓reduceIte, ← nI_0, nI_add, Bool.false_eq_true]
  · show F_X12_nextLevel_4 (nI p) w _ (nI 8) σ = _
    unfold F_X12_nextLevel_4
    simp (disch := omega) only [lit_le, if_pos]
/-- what a law is asked with -/
noncomputable def ltr (W : zWo) (g h d s r : Nat) : Nat → Int32
  | 0 => nI g
  | 1 => nI h
  | 2 => nI (islW W h)
  | 3 => nI d
  | 4 => nI s
  | 5 => bI ((wWet W).testBit h = true)
  | 6 => bI (wLok W h ≠ none)
  | 7 => nI (plN W h 8)
  | _ => nI r
theorem lok16 {W : zWo} (hW : WOK W) {h : Nat} (hh : h < 8) : ∀ k, wLok W h = some k → k < 16 := fun k q => by have := hW.lok h k hh q; omega
theorem lok_c {W : zWo} (hW : WOK W) {h : Nat} (hh : h < 8) : (if e1 (wLok W h) = -1 then (0 : Int32) else 1) = bI (wLok W h ≠ none) := by
  by_cases q : wLok W h = none
  · rw [if_pos ((e1_none (lok16 hW hh)).mpr q), bI_f (fun r => r q)]
  · rw [if_neg (fun r => q ((e1_none (lok16 hW hh)).mp r)), bI_t q]
theorem lok_m {W : zWo} (hW : WOK W) {h : Nat} (hh : h < 8) : (if e2 (wLok W h) < 0 then (0 : Int32) else 1) = bI (wLok W h ≠ none) := by
  by_cases q : wLok W h = none
  · rw [if_pos (i_lt.mpr ((e2_lt (lok16 hW hh)).mpr q)), bI_f (fun r => r q)]
  · rw [if_neg (fun r => q ((e2_lt (lok16 hW hh)).mp (i_lt.mp r))), bI_t q]
theorem t_look {W : zWo} {σ : zSt} (hW : WOK W) (hC : EC 1 2 W σ) {h : Nat} (hh : h < 8) (e : σ.1 24 3 = nI h) : F_X3_look σ = some ((), zwr (zwr (zwr (zwr (zwr (σ) 25 1 (nI h)) 25 2 (nI (islW W h))) 25 5 (bI ((wWet W).testBit h = true))) 25 6 (bI (wLok W h ≠ none))) 25 7 (nI (plN W h 8))) := by
  have hb : bel (nI h) 8 := bel_t (by omega)
  have c1 : EC 1 2 W (zwr (σ) 25 1 (nI h)) := (fr_w (L := [25]) (S := []) (Or.inl (by decide))).EC (by decide) hC
  have c2 : EC 1 2 W (zwr (zwr (σ) 25 1 (nI h)) 25 2 (nI (islW W h))) := (fr_w (L := [25]) (S := []) (Or.inl (by decide))).EC (by decide) c1
  have c3 : EC 1 2 W (zwr (zwr (zwr (σ) 25 1 (nI h)) 25 2 (nI (islW W h))) 25 5 (bI ((wWet W).testBit h = true))) := (fr_w (L := [25]) (S := []) (Or.inl (by decide))).EC (by decide) c2
  have c4 : EC 1 2 W (zwr (zwr (zwr (zwr (σ) 25 1 (nI h)) 25 2 (nI (islW W h))) 25 5 (bI ((wWet W).testBit h = true))) 25 6 (bI (wLok W h ≠ none))) := (fr_w (L := [25]) (S := []) (Or.inl (by decide))).EC (by decide) c3
  have e5 : σ.1 5 h = e1 (wLok W h) := hC.2.2.2.1 h hh
  unfold F_X3_look F_X3_look_0
  simp (disch := omega) only [nm_s, zwr_r, e, Nat.reduceEqDiff, ↓reduceIte, t_islandOf hW c1 hh, T_isWet hW c2 hh, bd_s, bI_id, T_isBelow_8, bI_t hb, d10, gd_n, nI_cl, e5, lok_c hW hh, T_placesIn hW c4 hh]
theorem t_look_l {W : zWo} {σ : zSt} (hW : WOK W) (hC : EC 1 2 W σ) {g h d s r : Nat} (hh : h < 8) (e : σ.1 24 3 = nI h) (e0 : σ.1 25 0 = nI g) (e3 : σ.1 25 3 = nI d) (e4 : σ.1 25 4 = nI s) (e8 : σ.1 25 8 = nI r) : wp (F_X3_look σ) (fun _ τ => fr [25] [] σ τ ∧ ∀ j, j < 9 → τ.1 25 j = ltr W g h d s r j) := by
  refine wp_of (t_look hW hC hh e) ⟨(((((fr.rf (L := [25]) (S := [])).w (Or.inl (by decide))).w (Or.inl (by decide))).w (Or.inl (by decide))).w (Or.inl (by decide))).w (Or.inl (by decide)), fun j hj => ?_⟩
  have q : j = 0 ∨ j = 1 ∨ j = 2 ∨ j = 3 ∨ j = 4 ∨ j = 5 ∨ j = 6 ∨ j = 7 ∨ j = 8 := by omega
  rcases q with rfl | rfl | rfl | rfl | rfl | rfl | rfl | rfl | rfl
  all_goals simp only [zwr_r, upd_r, Nat.reduceEqDiff, ↓reduceIte, ltr, e0, e3, e4, e8]
noncomputable def tor (W : zWo) (v : Int32) (h : Nat) : Nat := @ite _ (isT W v) (Classical.propDecidable _) v.toNatClampNeg h
theorem tor_t {W : zWo} {v : Int32} {h : Nat} (q : isT W v) : nI (tor W v h) = v := by
  unfold tor
  rw [if_pos q]
  obtain ⟨p, hp, hp2, rfl⟩ := isT_of q
  rw [nI_cl (by omega)]
theorem tor_f {W : zWo} {v : Int32} {h : Nat} (q : ¬ isT W v) : tor W v h = h := if_neg q
theorem tor_lt {W : zWo} {v : Int32} {h : Nat} (hh : h < 8) : tor W v h < 8 := by
  by_cases q : isT W v
  · unfold tor
    rw [if_pos q]
    obtain ⟨p, hp, hp2, rfl⟩ := isT_of q
    rw [nI_cl (by omega)]
    exact hp
  · rw [tor_f q]
    exact hh
/-- by the law, asked for κ with lt, v comes out: in both -/
def LA (σ0 : zSt) (κ : Int32) (lt : Nat → Int32) (v : Int32) : Prop :=
  (∀ σ : zSt, eqOn rowsL slotsL σ0 σ → (∀ j, j < 9 → σ.1 25 j = lt j) → ∃ st, F_X1_ask κ σ = some (v, zrow σ 16 st)) ∧
  (∀ (W : zWo) (h : Nat) (σ : zSt), WOK W → EM 70 0 W σ → eqOn rowsL slotsL σ0 σ → (∀ j, j < 9 → σ.1 89 j = lt j) → ∃ st, F_X12_byLaw κ (nI h) σ = some (nI (tor W v h), zrow σ 88 st))
theorem LA_ex {σ0 : zSt} (hL : RLw σ0) (κ : Int32) (lt : Nat → Int32) : ∃ v, LA σ0 κ lt v ∧ (σ0.1 8 8 = 0 → ∀ lt' : Nat → Int32, (∀ j, j < 8 → lt' j = lt j) → LA σ0 κ lt' v) := by
  obtain ⟨n, hn, n1, n2, hask, hc⟩ := hL
  have key : ∀ m k, k + m = n → ∃ v, ∀ lt' : Nat → Int32, (lt' = lt ∨ (σ0.1 8 8 = 0 ∧ ∀ j, j < 8 → lt' j = lt j)) →
      (∀ f (σ : zSt), m < f → eqOn rowsL slotsL σ0 σ → (∀ j, j < 9 → σ.1 25 j = lt' j) → ∃ st, zfix (F_X1_ask_2L κ) f (nI k, σ) = some (v, zrow σ 16 st)) ∧
      (∀ (W : zWo) (h : Nat) f (σ : zSt), m < f → WOK W → EM 70 0 W σ → eqOn rowsL slotsL σ0 σ → (∀ j, j < 9 → σ.1 89 j = lt' j) → ∃ st, zfix (F_X12_byLaw_2L κ (nI h)) f (nI k, σ) = some (nI (tor W v h), zrow σ 88 st)) := by
    intro m
    induction m with
    | zero =>
      intro k hk
      have hk' : k = n := by omega
      subst hk'
      refine ⟨-1, fun lt' _ => ⟨fun f σ hf hs hl => ⟨σ.1 16, ?_⟩, fun W h f σ hf hW hM hs hl => ⟨σ.1 88, ?_⟩⟩⟩
      · obtain ⟨f, rfl⟩ : ∃ q, f = q + 1 := ⟨f - 1, by omega⟩
        show F_X1_ask_2 κ (zfix (F_X1_ask_2L κ) f) (nI k) σ = _
        unfold F_X1_ask_2
        have e : σ.1 8 7 = nI k := (hs.2 (8, 7) (by decide)).trans n1
        rw [e, if_pos (i_le.mpr (Int.le_refl _)), zrow_same]
      · obtain ⟨f, rfl⟩ : ∃ q, f = q + 1 := ⟨f - 1, by omega⟩
        show F_X12_byLaw_2 κ (nI h) (zfix (F_X12_byLaw_2L κ (nI h)) f) (nI k) σ = _
        unfold F_X12_byLaw_2
        have e : σ.1 69 23 = nI k := (hs.2 (69, 23) (by decide)).trans n2
        rw [e, if_pos (i_le.mpr (Int.le_refl _)), zrow_same, tor_f isT_m1]
    | succ m ih =>
      intro k hk
      have hkn : k < n := by omega
      obtain ⟨hkd, hrc⟩ := hc k hkn
      obtain ⟨v1, h1⟩ := ih (k + 1) (by omega)
      obtain ⟨v, w, u, hrow, hvw, hu, hind⟩ := hrc lt
      have R : ∀ lt' : Nat → Int32, (lt' = lt ∨ (σ0.1 8 8 = 0 ∧ ∀ j, j < 8 → lt' j = lt j)) → LRow (σ0.1 9) (σ0.1 10) (σ0.1 83) (σ0.1 13 k) (σ0.1 14 k) (σ0.1 86 k) (σ0.1 87 k) lt' v w ∧ (w = 1 → LRow (σ0.1 9) (σ0.1 10) (σ0.1 83) (σ0.1 12 k) (σ0.1 13 k) (σ0.1 85 k) (σ0.1 86 k) lt' u u) := by
        rintro lt' (rfl | ⟨a, b⟩)
        · exact ⟨hrow, hu⟩
        · exact hind a lt' b
      by_cases hk2 : σ0.1 11 k = κ
      · -- the letter is the one that is asked for
        refine ⟨@ite _ (w = 1) (Classical.propDecidable _) u v1, fun lt' hlt => ⟨fun f σ hf hs hl => ?_, fun W h f σ hf hW hM hs hl => ?_⟩⟩
        · obtain ⟨f, rfl⟩ : ∃ q, f = q + 1 := ⟨f - 1, by omega⟩
          show ∃ st, F_X1_ask_2 κ (zfix (F_X1_ask_2L κ) f) (nI k) σ = _
          obtain ⟨st, hr⟩ := (R lt' hlt).1.1 σ (hs.1 9 (by decide)) (hs.1 10 (by decide)) hl
          have e : σ.1 8 7 = nI n := (hs.2 (8, 7) (by decide)).trans n1
          have e11 : σ.1 11 k = κ := (congrFun (hs.1 11 (by decide)) k).trans hk2
          have e13 : σ.1 13 = σ0.1 13 := hs.1 13 (by decide)
          have e14 : σ.1 14 = σ0.1 14 := hs.1 14 (by decide)
          have e12 : σ.1 12 = σ0.1 12 := hs.1 12 (by decide)
          unfold F_X1_ask_2 F_X1_ask_64 F_X1_ask_46
          simp (disch := omega) only [e, nI_lep, lit_le, if_neg, gd_n, nI_cl, e11, ↓reduceIte, e13, e14, hr, bd_s, nm_s, nI_1, zrow_r, Nat.reduceEqDiff, e12]
          have hs' : eqOn rowsL slotsL σ0 (zrow σ 16 st) := hs.tr (eqOn_row (by decide))
          have hl' : ∀ j, j < 9 → (zrow σ 16 st).1 25 j = lt' j := hl
          by_cases z : w = 1
          · rw [if_neg (hvw.mpr z), if_pos z]
            obtain ⟨st2, hr2⟩ := ((R lt' hlt).2 z).1 (zrow σ 16 st) (hs'.1 9 (by decide)) (hs'.1 10 (by decide)) hl'
            rw [hr2, bd_s, zrow_zrow]
            exact ⟨_, rfl⟩
          · rw [if_pos (Classical.byContradiction (fun q => z (hvw.mp q))), if_neg z]
            obtain ⟨st2, hr2⟩ := (h1 lt' hlt).1 f (zrow σ 16 st) (by omega) hs' hl'
            rw [hr2, zrow_zrow]
            exact ⟨_, rfl⟩
        · obtain ⟨f, rfl⟩ : ∃ q, f = q + 1 := ⟨f - 1, by omega⟩
          show ∃ st, F_X12_byLaw_2 κ (nI h) (zfix (F_X12_byLaw_2L κ (nI h)) f) (nI k) σ = _
          obtain ⟨st, hr⟩ := (R lt' hlt).1.2 σ (hs.1 83 (by decide)) hl
          have e : σ.1 69 23 = nI n := (hs.2 (69, 23) (by decide)).trans n2
          have e11 : σ.1 84 k = κ := (congrFun (hs.1 84 (by decide)) k).trans (hkd.symm.trans hk2)
          have e13 : σ.1 86 = σ0.1 86 := hs.1 86 (by decide)
          have e14 : σ.1 87 = σ0.1 87 := hs.1 87 (by decide)
          have e12 : σ.1 85 = σ0.1 85 := hs.1 85 (by decide)
          unfold F_X12_byLaw_2 F_X12_byLaw_77 F_X12_byLaw_43
          simp (disch := omega) only [e, nI_lep, lit_le, if_neg, gd_n, nI_cl, e11, ↓reduceIte, e13, e14, hr, bd_s, nm_s, nI_1, zrow_r, Nat.reduceEqDiff, e12]
          have hs' : eqOn rowsL slotsL σ0 (zrow σ 88 st) := hs.tr (eqOn_row (by decide))
          have hl' : ∀ j, j < 9 → (zrow σ 88 st).1 89 j = lt' j := hl
          have hM' : EM 70 0 W (zrow σ 88 st) := EM_on (eqOn_row (by decide)) hM
          by_cases z : w = 1
          · rw [if_pos z, if_pos z]
            obtain ⟨st2, hr2⟩ := ((R lt' hlt).2 z).2 (zrow σ 88 st) (hs'.1 83 (by decide)) hl'
            have hM2 : EM 70 0 W (zrow (zrow σ 88 st) 88 st2) := EM_on (eqOn_row (by decide)) hM'
            rw [hr2, bd_s, T_isPlace hW hM2, bd_s, zrow_zrow]
            by_cases y : isT W u
            · rw [bI_t y, if_neg (by decide), tor_t y]
              exact ⟨_, rfl⟩
            · rw [bI_f y, if_pos rfl, tor_f y]
              exact ⟨_, rfl⟩
          · rw [if_neg z, if_neg z]
            obtain ⟨st2, hr2⟩ := (h1 lt' hlt).2 W h f (zrow σ 88 st) (by omega) hW hM' hs' hl'
            rw [hr2, zrow_zrow]
            exact ⟨_, rfl⟩
      · refine ⟨v1, fun lt' hlt => ⟨fun f σ hf hs hl => ?_, fun W h f σ hf hW hM hs hl => ?_⟩⟩
        · obtain ⟨f, rfl⟩ : ∃ q, f = q + 1 := ⟨f - 1, by omega⟩
          show ∃ st, F_X1_ask_2 κ (zfix (F_X1_ask_2L κ) f) (nI k) σ = _
          have e : σ.1 8 7 = nI n := (hs.2 (8, 7) (by decide)).trans n1
          have e11 : σ.1 11 k = σ0.1 11 k := congrFun (hs.1 11 (by decide)) k
          unfold F_X1_ask_2 F_X1_ask_64
          simp (disch := omega) only [e, nI_lep, lit_le, if_neg, gd_n, nI_cl, e11, hk2, ↓reduceIte, nm_s, nI_1]
          exact (h1 lt' hlt).1 f σ (by omega) hs hl
        · obtain ⟨f, rfl⟩ : ∃ q, f = q + 1 := ⟨f - 1, by omega⟩
          show ∃ st, F_X12_byLaw_2 κ (nI h) (zfix (F_X12_byLaw_2L κ (nI h)) f) (nI k) σ = _
          have e : σ.1 69 23 = nI n := (hs.2 (69, 23) (by decide)).trans n2
          have e11 : σ.1 84 k = σ0.1 11 k := (congrFun (hs.1 84 (by decide)) k).trans hkd.symm
          unfold F_X12_byLaw_2 F_X12_byLaw_77
          simp (disch := omega) only [e, nI_lep, lit_le, if_neg, gd_n, nI_cl, e11, hk2, ↓reduceIte, nm_s, nI_1]
          exact (h1 lt' hlt).2 W h f σ (by omega) hW hM hs hl
  obtain ⟨v, hv⟩ := key n 0 (by omega)
  have fin : ∀ lt' : Nat → Int32, (lt' = lt ∨ (σ0.1 8 8 = 0 ∧ ∀ j, j < 8 → lt' j = lt j)) → LA σ0 κ lt' v := fun lt' hlt => ⟨fun σ hs hl => (hv lt' hlt).1 zlim σ (by show n < 1000000; omega) hs hl, fun W h σ hW hM hs hl => (hv lt' hlt).2 W h zlim σ (by show n < 1000000; omega) hW hM hs hl⟩
  exact ⟨v, fin lt (Or.inl rfl), fun a lt' b => fin lt' (Or.inr ⟨a, b⟩)⟩
theorem LA_u {σ0 : zSt} {κ : Int32} {lt : Nat → Int32} {v w : Int32} (h : LA σ0 κ lt v) (g : LA σ0 κ lt w) : v = w := by
  obtain ⟨a, ha⟩ := h.1 (zrow σ0 25 lt) (eqOn_row (by decide)) (fun j _ => congrFun zrow_c j)
  obtain ⟨b, hb⟩ := g.1 (zrow σ0 25 lt) (eqOn_row (by decide)) (fun j _ => congrFun zrow_c j)
  rw [ha] at hb
  exact congrArg Prod.fst (Option.some.inj hb)
noncomputable def lawv (σ0 : zSt) (κ : Int32) (lt : Nat → Int32) : Int32 := @dite _ (RLw σ0) (Classical.propDecidable _) (fun h => Classical.choose (LA_ex h κ lt)) (fun _ => 0)
theorem lawv_ok {σ0 : zSt} (h : RLw σ0) (κ : Int32) (lt : Nat → Int32) : LA σ0 κ lt (lawv σ0 κ lt) ∧ (σ0.1 8 8 = 0 → ∀ lt' : Nat → Int32, (∀ j, j < 8 → lt' j = lt j) → LA σ0 κ lt' (lawv σ0 κ lt)) := by
  unfold lawv
  rw [dif_pos h]
  exact Classical.choose_spec (LA_ex h κ lt)
theorem lawv_draw {σ0 : zSt} (h : RLw σ0) (ha : σ0.1 8 8 = 0) {κ : Int32} {lt lt' : Nat → Int32} (e : ∀ j, j < 8 → lt' j = lt j) : lawv σ0 κ lt' = lawv σ0 κ lt := LA_u (lawv_ok h κ lt').1 ((lawv_ok h κ lt).2 ha lt' e)
/-- a night: where he moves it, what he says -/
noncomputable def mvN (σ0 : zSt) (W : zWo) (g h d s r : Nat) : Nat := tor W (lawv σ0 109 (ltr W g h d s r)) h
noncomputable def syN (σ0 : zSt) (W : zWo) (g h d s r : Nat) : Nat := tor W (lawv σ0 108 (ltr W g h d s r)) h
theorem ltr_r {W : zWo} {g h d s r r' : Nat} : ∀ j, j < 8 → ltr W g h d s r' j = ltr W g h d s r j := by
  intro j hj
  have q : j = 0 ∨ j = 1 ∨ j = 2 ∨ j = 3 ∨ j = 4 ∨ j = 5 ∨ j = 6 ∨ j = 7 := by omega
  rcases q with rfl | rfl | rfl | rfl | rfl | rfl | rfl | rfl <;> rfl
theorem mvN_draw {σ0 : zSt} (hL : RLw σ0) (ha : σ0.1 8 8 = 0) {W : zWo} {g h d s r r' : Nat} : mvN σ0 W g h d s r' = mvN σ0 W g h d s r := by
  unfold mvN
  rw [lawv_draw hL ha ltr_r]
theorem syN_draw {σ0 : zSt} (hL : RLw σ0) (ha : σ0.1 8 8 = 0) {W : zWo} {g h d s r r' : Nat} : syN σ0 W g h d s r' = syN σ0 W g h d s r := by
  unfold syN
  rw [lawv_draw hL ha ltr_r]
theorem mvN_lt {σ0 : zSt} {W : zWo} {g h d s r : Nat} (hh : h < 8) : mvN σ0 W g h d s r < 8 := tor_lt hh
theorem syN_lt {σ0 : zSt} {W : zWo} {g h d s r : Nat} (hh : h < 8) : syN σ0 W g h d s r < 8 := tor_lt hh
theorem t_feels {W : zWo} {σ : zSt} (hW : WOK W) (hM : EM 70 0 W σ) {g h d s r : Nat} (hh : h < 8) : wp (F_X12_feels (nI g) (nI h) (nI d) (nI s) (nI r) σ) (fun _ τ => fr [89] [] σ τ ∧ ∀ j, j < 9 → τ.1 89 j = ltr W g h d s r j) := by
  have c2 : EM 70 0 W (zwr (zwr (σ) 89 0 (nI g)) 89 1 (nI h)) := (((fr.rf (L := [89]) (S := [])).w (Or.inl (by decide))).w (Or.inl (by decide))).EM (by decide) hM
  have c7 : EM 70 0 W (zwr (zwr (zwr (zwr (zwr (zwr (zwr (σ) 89 0 (nI g)) 89 1 (nI h)) 89 2 (nI (islW W h))) 89 3 (nI d)) 89 4 (nI s)) 89 5 (bI ((wWet W).testBit h = true))) 89 6 (bI (wLok W h ≠ none))) := ((((((((fr.rf (L := [89]) (S := [])).w (Or.inl (by decide))).w (Or.inl (by decide))).w (Or.inl (by decide))).w (Or.inl (by decide))).w (Or.inl (by decide))).w (Or.inl (by decide))).w (Or.inl (by decide))).EM (by decide) hM
  have e5 : σ.1 73 h = e2 (wLok W h) := hM.2.2.2.1 h hh
  have e1 : σ.1 69 1 = nI (wWet W) := hM.2.2.2.2.2.2.2.1
  have E : F_X12_feels (nI g) (nI h) (nI d) (nI s) (nI r) σ = some ((), zwr (zwr (zwr (zwr (zwr (zwr (zwr (zwr (zwr (σ) 89 0 (nI g)) 89 1 (nI h)) 89 2 (nI (islW W h))) 89 3 (nI d)) 89 4 (nI s)) 89 5 (bI ((wWet W).testBit h = true))) 89 6 (bI (wLok W h ≠ none))) 89 7 (nI (plN W h 8))) 89 8 (nI r)) := by
    unfold F_X12_feels F_X12_feels_0
    simp (disch := omega) only [nm_s, t_islandBy hW c2 hh, bd_s, zwr_r, Nat.reduceEqDiff, ↓reduceIte, e1, T_has (And.intro hW.wet hh), bI_id, gd_n, nI_cl, e5, lok_m hW hh, T_nextLevel hW c7 hh]
  refine wp_of E ⟨(((((((((fr.rf (L := [89]) (S := [])).w (Or.inl (by decide))).w (Or.inl (by decide))).w (Or.inl (by decide))).w (Or.inl (by decide))).w (Or.inl (by decide))).w (Or.inl (by decide))).w (Or.inl (by decide))).w (Or.inl (by decide))).w (Or.inl (by decide)), fun j hj => ?_⟩
  have q : j = 0 ∨ j = 1 ∨ j = 2 ∨ j = 3 ∨ j = 4 ∨ j = 5 ∨ j = 6 ∨ j = 7 ∨ j = 8 := by omega
  rcases q with rfl | rfl | rfl | rfl | rfl | rfl | rfl | rfl | rfl
  all_goals simp only [zwr_r, upd_r, Nat.reduceEqDiff, ↓reduceIte, ltr]
theorem T_movesTo {W : zWo} {σ0 σ : zSt} (hL : RLw σ0) (hs : eqOn rowsL slotsL σ0 σ) (hW : WOK W) (hM : EM 70 0 W σ) {g h d s r : Nat} (hh : h < 8) : wp (F_X12_movesTo (nI g) (nI h) (nI d) (nI s) (nI r) σ) (fun a τ => a = nI (mvN σ0 W g h d s r) ∧ fr [88, 89] [] σ τ) := by
  unfold F_X12_movesTo F_X12_movesTo_0
  refine wp_bd2 (t_feels hW hM hh) (fun _ τ hτ => ?_)
  obtain ⟨st, e⟩ := (lawv_ok hL 109 (ltr W g h d s r)).1.2 W h τ hW (hτ.1.EM (by decide) hM) (hs.tr (hτ.1.eqOn (by decide))) hτ.2
  rw [e, bd_s]
  exact wp_some ⟨rfl, (hτ.1.mono (by decide)).z (by decide)⟩
theorem T_saysOf {W : zWo} {σ0 σ : zSt} (hL : RLw σ0) (hs : eqOn rowsL slotsL σ0 σ) (hW : WOK W) (hM : EM 70 0 W σ) {g h d s r : Nat} (hh : h < 8) : wp (F_X12_saysOf (nI g) (nI h) (nI d) (nI s) (nI r) σ) (fun a τ => a = nI (syN σ0 W g h d s r) ∧ fr [88, 89] [] σ τ) := by
  unfold F_X12_saysOf F_X12_saysOf_0
  refine wp_bd2 (t_feels hW hM hh) (fun _ τ hτ => ?_)
  obtain ⟨st, e⟩ := (lawv_ok hL 108 (ltr W g h d s r)).1.2 W h τ hW (hτ.1.EM (by decide) hM) (hs.tr (hτ.1.eqOn (by decide))) hτ.2
  rw [e, bd_s]
  exact wp_some ⟨rfl, (hτ.1.mono (by decide)).z (by decide)⟩
theorem t_pass81 {W : zWo} {σ0 σ : zSt} (hL : RLw σ0) (hs : eqOn rowsL slotsL σ0 σ) (hW : WOK W) (hC : EC 1 2 W σ) {g h d s r : Nat} (hh : h < 8) (e3 : σ.1 24 3 = nI h) (e4 : σ.1 24 4 = nI g) (hl : ∀ j, j < 9 → σ.1 25 j = ltr W g h d s r j) : wp (F_X3_passFrom_81 σ) (fun _ τ => fr [16, 24, 25] [] σ τ ∧ τ.1 24 3 = nI h ∧ τ.1 24 4 = nI (g + 1) ∧ τ.1 24 5 = nI (syN σ0 W g h d s r) ∧ τ.1 24 6 = σ.1 24 6) := by
  unfold F_X3_passFrom_81
  obtain ⟨st, e⟩ := (lawv_ok hL 108 (ltr W g h d s r)).1.1 σ hs hl
  have hC' : EC 1 2 W (zrow σ 16 st) := EC_on (eqOn_row (by decide)) hC
  rw [e, bd_s, T_isTold hW hC', bd_s]
  have v : (if bI (isT W (lawv σ0 108 (ltr W g h d s r))) = 0 then (zrow σ 16 st).1 24 3 else lawv σ0 108 (ltr W g h d s r)) = nI (syN σ0 W g h d s r) := by
    unfold syN
    by_cases q : isT W (lawv σ0 108 (ltr W g h d s r))
    · rw [bI_t q, if_neg (by decide), tor_t q]
    · rw [bI_f q, if_pos rfl, tor_f q]
      exact e3
  simp only [nm_s, v]
  refine wp_some ⟨((fr_z (by decide)).w (Or.inl (by decide))).w (Or.inl (by decide)), ?_, ?_, ?_, ?_⟩
  all_goals simp only [zwr_r, zrow_r, upd_r, Nat.reduceEqDiff, ↓reduceIte, e3, e4, nI_1]
theorem T_passFrom {W : zWo} {σ0 σ : zSt} (hL : RLw σ0) (hs : eqOn rowsL slotsL σ0 σ) (hW : WOK W) (hC : EC 1 2 W σ) {g h d s r : Nat} (hh : h < 8) (e4 : σ.1 24 4 = nI g) (e5 : σ.1 24 5 = nI s) : wp (F_X3_passFrom (nI h) (nI d) (nI r) σ) (fun _ τ => fr [16, 24, 25] [] σ τ ∧ τ.1 24 3 = nI (mvN σ0 W g h d s r) ∧ τ.1 24 4 = nI (g + 1) ∧ τ.1 24 5 = nI (syN σ0 W g (mvN σ0 W g h d s r) d s r) ∧ τ.1 24 6 = σ.1 24 6) := by
  unfold F_X3_passFrom F_X3_passFrom_0
  simp only [nm_s, zwr_r, upd_r, Nat.reduceEqDiff, ↓reduceIte, e4, e5]
  have f1 : fr [16, 24, 25] [] σ (zwr (zwr (zwr (zwr (zwr σ 24 3 (nI h)) 25 0 (nI g)) 25 3 (nI d)) 25 4 (nI s)) 25 8 (nI r)) := (((((fr.rf.w (Or.inl (by decide))).w (Or.inl (by decide))).w (Or.inl (by decide))).w (Or.inl (by decide))).w (Or.inl (by decide)))
  have c1 := f1.EC (by decide) hC
  refine wp_bd2 (t_look_l (g := g) (h := h) (d := d) (s := s) (r := r) hW c1 hh ?_ ?_ ?_ ?_ ?_) (fun _ τ hτ => ?_)
  · simp only [zwr_r, upd_r, Nat.reduceEqDiff, ↓reduceIte]
  · simp only [zwr_r, upd_r, Nat.reduceEqDiff, ↓reduceIte]
  · simp only [zwr_r, upd_r, Nat.reduceEqDiff, ↓reduceIte]
  · simp only [zwr_r, upd_r, Nat.reduceEqDiff, ↓reduceIte]
  · simp only [zwr_r, upd_r, Nat.reduceEqDiff, ↓reduceIte]
  obtain ⟨g1, g2⟩ := hτ
  have f2 : fr [16, 24, 25] [] σ τ := f1.tr (g1.mono (by decide))
  obtain ⟨st, e⟩ := (lawv_ok hL 109 (ltr W g h d s r)).1.1 τ (hs.tr (f2.eqOn (by decide))) g2
  have f3 : fr [16, 24, 25] [] σ (zrow τ 16 st) := f2.z (by decide)
  have c3 := f3.EC (by decide) hC
  have t3 : τ.1 24 3 = nI h := by
    rw [g1.rd (by decide) (by decide)]
    simp only [zwr_r, upd_r, Nat.reduceEqDiff, ↓reduceIte]
  have t4 : τ.1 24 4 = nI g := by
    rw [g1.rd (by decide) (by decide)]
    simp only [zwr_r, upd_r, Nat.reduceEqDiff, ↓reduceIte, e4]
  have t6 : τ.1 24 6 = σ.1 24 6 := by
    rw [g1.rd (by decide) (by decide)]
    simp only [zwr_r, upd_r, Nat.reduceEqDiff, ↓reduceIte]
  rw [e, bd_s, T_isTold hW c3, bd_s]
  by_cases q : isT W (lawv σ0 109 (ltr W g h d s r))
  · rw [bI_t q, if_neg (by decide)]
    have hm : nI (mvN σ0 W g h d s r) = lawv σ0 109 (ltr W g h d s r) := tor_t q
    have hm8 : mvN σ0 W g h d s r < 8 := tor_lt hh
    rw [← hm]
    have f4 : fr [16, 24, 25] [] σ (zwr (zrow τ 16 st) 24 3 (nI (mvN σ0 W g h d s r))) := f3.w (Or.inl (by decide))
    refine wp_bd2 (t_look_l (g := g) (h := mvN σ0 W g h d s r) (d := d) (s := s) (r := r) hW (f4.EC (by decide) hC) hm8 ?_ ?_ ?_ ?_ ?_) (fun _ υ hυ => ?_)
    · simp only [zwr_r, upd_r, Nat.reduceEqDiff, ↓reduceIte]
    · exact g2 0 (by decide)
    · exact g2 3 (by decide)
    · exact g2 4 (by decide)
    · exact g2 8 (by decide)
    obtain ⟨k1, k2⟩ := hυ
    have f5 : fr [16, 24, 25] [] σ υ := f4.tr (k1.mono (by decide))
    have u3 : υ.1 24 3 = nI (mvN σ0 W g h d s r) := by
      rw [k1.rd (by decide) (by decide)]
      simp only [zwr_r, upd_r, Nat.reduceEqDiff, ↓reduceIte]
    have u4 : υ.1 24 4 = nI g := by
      rw [k1.rd (by decide) (by decide)]
      exact t4
    have u6 : υ.1 24 6 = σ.1 24 6 := by
      rw [k1.rd (by decide) (by decide)]
      exact t6
    refine wp_mono (t_pass81 hL (hs.tr (f5.eqOn (by decide))) hW (f5.EC (by decide) hC) hm8 u3 u4 k2) (fun _ ω h => ?_)
    obtain ⟨a1, a2, a3, a4, a5⟩ := h
    exact ⟨f5.tr a1, a2, a3, a4, a5.trans u6⟩
  · rw [bI_f q, if_pos rfl]
    have hm : mvN σ0 W g h d s r = h := tor_f q
    rw [hm]
    refine wp_mono (t_pass81 (g := g) (h := h) (d := d) (s := s) (r := r) hL (hs.tr (f3.eqOn (by decide))) hW c3 hh t3 t4 g2) (fun _ ω h => ?_)
    obtain ⟨a1, a2, a3, a4, a5⟩ := h
    exact ⟨f3.tr a1, a2, a3, a4, a5.trans t6⟩
/-! PURE: night, tried -/
def setW (W : zWo) (h x g d s : Nat) : zWo := (W.1, W.2.1, (wTol W, wWet W, h), (x, g, d, s))
theorem topW_set {W : zWo} {h x g d s : Nat} : ∀ n p, topW (setW W h x g d s) n p = topW W n p := by
  intro n
  induction n with
  | zero => intro p; rfl
  | succ n ih =>
    intro p
    unfold topW
    rw [show wWin (setW W h x g d s) p = wWin W p from rfl]
    cases wWin W p with
    | none => rfl
    | some q => exact ih q
theorem plN_set {W : zWo} {h x g d s : Nat} {p : Nat} : ∀ n, plN (setW W h x g d s) p n = plN W p n := by
  intro n
  induction n with
  | zero => rfl
  | succ n ih =>
    unfold plN
    rw [ih]
    rfl
theorem ltr_set {W : zWo} {h x g d s : Nat} {g' h' d' s' r' : Nat} : ltr (setW W h x g d s) g' h' d' s' r' = ltr W g' h' d' s' r' := by
  refine funext (fun j => ?_)
  have e : islW (setW W h x g d s) h' = islW W h' := congrArg (wIsl W) (topW_set 8 h')
  unfold ltr
  split
  all_goals first | rfl | rw [e] | rw [plN_set]
theorem mvN_set {σ0 : zSt} {W : zWo} {h x g d s : Nat} {g' h' d' s' r' : Nat} : mvN σ0 (setW W h x g d s) g' h' d' s' r' = mvN σ0 W g' h' d' s' r' := by
  unfold mvN
  rw [ltr_set]
  rfl
theorem syN_set {σ0 : zSt} {W : zWo} {h x g d s : Nat} {g' h' d' s' r' : Nat} : syN σ0 (setW W h x g d s) g' h' d' s' r' = syN σ0 W g' h' d' s' r' := by
  unfold syN
  rw [ltr_set]
  rfl
theorem WOK_set {W : zWo} {h x g d s : Nat} (hW : WOK W) (h1 : h < 8) (h2 : x < 65536) (h3 : g ≤ 600) (h4 : d ≤ 8) (h5 : s ≤ 8) : WOK (setW W h x g d s) := by
  obtain ⟨v1, v2, v3, v4, v5, v6, v7, v8, v9, v10⟩ := hW
  exact ⟨v1, v2, v3, v4, v5, v6, v7, v8, v9, h1, h3, h4, h5, h2⟩
def SN : List (Nat × Nat) := [(69, 2), (69, 3), (69, 4), (69, 5), (69, 6)]
theorem EM_set {W : zWo} {σ τ : zSt} {h x g d s : Nat} {L : List Nat} (hM : EM 70 0 W σ) (hf : fr L SN σ τ) (hL : (rowsM.all (fun c => !L.contains c) && !L.contains 69) = true) (a2 : τ.1 69 2 = nI h) (a3 : τ.1 69 3 = nI x) (a4 : τ.1 69 4 = nI g) (a5 : τ.1 69 5 = nI d) (a6 : τ.1 69 6 = nI s) : EM 70 0 (setW W h x g d s) τ := by
  rw [Bool.and_eq_true] at hL
  have r : ∀ c, c ∈ rowsM → τ.1 c = σ.1 c := by
    intro c hc
    refine hf.row ?_
    rw [Bool.and_eq_true]
    refine ⟨List.all_eq_true.mp hL.1 c hc, ?_⟩
    have : c ≠ 69 := by
      intro q
      rw [q] at hc
      revert hc
      decide
    simp [SN, Ne.symm this]
  have h69 : 69 ∉ L := by
    intro q
    have := hL.2
    rw [List.contains_iff_mem.mpr q] at this
    cases this
  obtain ⟨c1, c2, c3, c4, c5, c6, c7, c8, c9⟩ := hM
  exact ⟨fun j hj => (congrFun (r 70 (by decide)) j).trans (c1 j hj), fun j hj => (congrFun (r 71 (by decide)) j).trans (c2 j hj), fun j hj => (congrFun (r 72 (by decide)) j).trans (c3 j hj), fun j hj => (congrFun (r 73 (by decide)) j).trans (c4 j hj), fun j hj => (congrFun (r 74 (by decide)) j).trans (c5 j hj), fun j hj => (congrFun (r 75 (by decide)) j).trans (c6 j hj), (hf.rd h69 (by decide)).trans c7, (hf.rd h69 (by decide)).trans c8, a2, a4, a5, a6, a3⟩
theorem EM_get {W : zWo} {h x g d s : Nat} {τ : zSt} (hM : EM 70 0 (setW W h x g d s) τ) : τ.1 69 2 = nI h ∧ τ.1 69 3 = nI x ∧ τ.1 69 4 = nI g ∧ τ.1 69 5 = nI d ∧ τ.1 69 6 = nI s := by
  obtain ⟨c1, c2, c3, c4, c5, c6, c7, c8, c9, c10, c11, c12, c13⟩ := hM
  exact ⟨c9, c13, c10, c11, c12⟩
theorem EM_self {W : zWo} {σ : zSt} (hM : EM 70 0 W σ) : EM 70 0 (setW W (wHea W) (wX W) (wNig W) (wDus W) (wSai W)) σ := hM
/-- the next X -/
def nxX (x : Nat) : Nat := (25173 * x + 13849) % 65536
theorem nxX_lt {x : Nat} : nxX x < 65536 := Nat.mod_lt _ (by decide)
theorem nI_mod {a b : Nat} (h : a < 2147483648 ∧ 0 < b ∧ b < 2147483648) : nI a % nI b = nI (a % b) := by
  have h2 : a % b < b := Nat.mod_lt _ h.2.1
  rw [i_eq, Int32.toInt_mod, i_nI h.1, i_nI h.2.2, i_nI (by omega)]
  rfl
theorem nxX_e {x : Nat} (hx : x < 65536) : ((25173 : Int32) * nI x + (13849 : Int32)) % (65536 : Int32) = nI (nxX x) := by
  have e : (25173 : Int32) * nI x + (13849 : Int32) = nI (25173 * x + 13849) := by
    rw [show (25173 : Int32) = nI 25173 from rfl, show (13849 : Int32) = nI 13849 from rfl, pk_mul, nI_add]
  rw [e, show (65536 : Int32) = nI 65536 from rfl, nI_mod (by omega)]
  rfl
theorem mod10_e {x : Nat} (hx : x < 65536) : nI x % (10 : Int32) = nI (x % 10) := by
  rw [show (10 : Int32) = nI 10 from rfl, nI_mod (by omega)]
theorem T_pass {W : zWo} {σ0 σ : zSt} (hL : RLw σ0) (hs : eqOn rowsL slotsL σ0 σ) (hW : WOK W) (hC : EC 1 2 W σ) {g h d s x : Nat} (hh : h < 8) (hx : x < 65536) (e3 : σ.1 24 3 = nI h) (e4 : σ.1 24 4 = nI g) (e5 : σ.1 24 5 = nI s) (e6 : σ.1 24 6 = nI x) : wp (F_X3_pass (nI d) σ) (fun _ τ => fr [16, 24, 25] [] σ τ ∧ τ.1 24 3 = nI (mvN σ0 W g h d s (nxX x % 10)) ∧ τ.1 24 4 = nI (g + 1) ∧ τ.1 24 5 = nI (syN σ0 W g (mvN σ0 W g h d s (nxX x % 10)) d s (nxX x % 10)) ∧ τ.1 24 6 = nI (nxX x)) := by
  unfold F_X3_pass F_X3_pass_0
  simp only [nm_s, e6, nxX_e hx, zwr_r, upd_r, Nat.reduceEqDiff, ↓reduceIte, e3, mod10_e nxX_lt]
  have f1 : fr [16, 24, 25] [] σ (zwr σ 24 6 (nI (nxX x))) := fr_w (Or.inl (by decide))
  refine wp_bd2 (T_passFrom (g := g) (s := s) hL (hs.tr (f1.eqOn (by decide))) hW (f1.EC (by decide) hC) hh ?_ ?_) (fun _ τ hτ => ?_)
  · simp only [zwr_r, upd_r, Nat.reduceEqDiff, ↓reduceIte, e4]
  · simp only [zwr_r, upd_r, Nat.reduceEqDiff, ↓reduceIte, e5]
  · obtain ⟨a1, a2, a3, a4, a5⟩ := hτ
    refine wp_some ⟨f1.tr a1, a2, a3, a4, a5.trans ?_⟩
    simp only [zwr_r, upd_r, ↓reduceIte]
theorem T_nightGoes {W : zWo} {σ0 σ : zSt} (hL : RLw σ0) (hs : eqOn rowsL slotsL σ0 σ) (hW : WOK W) {g h d s x d' : Nat} (hh : h < 8) (hx : x < 65536) (hg : g ≤ 600) (hd : d ≤ 8) (hs8 : s ≤ 8) (hM : EM 70 0 (setW W h x g d s) σ) : wp (F_X12_nightGoes (nI d') σ) (fun a τ => a = nI (syN σ0 W g (mvN σ0 W g h d' s (nxX x % 10)) d' s (nxX x % 10)) ∧ fr [88, 89] SN σ τ ∧ EM 70 0 (setW W (mvN σ0 W g h d' s (nxX x % 10)) (nxX x) (g + 1) d' (syN σ0 W g (mvN σ0 W g h d' s (nxX x % 10)) d' s (nxX x % 10))) τ) := by
  obtain ⟨e2, e3, e4, e5, e6⟩ := EM_get hM
  have hW1 : WOK (setW W h (nxX x) g d s) := WOK_set hW hh nxX_lt hg hd hs8
  unfold F_X12_nightGoes F_X12_nightGoes_0 F_X12_draws F_X12_draws_0
  simp only [nm_s, e3, nxX_e hx, zwr_r, upd_r, Nat.reduceEqDiff, ↓reduceIte, mod10_e nxX_lt, bd_s, e4, e2, e6]
  have f1 : fr [88, 89] SN σ (zwr σ 69 3 (nI (nxX x))) := fr_w (Or.inr (by decide))
  have m1 : EM 70 0 (setW W h (nxX x) g d s) (zwr σ 69 3 (nI (nxX x))) := EM_set (W := setW W h x g d s) hM f1 (by decide) (by simp only [zwr_r, upd_r, Nat.reduceEqDiff, ↓reduceIte, e2]) (by simp only [zwr_r, upd_r, ↓reduceIte]) (by simp only [zwr_r, upd_r, Nat.reduceEqDiff, ↓reduceIte, e4]) (by simp only [zwr_r, upd_r, Nat.reduceEqDiff, ↓reduceIte, e5]) (by simp only [zwr_r, upd_r, Nat.reduceEqDiff, ↓reduceIte, e6])
  refine wp_bd2 (T_movesTo hL (hs.tr (f1.eqOn (by decide))) hW1 m1 hh) (fun a τ hτ => ?_)
  obtain ⟨rfl, g1⟩ := hτ
  rw [mvN_set]
  have hm8 : mvN σ0 W g h d' s (nxX x % 10) < 8 := mvN_lt hh
  have hW2 : WOK (setW W (mvN σ0 W g h d' s (nxX x % 10)) (nxX x) g d s) := WOK_set hW hm8 nxX_lt hg hd hs8
  obtain ⟨b2, b3, b4, b5, b6⟩ := EM_get (g1.EM (by decide) m1)
  have f2 : fr [88, 89] SN σ (zwr τ 69 2 (nI (mvN σ0 W g h d' s (nxX x % 10)))) := (f1.tr (g1.mono (by decide))).w (Or.inr (by decide))
  have m2 : EM 70 0 (setW W (mvN σ0 W g h d' s (nxX x % 10)) (nxX x) g d s) (zwr τ 69 2 (nI (mvN σ0 W g h d' s (nxX x % 10)))) := EM_set (W := setW W h x g d s) hM f2 (by decide) (by simp only [zwr_r, upd_r, ↓reduceIte]) (by simp only [zwr_r, upd_r, Nat.reduceEqDiff, ↓reduceIte, b3]) (by simp only [zwr_r, upd_r, Nat.reduceEqDiff, ↓reduceIte, b4]) (by simp only [zwr_r, upd_r, Nat.reduceEqDiff, ↓reduceIte, b5]) (by simp only [zwr_r, upd_r, Nat.reduceEqDiff, ↓reduceIte, b6])
  simp only [nm_s, zwr_r, upd_r, Nat.reduceEqDiff, ↓reduceIte, b4, b6]
  refine wp_bd2 (T_saysOf hL (hs.tr (f2.eqOn (by decide))) hW2 m2 hm8) (fun a υ hυ => ?_)
  obtain ⟨rfl, g2⟩ := hυ
  rw [syN_set]
  obtain ⟨c2, c3, c4, c5, c6⟩ := EM_get (g2.EM (by decide) m2)
  simp only [nm_s, zwr_r, upd_r, Nat.reduceEqDiff, ↓reduceIte, c4, nI_1]
  have f3 := (((f2.tr (g2.mono (L' := [88, 89]) (S' := SN) (by decide))).w (c := 69) (j := 6) (v := nI (syN σ0 W g (mvN σ0 W g h d' s (nxX x % 10)) d' s (nxX x % 10))) (Or.inr (by decide))).w (c := 69) (j := 5) (v := nI d') (Or.inr (by decide))).w (c := 69) (j := 4) (v := nI (g + 1)) (Or.inr (by decide))
  exact wp_some ⟨rfl, f3, EM_set (W := setW W h x g d s) hM f3 (by decide) (by simp only [zwr_r, upd_r, Nat.reduceEqDiff, ↓reduceIte, c2]) (by simp only [zwr_r, upd_r, Nat.reduceEqDiff, ↓reduceIte, c3]) (by simp only [zwr_r, upd_r, ↓reduceIte]) (by simp only [zwr_r, upd_r, Nat.reduceEqDiff, ↓reduceIte]) (by simp only [zwr_r, upd_r, Nat.reduceEqDiff, ↓reduceIte])⟩
theorem T_heart {W : zWo} {σ : zSt} (hW : WOK W) (hC : EC 1 2 W σ) : F_X11_heartIsTold σ = some (bI (isT W (nI (wHea W))), σ) := by
  have e : σ.1 1 8 = nI (wHea W) := hC.2.2.2.2.2.2.2.2.1
  unfold F_X11_heartIsTold F_X11_heartIsTold_0
  rw [e, T_isTold hW hC, bd_s, gd_01]
theorem T_begin {W : zWo} {σ : zSt} (hC : EC 1 2 W σ) : F_X3_begin σ = some ((), zwr (zwr (zwr (zwr σ 24 3 (nI (wHea W))) 24 4 (nI (wNig W))) 24 5 (nI (wSai W))) 24 6 (nI (wX W))) := by
  obtain ⟨c1, c2, c3, c4, c5, c6, c7, c8, c9, c10, c11, c12, c13⟩ := hC
  unfold F_X3_begin F_X3_begin_0
  simp only [nm_s, zwr_r, Nat.reduceEqDiff, ↓reduceIte, c9, c10, c12, c13]
theorem T_in_9 {x : Int32} {σ : zSt} : F_X12_in x 0 8 σ = some (bI (bel x 9), σ) := T_inN 8 rfl
theorem s_night {n : Nat} {σ : zSt} (hn : n < 512) (hR : Rel n σ) (x1 : Int32) : Both n (F_X11_night x1) (F_X12_night x1) σ := by
  obtain ⟨-, ⟨W, w0, w1, w2, w3⟩, -, -, hL, -⟩ := id hR
  have m2 : σ.1 69 2 = nI (wHea W) := w3.2.2.2.2.2.2.2.2.1
  have m4 : σ.1 69 4 = nI (wNig W) := w3.2.2.2.2.2.2.2.2.2.1
  have c9 : σ.1 1 9 = nI (wNig W) := w2.2.2.2.2.2.2.2.2.2.1
  by_cases h1 : bel x1 9
  rotate_left
  · exact Both.no (-1) hn hR (by simp (disch := omega) only [F_X11_night, F_X11_night_0, T_isBelow_2, T_isBelow_3, T_isBelow_4, T_isBelow_6, T_isBelow_8, T_isBelow_9, T_isBelow_10, T_isBelow_12, T_isBelow_16, T_isBelow_17, T_isBelow_31, T_isBelow_64, T_isBelow_256, T_isBelow_65536, T_in_1, T_in_2, T_in_3, T_in_4, T_in_5, T_in_8, T_in_11, T_in_16, T_in_30, T_in_63, T_in_255, T_in_65535, T_isIsland, T_isEight, bd_s, nm_s, bI_0, gd_n, gd_01, nI_cl, nI_add, nI_1, m4, Bool.false_eq_true, and_self, true_and, and_true, true_or, or_true, or_self, false_or, or_false, gd_T, not_true_eq_false, not_false_eq_true, ↓reduceIte, h1]) (by simp (disch := omega) only [F_X12_night, F_X12_night_0, T_isBelow_2, T_isBelow_3, T_isBelow_4, T_isBelow_6, T_isBelow_8, T_isBelow_9, T_isBelow_10, T_isBelow_12, T_isBelow_16, T_isBelow_17, T_isBelow_31, T_isBelow_64, T_isBelow_256, T_isBelow_65536, T_in_1, T_in_2, T_in_3, T_in_4, T_in_5, T_in_8, T_in_11, T_in_16, T_in_30, T_in_63, T_in_255, T_in_65535, T_isIsland, T_isEight, bd_s, nm_s, bI_0, gd_n, gd_01, nI_cl, nI_add, nI_1, m4, Bool.false_eq_true, and_self, true_and, and_true, true_or, or_true, or_self, false_or, or_false, gd_T, not_true_eq_false, not_false_eq_true, ↓reduceIte, h1])
  by_cases h2 : isT W (nI (wHea W))
  rotate_left
  · exact Both.no (-1) hn hR (by simp (disch := omega) only [F_X11_night, F_X11_night_0, T_isBelow_2, T_isBelow_3, T_isBelow_4, T_isBelow_6, T_isBelow_8, T_isBelow_9, T_isBelow_10, T_isBelow_12, T_isBelow_16, T_isBelow_17, T_isBelow_31, T_isBelow_64, T_isBelow_256, T_isBelow_65536, T_in_1, T_in_2, T_in_3, T_in_4, T_in_5, T_in_8, T_in_11, T_in_16, T_in_30, T_in_63, T_in_255, T_in_65535, T_isIsland, T_isEight, bd_s, nm_s, bI_0, gd_n, gd_01, nI_cl, nI_add, nI_1, m4, Bool.false_eq_true, and_self, true_and, and_true, true_or, or_true, or_self, false_or, or_false, gd_T, not_true_eq_false, not_false_eq_true, ↓reduceIte, h1, T_heart w0 w2, h2]) (by simp (disch := omega) only [F_X12_night, F_X12_night_0, T_isBelow_2, T_isBelow_3, T_isBelow_4, T_isBelow_6, T_isBelow_8, T_isBelow_9, T_isBelow_10, T_isBelow_12, T_isBelow_16, T_isBelow_17, T_isBelow_31, T_isBelow_64, T_isBelow_256, T_isBelow_65536, T_in_1, T_in_2, T_in_3, T_in_4, T_in_5, T_in_8, T_in_11, T_in_16, T_in_30, T_in_63, T_in_255, T_in_65535, T_isIsland, T_isEight, bd_s, nm_s, bI_0, gd_n, gd_01, nI_cl, nI_add, nI_1, m4, Bool.false_eq_true, and_self, true_and, and_true, true_or, or_true, or_self, false_or, or_false, gd_T, not_true_eq_false, not_false_eq_true, ↓reduceIte, h1, m2, T_isPlace w0 w3, h2])
  obtain ⟨d, hd, rfl⟩ := bel_of h1
  have hh : wHea W < 8 := w0.hea
  have hx : wX W < 65536 := w0.2.2.2.2.2.2.2.2.2.2.2.2.2
  have hg : wNig W ≤ 600 := w0.2.2.2.2.2.2.2.2.2.2.1
  have hd8 : wDus W ≤ 8 := w0.2.2.2.2.2.2.2.2.2.2.2.1
  have hs8 : wSai W ≤ 8 := w0.2.2.2.2.2.2.2.2.2.2.2.2.1
  have E1 : wp (F_X11_night (nI d) σ) (fun a τ => ∃ h' s', h' = mvN σ W (wNig W) (wHea W) d (wSai W) (nxX (wX W) % 10) ∧ s' = syN σ W (wNig W) h' d (wSai W) (nxX (wX W) % 10) ∧ a = nI s' ∧ fr [16, 24, 25] [(1, 8), (1, 9), (1, 10), (1, 11), (1, 12)] σ τ ∧ EC 1 2 (setW W h' (nxX (wX W)) (wNig W + 1) d s') τ) := by
    have E0 : F_X11_night (nI d) σ = bd (F_X3_begin σ) (fun _ s10 => bd (F_X3_pass (nI d) s10) (fun _ s13 => nm (zwr s13 1 8 (s13.1 24 3)) (fun s16 => nm (zwr s16 1 9 (s16.1 24 4)) (fun s17 => nm (zwr s17 1 10 (nI d)) (fun s18 => nm (zwr s18 1 11 (s18.1 24 5)) (fun s19 => nm (zwr s19 1 12 (s19.1 24 6)) (fun s20 => some ((s20.1 1 11), s20)))))))) := by
      simp (disch := omega) only [F_X11_night, F_X11_night_0, T_isBelow_2, T_isBelow_3, T_isBelow_4, T_isBelow_6, T_isBelow_8, T_isBelow_9, T_isBelow_10, T_isBelow_12, T_isBelow_16, T_isBelow_17, T_isBelow_31, T_isBelow_64, T_isBelow_256, T_isBelow_65536, T_in_1, T_in_2, T_in_3, T_in_4, T_in_5, T_in_8, T_in_11, T_in_16, T_in_30, T_in_63, T_in_255, T_in_65535, T_isIsland, T_isEight, bd_s, nm_s, bI_0, gd_n, gd_01, nI_cl, nI_add, nI_1, m4, Bool.false_eq_true, and_self, true_and, and_true, true_or, or_true, or_self, false_or, or_false, gd_T, not_true_eq_false, not_false_eq_true, ↓reduceIte, h1, T_heart w0 w2, h2, c9, lt_lit, if_pos]
    rw [E0, T_begin w2, bd_s]
    have f1 : fr [16, 24, 25] [] σ (zwr (zwr (zwr (zwr σ 24 3 (nI (wHea W))) 24 4 (nI (wNig W))) 24 5 (nI (wSai W))) 24 6 (nI (wX W))) := (((fr_w (Or.inl (by decide))).w (Or.inl (by decide))).w (Or.inl (by decide))).w (Or.inl (by decide))
    refine wp_bd2 (T_pass (g := wNig W) (h := wHea W) (s := wSai W) (x := wX W) hL (f1.eqOn (by decide)) w0 (f1.EC (by decide) w2) hh hx ?_ ?_ ?_ ?_) (fun _ τ hτ => ?_)
    · simp only [zwr_r, upd_r, Nat.reduceEqDiff, ↓reduceIte]
    · simp only [zwr_r, upd_r, Nat.reduceEqDiff, ↓reduceIte]
    · simp only [zwr_r, upd_r, Nat.reduceEqDiff, ↓reduceIte]
    · simp only [zwr_r, upd_r, Nat.reduceEqDiff, ↓reduceIte]
    obtain ⟨a1, a2, a3, a4, a5⟩ := hτ
    have f2 := f1.tr a1
    obtain ⟨c1, c2, c3, c4, c5, c6, c7, c8, -⟩ := f2.EC (by decide) w2
    simp only [nm_s, zwr_r, upd_r, Nat.reduceEqDiff, ↓reduceIte, a2, a3, a4, a5]
    exact wp_some ⟨_, _, rfl, rfl, rfl, (((((f2.mono (by decide)).w (Or.inr (by decide))).w (Or.inr (by decide))).w (Or.inr (by decide))).w (Or.inr (by decide))).w (Or.inr (by decide)), c1, c2, c3, c4, c5, c6, c7, c8, rfl, rfl, rfl, rfl, rfl⟩
  obtain ⟨a, τ, e1, h', s', rfl, rfl, rfl, f1, k1⟩ := E1
  have E2 : F_X12_night (nI d) τ = bd (F_X12_nightGoes (nI d) τ) (fun q11 s10 => some (q11, s10)) := by
    have w3p := f1.EM (by decide) w3
    have m2p : τ.1 69 2 = nI (wHea W) := w3p.2.2.2.2.2.2.2.2.1
    have m4p : τ.1 69 4 = nI (wNig W) := w3p.2.2.2.2.2.2.2.2.2.1
    simp (disch := omega) only [F_X12_night, F_X12_night_0, T_isBelow_2, T_isBelow_3, T_isBelow_4, T_isBelow_6, T_isBelow_8, T_isBelow_9, T_isBelow_10, T_isBelow_12, T_isBelow_16, T_isBelow_17, T_isBelow_31, T_isBelow_64, T_isBelow_256, T_isBelow_65536, T_in_1, T_in_2, T_in_3, T_in_4, T_in_5, T_in_8, T_in_11, T_in_16, T_in_30, T_in_63, T_in_255, T_in_65535, T_isIsland, T_isEight, bd_s, nm_s, bI_0, gd_n, gd_01, nI_cl, nI_add, nI_1, m4, Bool.false_eq_true, and_self, true_and, and_true, true_or, or_true, or_self, false_or, or_false, gd_T, not_true_eq_false, not_false_eq_true, ↓reduceIte, h1, m2p, T_isPlace w0 w3p, h2, m4p, eq_lit, if_neg]
  have E3 := T_nightGoes (d' := d) hL (f1.eqOn (by decide)) w0 hh hx hg hd8 hs8 (EM_self (f1.EM (by decide) w3))
  obtain ⟨a, υ, e3, rfl, f2, k2⟩ := E3
  refine Both.mk e1 (E2.trans (by rw [e3, bd_s])) ?_
  refine Rel_W hn hR ((f1.eqOn (by decide)).tr (f2.eqOn (by decide))) ⟨_, WOK_set w0 (mvN_lt hh) nxX_lt (show wNig W + 1 ≤ 600 by omega) (show d ≤ 8 by omega) (Nat.le_of_lt (syN_lt (mvN_lt hh))), Nat.succ_le_succ w1, ?_, k2⟩
  exact f2.EC (by decide) k1
/-- nights tried: h, x, said, truths, moves -/
noncomputable def trN (σ0 : zSt) (W : zWo) : Nat → Nat × Nat × Nat × Nat × Nat
  | 0 => (wHea W, wX W, wSai W, 0, 0)
  | k + 1 =>
    (mvN σ0 W (wNig W + k) (trN σ0 W k).1 (trN σ0 W k).2.2.1 (trN σ0 W k).2.2.1 (nxX (trN σ0 W k).2.1 % 10), nxX (trN σ0 W k).2.1,
      syN σ0 W (wNig W + k) (mvN σ0 W (wNig W + k) (trN σ0 W k).1 (trN σ0 W k).2.2.1 (trN σ0 W k).2.2.1 (nxX (trN σ0 W k).2.1 % 10)) (trN σ0 W k).2.2.1 (trN σ0 W k).2.2.1 (nxX (trN σ0 W k).2.1 % 10),
      (trN σ0 W k).2.2.2.1 + (if syN σ0 W (wNig W + k) (mvN σ0 W (wNig W + k) (trN σ0 W k).1 (trN σ0 W k).2.2.1 (trN σ0 W k).2.2.1 (nxX (trN σ0 W k).2.1 % 10)) (trN σ0 W k).2.2.1 (trN σ0 W k).2.2.1 (nxX (trN σ0 W k).2.1 % 10) = mvN σ0 W (wNig W + k) (trN σ0 W k).1 (trN σ0 W k).2.2.1 (trN σ0 W k).2.2.1 (nxX (trN σ0 W k).2.1 % 10) then 1 else 0),
      (trN σ0 W k).2.2.2.2 + (if (trN σ0 W k).1 = mvN σ0 W (wNig W + k) (trN σ0 W k).1 (trN σ0 W k).2.2.1 (trN σ0 W k).2.2.1 (nxX (trN σ0 W k).2.1 % 10) then 0 else 1))
theorem trN_b {σ0 : zSt} {W : zWo} (hW : WOK W) : ∀ k, (trN σ0 W k).1 < 8 ∧ (trN σ0 W k).2.1 < 65536 ∧ (trN σ0 W k).2.2.1 ≤ 8 := by
  intro k
  induction k with
  | zero => exact ⟨hW.hea, hW.2.2.2.2.2.2.2.2.2.2.2.2.2, hW.2.2.2.2.2.2.2.2.2.2.2.2.1⟩
  | succ k ih => exact ⟨mvN_lt ih.1, nxX_lt, Nat.le_of_lt (syN_lt (mvN_lt ih.1))⟩
theorem nI_ite {a b : Nat} (ha : a < 2147483648) (hb : b < 2147483648) {u v : Nat} : (if nI a = nI b then nI u else nI v) = nI (if a = b then u else v) := by
  by_cases h : a = b
  · rw [if_pos h, if_pos (by rw [h])]
  · rw [if_neg h, if_neg (fun q => h ((nI_eq ha hb).mp q))]
theorem fr_fix {L : List Nat} {σ τ : zSt} (h : fr L (SM ++ SN) σ τ) (a2 : τ.1 69 2 = σ.1 69 2) (a3 : τ.1 69 3 = σ.1 69 3) (a4 : τ.1 69 4 = σ.1 69 4) (a5 : τ.1 69 5 = σ.1 69 5) (a6 : τ.1 69 6 = σ.1 69 6) : fr L SM σ τ := by
  refine ⟨fun c j h1 h2 => ?_, h.2⟩
  by_cases q : (c, j) ∈ SN
  · simp only [SN, List.mem_cons, List.not_mem_nil, or_false, Prod.mk.injEq] at q
    rcases q with ⟨rfl, rfl⟩ | ⟨rfl, rfl⟩ | ⟨rfl, rfl⟩ | ⟨rfl, rfl⟩ | ⟨rfl, rfl⟩ <;> assumption
  · exact h.1 c j h1 (fun r => (List.mem_append.mp r).elim h2 q)
noncomputable def trA (σ0 : zSt) (W : zWo) (N : Nat) (x2 : Int32) : Int32 := if x2 = 0 then nI (trN σ0 W N).1 else (if x2 = 1 then nI (trN σ0 W N).2.2.1 else (if x2 = 2 then nI (trN σ0 W N).2.2.2.1 else nI (trN σ0 W N).2.2.2.2))
theorem T_trial {W : zWo} {σ0 σ : zSt} (hL : RLw σ0) (hs : eqOn rowsL slotsL σ0 σ) (hW : WOK W) (hC : EC 1 2 W σ) {N : Nat} (hN : N ≤ 20) (x2 : Int32) : wp (F_X3_trial (nI N) x2 σ) (fun a τ => a = trA σ0 W N x2 ∧ fr [16, 24, 25] [] σ τ) := by
  unfold F_X3_trial F_X3_trial_0
  rw [T_begin hC, bd_s]
  have f1 : fr [16, 24, 25] [] σ (zwr (zwr (zwr (zwr σ 24 3 (nI (wHea W))) 24 4 (nI (wNig W))) 24 5 (nI (wSai W))) 24 6 (nI (wX W))) := (((fr_w (Or.inl (by decide))).w (Or.inl (by decide))).w (Or.inl (by decide))).w (Or.inl (by decide))
  refine wp_for (fun k s => s.1 = nI (trN σ0 W k).2.2.2.1 ∧ s.2.1 = nI (trN σ0 W k).2.2.2.2 ∧ s.2.2.1 = nI k ∧ fr [16, 24, 25] [] σ s.2.2.2 ∧ s.2.2.2.1 24 3 = nI (trN σ0 W k).1 ∧ s.2.2.2.1 24 4 = nI (wNig W + k) ∧ s.2.2.2.1 24 5 = nI (trN σ0 W k).2.2.1 ∧ s.2.2.2.1 24 6 = nI (trN σ0 W k).2.1) N (by omega) (fun k w s hk hI hw => ?_) (fun w s hI => ?_) ⟨rfl, rfl, rfl, f1, ?_, ?_, ?_, ?_⟩
  · obtain ⟨x3, x4, x5, τ⟩ := s
    obtain ⟨i1, i2, i3, i4, i5, i6, i7, i8⟩ := hI
    simp only at i1 i2 i3 i4 i5 i6 i7 i8
    subst i1 i2 i3
    show wp (F_X3_trial_12 (nI N) x2 w _ _ (nI k) τ) _
    obtain ⟨b1, b2, b3⟩ := trN_b (σ0 := σ0) hW k
    unfold F_X3_trial_12
    rw [if_neg (by rw [nI_lep (by omega)]; omega), i7]
    refine wp_bd2 (T_pass hL (hs.tr (i4.eqOn (by decide))) hW (i4.EC (by decide) hC) b1 b2 i5 i6 i7 i8) (fun _ υ hυ => ?_)
    obtain ⟨a1, a2, a3, a4, a5⟩ := hυ
    have m8 : mvN σ0 W (wNig W + k) (trN σ0 W k).1 (trN σ0 W k).2.2.1 (trN σ0 W k).2.2.1 (nxX (trN σ0 W k).2.1 % 10) < 8 := mvN_lt b1
    have s8 : syN σ0 W (wNig W + k) (mvN σ0 W (wNig W + k) (trN σ0 W k).1 (trN σ0 W k).2.2.1 (trN σ0 W k).2.2.1 (nxX (trN σ0 W k).2.1 % 10)) (trN σ0 W k).2.2.1 (trN σ0 W k).2.2.1 (nxX (trN σ0 W k).2.1 % 10) < 8 := syN_lt m8
    simp only [nm_s, a2, a4, i5, show (1 : Int32) = nI 1 from rfl, show (0 : Int32) = nI 0 from rfl]
    rw [nI_ite (by omega) (by omega), nI_ite (by omega) (by omega), nI_add, nI_add, nI_add]
    exact hw _ ⟨rfl, rfl, rfl, i4.tr a1, a2, a3, a4, a5⟩
  · obtain ⟨x3, x4, x5, τ⟩ := s
    obtain ⟨i1, i2, i3, i4, i5, i6, i7, i8⟩ := hI
    simp only at i1 i2 i3 i4 i5 i6 i7 i8
    subst i1 i2 i3
    show wp (F_X3_trial_12 (nI N) x2 w _ _ (nI N) τ) _
    unfold F_X3_trial_12 F_X3_trial_76 trA
    rw [if_pos (by rw [nI_lep (by omega)]; omega), i5, i7]
    split
    · exact wp_some ⟨rfl, i4⟩
    · split
      · exact wp_some ⟨rfl, i4⟩
      · split <;> exact wp_some ⟨rfl, i4⟩
  · simp only [zwr_r, upd_r, Nat.reduceEqDiff, ↓reduceIte]
    rfl
  · simp only [zwr_r, upd_r, Nat.reduceEqDiff, ↓reduceIte, Nat.add_zero]
  · simp only [zwr_r, upd_r, Nat.reduceEqDiff, ↓reduceIte]
    rfl
  · simp only [zwr_r, upd_r, Nat.reduceEqDiff, ↓reduceIte]
    rfl
theorem T_triedM {W : zWo} {σ0 σ : zSt} (hL : RLw σ0) (hs : eqOn rowsL slotsL σ0 σ) (hW : WOK W) (hM : EM 70 0 W σ) (hg : wNig W ≤ 512) {N : Nat} (hN : N ≤ 20) (x2 : Int32) : wp (zfix (F_X12_tried_82L (nI N) x2 (σ.1 69 2) (σ.1 69 3) (σ.1 69 4) (σ.1 69 5) (σ.1 69 6)) zlim ((0 : Int32), (0 : Int32), (0 : Int32), σ)) (fun a τ => a = trA σ0 W N x2 ∧ fr [88, 89] SM σ τ) := by
  refine wp_for (fun k s => s.1 = nI (trN σ0 W k).2.2.2.1 ∧ s.2.1 = nI (trN σ0 W k).2.2.2.2 ∧ s.2.2.1 = nI k ∧ fr [88, 89] (SM ++ SN) σ s.2.2.2 ∧ ∃ d, d ≤ 8 ∧ EM 70 0 (setW W (trN σ0 W k).1 (trN σ0 W k).2.1 (wNig W + k) d (trN σ0 W k).2.2.1) s.2.2.2) N (by omega) (fun k w s hk hI hw => ?_) (fun w s hI => ?_) ⟨rfl, rfl, rfl, fr.rf, wDus W, hW.2.2.2.2.2.2.2.2.2.2.2.1, EM_self hM⟩
  · obtain ⟨x8, x9, x10, τ⟩ := s
    obtain ⟨i1, i2, i3, i4, d, hd, i5⟩ := hI
    simp only at i1 i2 i3 i4 i5
    subst i1 i2 i3
    show wp (F_X12_tried_82 (nI N) x2 _ _ _ _ _ w _ _ (nI k) τ) _
    obtain ⟨b1, b2, b3⟩ := trN_b (σ0 := σ0) hW k
    obtain ⟨e2, e3, e4, e5, e6⟩ := EM_get i5
    unfold F_X12_tried_82
    rw [if_neg (by rw [nI_lep (by omega)]; omega), e6, e2]
    refine wp_bd2 (T_nightGoes (d' := (trN σ0 W k).2.2.1) hL (hs.tr (i4.eqOn (by decide))) hW b1 b2 (by omega) hd b3 i5) (fun a υ hυ => ?_)
    obtain ⟨-, a1, a2⟩ := hυ
    obtain ⟨g2, g3, g4, g5, g6⟩ := EM_get a2
    have m8 : mvN σ0 W (wNig W + k) (trN σ0 W k).1 (trN σ0 W k).2.2.1 (trN σ0 W k).2.2.1 (nxX (trN σ0 W k).2.1 % 10) < 8 := mvN_lt b1
    have s8 : syN σ0 W (wNig W + k) (mvN σ0 W (wNig W + k) (trN σ0 W k).1 (trN σ0 W k).2.2.1 (trN σ0 W k).2.2.1 (nxX (trN σ0 W k).2.1 % 10)) (trN σ0 W k).2.2.1 (trN σ0 W k).2.2.1 (nxX (trN σ0 W k).2.1 % 10) < 8 := syN_lt m8
    simp only [nm_s, g2, g6, show (1 : Int32) = nI 1 from rfl, show (0 : Int32) = nI 0 from rfl]
    rw [nI_ite (by omega) (by omega), nI_ite (by omega) (by omega), nI_add, nI_add, nI_add]
    refine hw _ ⟨rfl, ?_, rfl, i4.tr (a1.mono (by decide)), (trN σ0 W k).2.2.1, b3, a2⟩
    show nI _ = nI ((trN σ0 W k).2.2.2.2 + _)
    simp only [eq_comm]
  · obtain ⟨x8, x9, x10, τ⟩ := s
    obtain ⟨i1, i2, i3, i4, d, hd, i5⟩ := hI
    simp only at i1 i2 i3 i4 i5
    subst i1 i2 i3
    show wp (F_X12_tried_82 (nI N) x2 _ _ _ _ _ w _ _ (nI N) τ) _
    obtain ⟨e2, e3, e4, e5, e6⟩ := EM_get i5
    unfold F_X12_tried_82 F_X12_tried_149
    rw [if_pos (by rw [nI_lep (by omega)]; omega)]
    simp only [nm_s, e2, e6]
    refine wp_some ⟨rfl, fr_fix (((((i4.w (Or.inr (by decide))).w (Or.inr (by decide))).w (Or.inr (by decide))).w (Or.inr (by decide))).w (Or.inr (by decide))) ?_ ?_ ?_ ?_ ?_⟩
    all_goals simp only [zwr_r, upd_r, Nat.reduceEqDiff, ↓reduceIte]
theorem T_in_20 {x : Int32} {σ : zSt} : F_X12_in x 1 20 σ = some (bI (1 ≤ x.toInt ∧ x.toInt ≤ 20), σ) := T_in
theorem s_tried {n : Nat} {σ : zSt} (hn : n < 512) (hR : Rel n σ) (x1 x2 : Int32) : Both n (F_X11_tried x1 x2) (F_X12_tried x1 x2) σ := by
  obtain ⟨-, ⟨W, w0, w1, w2, w3⟩, -, -, hL, -⟩ := id hR
  have m2 : σ.1 69 2 = nI (wHea W) := w3.2.2.2.2.2.2.2.2.1
  have m4 : σ.1 69 4 = nI (wNig W) := w3.2.2.2.2.2.2.2.2.2.1
  have c9 : σ.1 1 9 = nI (wNig W) := w2.2.2.2.2.2.2.2.2.2.1
  by_cases h1 : 1 ≤ x1.toInt ∧ x1.toInt ≤ 20
  rotate_left
  · refine Both.no (-1) hn hR ?_ (by simp (disch := omega) only [F_X12_tried, F_X12_tried_0, T_isBelow_2, T_isBelow_3, T_isBelow_4, T_isBelow_6, T_isBelow_8, T_isBelow_9, T_isBelow_10, T_isBelow_12, T_isBelow_16, T_isBelow_17, T_isBelow_31, T_isBelow_64, T_isBelow_256, T_isBelow_65536, T_in_1, T_in_2, T_in_3, T_in_4, T_in_5, T_in_8, T_in_11, T_in_16, T_in_30, T_in_63, T_in_255, T_in_65535, T_isIsland, T_isEight, bd_s, nm_s, bI_0, gd_n, gd_01, nI_cl, nI_add, nI_1, m4, Bool.false_eq_true, and_self, true_and, and_true, true_or, or_true, or_self, false_or, or_false, gd_T, not_true_eq_false, not_false_eq_true, ↓reduceIte, h1, T_in_20])
    unfold F_X11_tried F_X11_tried_0
    have a : (1 : Int32).toInt = 1 := rfl
    have b : (20 : Int32).toInt = 20 := rfl
    by_cases q : x1 < 1
    · rw [if_pos q]
    · rw [if_neg q, if_pos (by rw [i_lt] at q ⊢; omega)]
  obtain ⟨N, hN, rfl⟩ := i_of (n := 21) (x := x1) (by omega) (by omega)
  have h1' := h1
  rw [i_nI (by omega)] at h1'
  have hN1 : 1 ≤ N := by omega
  by_cases h2 : bel x2 4
  rotate_left
  · exact Both.no (-1) hn hR (by simp (disch := omega) only [F_X11_tried, F_X11_tried_0, T_isBelow_2, T_isBelow_3, T_isBelow_4, T_isBelow_6, T_isBelow_8, T_isBelow_9, T_isBelow_10, T_isBelow_12, T_isBelow_16, T_isBelow_17, T_isBelow_31, T_isBelow_64, T_isBelow_256, T_isBelow_65536, T_in_1, T_in_2, T_in_3, T_in_4, T_in_5, T_in_8, T_in_11, T_in_16, T_in_30, T_in_63, T_in_255, T_in_65535, T_isIsland, T_isEight, bd_s, nm_s, bI_0, gd_n, gd_01, nI_cl, nI_add, nI_1, m4, Bool.false_eq_true, and_self, true_and, and_true, true_or, or_true, or_self, false_or, or_false, gd_T, not_true_eq_false, not_false_eq_true, ↓reduceIte, h2, lt_lit, lit_lt, if_neg]) (by simp (disch := omega) only [F_X12_tried, F_X12_tried_0, T_isBelow_2, T_isBelow_3, T_isBelow_4, T_isBelow_6, T_isBelow_8, T_isBelow_9, T_isBelow_10, T_isBelow_12, T_isBelow_16, T_isBelow_17, T_isBelow_31, T_isBelow_64, T_isBelow_256, T_isBelow_65536, T_in_1, T_in_2, T_in_3, T_in_4, T_in_5, T_in_8, T_in_11, T_in_16, T_in_30, T_in_63, T_in_255, T_in_65535, T_isIsland, T_isEight, bd_s, nm_s, bI_0, gd_n, gd_01, nI_cl, nI_add, nI_1, m4, Bool.false_eq_true, and_self, true_and, and_true, true_or, or_true, or_self, false_or, or_false, gd_T, not_true_eq_false, not_false_eq_true, ↓reduceIte, h1, h2, T_in_20])
  by_cases h3 : isT W (nI (wHea W))
  rotate_left
  · exact Both.no (-1) hn hR (by simp (disch := omega) only [F_X11_tried, F_X11_tried_0, T_isBelow_2, T_isBelow_3, T_isBelow_4, T_isBelow_6, T_isBelow_8, T_isBelow_9, T_isBelow_10, T_isBelow_12, T_isBelow_16, T_isBelow_17, T_isBelow_31, T_isBelow_64, T_isBelow_256, T_isBelow_65536, T_in_1, T_in_2, T_in_3, T_in_4, T_in_5, T_in_8, T_in_11, T_in_16, T_in_30, T_in_63, T_in_255, T_in_65535, T_isIsland, T_isEight, bd_s, nm_s, bI_0, gd_n, gd_01, nI_cl, nI_add, nI_1, m4, Bool.false_eq_true, and_self, true_and, and_true, true_or, or_true, or_self, false_or, or_false, gd_T, not_true_eq_false, not_false_eq_true, ↓reduceIte, h2, lt_lit, lit_lt, if_neg, T_heart w0 w2, h3]) (by simp (disch := omega) only [F_X12_tried, F_X12_tried_0, T_isBelow_2, T_isBelow_3, T_isBelow_4, T_isBelow_6, T_isBelow_8, T_isBelow_9, T_isBelow_10, T_isBelow_12, T_isBelow_16, T_isBelow_17, T_isBelow_31, T_isBelow_64, T_isBelow_256, T_isBelow_65536, T_in_1, T_in_2, T_in_3, T_in_4, T_in_5, T_in_8, T_in_11, T_in_16, T_in_30, T_in_63, T_in_255, T_in_65535, T_isIsland, T_isEight, bd_s, nm_s, bI_0, gd_n, gd_01, nI_cl, nI_add, nI_1, m4, Bool.false_eq_true, and_self, true_and, and_true, true_or, or_true, or_self, false_or, or_false, gd_T, not_true_eq_false, not_false_eq_true, ↓reduceIte, h1, h2, T_in_20, m2, T_isPlace w0 w3, h3])
  have hsub : (9999 : Int32) - nI N = nI (9999 - N) := pk_sub (a := 9999) (by omega)
  have E1 : F_X11_tried (nI N) x2 σ = bd (F_X3_trial (nI N) x2 σ) (fun q13 s12 => some (q13, s12)) := by
    simp (disch := omega) only [F_X11_tried, F_X11_tried_0, T_isBelow_2, T_isBelow_3, T_isBelow_4, T_isBelow_6, T_isBelow_8, T_isBelow_9, T_isBelow_10, T_isBelow_12, T_isBelow_16, T_isBelow_17, T_isBelow_31, T_isBelow_64, T_isBelow_256, T_isBelow_65536, T_in_1, T_in_2, T_in_3, T_in_4, T_in_5, T_in_8, T_in_11, T_in_16, T_in_30, T_in_63, T_in_255, T_in_65535, T_isIsland, T_isEight, bd_s, nm_s, bI_0, gd_n, gd_01, nI_cl, nI_add, nI_1, m4, Bool.false_eq_true, and_self, true_and, and_true, true_or, or_true, or_self, false_or, or_false, gd_T, not_true_eq_false, not_false_eq_true, ↓reduceIte, h2, lt_lit, lit_lt, if_neg, T_heart w0 w2, h3, hsub, c9, nI_lep, if_pos]
  refine Both.fr (trA σ W N x2) hn hR ?_ (fun τ hτ f1 => ?_)
  · rw [E1]
    refine wp_bd2 (T_trial hL eqOn.rf w0 w2 (by omega) x2) (fun a τ h => ?_)
    exact wp_some ⟨h.1, h.2.mono (by decide)⟩
  · have w3' : EM 70 0 W τ := f1.EM (by decide) w3
    have m2' : τ.1 69 2 = nI (wHea W) := w3'.2.2.2.2.2.2.2.2.1
    have m4' : τ.1 69 4 = nI (wNig W) := w3'.2.2.2.2.2.2.2.2.2.1
    have E2 : F_X12_tried (nI N) x2 τ = zfix (F_X12_tried_82L (nI N) x2 (τ.1 69 2) (τ.1 69 3) (τ.1 69 4) (τ.1 69 5) (τ.1 69 6)) zlim ((0 : Int32), (0 : Int32), (0 : Int32), τ) := by
      unfold F_X12_tried F_X12_tried_0
      rw [T_in_20, bd_s, bI_t h1, if_neg (by decide), T_in_3, bd_s, bI_t h2, if_neg (by decide), m2', T_isPlace w0 w3', bd_s, bI_t h3, if_neg (by decide), m4', nI_add, if_pos (by rw [le_lit (by omega)]; omega), m2']
    rw [E2]
    refine wp_mono (T_triedM hL (f1.eqOn (by decide)) w0 w3' (by omega) (by omega) x2) (fun a υ h => ⟨h.1, h.2.mono (by decide)⟩)
/-! PURE: the wood -/
theorem php : ∀ (n : Nat) (f : Nat → Nat), (∀ k, k ≤ n → f k < n) → ∃ a b, a < b ∧ b ≤ n ∧ f a = f b := by
  intro n
  induction n with
  | zero =>
    intro f h
    exact absurd (h 0 (Nat.le_refl 0)) (Nat.not_lt_zero _)
  | succ n ih =>
    intro f h
    by_cases q : ∃ k, k ≤ n ∧ f k = f (n + 1)
    · obtain ⟨k, h1, h2⟩ := q
      exact ⟨k, n + 1, by omega, Nat.le_refl _, h2⟩
    · have hl : f (n + 1) < n + 1 := h (n + 1) (Nat.le_refl _)
      have hg : ∀ k, k ≤ n → (if f k = n then f (n + 1) else f k) < n := by
        intro k hk
        have h3 : f k < n + 1 := h k (by omega)
        have h4 : f k ≠ f (n + 1) := fun r => q ⟨k, hk, r⟩
        split <;> omega
      obtain ⟨a, b, h5, h6, h7⟩ := ih (fun k => if f k = n then f (n + 1) else f k) hg
      refine ⟨a, b, h5, by omega, ?_⟩
      have h8 : f a ≠ f (n + 1) := fun r => q ⟨a, by omega, r⟩
      have h9 : f b ≠ f (n + 1) := fun r => q ⟨b, h6, r⟩
      simp only at h7
      split at h7 <;> split at h7 <;> omega
/-- whom one owes, m times on -/
def itO (ow : Nat → Option Nat) : Nat → Nat → Option Nat
  | 0, i => some i
  | m + 1, i => match ow i with
    | none => none
    | some j => itO ow m j
theorem itO_add (ow : Nat → Option Nat) : ∀ m k i, itO ow (m + k) i = match itO ow m i with | none => none | some j => itO ow k j := by
  intro m
  induction m with
  | zero => intro k i; rw [Nat.zero_add]; rfl
  | succ m ih =>
    intro k i
    rw [show m + 1 + k = (m + k) + 1 by omega]
    unfold itO
    cases h : ow i with
    | none => rfl
    | some j => exact ih k j
def WD (ow : Nat → Option Nat) : Prop := ∀ i j, i < 12 → ow i = some j → j < 12 ∧ j ≠ i
theorem itO_lt {ow : Nat → Option Nat} (h : WD ow) : ∀ m i j, i < 12 → itO ow m i = some j → j < 12 := by
  intro m
  induction m with
  | zero => intro i j hi e; cases e; exact hi
  | succ m ih =>
    intro i j hi e
    unfold itO at e
    cases q : ow i with
    | none => rw [q] at e; cases e
    | some k =>
      rw [q] at e
      exact ih k j (h i k hi q).1 e
/-- the ring of i: n if one is at i again after n steps first (fuel f, from o on) -/
def rgO (ow : Nat → Option Nat) (i : Nat) : Nat → Option Nat → Nat → Nat
  | 0, _, _ => 0
  | _ + 1, none, _ => 0
  | f + 1, some x, n => if x = i then n else rgO ow i f (ow x) (n + 1)
def rgW (ow : Nat → Option Nat) (i : Nat) : Nat := rgO ow i 12 (ow i) 1
theorem rgO_le (ow : Nat → Option Nat) (i : Nat) : ∀ f o n, rgO ow i f o n ≤ n + f := by
  intro f
  induction f with
  | zero => intro o n; exact Nat.zero_le _
  | succ f ih =>
    intro o n
    cases o with
    | none => exact Nat.zero_le _
    | some x =>
      unfold rgO
      split
      · omega
      · have := ih (ow x) (n + 1)
        omega
theorem rgW_le {ow : Nat → Option Nat} {i : Nat} : rgW ow i ≤ 13 := rgO_le ow i 12 (ow i) 1
/-- what a ring is -/
theorem rgO_some (ow : Nat → Option Nat) (i : Nat) : ∀ f o n r, rgO ow i f o n = r → 0 < r → ∃ m, r = n + m ∧ (∃ x, o = some x ∧ itO ow m x = some i) ∧ ∀ q, q < m → ∀ x, o = some x → itO ow q x ≠ some i := by
  intro f
  induction f with
  | zero => intro o n r h1 h2; unfold rgO at h1; omega
  | succ f ih =>
    intro o n r h1 h2
    cases o with
    | none => unfold rgO at h1; omega
    | some x =>
      unfold rgO at h1
      by_cases q : x = i
      · rw [if_pos q] at h1
        exact ⟨0, by omega, ⟨x, rfl, by rw [q]; rfl⟩, fun k hk => by omega⟩
      · rw [if_neg q] at h1
        obtain ⟨m, a, ⟨y, b1, b2⟩, c⟩ := ih (ow x) (n + 1) r h1 h2
        refine ⟨m + 1, by omega, ⟨x, rfl, ?_⟩, fun k hk y' e => ?_⟩
        · unfold itO
          rw [b1]
          exact b2
        · cases e
          cases k with
          | zero => intro e; cases e; exact q rfl
          | succ k =>
            unfold itO
            rw [b1]
            exact c k (by omega) y b1
theorem rgO_pos (ow : Nat → Option Nat) (i : Nat) : ∀ f o n m, 0 < n → m < f → (∃ x, o = some x ∧ itO ow m x = some i) → 0 < rgO ow i f o n := by
  intro f
  induction f with
  | zero => intro o n m _ h; omega
  | succ f ih =>
    intro o n m hn hm ⟨x, e1, e2⟩
    subst e1
    unfold rgO
    by_cases q : x = i
    · rw [if_pos q]
      exact hn
    · rw [if_neg q]
      cases m with
      | zero => cases e2; exact absurd rfl q
      | succ m =>
        unfold itO at e2
        cases r : ow x with
        | none => rw [r] at e2; cases e2
        | some y =>
          rw [r] at e2
          exact ih (some y) (n + 1) m (by omega) (by omega) ⟨y, rfl, e2⟩
theorem rgW_pos {ow : Nat → Option Nat} {i m : Nat} (h1 : 0 < m) (h2 : m ≤ 12) (h : itO ow m i = some i) : 0 < rgW ow i := by
  obtain ⟨m, rfl⟩ : ∃ k, m = k + 1 := ⟨m - 1, by omega⟩
  unfold itO at h
  cases r : ow i with
  | none => rw [r] at h; cases h
  | some y =>
    rw [r] at h
    exact rgO_pos ow i 12 (ow i) 1 m (by decide) (by omega) ⟨y, r, h⟩
/-- one comes to a ring or to an end within eleven steps -/
theorem itO_end {ow : Nat → Option Nat} (hw : WD ow) {i : Nat} (hi : i < 12) : ∃ k x, k ≤ 11 ∧ itO ow k i = some x ∧ (0 < rgW ow x ∨ ow x = none) := by
  refine Classical.byContradiction (fun hno => ?_)
  have all : ∀ k, k ≤ 12 → ∃ x, itO ow k i = some x := by
    intro k
    induction k with
    | zero => intro _; exact ⟨i, rfl⟩
    | succ k ih =>
      intro hk
      obtain ⟨x, hx⟩ := ih (by omega)
      rw [itO_add, hx]
      cases r : ow x with
      | none => exact absurd ⟨k, x, by omega, hx, Or.inr r⟩ hno
      | some y =>
        refine ⟨y, ?_⟩
        show itO ow 1 x = some y
        unfold itO
        rw [r]
        rfl
  obtain ⟨a, b, h1, h2, h3⟩ := php 12 (fun k => (itO ow k i).getD 0) (fun k hk => by
    obtain ⟨x, hx⟩ := all k hk
    show (itO ow k i).getD 0 < 12
    rw [hx]
    exact itO_lt hw k i x hi hx)
  obtain ⟨x, hx⟩ := all a (by omega)
  obtain ⟨y, hy⟩ := all b h2
  simp only [hx, hy, Option.getD_some] at h3
  subst h3
  have e : itO ow (b - a) x = some x := by
    have := itO_add ow a (b - a) i
    rw [hx, show a + (b - a) = b by omega, hy] at this
    exact this.symm
  exact hno ⟨a, x, by omega, hx, Or.inl (rgW_pos (by omega) (by omega) e)⟩
def WO (ow : Nat → Option Nat) (σ : zSt) : Prop := ∀ i, i < 12 → (∀ j, ow i = some j → j < 12 ∧ j ≠ i) ∧ σ.1 68 i = e1 (ow i) ∧ σ.1 104 i = e1 (ow i)
theorem WO.wd {ow : Nat → Option Nat} {σ : zSt} (h : WO ow σ) : WD ow := fun i j hi e => (h i hi).1 j e
theorem T_ringM {ow : Nat → Option Nat} {σ : zSt} (h : WO ow σ) {i : Nat} (hi : i < 12) : F_X12_ringOf (nI i) σ = some (nI (rgW ow i), σ) := by
  unfold F_X12_ringOf F_X12_ringOf_0
  rw [gd_n ⟨hi, by decide⟩, nI_cl (by omega), (h i hi).2.2, nm_s]
  have key : ∀ f fu n o, n + f = 13 → f < fu → (∀ x, o = some x → x < 12) → zfix (F_X12_ringOf_9L (nI i)) fu (e1 o, nI n, σ) = some (nI (rgO ow i f o n), σ) := by
    intro f
    induction f with
    | zero =>
      intro fu n o hn hf ho
      obtain ⟨fu, rfl⟩ : ∃ q, fu = q + 1 := ⟨fu - 1, by omega⟩
      show F_X12_ringOf_9 (nI i) (zfix (F_X12_ringOf_9L (nI i)) fu) (e1 o) (nI n) σ = _
      unfold F_X12_ringOf_9
      simp (disch := omega) only [lit_lt, if_pos, rgO]
      rfl
    | succ f ih =>
      intro fu n o hn hf ho
      obtain ⟨fu, rfl⟩ : ∃ q, fu = q + 1 := ⟨fu - 1, by omega⟩
      show F_X12_ringOf_9 (nI i) (zfix (F_X12_ringOf_9L (nI i)) fu) (e1 o) (nI n) σ = _
      unfold F_X12_ringOf_9
      simp (disch := omega) only [lit_lt, if_neg]
      cases o with
      | none =>
        rw [if_pos (show e1 none = -1 from rfl)]
        rfl
      | some x =>
        have hx := ho x rfl
        rw [if_neg (show ¬ e1 (some x) = -1 from e1_n (by omega))]
        unfold rgO
        by_cases q : x = i
        · rw [if_pos (show e1 (some x) = nI i by rw [q]; rfl), if_pos q]
        · rw [if_neg (show ¬ e1 (some x) = nI i from fun r => q ((nI_eq (by omega) (by omega)).mp r)), if_neg q]
          simp (disch := omega) only [e1, gd_n, nI_cl, nm_s, nI_1]
          rw [(h x hx).2.2]
          exact ih fu (n + 1) (ow x) (by omega) (by omega) (fun y hy => ((h x hx).1 y hy).1)
  exact key 12 zlim 1 (ow i) rfl (by show 12 < 1000000; omega) (fun y hy => ((h i hi).1 y hy).1)
theorem T_ringC {ow : Nat → Option Nat} {σ : zSt} (h : WO ow σ) {i : Nat} (hi : i < 12) : F_X9_ringOf (nI i) σ = some (nI (rgW ow i), σ) := by
  unfold F_X9_ringOf F_X9_ringOf_0
  have key : ∀ f fu n x, n + f = 13 → f + 2 < fu → x < 12 → zfix (F_X9_ringOf_4L (nI i)) fu (nI x, nI n, σ) = some (nI (rgO ow i f (ow x) n), σ) := by
    intro f
    induction f with
    | zero =>
      intro fu n x hn hf hx
      obtain ⟨fu, rfl⟩ : ∃ q, fu = q + 1 := ⟨fu - 1, by omega⟩
      show F_X9_ringOf_4 (nI i) (zfix (F_X9_ringOf_4L (nI i)) fu) (nI x) (nI n) σ = _
      unfold F_X9_ringOf_4
      simp (disch := omega) only [lit_lt, if_pos, rgO]
      rfl
    | succ f ih =>
      intro fu n x hn hf hx
      obtain ⟨fu, rfl⟩ : ∃ q, fu = q + 1 := ⟨fu - 1, by omega⟩
      show F_X9_ringOf_4 (nI i) (zfix (F_X9_ringOf_4L (nI i)) fu) (nI x) (nI n) σ = _
      unfold F_X9_ringOf_4
      have hb : bel (nI x) 12 := bel_t (by omega)
      rw [T_isBelow_12, bd_s, bI_t hb, if_neg (show ¬ (1 : Int32) = 0 by decide)]
      simp (disch := omega) only [lit_lt, if_neg, gd_n, nI_cl, nm_s, nI_1]
      rw [(h x hx).2.1]
      cases q : ow x with
      | none =>
        rw [if_neg (show ¬ e1 none = nI i from fun r => e1_n (k := i) (by omega) r.symm)]
        obtain ⟨fu, rfl⟩ : ∃ q, fu = q + 1 := ⟨fu - 1, by omega⟩
        show F_X9_ringOf_4 (nI i) (zfix (F_X9_ringOf_4L (nI i)) fu) (-1) (nI (n + 1)) σ = _
        unfold F_X9_ringOf_4
        rw [T_isBelow_12, bd_s, bI_f bel_m1, if_pos (show (0 : Int32) = 0 from rfl)]
        by_cases z : (12 : Int32) < nI (n + 1)
        · rw [if_pos z]
          rfl
        · rw [if_neg z]
          rfl
      | some y =>
        have hy := ((h x hx).1 y q).1
        unfold rgO
        by_cases z : y = i
        · rw [if_pos (show e1 (some y) = nI i by rw [z]; rfl), if_pos z]
        · rw [if_neg (show ¬ e1 (some y) = nI i from fun r => z ((nI_eq (by omega) (by omega)).mp r)), if_neg z]
          exact ih fu (n + 1) y (by omega) (by omega) hy
  exact key 12 zlim 1 i rfl (by show 14 < 1000000; omega) hi
/-- the walk to a ring or an end: steps, and whether it is a ring -/
def wkO (ow : Nat → Option Nat) : Nat → Nat → Nat → Nat × Nat
  | 0, _, _ => (0, 0)
  | f + 1, x, s => if 0 < rgW ow x then (s, 1) else match ow x with
    | none => (s, 0)
    | some y => wkO ow f y (s + 1)
theorem pos_if {a : Nat} (ha : a < 2147483648) : (if nI a ≤ 0 then (0 : Int32) else 1) = bI (0 < a) := by
  by_cases h : 0 < a
  · rw [bI_t h, if_neg (by rw [show (0 : Int32) = nI 0 from rfl, nI_lep (by omega)]; omega)]
  · rw [bI_f h, if_pos (by rw [show (0 : Int32) = nI 0 from rfl, nI_lep (by omega)]; omega)]
theorem T_walkC {ow : Nat → Option Nat} {σ : zSt} (h : WO ow σ) {i : Nat} (hi : i < 12) (x2 : Int32) : F_X9_walk (nI i) x2 σ = some ((if x2 = 0 then nI (wkO ow 12 i 0).1 else nI (wkO ow 12 i 0).2), σ) := by
  unfold F_X9_walk F_X9_walk_0
  have key : ∀ f fu s x, s + f = 12 → f < fu → x < 12 → zfix (F_X9_walk_5L x2) fu (nI x, nI s, σ) = some ((if x2 = 0 then nI (wkO ow f x s).1 else nI (wkO ow f x s).2), σ) := by
    intro f
    induction f with
    | zero =>
      intro fu s x hn hf hx
      obtain ⟨fu, rfl⟩ : ∃ q, fu = q + 1 := ⟨fu - 1, by omega⟩
      show F_X9_walk_5 x2 (zfix (F_X9_walk_5L x2) fu) (nI x) (nI s) σ = _
      unfold F_X9_walk_5
      simp (disch := omega) only [lit_le, if_pos, wkO]
      split <;> rfl
    | succ f ih =>
      intro fu s x hn hf hx
      obtain ⟨fu, rfl⟩ : ∃ q, fu = q + 1 := ⟨fu - 1, by omega⟩
      show F_X9_walk_5 x2 (zfix (F_X9_walk_5L x2) fu) (nI x) (nI s) σ = _
      have hb : bel (nI x) 12 := bel_t (by omega)
      have hl := rgW_le (ow := ow) (i := x)
      unfold F_X9_walk_5 F_X9_walk_51
      rw [T_isBelow_12, bd_s, bI_t hb, if_neg (show ¬ (1 : Int32) = 0 by decide), T_ringC h hx, bd_s]
      simp (disch := omega) only [lit_le, if_neg, pos_if, nm_s]
      unfold wkO
      by_cases q : 0 < rgW ow x
      · rw [bI_t q, if_neg (show ¬ (1 : Int32) = 0 by decide), if_pos q]
        split <;> rfl
      · rw [bI_f q, if_pos (show (0 : Int32) = 0 from rfl), if_neg q]
        simp (disch := omega) only [gd_n, nI_cl, nI_1]
        rw [(h x hx).2.1]
        cases z : ow x with
        | none =>
          rw [if_pos (show e1 none = -1 from rfl)]
          split <;> rfl
        | some y =>
          rw [if_neg (show ¬ e1 (some y) = -1 from e1_n (by have := ((h x hx).1 y z).1; omega))]
          exact ih fu (s + 1) y (by omega) (by omega) ((h x hx).1 y z).1
  exact key 12 zlim 0 i rfl (by show 12 < 1000000; omega) hi
theorem T_walkM {ow : Nat → Option Nat} {σ : zSt} (h : WO ow σ) {i : Nat} (hi : i < 12) (x2 : Int32) : zfix (F_X12_rings_36L x2) zlim (nI i, (0 : Int32), σ) = some ((if x2 = 3 then nI (wkO ow 12 i 0).1 else nI (wkO ow 12 i 0).2), σ) := by
  have key : ∀ k f fu s x, k < f → f < fu → s + f = 12 → x < 12 → (∃ y, itO ow k x = some y ∧ (0 < rgW ow y ∨ ow y = none)) → zfix (F_X12_rings_36L x2) fu (nI x, nI s, σ) = some ((if x2 = 3 then nI (wkO ow f x s).1 else nI (wkO ow f x s).2), σ) := by
    intro k
    induction k with
    | zero =>
      intro f fu s x hk hf hs hx ⟨y, h1, h2⟩
      cases h1
      obtain ⟨fu, rfl⟩ : ∃ q, fu = q + 1 := ⟨fu - 1, by omega⟩
      obtain ⟨f, rfl⟩ : ∃ q, f = q + 1 := ⟨f - 1, by omega⟩
      show F_X12_rings_36 x2 (zfix (F_X12_rings_36L x2) fu) (nI x) (nI s) σ = _
      have hl := rgW_le (ow := ow) (i := x)
      unfold F_X12_rings_36 F_X12_rings_70 wkO
      rw [T_ringM h hx, bd_s]
      by_cases q : 0 < rgW ow x
      · rw [if_neg (nI_ne0 q (by omega)), if_pos q, T_ringM h hx, bd_s, if_neg (nI_nle q (by omega))]
        split <;> rfl
      · have q0 : rgW ow x = 0 := by omega
        have z := h2.resolve_left q
        rw [q0, if_pos (show nI 0 = 0 from rfl), gd_n ⟨hx, by decide⟩, nI_cl (by omega), (h x hx).2.2, z, if_pos (show e1 none = -1 from rfl), if_neg (show ¬ 0 < 0 by omega), T_ringM h hx, bd_s, q0, if_pos (show nI 0 ≤ 0 by decide)]
        split <;> rfl
    | succ k ih =>
      intro f fu s x hk hf hs hx ⟨y, h1, h2⟩
      obtain ⟨fu, rfl⟩ : ∃ q, fu = q + 1 := ⟨fu - 1, by omega⟩
      obtain ⟨f, rfl⟩ : ∃ q, f = q + 1 := ⟨f - 1, by omega⟩
      show F_X12_rings_36 x2 (zfix (F_X12_rings_36L x2) fu) (nI x) (nI s) σ = _
      have hl := rgW_le (ow := ow) (i := x)
      unfold F_X12_rings_36 F_X12_rings_70 wkO
      rw [T_ringM h hx, bd_s]
      by_cases q : 0 < rgW ow x
      · rw [if_neg (nI_ne0 q (by omega)), if_pos q, T_ringM h hx, bd_s, if_neg (nI_nle q (by omega))]
        split <;> rfl
      · have q0 : rgW ow x = 0 := by omega
        unfold itO at h1
        cases z : ow x with
        | none => rw [z] at h1; cases h1
        | some v =>
          rw [z] at h1
          have hv := ((h x hx).1 v z).1
          rw [q0, if_pos (show nI 0 = 0 from rfl), gd_n ⟨hx, by decide⟩, nI_cl (by omega), (h x hx).2.2, z, if_neg (show ¬ e1 (some v) = -1 from e1_n (by omega)), if_neg (show ¬ 0 < 0 by omega), gd_n ⟨hx, by decide⟩, nm_s, nm_s, nI_1]
          exact ih f fu (s + 1) v (by omega) (by omega) (by omega) hv ⟨y, h1, h2⟩
  obtain ⟨k, y, h1, h2, h3⟩ := itO_end h.wd hi
  exact key k 12 zlim 0 i (by omega) (by show 12 < 1000000; omega) rfl hi ⟨y, h2, h3⟩
/-- none of the ring is lower -/
def lowW (ow : Nat → Option Nat) (i j : Nat) : Prop := ∀ q, j ≤ q → q < rgW ow i → ∀ x, itO ow q i = some x → i ≤ x
theorem ring_path {ow : Nat → Option Nat} (hw : WD ow) {i : Nat} (hi : i < 12) (h : 0 < rgW ow i) : itO ow (rgW ow i) i = some i ∧ ∀ q, 0 < q → q < rgW ow i → ∃ x, itO ow q i = some x ∧ x < 12 ∧ x ≠ i := by
  obtain ⟨m, h1, ⟨x, h2, h3⟩, h4⟩ := rgO_some ow i 12 (ow i) 1 (rgW ow i) rfl h
  have e : itO ow (rgW ow i) i = some i := by
    rw [h1, Nat.add_comm]
    unfold itO
    rw [h2]
    exact h3
  refine ⟨e, fun q hq hl => ?_⟩
  have e2 := itO_add ow q (rgW ow i - q) i
  rw [show q + (rgW ow i - q) = rgW ow i by omega, e] at e2
  cases z : itO ow q i with
  | none => rw [z] at e2; cases e2
  | some y =>
    refine ⟨y, rfl, itO_lt hw q i y hi z, fun r => ?_⟩
    obtain ⟨q, rfl⟩ : ∃ k, q = k + 1 := ⟨q - 1, by omega⟩
    unfold itO at z
    rw [h2] at z
    exact h4 q (by omega) x h2 (by rw [← r]; exact z)
theorem lowW_s {ow : Nat → Option Nat} {i j x : Nat} (hj : j < rgW ow i) (hx : itO ow j i = some x) : lowW ow i j ↔ i ≤ x ∧ lowW ow i (j + 1) := by
  constructor
  · intro h
    exact ⟨h j (Nat.le_refl j) hj x hx, fun q h1 h2 => h q (by omega) h2⟩
  · intro ⟨h1, h2⟩ q h3 h4 y hy
    by_cases z : q = j
    · rw [z, hx] at hy
      cases hy
      exact h1
    · exact h2 q (by omega) h4 y hy
theorem itO_next {ow : Nat → Option Nat} {i q x : Nat} (h : itO ow q i = some x) : itO ow (q + 1) i = ow x := by
  rw [itO_add, h]
  show itO ow 1 x = ow x
  unfold itO
  cases ow x <;> rfl
theorem T_lowC {ow : Nat → Option Nat} {σ : zSt} (h : WO ow σ) {i : Nat} (hi : i < 12) : F_X9_isLeastOfRing (nI i) σ = some (bI (0 < rgW ow i ∧ lowW ow i 0), σ) := by
  unfold F_X9_isLeastOfRing F_X9_isLeastOfRing_0
  have hl := rgW_le (ow := ow) (i := i)
  by_cases hr : 0 < rgW ow i
  rotate_left
  · rw [bI_f (fun q => hr q.1)]
    show F_X9_isLeastOfRing_4 (nI i) (zfix (F_X9_isLeastOfRing_4L (nI i)) 999999) (nI i) (nI 0) σ = _
    unfold F_X9_isLeastOfRing_4 F_X9_isLeastOfRing_42
    rw [T_ringC h hi, bd_s, if_pos (by rw [nI_lep (by omega)]; omega), T_ringC h hi, bd_s, show rgW ow i = 0 by omega, if_pos (show nI 0 ≤ 0 by decide)]
  obtain ⟨p1, p2⟩ := ring_path h.wd hi hr
  have p3 : ∀ q, q ≤ rgW ow i → ∃ x, itO ow q i = some x ∧ x < 12 := by
    intro q hq
    by_cases z : q = 0
    · exact ⟨i, by rw [z]; rfl, hi⟩
    · by_cases y : q = rgW ow i
      · exact ⟨i, by rw [y]; exact p1, hi⟩
      · obtain ⟨x, a, b, _⟩ := p2 q (by omega) (by omega)
        exact ⟨x, a, b⟩
  have key := zfix_out (body := F_X9_isLeastOfRing_4L (nI i)) (fun j => (nI ((itO ow j i).getD 0), nI j, σ)) (fun j => some (bI (lowW ow i j), σ)) (rgW ow i) (by omega) (fun j w hj ih => ?_) (fun w => ?_) 0 (Nat.zero_le _)
  · refine key.trans (congrArg (fun x => some (x, σ)) (bI_c ⟨fun q => ⟨hr, q⟩, fun q => q.2⟩))
  · obtain ⟨x, hx, hx2⟩ := p3 j (by omega)
    show F_X9_isLeastOfRing_4 (nI i) w (nI ((itO ow j i).getD 0)) (nI j) σ = _
    simp only [itO_next hx, (show (itO ow j i).getD 0 = x by rw [hx]; rfl)] at ih ⊢
    have hb : bel (nI x) 12 := bel_t (by omega)
    obtain ⟨y, hy, hy2⟩ := p3 (j + 1) (by omega)
    rw [itO_next hx] at hy
    rw [hy] at ih
    unfold F_X9_isLeastOfRing_4 F_X9_isLeastOfRing_42
    rw [T_ringC h hi, bd_s, if_neg (by rw [nI_lep (by omega)]; omega), T_isBelow_12, bd_s, bI_t hb, if_neg (show ¬ (1 : Int32) = 0 by decide), nI_lep (by omega)]
    by_cases z : i ≤ x
    · rw [if_pos z, gd_n ⟨hx2, by decide⟩, nI_cl (by omega), (h x hx2).2.1, hy, nm_s, nm_s, nI_1]
      refine ih.trans (congrArg (fun x => some (x, σ)) (bI_c ⟨fun q => (lowW_s hj hx).mpr ⟨z, q⟩, fun q => ((lowW_s hj hx).mp q).2⟩))
    · rw [if_neg z, bI_f (fun q => z ((lowW_s hj hx).mp q).1)]
  · show F_X9_isLeastOfRing_4 (nI i) w _ (nI (rgW ow i)) σ = _
    unfold F_X9_isLeastOfRing_4 F_X9_isLeastOfRing_42
    rw [T_ringC h hi, bd_s, if_pos (by rw [nI_lep (by omega)]; omega), T_ringC h hi, bd_s, if_neg (nI_nle hr (by omega)), bI_t (fun q h1 h2 => by omega)]
theorem T_lowM {ow : Nat → Option Nat} {σ : zSt} (h : WO ow σ) {i : Nat} (hi : i < 12) (hr : 0 < rgW ow i) : F_X12_isLowest (nI i) σ = some (bI (lowW ow i 0), σ) := by
  unfold F_X12_isLowest F_X12_isLowest_0
  have hl := rgW_le (ow := ow) (i := i)
  obtain ⟨p1, p2⟩ := ring_path h.wd hi hr
  have p3 : ∀ q, q ≤ rgW ow i → ∃ x, itO ow q i = some x ∧ x < 12 := by
    intro q hq
    by_cases z : q = 0
    · exact ⟨i, by rw [z]; rfl, hi⟩
    · by_cases y : q = rgW ow i
      · exact ⟨i, by rw [y]; exact p1, hi⟩
      · obtain ⟨x, a, b, _⟩ := p2 q (by omega) (by omega)
        exact ⟨x, a, b⟩
  obtain ⟨y1, hy1, hy1l⟩ := p3 1 (by omega)
  have hy0 : ow i = some y1 := by rw [← itO_next (q := 0) (i := i) (x := i) rfl]; exact hy1
  rw [gd_n ⟨hi, by decide⟩, nI_cl (by omega), (h i hi).2.2, nm_s, hy0]
  have key := zfix_out (body := F_X12_isLowest_7L (nI i)) (fun j => (nI ((itO ow (j + 1) i).getD 0), σ)) (fun j => some (bI (lowW ow i (j + 1)), σ)) (rgW ow i - 1) (by omega) (fun j w hj ih => ?_) (fun w => ?_) 0 (Nat.zero_le _)
  · simp only [Nat.zero_add, hy1, Option.getD_some] at key
    refine key.trans (congrArg (fun x => some (x, σ)) (bI_c ⟨fun q => (lowW_s hr rfl).mpr ⟨Nat.le_refl i, q⟩, fun q => ((lowW_s hr rfl).mp q).2⟩))
  · obtain ⟨x, hx, hx2, hxi⟩ := p2 (j + 1) (by omega) (by omega)
    obtain ⟨y, hy, hy2⟩ := p3 (j + 2) (by omega)
    show F_X12_isLowest_7 (nI i) w (nI ((itO ow (j + 1) i).getD 0)) σ = _
    simp only [hx, hy, Option.getD_some] at ih ⊢
    have hxy : ow x = some y := by rw [← itO_next hx]; exact hy
    unfold F_X12_isLowest_7
    rw [if_neg (fun r => hxi ((nI_eq (by omega) (by omega)).mp r)), nI_lep (by omega)]
    by_cases z : i ≤ x
    · rw [if_pos z, gd_n ⟨hx2, by decide⟩, nI_cl (by omega), (h x hx2).2.2, hxy, nm_s]
      refine ih.trans (congrArg (fun x => some (x, σ)) (bI_c ⟨fun q => (lowW_s (by omega) hx).mpr ⟨z, q⟩, fun q => ((lowW_s (by omega) hx).mp q).2⟩))
    · rw [if_neg z, bI_f (fun q => z ((lowW_s (by omega) hx).mp q).1)]
  · show F_X12_isLowest_7 (nI i) w (nI ((itO ow (rgW ow i - 1 + 1) i).getD 0)) σ = _
    unfold F_X12_isLowest_7
    rw [show rgW ow i - 1 + 1 = rgW ow i by omega, p1, Option.getD_some, if_pos rfl, bI_t (fun q h1 h2 => by omega)]
/-- over all: how many, in rings, the longest -/
noncomputable def rgs (ow : Nat → Option Nat) : Nat → Nat × Nat × Nat
  | 0 => (0, 0, 0)
  | k + 1 => ((rgs ow k).1 + @ite _ (0 < rgW ow k ∧ lowW ow k 0) (Classical.propDecidable _) 1 0, (rgs ow k).2.1 + (if 0 < rgW ow k then 1 else 0), if (rgs ow k).2.2 < rgW ow k then rgW ow k else (rgs ow k).2.2)
theorem rgs_b (ow : Nat → Option Nat) : ∀ k, (rgs ow k).1 ≤ k ∧ (rgs ow k).2.1 ≤ k ∧ (rgs ow k).2.2 ≤ 13 := by
  intro k
  induction k with
  | zero => exact ⟨Nat.le_refl 0, Nat.le_refl 0, by decide⟩
  | succ k ih =>
    have := rgW_le (ow := ow) (i := k)
    refine ⟨?_, ?_, ?_⟩
    · show (rgs ow k).1 + @ite _ _ (Classical.propDecidable _) 1 0 ≤ k + 1
      split <;> omega
    · show (rgs ow k).2.1 + (if 0 < rgW ow k then 1 else 0) ≤ k + 1
      split <;> omega
    · show (if (rgs ow k).2.2 < rgW ow k then rgW ow k else (rgs ow k).2.2) ≤ 13
      split <;> omega
theorem T_howC {ow : Nat → Option Nat} {σ : zSt} (h : WO ow σ) : F_X9_howMany σ = some (nI (rgs ow 12).1, σ) := by
  unfold F_X9_howMany F_X9_howMany_0
  refine zfix_run (fun k => (nI (rgs ow k).1, nI k, σ)) 12 (by decide) (fun k w hk => ?_) (fun w => ?_)
  · show F_X9_howMany_4 w (nI (rgs ow k).1) (nI k) σ = w (nI (rgs ow (k + 1)).1, _, σ)
    unfold F_X9_howMany_4
    rw [T_lowC h hk, bd_s, bI_id]
    simp (disch := omega) only [lit_le, if_neg, nm_s, nI_1, rgs]
    by_cases q : 0 < rgW ow k ∧ lowW ow k 0
    · rw [bI_t q, if_pos q, nI_1]
    · rw [bI_f q, if_neg q, ← nI_0, nI_add]
  · show F_X9_howMany_4 w _ (nI 12) σ = _
    unfold F_X9_howMany_4
    simp (disch := omega) only [lit_le, if_pos]
theorem T_inC {ow : Nat → Option Nat} {σ : zSt} (h : WO ow σ) : F_X9_inRings σ = some (nI (rgs ow 12).2.1, σ) := by
  unfold F_X9_inRings F_X9_inRings_0
  refine zfix_run (fun k => (nI (rgs ow k).2.1, nI k, σ)) 12 (by decide) (fun k w hk => ?_) (fun w => ?_)
  · show F_X9_inRings_4 w (nI (rgs ow k).2.1) (nI k) σ = w (nI (rgs ow (k + 1)).2.1, _, σ)
    have hl := rgW_le (ow := ow) (i := k)
    unfold F_X9_inRings_4
    rw [T_ringC h hk, bd_s, pos_if (by omega)]
    simp (disch := omega) only [lit_le, if_neg, nm_s, nI_1, rgs]
    by_cases q : 0 < rgW ow k
    · rw [bI_t q, if_pos q, nI_1]
    · rw [bI_f q, if_neg q, ← nI_0, nI_add]
  · show F_X9_inRings_4 w _ (nI 12) σ = _
    unfold F_X9_inRings_4
    simp (disch := omega) only [lit_le, if_pos]
theorem T_longC {ow : Nat → Option Nat} {σ : zSt} (h : WO ow σ) : F_X9_longest σ = some (nI (rgs ow 12).2.2, σ) := by
  unfold F_X9_longest F_X9_longest_0
  refine zfix_run (fun k => (nI (rgs ow k).2.2, nI k, σ)) 12 (by decide) (fun k w hk => ?_) (fun w => ?_)
  · show F_X9_longest_4 w (nI (rgs ow k).2.2) (nI k) σ = w (nI (rgs ow (k + 1)).2.2, _, σ)
    have hl := rgW_le (ow := ow) (i := k)
    have hb := rgs_b ow k
    unfold F_X9_longest_4 jmax
    rw [T_ringC h hk, bd_s]
    simp (disch := omega) only [lit_le, if_neg, nm_s, nI_1, rgs, nI_ltp]
    by_cases q : (rgs ow k).2.2 < rgW ow k
    · rw [if_pos q, if_pos q]
    · rw [if_neg q, if_neg q]
  · show F_X9_longest_4 w _ (nI 12) σ = _
    unfold F_X9_longest_4
    simp (disch := omega) only [lit_le, if_pos]
theorem T_ringsM {ow : Nat → Option Nat} {σ : zSt} (h : WO ow σ) (x2 : Int32) : zfix (F_X12_rings_105L x2) zlim ((0 : Int32), (0 : Int32), (0 : Int32), (0 : Int32), σ) = F_X12_rings_166 x2 (nI (rgs ow 12).1) (nI (rgs ow 12).2.1) (nI (rgs ow 12).2.2) σ := by
  refine zfix_run (fun k => (nI (rgs ow k).1, nI (rgs ow k).2.1, nI (rgs ow k).2.2, nI k, σ)) 12 (by decide) (fun k w hk => ?_) (fun w => ?_)
  · show F_X12_rings_105 x2 w (nI (rgs ow k).1) (nI (rgs ow k).2.1) (nI (rgs ow k).2.2) (nI k) σ = w (nI (rgs ow (k + 1)).1, nI (rgs ow (k + 1)).2.1, nI (rgs ow (k + 1)).2.2, _, σ)
    have hl := rgW_le (ow := ow) (i := k)
    have hb := rgs_b ow k
    unfold F_X12_rings_105 F_X12_rings_160
    rw [T_ringM h hk, bd_s]
    by_cases q : 0 < rgW ow k
    · rw [if_neg (nI_ne0 q (by omega)), T_ringM h hk, bd_s]
      unfold F_X12_max F_X12_max_0
      rw [T_lowM h hk q]
      simp (disch := omega) only [lit_le, if_neg, nm_s, nI_1, rgs, nI_lep, q, true_and, ↓reduceIte]
      by_cases z : (rgs ow k).2.2 < rgW ow k
      · rw [if_pos (show (rgs ow k).2.2 ≤ rgW ow k by omega), if_pos z]
        simp only [bd_s]
        by_cases y : lowW ow k 0
        · rw [bI_t y, if_neg (show ¬ (1 : Int32) = 0 by decide), if_pos y, nI_1]
        · rw [bI_f y, if_pos (show (0 : Int32) = 0 from rfl), if_neg y, ← nI_0, nI_add]
      · have e : (if (rgs ow k).2.2 ≤ rgW ow k then some (nI (rgW ow k), σ) else some (nI (rgs ow k).2.2, σ)) = some (nI (rgs ow k).2.2, σ) := by
          by_cases y : (rgs ow k).2.2 ≤ rgW ow k
          · rw [if_pos y, show rgW ow k = (rgs ow k).2.2 by omega]
          · rw [if_neg y]
        rw [e, if_neg z]
        simp only [bd_s]
        by_cases y : lowW ow k 0
        · rw [bI_t y, if_neg (show ¬ (1 : Int32) = 0 by decide), if_pos y, nI_1]
        · rw [bI_f y, if_pos (show (0 : Int32) = 0 from rfl), if_neg y, ← nI_0, nI_add]
    · have q0 : rgW ow k = 0 := by omega
      rw [q0, if_pos (show nI 0 = 0 from rfl)]
      simp (disch := omega) only [lit_le, if_neg, nm_s, nI_1, rgs, q0]
      simp only [Nat.lt_irrefl, false_and, ↓reduceIte, Nat.add_zero, Nat.not_lt_zero]
  · show F_X12_rings_105 x2 w _ _ _ (nI 12) σ = _
    unfold F_X12_rings_105
    simp (disch := omega) only [lit_le, if_pos]
theorem s_rings {n : Nat} {σ : zSt} (hn : n < 512) (hR : Rel n σ) (x1 x2 : Int32) : Both n (F_X11_rings x1 x2) (F_X12_rings x1 x2) σ := by
  obtain ⟨ow, h⟩ : ∃ ow, WO ow σ := hR.2.2.2.2.2.2
  have E1 : F_X11_rings x1 x2 σ = F_X9_answer x1 x2 σ := by
    unfold F_X11_rings F_X11_rings_0
    cases F_X9_answer x1 x2 σ <;> rfl
  by_cases z0 : x2 = 0
  · subst z0
    exact Both.no (nI (rgs ow 12).1) hn hR (by rw [E1]; simp only [F_X9_answer, F_X9_answer_0, F_X9_answer_21, ↓reduceIte, T_howC h, bd_s]; rfl) (by
      unfold F_X12_rings F_X12_rings_0 F_X12_rings_26
      rw [T_in_4, bd_s, bI_t (show bel 0 5 from ⟨by decide, by decide⟩), if_neg (by decide), if_pos (by decide), if_pos (by decide), T_ringsM h]
      rfl)
  by_cases z1 : x2 = 1
  · subst z1
    exact Both.no (nI (rgs ow 12).2.1) hn hR (by rw [E1]; simp only [F_X9_answer, F_X9_answer_0, F_X9_answer_21, ↓reduceIte, T_inC h, bd_s]; rfl) (by
      unfold F_X12_rings F_X12_rings_0 F_X12_rings_26
      rw [T_in_4, bd_s, bI_t (show bel 1 5 from ⟨by decide, by decide⟩), if_neg (by decide), if_pos (by decide), if_pos (by decide), T_ringsM h]
      rfl)
  by_cases z2 : x2 = 2
  · subst z2
    exact Both.no (nI (rgs ow 12).2.2) hn hR (by rw [E1]; simp only [F_X9_answer, F_X9_answer_0, F_X9_answer_21, ↓reduceIte, T_longC h, bd_s]; rfl) (by
      unfold F_X12_rings F_X12_rings_0 F_X12_rings_26
      rw [T_in_4, bd_s, bI_t (show bel 2 5 from ⟨by decide, by decide⟩), if_neg (by decide), if_pos (by decide), if_pos (by decide), T_ringsM h]
      rfl)
  by_cases z34 : x2 = 3 ∨ x2 = 4
  · have b5 : bel x2 5 := by
      rcases z34 with rfl | rfl
      · exact ⟨by decide, by decide⟩
      · exact ⟨by decide, by decide⟩
    have n2 : ¬ x2 ≤ 2 := by
      rcases z34 with rfl | rfl <;> decide
    have EA : F_X9_answer x1 x2 σ = F_X9_answer_10 x1 x2 σ := by
      unfold F_X9_answer F_X9_answer_0
      rcases z34 with rfl | rfl
      · rw [if_pos rfl]
      · rw [if_neg (by decide), if_pos rfl]
    by_cases h1 : bel x1 12
    · obtain ⟨i, hi, rfl⟩ := bel_of h1
      have EM : F_X12_rings (nI i) x2 σ = some ((if x2 = 3 then nI (wkO ow 12 i 0).1 else nI (wkO ow 12 i 0).2), σ) := by
        unfold F_X12_rings F_X12_rings_0 F_X12_rings_26
        rw [T_in_4, bd_s, bI_t b5, if_neg (by decide), if_neg n2, T_in_11, bd_s, bI_t h1, if_neg (by decide), if_neg n2, T_walkM h hi]
      refine Both.no _ hn hR ?_ EM
      rw [E1, EA]
      unfold F_X9_answer_10 F_X9_answer_21
      rw [T_isBelow_12, bd_s, bI_t h1, if_neg (by decide), if_neg z0, if_neg z1, if_neg z2]
      rcases z34 with rfl | rfl
      · rw [if_pos rfl, T_walkC h hi, bd_s]
        rfl
      · rw [if_neg (by decide), if_pos rfl, T_walkC h hi, bd_s]
        rfl
    · refine Both.no (-1) hn hR ?_ ?_
      · rw [E1, EA]
        unfold F_X9_answer_10
        rw [T_isBelow_12, bd_s, bI_f h1, if_pos rfl]
      · unfold F_X12_rings F_X12_rings_0
        rw [T_in_4, bd_s, bI_t b5, if_neg (by decide), if_neg n2, T_in_11, bd_s, bI_f h1, if_pos rfl]
  · have z3 : ¬ x2 = 3 := fun q => z34 (Or.inl q)
    have z4 : ¬ x2 = 4 := fun q => z34 (Or.inr q)
    have nb : ¬ bel x2 5 := by
      intro q
      obtain ⟨j, hj, rfl⟩ := bel_of q
      have e : j = 0 ∨ j = 1 ∨ j = 2 ∨ j = 3 ∨ j = 4 := by omega
      rcases e with rfl | rfl | rfl | rfl | rfl
      · exact z0 rfl
      · exact z1 rfl
      · exact z2 rfl
      · exact z3 rfl
      · exact z4 rfl
    refine Both.no (-1) hn hR ?_ ?_
    · rw [E1]
      unfold F_X9_answer F_X9_answer_0 F_X9_answer_21
      rw [if_neg z3, if_neg z4, if_neg z0, if_neg z1, if_neg z2, if_neg z3, if_neg z4]
    · unfold F_X12_rings F_X12_rings_0
      rw [T_in_4, bd_s, bI_f nb, if_pos rfl]
/-! PURE: feed, check; the bits as given for pasting -/
def bt (x : Int32) (i : Nat) : Bool := x.toBitVec.getLsbD i
theorem b_ext {x y : Int32} (h : ∀ i, i < 32 → bt x i = bt y i) : x = y := Int32.toBitVec_inj.mp (BitVec.eq_of_getLsbD_eq (fun i hi => h i hi))
theorem b_or (x y : Int32) (i : Nat) : bt (x ||| y) i = (bt x i || bt y i) := by unfold bt; rw [Int32.toBitVec_or, BitVec.getLsbD_or]
theorem b_and (x y : Int32) (i : Nat) : bt (x &&& y) i = (bt x i && bt y i) := by unfold bt; rw [Int32.toBitVec_and, BitVec.getLsbD_and]
theorem b_xor (x y : Int32) (i : Nat) : bt (x ^^^ y) i = (bt x i ^^ bt y i) := by unfold bt; rw [Int32.toBitVec_xor, BitVec.getLsbD_xor]
theorem b_big {x : Int32} {i : Nat} (h : 32 ≤ i) : bt x i = false := BitVec.getLsbD_of_ge _ _ h
theorem b_255 (i : Nat) : bt 255 i = decide (i < 8) := by
  rcases Nat.lt_or_ge i 32 with h | h
  · exact (by decide +kernel : ∀ i, i < 32 → bt 255 i = decide (i < 8)) i h
  · rw [b_big h, decide_eq_false (by omega)]
theorem b_65535 (i : Nat) : bt 65535 i = decide (i < 16) := by
  rcases Nat.lt_or_ge i 32 with h | h
  · exact (by decide +kernel : ∀ i, i < 32 → bt 65535 i = decide (i < 16)) i h
  · rw [b_big h, decide_eq_false (by omega)]
theorem b_m1 : ∀ i, i < 32 → bt (-1) i = true := by decide +kernel
theorem b_0 (i : Nat) : bt 0 i = false := BitVec.getLsbD_zero
theorem s_l : ∀ n, n < 32 → ((nI n &&& 31).toBitVec.smod 32).toNat = n := by decide +kernel
theorem s_u : ∀ n, n < 32 → (((nI n).toUInt32 &&& Int32.toUInt32 31).toBitVec % 32).toNat = n := by decide +kernel
theorem b_shl (n : Nat) (hn : n < 32) (x : Int32) {i : Nat} (hi : i < 32) : bt (x <<< (nI n &&& 31)) i = (decide (n ≤ i) && bt x (i - n)) := by
  unfold bt
  rw [Int32.toBitVec_shiftLeft]
  show (x.toBitVec <<< ((nI n &&& 31).toBitVec.smod 32).toNat).getLsbD i = _
  rw [s_l n hn, BitVec.getLsbD_shiftLeft]
  rcases Nat.lt_or_ge i n with h | h
  · simp [h, Nat.not_le.mpr h]
  · simp [hi, h, Nat.not_lt.mpr h]
theorem b_ushr (n : Nat) (hn : n < 32) (x : Int32) (i : Nat) : bt ((x.toUInt32 >>> ((nI n).toUInt32 &&& Int32.toUInt32 31)).toInt32) i = bt x (n + i) := by
  show (x.toUInt32 >>> ((nI n).toUInt32 &&& Int32.toUInt32 31)).toBitVec.getLsbD i = x.toUInt32.toBitVec.getLsbD (n + i)
  rw [UInt32.toBitVec_shiftRight]
  show (x.toUInt32.toBitVec >>> (((nI n).toUInt32 &&& Int32.toUInt32 31).toBitVec % 32).toNat).getLsbD i = _
  rw [s_u n hn, BitVec.getLsbD_ushiftRight]
theorem b_sshr (n : Nat) (hn : n < 32) (x : Int32) {i : Nat} (hi : i < 32) : bt (x >>> (nI n &&& 31)) i = if n + i < 32 then bt x (n + i) else bt x 31 := by
  unfold bt
  rw [Int32.toBitVec_shiftRight]
  show (x.toBitVec.sshiftRight ((nI n &&& 31).toBitVec.smod 32).toNat).getLsbD i = _
  rw [s_l n hn, BitVec.getLsbD_sshiftRight, BitVec.msb_eq_getLsbD_last]
  simp [hi]
theorem b_shl8 (x : Int32) {i : Nat} (hi : i < 32) : bt (x <<< ((8 : Int32) &&& 31)) i = (decide (8 ≤ i) && bt x (i - 8)) := b_shl 8 (by omega) x hi
theorem b_shl16 (x : Int32) {i : Nat} (hi : i < 32) : bt (x <<< ((16 : Int32) &&& 31)) i = (decide (16 ≤ i) && bt x (i - 16)) := b_shl 16 (by omega) x hi
theorem b_shl24 (x : Int32) {i : Nat} (hi : i < 32) : bt (x <<< ((24 : Int32) &&& 31)) i = (decide (24 ≤ i) && bt x (i - 24)) := b_shl 24 (by omega) x hi
theorem b_sshr8 (x : Int32) {i : Nat} (hi : i < 32) : bt (x >>> ((8 : Int32) &&& 31)) i = if 8 + i < 32 then bt x (8 + i) else bt x 31 := b_sshr 8 (by omega) x hi
/-- a byte of a word, the highest first -/
def byt (x : Int32) (i : Nat) : Int32 := (x >>> (nI (24 - 8 * i) &&& 31)) &&& 255
theorem byt_ex (x : Int32) (i : Nat) : ∃ b : Nat, b < 256 ∧ byt x i = nI b := pk_andE _ 8 rfl
theorem byt_sb {y : Int32} {b : Nat} (h : y &&& 255 = nI b) : y.toInt8.toInt32 = sb b := by
  unfold sb
  rw [← h]
  refine congrArg Int8.toInt32 ?_
  apply Int8.toBitVec_inj.mp
  apply BitVec.eq_of_getLsbD_eq
  intro i hi
  show (y.toInt8).toBitVec.getLsbD i = ((y &&& 255).toInt8).toBitVec.getLsbD i
  rw [Int32.toBitVec_toInt8, Int32.toBitVec_toInt8, BitVec.getLsbD_signExtend, BitVec.getLsbD_signExtend]
  have e : (y &&& 255).toBitVec.getLsbD i = y.toBitVec.getLsbD i := by
    have := b_and y 255 i
    unfold bt at this
    rw [this]
    have h2 := b_255 i
    unfold bt at h2
    rw [h2, decide_eq_true hi, Bool.and_true]
  have h32 : i < 32 := by omega
  simp only [hi, h32, decide_true, Bool.true_and, ↓reduceIte, e]
/-- five words' bytes -/
def w5 (x1 x2 x3 x4 x5 : Int32) (j : Nat) : Int32 := byt (if j < 4 then x1 else if j < 8 then x2 else if j < 12 then x3 else if j < 16 then x4 else x5) (j % 4)
theorem T_appendC {σ : zSt} {m : Nat} (x : Int32) (hm : m + 4 ≤ 260) (e : σ.1 33 1 = nI m) : wp (F_X8_append x σ) (fun _ τ => fr [34] [(33, 1)] σ τ ∧ τ.1 33 1 = nI (m + 4) ∧ (∀ j, j < m → τ.1 34 j = σ.1 34 j) ∧ ∀ j, j < 4 → τ.1 34 (m + j) = byt x j) := by
  unfold F_X8_append F_X8_append_0 F_X8_hasRoom F_X8_hasRoom_0
  have e0 : (σ.1 33 1) + (4 : Int32) = nI (m + 4) := by rw [e]; exact nI_add m 4
  rw [e0, if_neg (by rw [show (260 : Int32) = nI 260 from rfl, nI_ltp (by omega)]; omega), bd_s, if_neg (by decide)]
  refine wp_for (fun k s => s.1 = (if k < 4 then nI (24 - 8 * k) else -8) ∧ fr [34] [(33, 1)] σ s.2 ∧ s.2.1 33 1 = nI (m + k) ∧ (∀ j, j < m → s.2.1 34 j = σ.1 34 j) ∧ ∀ j, j < k → s.2.1 34 (m + j) = byt x j) 4 (by decide) (fun k w s hk hI hw => ?_) (fun w s hI => ?_) ⟨rfl, fr.rf, e, fun j _ => rfl, fun j hj => absurd hj (Nat.not_lt_zero j)⟩
  · obtain ⟨x2, τ⟩ := s
    obtain ⟨i1, i2, i3, i4, i5⟩ := hI
    simp only at i1 i2 i3 i4 i5
    rw [if_pos hk] at i1
    subst i1
    show wp (F_X8_append_12 x w (nI (24 - 8 * k)) τ) _
    unfold F_X8_append_12
    rw [if_neg (nI_pos (by omega)), i3, gd_n (by omega), nI_cl (by omega)]
    simp only [nm_s, zwr_r, Nat.reduceEqDiff, ↓reduceIte, i3, nI_1]
    refine hw _ ⟨?_, (i2.w (Or.inl (by decide))).w (Or.inr (by decide)), ?_, fun j hj => ?_, fun j hj => ?_⟩
    · show nI (24 - 8 * k) + (-8) = _
      have e4 : k = 0 ∨ k = 1 ∨ k = 2 ∨ k = 3 := by omega
      rcases e4 with rfl | rfl | rfl | rfl <;> rfl
    · show nI (m + k + 1) = nI (m + (k + 1))
      rfl
    · show upd (τ.1 34) (m + k) _ j = _
      rw [pk_un (by omega)]
      exact i4 j hj
    · show upd (τ.1 34) (m + k) _ (m + j) = _
      by_cases q : j = k
      · subst q
        rw [pk_us]
        rfl
      · rw [pk_un (by omega)]
        exact i5 j (by omega)
  · obtain ⟨x2, τ⟩ := s
    obtain ⟨i1, i2, i3, i4, i5⟩ := hI
    simp only at i1 i2 i3 i4 i5
    rw [if_neg (by decide)] at i1
    subst i1
    show wp (F_X8_append_12 x w (-8) τ) _
    unfold F_X8_append_12
    rw [if_pos (by decide)]
    exact wp_some ⟨i2, i3, i4, i5⟩
theorem T_typesM {σ : zSt} {m : Nat} (x : Int32) (hm : m + 4 ≤ 260) (e : σ.1 69 14 = nI m) : wp (F_X12_types x σ) (fun _ τ => fr [76] [(69, 14)] σ τ ∧ τ.1 69 14 = nI (m + 4) ∧ (∀ j, j < m → τ.1 76 j = σ.1 76 j) ∧ ∀ j, j < 4 → τ.1 76 (m + j) = (x >>> (nI (24 - 8 * j) &&& 31)).toInt8.toInt32) := by
  unfold F_X12_types F_X12_types_0
  refine wp_for (fun k s => s.1 = (if k < 4 then nI (3 - k) else -1) ∧ fr [76] [(69, 14)] σ s.2 ∧ s.2.1 69 14 = nI (m + k) ∧ (∀ j, j < m → s.2.1 76 j = σ.1 76 j) ∧ ∀ j, j < k → s.2.1 76 (m + j) = (x >>> (nI (24 - 8 * j) &&& 31)).toInt8.toInt32) 4 (by decide) (fun k w s hk hI hw => ?_) (fun w s hI => ?_) ⟨rfl, fr.rf, e, fun j _ => rfl, fun j hj => absurd hj (Nat.not_lt_zero j)⟩
  · obtain ⟨x2, τ⟩ := s
    obtain ⟨i1, i2, i3, i4, i5⟩ := hI
    simp only at i1 i2 i3 i4 i5
    rw [if_pos hk] at i1
    subst i1
    show wp (F_X12_types_2 x w (nI (3 - k)) τ) _
    unfold F_X12_types_2
    have e8 : (8 : Int32) * nI (3 - k) = nI (24 - 8 * k) := by
      have e4 : k = 0 ∨ k = 1 ∨ k = 2 ∨ k = 3 := by omega
      rcases e4 with rfl | rfl | rfl | rfl <;> rfl
    rw [if_neg (nI_pos (by omega)), i3, gd_n (by omega), nI_cl (by omega), e8, pk_vb]
    simp only [nm_s, zwr_r, Nat.reduceEqDiff, ↓reduceIte, i3, nI_1]
    refine hw _ ⟨?_, (i2.w (Or.inl (by decide))).w (Or.inr (by decide)), ?_, fun j hj => ?_, fun j hj => ?_⟩
    · show nI (3 - k) + (-1) = _
      have e4 : k = 0 ∨ k = 1 ∨ k = 2 ∨ k = 3 := by omega
      rcases e4 with rfl | rfl | rfl | rfl <;> rfl
    · show nI (m + k + 1) = nI (m + (k + 1))
      rfl
    · show upd (τ.1 76) (m + k) _ j = _
      rw [pk_un (by omega)]
      exact i4 j hj
    · show upd (τ.1 76) (m + k) _ (m + j) = _
      by_cases q : j = k
      · subst q
        rw [pk_us]
      · rw [pk_un (by omega)]
        exact i5 j (by omega)
  · obtain ⟨x2, τ⟩ := s
    obtain ⟨i1, i2, i3, i4, i5⟩ := hI
    simp only at i1 i2 i3 i4 i5
    rw [if_neg (by decide)] at i1
    subst i1
    show wp (F_X12_types_2 x w (-1) τ) _
    unfold F_X12_types_2
    rw [if_pos (by decide)]
    exact wp_some ⟨i2, i3, i4, i5⟩
theorem RT_mk {σ : zSt} {m : Nat} (hm : m ≤ 260) (e1 : σ.1 33 1 = nI m) (e2 : σ.1 69 14 = nI m) (h : ∀ j, j < m → ∃ b, b < 256 ∧ σ.1 34 j = nI b ∧ σ.1 76 j = sb b) : RT σ := by
  refine ⟨m, fun j => @dite _ (j < m) (Classical.propDecidable _) (fun q => Classical.choose (h j q)) (fun _ => 0), hm, e1, e2, fun j hj => ?_⟩
  simp only [dif_pos hj]
  exact Classical.choose_spec (h j hj)
theorem s_feed {n : Nat} {σ : zSt} (hn : n < 512) (hR : Rel n σ) (x1 x2 x3 x4 x5 : Int32) : Both n (F_X11_feed x1 x2 x3 x4 x5) (F_X12_feed x1 x2 x3 x4 x5) σ := by
  obtain ⟨m, tp, t0, t1, t2, t3⟩ := hR.2.2.2.1
  by_cases hm : 260 < m + 20
  · refine Both.no (-1) hn hR ?_ ?_
    · unfold F_X11_feed F_X11_feed_0 F_X8_hasRoom F_X8_hasRoom_0
      rw [t1, show nI m + (20 : Int32) = nI (m + 20) from nI_add m 20, if_pos (by rw [show (260 : Int32) = nI 260 from rfl, nI_ltp (by omega)]; omega), bd_s, if_pos rfl]
    · unfold F_X12_feed F_X12_feed_0
      rw [t2, show nI m + (20 : Int32) = nI (m + 20) from nI_add m 20, if_neg (by rw [show (260 : Int32) = nI 260 from rfl, nI_lep (by omega)]; omega)]
  have E1 : wp (F_X11_feed x1 x2 x3 x4 x5 σ) (fun a τ => a = nI (m + 20) ∧ fr [34] [(33, 1)] σ τ ∧ τ.1 33 1 = nI (m + 20) ∧ (∀ j, j < m → τ.1 34 j = σ.1 34 j) ∧ ∀ j, j < 4 → τ.1 34 (m + j) = byt x1 j ∧ τ.1 34 (m + 4 + j) = byt x2 j ∧ τ.1 34 (m + 8 + j) = byt x3 j ∧ τ.1 34 (m + 12 + j) = byt x4 j ∧ τ.1 34 (m + 16 + j) = byt x5 j) := by
    unfold F_X11_feed F_X11_feed_0 F_X8_hasRoom F_X8_hasRoom_0
    rw [t1, show nI m + (20 : Int32) = nI (m + 20) from nI_add m 20, if_neg (by rw [show (260 : Int32) = nI 260 from rfl, nI_ltp (by omega)]; omega), bd_s, if_neg (by decide)]
    refine wp_bd2 (T_appendC (m := m) x1 (by omega) t1) (fun _ τ1 h1 => ?_)
    obtain ⟨a1, a2, a3, a4⟩ := h1
    refine wp_bd2 (T_appendC (m := m + 4) x2 (by omega) a2) (fun _ τ2 h2 => ?_)
    obtain ⟨b1, b2, b3, b4⟩ := h2
    refine wp_bd2 (T_appendC (m := m + 8) x3 (by omega) b2) (fun _ τ3 h3 => ?_)
    obtain ⟨c1, c2, c3, c4⟩ := h3
    refine wp_bd2 (T_appendC (m := m + 12) x4 (by omega) c2) (fun _ τ4 h4 => ?_)
    obtain ⟨d1, d2, d3, d4⟩ := h4
    refine wp_bd2 (T_appendC (m := m + 16) x5 (by omega) d2) (fun _ τ5 h5 => ?_)
    obtain ⟨f1, f2, f3, f4⟩ := h5
    refine wp_some ⟨f2, (((a1.tr b1).tr c1).tr d1).tr f1, f2, fun j hj => ?_, fun j hj => ⟨?_, ?_, ?_, ?_, f4 j hj⟩⟩
    · rw [f3 j (by omega), d3 j (by omega), c3 j (by omega), b3 j (by omega), a3 j hj]
    · rw [f3 _ (by omega), d3 _ (by omega), c3 _ (by omega), b3 _ (by omega), a4 j hj]
    · rw [f3 _ (by omega), d3 _ (by omega), c3 _ (by omega), b4 j hj]
    · rw [f3 _ (by omega), d3 _ (by omega), c4 j hj]
    · rw [f3 _ (by omega), d4 j hj]
  obtain ⟨a, τ, e1, rfl, f1, k1, k2, k3⟩ := E1
  have E2 : wp (F_X12_feed x1 x2 x3 x4 x5 τ) (fun a υ => a = nI (m + 20) ∧ fr [76] [(69, 14)] τ υ ∧ υ.1 69 14 = nI (m + 20) ∧ (∀ j, j < m → υ.1 76 j = τ.1 76 j) ∧ ∀ j, j < 4 → υ.1 76 (m + j) = (x1 >>> (nI (24 - 8 * j) &&& 31)).toInt8.toInt32 ∧ υ.1 76 (m + 4 + j) = (x2 >>> (nI (24 - 8 * j) &&& 31)).toInt8.toInt32 ∧ υ.1 76 (m + 8 + j) = (x3 >>> (nI (24 - 8 * j) &&& 31)).toInt8.toInt32 ∧ υ.1 76 (m + 12 + j) = (x4 >>> (nI (24 - 8 * j) &&& 31)).toInt8.toInt32 ∧ υ.1 76 (m + 16 + j) = (x5 >>> (nI (24 - 8 * j) &&& 31)).toInt8.toInt32) := by
    have u2 : τ.1 69 14 = nI m := (f1.rd (by decide) (by decide)).trans t2
    unfold F_X12_feed F_X12_feed_0
    rw [u2, show nI m + (20 : Int32) = nI (m + 20) from nI_add m 20, if_pos (by rw [show (260 : Int32) = nI 260 from rfl, nI_lep (by omega)]; omega)]
    refine wp_bd2 (T_typesM (m := m) x1 (by omega) u2) (fun _ τ1 h1 => ?_)
    obtain ⟨a1, a2, a3, a4⟩ := h1
    refine wp_bd2 (T_typesM (m := m + 4) x2 (by omega) a2) (fun _ τ2 h2 => ?_)
    obtain ⟨b1, b2, b3, b4⟩ := h2
    refine wp_bd2 (T_typesM (m := m + 8) x3 (by omega) b2) (fun _ τ3 h3 => ?_)
    obtain ⟨c1, c2, c3, c4⟩ := h3
    refine wp_bd2 (T_typesM (m := m + 12) x4 (by omega) c2) (fun _ τ4 h4 => ?_)
    obtain ⟨d1, d2, d3, d4⟩ := h4
    refine wp_bd2 (T_typesM (m := m + 16) x5 (by omega) d2) (fun _ τ5 h5 => ?_)
    obtain ⟨g1, g2, g3, g4⟩ := h5
    refine wp_some ⟨g2, (((a1.tr b1).tr c1).tr d1).tr g1, g2, fun j hj => ?_, fun j hj => ⟨?_, ?_, ?_, ?_, g4 j hj⟩⟩
    · rw [g3 j (by omega), d3 j (by omega), c3 j (by omega), b3 j (by omega), a3 j hj]
    · rw [g3 _ (by omega), d3 _ (by omega), c3 _ (by omega), b3 _ (by omega), a4 j hj]
    · rw [g3 _ (by omega), d3 _ (by omega), c3 _ (by omega), b4 j hj]
    · rw [g3 _ (by omega), d3 _ (by omega), c4 j hj]
    · rw [g3 _ (by omega), d4 j hj]
  obtain ⟨a, υ, e2, rfl, f2, l1, l2, l3⟩ := E2
  refine Both.mk e1 e2 (Rel_T hn hR ((f1.eqOn (by decide)).tr (f2.eqOn (by decide))) (RT_mk (m := m + 20) (by omega) ((f2.rd (by decide) (by decide)).trans k1) l1 (fun j hj => ?_)))
  have u34 : υ.1 34 = τ.1 34 := f2.row (by decide)
  rw [u34]
  by_cases q : j < m
  · obtain ⟨b1, b2, b3⟩ := t3 j q
    refine ⟨tp j, b1, (k2 j q).trans b2, (l2 j q).trans ?_⟩
    rw [f1.row (c := 76) (by decide)]
    exact b3
  · have fin : ∀ (x : Int32) (i : Nat), τ.1 34 j = byt x i → υ.1 76 j = (x >>> (nI (24 - 8 * i) &&& 31)).toInt8.toInt32 → ∃ b, b < 256 ∧ τ.1 34 j = nI b ∧ υ.1 76 j = sb b := by
      intro x i h1 h2
      obtain ⟨b, hb, hb2⟩ := byt_ex x i
      exact ⟨b, hb, h1.trans hb2, h2.trans (byt_sb hb2)⟩
    by_cases q4 : j < m + 4
    · obtain ⟨i, hi, rfl⟩ : ∃ i, i < 4 ∧ j = m + i := ⟨j - m, by omega, by omega⟩
      exact fin x1 i (k3 i hi).1 (l3 i hi).1
    · by_cases q8 : j < m + 8
      · obtain ⟨i, hi, rfl⟩ : ∃ i, i < 4 ∧ j = m + 4 + i := ⟨j - m - 4, by omega, by omega⟩
        exact fin x2 i (k3 i hi).2.1 (l3 i hi).2.1
      · by_cases q12 : j < m + 12
        · obtain ⟨i, hi, rfl⟩ : ∃ i, i < 4 ∧ j = m + 8 + i := ⟨j - m - 8, by omega, by omega⟩
          exact fin x3 i (k3 i hi).2.2.1 (l3 i hi).2.2.1
        · by_cases q16 : j < m + 16
          · obtain ⟨i, hi, rfl⟩ : ∃ i, i < 4 ∧ j = m + 12 + i := ⟨j - m - 12, by omega, by omega⟩
            exact fin x4 i (k3 i hi).2.2.2.1 (l3 i hi).2.2.2.1
          · obtain ⟨i, hi, rfl⟩ : ∃ i, i < 4 ∧ j = m + 16 + i := ⟨j - m - 16, by omega, by omega⟩
            exact fin x5 i (k3 i hi).2.2.2.2 (l3 i hi).2.2.2.2
/-! the tape's text -/
theorem T_at {σ : zSt} {N i : Nat} {tp : Nat → Nat} (e : σ.1 33 2 = nI N) (hN : N ≤ 260) (h : ∀ j, j < N → tp j < 256 ∧ σ.1 34 j = nI (tp j) ∧ σ.1 76 j = sb (tp j)) (hi : i < 2000) : F_X8_at (nI i) σ = some (if i < N then nI (tp i) else -1, σ) := by
  unfold F_X8_at F_X8_at_0
  rw [if_neg (nI_pos (by omega)), e, nI_lep (by omega)]
  by_cases q : i < N
  · rw [if_neg (by omega), if_neg (by rw [show (260 : Int32) = nI 260 from rfl, nI_lep (by omega)]; omega), gd_n (by omega), nI_cl (by omega), if_pos q, (h i q).2.1]
  · rw [if_pos (by omega), if_neg q]
theorem take_no {σ : zSt} {m : Nat} {x : Int32} (e : σ.1 33 1 = nI m) (h : x < 0 ∨ ¬ x ≤ nI m) : F_X8_take x σ = some (0, σ) := by
  unfold F_X8_take F_X8_take_0
  by_cases q : x < 0
  · rw [if_pos q]
  · rw [if_neg q, e, if_neg (h.resolve_left q)]
theorem take_yes {σ : zSt} {m N : Nat} (hm : m ≤ 260) (e : σ.1 33 1 = nI m) (h : N ≤ m) : F_X8_take (nI N) σ = some (1, zwr (zwr σ 33 2 (nI N)) 33 1 0) := by
  unfold F_X8_take F_X8_take_0
  rw [if_neg (nI_pos (by omega)), e, if_pos (by rw [nI_lep (by omega)]; omega)]
  rfl
theorem RT_0 {σ : zSt} (e1 : σ.1 33 1 = 0) (e2 : σ.1 69 14 = 0) : RT σ := ⟨0, fun _ => 0, by decide, e1, e2, fun j hj => absurd hj (Nat.not_lt_zero j)⟩
theorem sb_255 : ∀ b, b < 256 → sb b &&& 255 = nI b := by decide +kernel
theorem word_eq (b0 b1 b2 b3 : Int32) : (((((((0 : Int32) <<< ((8 : Int32) &&& 31)) ||| b0) <<< ((8 : Int32) &&& 31)) ||| b1) <<< ((8 : Int32) &&& 31) ||| b2) <<< ((8 : Int32) &&& 31)) ||| b3 = (((b0 <<< ((24 : Int32) &&& 31)) ||| (b1 <<< ((16 : Int32) &&& 31))) ||| (b2 <<< ((8 : Int32) &&& 31))) ||| b3 := by
  apply b_ext
  intro i hi
  have h8 : i - 8 < 32 := by omega
  have h16 : i - 8 - 8 < 32 := by omega
  have h24 : i - 8 - 8 - 8 < 32 := by omega
  simp only [b_or, b_shl8 _ hi, b_shl16 _ hi, b_shl24 _ hi, b_shl8 _ h8, b_shl8 _ h16, b_shl8 _ h24, b_0, Bool.and_false, Bool.false_or]
  have e1 : i - 8 - 8 = i - 16 := by omega
  have e2 : i - 8 - 8 - 8 = i - 24 := by omega
  rw [e2, e1]
  by_cases q1 : 8 ≤ i
  · by_cases q2 : 16 ≤ i
    · by_cases q3 : 24 ≤ i
      · simp only [decide_eq_true q1, decide_eq_true q2, decide_eq_true q3, decide_eq_true (show 8 ≤ i - 8 by omega), decide_eq_true (show 8 ≤ i - 16 by omega), Bool.true_and]
      · simp only [decide_eq_true q1, decide_eq_true q2, decide_eq_false q3, decide_eq_true (show 8 ≤ i - 8 by omega), decide_eq_false (show ¬ 8 ≤ i - 16 by omega), Bool.true_and, Bool.false_and, Bool.false_or]
    · simp only [decide_eq_true q1, decide_eq_false q2, decide_eq_false (show ¬ 24 ≤ i by omega), decide_eq_false (show ¬ 8 ≤ i - 8 by omega), Bool.true_and, Bool.false_and, Bool.false_or]
  · simp only [decide_eq_false q1, decide_eq_false (show ¬ 16 ≤ i by omega), decide_eq_false (show ¬ 24 ≤ i by omega), Bool.false_and, Bool.false_or]
def wrd (tp : Nat → Nat) (p : Nat) : Int32 := (((nI (tp (4 * p)) <<< ((24 : Int32) &&& 31)) ||| (nI (tp (4 * p + 1)) <<< ((16 : Int32) &&& 31))) ||| (nI (tp (4 * p + 2)) <<< ((8 : Int32) &&& 31))) ||| nI (tp (4 * p + 3))
theorem T_number {σ : zSt} {N p : Nat} {tp : Nat → Nat} (e : σ.1 33 2 = nI (4 * N)) (hN : N ≤ 8) (h : ∀ j, j < 4 * N → tp j < 256 ∧ σ.1 34 j = nI (tp j) ∧ σ.1 76 j = sb (tp j)) (hp : p < N) : F_X8_number (nI (4 * p)) σ = some (wrd tp p, σ) := by
  unfold F_X8_number F_X8_number_0
  rw [show nI (4 * p) + (1 : Int32) = nI (4 * p + 1) from nI_add _ 1, show nI (4 * p) + (2 : Int32) = nI (4 * p + 2) from nI_add _ 2, show nI (4 * p) + (3 : Int32) = nI (4 * p + 3) from nI_add _ 3, T_at e (by omega) h (by omega), bd_s, T_at e (by omega) h (by omega), bd_s, T_at e (by omega) h (by omega), bd_s, T_at e (by omega) h (by omega), bd_s, if_pos (by omega), if_pos (by omega), if_pos (by omega), if_pos (by omega)]
  rfl
theorem T_tapeNumber {σ : zSt} {N p : Nat} {tp : Nat → Nat} (hN : N ≤ 8) (h : ∀ j, j < 4 * N → tp j < 256 ∧ σ.1 34 j = nI (tp j) ∧ σ.1 76 j = sb (tp j)) (hp : p < N) : F_X12_tapeNumber (nI p) σ = some (wrd tp p, σ) := by
  unfold F_X12_tapeNumber F_X12_tapeNumber_0
  have m4p : (4 : Int32) * nI p = nI (4 * p) := pk_mul 4 p
  have m44 : nI (4 * p) + (4 : Int32) = nI (4 * p + 4) := nI_add _ 4
  have st : ∀ k x2 (w : (Int32 × Int32 × zSt) → Option (Int32 × zSt)), k < 4 → F_X12_tapeNumber_6 (nI p) w x2 (nI (4 * p + k)) σ = w ((x2 <<< ((8 : Int32) &&& 31)) ||| nI (tp (4 * p + k)), nI (4 * p + k + 1), σ) := by
    intro k x2 w hk
    obtain ⟨a1, a2, a3⟩ := h (4 * p + k) (by omega)
    unfold F_X12_tapeNumber_6
    rw [m4p, m44, if_neg (by rw [nI_lep (by omega)]; omega), gd_n (by omega), nI_cl (by omega), a3, sb_255 _ a1, nm_s, nm_s, nI_1]
  rw [m4p, nm_s]
  show F_X12_tapeNumber_6 (nI p) (zfix (F_X12_tapeNumber_6L (nI p)) 999999) 0 (nI (4 * p + 0)) σ = _
  rw [st 0 0 _ (by decide)]
  show F_X12_tapeNumber_6 (nI p) (zfix (F_X12_tapeNumber_6L (nI p)) 999998) _ (nI (4 * p + 1)) σ = _
  rw [st 1 _ _ (by decide)]
  show F_X12_tapeNumber_6 (nI p) (zfix (F_X12_tapeNumber_6L (nI p)) 999997) _ (nI (4 * p + 2)) σ = _
  rw [st 2 _ _ (by decide)]
  show F_X12_tapeNumber_6 (nI p) (zfix (F_X12_tapeNumber_6L (nI p)) 999996) _ (nI (4 * p + 3)) σ = _
  rw [st 3 _ _ (by decide)]
  show F_X12_tapeNumber_6 (nI p) (zfix (F_X12_tapeNumber_6L (nI p)) 999995) _ (nI (4 * p + 4)) σ = _
  unfold F_X12_tapeNumber_6
  rw [m4p, m44, if_pos (by rw [nI_lep (by omega)]; omega), Nat.add_zero, word_eq]
  rfl
/-- the ISLAND that the number must be -/
def chI (W : zWo) (p : Nat) : Int32 := if wIs W p = true then nI (islW W p) else 0
def chO (W : zWo) (tp : Nat → Nat) (N : Nat) : Nat → Nat → Int32
  | 0, _ => -1
  | f + 1, p => if wrd tp p = chI W p then chO W tp N f (p + 1) else nI p
theorem s_check {n : Nat} {σ : zSt} (hn : n < 512) (hR : Rel n σ) (x1 : Int32) : Both n (F_X11_check x1) (F_X12_check x1) σ := by
  obtain ⟨-, ⟨W, w0, w1, w2, w3⟩, -, ⟨m, tp, t0, t1, t2, t3⟩, -⟩ := id hR
  by_cases h1 : bel x1 9
  rotate_left
  · refine Both.no (-2) hn hR ?_ ?_
    · unfold F_X11_check F_X11_check_0
      rw [T_isBelow_9, bd_s, bI_f h1, if_pos rfl]
    · unfold F_X12_check F_X12_check_0
      rw [T_in_8, bd_s, bI_f h1, if_pos rfl]
  obtain ⟨N, hN, rfl⟩ := bel_of h1
  have m4N : (4 : Int32) * nI N = nI (4 * N) := pk_mul 4 N
  have d4 : nI m / (4 : Int32) = nI (m / 4) := pk_div (d := 4) (by omega) (by decide) (by decide)
  by_cases h2 : 4 * N ≤ m
  rotate_left
  · refine Both.no (-2) hn hR ?_ ?_
    · unfold F_X11_check F_X11_check_0
      rw [T_isBelow_9, bd_s, bI_t h1, if_neg (by decide), m4N, take_no t1 (Or.inr (by rw [nI_lep (by omega)]; exact h2)), bd_s, if_pos rfl]
    · unfold F_X12_check F_X12_check_0
      rw [T_in_8, bd_s, bI_t h1, if_neg (by decide), t2, d4, if_neg (by rw [nI_lep (by omega)]; omega)]
  have f1 : fr [] [(33, 1), (33, 2)] σ (zwr (zwr σ 33 2 (nI (4 * N))) 33 1 0) := (fr_w (Or.inr (by decide))).w (Or.inr (by decide))
  have r1 : ∀ j, j < 4 * N → tp j < 256 ∧ (zwr (zwr σ 33 2 (nI (4 * N))) 33 1 0).1 34 j = nI (tp j) ∧ (zwr (zwr σ 33 2 (nI (4 * N))) 33 1 0).1 76 j = sb (tp j) := fun j hj => t3 j (by omega)
  have E1 : F_X11_check (nI N) σ = some (chO W tp N N 0, zwr (zwr σ 33 2 (nI (4 * N))) 33 1 0) := by
    unfold F_X11_check F_X11_check_0
    rw [T_isBelow_9, bd_s, bI_t h1, if_neg (by decide), m4N, take_yes t0 t1 h2, bd_s, if_neg (by decide)]
    have key := zfix_out (body := F_X11_check_27L (nI N)) (fun p => (nI p, zwr (zwr σ 33 2 (nI (4 * N))) 33 1 0)) (fun p => some (chO W tp N (N - p) p, zwr (zwr σ 33 2 (nI (4 * N))) 33 1 0)) N (by omega) (fun p w hp ih => ?_) (fun w => ?_) 0 (Nat.zero_le _)
    · exact key
    · show F_X11_check_27 (nI N) w (nI p) _ = _
      have hC := f1.EC (by decide) w2
      have e2 : (zwr (zwr σ 33 2 (nI (4 * N))) 33 1 0).1 33 2 = nI (4 * N) := by simp only [zwr_r, upd_r, Nat.reduceEqDiff, ↓reduceIte]
      have tail : ∀ t0, t0 = chI W p → F_X11_check_55 w (nI N) (nI p) t0 (zwr (zwr σ 33 2 (nI (4 * N))) 33 1 0) = some (chO W tp N (N - p) p, zwr (zwr σ 33 2 (nI (4 * N))) 33 1 0) := by
        intro t0 ht
        subst ht
        unfold F_X11_check_55
        rw [show (4 : Int32) * nI p = nI (4 * p) from pk_mul 4 p, T_number e2 (by omega) r1 hp, bd_s, show N - p = (N - (p + 1)) + 1 by omega, nm_s, nI_1]
        unfold chO
        by_cases q : wrd tp p = chI W p
        · rw [if_pos q, if_pos q]
          exact ih
        · rw [if_neg q, if_neg q]
      unfold F_X11_check_27
      rw [if_neg (by rw [nI_lep (by omega)]; omega), T_isTold w0 hC, bd_s]
      by_cases q : wIs W p = true
      · rw [bI_t ((isT_n (by omega)).mpr q), if_neg (by decide), t_islandOf w0 hC (by omega), bd_s]
        exact tail _ (if_pos q).symm
      · rw [bI_f (fun r => q ((isT_n (by omega)).mp r)), if_pos rfl]
        exact tail _ (if_neg q).symm
    · show F_X11_check_27 (nI N) w (nI N) _ = _
      unfold F_X11_check_27
      rw [if_pos (by rw [nI_lep (by omega)]; omega), Nat.sub_self]
      rfl
  have f2 : fr [] [(33, 1), (33, 2), (69, 14)] σ (zwr (zwr (zwr σ 33 2 (nI (4 * N))) 33 1 0) 69 14 0) := (f1.mono (by decide)).w (Or.inr (by decide))
  have E2 : F_X12_check (nI N) (zwr (zwr σ 33 2 (nI (4 * N))) 33 1 0) = some (chO W tp N N 0, zwr (zwr (zwr σ 33 2 (nI (4 * N))) 33 1 0) 69 14 0) := by
    unfold F_X12_check F_X12_check_0
    have u : (zwr (zwr σ 33 2 (nI (4 * N))) 33 1 0).1 69 14 = nI m := t2
    rw [T_in_8, bd_s, bI_t h1, if_neg (by decide), u, d4, if_pos (by rw [nI_lep (by omega)]; omega), nm_s]
    have r2 : ∀ j, j < 4 * N → tp j < 256 ∧ (zwr (zwr (zwr σ 33 2 (nI (4 * N))) 33 1 0) 69 14 0).1 34 j = nI (tp j) ∧ (zwr (zwr (zwr σ 33 2 (nI (4 * N))) 33 1 0) 69 14 0).1 76 j = sb (tp j) := fun j hj => t3 j (by omega)
    have key := zfix_out (body := F_X12_check_30L (nI N)) (fun p => (nI p, zwr (zwr (zwr σ 33 2 (nI (4 * N))) 33 1 0) 69 14 0)) (fun p => some (chO W tp N (N - p) p, zwr (zwr (zwr σ 33 2 (nI (4 * N))) 33 1 0) 69 14 0)) N (by omega) (fun p w hp ih => ?_) (fun w => ?_) 0 (Nat.zero_le _)
    · exact key
    · show F_X12_check_30 (nI N) w (nI p) _ = _
      have hM := f2.EM (by decide) w3
      have tail : ∀ t0, t0 = chI W p → F_X12_check_57 w (nI N) (nI p) t0 (wrd tp p) (zwr (zwr (zwr σ 33 2 (nI (4 * N))) 33 1 0) 69 14 0) = some (chO W tp N (N - p) p, zwr (zwr (zwr σ 33 2 (nI (4 * N))) 33 1 0) 69 14 0) := by
        intro t0 ht
        subst ht
        unfold F_X12_check_57
        rw [show N - p = (N - (p + 1)) + 1 by omega, nm_s, nI_1]
        unfold chO
        by_cases q : wrd tp p = chI W p
        · rw [if_pos q, if_pos q]
          exact ih
        · rw [if_neg q, if_neg q]
      unfold F_X12_check_30
      rw [if_neg (by rw [nI_lep (by omega)]; omega), T_tapeNumber (by omega) r2 hp, bd_s, T_isPlace w0 hM, bd_s]
      by_cases q : wIs W p = true
      · rw [bI_t ((isT_n (by omega)).mpr q), if_neg (by decide), t_islandBy w0 hM (by omega), bd_s]
        exact tail _ (if_pos q).symm
      · rw [bI_f (fun r => q ((isT_n (by omega)).mp r)), if_pos rfl]
        exact tail _ (if_neg q).symm
    · show F_X12_check_30 (nI N) w (nI N) _ = _
      unfold F_X12_check_30
      rw [if_pos (by rw [nI_lep (by omega)]; omega), Nat.sub_self]
      rfl
  refine Both.mk E1 E2 (Rel_T hn hR (f2.eqOn (by decide)) (RT_0 ?_ ?_))
  · simp only [zwr_r, upd_r, Nat.reduceEqDiff, ↓reduceIte]
  · simp only [zwr_r, upd_r, Nat.reduceEqDiff, ↓reduceIte]
/-! PURE: common divisors, lots -/
theorem lN_eqp {a b : Nat} (h : a < 9223372036854775808 ∧ b < 9223372036854775808) : (lN a = lN b) = (a = b) := propext (pk_lEQ h.1 h.2)
theorem lN_lep {a b : Nat} (h : a < 9223372036854775808 ∧ b < 9223372036854775808) : (lN a ≤ lN b) = (a ≤ b) := propext (pk_lLE h.1 h.2)
theorem lN_ltp {a b : Nat} (h : a < 9223372036854775808 ∧ b < 9223372036854775808) : (lN a < lN b) = (a < b) := propext (pk_lLT h.1 h.2)
theorem lN_mod {a b : Nat} (h : a < 9223372036854775808 ∧ 0 < b ∧ b < 9223372036854775808) : lN a % lN b = lN (a % b) := by
  have h2 : a % b < b := Nat.mod_lt _ h.2.1
  apply Int64.toInt_inj.mp
  rw [Int64.toInt_mod, pk_lT h.1, pk_lT h.2.2, pk_lT (by omega)]
  rfl
theorem mod_half {y r : Nat} (h0 : 0 < r) (h : r < y) : 2 * (y % r) < y := by
  have h1 : y % r < r := Nat.mod_lt _ h0
  have h2 := Nat.div_add_mod y r
  have h3 : 1 ≤ y / r := (Nat.one_le_div_iff h0).mpr (Nat.le_of_lt h)
  have h4 : r * 1 ≤ r * (y / r) := Nat.mul_le_mul_left r h3
  omega
theorem T_gcdM {σ : zSt} : ∀ k x y f, x < 9223372036854775808 → y < 9223372036854775808 → y < 2 ^ k → 2 * k < f → zfix F_X12_gcd_6L f (lN x, lN y, σ) = some (lN (Nat.gcd x y), σ) := by
  have z : ∀ x f, x < 9223372036854775808 → 0 < f → zfix F_X12_gcd_6L f (lN x, lN 0, σ) = some (lN (Nat.gcd x 0), σ) := by
    intro x f hx hf
    obtain ⟨f, rfl⟩ : ∃ q, f = q + 1 := ⟨f - 1, by omega⟩
    show F_X12_gcd_6 (zfix F_X12_gcd_6L f) (lN x) (lN 0) σ = _
    unfold F_X12_gcd_6
    rw [if_pos ((lg_cmp_eq _ _).mpr (show lN 0 = 0 from rfl)), Nat.gcd_zero_right]
  have st : ∀ x y f, x < 9223372036854775808 → y < 9223372036854775808 → 0 < y → zfix F_X12_gcd_6L (f + 1) (lN x, lN y, σ) = zfix F_X12_gcd_6L f (lN y, lN (x % y), σ) := by
    intro x y f hx hy h0
    show F_X12_gcd_6 (zfix F_X12_gcd_6L f) (lN x) (lN y) σ = _
    have hne : ¬ lN y = 0 := by
      rw [show (0 : Int64) = lN 0 from rfl, lN_eqp (by omega)]
      omega
    unfold F_X12_gcd_6
    rw [if_neg (fun q => hne ((lg_cmp_eq _ _).mp q)), gd_t hne, nm_s, lN_mod (by omega)]
  intro k
  induction k with
  | zero =>
    intro x y f hx _ hy hf
    obtain rfl : y = 0 := by
      have : (2 : Nat) ^ 0 = 1 := rfl
      omega
    exact z x f hx (by omega)
  | succ k ih =>
    intro x y f hx hy63 hy hf
    by_cases q : y = 0
    · subst q
      exact z x f hx (by omega)
    obtain ⟨f, rfl⟩ : ∃ q, f = q + 1 := ⟨f - 1, by omega⟩
    rw [st x y f hx hy63 (by omega)]
    have hr : x % y < y := Nat.mod_lt _ (by omega)
    have e : Nat.gcd x y = Nat.gcd y (x % y) := by rw [Nat.gcd_comm x y, Nat.gcd_rec y x, Nat.gcd_comm]
    rw [e]
    by_cases r : x % y = 0
    · rw [r]
      exact z y f hy63 (by omega)
    obtain ⟨f, rfl⟩ : ∃ q, f = q + 1 := ⟨f - 1, by omega⟩
    rw [st y (x % y) f hy63 (by omega) (by omega)]
    have e2 : Nat.gcd y (x % y) = Nat.gcd (x % y) (y % (x % y)) := by rw [Nat.gcd_comm y (x % y), Nat.gcd_rec (x % y) y, Nat.gcd_comm]
    rw [e2]
    have hm := mod_half (y := y) (r := x % y) (by omega) hr
    have hp : 2 ^ (k + 1) = 2 * 2 ^ k := by rw [Nat.pow_succ, Nat.mul_comm]
    exact ih (x % y) (y % (x % y)) f (by omega) (by omega) (by omega) (by omega)
theorem T_gcd {σ : zSt} {x y : Nat} (hx : x < 9223372036854775808) (hy : y < 9223372036854775808) : F_X12_gcd (lN x) (lN y) σ = some (lN (Nat.gcd x y), σ) := by
  unfold F_X12_gcd F_X12_gcd_0
  exact T_gcdM 63 x y zlim hx hy (by rw [show (2 : Nat) ^ 63 = 9223372036854775808 by decide]; exact hy) (by show 126 < 1000000; decide)
theorem T_gcdC {σ : zSt} : ∀ k x y n f, x < 9223372036854775808 → y < 9223372036854775808 → y < 2 ^ k → n + 2 * k < 1000 → 2 * k < f → 0 < Nat.gcd x y → zfix F_X11_commonDivisor_9L f (lN x, lN y, nI n, σ) = some (lN (Nat.gcd x y), σ) := by
  have z : ∀ x n f, x < 9223372036854775808 → n < 1000 → 0 < f → 0 < Nat.gcd x 0 → zfix F_X11_commonDivisor_9L f (lN x, lN 0, nI n, σ) = some (lN (Nat.gcd x 0), σ) := by
    intro x n f hx hn hf hg
    obtain ⟨f, rfl⟩ : ∃ q, f = q + 1 := ⟨f - 1, by omega⟩
    show F_X11_commonDivisor_9 (zfix F_X11_commonDivisor_9L f) (lN x) (lN 0) (nI n) σ = _
    rw [Nat.gcd_zero_right] at hg ⊢
    unfold F_X11_commonDivisor_9 F_X11_commonDivisor_45
    rw [if_neg (by rw [show (1000 : Int32) = nI 1000 from rfl, nI_lep (by omega)]; omega), if_pos ((lg_cmp_eq _ _).mpr (show lN 0 = 0 from rfl)), if_neg (by rw [lg_cmp_le, show (0 : Int64) = lN 0 from rfl, lN_lep (by omega)]; omega)]
  have st : ∀ x y n f, x < 9223372036854775808 → y < 9223372036854775808 → 0 < y → n < 1000 → zfix F_X11_commonDivisor_9L (f + 1) (lN x, lN y, nI n, σ) = zfix F_X11_commonDivisor_9L f (lN y, lN (x % y), nI (n + 1), σ) := by
    intro x y n f hx hy h0 hn
    show F_X11_commonDivisor_9 (zfix F_X11_commonDivisor_9L f) (lN x) (lN y) (nI n) σ = _
    have hne : ¬ lN y = 0 := by
      rw [show (0 : Int64) = lN 0 from rfl, lN_eqp (by omega)]
      omega
    unfold F_X11_commonDivisor_9
    rw [if_neg (by rw [show (1000 : Int32) = nI 1000 from rfl, nI_lep (by omega)]; omega), if_neg (fun q => hne ((lg_cmp_eq _ _).mp q)), gd_t hne, nm_s, nm_s, lN_mod (by omega), nI_1]
  intro k
  induction k with
  | zero =>
    intro x y n f hx _ hy hn hf hg
    obtain rfl : y = 0 := by
      have : (2 : Nat) ^ 0 = 1 := rfl
      omega
    exact z x n f hx (by omega) (by omega) hg
  | succ k ih =>
    intro x y n f hx hy63 hy hn hf hg
    by_cases q : y = 0
    · subst q
      exact z x n f hx (by omega) (by omega) hg
    obtain ⟨f, rfl⟩ : ∃ q, f = q + 1 := ⟨f - 1, by omega⟩
    rw [st x y n f hx hy63 (by omega) (by omega)]
    have hr : x % y < y := Nat.mod_lt _ (by omega)
    have e : Nat.gcd x y = Nat.gcd y (x % y) := by rw [Nat.gcd_comm x y, Nat.gcd_rec y x, Nat.gcd_comm]
    rw [e] at hg ⊢
    by_cases r : x % y = 0
    · rw [r] at hg ⊢
      exact z y (n + 1) f hy63 (by omega) (by omega) hg
    obtain ⟨f, rfl⟩ : ∃ q, f = q + 1 := ⟨f - 1, by omega⟩
    rw [st y (x % y) (n + 1) f hy63 (by omega) (by omega) (by omega)]
    have e2 : Nat.gcd y (x % y) = Nat.gcd (x % y) (y % (x % y)) := by rw [Nat.gcd_comm y (x % y), Nat.gcd_rec (x % y) y, Nat.gcd_comm]
    rw [e2] at hg ⊢
    have hm := mod_half (y := y) (r := x % y) (by omega) hr
    have hp : 2 ^ (k + 1) = 2 * 2 ^ k := by rw [Nat.pow_succ, Nat.mul_comm]
    exact ih (x % y) (y % (x % y)) (n + 1 + 1) f (by omega) (by omega) (by omega) (by omega) (by omega) hg
theorem T_cdiv {σ : zSt} {x y : Nat} (hx : x < 9223372036854775808) (hy : y < 9223372036854775808) (hg : 0 < Nat.gcd x y) : F_X11_commonDivisor (lN x) (lN y) σ = some (lN (Nat.gcd x y), σ) := by
  unfold F_X11_commonDivisor F_X11_commonDivisor_0
  exact T_gcdC 63 x y 0 zlim hx hy (by rw [show (2 : Nat) ^ 63 = 9223372036854775808 by decide]; exact hy) (by decide) (by show 126 < 1000000; decide) hg
theorem T_through {σ : zSt} {x y : Nat} (hx : x < 9223372036854775808) (hy : y < 9223372036854775808) (hg : 0 < Nat.gcd x y) (q : Int32) : F_X12_through (lN x) (lN y) q σ = some ((if q = 0 then lN (x / Nat.gcd x y) else lN (y / Nat.gcd x y)), σ) := by
  unfold F_X12_through F_X12_through_0
  have hg2 : Nat.gcd x y < 9223372036854775808 := by
    rcases Nat.eq_zero_or_pos x with r | r
    · subst r
      rw [Nat.gcd_zero_left] at hg ⊢
      exact hy
    · have := Nat.gcd_le_left y r
      omega
  have hne : ¬ lN (Nat.gcd x y) = 0 := by
    rw [show (0 : Int64) = lN 0 from rfl, lN_eqp (by omega)]
    omega
  rw [T_gcd hx hy, bd_s]
  by_cases z : q = 0
  · rw [if_pos z, if_pos z, gd_t hne, pk_lDiv hx hg hg2]
  · rw [if_neg z, if_neg z, gd_t hne, pk_lDiv hy hg hg2]
theorem sb_lot : ∀ b, b < 256 → ((decide ((1 : Int) ≤ (sb b).toInt) && decide ((sb b).toInt ≤ 99)) = (decide (1 ≤ b) && decide (b ≤ 99))) := by decide +kernel
theorem sb_ok : ∀ b, b < 100 → sb b = nI b := by decide +kernel
theorem T_in_99 {x : Int32} {σ : zSt} : F_X12_in x 1 99 σ = some (bI ((1 : Int) ≤ x.toInt ∧ x.toInt ≤ 99), σ) := T_in
/-- all worths are such ones -/
def lotOK (tp : Nat → Nat) (N : Nat) : Prop := ∀ j, j < N → 1 ≤ tp j ∧ tp j ≤ 99
def lotP (tp : Nat → Nat) : Nat → Nat
  | 0 => 1
  | k + 1 => lotP tp k * tp k
def lotS (tp : Nat → Nat) (P : Nat) : Nat → Nat
  | 0 => 0
  | k + 1 => lotS tp P k + P / tp k
theorem lotP_b {tp : Nat → Nat} {N : Nat} (h : lotOK tp N) : ∀ k, k ≤ N → 1 ≤ lotP tp k ∧ lotP tp k ≤ 99 ^ k := by
  intro k
  induction k with
  | zero => intro _; exact ⟨Nat.le_refl 1, Nat.le_refl 1⟩
  | succ k ih =>
    intro hk
    obtain ⟨a, b⟩ := ih (by omega)
    obtain ⟨c, d⟩ := h k (by omega)
    unfold lotP
    refine ⟨Nat.mul_pos a c, ?_⟩
    rw [Nat.pow_succ]
    exact Nat.mul_le_mul b d
theorem lotP_6 {tp : Nat → Nat} {N : Nat} (h : lotOK tp N) (hN : N ≤ 6) {k : Nat} (hk : k ≤ N) : 1 ≤ lotP tp k ∧ lotP tp k ≤ 941480149401 := by
  obtain ⟨a, b⟩ := lotP_b h k hk
  have c : 99 ^ k ≤ 99 ^ 6 := Nat.pow_le_pow_right (by decide) (by omega)
  have d : (99 : Nat) ^ 6 = 941480149401 := by decide
  omega
theorem lotS_b (tp : Nat → Nat) (P : Nat) : ∀ k, lotS tp P k ≤ k * P := by
  intro k
  induction k with
  | zero => exact Nat.zero_le _
  | succ k ih =>
    unfold lotS
    have : P / tp k ≤ P := Nat.div_le_self _ _
    rw [Nat.succ_mul]
    omega
theorem lotS_6 (tp : Nat → Nat) {P : Nat} (hP : P ≤ 941480149401) {k : Nat} (hk : k ≤ 6) : lotS tp P k ≤ 5648880896406 := by
  have a := lotS_b tp P k
  have b : k * P ≤ 6 * 941480149401 := Nat.mul_le_mul hk hP
  omega
theorem P_dvd {tp : Nat → Nat} {N : Nat} (h : lotOK tp N) : ∀ k, k ≤ N → ∀ j, j < k → tp j ≤ lotP tp k := by
  intro k
  induction k with
  | zero => intro _ j hj; omega
  | succ k ih =>
    intro hk j hj
    unfold lotP
    by_cases q : j = k
    · rw [q]
      exact Nat.le_mul_of_pos_left _ (lotP_b h k (by omega)).1
    · exact Nat.le_trans (ih (by omega) j (by omega)) (Nat.le_mul_of_pos_right _ (h k (by omega)).1)
theorem lotS_pos {tp : Nat → Nat} {N : Nat} (h : lotOK tp N) (hN : 1 ≤ N) : 0 < lotS tp (lotP tp N) N := by
  obtain ⟨M, rfl⟩ : ∃ q, N = q + 1 := ⟨N - 1, by omega⟩
  rw [lotS]
  have a := P_dvd h (M + 1) (Nat.le_refl _) M (by omega)
  have b := (h M (by omega)).1
  have : 1 ≤ lotP tp (M + 1) / tp M := (Nat.one_le_div_iff b).mpr a
  omega
theorem gcd_pos_r {a b : Nat} (h : 0 < b) : 0 < Nat.gcd a b := Nat.gcd_pos_of_pos_right a h
theorem T_others {σ : zSt} {tp : Nat → Nat} {N k i : Nat} (h : lotOK tp N) (hN : N ≤ 6) (hk : k ≤ N) (hi : i < k) (e1 : σ.1 63 1 = nI k) (e2 : σ.2 63 2 = lN (lotP tp k)) (e3 : ∀ j, j < k → σ.1 64 j = nI (tp j)) : F_X2_othersThan (nI i) σ = some (lN (lotP tp k / tp i), σ) := by
  have hP := lotP_6 h hN hk
  obtain ⟨a, b⟩ := h i (by omega)
  have hb : bel (nI i) 6 := bel_t (by omega)
  have hb2 : bel (nI i) k := bel_t (by omega)
  unfold F_X2_othersThan F_X2_othersThan_0
  rw [e1, T_isBelow k (i_nI (by omega)), bd_s, bI_t hb2, if_neg (show ¬ (1 : Int32) = 0 by decide), T_isBelow_6, bd_s, bI_t hb, if_neg (show ¬ (1 : Int32) = 0 by decide), gd_n (by omega), nI_cl (by omega), e3 i hi, if_neg (nI_ne0 (by omega) (by omega)), gd_n (by omega), nI_l (by omega), e2]
  have hne : ¬ lN (tp i) = 0 := by
    rw [show (0 : Int64) = lN 0 from rfl, lN_eqp (by omega)]
    omega
  rw [gd_t hne, pk_lDiv (by omega) (by omega) (by omega)]
/-- reading: what lies there then -/
theorem T_readL {σ : zSt} {tp : Nat → Nat} {N : Nat} (hN : N ≤ 6) (e : σ.1 33 2 = nI N) (h : ∀ j, j < N → tp j < 256 ∧ σ.1 34 j = nI (tp j) ∧ σ.1 76 j = sb (tp j)) : wp (F_X2_read (nI N) σ) (fun a τ => a = bI (lotOK tp N) ∧ fr [63, 64] [] σ τ ∧ (lotOK tp N → τ.1 63 1 = nI N ∧ τ.2 63 2 = lN (lotP tp N) ∧ τ.2 63 3 = lN (lotS tp (lotP tp N) N) ∧ ∀ j, j < N → τ.1 64 j = nI (tp j))) := by
  unfold F_X2_read F_X2_read_0
  simp only [nm_s]
  have f0 : fr [63, 64] [] σ (zwrL (zwrL (zwr σ 63 1 0) 63 2 1) 63 3 0) := ((fr_w (Or.inl (by decide))).wL (by decide)).wL (by decide)
  refine wp_for (fun k s => s.1 = nI k ∧ fr [63, 64] [] σ s.2 ∧ lotOK tp k ∧ s.2.1 63 1 = nI k ∧ s.2.2 63 2 = lN (lotP tp k) ∧ s.2.2 63 3 = 0 ∧ ∀ j, j < k → s.2.1 64 j = nI (tp j)) N (by omega) (fun k w s hk hI hw => ?_) (fun w s hI => ?_) ⟨rfl, f0, fun j hj => absurd hj (Nat.not_lt_zero j), rfl, rfl, rfl, fun j hj => absurd hj (Nat.not_lt_zero j)⟩
  · obtain ⟨x, τ⟩ := s
    obtain ⟨i1, i2, i3, i4, i5, i6, i7⟩ := hI
    simp only at i1 i2 i3 i4 i5 i6 i7
    subst i1
    show wp (F_X2_read_17 (nI N) w (nI k) τ) _
    have eτ : τ.1 33 2 = nI N := (i2.rd (by decide) (by decide)).trans e
    have r34 : τ.1 34 = σ.1 34 := i2.row (by decide)
    have r76 : τ.1 76 = σ.1 76 := i2.row (by decide)
    have hτ : ∀ j, j < N → tp j < 256 ∧ τ.1 34 j = nI (tp j) ∧ τ.1 76 j = sb (tp j) := by
      rw [r34, r76]
      exact h
    have hb := (h k hk).1
    unfold F_X2_read_17
    rw [if_neg (by rw [nI_lep (by omega)]; omega), if_neg (by rw [show (6 : Int32) = nI 6 from rfl, nI_lep (by omega)]; omega), T_at eτ (by omega) hτ (by omega), bd_s, if_pos hk, show (1 : Int32) = nI 1 from rfl, show (99 : Int32) = nI 99 from rfl, nI_ltp (by omega), nI_lep (by omega)]
    by_cases q1 : tp k < 1
    · rw [if_pos q1]
      have hno : ¬ lotOK tp N := fun r => by have := (r k hk).1; omega
      exact wp_some ⟨(bI_f hno).symm, i2, fun r => absurd r hno⟩
    rw [if_neg q1]
    by_cases q2 : tp k ≤ 99
    rotate_left
    · rw [if_neg q2]
      have hno : ¬ lotOK tp N := fun r => by have := (r k hk).2; omega
      exact wp_some ⟨(bI_f hno).symm, i2, fun r => absurd r hno⟩
    rw [if_pos q2, gd_n (by omega), nI_cl (by omega), nI_l (by omega)]
    simp only [nm_s, zwr_r, Nat.reduceEqDiff, ↓reduceIte, i4, zwr_L, i5, lN_mul, zwrL_I, nI_add]
    have i3' : lotOK tp (k + 1) := by
      intro j hj
      by_cases z : j = k
      · rw [z]
        omega
      · exact i3 j (by omega)
    refine hw _ ⟨rfl, ((i2.w (Or.inl (by decide))).wL (by decide)).w (Or.inl (by decide)), i3', ?_, ?_, ?_, fun j hj => ?_⟩
    · simp only [zwr_r, upd_r, ↓reduceIte]
    · show (zwrL (zwr τ 64 k (nI (tp k))) 63 2 (lN (lotP tp k * tp k))).2 63 2 = _
      rw [zwrL_c, pk_uLs]
      rfl
    · show (zwrL (zwr τ 64 k (nI (tp k))) 63 2 (lN (lotP tp k * tp k))).2 63 3 = _
      rw [zwrL_c, pk_uLn (by decide)]
      exact i6
    · show upd (τ.1 64) k (nI (tp k)) j = _
      by_cases z : j = k
      · rw [z, pk_us]
      · rw [pk_un z]
        exact i7 j (by omega)
  · obtain ⟨x, τ⟩ := s
    obtain ⟨i1, i2, i3, i4, i5, i6, i7⟩ := hI
    simp only at i1 i2 i3 i4 i5 i6 i7
    subst i1
    show wp (F_X2_read_17 (nI N) w (nI N) τ) _
    unfold F_X2_read_17 F_X2_read_86
    rw [if_pos (by rw [nI_lep (by omega)]; omega)]
    have hP := lotP_6 i3 hN (Nat.le_refl N)
    refine wp_for (fun k s => s.1 = nI k ∧ fr [63, 64] [] σ s.2 ∧ s.2.1 63 1 = nI N ∧ s.2.2 63 2 = lN (lotP tp N) ∧ s.2.2 63 3 = lN (lotS tp (lotP tp N) k) ∧ ∀ j, j < N → s.2.1 64 j = nI (tp j)) N (by omega) (fun k w2 s hk hI hw => ?_) (fun w2 s hI => ?_) ⟨rfl, i2, i4, i5, i6, i7⟩
    · obtain ⟨x, υ⟩ := s
      obtain ⟨j1, j2, j4, j5, j6, j7⟩ := hI
      simp only at j1 j2 j4 j5 j6 j7
      subst j1
      show wp (F_X2_read_88 w2 (nI k) υ) _
      unfold F_X2_read_88
      rw [j4, if_neg (by rw [nI_lep (by omega)]; omega), T_others i3 hN (Nat.le_refl N) hk j4 j5 j7, bd_s, j6, lN_add]
      simp only [nm_s, nI_1]
      refine hw _ ⟨rfl, j2.wL (by decide), j4, ?_, ?_, j7⟩
      · rw [zwrL_c, pk_uLn (by decide)]
        exact j5
      · rw [zwrL_c, pk_uLs]
        rfl
    · obtain ⟨x, υ⟩ := s
      obtain ⟨j1, j2, j4, j5, j6, j7⟩ := hI
      simp only at j1 j2 j4 j5 j6 j7
      subst j1
      show wp (F_X2_read_88 w2 (nI N) υ) _
      unfold F_X2_read_88
      rw [j4, if_pos (by rw [nI_lep (by omega)]; omega)]
      exact wp_some ⟨(bI_t i3).symm, j2, fun _ => ⟨j4, j5, j6, j7⟩⟩
/-- the question of lots: what it asks -/
def lotQ (N : Nat) (x : Int32) : Prop := bel x 2 ∨ (∃ i, i < N ∧ x = nI (10 + i)) ∨ (∃ i, i < N ∧ x = nI (20 + i))
def lotA (tp : Nat → Nat) (N : Nat) (x : Int32) : Int64 :=
  if x = 0 then lN (lotP tp N / Nat.gcd (lotP tp N) (lotS tp (lotP tp N) N)) else if x = 1 then lN (lotS tp (lotP tp N) N / Nat.gcd (lotP tp N) (lotS tp (lotP tp N) N)) else
  if x < 20 then lN (lotP tp N / tp (x.toNatClampNeg - 10) / Nat.gcd (lotP tp N / tp (x.toNatClampNeg - 10)) (lotS tp (lotP tp N) N)) else lN (lotS tp (lotP tp N) N / Nat.gcd (lotP tp N / tp (x.toNatClampNeg - 20)) (lotS tp (lotP tp N) N))
theorem bel2 {x : Int32} (h : bel x 2) : x = 0 ∨ x = 1 := by
  obtain ⟨j, hj, rfl⟩ := bel_of h
  have e : j = 0 ∨ j = 1 := by omega
  rcases e with rfl | rfl
  · exact Or.inl rfl
  · exact Or.inr rfl
theorem T_ans21 {σ : zSt} {a s : Nat} (ha : a < 9223372036854775808) (hs : s < 9223372036854775808) (h0 : 0 < s) (e3 : σ.2 63 3 = lN s) (x : Int32) : F_X2_answer_21 x (lN a) σ = some ((if x = 0 then lN (a / Nat.gcd a s) else if x < 10 then lN (s / Nat.gcd a s) else if (20 : Int32) ≤ x then lN (s / Nat.gcd a s) else lN (a / Nat.gcd a s)), σ) := by
  have hg : 0 < Nat.gcd a s := gcd_pos_r h0
  have hg2 : Nat.gcd a s < 9223372036854775808 := by
    have := Nat.gcd_le_right a h0
    omega
  have hne : ¬ lN (Nat.gcd a s) = 0 := by
    rw [show (0 : Int64) = lN 0 from rfl, lN_eqp (by omega)]
    omega
  have da := pk_lDiv (a := a) (b := Nat.gcd a s) ha hg hg2
  have ds := pk_lDiv (a := s) (b := Nat.gcd a s) hs hg hg2
  unfold F_X2_answer_21
  rw [nm_s, nm_s, e3, T_cdiv ha hs hg, bd_s, gd_t hne]
  by_cases q0 : x = 0
  · rw [if_pos q0, if_pos q0, if_neg (show ¬ (1 : Int32) = 0 by decide), da]
  rw [if_neg q0, if_neg q0]
  by_cases q1 : x < 10
  · rw [if_pos q1, if_pos q1, if_pos (show (0 : Int32) = 0 from rfl), ds]
  rw [if_neg q1, if_neg q1]
  by_cases q2 : (20 : Int32) ≤ x
  · rw [if_pos q2, if_pos q2, if_pos (show (0 : Int32) = 0 from rfl), ds]
  · rw [if_neg q2, if_neg q2, if_neg (show ¬ (1 : Int32) = 0 by decide), da]
theorem T_ansL {σ : zSt} {tp : Nat → Nat} {N : Nat} (h : lotOK tp N) (hN1 : 1 ≤ N) (hN : N ≤ 6) (e1 : σ.1 63 1 = nI N) (e2 : σ.2 63 2 = lN (lotP tp N)) (e3 : σ.2 63 3 = lN (lotS tp (lotP tp N) N)) (e4 : ∀ j, j < N → σ.1 64 j = nI (tp j)) {x : Int32} (hx : lotQ N x) : F_X2_answer x σ = some (lotA tp N x, σ) := by
  have hP := lotP_6 h hN (Nat.le_refl N)
  have hS := lotS_6 tp hP.2 hN
  have hS0 := lotS_pos h hN1
  unfold F_X2_answer F_X2_answer_0 lotA
  rcases hx with hx | ⟨i, hi, rfl⟩ | ⟨i, hi, rfl⟩
  · have nx : ¬ (10 : Int32) ≤ x := by
      rcases bel2 hx with rfl | rfl <;> decide
    rw [if_neg nx, e2, T_ans21 (by omega) (by omega) hS0 e3]
    rcases bel2 hx with rfl | rfl
    · rw [if_pos rfl, if_pos rfl]
    · rw [if_neg (show ¬ (1 : Int32) = 0 by decide), if_neg (show ¬ (1 : Int32) = 0 by decide), if_pos rfl, if_pos (show (1 : Int32) < 10 by decide)]
  · have hm : nI (10 + i) % (10 : Int32) = nI i := by
      rw [show (10 : Int32) = nI 10 from rfl, nI_mod (by omega), show (10 + i) % 10 = i by omega]
    have hd : lotP tp N / tp i ≤ lotP tp N := Nat.div_le_self _ _
    rw [if_pos (by rw [show (10 : Int32) = nI 10 from rfl, nI_lep (by omega)]; omega), hm, T_others h hN (Nat.le_refl N) hi e1 e2 e4, bd_s, T_ans21 (by omega) (by omega) hS0 e3, if_neg (nI_ne0 (by omega) (by omega)), if_neg (by rw [show (10 : Int32) = nI 10 from rfl, nI_ltp (by omega)]; omega), if_neg (by rw [show (20 : Int32) = nI 20 from rfl, nI_lep (by omega)]; omega), if_neg (nI_ne0 (by omega) (by omega)), if_neg (by rw [show (1 : Int32) = nI 1 from rfl, nI_eqp (by omega)]; omega), if_pos (by rw [show (20 : Int32) = nI 20 from rfl, nI_ltp (by omega)]; omega), nI_cl (by omega), show 10 + i - 10 = i by omega]
  · have hm : nI (20 + i) % (10 : Int32) = nI i := by
      rw [show (10 : Int32) = nI 10 from rfl, nI_mod (by omega), show (20 + i) % 10 = i by omega]
    have hd : lotP tp N / tp i ≤ lotP tp N := Nat.div_le_self _ _
    rw [if_pos (by rw [show (10 : Int32) = nI 10 from rfl, nI_lep (by omega)]; omega), hm, T_others h hN (Nat.le_refl N) hi e1 e2 e4, bd_s, T_ans21 (by omega) (by omega) hS0 e3, if_neg (nI_ne0 (by omega) (by omega)), if_neg (by rw [show (10 : Int32) = nI 10 from rfl, nI_ltp (by omega)]; omega), if_pos (by rw [show (20 : Int32) = nI 20 from rfl, nI_lep (by omega)]; omega), if_neg (nI_ne0 (by omega) (by omega)), if_neg (by rw [show (1 : Int32) = nI 1 from rfl, nI_eqp (by omega)]; omega), if_neg (by rw [show (20 : Int32) = nI 20 from rfl, nI_ltp (by omega)]; omega), nI_cl (by omega), show 20 + i - 20 = i by omega]
theorem T_lots57 {σ : zSt} {tp : Nat → Nat} {N : Nat} (hN1 : 1 ≤ N) (hN : N ≤ 6) (h : ∀ j, j < N → tp j < 256 ∧ σ.1 34 j = nI (tp j) ∧ σ.1 76 j = sb (tp j)) {x : Int32} (hx : lotQ N x) : F_X12_lots_57 (nI N) x σ = some (@ite _ (lotOK tp N) (Classical.propDecidable _) (lotA tp N x) (-2), zwr σ 69 14 0) := by
  unfold F_X12_lots_57
  rw [nm_s]
  have h' : ∀ j, j < N → tp j < 256 ∧ (zwr σ 69 14 0).1 76 j = sb (tp j) := fun j hj => ⟨(h j hj).1, (h j hj).2.2⟩
  generalize zwr σ 69 14 0 = τ at h' ⊢
  have key : ∀ f k fu, k + f = N → f < fu → lotOK tp k → zfix (F_X12_lots_67L (nI N) x) fu (lN (lotP tp k), nI k, τ) = some (@ite _ (lotOK tp N) (Classical.propDecidable _) (lotA tp N x) (-2), τ) := by
    intro f
    induction f with
    | zero =>
      intro k fu hk hf hok
      obtain rfl : k = N := by omega
      obtain ⟨fu, rfl⟩ : ∃ q, fu = q + 1 := ⟨fu - 1, by omega⟩
      show F_X12_lots_67 (nI k) x (zfix (F_X12_lots_67L (nI k) x) fu) (lN (lotP tp k)) (nI k) τ = _
      have hP := lotP_6 hok hN (Nat.le_refl k)
      have hS := lotS_6 tp hP.2 hN
      have hS0 := lotS_pos hok hN1
      unfold F_X12_lots_67 F_X12_lots_110
      rw [if_pos (by rw [nI_lep (by omega)]; omega), if_pos hok]
      have b64 : ∀ j, j < k → (τ.1 76 j).toInt64 = lN (tp j) := by
        intro j hj
        rw [(h' j hj).2, sb_ok _ (by have := (hok j hj).2; omega), nI_l (by have := (hok j hj).2; omega)]
      have ne0 : ∀ j, j < k → ¬ lN (tp j) = 0 := by
        intro j hj
        obtain ⟨a, b⟩ := hok j hj
        rw [show (0 : Int64) = lN 0 from rfl, lN_eqp (by omega)]
        omega
      have E : zfix (F_X12_lots_116L (nI k) x (lN (lotP tp k))) zlim ((0 : Int64), (0 : Int32), τ) = F_X12_lots_143 x (lN (lotP tp k)) (lN (lotS tp (lotP tp k) k)) τ := by
        refine zfix_run (fun j => (lN (lotS tp (lotP tp k) j), nI j, τ)) k (by omega) (fun j w hj => ?_) (fun w => ?_)
        · show F_X12_lots_116 (nI k) x (lN (lotP tp k)) w (lN (lotS tp (lotP tp k) j)) (nI j) τ = w (lN (lotS tp (lotP tp k) (j + 1)), nI (j + 1), τ)
          obtain ⟨a, b⟩ := hok j hj
          unfold F_X12_lots_116
          rw [if_neg (by rw [nI_lep (by omega)]; omega), gd_n (by omega), nI_cl (by omega), b64 j hj, gd_t (ne0 j hj), nm_s, nm_s, nI_1, pk_lDiv (by omega) (by omega) (by omega), lN_add]
          rfl
        · show F_X12_lots_116 (nI k) x (lN (lotP tp k)) w _ (nI k) τ = _
          unfold F_X12_lots_116
          rw [if_pos (by rw [nI_lep (by omega)]; omega)]
      rw [E]
      unfold F_X12_lots_143 lotA
      rcases hx with hx | ⟨i, hi, rfl⟩ | ⟨i, hi, rfl⟩
      · have nx : ¬ (2 : Int32) ≤ x := by
          rcases bel2 hx with rfl | rfl <;> decide
        rw [if_neg nx, T_through (by omega) (by omega) (gcd_pos_r hS0), bd_s]
        rcases bel2 hx with rfl | rfl
        · rw [if_pos rfl, if_pos rfl]
        · rw [if_neg (show ¬ (1 : Int32) = 0 by decide), if_neg (show ¬ (1 : Int32) = 0 by decide), if_pos rfl]
      · have hm : nI (10 + i) % (10 : Int32) = nI i := by
          rw [show (10 : Int32) = nI 10 from rfl, nI_mod (by omega), show (10 + i) % 10 = i by omega]
        have hq : nI (10 + i) / (10 : Int32) - 1 = 0 := by
          rw [show (10 : Int32) = nI 10 from rfl, pk_div (by omega) (by omega) (by omega), show (10 + i) / 10 = 1 by omega]
          rfl
        have hd : lotP tp k / tp i ≤ lotP tp k := Nat.div_le_self _ _
        obtain ⟨a, b⟩ := hok i hi
        rw [if_pos (by rw [show (2 : Int32) = nI 2 from rfl, nI_lep (by omega)]; omega), hm, gd_n (by omega), nI_cl (by omega), b64 i hi, gd_t (ne0 i hi), hq, pk_lDiv (by omega) (by omega) (by omega), T_through (by omega) (by omega) (gcd_pos_r hS0), bd_s, if_pos rfl, if_neg (nI_ne0 (by omega) (by omega)), if_neg (by rw [show (1 : Int32) = nI 1 from rfl, nI_eqp (by omega)]; omega), if_pos (by rw [show (20 : Int32) = nI 20 from rfl, nI_ltp (by omega)]; omega), nI_cl (by omega), show 10 + i - 10 = i by omega]
      · have hm : nI (20 + i) % (10 : Int32) = nI i := by
          rw [show (10 : Int32) = nI 10 from rfl, nI_mod (by omega), show (20 + i) % 10 = i by omega]
        have hq : nI (20 + i) / (10 : Int32) - 1 = 1 := by
          rw [show (10 : Int32) = nI 10 from rfl, pk_div (by omega) (by omega) (by omega), show (20 + i) / 10 = 2 by omega]
          rfl
        have hd : lotP tp k / tp i ≤ lotP tp k := Nat.div_le_self _ _
        obtain ⟨a, b⟩ := hok i hi
        rw [if_pos (by rw [show (2 : Int32) = nI 2 from rfl, nI_lep (by omega)]; omega), hm, gd_n (by omega), nI_cl (by omega), b64 i hi, gd_t (ne0 i hi), hq, pk_lDiv (by omega) (by omega) (by omega), T_through (by omega) (by omega) (gcd_pos_r hS0), bd_s, if_neg (show ¬ (1 : Int32) = 0 by decide), if_neg (nI_ne0 (by omega) (by omega)), if_neg (by rw [show (1 : Int32) = nI 1 from rfl, nI_eqp (by omega)]; omega), if_neg (by rw [show (20 : Int32) = nI 20 from rfl, nI_ltp (by omega)]; omega), nI_cl (by omega), show 20 + i - 20 = i by omega]
    | succ f ih =>
      intro k fu hk hf hok
      obtain ⟨fu, rfl⟩ : ∃ q, fu = q + 1 := ⟨fu - 1, by omega⟩
      show F_X12_lots_67 (nI N) x (zfix (F_X12_lots_67L (nI N) x) fu) (lN (lotP tp k)) (nI k) τ = _
      obtain ⟨hb, e76⟩ := h' k (by omega)
      have sl := sb_lot (tp k) hb
      unfold F_X12_lots_67 F_X12_lots_89
      rw [if_neg (by rw [nI_lep (by omega)]; omega), gd_n (by omega), nI_cl (by omega), e76, T_in_99, bd_s]
      by_cases q : 1 ≤ tp k ∧ tp k ≤ 99
      · have sl2 : (1 : Int) ≤ (sb (tp k)).toInt ∧ (sb (tp k)).toInt ≤ 99 := by
          rw [decide_eq_true q.1, decide_eq_true q.2] at sl
          simpa using sl
        have hok' : lotOK tp (k + 1) := by
          intro j hj
          by_cases z : j = k
          · rw [z]
            exact q
          · exact hok j (by omega)
        rw [bI_t sl2, if_neg (show ¬ (1 : Int32) = 0 by decide), gd_n (by omega), e76, sb_ok _ (by omega), nI_l (by omega), nm_s, nm_s, lN_mul, nI_1]
        exact ih (k + 1) fu (by omega) (by omega) hok'
      · have sl2 : ¬ ((1 : Int) ≤ (sb (tp k)).toInt ∧ (sb (tp k)).toInt ≤ 99) := by
          intro r
          rw [decide_eq_true r.1, decide_eq_true r.2] at sl
          have sl3 := sl.symm
          simp only [Bool.and_self, Bool.and_eq_true, decide_eq_true_eq] at sl3
          exact q sl3
        rw [bI_f sl2, if_pos rfl, if_neg (fun r => q (r k (by omega)))]
  exact key N 0 zlim (by omega) (by show N < 1000000; omega) (fun j hj => absurd hj (Nat.not_lt_zero j))
theorem lotQ_i {N : Nat} (hN : N ≤ 6) (x : Int32) : lotQ N x ↔ bel x 2 ∨ (10 ≤ x.toInt ∧ x.toInt < 10 + N) ∨ (20 ≤ x.toInt ∧ x.toInt < 20 + N) := by
  constructor
  · rintro (h | ⟨i, hi, rfl⟩ | ⟨i, hi, rfl⟩)
    · exact Or.inl h
    · refine Or.inr (Or.inl ?_)
      rw [i_nI (by omega)]
      omega
    · refine Or.inr (Or.inr ?_)
      rw [i_nI (by omega)]
      omega
  · rintro (h | h | h)
    · exact Or.inl h
    · obtain ⟨j, hj, rfl⟩ := i_of (n := 17) (x := x) (by omega) (by omega)
      rw [i_nI (by omega)] at h
      exact Or.inr (Or.inl ⟨j - 10, by omega, by rw [show 10 + (j - 10) = j by omega]⟩)
    · obtain ⟨j, hj, rfl⟩ := i_of (n := 27) (x := x) (by omega) (by omega)
      rw [i_nI (by omega)] at h
      exact Or.inr (Or.inr ⟨j - 20, by omega, by rw [show 20 + (j - 20) = j by omega]⟩)
theorem lotV {N : Nat} (hN : N ≤ 6) (x2 : Int32) : (if x2 < (10 : Int32) then (if x2 < (20 : Int32) then (0 : Int32) else (if ((20 : Int32) + nI N) ≤ x2 then (0 : Int32) else (1 : Int32))) else (if x2 < ((10 : Int32) + nI N) then (1 : Int32) else (if x2 < (20 : Int32) then (0 : Int32) else (if ((20 : Int32) + nI N) ≤ x2 then (0 : Int32) else (1 : Int32))))) = bI ((10 ≤ x2.toInt ∧ x2.toInt < 10 + N) ∨ (20 ≤ x2.toInt ∧ x2.toInt < 20 + N)) := by
  have a : (10 : Int32).toInt = 10 := rfl
  have b : (20 : Int32).toInt = 20 := rfl
  have c : ((10 : Int32) + nI N).toInt = 10 + N := by
    rw [show (10 : Int32) + nI N = nI (10 + N) from nI_add 10 N, i_nI (by omega)]
    omega
  have d : ((20 : Int32) + nI N).toInt = 20 + N := by
    rw [show (20 : Int32) + nI N = nI (20 + N) from nI_add 20 N, i_nI (by omega)]
    omega
  simp only [i_lt, i_le, a, b, c, d]
  by_cases q1 : x2.toInt < 10
  · rw [if_pos q1, if_pos (by omega), bI_f (by omega)]
  · rw [if_neg q1]
    by_cases q2 : x2.toInt < 10 + N
    · rw [if_pos q2, bI_t (by omega)]
    · rw [if_neg q2]
      by_cases q3 : x2.toInt < 20
      · rw [if_pos q3, bI_f (by omega)]
      · rw [if_neg q3]
        by_cases q4 : 20 + (N : Int) ≤ x2.toInt
        · rw [if_pos q4, bI_f (by omega)]
        · rw [if_neg q4, bI_t (by omega)]
theorem T_in_6 {x : Int32} {σ : zSt} : F_X12_in x 1 6 σ = some (bI (1 ≤ x.toInt ∧ x.toInt ≤ 6), σ) := T_in
theorem s_lots {n : Nat} {σ : zSt} (hn : n < 512) (hR : Rel n σ) (x1 x2 : Int32) : Both n (F_X11_lots x1 x2) (F_X12_lots x1 x2) σ := by
  obtain ⟨m, tp, t0, t1, t2, t3⟩ := hR.2.2.2.1
  by_cases h1 : 1 ≤ x1.toInt ∧ x1.toInt ≤ 6
  rotate_left
  · refine Both.no (-1) hn hR ?_ (by simp (disch := omega) only [F_X12_lots, F_X12_lots_0, F_X12_lots_53, T_isBelow_2, T_isBelow_3, T_isBelow_4, T_isBelow_6, T_isBelow_8, T_isBelow_9, T_isBelow_10, T_isBelow_12, T_isBelow_16, T_isBelow_17, T_isBelow_31, T_isBelow_64, T_isBelow_256, T_isBelow_65536, T_in_1, T_in_2, T_in_3, T_in_4, T_in_5, T_in_8, T_in_11, T_in_16, T_in_30, T_in_63, T_in_255, T_in_65535, T_isIsland, T_isEight, bd_s, nm_s, bI_0, gd_n, gd_01, nI_cl, nI_add, nI_1, m4, Bool.false_eq_true, not_true_eq_false, not_false_eq_true, ↓reduceIte, h1, T_in_6])
    unfold F_X11_lots F_X11_lots_0 F_X11_lots_68
    have a : (1 : Int32).toInt = 1 := rfl
    have b : (6 : Int32).toInt = 6 := rfl
    rw [nm_s]
    by_cases q : x1 < 1
    · rw [if_pos q]
    · rw [if_neg q, if_pos (by rw [i_lt] at q ⊢; omega)]
  obtain ⟨N, hN, rfl⟩ := i_of (n := 7) (x := x1) (by omega) (by omega)
  have h1' := h1
  rw [i_nI (by omega)] at h1'
  have hN1 : 1 ≤ N := by omega
  have hN6 : N ≤ 6 := by omega
  have n1 : ¬ nI N < 1 := by rw [show (1 : Int32) = nI 1 from rfl, nI_ltp (by omega)]; omega
  have n6 : ¬ (6 : Int32) < nI N := by rw [show (6 : Int32) = nI 6 from rfl, nI_ltp (by omega)]; omega
  have e9 : ((9 : Int32) + nI N).toInt = 9 + N := by
    rw [show (9 : Int32) + nI N = nI (9 + N) from nI_add 9 N, i_nI (by omega)]
    omega
  have e19 : ((19 : Int32) + nI N).toInt = 19 + N := by
    rw [show (19 : Int32) + nI N = nI (19 + N) from nI_add 19 N, i_nI (by omega)]
    omega
  have M10 : ∀ τ, F_X12_in x2 10 ((9 : Int32) + nI N) τ = some (bI (10 ≤ x2.toInt ∧ x2.toInt < 10 + N), τ) := by
    intro τ
    rw [T_in, e9, bI_c]
    show (10 ≤ x2.toInt ∧ x2.toInt ≤ 9 + (N : Int)) ↔ _
    omega
  have M20 : ∀ τ, F_X12_in x2 20 ((19 : Int32) + nI N) τ = some (bI (20 ≤ x2.toInt ∧ x2.toInt < 20 + N), τ) := by
    intro τ
    rw [T_in, e19, bI_c]
    show (20 ≤ x2.toInt ∧ x2.toInt ≤ 19 + (N : Int)) ↔ _
    omega
  have E1 : F_X11_lots (nI N) x2 σ = @ite _ (lotQ N x2) (Classical.propDecidable _) (F_X11_lots_57 (nI N) x2 σ) (some (-1, σ)) := by
    unfold F_X11_lots F_X11_lots_0 F_X11_lots_68
    rw [nm_s, if_neg n1, if_neg n6, T_isBelow_2, bd_s, lotV hN6]
    by_cases q : bel x2 2
    · rw [bI_t q, if_neg (show ¬ (1 : Int32) = 0 by decide), if_pos (Or.inl q)]
    · rw [bI_f q, if_pos (show (0 : Int32) = 0 from rfl)]
      by_cases r : (10 ≤ x2.toInt ∧ x2.toInt < 10 + N) ∨ (20 ≤ x2.toInt ∧ x2.toInt < 20 + N)
      · rw [bI_t r, if_neg (show ¬ (1 : Int32) = 0 by decide), if_pos ((lotQ_i hN6 x2).mpr (Or.inr r))]
      · rw [bI_f r, if_pos (show (0 : Int32) = 0 from rfl), if_neg (fun z => ((lotQ_i hN6 x2).mp z).elim q r)]
  have E2 : ∀ τ, F_X12_lots (nI N) x2 τ = if (τ.1 69 14) < nI N then some (-1, τ) else @ite _ (lotQ N x2) (Classical.propDecidable _) (F_X12_lots_57 (nI N) x2 τ) (some (-1, τ)) := by
    intro τ
    unfold F_X12_lots F_X12_lots_0 F_X12_lots_53
    rw [T_in_6, bd_s, bI_t h1, if_neg (show ¬ (1 : Int32) = 0 by decide)]
    by_cases z : (τ.1 69 14) < nI N
    · rw [if_pos z, if_pos z]
    rw [if_neg z, if_neg z, T_in_1, bd_s]
    by_cases q : bel x2 2
    · rw [bI_t q, if_neg (show ¬ (1 : Int32) = 0 by decide), if_pos (Or.inl q)]
    · rw [bI_f q, if_pos (show (0 : Int32) = 0 from rfl), M10, bd_s]
      by_cases r : 10 ≤ x2.toInt ∧ x2.toInt < 10 + (N : Int)
      · rw [bI_t r, if_neg (show ¬ (1 : Int32) = 0 by decide), if_pos ((lotQ_i hN6 x2).mpr (Or.inr (Or.inl r)))]
      · rw [bI_f r, if_pos (show (0 : Int32) = 0 from rfl), M20, bd_s]
        by_cases r2 : 20 ≤ x2.toInt ∧ x2.toInt < 20 + (N : Int)
        · rw [bI_t r2, if_neg (show ¬ (1 : Int32) = 0 by decide), if_pos ((lotQ_i hN6 x2).mpr (Or.inr (Or.inr r2)))]
        · rw [bI_f r2, if_pos (show (0 : Int32) = 0 from rfl), if_neg (fun z => ((lotQ_i hN6 x2).mp z).elim q (fun y => y.elim r r2))]
  by_cases hq : lotQ N x2
  rotate_left
  · refine Both.no (-1) hn hR (by rw [E1, if_neg hq]) ?_
    rw [E2, if_neg hq]
    split <;> rfl
  by_cases hm : N ≤ m
  rotate_left
  · refine Both.no (-1) hn hR ?_ ?_
    · rw [E1, if_pos hq]
      unfold F_X11_lots_57 F_X11_lots_68
      rw [take_no t1 (Or.inr (by rw [nI_lep (by omega)]; omega)), bd_s, if_pos rfl]
    · rw [E2, t2, if_pos (by rw [nI_ltp (by omega)]; omega)]
  have f1 : fr [] [(33, 1), (33, 2)] σ (zwr (zwr σ 33 2 (nI N)) 33 1 0) := (fr_w (Or.inr (by decide))).w (Or.inr (by decide))
  have r1 : ∀ j, j < N → tp j < 256 ∧ (zwr (zwr σ 33 2 (nI N)) 33 1 0).1 34 j = nI (tp j) ∧ (zwr (zwr σ 33 2 (nI N)) 33 1 0).1 76 j = sb (tp j) := fun j hj => t3 j (by omega)
  have L1 : wp (F_X11_lots (nI N) x2 σ) (fun a τ => a = @ite _ (lotOK tp N) (Classical.propDecidable _) (lotA tp N x2) (-2) ∧ fr [63, 64] [(33, 1), (33, 2)] σ τ ∧ τ.1 33 1 = 0) := by
    rw [E1, if_pos hq]
    unfold F_X11_lots_57
    rw [take_yes t0 t1 hm, bd_s, if_neg (show ¬ (1 : Int32) = 0 by decide)]
    refine wp_bd2 (T_readL hN6 (by simp only [zwr_r, upd_r, Nat.reduceEqDiff, ↓reduceIte]) r1) (fun a τ hτ => ?_)
    obtain ⟨rfl, g1, g2⟩ := hτ
    have f2 : fr [63, 64] [(33, 1), (33, 2)] σ τ := (f1.mono (by decide)).tr (g1.mono (by decide))
    have z : τ.1 33 1 = 0 := by
      rw [g1.rd (by decide) (by decide)]
      simp only [zwr_r, upd_r, ↓reduceIte]
    by_cases q : lotOK tp N
    · obtain ⟨a1, a2, a3, a4⟩ := g2 q
      rw [bI_t q, if_neg (show ¬ (1 : Int32) = 0 by decide), T_ansL q hN1 hN6 a1 a2 a3 a4 hq, bd_s]
      exact wp_some ⟨by rw [if_pos q], f2, z⟩
    · rw [bI_f q, if_pos rfl]
      exact wp_some ⟨by rw [if_neg q], f2, z⟩
  obtain ⟨a, τ, e1, rfl, g1, g2⟩ := L1
  have rτ : ∀ j, j < N → tp j < 256 ∧ τ.1 34 j = nI (tp j) ∧ τ.1 76 j = sb (tp j) := by
    intro j hj
    rw [g1.row (c := 34) (by decide), g1.row (c := 76) (by decide)]
    exact t3 j (by omega)
  have e2 : F_X12_lots (nI N) x2 τ = _ := (E2 τ).trans (by rw [g1.rd (by decide) (by decide), t2, if_neg (by rw [nI_ltp (by omega)]; omega), if_pos hq, T_lots57 hN1 hN6 rτ hq])
  refine Both.mk e1 e2 (Rel_T hn hR ((g1.eqOn (by decide)).tr (eqOn_wr (by decide))) (RT_0 g2 ?_))
  simp only [zwr_r, upd_r, ↓reduceIte]
/-! PURE: texts, a tale read -/
def chN (tp : Nat → Nat) (N i : Nat) : Option Nat := if i < N then some (tp i) else none
theorem chN_lt {tp : Nat → Nat} {N i b : Nat} (h : ∀ j, j < N → tp j < 256) (e : chN tp N i = some b) : b < 256 ∧ i < N := by
  unfold chN at e
  by_cases q : i < N
  · rw [if_pos q] at e
    cases e
    exact ⟨h i q, q⟩
  · rw [if_neg q] at e
    cases e
def flt (k p : Nat) : Int32 := (-1000 : Int32) * nI k - nI p
theorem flt_ne : ∀ k, k < 6 → ∀ p, p < 300 → ¬ (k ≠ 0 ∧ flt k p = 0) := by decide +kernel
theorem flt_n {k p : Nat} (h0 : k ≠ 0) (hk : k < 6) (hp : p < 300) : ¬ flt k p = 0 := fun q => flt_ne k hk p hp ⟨h0, q⟩
/-- the text on the class's tape, on the reference's -/
def TX (tp : Nat → Nat) (N : Nat) (σ : zSt) : Prop := N ≤ 260 ∧ σ.1 33 2 = nI N ∧ ∀ j, j < N → tp j < 256 ∧ σ.1 34 j = nI (tp j)
def TXm (tp : Nat → Nat) (N : Nat) (σ : zSt) : Prop := N ≤ 260 ∧ σ.1 69 16 = nI N ∧ ∀ j, j < N → tp j < 256 ∧ σ.1 76 j = sb (tp j)
theorem TX_fr {tp : Nat → Nat} {N : Nat} {σ τ : zSt} {L : List Nat} {S : List (Nat × Nat)} (h : TX tp N σ) (f : fr L S σ τ) (d : (!L.contains 33 && !S.contains (33, 2) && !L.contains 34 && S.all (fun q => q.1 != 34)) = true) : TX tp N τ := by
  simp only [Bool.and_eq_true, Bool.not_eq_true', List.contains_eq_mem, decide_eq_false_iff_not] at d
  obtain ⟨⟨⟨d1, d2⟩, d3⟩, d4⟩ := d
  refine ⟨h.1, (f.rd d1 d2).trans h.2.1, fun j hj => ?_⟩
  have r : τ.1 34 = σ.1 34 := f.row (by rw [Bool.and_eq_true]; exact ⟨by simpa using d3, d4⟩)
  rw [r]
  exact h.2.2 j hj
theorem TXm_fr {tp : Nat → Nat} {N : Nat} {σ τ : zSt} {L : List Nat} {S : List (Nat × Nat)} (h : TXm tp N σ) (f : fr L S σ τ) (d : (!L.contains 69 && !S.contains (69, 16) && !L.contains 76 && S.all (fun q => q.1 != 76)) = true) : TXm tp N τ := by
  simp only [Bool.and_eq_true, Bool.not_eq_true', List.contains_eq_mem, decide_eq_false_iff_not] at d
  obtain ⟨⟨⟨d1, d2⟩, d3⟩, d4⟩ := d
  refine ⟨h.1, (f.rd d1 d2).trans h.2.1, fun j hj => ?_⟩
  have r : τ.1 76 = σ.1 76 := f.row (by rw [Bool.and_eq_true]; exact ⟨by simpa using d3, d4⟩)
  rw [r]
  exact h.2.2 j hj
theorem T_chr {tp : Nat → Nat} {N i : Nat} {σ : zSt} (h : TX tp N σ) (hi : i < 2000) : F_X8_at (nI i) σ = some (e1 (chN tp N i), σ) := by
  have hN := h.1
  unfold F_X8_at F_X8_at_0 chN
  rw [if_neg (nI_pos (by omega)), h.2.1, nI_lep (by omega)]
  by_cases q : i < N
  · rw [if_neg (by omega), if_neg (by rw [show (260 : Int32) = nI 260 from rfl, nI_lep (by omega)]; omega), gd_n (by omega), nI_cl (by omega), if_pos q, (h.2.2 i q).2]
    rfl
  · rw [if_pos (by omega), if_neg q]
    rfl
theorem T_here {tp : Nat → Nat} {N p : Nat} {σ : zSt} (h : TXm tp N σ) (e15 : σ.1 69 15 = nI p) (hp : p < 2000) : F_X12_here σ = some (e1 (chN tp N p), σ) := by
  have hN := h.1
  unfold F_X12_here F_X12_here_0 chN
  rw [e15, h.2.1, nI_lep (by omega)]
  by_cases q : p < N
  · obtain ⟨a, b⟩ := h.2.2 p q
    rw [if_neg (by omega), gd_n (by omega), nI_cl (by omega), if_pos q, b, sb_255 _ a]
    rfl
  · rw [if_pos (by omega), if_neg q]
    rfl
theorem e1_lit {o : Option Nat} {c : Nat} (ho : ∀ b, o = some b → b < 256) (hc : c < 256) : (e1 o = nI c) = (o = some c) := by
  cases o with
  | none =>
    simp only [e1, reduceCtorEq, eq_iff_iff, iff_false]
    exact fun q => e1_n (k := c) (by omega) q.symm
  | some b =>
    have := ho b rfl
    simp only [e1, Option.some.injEq, nI_eqp (show b < 2147483648 ∧ c < 2147483648 by omega)]
theorem T_wrong {σ : zSt} {k p : Nat} : F_X12_wrongAt (nI k) (nI p) σ = some (0, zwr σ 69 17 (flt k p)) := rfl
theorem g01_0 {α : Type} {x : Option α} : gd ((0 : Int32) = 0 ∨ (0 : Int32) = 1) x = x := gd_t (Or.inl rfl)
theorem g01_1 {α : Type} {x : Option α} : gd ((1 : Int32) = 0 ∨ (1 : Int32) = 1) x = x := gd_t (Or.inr rfl)
theorem T_takes {tp : Nat → Nat} {N p c : Nat} {σ : zSt} (h : TXm tp N σ) (e15 : σ.1 69 15 = nI p) (hp : p < 2000) (hc : c < 256) : F_X12_takes (nI c) σ = if chN tp N p = some c then some (1, zwr σ 69 15 (nI (p + 1))) else some (0, zwr σ 69 17 (flt 1 p)) := by
  unfold F_X12_takes F_X12_takes_0
  rw [T_here h e15 hp, bd_s, e15]
  have e : (e1 (chN tp N p) = nI c) = (chN tp N p = some c) := e1_lit (fun b hb => (chN_lt (fun j hj => (h.2.2 j hj).1) hb).1) hc
  by_cases q : chN tp N p = some c
  · rw [if_pos (by rw [e]; exact q), if_pos q, nm_s, nI_1]
  · rw [if_neg (by rw [e]; exact q), if_neg q, show (1 : Int32) = nI 1 from rfl, T_wrong, bd_s, g01_0]
/-- letters and digits of a tale -/
def kindB (b : Nat) : Option Nat := if b = 103 then some 0 else if b = 114 then some 1 else if b = 111 then some 2 else if b = 119 then some 3 else if b = 115 then some 4 else if b = 107 then some 5 else none
def dgB (b : Nat) : Option Nat := if 48 ≤ b ∧ b ≤ 57 then some (b - 48) else none
def dgs (k : Nat) : Nat := if k ≤ 1 then 4 else if k = 5 then 3 else 8
theorem kindB_lt {b k : Nat} (h : kindB b = some k) : k < 6 := by
  unfold kindB at h
  split at h <;> first | (cases h; decide) | skip
  split at h <;> first | (cases h; decide) | skip
  split at h <;> first | (cases h; decide) | skip
  split at h <;> first | (cases h; decide) | skip
  split at h <;> first | (cases h; decide) | skip
  split at h <;> first | (cases h; decide) | skip
theorem dgB_lt {b d : Nat} (h : dgB b = some d) : d < 10 ∧ b = d + 48 := by
  unfold dgB at h
  split at h
  · cases h
    omega
  · cases h
theorem T_kindOf {o : Option Nat} {σ : zSt} (ho : ∀ b, o = some b → b < 256) : F_X12_kindOf (e1 o) σ = some (e1 (o.bind kindB), σ) := by
  have l := fun c (hc : c < 256) => e1_lit (c := c) ho hc
  unfold F_X12_kindOf F_X12_kindOf_0
  rw [show (103 : Int32) = nI 103 from rfl, show (114 : Int32) = nI 114 from rfl, show (111 : Int32) = nI 111 from rfl, show (119 : Int32) = nI 119 from rfl, show (115 : Int32) = nI 115 from rfl, show (107 : Int32) = nI 107 from rfl]
  simp only [l 103 (by decide), l 114 (by decide), l 111 (by decide), l 119 (by decide), l 115 (by decide), l 107 (by decide)]
  cases o with
  | none => rfl
  | some b =>
    simp only [Option.some.injEq, Option.bind_some, kindB]
    by_cases q1 : b = 103
    · rw [if_pos q1, if_pos q1]; rfl
    rw [if_neg q1, if_neg q1]
    by_cases q2 : b = 114
    · rw [if_pos q2, if_pos q2]; rfl
    rw [if_neg q2, if_neg q2]
    by_cases q3 : b = 111
    · rw [if_pos q3, if_pos q3]; rfl
    rw [if_neg q3, if_neg q3]
    by_cases q4 : b = 119
    · rw [if_pos q4, if_pos q4]; rfl
    rw [if_neg q4, if_neg q4]
    by_cases q5 : b = 115
    · rw [if_pos q5, if_pos q5]; rfl
    rw [if_neg q5, if_neg q5]
    by_cases q6 : b = 107
    · rw [if_pos q6, if_pos q6]; rfl
    rw [if_neg q6, if_neg q6]
    rfl
theorem case6 {P : Nat → Prop} (h0 : P 0) (h1 : P 1) (h2 : P 2) (h3 : P 3) (h4 : P 4) (h5 : P 5) : ∀ k, k < 6 → P k := by
  intro k hk
  have e : k = 0 ∨ k = 1 ∨ k = 2 ∨ k = 3 ∨ k = 4 ∨ k = 5 := by omega
  rcases e with rfl | rfl | rfl | rfl | rfl | rfl <;> assumption
theorem T_digitsFor {σ : zSt} : ∀ k, k < 6 → F_X12_digitsFor (nI k) σ = some (nI (dgs k), σ) := case6 rfl rfl rfl rfl rfl rfl
theorem T_highest {σ : zSt} : ∀ k, k < 6 → F_X5_highest (nI k) σ = some (nI (dgs k - 1), σ) := by
  intro k hk
  have hb : bel (nI k) 6 := bel_t (by omega)
  unfold F_X5_highest F_X5_highest_0
  rw [T_isBelow_6, bd_s, bI_t hb, if_neg (show ¬ (1 : Int32) = 0 by decide), gd_n (by omega), nI_cl (by omega)]
  revert k
  exact fun k hk _ => case6 (P := fun k => some (zHi k, σ) = some (nI (dgs k - 1), σ)) rfl rfl rfl rfl rfl rfl k hk
theorem dgs_le : ∀ k, k < 6 → 1 ≤ dgs k ∧ dgs k ≤ 8 := by decide
/-- a place in a row of letters -/
def ixF (l : List Int32) (v : Int32) : Nat → Nat → Int32
  | 0, _ => -1
  | f + 1, i => if l.getD i 0 = v then nI i else ixF l v f (i + 1)
theorem ix_kind : ∀ b, b < 256 → ixF (zBy.getD 1 []) (sb b) 6 0 = e1 (kindB b) := by decide +kernel
theorem T_can {b : Nat} {σ : zSt} (hb : b < 256) : F_J1_canEncode_9a6ad (nI b) σ = some (1, σ) := by
  unfold F_J1_canEncode_9a6ad F_J1_canEncode_9a6ad_0
  rw [if_neg (nI_pos (by omega)), if_neg (by rw [show (255 : Int32) = nI 255 from rfl, nI_ltp (by omega)]; omega)]
theorem T_index3 {b : Nat} {σ : zSt} (hb : b < 256) : F_J0_indexOf_0f7a4_1003 (nI b) σ = some (e1 (kindB b), σ) := by
  have E : F_J1_indexOfChar_4cfef_1005 (nI b) 0 6 σ = some (e1 (kindB b), σ) := by
    unfold F_J1_indexOfChar_4cfef_1005 F_J1_indexOfChar_4cfef_1005_0
    rw [nm_s, ← ix_kind b hb]
    refine zfix_out (fun i => (nI i, σ)) (fun i => some (ixF (zBy.getD 1 []) (sb b) (6 - i) i, σ)) 6 (by decide) (fun i w hi ih => ?_) (fun w => ?_) 0 (by decide)
    · show F_J1_indexOfChar_4cfef_1005_7 6 (sb b) w (nI i) σ = _
      unfold F_J1_indexOfChar_4cfef_1005_7
      rw [if_neg (by rw [show (6 : Int32) = nI 6 from rfl, nI_lep (by omega)]; omega), gd_t (show vp_in (nI i) 6 from vp_in_nI hi (by decide)), nI_cl (by omega), show 6 - i = (6 - (i + 1)) + 1 by omega, ixF, nm_s, nI_1, ih]
      by_cases q : (zBy.getD 1 []).getD i 0 = sb b
      · rw [if_pos q, if_pos q]
      · rw [if_neg q, if_neg q]
    · show F_J1_indexOfChar_4cfef_1005_7 6 (sb b) w (nI 6) σ = _
      unfold F_J1_indexOfChar_4cfef_1005_7
      rw [if_pos (show (6 : Int32) ≤ nI 6 by decide)]
      rfl
  unfold F_J0_indexOf_0f7a4_1003 F_J0_indexOf_0f7a4_1003_0 F_J0_indexOf_7cf53_1003 F_J0_indexOf_7cf53_1003_0
  have E2 : F_J0_length_8abf5_1003 σ = some (6, σ) := rfl
  have E3 : F_J0_isLatin1_aae02_1003 σ = some (1, σ) := rfl
  have E4 : F_J1_indexOf_4cfef_1005 (nI b) 0 6 σ = some (e1 (kindB b), σ) := by
    unfold F_J1_indexOf_4cfef_1005 F_J1_indexOf_4cfef_1005_0
    rw [T_can hb, bd_s, if_neg (show ¬ (1 : Int32) = 0 by decide), nm_s, nm_s, show jmax 0 0 = 0 from rfl, show jmin 6 6 = 6 from rfl, if_pos (show (0 : Int32) < 6 by decide), E, bd_s]
  rw [E3, bd_s, if_neg (show ¬ (1 : Int32) = 0 by decide), E2, bd_s, E4, bd_s, bd_s]
theorem ch_u16 : ∀ b, b < 256 → ((nI b).toUInt32 % 65536).toInt32 = nI b := by decide +kernel
/-- the place of a byte among a tale's letters -/
theorem T_letter {β : Type} {o : Option Nat} {σ : zSt} (ho : ∀ b, o = some b → b < 256) (K : Int32 → zSt → Option β) : (if 0 ≤ e1 o then bd (F_J0_indexOf_0f7a4_1003 (((e1 o).toUInt32 % 65536).toInt32) σ) (fun q11 s10 => K q11 s10) else K (-1) σ) = K (e1 (o.bind kindB)) σ := by
  cases o with
  | none =>
    rw [if_neg (show ¬ (0 : Int32) ≤ e1 none by decide)]
    rfl
  | some b =>
    have hb := ho b rfl
    rw [if_pos (show (0 : Int32) ≤ e1 (some b) from nI_pos' (by omega))]
    show bd (F_J0_indexOf_0f7a4_1003 (((nI b).toUInt32 % 65536).toInt32) σ) _ = _
    rw [ch_u16 b hb, T_index3 hb, bd_s]
    rfl
theorem dig_c : ∀ b, b < 256 → (dgB b = none → ((nI b - 48).toInt < 0 ∨ 10 ≤ (nI b - 48).toInt)) ∧ (∀ d, d < 10 → dgB b = some d → nI b - 48 = nI d) := by decide +kernel
theorem dig_o {o : Option Nat} (ho : ∀ b, o = some b → b < 256) : (o.bind dgB = none → ¬ bel (e1 o - 48) 10) ∧ ∀ d, o.bind dgB = some d → e1 o - 48 = nI d ∧ d < 10 := by
  cases o with
  | none =>
    refine ⟨fun _ q => ?_, fun d h => by cases h⟩
    exact absurd q.1 (by decide)
  | some b =>
    obtain ⟨a, c⟩ := dig_c b (ho b rfl)
    refine ⟨fun h q => ?_, fun d h => ?_⟩
    · have := a h
      have q1 : 0 ≤ (nI b - 48).toInt := q.1
      have q2 : (nI b - 48).toInt < 10 := q.2
      omega
    · have := (dgB_lt h).1
      exact ⟨c d this h, this⟩
/-- a tale read: fuel, where, how many so far, letters, digits; 0 or a FAULT -/
def tpr (tp : Nat → Nat) (N : Nat) : Nat → Nat → Nat → (Nat → Nat) → (Nat → Nat) → Int32 × Nat × (Nat → Nat) × (Nat → Nat)
  | 0, p, m, kd, dg => (flt 4 p, m, kd, dg)
  | f + 1, p, m, kd, dg => match (chN tp N p).bind kindB with
    | none => (flt 1 p, m, kd, dg)
    | some k => if 32 ≤ m then (flt 4 p, m, kd, dg) else match (chN tp N (p + 1)).bind dgB with
      | none => (flt 1 (p + 1), m, kd, dg)
      | some d => if dgs k ≤ d then (flt 3 (p + 1), m, kd, dg) else
        if p + 2 = N then (0, m + 1, fset kd m k, fset dg m d) else
        if chN tp N (p + 2) = some 44 then tpr tp N f (p + 3) (m + 1) (fset kd m k) (fset dg m d) else (flt 1 (p + 2), m + 1, fset kd m k, fset dg m d)
def ACT (r1 r2 m : Nat) (kd dg : Nat → Nat) (σ : zSt) : Prop := ∀ j, j < m → σ.1 r1 j = nI (kd j) ∧ σ.1 r2 j = nI (dg j) ∧ kd j < 6 ∧ dg j < dgs (kd j)
theorem ACT_s {r1 r2 m k d : Nat} {kd dg : Nat → Nat} {σ τ : zSt} (h : ACT r1 r2 m kd dg σ) (hk : k < 6) (hd : d < dgs k) (a : τ.1 r1 = upd (σ.1 r1) m (nI k)) (b : τ.1 r2 = upd (σ.1 r2) m (nI d)) : ACT r1 r2 (m + 1) (fset kd m k) (fset dg m d) τ := by
  intro j hj
  rw [a, b]
  by_cases q : j = m
  · subst q
    rw [pk_us, pk_us, fset_s, fset_s]
    exact ⟨rfl, rfl, hk, hd⟩
  · rw [pk_un q, pk_un q, fset_n q, fset_n q]
    exact h j (by omega)
theorem TX_b {tp : Nat → Nat} {N : Nat} {σ : zSt} (h : TX tp N σ) {i : Nat} : ∀ b, chN tp N i = some b → b < 256 := fun _ e => (chN_lt (fun j hj => (h.2.2 j hj).1) e).1
theorem TXm_b {tp : Nat → Nat} {N : Nat} {σ : zSt} (h : TXm tp N σ) {i : Nat} : ∀ b, chN tp N i = some b → b < 256 := fun _ e => (chN_lt (fun j hj => (h.2.2 j hj).1) e).1
theorem T_flt {σ : zSt} {k p : Nat} : F_X11_fault (nI k) (nI p) σ = some (flt k p, σ) := rfl
theorem T_readC {tp : Nat → Nat} {N : Nat} : ∀ f fu p m kd dg (σ : zSt), m + f = 33 → f < fu → p ≤ 3 * m → TX tp N σ → σ.1 44 2 = nI m → ACT 45 46 m kd dg σ → wp (zfix F_X7_read_9L fu (nI p, nI m, σ)) (fun a τ => a = (tpr tp N f p m kd dg).1 ∧ fr [45, 46] [(44, 2)] σ τ ∧ τ.1 44 2 = nI (tpr tp N f p m kd dg).2.1 ∧ (tpr tp N f p m kd dg).2.1 ≤ 32 ∧ ACT 45 46 (tpr tp N f p m kd dg).2.1 (tpr tp N f p m kd dg).2.2.1 (tpr tp N f p m kd dg).2.2.2 τ ∨ (33 ≤ m)) := by
  intro f
  induction f with
  | zero =>
    intro fu p m kd dg σ hm hf hp hT e hA
    obtain ⟨fu, rfl⟩ : ∃ q, fu = q + 1 := ⟨fu - 1, by omega⟩
    show wp (F_X7_read_9 (zfix F_X7_read_9L fu) (nI p) (nI m) σ) _
    unfold F_X7_read_9 F_X7_read_185
    rw [if_pos (by rw [show (32 : Int32) = nI 32 from rfl, nI_ltp (by omega)]; omega), show (4 : Int32) = nI 4 from rfl, T_flt, bd_s]
    exact wp_some (Or.inr (by omega))
  | succ f ih =>
    intro fu p m kd dg σ hm hf hp hT e hA
    obtain ⟨fu, rfl⟩ : ∃ q, fu = q + 1 := ⟨fu - 1, by omega⟩
    show wp (F_X7_read_9 (zfix F_X7_read_9L fu) (nI p) (nI m) σ) _
    have hN := hT.1
    unfold F_X7_read_9
    rw [if_neg (by rw [show (32 : Int32) = nI 32 from rfl, nI_ltp (by omega)]; omega), T_chr hT (by omega), bd_s, T_letter (TX_b hT) (fun q11 s10 => F_X7_read_39 (zfix F_X7_read_9L fu) (nI p) (nI m) q11 s10)]
    unfold F_X7_read_39 F_X7_read_46 F_X7_read_61 F_X7_read_89 F_X7_read_107 F_X7_read_170 tpr
    cases hk : (chN tp N p).bind kindB with
    | none =>
      rw [if_neg (show ¬ (0 : Int32) ≤ e1 none by decide), show (1 : Int32) = nI 1 from rfl, T_flt, bd_s]
      exact wp_some (Or.inl ⟨rfl, fr.rf, e, by show m ≤ 32; omega, hA⟩)
    | some k =>
      have hk6 : k < 6 := by
        obtain ⟨b, hb, hb2⟩ := Option.bind_eq_some_iff.mp hk
        exact kindB_lt hb2
      rw [if_pos (show (0 : Int32) ≤ e1 (some k) from nI_pos' (by omega)), e, show (32 : Int32) = nI 32 from rfl, nI_ltp (by omega)]
      by_cases q32 : 32 ≤ m
      · rw [if_neg (by omega), show (4 : Int32) = nI 4 from rfl, T_flt, bd_s]
        simp only [q32, ↓reduceIte]
        exact wp_some (Or.inl ⟨rfl, fr.rf, e, by show m ≤ 32; omega, hA⟩)
      rw [if_pos (by omega), show nI p + (1 : Int32) = nI (p + 1) from nI_add p 1, T_chr hT (by omega), bd_s]
      simp only [q32, ↓reduceIte]
      obtain ⟨d1, d2⟩ := dig_o (o := chN tp N (p + 1)) (TX_b hT)
      rw [nm_s, T_isBelow_10, bd_s]
      cases hd : (chN tp N (p + 1)).bind dgB with
      | none =>
        rw [bI_f (d1 hd), if_pos rfl, show (1 : Int32) = nI 1 from rfl, T_flt, bd_s]
        exact wp_some (Or.inl ⟨rfl, fr.rf, e, by show m ≤ 32; omega, hA⟩)
      | some d =>
        obtain ⟨d3, d4⟩ := d2 d hd
        have hb10 : bel (nI d) 10 := bel_t (by omega)
        have hp1 : p + 1 < N := by
          obtain ⟨b, hb, hb2⟩ := Option.bind_eq_some_iff.mp hd
          exact (chN_lt (fun j hj => (hT.2.2 j hj).1) hb).2
        obtain ⟨g1, g2⟩ := dgs_le k hk6
        rw [d3, bI_t hb10, if_neg (show ¬ (1 : Int32) = 0 by decide), show e1 (some k) = nI k from rfl, T_highest k hk6, bd_s, nI_lep (by omega)]
        by_cases qd : dgs k ≤ d
        · rw [if_neg (by omega), show (3 : Int32) = nI 3 from rfl, T_flt, bd_s]
          simp only [qd, ↓reduceIte]
          exact wp_some (Or.inl ⟨rfl, fr.rf, e, by show m ≤ 32; omega, hA⟩)
        rw [if_pos (by omega)]
        simp (disch := omega) only [qd, e, gd_n, nI_cl, nm_s, zwr_r, upd_r, Nat.reduceEqDiff, ↓reduceIte, nI_1, show ∀ x : Nat, nI x + (2 : Int32) = nI (x + 2) from fun x => nI_add x 2, hT.2.1, nI_eqp]
        have f1 : fr [45, 46] [(44, 2)] σ (zwr (zwr (zwr σ 45 m (nI k)) 46 m (nI d)) 44 2 (nI (m + 1))) := (((fr_w (Or.inl (by decide))).w (Or.inl (by decide))).w (Or.inr (by decide)))
        have A1 : ACT 45 46 (m + 1) (fset kd m k) (fset dg m d) (zwr (zwr (zwr σ 45 m (nI k)) 46 m (nI d)) 44 2 (nI (m + 1))) := ACT_s hA hk6 (by omega) rfl rfl
        by_cases qN : p + 2 = N
        · rw [if_pos qN, if_pos qN]
          exact wp_some (Or.inl ⟨rfl, f1, rfl, by show m + 1 ≤ 32; omega, A1⟩)
        rw [if_neg qN, if_neg qN, T_chr (TX_fr hT f1 (by decide)) (by omega), bd_s, show (44 : Int32) = nI 44 from rfl, e1_lit (TX_b hT) (by decide)]
        by_cases qc : chN tp N (p + 2) = some 44
        · rw [if_pos qc, if_pos qc]
          refine wp_mono (ih fu (p + 2 + 1) (m + 1) (fset kd m k) (fset dg m d) _ (by omega) (by omega) (by omega) (TX_fr hT f1 (by decide)) (by simp only [zwr_r, upd_r, Nat.reduceEqDiff, ↓reduceIte]) A1) (fun a τ h => ?_)
          rcases h with ⟨a1, a2, a3⟩ | h
          · exact Or.inl ⟨a1, f1.tr a2, a3⟩
          · exact Or.inl (by omega)
        · rw [if_neg qc, if_neg qc, show (1 : Int32) = nI 1 from rfl, T_flt, bd_s]
          exact wp_some (Or.inl ⟨rfl, f1, by simp only [zwr_r, upd_r, Nat.reduceEqDiff, ↓reduceIte], by show m + 1 ≤ 32; omega, A1⟩)
theorem T_digitM {tp : Nat → Nat} {N p : Nat} {σ : zSt} (h : TXm tp N σ) (e15 : σ.1 69 15 = nI p) (hp : p < 2000) : F_X12_isDigit σ = some (bI ((chN tp N p).bind dgB ≠ none), σ) := by
  unfold F_X12_isDigit F_X12_isDigit_0
  rw [T_here h e15 hp, bd_s, bd_s]
  cases ho : chN tp N p with
  | none =>
    rw [if_pos (show e1 none < 48 by decide), bI_f (fun r => r rfl)]
  | some b =>
    have hb := TXm_b h b ho
    simp only [e1, Option.bind_some]
    rw [show (48 : Int32) = nI 48 from rfl, show (57 : Int32) = nI 57 from rfl, nI_ltp (by omega), nI_ltp (by omega)]
    by_cases q1 : b < 48
    · rw [if_pos q1, bI_f]
      intro r
      refine r ?_
      unfold dgB
      rw [if_neg (by omega)]
    · rw [if_neg q1]
      by_cases q2 : 57 < b
      · rw [if_pos q2, bI_f]
        intro r
        refine r ?_
        unfold dgB
        rw [if_neg (by omega)]
      · rw [if_neg q2, bI_t]
        unfold dgB
        rw [if_pos (by omega)]
        exact fun r => by cases r
theorem T_readsAct {tp : Nat → Nat} {N p m : Nat} {σ : zSt} (h : TXm tp N σ) (e15 : σ.1 69 15 = nI p) (hp : p < 1000) (e42 : σ.1 69 42 = nI m) (hm : m ≤ 32) : F_X12_readsAct σ = match (chN tp N p).bind kindB with
    | none => some (0, zwr σ 69 17 (flt 1 p))
    | some k => if 32 ≤ m then some (0, zwr σ 69 17 (flt 4 p)) else match (chN tp N (p + 1)).bind dgB with
      | none => some (0, zwr (zwr σ 69 15 (nI (p + 1))) 69 17 (flt 1 (p + 1)))
      | some d => if dgs k ≤ d then some (0, zwr (zwr σ 69 15 (nI (p + 1))) 69 17 (flt 3 (p + 1))) else some (1, zwr (zwr (zwr (zwr (zwr σ 69 15 (nI (p + 1))) 69 15 (nI (p + 2))) 90 m (nI k)) 91 m (nI d)) 69 42 (nI (m + 1))) := by
  unfold F_X12_readsAct F_X12_readsAct_0
  rw [T_here h e15 (by omega), bd_s, T_kindOf (TXm_b h), bd_s]
  cases hk : (chN tp N p).bind kindB with
  | none =>
    rw [if_pos (show e1 none = -1 from rfl), e15, show (1 : Int32) = nI 1 from rfl, T_wrong, bd_s, g01_0]
  | some k =>
    have hk6 : k < 6 := by
      obtain ⟨b, hb, hb2⟩ := Option.bind_eq_some_iff.mp hk
      exact kindB_lt hb2
    rw [if_neg (show ¬ e1 (some k) = -1 from e1_n (by omega)), e42, show (32 : Int32) = nI 32 from rfl, nI_eqp (by omega)]
    by_cases q32 : 32 ≤ m
    · rw [if_pos (by omega), e15, show (4 : Int32) = nI 4 from rfl, T_wrong, bd_s, g01_0]
      simp only [q32, ↓reduceIte]
    rw [if_neg (by omega), e15, nm_s, nI_1]
    simp only [q32, ↓reduceIte]
    have f1 : fr [] [(69, 15)] σ (zwr σ 69 15 (nI (p + 1))) := fr_w (Or.inr (by decide))
    have h1 := TXm_fr h f1 (by decide)
    have e15' : (zwr σ 69 15 (nI (p + 1))).1 69 15 = nI (p + 1) := by simp only [zwr_r, upd_r, Nat.reduceEqDiff, ↓reduceIte]
    rw [T_digitM h1 e15' (by omega), bd_s]
    cases hd : (chN tp N (p + 1)).bind dgB with
    | none =>
      rw [bI_f (fun r => r rfl), if_pos rfl, e15', show (1 : Int32) = nI 1 from rfl, T_wrong, bd_s, g01_0]
    | some d =>
      obtain ⟨d3, d4⟩ := (dig_o (o := chN tp N (p + 1)) (TXm_b h)).2 d hd
      obtain ⟨g1, g2⟩ := dgs_le k hk6
      rw [bI_t (fun r => by cases r), if_neg (show ¬ (1 : Int32) = 0 by decide), T_here h1 e15' (by omega), bd_s, nm_s, d3, show e1 (some k) = nI k from rfl, T_digitsFor k hk6, bd_s, nI_ltp (by omega)]
      by_cases qd : dgs k ≤ d
      · rw [if_neg (by omega), e15', show (3 : Int32) = nI 3 from rfl, T_wrong, bd_s, g01_0]
        simp only [qd, ↓reduceIte]
      · rw [if_pos (by omega)]
        simp (disch := omega) only [qd, zwr_r, upd_r, Nat.reduceEqDiff, ↓reduceIte, nm_s, e42, gd_n, nI_cl, nI_1]
theorem q01 {q : Int32} (h : q = 0 ∨ q = 1) : (if q = 0 then (0 : Int32) else 1) = q := by
  rcases h with rfl | rfl <;> rfl
/-- what the reference's reading leaves -/
def RDM (r1 r2 cs : Nat) (res : Int32 × Nat × (Nat → Nat) × (Nat → Nat)) (g : Int32) (σ τ : zSt) : Prop := fr [r1, r2] [(69, 15), (69, 17), (69, cs)] σ τ ∧ τ.1 69 cs = nI res.2.1 ∧ res.2.1 ≤ 32 ∧ ACT r1 r2 res.2.1 res.2.2.1 res.2.2.2 τ ∧ ((res.1 = 0 ∧ g = 1) ∨ (¬ res.1 = 0 ∧ g = 0 ∧ τ.1 69 17 = res.1))
theorem T_readM {tp : Nat → Nat} {N : Nat} (x2 : Int32) : ∀ f fu p m kd dg (σ : zSt), m + f = 33 → f < fu → p ≤ 3 * m → m ≤ 32 → TXm tp N σ → σ.1 69 15 = nI p → σ.1 69 42 = nI m → ACT 90 91 m kd dg σ → ∃ g τ, bd (F_X12_readsAct σ) (fun q s => zfix (F_X12_tale_49L x2) fu (q, s)) = F_X12_tale_89 x2 g τ ∧ RDM 90 91 42 (tpr tp N f p m kd dg) g σ τ := by
  intro f
  induction f with
  | zero => intro fu p m kd dg σ hm hf hp hm32; omega
  | succ f ih =>
    intro fu p m kd dg σ hm hf hp hm32 hT e15 e42 hA
    obtain ⟨fu, rfl⟩ : ∃ q, fu = q + 1 := ⟨fu - 1, by omega⟩
    have hN := hT.1
    have stop : ∀ (v : Int32) (τ : zSt), bd (some ((0 : Int32), zwr τ 69 17 v)) (fun q s => zfix (F_X12_tale_49L x2) (fu + 1) (q, s)) = F_X12_tale_89 x2 0 (zwr τ 69 17 v) := by
      intro v τ
      rw [bd_s]
      show F_X12_tale_49 x2 (zfix (F_X12_tale_49L x2) fu) 0 (zwr τ 69 17 v) = _
      unfold F_X12_tale_49
      rw [if_pos rfl]
    rw [T_readsAct hT e15 (by omega) e42 hm32]
    unfold tpr
    cases hk : (chN tp N p).bind kindB with
    | none =>
      refine ⟨0, _, stop _ _, fr_w (Or.inr (by decide)), ?_, hm32, hA, Or.inr ⟨flt_n (by decide) (by decide) (by omega), rfl, rfl⟩⟩
      exact e42
    | some k =>
      have hk6 : k < 6 := by
        obtain ⟨b, hb, hb2⟩ := Option.bind_eq_some_iff.mp hk
        exact kindB_lt hb2
      by_cases q32 : 32 ≤ m
      · simp only [q32, ↓reduceIte]
        exact ⟨0, _, stop _ _, fr_w (Or.inr (by decide)), e42, hm32, hA, Or.inr ⟨flt_n (by decide) (by decide) (by omega), rfl, rfl⟩⟩
      simp only [q32, ↓reduceIte]
      cases hd : (chN tp N (p + 1)).bind dgB with
      | none =>
        exact ⟨0, _, stop _ _, (fr_w (Or.inr (by decide))).w (Or.inr (by decide)), e42, hm32, hA, Or.inr ⟨flt_n (by decide) (by decide) (by omega), rfl, rfl⟩⟩
      | some d =>
        have hp1 : p + 1 < N := by
          obtain ⟨b, hb, hb2⟩ := Option.bind_eq_some_iff.mp hd
          exact (chN_lt (fun j hj => (hT.2.2 j hj).1) hb).2
        by_cases qd : dgs k ≤ d
        · simp only [qd, ↓reduceIte]
          exact ⟨0, _, stop _ _, (fr_w (Or.inr (by decide))).w (Or.inr (by decide)), e42, hm32, hA, Or.inr ⟨flt_n (by decide) (by decide) (by omega), rfl, rfl⟩⟩
        simp only [qd, ↓reduceIte]
        have f1 : fr [90, 91] [(69, 15), (69, 17), (69, 42)] σ (zwr (zwr (zwr (zwr (zwr σ 69 15 (nI (p + 1))) 69 15 (nI (p + 2))) 90 m (nI k)) 91 m (nI d)) 69 42 (nI (m + 1))) := ((((fr_w (Or.inr (by decide))).w (Or.inr (by decide))).w (Or.inl (by decide))).w (Or.inl (by decide))).w (Or.inr (by decide))
        have A1 : ACT 90 91 (m + 1) (fset kd m k) (fset dg m d) (zwr (zwr (zwr (zwr (zwr σ 69 15 (nI (p + 1))) 69 15 (nI (p + 2))) 90 m (nI k)) 91 m (nI d)) 69 42 (nI (m + 1))) := ACT_s hA hk6 (by omega) rfl rfl
        generalize hτ : zwr (zwr (zwr (zwr (zwr σ 69 15 (nI (p + 1))) 69 15 (nI (p + 2))) 90 m (nI k)) 91 m (nI d)) 69 42 (nI (m + 1)) = τ at f1 A1
        have t15 : τ.1 69 15 = nI (p + 2) := by
          rw [← hτ]
          simp only [zwr_r, upd_r, Nat.reduceEqDiff, ↓reduceIte]
        have t42 : τ.1 69 42 = nI (m + 1) := by
          rw [← hτ]
          simp only [zwr_r, upd_r, Nat.reduceEqDiff, ↓reduceIte]
        have hT1 := TXm_fr hT f1 (by decide)
        rw [bd_s]
        show ∃ g υ, F_X12_tale_49 x2 (zfix (F_X12_tale_49L x2) fu) 1 τ = _ ∧ _
        unfold F_X12_tale_49 F_X12_tale_84 F_X12_tale_85
        rw [if_neg (show ¬ (1 : Int32) = 0 by decide), t15, hT1.2.1, nI_lep (by omega)]
        by_cases qN : p + 2 = N
        · rw [if_pos (by omega), if_pos qN]
          exact ⟨1, τ, rfl, f1, t42, by show m + 1 ≤ 32; omega, A1, Or.inl ⟨rfl, rfl⟩⟩
        rw [if_neg (by omega), if_neg qN, show (44 : Int32) = nI 44 from rfl, T_takes hT1 t15 (by omega) (by decide)]
        by_cases qc : chN tp N (p + 2) = some 44
        · rw [if_pos qc, if_pos qc, bd_s, if_neg (show ¬ (1 : Int32) = 0 by decide)]
          have f2 : fr [90, 91] [(69, 15), (69, 17), (69, 42)] τ (zwr τ 69 15 (nI (p + 2 + 1))) := fr_w (Or.inr (by decide))
          have A2 : ACT 90 91 (m + 1) (fset kd m k) (fset dg m d) (zwr τ 69 15 (nI (p + 2 + 1))) := A1
          have hA3 : (zwr τ 69 15 (nI (p + 2 + 1))).1 69 42 = nI (m + 1) := t42
          have hT2 := TXm_fr hT1 f2 (by decide)
          have h15 : (zwr τ 69 15 (nI (p + 2 + 1))).1 69 15 = nI (p + 3) := by simp only [zwr_r, upd_r, Nat.reduceEqDiff, ↓reduceIte]
          by_cases q33 : m + 1 ≤ 32
          · obtain ⟨g, υ, u1, u2⟩ := ih fu (p + 3) (m + 1) (fset kd m k) (fset dg m d) _ (by omega) (by omega) (by omega) q33 hT2 h15 hA3 A2
            refine ⟨g, υ, ?_, (f1.tr f2).tr u2.1, u2.2⟩
            rw [← u1]
            obtain ⟨r, s, e, hr⟩ : ∃ r s, F_X12_readsAct (zwr τ 69 15 (nI (p + 2 + 1))) = some (r, s) ∧ (r = 0 ∨ r = 1) := by
              rw [T_readsAct hT2 h15 (by omega) hA3 q33]
              cases (chN tp N (p + 3)).bind kindB with
              | none => exact ⟨_, _, rfl, Or.inl rfl⟩
              | some k2 =>
                simp only
                split
                · exact ⟨_, _, rfl, Or.inl rfl⟩
                · cases (chN tp N (p + 3 + 1)).bind dgB with
                  | none => exact ⟨_, _, rfl, Or.inl rfl⟩
                  | some d2 =>
                    simp only
                    split
                    · exact ⟨_, _, rfl, Or.inl rfl⟩
                    · exact ⟨_, _, rfl, Or.inr rfl⟩
            rw [e, bd_s, bd_s, q01 hr, nm_s]
          · omega
        · rw [if_neg qc, if_neg qc, bd_s, if_pos rfl]
          obtain ⟨fu, rfl⟩ : ∃ q, fu = q + 1 := ⟨fu - 1, by omega⟩
          refine ⟨0, zwr τ 69 17 (flt 1 (p + 2)), ?_, f1.w (Or.inr (by decide)), t42, by show m + 1 ≤ 32; omega, A1, Or.inr ⟨flt_n (by decide) (by decide) (by omega), rfl, rfl⟩⟩
          show F_X12_tale_49 x2 (zfix (F_X12_tale_49L x2) fu) 0 (zwr τ 69 17 (flt 1 (p + 2))) = _
          unfold F_X12_tale_49
          rw [if_pos rfl]
/-! PURE: the seeker of the class -/
/-- those below n of which P holds, as bits -/
def bset (P : Nat → Bool) : Nat → Nat
  | 0 => 0
  | n + 1 => bset P n ||| (if P n then 2 ^ n else 0)
theorem bset_lt (P : Nat → Bool) : ∀ n, n ≤ 8 → bset P n < 256 := by
  intro n
  induction n with
  | zero => intro _; exact Nat.zero_lt_succ 255
  | succ n ih =>
    intro h
    unfold bset
    refine or_lt (ih (by omega)) ?_
    split
    · exact pow_lt8 (by omega)
    · decide
theorem bset_bit (P : Nat → Bool) : ∀ n k, (bset P n).testBit k = (decide (k < n) && P k) := by
  intro n
  induction n with
  | zero => intro k; simp [bset]
  | succ n ih =>
    intro k
    unfold bset
    rw [Nat.testBit_or, ih k]
    by_cases h : P n = true
    · rw [if_pos h, Nat.testBit_two_pow]
      by_cases q : n = k
      · subst q
        simp [h]
      · have e : decide (k < n + 1) = decide (k < n) := by
          by_cases r : k < n
          · rw [decide_eq_true r, decide_eq_true (by omega)]
          · rw [decide_eq_false r, decide_eq_false (by omega)]
        rw [e]
        simp [q]
    · rw [if_neg h, Nat.zero_testBit, Bool.or_false]
      by_cases q : k = n
      · subst q
        simp [h]
      · have e : decide (k < n + 1) = decide (k < n) := by
          by_cases r : k < n
          · rw [decide_eq_true r, decide_eq_true (by omega)]
          · rw [decide_eq_false r, decide_eq_false (by omega)]
        rw [e]
theorem bset_s {P : Nat → Bool} {n : Nat} (hn : n < 8) {v : Int32} (hv : v = if P n then (1 : Int32) <<< (nI n &&& 31) else 0) : nI (bset P n) ||| v = nI (bset P (n + 1)) := by
  rw [hv, bset]
  by_cases h : P n = true
  · rw [if_pos h, if_pos h, bit_1 n hn, nI_or]
  · rw [if_neg h, if_neg h, ← nI_0, nI_or]
theorem bt_nI {m i : Nat} (hi : i < 32) : bt (nI m) i = m.testBit i := by
  unfold bt
  show (BitVec.ofNat 32 m).getLsbD i = _
  rw [BitVec.getLsbD_ofNat, decide_eq_true hi, Bool.true_and]
theorem tb_hi {m i : Nat} (hm : m < 256) (hi : 8 ≤ i) : m.testBit i = false := by
  refine Nat.testBit_lt_two_pow (Nat.lt_of_lt_of_le hm ?_)
  exact Nat.pow_le_pow_right (n := 2) (by decide) hi
theorem tb255 {i : Nat} : Nat.testBit 255 i = decide (i < 8) := by
  rcases Nat.lt_or_ge i 8 with h | h
  · exact (by decide +kernel : ∀ i, i < 8 → Nat.testBit 255 i = decide (i < 8)) i h
  · rw [tb_hi (by decide) h, decide_eq_false (by omega)]
/-- what is in f and not in m -/
theorem nI_andn {f m : Nat} (hf : f < 256) (hm : m < 256) : nI f &&& (nI m ^^^ (-1)) = nI (f &&& (m ^^^ 255)) := by
  apply b_ext
  intro i hi
  rw [b_and, b_xor, b_m1 i hi, bt_nI hi, bt_nI hi, bt_nI hi, Nat.testBit_and, Nat.testBit_xor, tb255]
  rcases Nat.lt_or_ge i 8 with h | h
  · rw [decide_eq_true h]
  · rw [tb_hi hf h, Bool.false_and, Bool.false_and]
theorem nI_nand {f m : Nat} (hf : f < 256) (hm : m < 256) : (nI m ^^^ (-1)) &&& nI f = nI (f &&& (m ^^^ 255)) := by
  rw [← nI_andn hf hm]
  apply b_ext
  intro i _
  rw [b_and, b_and, Bool.and_comm]
theorem and_lt {a b : Nat} (h : a < 256) : a &&& b < 256 := Nat.lt_of_le_of_lt Nat.and_le_left h
theorem nI_e0 {a : Nat} (h : a < 2147483648) : (nI a = 0) = (a = 0) := by
  rw [show (0 : Int32) = nI 0 from rfl, nI_eqp (by omega)]
/-- all of a are in O -/
def subB (a O : Nat) : Bool := decide (a &&& (O ^^^ 255) = 0)
theorem subB_i {a O : Nat} (ha : a < 256) : subB a O = true ↔ ∀ k, k < 8 → a.testBit k = true → O.testBit k = true := by
  unfold subB
  rw [decide_eq_true_eq]
  constructor
  · intro h k hk h1
    have := congrArg (fun x => Nat.testBit x k) h
    simp only [Nat.testBit_and, Nat.testBit_xor, tb255, Nat.zero_testBit, h1, decide_eq_true hk, Bool.true_and] at this
    cases r : O.testBit k with
    | true => rfl
    | false => rw [r] at this; cases this
  · intro h
    apply Nat.eq_of_testBit_eq
    intro k
    rw [Nat.testBit_and, Nat.testBit_xor, tb255, Nat.zero_testBit]
    rcases Nat.lt_or_ge k 8 with q | q
    · cases r : a.testBit k with
      | false => rfl
      | true =>
        rw [h k q r, decide_eq_true q]
        rfl
    · rw [tb_hi ha q, Bool.false_and]
def dgt (B b : Nat) : Nat := B / 3 ^ b % 3
/-- the KEYS he has -/
def hasK (W : zWo) (O B k : Nat) : Bool := match wKey W k with
  | none => false
  | some x => if x < 8 then O.testBit x else decide (dgt B (x - 8) = 2)
def hadW (W : zWo) (O B : Nat) : Nat := bset (hasK W O B) 8
def ploW (W : zWo) (i : Nat) : Nat := bset (fun p => wIs W p && decide (islW W p = i)) 8
def wfrW (W : zWo) (i : Nat) : Nat := bset (fun t => decide (0 < wWay W (4 * i + t))) 4
def lokB (W : zWo) (O B p : Nat) : Bool := match wLok W p with
  | none => true
  | some k => hasK W O B k
def freeW (W : zWo) (O : Nat) : Nat := bset (fun p => subB (ancs W p) O) 8
def unlW (W : zWo) (O B : Nat) : Nat := bset (lokB W O B) 8
def bykW (W : zWo) (O B : Nat) : Nat := (freeW W O &&& (O ^^^ 255)) &&& unlW W O B
def bywW (W : zWo) (O B : Nat) : Nat := if dgt B 1 = 0 then (freeW W O &&& (O ^^^ 255)) &&& (wWet W ^^^ 255) else 0
def bysW (W : zWo) (O B : Nat) : Nat := if dgt B 2 = 0 then wWet W &&& (O ^^^ 255) else 0
def givW (W : zWo) (B : Nat) : Nat := bset (fun b => decide (dgt B b = 0) && decide (keysW W (8 + b) ≠ 0)) 3
def ravW (B : Nat) : Nat := if dgt B 0 = 0 then 15 else 0
/-- the digits that can stand behind a letter, as bits -/
def canW (W : zWo) (O B i : Nat) : Nat → Nat
  | 0 => wfrW W i
  | 1 => ravW B &&& (255 - 2 ^ i)
  | 2 => bykW W O B &&& ploW W i
  | 3 => bywW W O B &&& ploW W i
  | 4 => bysW W O B &&& ploW W i
  | 5 => givW W B
  | _ => 0
/-- what must be opened -/
def golF (W : zWo) : Nat → Nat → Nat
  | 0, _ => 0
  | n + 1, p => 2 ^ p ||| match wFli W p with
    | none => 0
    | some q => golF W n q
def golW (W : zWo) : Nat := golF W 8 (wHea W)
theorem golF_lt {W : zWo} (hW : WOK W) : ∀ n p, p < 8 → golF W n p < 256 := by
  intro n
  induction n with
  | zero => intro p _; exact Nat.zero_lt_succ 255
  | succ n ih =>
    intro p hp
    unfold golF
    refine or_lt (pow_lt8 hp) ?_
    cases q : wFli W p with
    | none => exact Nat.zero_lt_succ 255
    | some r => exact ih r (wIs_lt (hW.fli p r hp q).2)
theorem golF_n {W : zWo} (hW : WOK W) : ∀ j p, p < 8 → 8 ≤ p + j → ∀ n m, j ≤ n → j ≤ m → golF W n p = golF W m p := by
  intro j
  induction j with
  | zero => intro p hp h; omega
  | succ j ih =>
    intro p hp h n m hn hm
    obtain ⟨n, rfl⟩ : ∃ q, n = q + 1 := ⟨n - 1, by omega⟩
    obtain ⟨m, rfl⟩ : ∃ q, m = q + 1 := ⟨m - 1, by omega⟩
    unfold golF
    cases q : wFli W p with
    | none => rfl
    | some r =>
      obtain ⟨a, b⟩ := hW.fli p r hp q
      rw [ih r (wIs_lt b) (by omega) n m (by omega) (by omega)]
theorem golF_s {W : zWo} (hW : WOK W) {p : Nat} (hp : p < 8) : golF W 8 p = 2 ^ p ||| match wFli W p with | none => 0 | some q => golF W 8 q := by
  rw [golF]
  cases q : wFli W p with
  | none => rfl
  | some r =>
    obtain ⟨a, b⟩ := hW.fli p r hp q
    rw [golF_n hW 7 r (wIs_lt b) (by omega) 7 8 (by decide) (by decide)]
theorem golW_lt {W : zWo} (hW : WOK W) : golW W < 256 := golF_lt hW 8 _ hW.hea
/-- what the seeker has learned, with what it looks up in the world -/
def SK (W : zWo) (σ : zSt) : Prop :=
  (∀ i, i < 4 → σ.1 18 i = nI (ploW W i)) ∧ (∀ i, i < 4 → σ.1 19 i = nI (wfrW W i)) ∧ (∀ p, p < 8 → σ.1 20 p = nI (ancs W p)) ∧ (∀ k, k < 8 → σ.1 21 k = e1 (wKey W k)) ∧ (∀ b, b < 3 → σ.1 22 b = nI (keysW W (8 + b))) ∧ σ.1 17 6 = nI (golW W) ∧
  (∀ p, p < 8 → σ.1 5 p = e1 (wLok W p)) ∧ σ.1 1 7 = nI (wWet W) ∧ ∀ j, j < 16 → σ.1 2 j = nI (wWay W j)
theorem SK_fr {W : zWo} {σ τ : zSt} {L : List Nat} {S : List (Nat × Nat)} (h : SK W σ) (f : fr L S σ τ) (d : ([18, 19, 20, 21, 22, 5, 2].all (fun c => !L.contains c && S.all (fun q => q.1 != c)) && [(17, 6), (1, 7)].all (fun q => !L.contains q.1 && !S.contains q)) = true) : SK W τ := by
  have g : eqOn [18, 19, 20, 21, 22, 5, 2] [(17, 6), (1, 7)] σ τ := f.eqOn d
  obtain ⟨h1, h2, h3, h4, h5, h6, h7, h8, h9⟩ := h
  have r : ∀ c, c ∈ [18, 19, 20, 21, 22, 5, 2] → τ.1 c = σ.1 c := g.1
  exact ⟨fun i hi => (congrFun (r 18 (by decide)) i).trans (h1 i hi), fun i hi => (congrFun (r 19 (by decide)) i).trans (h2 i hi), fun i hi => (congrFun (r 20 (by decide)) i).trans (h3 i hi), fun i hi => (congrFun (r 21 (by decide)) i).trans (h4 i hi), fun i hi => (congrFun (r 22 (by decide)) i).trans (h5 i hi), (g.2 (17, 6) (by decide)).trans h6, fun i hi => (congrFun (r 5 (by decide)) i).trans (h7 i hi), (g.2 (1, 7) (by decide)).trans h8, fun i hi => (congrFun (r 2 (by decide)) i).trans (h9 i hi)⟩
theorem T_daysTo {σ : zSt} {W : zWo} {a b : Nat} (h : ∀ j, j < 16 → σ.1 2 j = nI (wWay W j)) (ha : a < 4) (hb : b < 4) : F_X5_daysTo (nI a) (nI b) σ = some (nI (wWay W (4 * a + b)), σ) := by
  have g1 : bel (nI a) 4 := bel_t (by omega)
  have g2 : bel (nI b) 4 := bel_t (by omega)
  unfold F_X5_daysTo F_X5_daysTo_0
  rw [T_isBelow_4, bd_s, bI_t g1, if_neg (show ¬ (1 : Int32) = 0 by decide), T_isBelow_4, bd_s, bI_t g2, if_neg (show ¬ (1 : Int32) = 0 by decide), m4, nI_add, gd_n (by omega), nI_cl (by omega), h _ (by omega)]
theorem keyb_bset (W : zWo) (x : Nat) : ∀ n, keyb W x n = bset (fun k => decide (wKey W k = some x)) n := by
  intro n
  induction n with
  | zero => rfl
  | succ n ih =>
    unfold keyb bset
    rw [ih]
    by_cases q : wKey W n = some x
    · rw [if_pos q, if_pos (decide_eq_true q)]
    · rw [if_neg q, if_neg (by simpa using q)]
theorem T_mouths {W : zWo} {σ : zSt} (hW : ∀ k, k < 8 → ∀ x, wKey W k = some x → x < 16) (h : ∀ k, k < 8 → σ.1 21 k = e1 (wKey W k)) : wp (F_X5_learnMouths σ) (fun _ τ => fr [22] [] σ τ ∧ ∀ b, b < 3 → τ.1 22 b = nI (keysW W (8 + b))) := by
  unfold F_X5_learnMouths F_X5_learnMouths_0
  refine wp_for (fun b s => s.1 = nI b ∧ fr [22] [] σ s.2 ∧ ∀ c, c < b → s.2.1 22 c = nI (keysW W (8 + c))) 3 (by decide) (fun b w s hb hI hw => ?_) (fun w s hI => ?_) ⟨rfl, fr.rf, fun c hc => absurd hc (Nat.not_lt_zero c)⟩
  · obtain ⟨x, τ⟩ := s
    obtain ⟨i1, i2, i3⟩ := hI
    simp only at i1 i2 i3
    subst i1
    show wp (F_X5_learnMouths_2 w (nI b) τ) _
    unfold F_X5_learnMouths_2
    rw [if_neg (by rw [show (3 : Int32) = nI 3 from rfl, nI_lep (by omega)]; omega), gd_n (by omega), nI_cl (by omega), nm_s]
    refine wp_for (fun k s => s.1 = nI k ∧ fr [22] [] σ s.2 ∧ (∀ c, c < b → s.2.1 22 c = nI (keysW W (8 + c))) ∧ s.2.1 22 b = nI (keyb W (8 + b) k)) 8 (by decide) (fun k w2 s hk hI hw2 => ?_) (fun w2 s hI => ?_) ⟨rfl, i2.w (Or.inl (by decide)), fun c hc => ?_, ?_⟩
    · obtain ⟨y, υ⟩ := s
      obtain ⟨j1, j2, j3, j4⟩ := hI
      simp only at j1 j2 j3 j4
      subst j1
      show wp (F_X5_learnMouths_16 w (nI b) w2 (nI k) υ) _
      have e21 : υ.1 21 k = e1 (wKey W k) := (j2.rd (by decide) (by decide)).trans (h k hk)
      have v : (if e1 (wKey W k) = ((8 : Int32) + nI b) then ((1 : Int32) <<< (nI k &&& 31)) else (0 : Int32)) = if (decide (wKey W k = some (8 + b))) then (1 : Int32) <<< (nI k &&& 31) else 0 := by
        have e8 : (8 : Int32) + nI b = nI (8 + b) := nI_add 8 b
        rw [e8]
        by_cases q : wKey W k = some (8 + b)
        · rw [if_pos ((e1_eq (by omega) (hW k hk)).mpr q), if_pos (decide_eq_true q)]
        · rw [if_neg (fun r => q ((e1_eq (by omega) (hW k hk)).mp r)), if_neg (by simpa using q)]
      unfold F_X5_learnMouths_16
      rw [if_neg (by rw [show (8 : Int32) = nI 8 from rfl, nI_lep (by omega)]; omega), gd_n (by omega), gd_n (by omega), nI_cl (by omega), e21, v, nm_s, gd_n (by omega), nI_cl (by omega), nm_s, nm_s, j4, nI_1]
      refine hw2 _ ⟨rfl, j2.w (Or.inl (by decide)), fun c hc => ?_, ?_⟩
      · show upd (υ.1 22) b _ c = _
        rw [pk_un (by omega)]
        exact j3 c hc
      · show upd (υ.1 22) b _ b = _
        rw [pk_us, keyb_bset, keyb_bset]
        exact bset_s hk rfl
    · obtain ⟨y, υ⟩ := s
      obtain ⟨j1, j2, j3, j4⟩ := hI
      simp only at j1 j2 j3 j4
      subst j1
      show wp (F_X5_learnMouths_16 w (nI b) w2 (nI 8) υ) _
      unfold F_X5_learnMouths_16 F_X5_learnMouths_57
      rw [if_pos (show (8 : Int32) ≤ nI 8 by decide), nm_s, nI_1]
      refine hw _ ⟨rfl, j2, fun c hc => ?_⟩
      by_cases q : c = b
      · rw [q]
        exact j4
      · exact j3 c (by omega)
    · show upd (τ.1 22) b _ c = _
      rw [pk_un (by omega)]
      exact i3 c hc
    · show upd (τ.1 22) b _ b = _
      rw [pk_us]
      rfl
  · obtain ⟨x, τ⟩ := s
    obtain ⟨i1, i2, i3⟩ := hI
    simp only at i1 i2 i3
    subst i1
    show wp (F_X5_learnMouths_2 w (nI 3) τ) _
    unfold F_X5_learnMouths_2
    rw [if_pos (show (3 : Int32) ≤ nI 3 by decide)]
    exact wp_some ⟨i2, i3⟩
theorem T_learn {W : zWo} {σ : zSt} (hW : WOK W) (hC : EC 1 2 W σ) : wp (F_X5_learn σ) (fun _ τ => fr [18, 19, 20, 21, 22] [(17, 6)] σ τ ∧ SK W τ) := by
  have c8 : (8 : Int32) = nI 8 := rfl
  have c4 : (4 : Int32) = nI 4 := rfl
  unfold F_X5_learn F_X5_learn_0
  refine wp_for (fun i s => s.1 = nI i ∧ fr [18, 19] [] σ s.2 ∧ ∀ c, c < i → s.2.1 18 c = nI (ploW W c) ∧ s.2.1 19 c = nI (wfrW W c)) 4 (by decide) (fun i w s hi hI hw => ?_) (fun w s hI => ?_) ⟨rfl, fr.rf, fun c hc => absurd hc (Nat.not_lt_zero c)⟩
  · obtain ⟨x, τ⟩ := s
    obtain ⟨i1, i2, i3⟩ := hI
    simp only at i1 i2 i3
    subst i1
    show wp (F_X5_learn_2 w (nI i) τ) _
    unfold F_X5_learn_2
    rw [if_neg (by rw [c4, nI_lep (by omega)]; omega), gd_n (by omega), nI_cl (by omega), nm_s]
    refine wp_for (fun p s => s.1 = nI p ∧ fr [18, 19] [] σ s.2 ∧ (∀ c, c < i → s.2.1 18 c = nI (ploW W c) ∧ s.2.1 19 c = nI (wfrW W c)) ∧ s.2.1 18 i = nI (bset (fun p => wIs W p && decide (islW W p = i)) p)) 8 (by decide) (fun p w2 s hp hI hw2 => ?_) (fun w2 s hI => ?_) ⟨rfl, i2.w (Or.inl (by decide)), fun c hc => ⟨?_, (i3 c hc).2⟩, ?_⟩
    · obtain ⟨y, υ⟩ := s
      obtain ⟨j1, j2, j3, j4⟩ := hI
      simp only at j1 j2 j3 j4
      subst j1
      show wp (F_X5_learn_16 w (nI i) w2 (nI p) υ) _
      have hC' := j2.EC (by decide) hC
      have tail : ∀ v : Int32, (v = if (wIs W p && decide (islW W p = i)) then (1 : Int32) <<< (nI p &&& 31) else 0) → wp (w2 (nI (p + 1), zwr υ 18 i (nI (bset (fun p => wIs W p && decide (islW W p = i)) p) ||| v))) (fun _ τ => fr [18, 19, 20, 21, 22] [(17, 6)] σ τ ∧ SK W τ) := by
        intro v hv
        refine hw2 _ ⟨rfl, j2.w (Or.inl (by decide)), fun c hc => ⟨?_, (j3 c hc).2⟩, ?_⟩
        · show upd (υ.1 18) i _ c = _
          rw [pk_un (by omega)]
          exact (j3 c hc).1
        · show upd (υ.1 18) i _ i = _
          rw [pk_us]
          exact bset_s hp hv
      unfold F_X5_learn_16 F_X5_learn_58 F_X5_learn_59
      rw [if_neg (by rw [c8, nI_lep (by omega)]; omega), gd_n (by omega), T_isTold hW hC', bd_s, nI_cl (by omega), j4]
      by_cases q : wIs W p = true
      · rw [bI_t ((isT_n (by omega)).mpr q), if_neg (show ¬ (1 : Int32) = 0 by decide), t_islandOf hW hC' hp, bd_s, nm_s, gd_n (by omega), nI_cl (by omega), nm_s, nm_s, nI_1, nI_eqp (show islW W p < 2147483648 ∧ i < 2147483648 by have := islW_lt hW hp; omega)]
        refine tail _ ?_
        rw [q, Bool.true_and]
        by_cases r : islW W p = i
        · rw [if_pos r, if_pos (decide_eq_true r)]
        · rw [if_neg r, if_neg (by simpa using r)]
      · rw [bI_f (fun r => q ((isT_n (by omega)).mp r)), if_pos rfl, gd_n (by omega), nI_cl (by omega), nm_s, nm_s, nI_1]
        refine tail _ ?_
        rw [Bool.eq_false_iff.mpr q, Bool.false_and]
        rfl
    · obtain ⟨y, υ⟩ := s
      obtain ⟨j1, j2, j3, j4⟩ := hI
      simp only at j1 j2 j3 j4
      subst j1
      show wp (F_X5_learn_16 w (nI i) w2 (nI 8) υ) _
      unfold F_X5_learn_16 F_X5_learn_67
      rw [if_pos (show (8 : Int32) ≤ nI 8 by decide), gd_n (by omega), nI_cl (by omega), nm_s]
      refine wp_for (fun t s => s.1 = nI t ∧ fr [18, 19] [] σ s.2 ∧ (∀ c, c < i → s.2.1 18 c = nI (ploW W c) ∧ s.2.1 19 c = nI (wfrW W c)) ∧ s.2.1 18 i = nI (ploW W i) ∧ s.2.1 19 i = nI (bset (fun t => decide (0 < wWay W (4 * i + t))) t)) 4 (by decide) (fun t w3 s ht hI hw3 => ?_) (fun w3 s hI => ?_) ⟨rfl, j2.w (Or.inl (by decide)), fun c hc => ⟨(j3 c hc).1, ?_⟩, j4, ?_⟩
      · obtain ⟨z, ω⟩ := s
        obtain ⟨l1, l2, l3, l4, l5⟩ := hI
        simp only at l1 l2 l3 l4 l5
        subst l1
        show wp (F_X5_learn_76 w (nI i) w3 (nI t) ω) _
        have hC' := l2.EC (by decide) hC
        have hw30 : wWay W (4 * i + t) ≤ 30 := hW.1 _ (by omega)
        unfold F_X5_learn_76
        rw [if_neg (by rw [c4, nI_lep (by omega)]; omega), gd_n (by omega), T_daysTo hC'.1 hi ht, bd_s, nm_s, gd_n (by omega), nI_cl (by omega), nm_s, nm_s, l5, nI_1]
        refine hw3 _ ⟨rfl, l2.w (Or.inl (by decide)), fun c hc => ⟨(l3 c hc).1, ?_⟩, l4, ?_⟩
        · show upd (ω.1 19) i _ c = _
          rw [pk_un (by omega)]
          exact (l3 c hc).2
        · show upd (ω.1 19) i _ i = _
          rw [pk_us]
          refine bset_s (by omega) ?_
          rw [show (0 : Int32) = nI 0 from rfl, nI_lep (by omega)]
          by_cases r : 0 < wWay W (4 * i + t)
          · rw [if_neg (by omega), if_pos (decide_eq_true r)]
          · rw [if_pos (by omega), if_neg (by simpa using r)]
      · obtain ⟨z, ω⟩ := s
        obtain ⟨l1, l2, l3, l4, l5⟩ := hI
        simp only at l1 l2 l3 l4 l5
        subst l1
        show wp (F_X5_learn_76 w (nI i) w3 (nI 4) ω) _
        unfold F_X5_learn_76 F_X5_learn_112
        rw [if_pos (show (4 : Int32) ≤ nI 4 by decide), nm_s, nI_1]
        refine hw _ ⟨rfl, l2, fun c hc => ?_⟩
        by_cases q : c = i
        · rw [q]
          exact ⟨l4, l5⟩
        · exact l3 c (by omega)
      · show upd (υ.1 19) i _ c = _
        rw [pk_un (by omega)]
        exact (j3 c hc).2
      · show upd (υ.1 19) i _ i = _
        rw [pk_us]
        rfl
    · show upd (τ.1 18) i _ c = _
      rw [pk_un (by omega)]
      exact (i3 c hc).1
    · show upd (τ.1 18) i _ i = _
      rw [pk_us]
      rfl
  · obtain ⟨x, τ⟩ := s
    obtain ⟨i1, i2, i3⟩ := hI
    simp only at i1 i2 i3
    subst i1
    show wp (F_X5_learn_2 w (nI 4) τ) _
    unfold F_X5_learn_2 F_X5_learn_118
    rw [if_pos (show (4 : Int32) ≤ nI 4 by decide)]
    refine wp_for (fun p s => s.1 = nI p ∧ fr [18, 19, 20] [] σ s.2 ∧ (∀ c, c < 4 → s.2.1 18 c = nI (ploW W c) ∧ s.2.1 19 c = nI (wfrW W c)) ∧ ∀ q, q < p → s.2.1 20 q = nI (ancs W q)) 8 (by decide) (fun p w2 s hp hI hw2 => ?_) (fun w2 s hI => ?_) ⟨rfl, i2.mono (by decide), i3, fun q hq => absurd hq (Nat.not_lt_zero q)⟩
    · obtain ⟨y, υ⟩ := s
      obtain ⟨j1, j2, j3, j4⟩ := hI
      simp only at j1 j2 j3 j4
      subst j1
      show wp (F_X5_learn_120 w2 (nI p) υ) _
      have hC' := j2.EC (by decide) hC
      unfold F_X5_learn_120
      rw [if_neg (by rw [c8, nI_lep (by omega)]; omega), t_around hW hC' hp, bd_s, gd_n (by omega), nI_cl (by omega), nm_s, nm_s, nI_1]
      refine hw2 _ ⟨rfl, j2.w (Or.inl (by decide)), j3, fun q hq => ?_⟩
      show upd (υ.1 20) p _ q = _
      by_cases r : q = p
      · rw [r, pk_us]
      · rw [pk_un r]
        exact j4 q (by omega)
    · obtain ⟨y, υ⟩ := s
      obtain ⟨j1, j2, j3, j4⟩ := hI
      simp only at j1 j2 j3 j4
      subst j1
      show wp (F_X5_learn_120 w2 (nI 8) υ) _
      unfold F_X5_learn_120 F_X5_learn_146
      rw [if_pos (show (8 : Int32) ≤ nI 8 by decide), nm_s, va_cpn]
      have hC' := j2.EC (by decide) hC
      have f1 : fr [18, 19, 20, 21, 22] [(17, 6)] σ (zrow υ 21 (cpn (υ.1 7) (υ.1 21) 8)) := (j2.mono (by decide)).z (by decide)
      have k21 : ∀ k, k < 8 → (zrow υ 21 (cpn (υ.1 7) (υ.1 21) 8)).1 21 k = e1 (wKey W k) := by
        intro k hk
        rw [zrow_c, cpn_in hk]
        exact hC'.2.2.2.2.2.1 k hk
      refine wp_bd2 (T_mouths (fun k hk x hx => key16 hW hk x hx) k21) (fun _ ω hω => ?_)
      obtain ⟨g1, g2⟩ := hω
      have f2 : fr [18, 19, 20, 21, 22] [(17, 6)] σ ω := f1.tr (g1.mono (by decide))
      rw [nm_s]
      have f3 : fr [18, 19, 20, 21, 22] [(17, 6)] σ (zwr ω 17 6 0) := f2.w (Or.inr (by decide))
      have hC3 := f3.EC (by decide) hC
      have e8 : (zwr ω 17 6 0).1 1 8 = nI (wHea W) := hC3.2.2.2.2.2.2.2.2.1
      rw [e8]
      have base : ∀ s : zSt, fr [18, 19, 20, 21, 22] [(17, 6)] (zwr ω 17 6 0) s → (∀ c, c ∈ [18, 19, 20, 21, 22] → s.1 c = ω.1 c) → s.1 17 6 = nI (golW W) → fr [18, 19, 20, 21, 22] [(17, 6)] σ s ∧ SK W s := by
        intro s hs hr he
        have hCs := (f3.tr hs).EC (by decide) hC
        refine ⟨f3.tr hs, fun c hc => ?_, fun c hc => ?_, fun p hp => ?_, fun k hk => ?_, fun b hb => ?_, he, hCs.2.2.2.1, hCs.2.2.2.2.2.2.2.1, hCs.1⟩
        · rw [hr 18 (by decide), g1.row (c := 18) (by decide)]
          exact (j3 c hc).1
        · rw [hr 19 (by decide), g1.row (c := 19) (by decide)]
          exact (j3 c hc).2
        · rw [hr 20 (by decide), g1.row (c := 20) (by decide)]
          exact j4 p hp
        · rw [hr 21 (by decide), g1.row (c := 21) (by decide)]
          exact k21 k hk
        · rw [hr 22 (by decide)]
          exact g2 b hb
      have key : ∀ j p f k a (s : zSt), p < 8 → 8 ≤ p + j → k + j ≤ 8 → j + 1 < f → a < 256 → s.1 17 6 = nI a → EC 1 2 W s → wp (zfix F_X5_learn_183L f (nI p, nI k, s)) (fun _ t => fr [] [(17, 6)] s t ∧ t.1 17 6 = nI (a ||| golF W 8 p)) := by
        intro j
        induction j with
        | zero => intro p f k a s hp h; omega
        | succ j ih =>
          intro p f k a s hp h hk hf ha es hCs
          obtain ⟨f, rfl⟩ : ∃ q, f = q + 1 := ⟨f - 1, by omega⟩
          show wp (F_X5_learn_183 (zfix F_X5_learn_183L f) (nI p) (nI k) s) _
          have hb : bel (nI p) 8 := bel_t (by omega)
          have e6 : s.1 6 p = e1 (wFli W p) := hCs.2.2.2.2.1 p hp
          have fs : fr [] [(17, 6)] s (zwr s 17 6 (nI (a ||| 2 ^ p))) := fr_w (Or.inr (by decide))
          unfold F_X5_learn_183
          rw [if_neg (by rw [c8, nI_lep (by omega)]; omega), T_isBelow_8, bd_s, bI_t hb, if_neg (show ¬ (1 : Int32) = 0 by decide), es, bit_1 p hp, nI_or, nm_s, gd_n (by omega), nI_cl (by omega), nm_s, nm_s, nI_1, show (zwr s 17 6 (nI (a ||| 2 ^ p))).1 6 p = e1 (wFli W p) from e6, golF_s hW hp]
          cases q : wFli W p with
          | none =>
            obtain ⟨f, rfl⟩ : ∃ q, f = q + 1 := ⟨f - 1, by omega⟩
            show wp (F_X5_learn_183 (zfix F_X5_learn_183L f) (-1) (nI (k + 1)) (zwr s 17 6 (nI (a ||| 2 ^ p)))) _
            unfold F_X5_learn_183
            rw [T_isBelow_8, bd_s, bI_f bel_m1, if_pos (show (0 : Int32) = 0 from rfl)]
            have fin : wp (some ((), zwr s 17 6 (nI (a ||| 2 ^ p)))) (fun _ t => fr [] [(17, 6)] s t ∧ t.1 17 6 = nI (a ||| (2 ^ p ||| 0))) := wp_some ⟨fs, by rw [Nat.or_zero]; simp only [zwr_r, upd_r, Nat.reduceEqDiff, ↓reduceIte]⟩
            by_cases z : (8 : Int32) ≤ nI (k + 1)
            · rw [if_pos z]
              exact fin
            · rw [if_neg z]
              exact fin
          | some r =>
            obtain ⟨b1, b2⟩ := hW.fli p r hp q
            refine wp_mono (ih r f (k + 1) (a ||| 2 ^ p) _ (wIs_lt b2) (by omega) (by omega) (by omega) (or_lt ha (pow_lt8 hp)) (by simp only [zwr_r, upd_r, Nat.reduceEqDiff, ↓reduceIte]) (fs.EC (by decide) hCs)) (fun _ t ht => ⟨fs.tr ht.1, ?_⟩)
            rw [ht.2, Nat.or_assoc]
      refine wp_mono (key 8 (wHea W) zlim 0 0 (zwr ω 17 6 0) hW.hea (by omega) (by decide) (by show 9 < 1000000; decide) (by decide) (by simp only [zwr_r, upd_r, Nat.reduceEqDiff, ↓reduceIte]; rfl) hC3) (fun _ t ht => base t (ht.1.mono (by decide)) (fun c hc => ?_) ?_)
      · have hcc : c ≠ 17 := by
          intro q
          rw [q] at hc
          revert hc
          decide
        refine (ht.1.row ?_).trans (zwr_n hcc)
        simp [Ne.symm hcc]
      · rw [ht.2, Nat.zero_or]
        rfl
