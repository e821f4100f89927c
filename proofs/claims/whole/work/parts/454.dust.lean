/-! PURE: the best dust -/
/-- the first of 0..n that has the most -/
def bdN (G : Nat → Nat) : Nat → Nat × Nat
  | 0 => (0, G 0)
  | n + 1 => if G (n + 1) ≤ (bdN G n).2 then bdN G n else (n + 1, G (n + 1))
theorem bdN_s {G : Nat → Nat} {n : Nat} : bdN G (n + 1) = if G (n + 1) ≤ (bdN G n).2 then bdN G n else (n + 1, G (n + 1)) := rfl
theorem bdN_b {G : Nat → Nat} {B : Nat} (h : ∀ k, G k ≤ B) : ∀ n, (bdN G n).1 ≤ n ∧ (bdN G n).2 ≤ B := by
  intro n
  induction n with
  | zero => exact ⟨Nat.le_refl 0, h 0⟩
  | succ n ih =>
    rw [bdN_s]
    split
    · exact ⟨by omega, ih.2⟩
    · exact ⟨Nat.le_refl _, h _⟩
theorem bdN_mul {G : Nat → Nat} {c : Nat} (hc : 0 < c) : ∀ n, bdN (fun k => c * G k) n = ((bdN G n).1, c * (bdN G n).2) := by
  intro n
  induction n with
  | zero => rfl
  | succ n ih =>
    rw [bdN_s, bdN_s, ih]
    by_cases q : G (n + 1) ≤ (bdN G n).2
    · rw [if_pos q, if_pos (Nat.mul_le_mul_left c q)]
    · rw [if_neg q, if_neg (fun z => q (Nat.le_of_mul_le_mul_left z hc))]
/-- what toDust answers -/
def tdA (G : Nat → Nat) (s : Nat) (al X : Nat) : Int64 := if s = 0 then -2 else if X = 0 then (nI (bdN G 8).1).toInt64 else if X = 1 then lN ((bdN G 8).2 / Nat.gcd (bdN G 8).2 al) else lN (al / Nat.gcd (bdN G 8).2 al)
theorem tdA_mul {G G' : Nat → Nat} {c s s' al al' X : Nat} (hc : 0 < c) (h : ∀ d, G' d = c * G d) (hs : s' = 0 ↔ s = 0) (ha : al' = c * al) : tdA G' s' al' X = tdA G s al X := by
  have hf : G' = fun p => c * G p := funext h
  subst hf
  unfold tdA
  rw [bdN_mul hc, ha, fr_l hc, fr_r hc]
  by_cases q : s = 0
  · rw [if_pos q, if_pos (hs.mpr q)]
  · rw [if_neg q, if_neg (fun z => q (hs.mp z))]
noncomputable def tdW (σ0 : zSt) (W : zWo) (D M : Nat) (ds sd : Nat → Nat) (P : Nat) (d : Nat) : Nat := gsW σ0 W (wNig W + M) d (lsW W sd M) (wtS σ0 W ds sd P D M) D
def cst (G : Nat → Nat) : Nat → Int32 × Int64
  | 0 => (0, -1)
  | k + 1 => (nI (bdN G k).1, lN (bdN G k).2)
theorem lN_m1 {a : Nat} (h : a < 9223372036854775808) : ¬ lN a ≤ (-1 : Int64) := by
  intro z
  have z0 : (0 : Int64) ≤ lN a := by
    rw [show (0 : Int64) = lN 0 from rfl, lN_lep (by omega)]
    omega
  exact absurd (Int64.le_trans z0 z) (by decide)
theorem ite2 {p : Prop} [Decidable p] {a b : Int32} {c d : Int64} (h : p) : ((if p then a else b), (if p then c else d)) = (a, c) := by rw [if_pos h, if_pos h]
theorem ite2n {p : Prop} [Decidable p] {a b : Int32} {c d : Int64} (h : ¬ p) : ((if p then a else b), (if p then c else d)) = (b, d) := by rw [if_neg h, if_neg h]
theorem T_best {σ0 : zSt} (hL : RLw σ0) {W : zWo} (hW : WOK W) {M : Nat} {ds sd : Nat → Nat} (hM : M ≤ 12) {D K : Nat} (hDR : DR σ0 D K) {P X : Nat} (hP : P < 256) (hX : X < 3) {σ : zSt} (hB : SB σ0 W M ds sd σ) : wp (F_X6_bestDust (nI P) (nI X) σ) (fun a τ => a = tdA (tdW σ0 W D M ds sd P) (sumN (wtS σ0 W ds sd P D M) 8) (sumN (wtS σ0 W ds sd P D M) 8 * D) X ∧ fr [16, 24, 25, 60, 61, 62] [] σ τ) := by
  obtain ⟨D1, D2, K1, K2, KD⟩ := DR_b hDR
  obtain ⟨b1, b2⟩ := wtS_12 (σ0 := σ0) (W := W) (ds := ds) (sd := sd) (P := P) (D := D) (k := M) D1 hM
  have gb : ∀ d, tdW σ0 W D M ds sd P d ≤ 640000000000000 := fun d => gsW_b D1 hM
  unfold F_X6_bestDust F_X6_bestDust_0
  refine wp_bd2 (T_weigh hL hW hM hDR hP hB) (fun a τ hτ => ?_)
  obtain ⟨rfl, f1, f2⟩ := hτ
  unfold tdA
  by_cases q : sumN (wtS σ0 W ds sd P D M) 8 = 0
  · rw [if_pos (by rw [lg_0 (by omega)]; exact q), if_pos q]
    exact wp_some ⟨rfl, f1⟩
  rw [if_neg (by rw [lg_0 (by omega)]; exact q), if_neg q]
  refine wp_for (fun k s => (s.1, s.2.1) = cst (tdW σ0 W D M ds sd P) k ∧ s.2.2.1 = nI k ∧ fr [16, 24, 25, 60, 61, 62] [] σ s.2.2.2 ∧ WT 60 8 (wtS σ0 W ds sd P D M) s.2.2.2) 9 (by decide) (fun k w s hk hI hw => ?_) (fun w s hI => ?_) ⟨rfl, rfl, f1, f2⟩
  · obtain ⟨x5, x6, x8, υ⟩ := s
    obtain ⟨i1, i2, i3, i4⟩ := hI
    simp only at i1 i2 i3 i4
    subst i2
    have g0 := gb k
    show wp (F_X6_bestDust_27 (nI X) _ w x5 x6 (nI k) υ) _
    unfold F_X6_bestDust_27
    rw [if_neg (by rw [show (8 : Int32) = nI 8 from rfl, nI_ltp (by omega)]; omega)]
    refine wp_bd2 (T_guessC (d := k) hL hW hM hDR (SB_fr hB i3) i4) (fun a ω hω => ?_)
    obtain ⟨e, j1, j2⟩ := hω
    replace e : a = lN (tdW σ0 W D M ds sd P k) := e
    subst e
    rw [nm_s, nm_s, nm_s, nI_1]
    refine hw _ ⟨?_, rfl, i3.tr j1, j2⟩
    dsimp only
    generalize tdW σ0 W D M ds sd P = G at gb g0 i1 ⊢
    cases k with
    | zero =>
      have e5 : x5 = 0 := congrArg Prod.fst i1
      have e6 : x6 = -1 := congrArg Prod.snd i1
      subst e5 e6
      have c : ¬ lg_cmp (lN (G 0)) (-1 : Int64) ≤ 0 := by
        rw [lg_cmp_le]
        exact lN_m1 (by omega)
      exact ite2n c
    | succ j =>
      have e5 : x5 = nI (bdN G j).1 := congrArg Prod.fst i1
      have e6 : x6 = lN (bdN G j).2 := congrArg Prod.snd i1
      subst e5 e6
      have g1 := (bdN_b gb j).2
      show _ = (nI (bdN G (j + 1)).1, lN (bdN G (j + 1)).2)
      rw [bdN_s]
      have c : (lg_cmp (lN (G (j + 1))) (lN (bdN G j).2) ≤ 0) = (G (j + 1) ≤ (bdN G j).2) := by
        rw [lg_cmp_le, lN_lep (by omega)]
      by_cases r : G (j + 1) ≤ (bdN G j).2
      · rw [if_pos r]
        exact ite2 (c.mpr r)
      · rw [if_neg r]
        exact ite2n (fun z => r (c.mp z))
  · obtain ⟨x5, x6, x8, υ⟩ := s
    obtain ⟨i1, i2, i3, i4⟩ := hI
    simp only at i1 i2 i3 i4
    subst i2
    have e5 : x5 = nI (bdN (tdW σ0 W D M ds sd P) 8).1 := congrArg Prod.fst i1
    have e6 : x6 = lN (bdN (tdW σ0 W D M ds sd P) 8).2 := congrArg Prod.snd i1
    subst e5 e6
    have g1 := (bdN_b gb 8).2
    show wp (F_X6_bestDust_27 (nI X) _ w _ _ (nI 9) υ) _
    unfold F_X6_bestDust_27 F_X6_bestDust_64
    rw [if_pos (show (8 : Int32) < nI 9 by decide)]
    by_cases r : X = 0
    · rw [r, if_pos (show nI 0 = 0 from rfl), if_pos rfl]
      exact wp_some ⟨rfl, i3⟩
    have hD10 : D = 10 ∨ D = 1 := hDR.elim (fun z => Or.inl z.1) (fun z => Or.inr z.1)
    have mD : sumN (wtS σ0 W ds sd P D M) 8 * D ≤ 80000000000000 ∧ 0 < sumN (wtS σ0 W ds sd P D M) 8 * D := by
      rcases hD10 with z | z <;> rw [z] at b1 q ⊢ <;> omega
    have hg : 0 < Nat.gcd (bdN (tdW σ0 W D M ds sd P) 8).2 (sumN (wtS σ0 W ds sd P D M) 8 * D) := gcd_pos_r mD.2
    have hg2 := Nat.gcd_le_right (bdN (tdW σ0 W D M ds sd P) 8).2 mD.2
    have hne : ¬ lN (Nat.gcd (bdN (tdW σ0 W D M ds sd P) 8).2 (sumN (wtS σ0 W ds sd P D M) 8 * D)) = 0 := by
      rw [show (0 : Int64) = lN 0 from rfl, lN_eqp (by omega)]
      omega
    have i64 : (nI D).toInt64 = lN D := by
      rcases hD10 with z | z <;> rw [z] <;> rfl
    rw [if_neg (nI_ne0 (by omega) (by omega)), if_neg r, T_draws hDR ((SB_fr hB i3).1.2 (8, 8) (by decide)), bd_s, i64, lN_mul, nm_s, nm_s, T_cdiv (by omega) (by omega) hg, bd_s, gd_t hne]
    by_cases t : X = 1
    · rw [if_pos t, if_pos (by rw [show (1 : Int32) = nI 1 from rfl, nI_eqp (by omega)]; exact t), pk_lDiv (by omega) hg (by omega)]
      exact wp_some ⟨rfl, i3⟩
    · rw [if_neg t, if_neg (by rw [show (1 : Int32) = nI 1 from rfl, nI_eqp (by omega)]; exact t), pk_lDiv (by omega) hg (by omega)]
      exact wp_some ⟨rfl, i3⟩
theorem T_bestM {σ0 : zSt} (hL : RLw σ0) {W : zWo} (hW : WOK W) {M : Nat} {ds sd : Nat → Nat} (hM0 : 1 ≤ M) (hM : M ≤ 12) {P X s : Nat} (hX : X < 3) (hs : sumN (wtS σ0 W ds sd P 10 M) 8 = s) (hs0 : ¬ s = 0) {σ : zSt} (hB : SBM σ0 W M ds sd σ) (hw0 : WT 101 8 (wtS σ0 W ds sd P 10 M) σ) : wp (bd (F_X12_guessed 0 σ) (fun q24 s23 => zfix (F_X12_toDust_98L (nI X) (lN s)) zlim (0, q24, 1, s23))) (fun a τ => a = tdA (tdW σ0 W 10 M ds sd P) s (10 * s) X ∧ fr RTR [] σ τ) := by
  obtain ⟨b1, b2⟩ := wtS_12 (σ0 := σ0) (W := W) (ds := ds) (sd := sd) (P := P) (D := 10) (k := M) (by decide) hM
  have gb : ∀ d, tdW σ0 W 10 M ds sd P d ≤ 640000000000000 := fun d => gsW_b (by decide) hM
  rw [hs] at b1
  refine wp_bd2 (T_guessM (d := 0) hL hW hM0 hM hB hw0) (fun a τ hτ => ?_)
  obtain ⟨rfl, f1, f2⟩ := hτ
  unfold tdA
  rw [if_neg hs0]
  refine wp_for (fun k t => (t.1, t.2.1) = cst (tdW σ0 W 10 M ds sd P) (k + 1) ∧ t.2.2.1 = nI (k + 1) ∧ fr RTR [] σ t.2.2.2 ∧ WT 101 8 (wtS σ0 W ds sd P 10 M) t.2.2.2) 8 (by decide) (fun k w t hk hI hw => ?_) (fun w t hI => ?_) ⟨rfl, rfl, f1, f2⟩
  · obtain ⟨x5, x6, x8, υ⟩ := t
    obtain ⟨i1, i2, i3, i4⟩ := hI
    simp only at i1 i2 i3 i4
    subst i2
    have g0 := gb (k + 1)
    show wp (F_X12_toDust_98 (nI X) _ w x5 x6 (nI (k + 1)) υ) _
    unfold F_X12_toDust_98
    rw [if_neg (by rw [show (8 : Int32) = nI 8 from rfl, nI_ltp (by omega)]; omega)]
    refine wp_bd2 (T_guessM (d := k + 1) hL hW hM0 hM (SBM_fr hB i3) i4) (fun a ω hω => ?_)
    obtain ⟨e, j1, j2⟩ := hω
    replace e : a = lN (tdW σ0 W 10 M ds sd P (k + 1)) := e
    subst e
    rw [nm_s, nm_s, nm_s, nI_1]
    refine hw _ ⟨?_, rfl, i3.tr j1, j2⟩
    dsimp only
    generalize tdW σ0 W 10 M ds sd P = G at gb g0 i1 ⊢
    have e5 : x5 = nI (bdN G k).1 := congrArg Prod.fst i1
    have e6 : x6 = lN (bdN G k).2 := congrArg Prod.snd i1
    subst e5 e6
    have g1 := (bdN_b gb k).2
    show _ = (nI (bdN G (k + 1)).1, lN (bdN G (k + 1)).2)
    rw [bdN_s]
    have c : (0 < lg_cmp (lN (G (k + 1))) (lN (bdN G k).2)) = ((bdN G k).2 < G (k + 1)) := by
      rw [lg_cmp_gt, lN_ltp (by omega)]
    by_cases r : G (k + 1) ≤ (bdN G k).2
    · rw [if_pos r]
      exact ite2n (fun z => absurd (c.mp z) (by omega))
    · rw [if_neg r]
      exact ite2 (c.mpr (by omega))
  · obtain ⟨x5, x6, x8, υ⟩ := t
    obtain ⟨i1, i2, i3, i4⟩ := hI
    simp only at i1 i2 i3 i4
    subst i2
    have e5 : x5 = nI (bdN (tdW σ0 W 10 M ds sd P) 8).1 := congrArg Prod.fst i1
    have e6 : x6 = lN (bdN (tdW σ0 W 10 M ds sd P) 8).2 := congrArg Prod.snd i1
    subst e5 e6
    have g1 := (bdN_b gb 8).2
    show wp (F_X12_toDust_98 (nI X) _ w _ _ (nI 9) υ) _
    unfold F_X12_toDust_98 F_X12_toDust_138
    rw [if_pos (show (8 : Int32) < nI 9 by decide)]
    by_cases r : X = 0
    · rw [r, if_pos (show nI 0 = 0 from rfl), if_pos rfl]
      exact wp_some ⟨rfl, i3⟩
    rw [if_neg (nI_ne0 (by omega) (by omega)), if_neg r, show (10 : Int64) = lN 10 from rfl, lN_mul, T_through (by omega) (by omega) (gcd_pos_r (by omega)), bd_s, show nI X - (1 : Int32) = nI (X - 1) from pk_sub (b := 1) (by omega)]
    by_cases t : X = 1
    · rw [if_pos t, if_pos (by rw [show (0 : Int32) = nI 0 from rfl, nI_eqp (by omega)]; omega)]
      exact wp_some ⟨rfl, i3⟩
    · rw [if_neg t, if_neg (by rw [show (0 : Int32) = nI 0 from rfl, nI_eqp (by omega)]; omega)]
      exact wp_some ⟨rfl, i3⟩

theorem s_toDust {n : Nat} {σ : zSt} (hn : n < 512) (hR : Rel n σ) (x1 x2 x3 : Int32) : Both n (F_X11_toDust x1 x2 x3) (F_X12_toDust x1 x2 x3) σ := by
  obtain ⟨-, ⟨W, w0, w1, w2, w3⟩, -, ⟨m, tp, t0, t1, t2, t3⟩, hL, -⟩ := id hR
  by_cases h1 : 1 ≤ x1.toInt ∧ x1.toInt ≤ 60
  rotate_left
  · refine Both.no (-1) hn hR ?_ ?_
    · unfold F_X11_toDust F_X11_toDust_0 F_X11_refusedStory F_X11_refusedStory_0
      have a : (1 : Int32).toInt = 1 := rfl
      have b : (60 : Int32).toInt = 60 := rfl
      rw [T_isBelow_3, bd_s]
      by_cases q : x1 < 1
      · rw [if_pos q, bd_s, if_neg (show ¬ (-1 : Int32) = 0 by decide)]
        rfl
      · rw [if_neg q, if_pos (by rw [i_lt] at q ⊢; omega), bd_s, if_neg (show ¬ (-1 : Int32) = 0 by decide)]
        rfl
    · unfold F_X12_toDust F_X12_toDust_0 F_X12_toDust_28
      rw [T_in_s60, bd_s, bI_f h1, if_pos rfl]
  obtain ⟨N, hN, rfl⟩ := i_of (n := 61) (x := x1) (by omega) (by omega)
  have h1' := h1
  rw [i_nI (by omega)] at h1'
  have hN1 : 1 ≤ N := by omega
  have c1 : ¬ nI N < 1 := by
    rw [show (1 : Int32) = nI 1 from rfl, nI_ltp (by omega)]
    omega
  have c2 : ¬ (60 : Int32) < nI N := by
    rw [show (60 : Int32) = nI 60 from rfl, nI_ltp (by omega)]
    omega
  by_cases h3 : N ≤ m
  rotate_left
  · refine Both.no (-1) hn hR ?_ ?_
    · unfold F_X11_toDust F_X11_toDust_0 F_X11_refusedStory F_X11_refusedStory_0
      rw [T_isBelow_3, bd_s, if_neg c1, if_neg c2, take_no t1 (Or.inr (by rw [nI_lep (by omega)]; exact h3)), bd_s, if_pos rfl, bd_s, if_neg (show ¬ (-1 : Int32) = 0 by decide)]
      rfl
    · unfold F_X12_toDust F_X12_toDust_0 F_X12_toDust_28
      rw [T_in_s60, bd_s, bI_t h1, if_neg (show ¬ (1 : Int32) = 0 by decide), t2, if_pos (by rw [nI_ltp (by omega)]; omega)]
  generalize hres : spr tp N 13 0 0 (fun _ => 0) (fun _ => 0) = res
  obtain ⟨D, K, hDR⟩ := DR_ex (σ0 := σ)
  obtain ⟨D1, D2, K1, K2, KD⟩ := DR_b hDR
  have hg : wNig W ≤ 600 := w0.2.2.2.2.2.2.2.2.2.2.1
  have ans : ∃ v : Int64, (wp (F_X11_toDust (nI N) x2 x3 σ) (fun a τ => a = v ∧ fr LC [(33, 1), (33, 2)] σ τ ∧ τ.1 33 1 = 0)) ∧ ∀ τ, EM 70 0 W τ → eqOn rowsL slotsL σ τ → τ.1 69 14 = nI m → (∀ j, j < N → tp j < 256 ∧ τ.1 76 j = sb (tp j)) → wp (F_X12_toDust (nI N) x2 x3 τ) (fun a υ => a = v ∧ fr LM ((69, 14) :: SM) τ υ ∧ υ.1 69 14 = 0) := by
    refine ⟨stR W res x2 (bel x3 3) ((fun M ds sd P X => tdA (tdW σ W D M ds sd P) (sumN (wtS σ W ds sd P D M) 8) (sumN (wtS σ W ds sd P D M) 8 * D) X) res.2.1 res.2.2.1 res.2.2.2 x2.toInt.toNat x3.toInt.toNat), ?_, fun τ hM hE u14 uT => ?_⟩
    · unfold F_X11_toDust F_X11_toDust_0
      rw [T_isBelow_3, bd_s]
      refine wp_bd2 (T_refS w0 w2 t0 t1 (fun j hj => ⟨(t3 j (by omega)).1, (t3 j (by omega)).2.1⟩) hN1 (by omega) h3 hres) (fun a τ hτ => ?_)
      obtain ⟨a0, f1, z1, a2⟩ := hτ
      rcases a0 with ⟨q, p, rfl⟩ | ⟨q, p, rfl⟩ | ⟨q, rfl⟩
      rotate_left
      · rw [if_neg (show ¬ (-3 : Int32) = 0 by decide)]
        refine wp_some ⟨?_, f1, z1⟩
        unfold stR
        rw [if_pos q, if_neg p]
        rfl
      · rw [if_neg q]
        refine wp_some ⟨?_, f1, z1⟩
        unfold stR
        rw [if_neg q]
      rw [if_pos rfl]
      obtain ⟨a3, a4, a5, a6⟩ := a2 q
      obtain ⟨P, hP, rfl⟩ := plP_of w0 p.1
      obtain ⟨X, hX, rfl⟩ := bel_of p.2
      unfold stR
      rw [if_pos q, if_pos p, i_nI (by omega), i_nI (by omega), Int.toNat_natCast, Int.toNat_natCast]
      refine wp_bd2 (T_best hL w0 a4 hDR hP hX ⟨f1.eqOn (by decide), f1.EC (by decide) w2, a6, a3⟩) (fun a υ hυ => ?_)
      exact wp_some ⟨hυ.1, f1.tr (hυ.2.mono (by decide)), (hυ.2.rd (by decide) (by decide)).trans z1⟩
    · have m4 : τ.1 69 4 = nI (wNig W) := hM.2.2.2.2.2.2.2.2.2.1
      unfold F_X12_toDust F_X12_toDust_0
      rw [T_in_s60, bd_s, bI_t h1, if_neg (show ¬ (1 : Int32) = 0 by decide), u14, if_neg (by rw [nI_ltp (by omega)]; omega), m4, if_pos (by rw [show (9987 : Int32) = nI 9987 from rfl, nI_lep (by omega)]; omega)]
      refine wp_bd2 (T_readsStory (by omega) uT hres) (fun a υ hυ => ?_)
      obtain ⟨f0, z0, a0⟩ := hυ
      have f1 : fr LM ((69, 14) :: SM) τ υ := f0.mono (by decide)
      rcases a0 with ⟨q, rfl, a3, a6⟩ | ⟨q, rfl, a3⟩
      rotate_left
      · rw [if_pos rfl, a3]
        refine wp_some ⟨?_, f1, z0⟩
        unfold stR
        rw [if_neg q]
      have hMυ : EM 70 0 W υ := f1.EM (by decide) hM
      have υ0 : υ.1 69 0 = nI (wTol W) := hMυ.2.2.2.2.2.2.1
      have a45 := spr_b tp N hres q
      rw [if_neg (show ¬ (1 : Int32) = 0 by decide), T_arePl υ0, bd_s]
      by_cases p : plP W x2
      rotate_left
      · rw [bI_f p, if_pos rfl]
        unfold F_X12_toDust_63 stR
        rw [if_pos q, if_neg (fun z => p z.1)]
        exact wp_some ⟨rfl, f1, z0⟩
      rw [bI_t p, if_neg (show ¬ (1 : Int32) = 0 by decide), T_in_s2, bd_s]
      by_cases k : bel x3 3
      rotate_left
      · rw [bI_f k, if_pos rfl]
        unfold F_X12_toDust_63 stR
        rw [if_pos q, if_neg (fun z => k z.2)]
        exact wp_some ⟨rfl, f1, z0⟩
      rw [bI_t k, if_neg (show ¬ (1 : Int32) = 0 by decide)]
      obtain ⟨P, hP, rfl⟩ := plP_of w0 p
      obtain ⟨X, hX, rfl⟩ := bel_of k
      unfold stR
      rw [if_pos q, if_pos (And.intro p k), i_nI (by omega), i_nI (by omega), Int.toNat_natCast, Int.toNat_natCast]
      have hB : SBM σ W res.2.1 res.2.2.1 res.2.2.2 υ := ⟨hE.tr (f1.eqOn (by decide)), hMυ, a6, a3⟩
      obtain ⟨b1, b2⟩ := wtS_12 (σ0 := σ) (W := W) (ds := res.2.2.1) (sd := res.2.2.2) (P := P) (D := 10) (k := res.2.1) (by decide) a45.1
      refine wp_bd2 (T_goes hL w0 a45.1 hP hB) (fun a ω hω => ?_)
      obtain ⟨rfl, f2, hw⟩ := hω
      have fω : fr LM ((69, 14) :: SM) τ ω := f1.tr (f2.mono (by decide))
      have zω : ω.1 69 14 = 0 := (f2.rd (by decide) (by decide)).trans z0
      show wp _ (fun a υ => a = tdA (tdW σ W D res.2.1 res.2.2.1 res.2.2.2 P) (sumN (wtS σ W res.2.2.1 res.2.2.2 P D res.2.1) 8) (sumN (wtS σ W res.2.2.1 res.2.2.2 P D res.2.1) 8 * D) X ∧ fr LM ((69, 14) :: SM) τ υ ∧ υ.1 69 14 = 0)
      have hKM : 0 < K ^ res.2.1 := Nat.pow_pos K1
      have sM : sumN (wtS σ W res.2.2.1 res.2.2.2 P 10 res.2.1) 8 = K ^ res.2.1 * sumN (wtS σ W res.2.2.1 res.2.2.2 P D res.2.1) 8 := by
        rw [← sumN_mul]
        exact sumN_c 8 (fun p _ => wtS_DR hL hDR res.2.1 p)
      rw [← tdA_mul (G := tdW σ W D res.2.1 res.2.2.1 res.2.2.2 P) (G' := tdW σ W 10 res.2.1 res.2.2.1 res.2.2.2 P) (s' := sumN (wtS σ W res.2.2.1 res.2.2.2 P 10 res.2.1) 8) (al' := 10 * sumN (wtS σ W res.2.2.1 res.2.2.2 P 10 res.2.1) 8) (Nat.pow_pos (n := res.2.1 + 1) K1) (fun d => gsW_DR hL hDR) (by rw [sM, Nat.mul_eq_zero]; exact ⟨fun z => z.resolve_left (by omega), Or.inr⟩) (by rw [sM, ← KD, Nat.pow_succ]; simp only [Nat.mul_assoc, Nat.mul_comm, Nat.mul_left_comm])]
      by_cases s0 : sumN (wtS σ W res.2.2.1 res.2.2.2 P 10 res.2.1) 8 = 0
      · rw [if_pos (by rw [lg_0 (by omega)]; exact s0)]
        unfold tdA
        rw [if_pos s0]
        exact wp_some ⟨rfl, fω, zω⟩
      rw [if_neg (by rw [lg_0 (by omega)]; exact s0)]
      exact wp_mono (T_bestM (P := P) hL w0 a45.2 a45.1 hX rfl s0 (SBM_fr hB f2) hw) (fun a κ h => ⟨h.1, fω.tr (h.2.mono (by decide)), (h.2.rd (by decide) (by decide)).trans zω⟩)
  obtain ⟨v, A1, A2⟩ := ans
  obtain ⟨a, τ, e1', rfl, f1, k1⟩ := A1
  obtain ⟨b, υ, e2', rfl, f2, k2⟩ := A2 τ (f1.EM (by decide) w3) (f1.eqOn (by decide)) ((f1.rd (by decide) (by decide)).trans t2) (fun j hj => ⟨(t3 j (by omega)).1, by rw [f1.row (c := 76) (by decide)]; exact (t3 j (by omega)).2.2⟩)
  exact Both.mk e1' e2' (Rel_T hn hR ((f1.eqOn (by decide)).tr (f2.eqOn (by decide))) (RT_0 ((f2.rd (by decide) (by decide)).trans k1) k2))
