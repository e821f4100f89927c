/-! PURE: guessing; the reference's weights -/
def mxN (f : Nat → Nat) : Nat → Nat
  | 0 => 0
  | n + 1 => if f n < mxN f n then mxN f n else f n
theorem mxN_c {f g : Nat → Nat} : ∀ n, (∀ k, k < n → f k = g k) → mxN f n = mxN g n := by
  intro n
  induction n with
  | zero => intro _; rfl
  | succ n ih =>
    intro h
    unfold mxN
    rw [ih (fun k hk => h k (by omega)), h n (Nat.lt_succ_self n)]
theorem mxN_mul {f : Nat → Nat} {c : Nat} (hc : 0 < c) : ∀ n, mxN (fun k => c * f k) n = c * mxN f n := by
  intro n
  induction n with
  | zero => rfl
  | succ n ih =>
    unfold mxN
    rw [ih]
    by_cases h : f n < mxN f n
    · rw [if_pos h, if_pos (Nat.mul_lt_mul_of_pos_left h hc)]
    · rw [if_neg h, if_neg (fun q => h (Nat.lt_of_mul_lt_mul_left q))]
theorem mxN_le {f : Nat → Nat} {B : Nat} : ∀ n, (∀ k, k < n → f k ≤ B) → mxN f n ≤ B := by
  intro n
  induction n with
  | zero => intro _; exact Nat.zero_le _
  | succ n ih =>
    intro h
    unfold mxN
    split
    · exact ih (fun k hk => h k (by omega))
    · exact h n (Nat.lt_succ_self n)
/-- by how much one can guess right behind a night -/
noncomputable def gsW (σ0 : zSt) (W : zWo) (g d s : Nat) (wt : Nat → Nat) (D : Nat) : Nat := sumN (fun word => mxN (fun p => spW σ0 W g d s wt D (8 * word + p)) 8) 8
theorem gsW_b {σ0 : zSt} {W : zWo} {ds sd : Nat → Nat} {P D k g d s : Nat} (hD : D ≤ 10) (hk : k ≤ 12) : gsW σ0 W g d s (wtS σ0 W ds sd P D k) D ≤ 640000000000000 := by
  have h : gsW σ0 W g d s (wtS σ0 W ds sd P D k) D ≤ sumN (fun _ => 80000000000000) 8 := sumN_le 8 (fun word _ => mxN_le 8 (fun p _ => spW_12 hD hk _))
  rw [sumN_const] at h
  omega
theorem gsW_DR {σ0 : zSt} (hL : RLw σ0) {D K : Nat} (h : DR σ0 D K) {W : zWo} {ds sd : Nat → Nat} {P k g d s : Nat} : gsW σ0 W g d s (wtS σ0 W ds sd P 10 k) 10 = K ^ (k + 1) * gsW σ0 W g d s (wtS σ0 W ds sd P D k) D := by
  obtain ⟨D1, D2, K1, K2, KD⟩ := DR_b h
  have e : ∀ idx, spW σ0 W g d s (wtS σ0 W ds sd P 10 k) 10 idx = K ^ (k + 1) * spW σ0 W g d s (wtS σ0 W ds sd P D k) D idx := by
    intro idx
    rw [spW_mul (wt := wtS σ0 W ds sd P D k) (c := K ^ k) (fun p _ => wtS_DR hL h k p), spW_DR hL h, Nat.pow_succ, Nat.mul_assoc]
  unfold gsW
  rw [← sumN_mul]
  refine sumN_c 8 (fun word _ => ?_)
  rw [← mxN_mul (Nat.pow_pos K1)]
  exact mxN_c 8 (fun p _ => e _)
theorem mx_i {a b : Nat} (h : a < 9223372036854775808 ∧ b < 9223372036854775808) : jmaxL (lN a) (lN b) = lN (if b < a then a else b) := by
  unfold jmaxL
  by_cases q : b < a
  · rw [if_pos q, if_pos ((pk_lLT h.2 h.1).mpr q)]
  · rw [if_neg q, if_neg (fun r => q ((pk_lLT h.2 h.1).mp r))]
theorem c64 {i : Nat} (hi : i < 64) : ∃ a p, a < 8 ∧ p < 8 ∧ i = 8 * a + p := ⟨i / 8, i % 8, by omega, by omega, by omega⟩
theorem T_guessC {σ0 : zSt} (hL : RLw σ0) {W : zWo} (hW : WOK W) {M : Nat} {ds sd : Nat → Nat} (hM : M ≤ 12) {D K : Nat} (hDR : DR σ0 D K) {P d : Nat} {σ : zSt} (hB : SB σ0 W M ds sd σ) (hw0 : WT 60 8 (wtS σ0 W ds sd P D M) σ) : wp (F_X6_guessedBy (nI d) σ) (fun a τ => a = lN (gsW σ0 W (wNig W + M) d (lsW W sd M) (wtS σ0 W ds sd P D M) D) ∧ fr [16, 24, 25, 60, 61, 62] [] σ τ ∧ WT 60 8 (wtS σ0 W ds sd P D M) τ) := by
  obtain ⟨D1, D2, K1, K2, KD⟩ := DR_b hDR
  obtain ⟨b1, b2⟩ := wtS_12 (σ0 := σ0) (W := W) (ds := ds) (sd := sd) (P := P) (D := D) (k := M) D1 hM
  have sp12 := spW_12 (σ0 := σ0) (W := W) (ds := ds) (sd := sd) (P := P) (D := D) (k := M) (g := wNig W + M) (d := d) (s := lsW W sd M) D1 hM
  obtain ⟨aW, haW⟩ : ∃ aW : Nat → Nat → Nat → Nat, (∀ p r q, aW p r q = sumN (fun p => sumN (tmW σ0 W (wNig W + M) d (lsW W sd M) (wtS σ0 W ds sd P D M) q p) D) p + sumN (tmW σ0 W (wNig W + M) d (lsW W sd M) (wtS σ0 W ds sd P D M) q p) r) := ⟨_, fun _ _ _ => rfl⟩
  have a0 : ∀ q, aW 0 0 q = 0 := fun q => by rw [haW]; rfl
  have aN : ∀ p q, aW p D q = aW (p + 1) 0 q := fun p q => by
    rw [haW, haW]
    rfl
  have a8 : ∀ q, aW 8 0 q = spW σ0 W (wNig W + M) d (lsW W sd M) (wtS σ0 W ds sd P D M) D q := fun q => by
    rw [haW]
    rfl
  have aS : ∀ p r q, aW p (r + 1) q = aW p r q + tmW σ0 W (wNig W + M) d (lsW W sd M) (wtS σ0 W ds sd P D M) q p r := fun p r q => by
    rw [haW, haW]
    exact acc_s
  unfold F_X6_guessedBy F_X6_guessedBy_0
  refine wp_for (fun z s => s.1 = nI z ∧ fr [16, 24, 25, 60, 61, 62] [] σ s.2 ∧ WT 60 8 (wtS σ0 W ds sd P D M) s.2 ∧ WT 62 z (fun _ => 0) s.2) 64 (by decide) (fun z w s hz hI hw => ?_) (fun w s hI => ?_) ⟨rfl, fr.rf, hw0, fun q hq => absurd hq (Nat.not_lt_zero q)⟩
  · obtain ⟨x, τ⟩ := s
    obtain ⟨i1, i2, i3, i4⟩ := hI
    simp only at i1 i2 i3 i4
    subst i1
    show wp (F_X6_guessedBy_2 (nI d) w (nI z) τ) _
    unfold F_X6_guessedBy_2
    rw [if_neg (by rw [show (64 : Int32) = nI 64 from rfl, nI_lep (by omega)]; omega), gd_n (by omega), nI_cl (by omega), nm_s, nm_s, nI_1]
    refine hw _ ⟨rfl, i2.wL (by decide), fun p hp => ?_, fun q hq => ?_⟩
    · rw [zwrL_n (by decide)]
      exact i3 p hp
    · rw [zwrL_c]
      by_cases y : q = z
      · rw [y, pk_uLs]
        rfl
      · rw [pk_uLn y]
        exact i4 q (by omega)
  · obtain ⟨x, τ⟩ := s
    obtain ⟨i1, i2, i3, i4⟩ := hI
    simp only at i1 i2 i3 i4
    subst i1
    show wp (F_X6_guessedBy_2 (nI d) w (nI 64) τ) _
    unfold F_X6_guessedBy_2 F_X6_guessedBy_21
    rw [if_pos (show (64 : Int32) ≤ nI 64 by decide)]
    refine wp_for (fun p s => s.1 = nI p ∧ fr [16, 24, 25, 60, 61, 62] [] σ s.2 ∧ WT 60 8 (wtS σ0 W ds sd P D M) s.2 ∧ WT 62 64 (aW p 0) s.2) 8 (by decide) (fun p w2 s hp hI hw2 => ?_) (fun w2 s hI => ?_) ⟨rfl, i2, i3, fun q hq => by rw [a0]; exact i4 q hq⟩
    · obtain ⟨x, υ⟩ := s
      obtain ⟨j1, j2, j3, j4⟩ := hI
      simp only at j1 j2 j3 j4
      subst j1
      show wp (F_X6_guessedBy_23 (nI d) w2 (nI p) υ) _
      unfold F_X6_guessedBy_23
      rw [if_neg (by rw [show (8 : Int32) = nI 8 from rfl, nI_lep (by omega)]; omega)]
      refine wp_for (fun r s => s.1 = nI r ∧ fr [16, 24, 25, 60, 61, 62] [] σ s.2 ∧ WT 60 8 (wtS σ0 W ds sd P D M) s.2 ∧ WT 62 64 (aW p r) s.2) D (by omega) (fun r w3 s hr hI hw3 => ?_) (fun w3 s hI => ?_) ⟨rfl, j2, j3, j4⟩
      · obtain ⟨x, ω⟩ := s
        obtain ⟨l1, l2, l3, l4⟩ := hI
        simp only at l1 l2 l3 l4
        subst l1
        show wp (F_X6_guessedBy_31 w2 (nI d) (nI p) w3 (nI r) ω) _
        have hBω := SB_fr hB l2
        have bp := b2 p hp
        unfold F_X6_guessedBy_31 F_X6_guessedBy_136
        rw [T_draws hDR (hBω.1.2 (8, 8) (by decide)), bd_s, if_neg (by rw [nI_lep (by omega)]; omega), gd_n (by omega), nI_cl (by omega), l3 p hp]
        by_cases q0 : wtS σ0 W ds sd P D M p = 0
        · rw [q0, if_pos (by rw [lg_cmp_le]; exact (show (0 : Int64) ≤ 0 by decide)), nm_s, nI_1]
          refine hw2 _ ⟨rfl, l2, l3, fun q hq => ?_⟩
          have z0 : ∀ n, sumN (tmW σ0 W (wNig W + M) d (lsW W sd M) (wtS σ0 W ds sd P D M) q p) n = 0 := by
            intro n
            refine sumN_0 n (fun r _ => ?_)
            unfold tmW
            rw [q0]
            split <;> rfl
          rw [l4 q hq, ← aN, haW, haW, z0, z0]
        rw [if_neg (by rw [lg_cmp_le, show (0 : Int64) = lN 0 from rfl, lN_lep (by omega)]; omega), hBω.2.2.2]
        refine wp_bd2 (T_turnTo hBω.2.1 hW hBω.2.2.1 hM (Nat.le_refl M)) (fun _ a ha => ?_)
        obtain ⟨f1, t4, t5⟩ := ha
        have hBa := SB_fr hBω (f1.mono (by decide))
        refine wp_bd2 (T_passFrom (g := wNig W + M) (h := p) (d := d) (s := lsW W sd M) (r := r) hL hBa.1 hW hBa.2.1 hp t4 t5) (fun _ b hb => ?_)
        obtain ⟨f2, u3, u4, u5, u6⟩ := hb
        have fb : fr [16, 24, 25, 60, 61, 62] [] ω b := (f1.mono (by decide)).tr (f2.mono (by decide))
        have fL : ∀ c, c ∉ [16, 24, 25] → b.2 c = ω.2 c := fun c hc => (f2.rowL hc).trans (f1.rowL (fun z => hc (by revert z; simp; intro z; exact Or.inr (Or.inl z))))
        have h8 : hrt σ0 W (wNig W + M) d (lsW W sd M) p r < 8 := hrt_lt hp
        have y8 : syp σ0 W (wNig W + M) d (lsW W sd M) p r < 8 := syp_lt hp
        replace u3 : b.1 24 3 = nI (hrt σ0 W (wNig W + M) d (lsW W sd M) p r) := u3
        replace u5 : b.1 24 5 = nI (syp σ0 W (wNig W + M) d (lsW W sd M) p r) := u5
        have hb8 : bel (nI (hrt σ0 W (wNig W + M) d (lsW W sd M) p r)) 8 := bel_t (by omega)
        have hb9 : bel (nI (syp σ0 W (wNig W + M) d (lsW W sd M) p r)) 8 := bel_t (by omega)
        have m8 : ∀ a : Nat, (8 : Int32) * nI a = nI (8 * a) := fun a => pk_mul 8 a
        unfold F_X6_guessedBy_130
        rw [u5, T_isBelow_8, bd_s, bI_t hb9, if_neg (show ¬ (1 : Int32) = 0 by decide), u3, T_isBelow_8, bd_s, bI_t hb8, if_neg (show ¬ (1 : Int32) = 0 by decide), u5, u3, m8, nI_add, gd_n (by omega), gd_n (by omega), gd_n (by omega), nI_cl (by omega), fL 62 (by decide), fL 60 (by decide), l4 _ (by omega), l3 p hp, lN_add, nm_s, nm_s, nI_1]
        refine hw3 _ ⟨rfl, (l2.tr fb).wL (by decide), fun p' hp' => ?_, fun q hq => ?_⟩
        · rw [zwrL_n (by decide), fL 60 (by decide)]
          exact l3 p' hp'
        · rw [zwrL_c, aS]
          unfold tmW
          by_cases y : q = 8 * syp σ0 W (wNig W + M) d (lsW W sd M) p r + hrt σ0 W (wNig W + M) d (lsW W sd M) p r
          · rw [y, pk_uLs, if_pos rfl]
          · rw [pk_uLn y, if_neg (by omega), Nat.add_zero, fL 62 (by decide)]
            exact l4 q hq
      · obtain ⟨x, ω⟩ := s
        obtain ⟨l1, l2, l3, l4⟩ := hI
        simp only at l1 l2 l3 l4
        subst l1
        show wp (F_X6_guessedBy_31 w2 (nI d) (nI p) w3 (nI D) ω) _
        have hBω := SB_fr hB l2
        unfold F_X6_guessedBy_31 F_X6_guessedBy_136
        rw [T_draws hDR (hBω.1.2 (8, 8) (by decide)), bd_s, if_pos (by rw [nI_lep (by omega)]; omega), nm_s, nI_1]
        exact hw2 _ ⟨rfl, l2, l3, fun q hq => by rw [l4 q hq, aN]⟩
    · obtain ⟨x, υ⟩ := s
      obtain ⟨j1, j2, j3, j4⟩ := hI
      simp only at j1 j2 j3 j4
      subst j1
      show wp (F_X6_guessedBy_23 (nI d) w2 (nI 8) υ) _
      unfold F_X6_guessedBy_23 F_X6_guessedBy_142
      rw [if_pos (show (8 : Int32) ≤ nI 8 by decide)]
      refine wp_for (fun a s => s.1 = lN (sumN (fun word => mxN (fun p => spW σ0 W (wNig W + M) d (lsW W sd M) (wtS σ0 W ds sd P D M) D (8 * word + p)) 8) a) ∧ s.2.1 = nI a ∧ s.2.2 = υ) 8 (by decide) (fun a w3 s ha hI hw3 => ?_) (fun w3 s hI => ?_) ⟨rfl, rfl, rfl⟩
      · obtain ⟨y, x, ω⟩ := s
        obtain ⟨l1, l2, l3⟩ := hI
        simp only at l1 l2 l3
        subst l1 l2 l3
        show wp (F_X6_guessedBy_147 w3 _ (nI a) ω) _
        unfold F_X6_guessedBy_147
        rw [if_neg (by rw [show (8 : Int32) = nI 8 from rfl, nI_lep (by omega)]; omega)]
        have mxb : ∀ n, mxN (fun p => spW σ0 W (wNig W + M) d (lsW W sd M) (wtS σ0 W ds sd P D M) D (8 * a + p)) n ≤ 80000000000000 := fun n => mxN_le n (fun p _ => sp12 _)
        refine wp_for (fun p s => s.1 = lN (mxN (fun p => spW σ0 W (wNig W + M) d (lsW W sd M) (wtS σ0 W ds sd P D M) D (8 * a + p)) p) ∧ s.2.1 = nI p ∧ s.2.2 = ω) 8 (by decide) (fun p w4 s hp hI hw4 => ?_) (fun w4 s hI => ?_) ⟨rfl, rfl, rfl⟩
        · obtain ⟨y, x, κ⟩ := s
          obtain ⟨o1, o2, o3⟩ := hI
          simp only at o1 o2 o3
          subst o1 o2 o3
          show wp (F_X6_guessedBy_160 w3 _ (nI a) w4 _ (nI p) κ) _
          have s1 := sp12 (8 * a + p)
          have s2 := mxb p
          unfold F_X6_guessedBy_160
          rw [if_neg (by rw [show (8 : Int32) = nI 8 from rfl, nI_lep (by omega)]; omega), show (8 : Int32) * nI a = nI (8 * a) from pk_mul 8 a, nI_add, gd_n (by omega), nI_cl (by omega), j4 _ (by omega), a8, mx_i (by omega), nm_s, nm_s, nI_1]
          exact hw4 _ ⟨rfl, rfl, rfl⟩
        · obtain ⟨y, x, κ⟩ := s
          obtain ⟨o1, o2, o3⟩ := hI
          simp only at o1 o2 o3
          subst o1 o2 o3
          show wp (F_X6_guessedBy_160 w3 _ (nI a) w4 _ (nI 8) κ) _
          unfold F_X6_guessedBy_160 F_X6_guessedBy_193
          rw [if_pos (show (8 : Int32) ≤ nI 8 by decide), lN_add, nm_s, nm_s, nI_1]
          exact hw3 _ ⟨rfl, rfl, rfl⟩
      · obtain ⟨y, x, ω⟩ := s
        obtain ⟨l1, l2, l3⟩ := hI
        simp only at l1 l2 l3
        subst l1 l2 l3
        show wp (F_X6_guessedBy_147 w3 _ (nI 8) ω) _
        unfold F_X6_guessedBy_147
        rw [if_pos (show (8 : Int32) ≤ nI 8 by decide)]
        exact wp_some ⟨rfl, j2, j3⟩
/-! the reference -/
def RTR : List Nat := [88, 89, 101, 102]
/-- what the reference's story rests on -/
def SBM (σ0 : zSt) (W : zWo) (M : Nat) (ds sd : Nat → Nat) (σ : zSt) : Prop := eqOn rowsL slotsL σ0 σ ∧ EM 70 0 W σ ∧ NGT 99 100 M ds sd σ ∧ σ.1 69 54 = nI M
theorem SBM_fr {σ0 : zSt} {W : zWo} {M : Nat} {ds sd : Nat → Nat} {σ τ : zSt} (h : SBM σ0 W M ds sd σ) (f : fr RTR [] σ τ) : SBM σ0 W M ds sd τ := ⟨h.1.tr (f.eqOn (by decide)), f.EM (by decide) h.2.1, NGT_fr h.2.2.1 f (by decide) (by decide), (f.rd (by decide) (by decide)).trans h.2.2.2⟩
theorem T_spreads {σ0 : zSt} (hL : RLw σ0) {W : zWo} (hW : WOK W) {M : Nat} {ds sd : Nat → Nat} {P k g d s : Nat} (hk : k ≤ 12) {σ : zSt} (hB : SBM σ0 W M ds sd σ) (hw0 : WT 101 8 (wtS σ0 W ds sd P 10 k) σ) : wp (F_X12_spreads (nI g) (nI d) (nI s) σ) (fun _ τ => fr RTR [] σ τ ∧ WT 101 8 (wtS σ0 W ds sd P 10 k) τ ∧ WT 102 64 (spW σ0 W g d s (wtS σ0 W ds sd P 10 k) 10) τ) := by
  obtain ⟨b1, b2⟩ := wtS_12 (σ0 := σ0) (W := W) (ds := ds) (sd := sd) (P := P) (D := 10) (k := k) (by decide) hk
  have sp12 := spW_12 (σ0 := σ0) (W := W) (ds := ds) (sd := sd) (P := P) (D := 10) (k := k) (g := g) (d := d) (s := s) (by decide) hk
  obtain ⟨aW, haW⟩ : ∃ aW : Nat → Nat → Nat → Nat, (∀ p r q, aW p r q = sumN (fun p => sumN (tmW σ0 W g d s (wtS σ0 W ds sd P 10 k) q p) 10) p + sumN (tmW σ0 W g d s (wtS σ0 W ds sd P 10 k) q p) r) := ⟨_, fun _ _ _ => rfl⟩
  have a0 : ∀ q, aW 0 0 q = 0 := fun q => by rw [haW]; rfl
  have aN : ∀ p q, aW p 10 q = aW (p + 1) 0 q := fun p q => by
    rw [haW, haW]
    rfl
  have a8 : ∀ q, aW 8 0 q = spW σ0 W g d s (wtS σ0 W ds sd P 10 k) 10 q := fun q => by
    rw [haW]
    rfl
  have aS : ∀ p r q, aW p (r + 1) q = aW p r q + tmW σ0 W g d s (wtS σ0 W ds sd P 10 k) q p r := fun p r q => by
    rw [haW, haW]
    exact acc_s
  unfold F_X12_spreads F_X12_spreads_0
  refine wp_for (fun z s => s.1 = nI z ∧ fr RTR [] σ s.2 ∧ WT 101 8 (wtS σ0 W ds sd P 10 k) s.2 ∧ WT 102 z (fun _ => 0) s.2) 64 (by decide) (fun z w s hz hI hw => ?_) (fun w s hI => ?_) ⟨rfl, fr.rf, hw0, fun q hq => absurd hq (Nat.not_lt_zero q)⟩
  · obtain ⟨x, τ⟩ := s
    obtain ⟨i1, i2, i3, i4⟩ := hI
    simp only at i1 i2 i3 i4
    subst i1
    show wp (F_X12_spreads_3 _ _ _ w (nI z) τ) _
    unfold F_X12_spreads_3
    rw [if_neg (by rw [show (64 : Int32) = nI 64 from rfl, nI_lep (by omega)]; omega), gd_n (by omega), nI_cl (by omega), nm_s, nm_s, nI_1]
    refine hw _ ⟨rfl, i2.wL (by decide), fun p hp => ?_, fun q hq => ?_⟩
    · rw [zwrL_n (by decide)]
      exact i3 p hp
    · rw [zwrL_c]
      by_cases y : q = z
      · rw [y, pk_uLs]
        rfl
      · rw [pk_uLn y]
        exact i4 q (by omega)
  · obtain ⟨x, τ⟩ := s
    obtain ⟨i1, i2, i3, i4⟩ := hI
    simp only at i1 i2 i3 i4
    subst i1
    show wp (F_X12_spreads_3 _ _ _ w (nI 64) τ) _
    unfold F_X12_spreads_3 F_X12_spreads_24
    rw [if_pos (show (64 : Int32) ≤ nI 64 by decide)]
    refine wp_for (fun p s => s.1 = nI p ∧ fr RTR [] σ s.2 ∧ WT 101 8 (wtS σ0 W ds sd P 10 k) s.2 ∧ WT 102 64 (aW p 0) s.2) 8 (by decide) (fun p w2 s hp hI hw2 => ?_) (fun w2 s hI => ?_) ⟨rfl, i2, i3, fun q hq => by rw [a0]; exact i4 q hq⟩
    · obtain ⟨x, υ⟩ := s
      obtain ⟨j1, j2, j3, j4⟩ := hI
      simp only at j1 j2 j3 j4
      subst j1
      show wp (F_X12_spreads_27 _ _ _ w2 (nI p) υ) _
      unfold F_X12_spreads_27
      rw [if_neg (by rw [show (8 : Int32) = nI 8 from rfl, nI_lep (by omega)]; omega)]
      refine wp_for (fun r s => s.1 = nI r ∧ fr RTR [] σ s.2 ∧ WT 101 8 (wtS σ0 W ds sd P 10 k) s.2 ∧ WT 102 64 (aW p r) s.2) 10 (by decide) (fun r w3 s hr hI hw3 => ?_) (fun w3 s hI => ?_) ⟨rfl, j2, j3, j4⟩
      · obtain ⟨x, ω⟩ := s
        obtain ⟨l1, l2, l3, l4⟩ := hI
        simp only at l1 l2 l3 l4
        subst l1
        show wp (F_X12_spreads_37 w2 _ _ _ (nI p) w3 (nI r) ω) _
        have hBω := SBM_fr hB l2
        have bp := b2 p hp
        unfold F_X12_spreads_37 F_X12_spreads_122
        rw [if_neg (by rw [show (10 : Int32) = nI 10 from rfl, nI_lep (by omega)]; omega), gd_n (by omega), nI_cl (by omega), l3 p hp]
        by_cases q0 : wtS σ0 W ds sd P 10 k p = 0
        · rw [q0, if_pos (by rw [lg_cmp_le]; exact (show (0 : Int64) ≤ 0 by decide)), nm_s, nI_1]
          refine hw2 _ ⟨rfl, l2, l3, fun q hq => ?_⟩
          have z0 : ∀ n, sumN (tmW σ0 W g d s (wtS σ0 W ds sd P 10 k) q p) n = 0 := by
            intro n
            refine sumN_0 n (fun r _ => ?_)
            unfold tmW
            rw [q0]
            split <;> rfl
          rw [l4 q hq, ← aN, haW, haW, z0, z0]
        rw [if_neg (by rw [lg_cmp_le, show (0 : Int64) = lN 0 from rfl, lN_lep (by omega)]; omega)]
        refine wp_bd2 (T_movesTo (g := g) (h := p) (d := d) (s := s) (r := r) hL hBω.1 hW hBω.2.1 hp) (fun q a ha => ?_)
        obtain ⟨rfl, f1⟩ := ha
        have h8 : hrt σ0 W g d s p r < 8 := hrt_lt hp
        have y8 : syp σ0 W g d s p r < 8 := syp_lt hp
        have hBa := SBM_fr hBω (f1.mono (by decide))
        refine wp_bd2 (T_saysOf (g := g) (h := mvN σ0 W g p d s r) (d := d) (s := s) (r := r) hL hBa.1 hW hBa.2.1 h8) (fun q b hb => ?_)
        obtain ⟨rfl, f2⟩ := hb
        rw [show syN σ0 W g (mvN σ0 W g p d s r) d s r = syp σ0 W g d s p r from rfl, show mvN σ0 W g p d s r = hrt σ0 W g d s p r from rfl]
        have fb : fr RTR [] ω b := (f1.mono (by decide)).tr (f2.mono (by decide))
        have fL : ∀ c, c ∉ [88, 89] → b.2 c = ω.2 c := fun c hc => (f2.rowL hc).trans (f1.rowL hc)
        have m8 : ∀ a : Nat, (8 : Int32) * nI a = nI (8 * a) := fun a => pk_mul 8 a
        rw [m8, nI_add, gd_n (by omega), gd_n (by omega), gd_n (by omega), nI_cl (by omega), fL 102 (by decide), fL 101 (by decide), l4 _ (by omega), l3 p hp, lN_add, nm_s, nm_s, nI_1]
        refine hw3 _ ⟨rfl, (l2.tr fb).wL (by decide), fun p' hp' => ?_, fun q hq => ?_⟩
        · rw [zwrL_n (by decide), fL 101 (by decide)]
          exact l3 p' hp'
        · rw [zwrL_c, aS]
          unfold tmW
          by_cases y : q = 8 * syp σ0 W g d s p r + hrt σ0 W g d s p r
          · rw [y, pk_uLs, if_pos rfl]
          · rw [pk_uLn y, if_neg (by omega), Nat.add_zero, fL 102 (by decide)]
            exact l4 q hq
      · obtain ⟨x, ω⟩ := s
        obtain ⟨l1, l2, l3, l4⟩ := hI
        simp only at l1 l2 l3 l4
        subst l1
        show wp (F_X12_spreads_37 w2 _ _ _ (nI p) w3 (nI 10) ω) _
        unfold F_X12_spreads_37 F_X12_spreads_122
        rw [if_pos (show (10 : Int32) ≤ nI 10 by decide), nm_s, nI_1]
        exact hw2 _ ⟨rfl, l2, l3, fun q hq => by rw [l4 q hq, aN]⟩
    · obtain ⟨x, υ⟩ := s
      obtain ⟨j1, j2, j3, j4⟩ := hI
      simp only at j1 j2 j3 j4
      subst j1
      show wp (F_X12_spreads_27 _ _ _ w2 (nI 8) υ) _
      unfold F_X12_spreads_27
      rw [if_pos (show (8 : Int32) ≤ nI 8 by decide)]
      exact wp_some ⟨j2, j3, fun q hq => by rw [j4 q hq, a8]⟩
theorem T_weightsM {σ0 : zSt} {W : zWo} {ds sd : Nat → Nat} {P k : Nat} {σ : zSt} (hw0 : WT 101 8 (wtS σ0 W ds sd P 10 k) σ) : F_X12_weights σ = some (lN (sumN (wtS σ0 W ds sd P 10 k) 8), σ) := by
  unfold F_X12_weights F_X12_weights_0
  refine zfix_run (fun p => (lN (sumN (wtS σ0 W ds sd P 10 k) p), nI p, σ)) 8 (by decide) (fun p w hp => ?_) (fun w => ?_)
  · show F_X12_weights_4 w _ (nI p) σ = _
    unfold F_X12_weights_4
    rw [if_neg (by rw [show (8 : Int32) = nI 8 from rfl, nI_lep (by omega)]; omega), gd_n (by omega), nI_cl (by omega), hw0 p hp, lN_add, nm_s, nm_s, nI_1]
    rfl
  · show F_X12_weights_4 w _ (nI 8) σ = _
    unfold F_X12_weights_4
    rw [if_pos (show (8 : Int32) ≤ nI 8 by decide)]
theorem T_goes {σ0 : zSt} (hL : RLw σ0) {W : zWo} (hW : WOK W) {M : Nat} {ds sd : Nat → Nat} (hM : M ≤ 12) {P : Nat} (hP : P < 256) {σ : zSt} (hB : SBM σ0 W M ds sd σ) : wp (F_X12_goesThrough (nI P) σ) (fun a τ => a = lN (sumN (wtS σ0 W ds sd P 10 M) 8) ∧ fr RTR [] σ τ ∧ WT 101 8 (wtS σ0 W ds sd P 10 M) τ) := by
  have m6 : σ.1 69 6 = nI (wSai W) := hB.2.1.2.2.2.2.2.2.2.2.2.2.2.1
  unfold F_X12_goesThrough F_X12_goesThrough_0
  rw [m6]
  refine wp_for (fun z s => s.1 = nI z ∧ fr RTR [] σ s.2 ∧ WT 101 z (wtS σ0 W ds sd P 10 0) s.2) 8 (by decide) (fun z w s hz hI hw => ?_) (fun w s hI => ?_) ⟨rfl, fr.rf, fun q hq => absurd hq (Nat.not_lt_zero q)⟩
  · obtain ⟨x, τ⟩ := s
    obtain ⟨i1, i2, i3⟩ := hI
    simp only at i1 i2 i3
    subst i1
    show wp (F_X12_goesThrough_7 (nI P) _ w (nI z) τ) _
    have v : (if bI (P.testBit z = true) = 0 then (0 : Int64) else 1) = lN (wtS σ0 W ds sd P 10 0 z) := by
      show _ = lN (if P.testBit z = true then 1 else 0)
      by_cases q : P.testBit z = true
      · rw [bI_t q, if_neg (show ¬ (1 : Int32) = 0 by decide), if_pos q]
        rfl
      · rw [bI_f q, if_pos (show (0 : Int32) = 0 from rfl), if_neg q]
        rfl
    unfold F_X12_goesThrough_7
    rw [if_neg (by rw [show (8 : Int32) = nI 8 from rfl, nI_lep (by omega)]; omega), T_has (And.intro hP hz), bd_s, v, nm_s, gd_n (by omega), nI_cl (by omega), nm_s, nm_s, nI_1]
    refine hw _ ⟨rfl, i2.wL (by decide), fun q hq => ?_⟩
    rw [zwrL_c]
    by_cases y : q = z
    · rw [y, pk_uLs]
    · rw [pk_uLn y]
      exact i3 q (by omega)
  · obtain ⟨x, τ⟩ := s
    obtain ⟨i1, i2, i3⟩ := hI
    simp only at i1 i2 i3
    subst i1
    show wp (F_X12_goesThrough_7 (nI P) _ w (nI 8) τ) _
    unfold F_X12_goesThrough_7 F_X12_goesThrough_38
    rw [if_pos (show (8 : Int32) ≤ nI 8 by decide)]
    refine wp_for (fun k s => s.1 = nI (lsW W sd k) ∧ s.2.1 = nI k ∧ fr RTR [] σ s.2.2 ∧ WT 101 8 (wtS σ0 W ds sd P 10 k) s.2.2) M (by omega) (fun k w2 s hk hI hw2 => ?_) (fun w2 s hI => ?_) ⟨rfl, rfl, i2, i3⟩
    · obtain ⟨x2, x3, υ⟩ := s
      obtain ⟨j1, j2, j3, j4⟩ := hI
      simp only at j1 j2 j3 j4
      subst j1 j2
      show wp (F_X12_goesThrough_40 w2 _ (nI k) υ) _
      have hBυ := SBM_fr hB j3
      have m4' : υ.1 69 4 = nI (wNig W) := hBυ.2.1.2.2.2.2.2.2.2.2.2.1
      obtain ⟨n1, n2, n3, n4⟩ := hBυ.2.2.1 k hk
      unfold F_X12_goesThrough_40
      rw [hBυ.2.2.2, if_neg (by rw [nI_lep (by omega)]; omega), gd_n (by omega), nI_cl (by omega), m4', nI_add, n1]
      refine wp_bd2 (T_spreads (g := wNig W + k) (d := ds k) (s := lsW W sd k) hL hW (by omega) hBυ j4) (fun _ ω hω => ?_)
      obtain ⟨f1, t1, t2⟩ := hω
      have hBω := SBM_fr hBυ f1
      rw [gd_n (by omega), (hBω.2.2.1 k hk).2.1, nm_s]
      refine wp_for (fun q s => s.1 = nI q ∧ fr RTR [] σ s.2 ∧ WT 101 q (wtS σ0 W ds sd P 10 (k + 1)) s.2 ∧ s.2.2 102 = ω.2 102) 8 (by decide) (fun q w3 s hq hI hw3 => ?_) (fun w3 s hI => ?_) ⟨rfl, j3.tr f1, fun q hq => absurd hq (Nat.not_lt_zero q), rfl⟩
      · obtain ⟨x4, κ⟩ := s
        obtain ⟨l1, l2, l3, l4⟩ := hI
        simp only at l1 l2 l3 l4
        subst l1
        show wp (F_X12_goesThrough_75 w2 (nI (sd k)) (nI k) w3 (nI q) κ) _
        unfold F_X12_goesThrough_75
        rw [if_neg (by rw [show (8 : Int32) = nI 8 from rfl, nI_lep (by omega)]; omega), show (8 : Int32) * nI (sd k) = nI (8 * sd k) from pk_mul 8 _, nI_add, gd_n (by omega), gd_n (by omega), nI_cl (by omega), nI_cl (by omega), l4, t2 _ (by omega), nm_s, nm_s, nI_1]
        refine hw3 _ ⟨rfl, l2.wL (by decide), fun p hp => ?_, ?_⟩
        · rw [zwrL_c]
          by_cases y : p = q
          · rw [y, pk_uLs]
            rfl
          · rw [pk_uLn y]
            exact l3 p (by omega)
        · rw [zwrL_n (by decide)]
          exact l4
      · obtain ⟨x4, κ⟩ := s
        obtain ⟨l1, l2, l3, l4⟩ := hI
        simp only at l1 l2 l3 l4
        subst l1
        show wp (F_X12_goesThrough_75 w2 (nI (sd k)) (nI k) w3 (nI 8) κ) _
        unfold F_X12_goesThrough_75 F_X12_goesThrough_107
        rw [if_pos (show (8 : Int32) ≤ nI 8 by decide), nm_s, nI_1]
        exact hw2 _ ⟨rfl, rfl, l2, l3⟩
    · obtain ⟨x2, x3, υ⟩ := s
      obtain ⟨j1, j2, j3, j4⟩ := hI
      simp only at j1 j2 j3 j4
      subst j1 j2
      show wp (F_X12_goesThrough_40 w2 _ (nI M) υ) _
      have hBυ := SBM_fr hB j3
      unfold F_X12_goesThrough_40 F_X12_goesThrough_113
      rw [hBυ.2.2.2, if_pos (by rw [nI_lep (by omega)]; omega), T_weightsM j4, bd_s]
      exact wp_some ⟨rfl, j3, j4⟩
theorem T_guessM {σ0 : zSt} (hL : RLw σ0) {W : zWo} (hW : WOK W) {M : Nat} {ds sd : Nat → Nat} (hM0 : 1 ≤ M) (hM : M ≤ 12) {P d : Nat} {σ : zSt} (hB : SBM σ0 W M ds sd σ) (hw0 : WT 101 8 (wtS σ0 W ds sd P 10 M) σ) : wp (F_X12_guessed (nI d) σ) (fun a τ => a = lN (gsW σ0 W (wNig W + M) d (lsW W sd M) (wtS σ0 W ds sd P 10 M) 10) ∧ fr RTR [] σ τ ∧ WT 101 8 (wtS σ0 W ds sd P 10 M) τ) := by
  have sp12 := spW_12 (σ0 := σ0) (W := W) (ds := ds) (sd := sd) (P := P) (D := 10) (k := M) (g := wNig W + M) (d := d) (s := lsW W sd M) (by decide) hM
  have m4' : σ.1 69 4 = nI (wNig W) := hB.2.1.2.2.2.2.2.2.2.2.2.1
  have hl : lsW W sd M = sd (M - 1) := if_neg (by omega)
  unfold F_X12_guessed F_X12_guessed_0
  rw [hB.2.2.2, show nI M - (1 : Int32) = nI (M - 1) from pk_sub (b := 1) hM0, gd_n (by omega), nI_cl (by omega), (hB.2.2.1 (M - 1) (by omega)).2.1, m4', nI_add, ← hl]
  refine wp_bd2 (T_spreads (g := wNig W + M) (d := d) (s := lsW W sd M) hL hW hM hB hw0) (fun _ υ hυ => ?_)
  obtain ⟨f1, t1, t2⟩ := hυ
  refine wp_for (fun a s => s.1 = lN (sumN (fun word => mxN (fun p => spW σ0 W (wNig W + M) d (lsW W sd M) (wtS σ0 W ds sd P 10 M) 10 (8 * word + p)) 8) a) ∧ s.2.1 = nI a ∧ s.2.2 = υ) 8 (by decide) (fun a w3 s ha hI hw3 => ?_) (fun w3 s hI => ?_) ⟨rfl, rfl, rfl⟩
  · obtain ⟨y, x, ω⟩ := s
    obtain ⟨l1, l2, l3⟩ := hI
    simp only at l1 l2 l3
    subst l1 l2 l3
    show wp (F_X12_guessed_30 w3 _ (nI a) ω) _
    unfold F_X12_guessed_30
    rw [if_neg (by rw [show (8 : Int32) = nI 8 from rfl, nI_lep (by omega)]; omega)]
    have mxb : ∀ n, mxN (fun p => spW σ0 W (wNig W + M) d (lsW W sd M) (wtS σ0 W ds sd P 10 M) 10 (8 * a + p)) n ≤ 80000000000000 := fun n => mxN_le n (fun p _ => sp12 _)
    refine wp_for (fun p s => s.1 = lN (mxN (fun p => spW σ0 W (wNig W + M) d (lsW W sd M) (wtS σ0 W ds sd P 10 M) 10 (8 * a + p)) p) ∧ s.2.1 = nI p ∧ s.2.2 = ω) 8 (by decide) (fun p w4 s hp hI hw4 => ?_) (fun w4 s hI => ?_) ⟨rfl, rfl, rfl⟩
    · obtain ⟨y, x, κ⟩ := s
      obtain ⟨o1, o2, o3⟩ := hI
      simp only at o1 o2 o3
      subst o1 o2 o3
      show wp (F_X12_guessed_43 w3 _ (nI a) w4 _ (nI p) κ) _
      have s1 := sp12 (8 * a + p)
      have s2 := mxb p
      unfold F_X12_guessed_43 F_X12_guessed_87
      rw [if_neg (by rw [show (8 : Int32) = nI 8 from rfl, nI_lep (by omega)]; omega), show (8 : Int32) * nI a = nI (8 * a) from pk_mul 8 a, nI_add, gd_n (by omega), nI_cl (by omega), t2 _ (by omega), nm_s, nI_1]
      have nx : mxN (fun p => spW σ0 W (wNig W + M) d (lsW W sd M) (wtS σ0 W ds sd P 10 M) 10 (8 * a + p)) (p + 1) = if spW σ0 W (wNig W + M) d (lsW W sd M) (wtS σ0 W ds sd P 10 M) 10 (8 * a + p) < mxN (fun p => spW σ0 W (wNig W + M) d (lsW W sd M) (wtS σ0 W ds sd P 10 M) 10 (8 * a + p)) p then mxN (fun p => spW σ0 W (wNig W + M) d (lsW W sd M) (wtS σ0 W ds sd P 10 M) 10 (8 * a + p)) p else spW σ0 W (wNig W + M) d (lsW W sd M) (wtS σ0 W ds sd P 10 M) 10 (8 * a + p) := rfl
      by_cases q : spW σ0 W (wNig W + M) d (lsW W sd M) (wtS σ0 W ds sd P 10 M) 10 (8 * a + p) ≤ mxN (fun p => spW σ0 W (wNig W + M) d (lsW W sd M) (wtS σ0 W ds sd P 10 M) 10 (8 * a + p)) p
      · rw [if_pos (by rw [lg_cmp_le, lN_lep (by omega)]; exact q)]
        refine hw4 _ ⟨?_, rfl, rfl⟩
        rw [nx]
        by_cases r : spW σ0 W (wNig W + M) d (lsW W sd M) (wtS σ0 W ds sd P 10 M) 10 (8 * a + p) < mxN (fun p => spW σ0 W (wNig W + M) d (lsW W sd M) (wtS σ0 W ds sd P 10 M) 10 (8 * a + p)) p
        · rw [if_pos r]
        · rw [if_neg r]
          show lN _ = lN _
          congr 1
          omega
      · rw [if_neg (by rw [lg_cmp_le, lN_lep (by omega)]; exact q), gd_n (by omega), nm_s]
        refine hw4 _ ⟨?_, rfl, rfl⟩
        rw [nx, if_neg (by omega)]
    · obtain ⟨y, x, κ⟩ := s
      obtain ⟨o1, o2, o3⟩ := hI
      simp only at o1 o2 o3
      subst o1 o2 o3
      show wp (F_X12_guessed_43 w3 _ (nI a) w4 _ (nI 8) κ) _
      unfold F_X12_guessed_43 F_X12_guessed_95
      rw [if_pos (show (8 : Int32) ≤ nI 8 by decide), lN_add, nm_s, nm_s, nI_1]
      exact hw3 _ ⟨rfl, rfl, rfl⟩
  · obtain ⟨y, x, ω⟩ := s
    obtain ⟨l1, l2, l3⟩ := hI
    simp only at l1 l2 l3
    subst l1 l2 l3
    show wp (F_X12_guessed_30 w3 _ (nI 8) ω) _
    unfold F_X12_guessed_30
    rw [if_pos (show (8 : Int32) ≤ nI 8 by decide)]
    exact wp_some ⟨rfl, f1, t1⟩
