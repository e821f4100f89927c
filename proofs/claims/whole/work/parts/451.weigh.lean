/-! PURE: weights of places by a story -/
def sumN (f : Nat → Nat) : Nat → Nat
  | 0 => 0
  | n + 1 => sumN f n + f n
theorem sumN_c {f g : Nat → Nat} : ∀ n, (∀ k, k < n → f k = g k) → sumN f n = sumN g n := by
  intro n
  induction n with
  | zero => intro _; rfl
  | succ n ih =>
    intro h
    unfold sumN
    rw [ih (fun k hk => h k (by omega)), h n (Nat.lt_succ_self n)]
theorem sumN_0 {f : Nat → Nat} : ∀ n, (∀ k, k < n → f k = 0) → sumN f n = 0 := by
  intro n
  induction n with
  | zero => intro _; rfl
  | succ n ih =>
    intro h
    unfold sumN
    rw [ih (fun k hk => h k (by omega)), h n (Nat.lt_succ_self n)]
theorem sumN_mul {f : Nat → Nat} {c : Nat} : ∀ n, sumN (fun k => c * f k) n = c * sumN f n := by
  intro n
  induction n with
  | zero => rfl
  | succ n ih =>
    unfold sumN
    rw [ih, Nat.mul_add]
theorem sumN_add {f g : Nat → Nat} : ∀ n, sumN (fun k => f k + g k) n = sumN f n + sumN g n := by
  intro n
  induction n with
  | zero => rfl
  | succ n ih =>
    unfold sumN
    rw [ih]
    omega
theorem sumN_le {f g : Nat → Nat} : ∀ n, (∀ k, k < n → f k ≤ g k) → sumN f n ≤ sumN g n := by
  intro n
  induction n with
  | zero => intro _; exact Nat.le_refl _
  | succ n ih =>
    intro h
    unfold sumN
    exact Nat.add_le_add (ih (fun k hk => h k (by omega))) (h n (Nat.lt_succ_self n))
theorem sumN_ex (f : Nat → Nat → Nat) (m : Nat) : ∀ n, sumN (fun q => sumN (fun p => f q p) m) n = sumN (fun p => sumN (fun q => f q p) n) m := by
  intro n
  induction n with
  | zero =>
    refine (sumN_0 m (fun k _ => rfl)).symm
  | succ n ih =>
    rw [sumN, ih, ← sumN_add]
    rfl
theorem sumN_at {f : Nat → Nat} : ∀ n k, k < n → f k ≤ sumN f n := by
  intro n
  induction n with
  | zero => intro k h; omega
  | succ n ih =>
    intro k h
    unfold sumN
    by_cases q : k = n
    · rw [q]
      omega
    · have := ih k (by omega)
      omega
theorem sumN_const (c : Nat) : ∀ n, sumN (fun _ => c) n = n * c := by
  intro n
  induction n with
  | zero => rw [Nat.zero_mul]; rfl
  | succ n ih => rw [sumN, ih, Nat.succ_mul]
/-- one of the indices below n is met at most -/
theorem sumN_one (j w : Nat) : ∀ n, sumN (fun q => if j = q then w else 0) n = if j < n then w else 0 := by
  intro n
  induction n with
  | zero => rfl
  | succ n ih =>
    rw [sumN, ih]
    by_cases a : j < n
    · rw [if_pos a, if_neg (by omega), if_pos (by omega)]
      rfl
    · rw [if_neg a]
      by_cases b : j = n
      · rw [if_pos b, if_pos (by omega), Nat.zero_add]
      · rw [if_neg b, if_neg (by omega)]
/-- where the heart is, and what he says, by one place and one draw -/
noncomputable def hrt (σ0 : zSt) (W : zWo) (g d s p r : Nat) : Nat := mvN σ0 W g p d s r
noncomputable def syp (σ0 : zSt) (W : zWo) (g d s p r : Nat) : Nat := syN σ0 W g (mvN σ0 W g p d s r) d s r
noncomputable def tmW (σ0 : zSt) (W : zWo) (g d s : Nat) (wt : Nat → Nat) (idx p r : Nat) : Nat := if 8 * syp σ0 W g d s p r + hrt σ0 W g d s p r = idx then wt p else 0
/-- weights by what he says and where it is then, over D draws -/
noncomputable def spW (σ0 : zSt) (W : zWo) (g d s : Nat) (wt : Nat → Nat) (D idx : Nat) : Nat := sumN (fun p => sumN (tmW σ0 W g d s wt idx p) D) 8
theorem hrt_lt {σ0 : zSt} {W : zWo} {g d s p r : Nat} (hp : p < 8) : hrt σ0 W g d s p r < 8 := mvN_lt hp
theorem syp_lt {σ0 : zSt} {W : zWo} {g d s p r : Nat} (hp : p < 8) : syp σ0 W g d s p r < 8 := syN_lt (mvN_lt hp)
theorem spW_mul {σ0 : zSt} {W : zWo} {g d s : Nat} {wt wt' : Nat → Nat} {D idx c : Nat} (h : ∀ p, p < 8 → wt' p = c * wt p) : spW σ0 W g d s wt' D idx = c * spW σ0 W g d s wt D idx := by
  unfold spW
  rw [← sumN_mul]
  refine sumN_c 8 (fun p hp => ?_)
  rw [← sumN_mul]
  refine sumN_c D (fun r _ => ?_)
  unfold tmW
  split
  · exact h p hp
  · rw [Nat.mul_zero]
theorem spW_draw {σ0 : zSt} (hL : RLw σ0) (ha : σ0.1 8 8 = 0) {W : zWo} {g d s : Nat} {wt : Nat → Nat} {idx : Nat} : spW σ0 W g d s wt 10 idx = 10 * spW σ0 W g d s wt 1 idx := by
  unfold spW
  rw [← sumN_mul]
  refine sumN_c 8 (fun p _ => ?_)
  have e : ∀ r, tmW σ0 W g d s wt idx p r = tmW σ0 W g d s wt idx p 0 := by
    intro r
    unfold tmW syp hrt
    rw [mvN_draw (r := 0) (r' := r) hL ha, syN_draw (r := 0) (r' := r) hL ha]
  rw [sumN_c (g := fun _ => tmW σ0 W g d s wt idx p 0) 10 (fun r _ => e r), sumN_const, sumN, sumN, Nat.zero_add]
/-- all together they weigh no more than the draws make -/
theorem spW_sum {σ0 : zSt} {W : zWo} {g d s : Nat} {wt : Nat → Nat} {D : Nat} (s0 : Nat) : sumN (fun q => spW σ0 W g d s wt D (8 * s0 + q)) 8 ≤ D * sumN wt 8 := by
  have h1 : sumN (fun q => spW σ0 W g d s wt D (8 * s0 + q)) 8 = sumN (fun p => sumN (fun q => sumN (tmW σ0 W g d s wt (8 * s0 + q) p) D) 8) 8 := sumN_ex (fun q p => sumN (tmW σ0 W g d s wt (8 * s0 + q) p) D) 8 8
  rw [h1, ← sumN_mul]
  refine sumN_le 8 (fun p hp => ?_)
  rw [sumN_ex (fun q r => tmW σ0 W g d s wt (8 * s0 + q) p r) D 8]
  refine Nat.le_trans (sumN_le (g := fun _ => wt p) D (fun r _ => ?_)) (Nat.le_of_eq (sumN_const _ _))
  have e : sumN (fun q => tmW σ0 W g d s wt (8 * s0 + q) p r) 8 ≤ sumN (fun q => if hrt σ0 W g d s p r = q then wt p else 0) 8 := by
    refine sumN_le 8 (fun q hq => ?_)
    have h8 := hrt_lt (σ0 := σ0) (W := W) (g := g) (d := d) (s := s) (r := r) hp
    unfold tmW
    by_cases z : hrt σ0 W g d s p r = q
    · rw [if_pos z]
      split <;> omega
    · rw [if_neg z, if_neg (by omega)]
      exact Nat.le_refl 0
  refine Nat.le_trans e ?_
  rw [sumN_one]
  split <;> omega
/-- the weights behind k nights, with D draws a night -/
noncomputable def lsW (W : zWo) (sd : Nat → Nat) (k : Nat) : Nat := if k = 0 then wSai W else sd (k - 1)
noncomputable def wtS (σ0 : zSt) (W : zWo) (ds sd : Nat → Nat) (P D : Nat) : Nat → Nat → Nat
  | 0, p => if P.testBit p then 1 else 0
  | k + 1, q => spW σ0 W (wNig W + k) (ds k) (lsW W sd k) (wtS σ0 W ds sd P D k) D (8 * sd k + q)
theorem wtS_sum {σ0 : zSt} {W : zWo} {ds sd : Nat → Nat} {P D : Nat} (hD : D ≤ 10) : ∀ k, sumN (wtS σ0 W ds sd P D k) 8 ≤ 8 * 10 ^ k := by
  intro k
  induction k with
  | zero =>
    refine Nat.le_trans (sumN_le (g := fun _ => 1) 8 (fun p _ => ?_)) ?_
    · show (if P.testBit p = true then 1 else 0) ≤ 1
      split <;> omega
    · rw [sumN_const]
      decide
  | succ k ih =>
    refine Nat.le_trans (spW_sum (σ0 := σ0) (W := W) (g := wNig W + k) (d := ds k) (s := lsW W sd k) (wt := wtS σ0 W ds sd P D k) (D := D) (sd k)) ?_
    refine Nat.le_trans (Nat.mul_le_mul hD ih) ?_
    rw [Nat.pow_succ]
    omega
theorem pow10_12 {k : Nat} (h : k ≤ 12) : 10 ^ k ≤ 1000000000000 := by
  have a : 10 ^ k ≤ 10 ^ 12 := Nat.pow_le_pow_right (by decide) h
  have b : (10 : Nat) ^ 12 = 1000000000000 := by decide
  omega
theorem wtS_12 {σ0 : zSt} {W : zWo} {ds sd : Nat → Nat} {P D k : Nat} (hD : D ≤ 10) (hk : k ≤ 12) : sumN (wtS σ0 W ds sd P D k) 8 ≤ 8000000000000 ∧ ∀ p, p < 8 → wtS σ0 W ds sd P D k p ≤ 8000000000000 := by
  have a := wtS_sum (σ0 := σ0) (W := W) (ds := ds) (sd := sd) (P := P) (D := D) hD k
  have b := pow10_12 hk
  have c : sumN (wtS σ0 W ds sd P D k) 8 ≤ 8000000000000 := by omega
  refine ⟨c, fun p hp => ?_⟩
  have := sumN_at (f := wtS σ0 W ds sd P D k) 8 p hp
  omega
/-- all draws of one night weigh at most that -/
theorem spW_12 {σ0 : zSt} {W : zWo} {ds sd : Nat → Nat} {P D k g d s : Nat} (hD : D ≤ 10) (hk : k ≤ 12) : ∀ idx, spW σ0 W g d s (wtS σ0 W ds sd P D k) D idx ≤ 80000000000000 := by
  intro idx
  have h := (wtS_12 (σ0 := σ0) (W := W) (ds := ds) (sd := sd) (P := P) (D := D) hD hk).1
  have h2 : spW σ0 W g d s (wtS σ0 W ds sd P D k) D idx ≤ D * sumN (wtS σ0 W ds sd P D k) 8 := by
    unfold spW
    rw [← sumN_mul]
    refine sumN_le 8 (fun p _ => ?_)
    rw [← sumN_const]
    refine sumN_le D (fun r _ => ?_)
    unfold tmW
    split <;> omega
  have h3 : D * sumN (wtS σ0 W ds sd P D k) 8 ≤ 10 * 8000000000000 := Nat.mul_le_mul hD h
  omega
/-- the draws that the class makes -/
def DR (σ0 : zSt) (D K : Nat) : Prop := (D = 10 ∧ K = 1 ∧ ¬ σ0.1 8 8 = 0) ∨ (D = 1 ∧ K = 10 ∧ σ0.1 8 8 = 0)
theorem spW_DR {σ0 : zSt} (hL : RLw σ0) {D K : Nat} (h : DR σ0 D K) {W : zWo} {g d s : Nat} {wt : Nat → Nat} {idx : Nat} : spW σ0 W g d s wt 10 idx = K * spW σ0 W g d s wt D idx := by
  rcases h with ⟨rfl, rfl, -⟩ | ⟨rfl, rfl, ha⟩
  · rw [Nat.one_mul]
  · exact spW_draw hL ha
theorem wtS_DR {σ0 : zSt} (hL : RLw σ0) {D K : Nat} (h : DR σ0 D K) {W : zWo} {ds sd : Nat → Nat} {P : Nat} : ∀ k p, wtS σ0 W ds sd P 10 k p = K ^ k * wtS σ0 W ds sd P D k p := by
  intro k
  induction k with
  | zero => intro p; rw [Nat.pow_zero, Nat.one_mul]; rfl
  | succ k ih =>
    intro p
    show spW σ0 W (wNig W + k) (ds k) (lsW W sd k) (wtS σ0 W ds sd P 10 k) 10 (8 * sd k + p) = K ^ (k + 1) * spW σ0 W (wNig W + k) (ds k) (lsW W sd k) (wtS σ0 W ds sd P D k) D (8 * sd k + p)
    rw [spW_mul (wt := wtS σ0 W ds sd P D k) (c := K ^ k) (fun p _ => ih p), spW_DR hL h, Nat.pow_succ, Nat.mul_assoc]
theorem DR_b {σ0 : zSt} {D K : Nat} (h : DR σ0 D K) : D ≤ 10 ∧ 0 < D ∧ 0 < K ∧ K ≤ 10 ∧ K * D = 10 := by
  rcases h with ⟨rfl, rfl, -⟩ | ⟨rfl, rfl, -⟩
  · decide
  · decide
theorem DR_ex {σ0 : zSt} : ∃ D K, DR σ0 D K := by
  by_cases h : σ0.1 8 8 = 0
  · exact ⟨1, 10, Or.inr ⟨rfl, rfl, h⟩⟩
  · exact ⟨10, 1, Or.inl ⟨rfl, rfl, h⟩⟩
theorem T_draws {σ0 σ : zSt} {D K : Nat} (h : DR σ0 D K) (e : σ.1 8 8 = σ0.1 8 8) : F_X6_draws σ = some (nI D, σ) := by
  unfold F_X6_draws F_X6_draws_0
  rw [e]
  rcases h with ⟨rfl, rfl, ha⟩ | ⟨rfl, rfl, ha⟩
  · rw [if_neg ha]
    rfl
  · rw [if_pos ha]
    rfl
/-! the class -/
theorem T_turnTo {W : zWo} {σ : zSt} {ds sd : Nat → Nat} {M k : Nat} (hC : EC 1 2 W σ) (hW : WOK W) (hA : NGT 58 59 M ds sd σ) (hM : M ≤ 12) (hk : k ≤ M) : wp (F_X6_turnTo (nI k) σ) (fun _ τ => fr [24] [] σ τ ∧ τ.1 24 4 = nI (wNig W + k) ∧ τ.1 24 5 = nI (lsW W sd k)) := by
  have c9 : σ.1 1 9 = nI (wNig W) := hC.2.2.2.2.2.2.2.2.2.1
  have c11 : σ.1 1 11 = nI (wSai W) := hC.2.2.2.2.2.2.2.2.2.2.2.1
  have fin : ∀ a b : Nat, wp (F_X6_turnTo_41 (nI b) (nI a) σ) (fun _ τ => fr [24] [] σ τ ∧ τ.1 24 4 = nI a ∧ τ.1 24 5 = nI b) := by
    intro a b
    unfold F_X6_turnTo_41 F_X3_turnTo F_X3_turnTo_0
    rw [nm_s, nm_s, bd_s]
    refine wp_some ⟨(fr_w (Or.inl (by decide))).w (Or.inl (by decide)), ?_, zwr_at⟩
    rw [zwr_ne (Or.inr (by decide)), zwr_at]
  unfold F_X6_turnTo F_X6_turnTo_0 F_X6_turnTo_34 lsW
  rw [c9, nI_add, c11]
  by_cases q : k = 0
  · subst q
    rw [if_pos (show nI 0 ≤ 0 by decide), if_pos rfl]
    exact fin _ _
  · rw [if_neg (nI_nle (by omega) (by omega)), if_neg (by rw [show (12 : Int32) = nI 12 from rfl, nI_ltp (by omega)]; omega), show nI k - (1 : Int32) = nI (k - 1) from pk_sub (b := 1) (by omega), gd_n (by omega), nI_cl (by omega), (hA (k - 1) (by omega)).2.1, if_neg q]
    exact fin _ _
/-- what the class's story rests on -/
def SB (σ0 : zSt) (W : zWo) (M : Nat) (ds sd : Nat → Nat) (σ : zSt) : Prop := eqOn rowsL slotsL σ0 σ ∧ EC 1 2 W σ ∧ NGT 58 59 M ds sd σ ∧ σ.1 57 5 = nI M
theorem SB_fr {σ0 : zSt} {W : zWo} {M : Nat} {ds sd : Nat → Nat} {σ τ : zSt} (h : SB σ0 W M ds sd σ) (f : fr [16, 24, 25, 60, 61, 62] [] σ τ) : SB σ0 W M ds sd τ := ⟨h.1.tr (f.eqOn (by decide)), f.EC (by decide) h.2.1, NGT_fr h.2.2.1 f (by decide) (by decide), (f.rd (by decide) (by decide)).trans h.2.2.2⟩
theorem acc_s {f : Nat → Nat} {a : Nat} {r : Nat} : a + sumN f (r + 1) = a + sumN f r + f r := by
  rw [sumN]
  omega
/-- the state of a row of weights -/
def WT (c n : Nat) (wt : Nat → Nat) (σ : zSt) : Prop := ∀ p, p < n → σ.2 c p = lN (wt p)
theorem T_weighNight {σ0 : zSt} (hL : RLw σ0) {W : zWo} (hW : WOK W) {M : Nat} {ds sd : Nat → Nat} (hM : M ≤ 12) {D K : Nat} (hDR : DR σ0 D K) {P k : Nat} (hk : k < M) {σ : zSt} (hB : SB σ0 W M ds sd σ) (hw0 : WT 60 8 (wtS σ0 W ds sd P D k) σ) : wp (F_X6_weighNight (nI k) σ) (fun _ τ => fr [16, 24, 25, 60, 61, 62] [] σ τ ∧ WT 60 8 (wtS σ0 W ds sd P D (k + 1)) τ) := by
  obtain ⟨D1, D2, K1, K2, KD⟩ := DR_b hDR
  obtain ⟨b1, b2⟩ := wtS_12 (σ0 := σ0) (W := W) (ds := ds) (sd := sd) (P := P) (D := D) (k := k) D1 (by omega)
  have sp12 := spW_12 (σ0 := σ0) (W := W) (ds := ds) (sd := sd) (P := P) (D := D) (k := k) (g := wNig W + k) (d := ds k) (s := lsW W sd k) D1 (by omega)
  obtain ⟨e58, e59, d8, s8⟩ := hB.2.2.1 k hk
  -- what has come to place q by places below p and draws below r
  have aW : ∃ aW : Nat → Nat → Nat → Nat, (∀ p r q, aW p r q = sumN (fun p => sumN (tmW σ0 W (wNig W + k) (ds k) (lsW W sd k) (wtS σ0 W ds sd P D k) (8 * sd k + q) p) D) p + sumN (tmW σ0 W (wNig W + k) (ds k) (lsW W sd k) (wtS σ0 W ds sd P D k) (8 * sd k + q) p) r) := ⟨_, fun _ _ _ => rfl⟩
  obtain ⟨aW, haW⟩ := aW
  have a0 : ∀ q, aW 0 0 q = 0 := fun q => by rw [haW]; rfl
  have aN : ∀ p q, aW p D q = aW (p + 1) 0 q := fun p q => by
    rw [haW, haW]
    rfl
  have a8 : ∀ q, aW 8 0 q = wtS σ0 W ds sd P D (k + 1) q := fun q => by
    rw [haW]
    rfl
  have aS : ∀ p r q, aW p (r + 1) q = aW p r q + tmW σ0 W (wNig W + k) (ds k) (lsW W sd k) (wtS σ0 W ds sd P D k) (8 * sd k + q) p r := fun p r q => by
    rw [haW, haW]
    exact acc_s
  unfold F_X6_weighNight F_X6_weighNight_0
  refine wp_for (fun z s => s.1 = nI z ∧ fr [16, 24, 25, 60, 61, 62] [] σ s.2 ∧ WT 60 8 (wtS σ0 W ds sd P D k) s.2 ∧ WT 61 z (fun _ => 0) s.2) 8 (by decide) (fun z w s hz hI hw => ?_) (fun w s hI => ?_) ⟨rfl, fr.rf, hw0, fun q hq => absurd hq (Nat.not_lt_zero q)⟩
  · obtain ⟨x, τ⟩ := s
    obtain ⟨i1, i2, i3, i4⟩ := hI
    simp only at i1 i2 i3 i4
    subst i1
    show wp (F_X6_weighNight_2 (nI k) w (nI z) τ) _
    unfold F_X6_weighNight_2
    rw [if_neg (by rw [show (8 : Int32) = nI 8 from rfl, nI_lep (by omega)]; omega), gd_n (by omega), nI_cl (by omega), nm_s, nm_s, nI_1]
    refine hw _ ⟨rfl, i2.wL (by decide), fun p hp => ?_, fun q hq => ?_⟩
    · rw [zwrL_n (by decide)]
      exact i3 p hp
    · rw [zwrL_c]
      by_cases y : q = z
      · rw [y, pk_uLs]
        rfl
      · rw [pk_uLn y]
        exact i4 q (by omega)
  · obtain ⟨x, τ⟩ := s
    obtain ⟨i1, i2, i3, i4⟩ := hI
    simp only at i1 i2 i3 i4
    subst i1
    show wp (F_X6_weighNight_2 (nI k) w (nI 8) τ) _
    unfold F_X6_weighNight_2 F_X6_weighNight_21
    rw [if_pos (show (8 : Int32) ≤ nI 8 by decide)]
    refine wp_for (fun p s => s.1 = nI p ∧ fr [16, 24, 25, 60, 61, 62] [] σ s.2 ∧ WT 60 8 (wtS σ0 W ds sd P D k) s.2 ∧ WT 61 8 (aW p 0) s.2) 8 (by decide) (fun p w2 s hp hI hw2 => ?_) (fun w2 s hI => ?_) ⟨rfl, i2, i3, fun q hq => by rw [a0]; exact i4 q hq⟩
    · obtain ⟨x, υ⟩ := s
      obtain ⟨j1, j2, j3, j4⟩ := hI
      simp only at j1 j2 j3 j4
      subst j1
      show wp (F_X6_weighNight_23 (nI k) w2 (nI p) υ) _
      unfold F_X6_weighNight_23
      rw [if_neg (by rw [show (8 : Int32) = nI 8 from rfl, nI_lep (by omega)]; omega)]
      refine wp_for (fun r s => s.1 = nI r ∧ fr [16, 24, 25, 60, 61, 62] [] σ s.2 ∧ WT 60 8 (wtS σ0 W ds sd P D k) s.2 ∧ WT 61 8 (aW p r) s.2) D (by omega) (fun r w3 s hr hI hw3 => ?_) (fun w3 s hI => ?_) ⟨rfl, j2, j3, j4⟩
      · obtain ⟨x, ω⟩ := s
        obtain ⟨l1, l2, l3, l4⟩ := hI
        simp only at l1 l2 l3 l4
        subst l1
        show wp (F_X6_weighNight_31 w2 (nI k) (nI p) w3 (nI r) ω) _
        have hBω := SB_fr hB l2
        have bp := b2 p hp
        unfold F_X6_weighNight_31 F_X6_weighNight_128
        rw [T_draws hDR (hBω.1.2 (8, 8) (by decide)), bd_s, if_neg (by rw [nI_lep (by omega)]; omega), gd_n (by omega), nI_cl (by omega), l3 p hp]
        by_cases q0 : wtS σ0 W ds sd P D k p = 0
        · rw [q0, if_pos (by rw [lg_cmp_le]; exact (show (0 : Int64) ≤ 0 by decide)), nm_s, nI_1]
          refine hw2 _ ⟨rfl, l2, l3, fun q hq => ?_⟩
          have z0 : ∀ n, sumN (tmW σ0 W (wNig W + k) (ds k) (lsW W sd k) (wtS σ0 W ds sd P D k) (8 * sd k + q) p) n = 0 := by
            intro n
            refine sumN_0 n (fun r _ => ?_)
            unfold tmW
            rw [q0]
            split <;> rfl
          rw [l4 q hq, ← aN, haW, haW, z0, z0]
        rw [if_neg (by rw [lg_cmp_le, show (0 : Int64) = lN 0 from rfl, lN_lep (by omega)]; omega)]
        refine wp_bd2 (T_turnTo hBω.2.1 hW hBω.2.2.1 hM (by omega)) (fun _ a ha => ?_)
        obtain ⟨f1, t4, t5⟩ := ha
        have hBa := SB_fr hBω (f1.mono (by decide))
        rw [gd_n (by omega), nI_cl (by omega), (hBa.2.2.1 k hk).1]
        refine wp_bd2 (T_passFrom (g := wNig W + k) (h := p) (d := ds k) (s := lsW W sd k) (r := r) hL hBa.1 hW hBa.2.1 hp t4 t5) (fun _ b hb => ?_)
        obtain ⟨f2, u3, u4, u5, u6⟩ := hb
        have fb : fr [16, 24, 25, 60, 61, 62] [] ω b := (f1.mono (by decide)).tr (f2.mono (by decide))
        have hBb := SB_fr hBω fb
        have fL : ∀ c, c ∉ [16, 24, 25] → b.2 c = ω.2 c := fun c hc => (f2.rowL hc).trans (f1.rowL (fun z => hc (by revert z; simp; intro z; exact Or.inr (Or.inl z))))
        have h8 : hrt σ0 W (wNig W + k) (ds k) (lsW W sd k) p r < 8 := hrt_lt hp
        have y8 : syp σ0 W (wNig W + k) (ds k) (lsW W sd k) p r < 8 := syp_lt hp
        replace u3 : b.1 24 3 = nI (hrt σ0 W (wNig W + k) (ds k) (lsW W sd k) p r) := u3
        replace u5 : b.1 24 5 = nI (syp σ0 W (wNig W + k) (ds k) (lsW W sd k) p r) := u5
        rw [gd_n (by omega), u5, (hBb.2.2.1 k hk).2.1, if_eqI (by omega)]
        unfold F_X6_weighNight_122
        by_cases qs : syp σ0 W (wNig W + k) (ds k) (lsW W sd k) p r = sd k
        · have hb8 : bel (nI (hrt σ0 W (wNig W + k) (ds k) (lsW W sd k) p r)) 8 := bel_t (by omega)
          rw [if_pos qs, u3, T_isBelow_8, bd_s, bI_t hb8, if_neg (show ¬ (1 : Int32) = 0 by decide), u3, gd_n (by omega), gd_n (by omega), gd_n (by omega), nI_cl (by omega), fL 61 (by decide), fL 60 (by decide), l4 _ h8, l3 p hp, lN_add, nm_s, nm_s, nI_1]
          refine hw3 _ ⟨rfl, (l2.tr fb).wL (by decide), fun p' hp' => ?_, fun q hq => ?_⟩
          · rw [zwrL_n (by decide), fL 60 (by decide)]
            exact l3 p' hp'
          · rw [zwrL_c, aS]
            unfold tmW
            rw [qs]
            by_cases y : q = hrt σ0 W (wNig W + k) (ds k) (lsW W sd k) p r
            · rw [y, pk_uLs, if_pos rfl]
            · rw [pk_uLn y, if_neg (by omega), Nat.add_zero, fL 61 (by decide)]
              exact l4 q hq
        · rw [if_neg qs, nm_s, nI_1]
          refine hw3 _ ⟨rfl, l2.tr fb, fun p' hp' => ?_, fun q hq => ?_⟩
          · rw [fL 60 (by decide)]
            exact l3 p' hp'
          · rw [fL 61 (by decide), aS]
            unfold tmW
            rw [if_neg (by omega), Nat.add_zero]
            exact l4 q hq
      · obtain ⟨x, ω⟩ := s
        obtain ⟨l1, l2, l3, l4⟩ := hI
        simp only at l1 l2 l3 l4
        subst l1
        show wp (F_X6_weighNight_31 w2 (nI k) (nI p) w3 (nI D) ω) _
        have hBω := SB_fr hB l2
        unfold F_X6_weighNight_31 F_X6_weighNight_128
        rw [T_draws hDR (hBω.1.2 (8, 8) (by decide)), bd_s, if_pos (by rw [nI_lep (by omega)]; omega), nm_s, nI_1]
        exact hw2 _ ⟨rfl, l2, l3, fun q hq => by rw [l4 q hq, aN]⟩
    · obtain ⟨x, υ⟩ := s
      obtain ⟨j1, j2, j3, j4⟩ := hI
      simp only at j1 j2 j3 j4
      subst j1
      show wp (F_X6_weighNight_23 (nI k) w2 (nI 8) υ) _
      unfold F_X6_weighNight_23 F_X6_weighNight_134
      rw [if_pos (show (8 : Int32) ≤ nI 8 by decide), nm_s]
      refine wp_some ⟨j2.zL (by decide), fun p hp => ?_⟩
      rw [zrowL_c, pk_cpy_in (Nat.zero_le p) (by omega), Nat.zero_add, Nat.sub_zero, j4 p hp, a8]
theorem T_weigh {σ0 : zSt} (hL : RLw σ0) {W : zWo} (hW : WOK W) {M : Nat} {ds sd : Nat → Nat} (hM : M ≤ 12) {D K : Nat} (hDR : DR σ0 D K) {P : Nat} (hP : P < 256) {σ : zSt} (hB : SB σ0 W M ds sd σ) : wp (F_X6_weigh (nI P) σ) (fun a τ => a = lN (sumN (wtS σ0 W ds sd P D M) 8) ∧ fr [16, 24, 25, 60, 61, 62] [] σ τ ∧ WT 60 8 (wtS σ0 W ds sd P D M) τ) := by
  obtain ⟨D1, D2, K1, K2, KD⟩ := DR_b hDR
  unfold F_X6_weigh F_X6_weigh_0
  refine wp_for (fun z s => s.1 = nI z ∧ fr [16, 24, 25, 60, 61, 62] [] σ s.2 ∧ WT 60 z (wtS σ0 W ds sd P D 0) s.2) 8 (by decide) (fun z w s hz hI hw => ?_) (fun w s hI => ?_) ⟨rfl, fr.rf, fun q hq => absurd hq (Nat.not_lt_zero q)⟩
  · obtain ⟨x, τ⟩ := s
    obtain ⟨i1, i2, i3⟩ := hI
    simp only at i1 i2 i3
    subst i1
    show wp (F_X6_weigh_2 (nI P) w (nI z) τ) _
    unfold F_X6_weigh_2
    have l1 : (P.testBit z).toNat ≤ 1 := Bool.toNat_le _
    rw [if_neg (by rw [show (8 : Int32) = nI 8 from rfl, nI_lep (by omega)]; omega), gd_n (by omega), nI_cl (by omega), bit_01 P hP z hz, nI_l (by omega), nm_s, nm_s, nI_1]
    refine hw _ ⟨rfl, i2.wL (by decide), fun q hq => ?_⟩
    rw [zwrL_c]
    by_cases y : q = z
    · rw [y, pk_uLs]
      show lN (P.testBit z).toNat = lN (if P.testBit z = true then 1 else 0)
      cases P.testBit z <;> rfl
    · rw [pk_uLn y]
      exact i3 q (by omega)
  · obtain ⟨x, τ⟩ := s
    obtain ⟨i1, i2, i3⟩ := hI
    simp only at i1 i2 i3
    subst i1
    show wp (F_X6_weigh_2 (nI P) w (nI 8) τ) _
    unfold F_X6_weigh_2 F_X6_weigh_26
    rw [if_pos (show (8 : Int32) ≤ nI 8 by decide)]
    refine wp_for (fun k s => s.1 = nI k ∧ fr [16, 24, 25, 60, 61, 62] [] σ s.2 ∧ WT 60 8 (wtS σ0 W ds sd P D k) s.2) M (by omega) (fun k w2 s hk hI hw2 => ?_) (fun w2 s hI => ?_) ⟨rfl, i2, i3⟩
    · obtain ⟨x, υ⟩ := s
      obtain ⟨j1, j2, j3⟩ := hI
      simp only at j1 j2 j3
      subst j1
      show wp (F_X6_weigh_28 w2 (nI k) υ) _
      have hBυ := SB_fr hB j2
      unfold F_X6_weigh_28
      rw [hBυ.2.2.2, if_neg (by rw [nI_lep (by omega)]; omega), if_neg (by rw [show (12 : Int32) = nI 12 from rfl, nI_lep (by omega)]; omega)]
      refine wp_bd2 (T_weighNight hL hW hM hDR hk hBυ j3) (fun _ ω hω => ?_)
      rw [nm_s, nI_1]
      exact hw2 _ ⟨rfl, j2.tr hω.1, hω.2⟩
    · obtain ⟨x, υ⟩ := s
      obtain ⟨j1, j2, j3⟩ := hI
      simp only at j1 j2 j3
      subst j1
      show wp (F_X6_weigh_28 w2 (nI M) υ) _
      have hBυ := SB_fr hB j2
      unfold F_X6_weigh_28 F_X6_weigh_53
      rw [hBυ.2.2.2, if_pos (by rw [nI_lep (by omega)]; omega)]
      refine wp_for (fun p s => s.1 = lN (sumN (wtS σ0 W ds sd P D M) p) ∧ s.2.1 = nI p ∧ s.2.2 = υ) 8 (by decide) (fun p w3 s hp hI hw3 => ?_) (fun w3 s hI => ?_) ⟨rfl, rfl, rfl⟩
      · obtain ⟨y, x, ω⟩ := s
        obtain ⟨l1, l2, l3⟩ := hI
        simp only at l1 l2 l3
        subst l1 l2 l3
        show wp (F_X6_weigh_58 w3 _ (nI p) ω) _
        unfold F_X6_weigh_58
        rw [if_neg (by rw [show (8 : Int32) = nI 8 from rfl, nI_lep (by omega)]; omega), gd_n (by omega), nI_cl (by omega), j3 p hp, lN_add, nm_s, nm_s, nI_1]
        exact hw3 _ ⟨rfl, rfl, rfl⟩
      · obtain ⟨y, x, ω⟩ := s
        obtain ⟨l1, l2, l3⟩ := hI
        simp only at l1 l2 l3
        subst l1 l2 l3
        show wp (F_X6_weigh_58 w3 _ (nI 8) ω) _
        unfold F_X6_weigh_58
        rw [if_pos (show (8 : Int32) ≤ nI 8 by decide)]
        exact wp_some ⟨rfl, j2, j3⟩
