/-! PURE: common divisors, lots -/
theorem lN_eqp {a b : Nat} (h : a < 9223372036854775808 ∧ b < 9223372036854775808) : (lN a = lN b) = (a = b) := propext (pk_lEQ h.1 h.2)
theorem lN_lep {a b : Nat} (h : a < 9223372036854775808 ∧ b < 9223372036854775808) : (lN a ≤ lN b) = (a ≤ b) := propext (pk_lLE h.1 h.2)
theorem lN_ltp {a b : Nat} (h : a < 9223372036854775808 ∧ b < 9223372036854775808) : (lN a < lN b) = (a < b) := propext (pk_lLT h.1 h.2)
theorem lN_mod {a b : Nat} (h : a < 9223372036854775808 ∧ 0 < b ∧ b < 9223372036854775808) : lN a % lN b = lN (a % b) := by
  have h2 : a % b < b := Nat.mod_lt _ h.2.1
  apply Int64.toInt_inj.mp
  rw [Int64.toInt_mod, pk_lT h.1, pk_lT h.2.2, pk_lT (by omega)]
  rfl
theorem mod_half {y r : Nat} (h0 : 0 < r) (h : r < y) : 2 * (y % r) < y := by
  have h1 : y % r < r := Nat.mod_lt _ h0
  have h2 := Nat.div_add_mod y r
  have h3 : 1 ≤ y / r := (Nat.one_le_div_iff h0).mpr (Nat.le_of_lt h)
  have h4 : r * 1 ≤ r * (y / r) := Nat.mul_le_mul_left r h3
  omega
theorem T_gcdM {σ : zSt} : ∀ k x y f, x < 9223372036854775808 → y < 9223372036854775808 → y < 2 ^ k → 2 * k < f → zfix F_X12_gcd_6L f (lN x, lN y, σ) = some (lN (Nat.gcd x y), σ) := by
  have z : ∀ x f, x < 9223372036854775808 → 0 < f → zfix F_X12_gcd_6L f (lN x, lN 0, σ) = some (lN (Nat.gcd x 0), σ) := by
    intro x f hx hf
    obtain ⟨f, rfl⟩ : ∃ q, f = q + 1 := ⟨f - 1, by omega⟩
    show F_X12_gcd_6 (zfix F_X12_gcd_6L f) (lN x) (lN 0) σ = _
    unfold F_X12_gcd_6
    rw [if_pos ((lg_cmp_eq _ _).mpr (show lN 0 = 0 from rfl)), Nat.gcd_zero_right]
  have st : ∀ x y f, x < 9223372036854775808 → y < 9223372036854775808 → 0 < y → zfix F_X12_gcd_6L (f + 1) (lN x, lN y, σ) = zfix F_X12_gcd_6L f (lN y, lN (x % y), σ) := by
    intro x y f hx hy h0
    show F_X12_gcd_6 (zfix F_X12_gcd_6L f) (lN x) (lN y) σ = _
    have hne : ¬ lN y = 0 := by
      rw [show (0 : Int64) = lN 0 from rfl, lN_eqp (by omega)]
      omega
    unfold F_X12_gcd_6
    rw [if_neg (fun q => hne ((lg_cmp_eq _ _).mp q)), gd_t hne, nm_s, lN_mod (by omega)]
  intro k
  induction k with
  | zero =>
    intro x y f hx _ hy hf
    obtain rfl : y = 0 := by
      have : (2 : Nat) ^ 0 = 1 := rfl
      omega
    exact z x f hx (by omega)
  | succ k ih =>
    intro x y f hx hy63 hy hf
    by_cases q : y = 0
    · subst q
      exact z x f hx (by omega)
    obtain ⟨f, rfl⟩ : ∃ q, f = q + 1 := ⟨f - 1, by omega⟩
    rw [st x y f hx hy63 (by omega)]
    have hr : x % y < y := Nat.mod_lt _ (by omega)
    have e : Nat.gcd x y = Nat.gcd y (x % y) := by rw [Nat.gcd_comm x y, Nat.gcd_rec y x, Nat.gcd_comm]
    rw [e]
    by_cases r : x % y = 0
    · rw [r]
      exact z y f hy63 (by omega)
    obtain ⟨f, rfl⟩ : ∃ q, f = q + 1 := ⟨f - 1, by omega⟩
    rw [st y (x % y) f hy63 (by omega) (by omega)]
    have e2 : Nat.gcd y (x % y) = Nat.gcd (x % y) (y % (x % y)) := by rw [Nat.gcd_comm y (x % y), Nat.gcd_rec (x % y) y, Nat.gcd_comm]
    rw [e2]
    have hm := mod_half (y := y) (r := x % y) (by omega) hr
    have hp : 2 ^ (k + 1) = 2 * 2 ^ k := by rw [Nat.pow_succ, Nat.mul_comm]
    exact ih (x % y) (y % (x % y)) f (by omega) (by omega) (by omega) (by omega)
theorem T_gcd {σ : zSt} {x y : Nat} (hx : x < 9223372036854775808) (hy : y < 9223372036854775808) : F_X12_gcd (lN x) (lN y) σ = some (lN (Nat.gcd x y), σ) := by
  unfold F_X12_gcd F_X12_gcd_0
  exact T_gcdM 63 x y zlim hx hy (by rw [show (2 : Nat) ^ 63 = 9223372036854775808 by decide]; exact hy) (by show 126 < 1000000; decide)
theorem T_gcdC {σ : zSt} : ∀ k x y n f, x < 9223372036854775808 → y < 9223372036854775808 → y < 2 ^ k → n + 2 * k < 1000 → 2 * k < f → 0 < Nat.gcd x y → zfix F_X11_commonDivisor_9L f (lN x, lN y, nI n, σ) = some (lN (Nat.gcd x y), σ) := by
  have z : ∀ x n f, x < 9223372036854775808 → n < 1000 → 0 < f → 0 < Nat.gcd x 0 → zfix F_X11_commonDivisor_9L f (lN x, lN 0, nI n, σ) = some (lN (Nat.gcd x 0), σ) := by
    intro x n f hx hn hf hg
    obtain ⟨f, rfl⟩ : ∃ q, f = q + 1 := ⟨f - 1, by omega⟩
    show F_X11_commonDivisor_9 (zfix F_X11_commonDivisor_9L f) (lN x) (lN 0) (nI n) σ = _
    rw [Nat.gcd_zero_right] at hg ⊢
    unfold F_X11_commonDivisor_9 F_X11_commonDivisor_45
    rw [if_neg (by rw [show (1000 : Int32) = nI 1000 from rfl, nI_lep (by omega)]; omega), if_pos ((lg_cmp_eq _ _).mpr (show lN 0 = 0 from rfl)), if_neg (by rw [lg_cmp_le, show (0 : Int64) = lN 0 from rfl, lN_lep (by omega)]; omega)]
  have st : ∀ x y n f, x < 9223372036854775808 → y < 9223372036854775808 → 0 < y → n < 1000 → zfix F_X11_commonDivisor_9L (f + 1) (lN x, lN y, nI n, σ) = zfix F_X11_commonDivisor_9L f (lN y, lN (x % y), nI (n + 1), σ) := by
    intro x y n f hx hy h0 hn
    show F_X11_commonDivisor_9 (zfix F_X11_commonDivisor_9L f) (lN x) (lN y) (nI n) σ = _
    have hne : ¬ lN y = 0 := by
      rw [show (0 : Int64) = lN 0 from rfl, lN_eqp (by omega)]
      omega
    unfold F_X11_commonDivisor_9
    rw [if_neg (by rw [show (1000 : Int32) = nI 1000 from rfl, nI_lep (by omega)]; omega), if_neg (fun q => hne ((lg_cmp_eq _ _).mp q)), gd_t hne, nm_s, nm_s, lN_mod (by omega), nI_1]
  intro k
  induction k with
  | zero =>
    intro x y n f hx _ hy hn hf hg
    obtain rfl : y = 0 := by
      have : (2 : Nat) ^ 0 = 1 := rfl
      omega
    exact z x n f hx (by omega) (by omega) hg
  | succ k ih =>
    intro x y n f hx hy63 hy hn hf hg
    by_cases q : y = 0
    · subst q
      exact z x n f hx (by omega) (by omega) hg
    obtain ⟨f, rfl⟩ : ∃ q, f = q + 1 := ⟨f - 1, by omega⟩
    rw [st x y n f hx hy63 (by omega) (by omega)]
    have hr : x % y < y := Nat.mod_lt _ (by omega)
    have e : Nat.gcd x y = Nat.gcd y (x % y) := by rw [Nat.gcd_comm x y, Nat.gcd_rec y x, Nat.gcd_comm]
    rw [e] at hg ⊢
    by_cases r : x % y = 0
    · rw [r] at hg ⊢
      exact z y (n + 1) f hy63 (by omega) (by omega) hg
    obtain ⟨f, rfl⟩ : ∃ q, f = q + 1 := ⟨f - 1, by omega⟩
    rw [st y (x % y) (n + 1) f hy63 (by omega) (by omega) (by omega)]
    have e2 : Nat.gcd y (x % y) = Nat.gcd (x % y) (y % (x % y)) := by rw [Nat.gcd_comm y (x % y), Nat.gcd_rec (x % y) y, Nat.gcd_comm]
    rw [e2] at hg ⊢
    have hm := mod_half (y := y) (r := x % y) (by omega) hr
    have hp : 2 ^ (k + 1) = 2 * 2 ^ k := by rw [Nat.pow_succ, Nat.mul_comm]
    exact ih (x % y) (y % (x % y)) (n + 1 + 1) f (by omega) (by omega) (by omega) (by omega) (by omega) hg
theorem T_cdiv {σ : zSt} {x y : Nat} (hx : x < 9223372036854775808) (hy : y < 9223372036854775808) (hg : 0 < Nat.gcd x y) : F_X11_commonDivisor (lN x) (lN y) σ = some (lN (Nat.gcd x y), σ) := by
  unfold F_X11_commonDivisor F_X11_commonDivisor_0
  exact T_gcdC 63 x y 0 zlim hx hy (by rw [show (2 : Nat) ^ 63 = 9223372036854775808 by decide]; exact hy) (by decide) (by show 126 < 1000000; decide) hg
theorem T_through {σ : zSt} {x y : Nat} (hx : x < 9223372036854775808) (hy : y < 9223372036854775808) (hg : 0 < Nat.gcd x y) (q : Int32) : F_X12_through (lN x) (lN y) q σ = some ((if q = 0 then lN (x / Nat.gcd x y) else lN (y / Nat.gcd x y)), σ) := by
  unfold F_X12_through F_X12_through_0
  have hg2 : Nat.gcd x y < 9223372036854775808 := by
    rcases Nat.eq_zero_or_pos x with r | r
    · subst r
      rw [Nat.gcd_zero_left] at hg ⊢
      exact hy
    · have := Nat.gcd_le_left y r
      omega
  have hne : ¬ lN (Nat.gcd x y) = 0 := by
    rw [show (0 : Int64) = lN 0 from rfl, lN_eqp (by omega)]
    omega
  rw [T_gcd hx hy, bd_s]
  by_cases z : q = 0
  · rw [if_pos z, if_pos z, gd_t hne, pk_lDiv hx hg hg2]
  · rw [if_neg z, if_neg z, gd_t hne, pk_lDiv hy hg hg2]
theorem sb_lot : ∀ b, b < 256 → ((decide ((1 : Int) ≤ (sb b).toInt) && decide ((sb b).toInt ≤ 99)) = (decide (1 ≤ b) && decide (b ≤ 99))) := by decide +kernel
theorem sb_ok : ∀ b, b < 100 → sb b = nI b := by decide +kernel
theorem T_in_99 {x : Int32} {σ : zSt} : F_X12_in x 1 99 σ = some (bI ((1 : Int) ≤ x.toInt ∧ x.toInt ≤ 99), σ) := T_in
/-- all worths are such ones -/
def lotOK (tp : Nat → Nat) (N : Nat) : Prop := ∀ j, j < N → 1 ≤ tp j ∧ tp j ≤ 99
def lotP (tp : Nat → Nat) : Nat → Nat
  | 0 => 1
  | k + 1 => lotP tp k * tp k
def lotS (tp : Nat → Nat) (P : Nat) : Nat → Nat
  | 0 => 0
  | k + 1 => lotS tp P k + P / tp k
theorem lotP_b {tp : Nat → Nat} {N : Nat} (h : lotOK tp N) : ∀ k, k ≤ N → 1 ≤ lotP tp k ∧ lotP tp k ≤ 99 ^ k := by
  intro k
  induction k with
  | zero => intro _; exact ⟨Nat.le_refl 1, Nat.le_refl 1⟩
  | succ k ih =>
    intro hk
    obtain ⟨a, b⟩ := ih (by omega)
    obtain ⟨c, d⟩ := h k (by omega)
    unfold lotP
    refine ⟨Nat.mul_pos a c, ?_⟩
    rw [Nat.pow_succ]
    exact Nat.mul_le_mul b d
theorem lotP_6 {tp : Nat → Nat} {N : Nat} (h : lotOK tp N) (hN : N ≤ 6) {k : Nat} (hk : k ≤ N) : 1 ≤ lotP tp k ∧ lotP tp k ≤ 941480149401 := by
  obtain ⟨a, b⟩ := lotP_b h k hk
  have c : 99 ^ k ≤ 99 ^ 6 := Nat.pow_le_pow_right (by decide) (by omega)
  have d : (99 : Nat) ^ 6 = 941480149401 := by decide
  omega
theorem lotS_b (tp : Nat → Nat) (P : Nat) : ∀ k, lotS tp P k ≤ k * P := by
  intro k
  induction k with
  | zero => exact Nat.zero_le _
  | succ k ih =>
    unfold lotS
    have : P / tp k ≤ P := Nat.div_le_self _ _
    rw [Nat.succ_mul]
    omega
theorem lotS_6 (tp : Nat → Nat) {P : Nat} (hP : P ≤ 941480149401) {k : Nat} (hk : k ≤ 6) : lotS tp P k ≤ 5648880896406 := by
  have a := lotS_b tp P k
  have b : k * P ≤ 6 * 941480149401 := Nat.mul_le_mul hk hP
  omega
theorem P_dvd {tp : Nat → Nat} {N : Nat} (h : lotOK tp N) : ∀ k, k ≤ N → ∀ j, j < k → tp j ≤ lotP tp k := by
  intro k
  induction k with
  | zero => intro _ j hj; omega
  | succ k ih =>
    intro hk j hj
    unfold lotP
    by_cases q : j = k
    · rw [q]
      exact Nat.le_mul_of_pos_left _ (lotP_b h k (by omega)).1
    · exact Nat.le_trans (ih (by omega) j (by omega)) (Nat.le_mul_of_pos_right _ (h k (by omega)).1)
theorem lotS_pos {tp : Nat → Nat} {N : Nat} (h : lotOK tp N) (hN : 1 ≤ N) : 0 < lotS tp (lotP tp N) N := by
  obtain ⟨M, rfl⟩ : ∃ q, N = q + 1 := ⟨N - 1, by omega⟩
  rw [lotS]
  have a := P_dvd h (M + 1) (Nat.le_refl _) M (by omega)
  have b := (h M (by omega)).1
  have : 1 ≤ lotP tp (M + 1) / tp M := (Nat.one_le_div_iff b).mpr a
  omega
theorem gcd_pos_r {a b : Nat} (h : 0 < b) : 0 < Nat.gcd a b := Nat.gcd_pos_of_pos_right a h
theorem T_others {σ : zSt} {tp : Nat → Nat} {N k i : Nat} (h : lotOK tp N) (hN : N ≤ 6) (hk : k ≤ N) (hi : i < k) (e1 : σ.1 63 1 = nI k) (e2 : σ.2 63 2 = lN (lotP tp k)) (e3 : ∀ j, j < k → σ.1 64 j = nI (tp j)) : F_X2_othersThan (nI i) σ = some (lN (lotP tp k / tp i), σ) := by
  have hP := lotP_6 h hN hk
  obtain ⟨a, b⟩ := h i (by omega)
  have hb : bel (nI i) 6 := bel_t (by omega)
  have hb2 : bel (nI i) k := bel_t (by omega)
  unfold F_X2_othersThan F_X2_othersThan_0
  rw [e1, T_isBelow k (i_nI (by omega)), bd_s, bI_t hb2, if_neg (show ¬ (1 : Int32) = 0 by decide), T_isBelow_6, bd_s, bI_t hb, if_neg (show ¬ (1 : Int32) = 0 by decide), gd_n (by omega), nI_cl (by omega), e3 i hi, if_neg (nI_ne0 (by omega) (by omega)), gd_n (by omega), nI_l (by omega), e2]
  have hne : ¬ lN (tp i) = 0 := by
    rw [show (0 : Int64) = lN 0 from rfl, lN_eqp (by omega)]
    omega
  rw [gd_t hne, pk_lDiv (by omega) (by omega) (by omega)]
/-- reading: what lies there then -/
theorem T_readL {σ : zSt} {tp : Nat → Nat} {N : Nat} (hN : N ≤ 6) (e : σ.1 33 2 = nI N) (h : ∀ j, j < N → tp j < 256 ∧ σ.1 34 j = nI (tp j) ∧ σ.1 76 j = sb (tp j)) : wp (F_X2_read (nI N) σ) (fun a τ => a = bI (lotOK tp N) ∧ fr [63, 64] [] σ τ ∧ (lotOK tp N → τ.1 63 1 = nI N ∧ τ.2 63 2 = lN (lotP tp N) ∧ τ.2 63 3 = lN (lotS tp (lotP tp N) N) ∧ ∀ j, j < N → τ.1 64 j = nI (tp j))) := by
  unfold F_X2_read F_X2_read_0
  simp only [nm_s]
  have f0 : fr [63, 64] [] σ (zwrL (zwrL (zwr σ 63 1 0) 63 2 1) 63 3 0) := ((fr_w (Or.inl (by decide))).wL (by decide)).wL (by decide)
  refine wp_for (fun k s => s.1 = nI k ∧ fr [63, 64] [] σ s.2 ∧ lotOK tp k ∧ s.2.1 63 1 = nI k ∧ s.2.2 63 2 = lN (lotP tp k) ∧ s.2.2 63 3 = 0 ∧ ∀ j, j < k → s.2.1 64 j = nI (tp j)) N (by omega) (fun k w s hk hI hw => ?_) (fun w s hI => ?_) ⟨rfl, f0, fun j hj => absurd hj (Nat.not_lt_zero j), rfl, rfl, rfl, fun j hj => absurd hj (Nat.not_lt_zero j)⟩
  · obtain ⟨x, τ⟩ := s
    obtain ⟨i1, i2, i3, i4, i5, i6, i7⟩ := hI
    simp only at i1 i2 i3 i4 i5 i6 i7
    subst i1
    show wp (F_X2_read_17 (nI N) w (nI k) τ) _
    have eτ : τ.1 33 2 = nI N := (i2.rd (by decide) (by decide)).trans e
    have r34 : τ.1 34 = σ.1 34 := i2.row (by decide)
    have r76 : τ.1 76 = σ.1 76 := i2.row (by decide)
    have hτ : ∀ j, j < N → tp j < 256 ∧ τ.1 34 j = nI (tp j) ∧ τ.1 76 j = sb (tp j) := by
      rw [r34, r76]
      exact h
    have hb := (h k hk).1
    unfold F_X2_read_17
    rw [if_neg (by rw [nI_lep (by omega)]; omega), if_neg (by rw [show (6 : Int32) = nI 6 from rfl, nI_lep (by omega)]; omega), T_at eτ (by omega) hτ (by omega), bd_s, if_pos hk, show (1 : Int32) = nI 1 from rfl, show (99 : Int32) = nI 99 from rfl, if_lt (by omega), if_le (by omega)]
    by_cases q1 : tp k < 1
    · rw [if_pos q1]
      have hno : ¬ lotOK tp N := fun r => by have := (r k hk).1; omega
      exact wp_some ⟨(bI_f hno).symm, i2, fun r => absurd r hno⟩
    rw [if_neg q1]
    by_cases q2 : tp k ≤ 99
    rotate_left
    · rw [if_neg q2]
      have hno : ¬ lotOK tp N := fun r => by have := (r k hk).2; omega
      exact wp_some ⟨(bI_f hno).symm, i2, fun r => absurd r hno⟩
    rw [if_pos q2, gd_n (by omega), nI_cl (by omega), nI_l (by omega)]
    simp only [nm_s, zwr_r, Nat.reduceEqDiff, ↓reduceIte, i4, zwr_L, i5, lN_mul, zwrL_I, nI_add]
    have i3' : lotOK tp (k + 1) := by
      intro j hj
      by_cases z : j = k
      · rw [z]
        omega
      · exact i3 j (by omega)
    refine hw _ ⟨rfl, ((i2.w (Or.inl (by decide))).wL (by decide)).w (Or.inl (by decide)), i3', ?_, ?_, ?_, fun j hj => ?_⟩
    · simp only [zwr_r, upd_r, ↓reduceIte]
    · show (zwrL (zwr τ 64 k (nI (tp k))) 63 2 (lN (lotP tp k * tp k))).2 63 2 = _
      rw [zwrL_c, pk_uLs]
      rfl
    · show (zwrL (zwr τ 64 k (nI (tp k))) 63 2 (lN (lotP tp k * tp k))).2 63 3 = _
      rw [zwrL_c, pk_uLn (by decide)]
      exact i6
    · show upd (τ.1 64) k (nI (tp k)) j = _
      by_cases z : j = k
      · rw [z, pk_us]
      · rw [pk_un z]
        exact i7 j (by omega)
  · obtain ⟨x, τ⟩ := s
    obtain ⟨i1, i2, i3, i4, i5, i6, i7⟩ := hI
    simp only at i1 i2 i3 i4 i5 i6 i7
    subst i1
    show wp (F_X2_read_17 (nI N) w (nI N) τ) _
    unfold F_X2_read_17 F_X2_read_86
    rw [if_pos (by rw [nI_lep (by omega)]; omega)]
    have hP := lotP_6 i3 hN (Nat.le_refl N)
    refine wp_for (fun k s => s.1 = nI k ∧ fr [63, 64] [] σ s.2 ∧ s.2.1 63 1 = nI N ∧ s.2.2 63 2 = lN (lotP tp N) ∧ s.2.2 63 3 = lN (lotS tp (lotP tp N) k) ∧ ∀ j, j < N → s.2.1 64 j = nI (tp j)) N (by omega) (fun k w2 s hk hI hw => ?_) (fun w2 s hI => ?_) ⟨rfl, i2, i4, i5, i6, i7⟩
    · obtain ⟨x, υ⟩ := s
      obtain ⟨j1, j2, j4, j5, j6, j7⟩ := hI
      simp only at j1 j2 j4 j5 j6 j7
      subst j1
      show wp (F_X2_read_88 w2 (nI k) υ) _
      unfold F_X2_read_88
      rw [j4, if_neg (by rw [nI_lep (by omega)]; omega), T_others i3 hN (Nat.le_refl N) hk j4 j5 j7, bd_s, j6, lN_add]
      simp only [nm_s, nI_1]
      refine hw _ ⟨rfl, j2.wL (by decide), j4, ?_, ?_, j7⟩
      · rw [zwrL_c, pk_uLn (by decide)]
        exact j5
      · rw [zwrL_c, pk_uLs]
        rfl
    · obtain ⟨x, υ⟩ := s
      obtain ⟨j1, j2, j4, j5, j6, j7⟩ := hI
      simp only at j1 j2 j4 j5 j6 j7
      subst j1
      show wp (F_X2_read_88 w2 (nI N) υ) _
      unfold F_X2_read_88
      rw [j4, if_pos (by rw [nI_lep (by omega)]; omega)]
      exact wp_some ⟨(bI_t i3).symm, j2, fun _ => ⟨j4, j5, j6, j7⟩⟩
/-- the question of lots: what it asks -/
def lotQ (N : Nat) (x : Int32) : Prop := bel x 2 ∨ (∃ i, i < N ∧ x = nI (10 + i)) ∨ (∃ i, i < N ∧ x = nI (20 + i))
def lotA (tp : Nat → Nat) (N : Nat) (x : Int32) : Int64 :=
  if x = 0 then lN (lotP tp N / Nat.gcd (lotP tp N) (lotS tp (lotP tp N) N)) else if x = 1 then lN (lotS tp (lotP tp N) N / Nat.gcd (lotP tp N) (lotS tp (lotP tp N) N)) else
  if x < 20 then lN (lotP tp N / tp (x.toNatClampNeg - 10) / Nat.gcd (lotP tp N / tp (x.toNatClampNeg - 10)) (lotS tp (lotP tp N) N)) else lN (lotS tp (lotP tp N) N / Nat.gcd (lotP tp N / tp (x.toNatClampNeg - 20)) (lotS tp (lotP tp N) N))
theorem bel2 {x : Int32} (h : bel x 2) : x = 0 ∨ x = 1 := by
  obtain ⟨j, hj, rfl⟩ := bel_of h
  have e : j = 0 ∨ j = 1 := by omega
  rcases e with rfl | rfl
  · exact Or.inl rfl
  · exact Or.inr rfl
theorem T_ans21 {σ : zSt} {a s : Nat} (ha : a < 9223372036854775808) (hs : s < 9223372036854775808) (h0 : 0 < s) (e3 : σ.2 63 3 = lN s) (x : Int32) : F_X2_answer_21 x (lN a) σ = some ((if x = 0 then lN (a / Nat.gcd a s) else if x < 10 then lN (s / Nat.gcd a s) else if (20 : Int32) ≤ x then lN (s / Nat.gcd a s) else lN (a / Nat.gcd a s)), σ) := by
  have hg : 0 < Nat.gcd a s := gcd_pos_r h0
  have hg2 : Nat.gcd a s < 9223372036854775808 := by
    have := Nat.gcd_le_right a h0
    omega
  have hne : ¬ lN (Nat.gcd a s) = 0 := by
    rw [show (0 : Int64) = lN 0 from rfl, lN_eqp (by omega)]
    omega
  have da := pk_lDiv (a := a) (b := Nat.gcd a s) ha hg hg2
  have ds := pk_lDiv (a := s) (b := Nat.gcd a s) hs hg hg2
  unfold F_X2_answer_21
  rw [nm_s, nm_s, e3, T_cdiv ha hs hg, bd_s, gd_t hne]
  by_cases q0 : x = 0
  · rw [if_pos q0, if_pos q0, if_neg (show ¬ (1 : Int32) = 0 by decide), da]
  rw [if_neg q0, if_neg q0]
  by_cases q1 : x < 10
  · rw [if_pos q1, if_pos q1, if_pos (show (0 : Int32) = 0 from rfl), ds]
  rw [if_neg q1, if_neg q1]
  by_cases q2 : (20 : Int32) ≤ x
  · rw [if_pos q2, if_pos q2, if_pos (show (0 : Int32) = 0 from rfl), ds]
  · rw [if_neg q2, if_neg q2, if_neg (show ¬ (1 : Int32) = 0 by decide), da]
theorem T_ansL {σ : zSt} {tp : Nat → Nat} {N : Nat} (h : lotOK tp N) (hN1 : 1 ≤ N) (hN : N ≤ 6) (e1 : σ.1 63 1 = nI N) (e2 : σ.2 63 2 = lN (lotP tp N)) (e3 : σ.2 63 3 = lN (lotS tp (lotP tp N) N)) (e4 : ∀ j, j < N → σ.1 64 j = nI (tp j)) {x : Int32} (hx : lotQ N x) : F_X2_answer x σ = some (lotA tp N x, σ) := by
  have hP := lotP_6 h hN (Nat.le_refl N)
  have hS := lotS_6 tp hP.2 hN
  have hS0 := lotS_pos h hN1
  unfold F_X2_answer F_X2_answer_0 lotA
  rcases hx with hx | ⟨i, hi, rfl⟩ | ⟨i, hi, rfl⟩
  · have nx : ¬ (10 : Int32) ≤ x := by
      rcases bel2 hx with rfl | rfl <;> decide
    rw [if_neg nx, e2, T_ans21 (by omega) (by omega) hS0 e3]
    rcases bel2 hx with rfl | rfl
    · rw [if_pos rfl, if_pos rfl]
    · rw [if_neg (show ¬ (1 : Int32) = 0 by decide), if_neg (show ¬ (1 : Int32) = 0 by decide), if_pos rfl, if_pos (show (1 : Int32) < 10 by decide)]
  · have hm : nI (10 + i) % (10 : Int32) = nI i := by
      rw [show (10 : Int32) = nI 10 from rfl, nI_mod (by omega), show (10 + i) % 10 = i by omega]
    have hd : lotP tp N / tp i ≤ lotP tp N := Nat.div_le_self _ _
    rw [if_pos (by rw [show (10 : Int32) = nI 10 from rfl, nI_lep (by omega)]; omega), hm, T_others h hN (Nat.le_refl N) hi e1 e2 e4, bd_s, T_ans21 (by omega) (by omega) hS0 e3, if_neg (nI_ne0 (by omega) (by omega)), if_neg (by rw [show (10 : Int32) = nI 10 from rfl, nI_ltp (by omega)]; omega), if_neg (by rw [show (20 : Int32) = nI 20 from rfl, nI_lep (by omega)]; omega), if_neg (nI_ne0 (by omega) (by omega)), if_neg (by rw [show (1 : Int32) = nI 1 from rfl, nI_eqp (by omega)]; omega), if_pos (by rw [show (20 : Int32) = nI 20 from rfl, nI_ltp (by omega)]; omega), nI_cl (by omega), show 10 + i - 10 = i by omega]
  · have hm : nI (20 + i) % (10 : Int32) = nI i := by
      rw [show (10 : Int32) = nI 10 from rfl, nI_mod (by omega), show (20 + i) % 10 = i by omega]
    have hd : lotP tp N / tp i ≤ lotP tp N := Nat.div_le_self _ _
    rw [if_pos (by rw [show (10 : Int32) = nI 10 from rfl, nI_lep (by omega)]; omega), hm, T_others h hN (Nat.le_refl N) hi e1 e2 e4, bd_s, T_ans21 (by omega) (by omega) hS0 e3, if_neg (nI_ne0 (by omega) (by omega)), if_neg (by rw [show (10 : Int32) = nI 10 from rfl, nI_ltp (by omega)]; omega), if_pos (by rw [show (20 : Int32) = nI 20 from rfl, nI_lep (by omega)]; omega), if_neg (nI_ne0 (by omega) (by omega)), if_neg (by rw [show (1 : Int32) = nI 1 from rfl, nI_eqp (by omega)]; omega), if_neg (by rw [show (20 : Int32) = nI 20 from rfl, nI_ltp (by omega)]; omega), nI_cl (by omega), show 20 + i - 20 = i by omega]
theorem T_lots57 {σ : zSt} {tp : Nat → Nat} {N : Nat} (hN1 : 1 ≤ N) (hN : N ≤ 6) (h : ∀ j, j < N → tp j < 256 ∧ σ.1 34 j = nI (tp j) ∧ σ.1 76 j = sb (tp j)) {x : Int32} (hx : lotQ N x) : F_X12_lots_57 (nI N) x σ = some (@ite _ (lotOK tp N) (Classical.propDecidable _) (lotA tp N x) (-2), zwr σ 69 14 0) := by
  unfold F_X12_lots_57
  rw [nm_s]
  have h' : ∀ j, j < N → tp j < 256 ∧ (zwr σ 69 14 0).1 76 j = sb (tp j) := fun j hj => ⟨(h j hj).1, (h j hj).2.2⟩
  generalize zwr σ 69 14 0 = τ at h' ⊢
  have key : ∀ f k fu, k + f = N → f < fu → lotOK tp k → zfix (F_X12_lots_67L (nI N) x) fu (lN (lotP tp k), nI k, τ) = some (@ite _ (lotOK tp N) (Classical.propDecidable _) (lotA tp N x) (-2), τ) := by
    intro f
    induction f with
    | zero =>
      intro k fu hk hf hok
      obtain rfl : k = N := by omega
      obtain ⟨fu, rfl⟩ : ∃ q, fu = q + 1 := ⟨fu - 1, by omega⟩
      show F_X12_lots_67 (nI k) x (zfix (F_X12_lots_67L (nI k) x) fu) (lN (lotP tp k)) (nI k) τ = _
      have hP := lotP_6 hok hN (Nat.le_refl k)
      have hS := lotS_6 tp hP.2 hN
      have hS0 := lotS_pos hok hN1
      unfold F_X12_lots_67 F_X12_lots_110
      rw [if_pos (by rw [nI_lep (by omega)]; omega), if_pos hok]
      have b64 : ∀ j, j < k → (τ.1 76 j).toInt64 = lN (tp j) := by
        intro j hj
        rw [(h' j hj).2, sb_ok _ (by have := (hok j hj).2; omega), nI_l (by have := (hok j hj).2; omega)]
      have ne0 : ∀ j, j < k → ¬ lN (tp j) = 0 := by
        intro j hj
        obtain ⟨a, b⟩ := hok j hj
        rw [show (0 : Int64) = lN 0 from rfl, lN_eqp (by omega)]
        omega
      have E : zfix (F_X12_lots_116L (nI k) x (lN (lotP tp k))) zlim ((0 : Int64), (0 : Int32), τ) = F_X12_lots_143 x (lN (lotP tp k)) (lN (lotS tp (lotP tp k) k)) τ := by
        refine zfix_run (fun j => (lN (lotS tp (lotP tp k) j), nI j, τ)) k (by omega) (fun j w hj => ?_) (fun w => ?_)
        · show F_X12_lots_116 (nI k) x (lN (lotP tp k)) w (lN (lotS tp (lotP tp k) j)) (nI j) τ = w (lN (lotS tp (lotP tp k) (j + 1)), nI (j + 1), τ)
          obtain ⟨a, b⟩ := hok j hj
          unfold F_X12_lots_116
          rw [if_neg (by rw [nI_lep (by omega)]; omega), gd_n (by omega), nI_cl (by omega), b64 j hj, gd_t (ne0 j hj), nm_s, nm_s, nI_1, pk_lDiv (by omega) (by omega) (by omega), lN_add]
          rfl
        · show F_X12_lots_116 (nI k) x (lN (lotP tp k)) w _ (nI k) τ = _
          unfold F_X12_lots_116
          rw [if_pos (by rw [nI_lep (by omega)]; omega)]
      rw [E]
      unfold F_X12_lots_143 lotA
      rcases hx with hx | ⟨i, hi, rfl⟩ | ⟨i, hi, rfl⟩
      · have nx : ¬ (2 : Int32) ≤ x := by
          rcases bel2 hx with rfl | rfl <;> decide
        rw [if_neg nx, T_through (by omega) (by omega) (gcd_pos_r hS0), bd_s]
        rcases bel2 hx with rfl | rfl
        · rw [if_pos rfl, if_pos rfl]
        · rw [if_neg (show ¬ (1 : Int32) = 0 by decide), if_neg (show ¬ (1 : Int32) = 0 by decide), if_pos rfl]
      · have hm : nI (10 + i) % (10 : Int32) = nI i := by
          rw [show (10 : Int32) = nI 10 from rfl, nI_mod (by omega), show (10 + i) % 10 = i by omega]
        have hq : nI (10 + i) / (10 : Int32) - 1 = 0 := by
          rw [show (10 : Int32) = nI 10 from rfl, pk_div (by omega) (by omega) (by omega), show (10 + i) / 10 = 1 by omega]
          rfl
        have hd : lotP tp k / tp i ≤ lotP tp k := Nat.div_le_self _ _
        obtain ⟨a, b⟩ := hok i hi
        rw [if_pos (by rw [show (2 : Int32) = nI 2 from rfl, nI_lep (by omega)]; omega), hm, gd_n (by omega), nI_cl (by omega), b64 i hi, gd_t (ne0 i hi), hq, pk_lDiv (by omega) (by omega) (by omega), T_through (by omega) (by omega) (gcd_pos_r hS0), bd_s, if_pos rfl, if_neg (nI_ne0 (by omega) (by omega)), if_neg (by rw [show (1 : Int32) = nI 1 from rfl, nI_eqp (by omega)]; omega), if_pos (by rw [show (20 : Int32) = nI 20 from rfl, nI_ltp (by omega)]; omega), nI_cl (by omega), show 10 + i - 10 = i by omega]
      · have hm : nI (20 + i) % (10 : Int32) = nI i := by
          rw [show (10 : Int32) = nI 10 from rfl, nI_mod (by omega), show (20 + i) % 10 = i by omega]
        have hq : nI (20 + i) / (10 : Int32) - 1 = 1 := by
          rw [show (10 : Int32) = nI 10 from rfl, pk_div (by omega) (by omega) (by omega), show (20 + i) / 10 = 2 by omega]
          rfl
        have hd : lotP tp k / tp i ≤ lotP tp k := Nat.div_le_self _ _
        obtain ⟨a, b⟩ := hok i hi
        rw [if_pos (by rw [show (2 : Int32) = nI 2 from rfl, nI_lep (by omega)]; omega), hm, gd_n (by omega), nI_cl (by omega), b64 i hi, gd_t (ne0 i hi), hq, pk_lDiv (by omega) (by omega) (by omega), T_through (by omega) (by omega) (gcd_pos_r hS0), bd_s, if_neg (show ¬ (1 : Int32) = 0 by decide), if_neg (nI_ne0 (by omega) (by omega)), if_neg (by rw [show (1 : Int32) = nI 1 from rfl, nI_eqp (by omega)]; omega), if_neg (by rw [show (20 : Int32) = nI 20 from rfl, nI_ltp (by omega)]; omega), nI_cl (by omega), show 20 + i - 20 = i by omega]
    | succ f ih =>
      intro k fu hk hf hok
      obtain ⟨fu, rfl⟩ : ∃ q, fu = q + 1 := ⟨fu - 1, by omega⟩
      show F_X12_lots_67 (nI N) x (zfix (F_X12_lots_67L (nI N) x) fu) (lN (lotP tp k)) (nI k) τ = _
      obtain ⟨hb, e76⟩ := h' k (by omega)
      have sl := sb_lot (tp k) hb
      unfold F_X12_lots_67 F_X12_lots_89
      rw [if_neg (by rw [nI_lep (by omega)]; omega), gd_n (by omega), nI_cl (by omega), e76, T_in_99, bd_s]
      by_cases q : 1 ≤ tp k ∧ tp k ≤ 99
      · have sl2 : (1 : Int) ≤ (sb (tp k)).toInt ∧ (sb (tp k)).toInt ≤ 99 := by
          rw [decide_eq_true q.1, decide_eq_true q.2] at sl
          simpa using sl
        have hok' : lotOK tp (k + 1) := by
          intro j hj
          by_cases z : j = k
          · rw [z]
            exact q
          · exact hok j (by omega)
        rw [bI_t sl2, if_neg (show ¬ (1 : Int32) = 0 by decide), gd_n (by omega), e76, sb_ok _ (by omega), nI_l (by omega), nm_s, nm_s, lN_mul, nI_1]
        exact ih (k + 1) fu (by omega) (by omega) hok'
      · have sl2 : ¬ ((1 : Int) ≤ (sb (tp k)).toInt ∧ (sb (tp k)).toInt ≤ 99) := by
          intro r
          rw [decide_eq_true r.1, decide_eq_true r.2] at sl
          have sl3 := sl.symm
          simp only [Bool.and_self, Bool.and_eq_true, decide_eq_true_eq] at sl3
          exact q sl3
        rw [bI_f sl2, if_pos rfl, if_neg (fun r => q (r k (by omega)))]
  exact key N 0 zlim (by omega) (by show N < 1000000; omega) (fun j hj => absurd hj (Nat.not_lt_zero j))
theorem lotQ_i {N : Nat} (hN : N ≤ 6) (x : Int32) : lotQ N x ↔ bel x 2 ∨ (10 ≤ x.toInt ∧ x.toInt < 10 + N) ∨ (20 ≤ x.toInt ∧ x.toInt < 20 + N) := by
  constructor
  · rintro (h | ⟨i, hi, rfl⟩ | ⟨i, hi, rfl⟩)
    · exact Or.inl h
    · refine Or.inr (Or.inl ?_)
      rw [i_nI (by omega)]
      omega
    · refine Or.inr (Or.inr ?_)
      rw [i_nI (by omega)]
      omega
  · rintro (h | h | h)
    · exact Or.inl h
    · obtain ⟨j, hj, rfl⟩ := i_of (n := 17) (x := x) (by omega) (by omega)
      rw [i_nI (by omega)] at h
      exact Or.inr (Or.inl ⟨j - 10, by omega, by rw [show 10 + (j - 10) = j by omega]⟩)
    · obtain ⟨j, hj, rfl⟩ := i_of (n := 27) (x := x) (by omega) (by omega)
      rw [i_nI (by omega)] at h
      exact Or.inr (Or.inr ⟨j - 20, by omega, by rw [show 20 + (j - 20) = j by omega]⟩)
theorem lotV {N : Nat} (hN : N ≤ 6) (x2 : Int32) : (if x2 < (10 : Int32) then (if x2 < (20 : Int32) then (0 : Int32) else (if ((20 : Int32) + nI N) ≤ x2 then (0 : Int32) else (1 : Int32))) else (if x2 < ((10 : Int32) + nI N) then (1 : Int32) else (if x2 < (20 : Int32) then (0 : Int32) else (if ((20 : Int32) + nI N) ≤ x2 then (0 : Int32) else (1 : Int32))))) = bI ((10 ≤ x2.toInt ∧ x2.toInt < 10 + N) ∨ (20 ≤ x2.toInt ∧ x2.toInt < 20 + N)) := by
  have a : (10 : Int32).toInt = 10 := rfl
  have b : (20 : Int32).toInt = 20 := rfl
  have c : ((10 : Int32) + nI N).toInt = 10 + N := by
    rw [show (10 : Int32) + nI N = nI (10 + N) from nI_add 10 N, i_nI (by omega)]
    omega
  have d : ((20 : Int32) + nI N).toInt = 20 + N := by
    rw [show (20 : Int32) + nI N = nI (20 + N) from nI_add 20 N, i_nI (by omega)]
    omega
  simp only [i_lt, i_le, a, b, c, d]
  by_cases q1 : x2.toInt < 10
  · rw [if_pos q1, if_pos (by omega), bI_f (by omega)]
  · rw [if_neg q1]
    by_cases q2 : x2.toInt < 10 + N
    · rw [if_pos q2, bI_t (by omega)]
    · rw [if_neg q2]
      by_cases q3 : x2.toInt < 20
      · rw [if_pos q3, bI_f (by omega)]
      · rw [if_neg q3]
        by_cases q4 : 20 + (N : Int) ≤ x2.toInt
        · rw [if_pos q4, bI_f (by omega)]
        · rw [if_neg q4, bI_t (by omega)]
theorem T_in_6 {x : Int32} {σ : zSt} : F_X12_in x 1 6 σ = some (bI (1 ≤ x.toInt ∧ x.toInt ≤ 6), σ) := T_in
theorem s_lots {n : Nat} {σ : zSt} (hn : n < 512) (hR : Rel n σ) (x1 x2 : Int32) : Both n (F_X11_lots x1 x2) (F_X12_lots x1 x2) σ := by
  obtain ⟨m, tp, t0, t1, t2, t3⟩ := hR.2.2.2.1
  by_cases h1 : 1 ≤ x1.toInt ∧ x1.toInt ≤ 6
  rotate_left
  · refine Both.no (-1) hn hR ?_ (by simp (disch := omega) only [F_X12_lots, F_X12_lots_0, F_X12_lots_53, T_isBelow_2, T_isBelow_3, T_isBelow_4, T_isBelow_6, T_isBelow_8, T_isBelow_9, T_isBelow_10, T_isBelow_12, T_isBelow_16, T_isBelow_17, T_isBelow_31, T_isBelow_64, T_isBelow_256, T_isBelow_65536, T_in_1, T_in_2, T_in_3, T_in_4, T_in_5, T_in_8, T_in_11, T_in_16, T_in_30, T_in_63, T_in_255, T_in_65535, T_isIsland, T_isEight, bd_s, nm_s, bI_0, gd_n, gd_01, nI_cl, nI_add, nI_1, m4, Bool.false_eq_true, and_self, true_and, and_true, true_or, or_true, or_self, false_or, or_false, gd_T, not_true_eq_false, not_false_eq_true, ↓reduceIte, h1, T_in_6])
    unfold F_X11_lots F_X11_lots_0 F_X11_lots_68
    have a : (1 : Int32).toInt = 1 := rfl
    have b : (6 : Int32).toInt = 6 := rfl
    rw [nm_s]
    by_cases q : x1 < 1
    · rw [if_pos q]
    · rw [if_neg q, if_pos (by rw [i_lt] at q ⊢; omega)]
  obtain ⟨N, hN, rfl⟩ := i_of (n := 7) (x := x1) (by omega) (by omega)
  have h1' := h1
  rw [i_nI (by omega)] at h1'
  have hN1 : 1 ≤ N := by omega
  have hN6 : N ≤ 6 := by omega
  have n1 : ¬ nI N < 1 := by rw [show (1 : Int32) = nI 1 from rfl, nI_ltp (by omega)]; omega
  have n6 : ¬ (6 : Int32) < nI N := by rw [show (6 : Int32) = nI 6 from rfl, nI_ltp (by omega)]; omega
  have e9 : ((9 : Int32) + nI N).toInt = 9 + N := by
    rw [show (9 : Int32) + nI N = nI (9 + N) from nI_add 9 N, i_nI (by omega)]
    omega
  have e19 : ((19 : Int32) + nI N).toInt = 19 + N := by
    rw [show (19 : Int32) + nI N = nI (19 + N) from nI_add 19 N, i_nI (by omega)]
    omega
  have M10 : ∀ τ, F_X12_in x2 10 ((9 : Int32) + nI N) τ = some (bI (10 ≤ x2.toInt ∧ x2.toInt < 10 + N), τ) := by
    intro τ
    rw [T_in, e9, bI_c]
    show (10 ≤ x2.toInt ∧ x2.toInt ≤ 9 + (N : Int)) ↔ _
    omega
  have M20 : ∀ τ, F_X12_in x2 20 ((19 : Int32) + nI N) τ = some (bI (20 ≤ x2.toInt ∧ x2.toInt < 20 + N), τ) := by
    intro τ
    rw [T_in, e19, bI_c]
    show (20 ≤ x2.toInt ∧ x2.toInt ≤ 19 + (N : Int)) ↔ _
    omega
  have E1 : F_X11_lots (nI N) x2 σ = @ite _ (lotQ N x2) (Classical.propDecidable _) (F_X11_lots_57 (nI N) x2 σ) (some (-1, σ)) := by
    unfold F_X11_lots F_X11_lots_0 F_X11_lots_68
    rw [nm_s, if_neg n1, if_neg n6, T_isBelow_2, bd_s, lotV hN6]
    by_cases q : bel x2 2
    · rw [bI_t q, if_neg (show ¬ (1 : Int32) = 0 by decide), if_pos (show lotQ N x2 from Or.inl q)]
    · rw [bI_f q, if_pos (show (0 : Int32) = 0 from rfl)]
      by_cases r : (10 ≤ x2.toInt ∧ x2.toInt < 10 + N) ∨ (20 ≤ x2.toInt ∧ x2.toInt < 20 + N)
      · rw [bI_t r, if_neg (show ¬ (1 : Int32) = 0 by decide), if_pos ((lotQ_i hN6 x2).mpr (Or.inr r))]
      · rw [bI_f r, if_pos (show (0 : Int32) = 0 from rfl), if_neg (fun z => ((lotQ_i hN6 x2).mp z).elim q r)]
  have E2 : ∀ τ, F_X12_lots (nI N) x2 τ = if (τ.1 69 14) < nI N then some (-1, τ) else @ite _ (lotQ N x2) (Classical.propDecidable _) (F_X12_lots_57 (nI N) x2 τ) (some (-1, τ)) := by
    intro τ
    unfold F_X12_lots F_X12_lots_0 F_X12_lots_53
    rw [T_in_6, bd_s, bI_t h1, if_neg (show ¬ (1 : Int32) = 0 by decide)]
    by_cases z : (τ.1 69 14) < nI N
    · rw [if_pos z, if_pos z]
    rw [if_neg z, if_neg z, T_in_1, bd_s]
    by_cases q : bel x2 2
    · rw [bI_t q, if_neg (show ¬ (1 : Int32) = 0 by decide), if_pos (show lotQ N x2 from Or.inl q)]
    · rw [bI_f q, if_pos (show (0 : Int32) = 0 from rfl), M10, bd_s]
      by_cases r : 10 ≤ x2.toInt ∧ x2.toInt < 10 + (N : Int)
      · rw [bI_t r, if_neg (show ¬ (1 : Int32) = 0 by decide), if_pos ((lotQ_i hN6 x2).mpr (Or.inr (Or.inl r)))]
      · rw [bI_f r, if_pos (show (0 : Int32) = 0 from rfl), M20, bd_s]
        by_cases r2 : 20 ≤ x2.toInt ∧ x2.toInt < 20 + (N : Int)
        · rw [bI_t r2, if_neg (show ¬ (1 : Int32) = 0 by decide), if_pos ((lotQ_i hN6 x2).mpr (Or.inr (Or.inr r2)))]
        · rw [bI_f r2, if_pos (show (0 : Int32) = 0 from rfl), if_neg (fun z => ((lotQ_i hN6 x2).mp z).elim q (fun y => y.elim r r2))]
  by_cases hq : lotQ N x2
  rotate_left
  · refine Both.no (-1) hn hR (by rw [E1, if_neg hq]) ?_
    rw [E2, if_neg hq]
    split <;> rfl
  by_cases hm : N ≤ m
  rotate_left
  · refine Both.no (-1) hn hR ?_ ?_
    · rw [E1, if_pos hq]
      unfold F_X11_lots_57 F_X11_lots_68
      rw [take_no t1 (Or.inr (by rw [nI_lep (by omega)]; omega)), bd_s, if_pos rfl]
    · rw [E2, t2, if_pos (by rw [nI_ltp (by omega)]; omega)]
  have f1 : fr [] [(33, 1), (33, 2)] σ (zwr (zwr σ 33 2 (nI N)) 33 1 0) := (fr_w (Or.inr (by decide))).w (Or.inr (by decide))
  have r1 : ∀ j, j < N → tp j < 256 ∧ (zwr (zwr σ 33 2 (nI N)) 33 1 0).1 34 j = nI (tp j) ∧ (zwr (zwr σ 33 2 (nI N)) 33 1 0).1 76 j = sb (tp j) := fun j hj => t3 j (by omega)
  have L1 : wp (F_X11_lots (nI N) x2 σ) (fun a τ => a = @ite _ (lotOK tp N) (Classical.propDecidable _) (lotA tp N x2) (-2) ∧ fr [63, 64] [(33, 1), (33, 2)] σ τ ∧ τ.1 33 1 = 0) := by
    rw [E1, if_pos hq]
    unfold F_X11_lots_57
    rw [take_yes t0 t1 hm, bd_s, if_neg (show ¬ (1 : Int32) = 0 by decide)]
    refine wp_bd2 (T_readL hN6 (by simp only [zwr_r, upd_r, Nat.reduceEqDiff, ↓reduceIte]) r1) (fun a τ hτ => ?_)
    obtain ⟨rfl, g1, g2⟩ := hτ
    have f2 : fr [63, 64] [(33, 1), (33, 2)] σ τ := (f1.mono (by decide)).tr (g1.mono (by decide))
    have z : τ.1 33 1 = 0 := by
      rw [g1.rd (by decide) (by decide)]
      simp only [zwr_r, upd_r, ↓reduceIte]
    by_cases q : lotOK tp N
    · obtain ⟨a1, a2, a3, a4⟩ := g2 q
      rw [bI_t q, if_neg (show ¬ (1 : Int32) = 0 by decide), T_ansL q hN1 hN6 a1 a2 a3 a4 hq, bd_s]
      exact wp_some ⟨by rw [if_pos q], f2, z⟩
    · rw [bI_f q, if_pos rfl]
      exact wp_some ⟨by rw [if_neg q], f2, z⟩
  obtain ⟨a, τ, e1, rfl, g1, g2⟩ := L1
  have rτ : ∀ j, j < N → tp j < 256 ∧ τ.1 34 j = nI (tp j) ∧ τ.1 76 j = sb (tp j) := by
    intro j hj
    rw [g1.row (c := 34) (by decide), g1.row (c := 76) (by decide)]
    exact t3 j (by omega)
  have e2 : F_X12_lots (nI N) x2 τ = _ := (E2 τ).trans (by rw [g1.rd (by decide) (by decide), t2, if_neg (by rw [nI_ltp (by omega)]; omega), if_pos hq, T_lots57 hN1 hN6 rτ hq])
  refine Both.mk e1 e2 (Rel_T hn hR ((g1.eqOn (by decide)).tr (eqOn_wr (by decide))) (RT_0 g2 ?_))
  simp only [zwr_r, upd_r, ↓reduceIte]
