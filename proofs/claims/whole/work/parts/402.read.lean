/-! reading the world, class -/
theorem EC.way {c r : Nat} {W : zWo} {σ : zSt} (h : EC c r W σ) : ∀ j, j < 16 → σ.1 r j = nI (wWay W j) := h.1
theorem wIs_lt {W : zWo} {p : Nat} (h : wIs W p = true) : p < 8 := by
  simp only [wIs, Bool.and_eq_true, decide_eq_true_eq] at h
  exact h.1
theorem wIs_bit {W : zWo} {p : Nat} (hp : p < 8) : wIs W p = (wTol W).testBit p := by simp [wIs, hp]
/-- x is a told place -/
def isT (W : zWo) (x : Int32) : Prop := ∃ p, wIs W p = true ∧ x = nI p
theorem isT_n {W : zWo} {p : Nat} (hp : p < 2147483648) : isT W (nI p) ↔ wIs W p = true := by
  constructor
  · intro ⟨q, h1, h2⟩
    have hq := wIs_lt h1
    rw [(nI_eq hp (by omega)).mp h2]
    exact h1
  · intro h
    exact ⟨p, h, rfl⟩
theorem t_isTold {W : zWo} {σ : zSt} (hW : WOK W) (h : EC 1 2 W σ) (x : Int32) : F_X10_isTold x σ = some (@ite _ (isT W x) (Classical.propDecidable _) 1 0, σ) := by
  unfold F_X10_isTold F_X10_isTold_0
  rw [t_isBelow, bd_s]
  by_cases hx : 0 ≤ x.toInt ∧ x.toInt < (8 : Int32).toInt
  · rw [if_pos hx, if_neg (by decide)]
    obtain ⟨p, hp, rfl⟩ := i_of (n := 8) hx.1 hx.2
    have e : σ.1 1 6 = nI (wTol W) := h.2.2.2.2.2.2.1
    have hT : wTol W < 256 := hW.2.2.2.2.2.2.2.1
    rw [e]
    by_cases hb : (wTol W).testBit p = true
    · rw [if_pos ((bit_is hT hp).mpr hb), if_pos ((isT_n (by omega)).mpr (by rw [wIs_bit hp]; exact hb))]
    · rw [if_neg (fun q => hb ((bit_is hT hp).mp q)), if_neg (fun q => hb (by rw [← wIs_bit hp]; exact (isT_n (by omega)).mp q))]
  · rw [if_neg hx, if_pos rfl, if_neg]
    intro ⟨p, h1, h2⟩
    have := wIs_lt h1
    rw [h2, i_nI (by omega)] at hx
    have e : (8 : Int32).toInt = 8 := rfl
    rw [e] at hx
    omega
theorem t_isPlace {W : zWo} {σ : zSt} (hW : WOK W) (h : EM 70 0 W σ) (x : Int32) : F_X12_isPlace x σ = some (@ite _ (isT W x) (Classical.propDecidable _) 1 0, σ) := by
  unfold F_X12_isPlace F_X12_isPlace_0 F_X12_isEight F_X12_isEight_0
  by_cases h0 : x < 0
  · rw [if_pos h0, bd_s, if_pos rfl, if_neg]
    intro ⟨p, h1, h2⟩
    have := wIs_lt h1
    rw [i_lt, h2, i_nI (by omega)] at h0
    have e : (0 : Int32).toInt = 0 := rfl
    omega
  · by_cases h8 : (8 : Int32) ≤ x
    · rw [if_neg h0, if_pos h8, bd_s, if_pos rfl, if_neg]
      intro ⟨p, h1, h2⟩
      have := wIs_lt h1
      rw [i_le, h2, i_nI (by omega)] at h8
      have e : (8 : Int32).toInt = 8 := rfl
      omega
    · rw [if_neg h0, if_neg h8, bd_s, if_neg (by decide)]
      rw [i_lt] at h0
      rw [i_le] at h8
      have e : (8 : Int32).toInt = 8 := rfl
      have e0 : (0 : Int32).toInt = 0 := rfl
      obtain ⟨p, hp, rfl⟩ := i_of (n := 8) (x := x) (by omega) (by omega)
      have e : σ.1 69 0 = nI (wTol W) := h.2.2.2.2.2.2.1
      have hT : wTol W < 256 := hW.2.2.2.2.2.2.2.1
      unfold F_X12_has F_X12_has_0
      rw [e]
      by_cases hb : (wTol W).testBit p = true
      · rw [if_pos ((bit_is hT hp).mpr hb), bd_s, if_neg (by decide), if_pos ((isT_n (by omega)).mpr (by rw [wIs_bit hp]; exact hb))]
      · rw [if_neg (fun q => hb ((bit_is hT hp).mp q)), bd_s, if_pos rfl, if_neg (fun q => hb (by rw [← wIs_bit hp]; exact (isT_n (by omega)).mp q))]
/-- the outermost place, within n levels -/
def topW (W : zWo) : Nat → Nat → Nat
  | 0, p => p
  | n + 1, p => match wWin W p with
    | none => p
    | some q => topW W n q
def ancW (W : zWo) : Nat → Nat → Nat
  | 0, _ => 0
  | n + 1, p => match wWin W p with
    | none => 0
    | some q => 2 ^ q ||| ancW W n q
def levW (W : zWo) : Nat → Nat → Nat
  | 0, _ => 0
  | n + 1, p => match wWin W p with
    | none => 0
    | some q => levW W n q + 1
def islW (W : zWo) (p : Nat) : Nat := wIsl W (topW W 8 p)
theorem topW_lt {W : zWo} (hW : WOK W) : ∀ n p, p < 8 → topW W n p ≤ p := by
  intro n
  induction n with
  | zero => intro p _; exact Nat.le_refl p
  | succ n ih =>
    intro p hp
    unfold topW
    cases hw : wWin W p with
    | none => exact Nat.le_refl p
    | some q =>
      have := (hW.2.2.2.1 p q hp hw).1
      have := ih q (by omega)
      show topW W n q ≤ p
      omega
theorem topW_n {W : zWo} (hW : WOK W) : ∀ p, p < 8 → ∀ n m, p ≤ n → p ≤ m → topW W n p = topW W m p := by
  intro p
  induction p using Nat.strongRecOn with
  | ind p ih =>
    intro hp n m hn hm
    cases hw : wWin W p with
    | none => cases n <;> cases m <;> simp [topW, hw]
    | some q =>
      have hq := (hW.2.2.2.1 p q hp hw).1
      obtain ⟨n, rfl⟩ : ∃ k, n = k + 1 := ⟨n - 1, by omega⟩
      obtain ⟨m, rfl⟩ : ∃ k, m = k + 1 := ⟨m - 1, by omega⟩
      simp only [topW, hw]
      exact ih q hq (by omega) n m (by omega) (by omega)
theorem islW_s {W : zWo} (hW : WOK W) {p q : Nat} (hp : p < 8) (hw : wWin W p = some q) : islW W p = islW W q := by
  have hq := (hW.2.2.2.1 p q hp hw).1
  unfold islW
  rw [show topW W 8 p = topW W 7 q by simp [topW, hw], topW_n hW q (by omega) 7 8 (by omega) (by omega)]
theorem islW_0 {W : zWo} {p : Nat} (hw : wWin W p = none) : islW W p = wIsl W p := by simp [islW, topW, hw]
theorem islW_lt {W : zWo} (hW : WOK W) {p : Nat} (hp : p < 8) : islW W p < 4 := hW.2.2.1 _ (by have := topW_lt hW 8 p hp; omega)
theorem win16 {W : zWo} (hW : WOK W) {j : Nat} (hj : j < 8) : ∀ k, wWin W j = some k → k < 16 := fun k h => by have := (hW.2.2.2.1 j k hj h).1; omega
theorem t_islandOf {W : zWo} {σ : zSt} (hW : WOK W) (h : EC 1 2 W σ) {p : Nat} (hp : p < 8) : F_X10_islandOf (nI p) σ = some (nI (islW W p), σ) := by
  unfold F_X10_islandOf F_X10_islandOf_0
  have key : ∀ p, p < 8 → ∀ k f, k + p ≤ 7 → p < f → zfix F_X10_islandOf_4L f (nI p, nI k, σ) = some (nI (islW W p), σ) := by
    intro p
    induction p using Nat.strongRecOn with
    | ind p ih =>
      intro hp k f hk hf
      obtain ⟨f, rfl⟩ : ∃ g, f = g + 1 := ⟨f - 1, by omega⟩
      show F_X10_islandOf_4 (zfix F_X10_islandOf_4L f) (nI p) (nI k) σ = _
      unfold F_X10_islandOf_4
      have e4 : σ.1 4 p = e1 (wWin W p) := h.2.2.1 p hp
      have e3 : σ.1 3 p = nI (wIsl W p) := h.2.1 p hp
      rw [if_neg (by rw [i_le, i_nI (by omega)]; show ¬ (8 : Int) ≤ _; omega), t_below hp rfl, bd_s, if_neg (by decide), gd_t (vp_in_nI hp (by decide)), nI_clamp (by omega), e4]
      cases hw : wWin W p with
      | none =>
        rw [if_pos (show e1 none = -1 from rfl)]
        unfold F_X10_islandOf_31
        rw [gd_t (vp_in_nI hp (by decide)), nI_clamp (by omega), e3, islW_0 hw]
      | some q =>
        have hq := (hW.2.2.2.1 p q hp hw).1
        rw [if_neg (show ¬ e1 (some q) = -1 from e1_n (by omega)), gd_t (vp_in_nI hp (by decide))]
        simp only [nm, e1, nI_1]
        rw [ih q hq (by omega) (k + 1) f (by omega) (by omega), islW_s hW hp hw]
  exact key p hp 0 zlim (by omega) (by show p < 1000000; omega)
theorem t_islandBy {W : zWo} {σ : zSt} (hW : WOK W) (h : EM 70 0 W σ) {p : Nat} (hp : p < 8) : F_X12_islandBy (nI p) σ = some (nI (islW W p), σ) := by
  unfold F_X12_islandBy F_X12_islandBy_0
  have key : ∀ p, p < 8 → ∀ f, p < f → zfix F_X12_islandBy_2L f (nI p, σ) = some (nI (islW W p), σ) := by
    intro p
    induction p using Nat.strongRecOn with
    | ind p ih =>
      intro hp f hf
      obtain ⟨f, rfl⟩ : ∃ g, f = g + 1 := ⟨f - 1, by omega⟩
      show F_X12_islandBy_2 (zfix F_X12_islandBy_2L f) (nI p) σ = _
      unfold F_X12_islandBy_2
      have e4 : σ.1 72 p = e2 (wWin W p) := h.2.2.1 p hp
      have e3 : σ.1 71 p = nI (wIsl W p) := h.2.1 p hp
      rw [gd_t (vp_in_nI hp (by decide)), nI_clamp (by omega), e4]
      cases hw : wWin W p with
      | none =>
        rw [if_pos (by decide)]
        unfold F_X12_islandBy_21
        rw [gd_t (vp_in_nI hp (by decide)), nI_clamp (by omega), e3, islW_0 hw]
      | some q =>
        have hq := (hW.2.2.2.1 p q hp hw).1
        rw [if_neg (by rw [i_lt]; simp only [e2]; rw [i_nI (by omega)]; show ¬ (_ : Int) < 0; omega), gd_t (vp_in_nI hp (by decide))]
        simp only [nm, e2]
        rw [ih q hq (by omega) f (by omega), islW_s hW hp hw]
  exact key p hp zlim (by show p < 1000000; omega)
theorem or_lt {m n : Nat} (hm : m < 256) (hn : n < 256) : m ||| n < 256 := Nat.or_lt_two_pow (n := 8) hm hn
theorem pow_lt8 {k : Nat} (h : k < 8) : 2 ^ k < 256 := by
  have := Nat.pow_le_pow_right (n := 2) (by decide) (show k ≤ 7 by omega)
  omega
theorem ancW_lt {W : zWo} (hW : WOK W) : ∀ n p, p < 8 → ancW W n p < 256 := by
  intro n
  induction n with
  | zero => intro p _; exact Nat.zero_lt_succ 255
  | succ n ih =>
    intro p hp
    unfold ancW
    cases hw : wWin W p with
    | none => exact Nat.zero_lt_succ 255
    | some q =>
      have hq := (hW.2.2.2.1 p q hp hw).1
      exact or_lt (pow_lt8 (by omega)) (ih q (by omega))
theorem ancW_n {W : zWo} (hW : WOK W) : ∀ p, p < 8 → ∀ n m, p ≤ n → p ≤ m → ancW W n p = ancW W m p ∧ levW W n p = levW W m p := by
  intro p
  induction p using Nat.strongRecOn with
  | ind p ih =>
    intro hp n m hn hm
    cases hw : wWin W p with
    | none => cases n <;> cases m <;> simp [ancW, levW, hw]
    | some q =>
      have hq := (hW.2.2.2.1 p q hp hw).1
      obtain ⟨n, rfl⟩ : ∃ k, n = k + 1 := ⟨n - 1, by omega⟩
      obtain ⟨m, rfl⟩ : ∃ k, m = k + 1 := ⟨m - 1, by omega⟩
      simp only [ancW, levW, hw]
      obtain ⟨a1, a2⟩ := ih q hq (by omega) n m (by omega) (by omega)
      rw [a1, a2]
      exact ⟨rfl, rfl⟩
def ancs (W : zWo) (p : Nat) : Nat := ancW W 8 p
theorem ancs_s {W : zWo} (hW : WOK W) {p q : Nat} (hp : p < 8) (hw : wWin W p = some q) : ancs W p = 2 ^ q ||| ancs W q := by
  have hq := (hW.2.2.2.1 p q hp hw).1
  unfold ancs
  rw [show ancW W 8 p = 2 ^ q ||| ancW W 7 q by simp [ancW, hw], (ancW_n hW q (by omega) 7 8 (by omega) (by omega)).1]
theorem ancs_0 {W : zWo} {p : Nat} (hw : wWin W p = none) : ancs W p = 0 := by simp [ancs, ancW, hw]
theorem ancs_lt {W : zWo} (hW : WOK W) {p : Nat} (hp : p < 8) : ancs W p < 256 := ancW_lt hW 8 p hp
theorem ancs_bit {W : zWo} (hW : WOK W) : ∀ p, p < 8 → ∀ k, (ancs W p).testBit k = true → k < p := by
  intro p
  induction p using Nat.strongRecOn with
  | ind p ih =>
    intro hp k hk
    cases hw : wWin W p with
    | none => rw [ancs_0 hw] at hk; simp at hk
    | some q =>
      have hq := (hW.2.2.2.1 p q hp hw).1
      rw [ancs_s hW hp hw, Nat.testBit_or, Bool.or_eq_true, Nat.testBit_two_pow] at hk
      rcases hk with h | h
      · simp at h; omega
      · have := ih q hq (by omega) k h; omega
theorem t_around {W : zWo} {σ : zSt} (hW : WOK W) (h : EC 1 2 W σ) {p : Nat} (hp : p < 8) : F_X10_around (nI p) σ = some (nI (ancs W p), σ) := by
  unfold F_X10_around F_X10_around_0
  have key : ∀ p, p < 8 → ∀ k f a, a < 256 → k + p ≤ 7 → p + 2 < f → zfix F_X10_around_7L f (nI a, nI p, nI k, σ) = some (nI (a ||| ancs W p), σ) := by
    intro p
    induction p using Nat.strongRecOn with
    | ind p ih =>
      intro hp k f a ha hk hf
      obtain ⟨f, rfl⟩ : ∃ g, f = g + 1 := ⟨f - 1, by omega⟩
      show F_X10_around_7 (zfix F_X10_around_7L f) (nI a) (nI p) (nI k) σ = _
      unfold F_X10_around_7
      have e4 : σ.1 4 p = e1 (wWin W p) := h.2.2.1 p hp
      rw [if_neg (by rw [i_le, i_nI (by omega)]; show ¬ (8 : Int) ≤ _; omega), t_below hp rfl, bd_s, if_neg (by decide), gd_t (vp_in_nI hp (by decide)), nI_clamp (by omega), e4]
      simp only [nm]
      cases hw : wWin W p with
      | none =>
        simp only [e1]
        rw [t_nbelow (Or.inl (by decide)), bd_s, if_pos rfl, nI_1]
        obtain ⟨f, rfl⟩ : ∃ g, f = g + 1 := ⟨f - 1, by omega⟩
        show F_X10_around_7 (zfix F_X10_around_7L f) (nI a ||| nI 0) (-1) (nI (k + 1)) σ = _
        unfold F_X10_around_7
        rw [ancs_0 hw, Nat.or_zero, bit_or a ha 0 (by decide), Nat.or_zero]
        by_cases h8 : (8 : Int32) ≤ nI (k + 1)
        · rw [if_pos h8]
        · rw [if_neg h8, t_nbelow (Or.inl (by decide)), bd_s, if_pos rfl]
      | some q =>
        have hq := (hW.2.2.2.1 p q hp hw).1
        simp only [e1]
        rw [t_below (n := 8) (by omega) rfl, bd_s, if_neg (by decide), bit_1 q (by omega), nI_1, bit_or a ha _ (pow_lt8 (by omega)), ih q hq (by omega) (k + 1) f _ (or_lt ha (pow_lt8 (by omega))) (by omega) (by omega), ancs_s hW hp hw, Nat.or_assoc]
  have := key p hp 0 zlim 0 (by decide) (by omega) (by show p + 2 < 1000000; omega)
  rw [Nat.zero_or] at this
  exact this
theorem t_levels {W : zWo} {σ : zSt} (hW : WOK W) (h : EM 70 0 W σ) {p : Nat} (hp : p < 8) : F_X12_levels (nI p) σ = some (nI (levW W 8 p), σ) := by
  unfold F_X12_levels F_X12_levels_0
  have key : ∀ p, p < 8 → ∀ f a, p < f → zfix F_X12_levels_4L f (nI a, nI p, σ) = some (nI (a + levW W 8 p), σ) := by
    intro p
    induction p using Nat.strongRecOn with
    | ind p ih =>
      intro hp f a hf
      obtain ⟨f, rfl⟩ : ∃ g, f = g + 1 := ⟨f - 1, by omega⟩
      show F_X12_levels_4 (zfix F_X12_levels_4L f) (nI a) (nI p) σ = _
      unfold F_X12_levels_4
      have e4 : σ.1 72 p = e2 (wWin W p) := h.2.2.1 p hp
      rw [gd_t (vp_in_nI hp (by decide)), nI_clamp (by omega), e4]
      cases hw : wWin W p with
      | none =>
        rw [if_pos (by decide)]
        simp [levW, hw]
      | some q =>
        have hq := (hW.2.2.2.1 p q hp hw).1
        have hl : levW W 8 p = levW W 8 q + 1 := by
          rw [show levW W 8 p = levW W 7 q + 1 by simp [levW, hw], (ancW_n hW q (by omega) 7 8 (by omega) (by omega)).2]
        rw [if_neg (by rw [i_lt]; simp only [e2]; rw [i_nI (by omega)]; show ¬ (_ : Int) < 0; omega)]
        simp only [nm]
        rw [gd_t (vp_in_nI hp (by decide))]
        simp only [e2, nI_1]
        rw [ih q hq (by omega) f (a + 1) (by omega), hl]
        congr 3
        omega
  have := key p hp zlim 0 (by show p < 1000000; omega)
  rw [Nat.zero_add] at this
  exact this
