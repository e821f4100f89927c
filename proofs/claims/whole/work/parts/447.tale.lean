/-! PURE: a tale judged -/
theorem tb_clr : ∀ i, i < 8 → ∀ d, d < 8 → (255 - 2 ^ i).testBit d = decide (d ≠ i) := by decide +kernel
theorem tb_15 : ∀ d, d < 8 → Nat.testBit 15 d = decide (d < 4) := by decide +kernel
theorem can_0 {W : zWo} {O B i d : Nat} : (canW W O B i 0).testBit d = true ↔ d < 4 ∧ 0 < wWay W (4 * i + d) := by
  show (bset (fun t => decide (0 < wWay W (4 * i + t))) 4).testBit d = true ↔ _
  rw [bset_bit, Bool.and_eq_true, decide_eq_true_eq, decide_eq_true_eq]
theorem can_1 {W : zWo} {O B i d : Nat} (hi : i < 4) (hd : d < 8) : (canW W O B i 1).testBit d = true ↔ dgt B 0 = 0 ∧ d < 4 ∧ d ≠ i := by
  show (ravW B &&& (255 - 2 ^ i)).testBit d = true ↔ _
  unfold ravW
  rw [Nat.testBit_and, tb_clr i (by omega) d hd, Bool.and_eq_true, decide_eq_true_eq]
  by_cases q : dgt B 0 = 0
  · rw [if_pos q, tb_15 d hd, decide_eq_true_eq]
    exact ⟨fun h => ⟨q, h⟩, fun h => h.2⟩
  · rw [if_neg q, Nat.zero_testBit]
    exact ⟨fun h => (by cases h.1), fun h => absurd h.1 q⟩
theorem plo_bit {W : zWo} {i d : Nat} (hd : d < 8) : (ploW W i).testBit d = true ↔ wIs W d = true ∧ islW W d = i := by
  unfold ploW
  rw [bset_bit, decide_eq_true hd, Bool.true_and, Bool.and_eq_true, decide_eq_true_eq]
theorem cmp_bit {O d : Nat} (hd : d < 8) : (O ^^^ 255).testBit d = !O.testBit d := by
  rw [Nat.testBit_xor, tb255, decide_eq_true hd]
  cases O.testBit d <;> rfl
theorem free_bit {W : zWo} {O d : Nat} (hd : d < 8) : (freeW W O).testBit d = subB (ancs W d) O := by
  unfold freeW
  rw [bset_bit, decide_eq_true hd, Bool.true_and]
theorem unl_bit {W : zWo} {O B d : Nat} (hd : d < 8) : (unlW W O B).testBit d = lokB W O B d := by
  unfold unlW
  rw [bset_bit, decide_eq_true hd, Bool.true_and]
/-- it could be opened, but for what is around it, for LOCK and WET -/
def opn (W : zWo) (O i d : Nat) : Prop := wIs W d = true ∧ islW W d = i ∧ O.testBit d = false
theorem can_2 {W : zWo} {O B i d : Nat} (hd : d < 8) : (canW W O B i 2).testBit d = true ↔ opn W O i d ∧ subB (ancs W d) O = true ∧ lokB W O B d = true := by
  show ((freeW W O &&& (O ^^^ 255) &&& unlW W O B) &&& ploW W i).testBit d = true ↔ _
  unfold opn
  rw [Nat.testBit_and, Nat.testBit_and, Nat.testBit_and, cmp_bit hd, free_bit hd, unl_bit hd, Bool.and_eq_true, Bool.and_eq_true, Bool.and_eq_true, plo_bit hd, Bool.not_eq_true']
  exact ⟨fun h => ⟨⟨h.2.1, h.2.2, h.1.1.2⟩, h.1.1.1, h.1.2⟩, fun h => ⟨⟨⟨h.2.1, h.1.2.2⟩, h.2.2⟩, h.1.1, h.1.2.1⟩⟩
theorem can_3 {W : zWo} {O B i d : Nat} (hd : d < 8) : (canW W O B i 3).testBit d = true ↔ dgt B 1 = 0 ∧ opn W O i d ∧ subB (ancs W d) O = true ∧ (wWet W).testBit d = false := by
  show (bywW W O B &&& ploW W i).testBit d = true ↔ _
  unfold bywW opn
  rw [Nat.testBit_and, Bool.and_eq_true, plo_bit hd]
  by_cases q : dgt B 1 = 0
  · rw [if_pos q, Nat.testBit_and, Nat.testBit_and, cmp_bit hd, cmp_bit hd, free_bit hd, Bool.and_eq_true, Bool.and_eq_true, Bool.not_eq_true', Bool.not_eq_true']
    exact ⟨fun h => ⟨q, ⟨h.2.1, h.2.2, h.1.1.2⟩, h.1.1.1, h.1.2⟩, fun h => ⟨⟨⟨h.2.2.1, h.2.1.2.2⟩, h.2.2.2⟩, h.2.1.1, h.2.1.2.1⟩⟩
  · rw [if_neg q, Nat.zero_testBit]
    exact ⟨fun h => (by cases h.1), fun h => absurd h.1 q⟩
theorem can_4 {W : zWo} {O B i d : Nat} (hd : d < 8) : (canW W O B i 4).testBit d = true ↔ dgt B 2 = 0 ∧ opn W O i d ∧ (wWet W).testBit d = true := by
  show (bysW W O B &&& ploW W i).testBit d = true ↔ _
  unfold bysW opn
  rw [Nat.testBit_and, Bool.and_eq_true, plo_bit hd]
  by_cases q : dgt B 2 = 0
  · rw [if_pos q, Nat.testBit_and, cmp_bit hd, Bool.and_eq_true, Bool.not_eq_true']
    exact ⟨fun h => ⟨q, ⟨h.2.1, h.2.2, h.1.2⟩, h.1.1⟩, fun h => ⟨⟨h.2.2, h.2.1.2.2⟩, h.2.1.1, h.2.1.2.1⟩⟩
  · rw [if_neg q, Nat.zero_testBit]
    exact ⟨fun h => (by cases h.1), fun h => absurd h.1 q⟩
theorem can_5 {W : zWo} {O B i d : Nat} : (canW W O B i 5).testBit d = true ↔ d < 3 ∧ dgt B d = 0 ∧ keysW W (8 + d) ≠ 0 := by
  show (givW W B).testBit d = true ↔ _
  unfold givW
  rw [bset_bit, Bool.and_eq_true, Bool.and_eq_true, decide_eq_true_eq, decide_eq_true_eq, decide_eq_true_eq]
theorem can_dg {W : zWo} {O B i l d : Nat} (hi : i < 4) (hl : l < 6) (hd : d < 8) (h : (canW W O B i l).testBit d = true) : d < dgs l := by
  have e : l = 0 ∨ l = 1 ∨ l = 2 ∨ l = 3 ∨ l = 4 ∨ l = 5 := by omega
  rcases e with rfl | rfl | rfl | rfl | rfl | rfl
  · exact (can_0.mp h).1
  · exact ((can_1 hi hd).mp h).2.1
  · exact hd
  · exact hd
  · exact hd
  · exact (can_5.mp h).1
/-! digits of the beasts -/
theorem dgt_up : ∀ B, B < 27 → ∀ b, b < 3 → ∀ c, c < 3 → dgt B b = 0 → (B + c * 3 ^ b < 27 ∧ ∀ b', b' < 3 → dgt (B + c * 3 ^ b) b' = if b' = b then c else dgt B b') := by decide +kernel
def usd (B : Nat) : Nat := bset (fun b => decide (dgt B b ≠ 0)) 3
theorem usd_lt {B : Nat} : usd B < 256 := bset_lt _ 3 (by decide)
theorem usd_bit {B b : Nat} (hb : b < 3) : (usd B).testBit b = true ↔ dgt B b ≠ 0 := by
  unfold usd
  rw [bset_bit, decide_eq_true hb, Bool.true_and, decide_eq_true_eq]
theorem usd_up : ∀ B, B < 27 → ∀ b, b < 3 → ∀ c, c < 3 → dgt B b = 0 → (c = 0 ∨ usd (B + c * 3 ^ b) = usd B ||| 2 ^ b) := by decide +kernel
theorem key11 {W : zWo} (hW : WOK W) {k x : Nat} (hk : k < 8) (h : wKey W k = some x) : x < 8 ∨ (8 ≤ x ∧ x < 11) := by
  rcases hW.key k x hk h with q | q
  · exact Or.inl (wIs_lt q)
  · exact Or.inr (by omega)
/-- KEYS behind an opening: a beast may have done its own thing besides -/
theorem had_open {W : zWo} (hW : WOK W) {O B B' d : Nat} (hd : d < 8) (hB : ∀ b, b < 3 → (dgt B' b = 2 ↔ dgt B b = 2)) : hadW W (O ||| 2 ^ d) B' = hadW W O B ||| keysW W d := by
  apply Nat.eq_of_testBit_eq
  intro k
  rw [Nat.testBit_or]
  rcases Nat.lt_or_ge k 8 with hk | hk
  rotate_left
  · rw [tb_hi hadW_lt hk, tb_hi hadW_lt hk, tb_hi (keysW_lt W d) hk]
    rfl
  rw [hadW_bit hk, hadW_bit hk]
  unfold hasK
  cases q : wKey W k with
  | none =>
    have : (keysW W d).testBit k = false := by
      cases r : (keysW W d).testBit k with
      | false => rfl
      | true => rw [(keysW_bit W d hk).mp r] at q; cases q
    rw [this]
    rfl
  | some x =>
    have kb : (keysW W d).testBit k = decide (x = d) := by
      by_cases r : x = d
      · rw [decide_eq_true r]
        exact (keysW_bit W d hk).mpr (by rw [q, r])
      · rw [decide_eq_false r]
        cases s : (keysW W d).testBit k with
        | false => rfl
        | true =>
          have := (keysW_bit W d hk).mp s
          rw [q] at this
          exact absurd (Option.some.inj this) r
    rw [kb]
    rcases key11 hW hk q with hx | hx
    · simp only [hx, ↓reduceIte]
      rw [Nat.testBit_or, Nat.testBit_two_pow]
      by_cases r : x = d
      · rw [decide_eq_true r, decide_eq_true r.symm]
      · rw [decide_eq_false r, decide_eq_false (fun z => r z.symm)]
    · have n8 : ¬ x < 8 := by omega
      simp only [n8, ↓reduceIte]
      rw [decide_eq_false (show ¬ x = d by omega), Bool.or_false]
      by_cases r : dgt B (x - 8) = 2
      · rw [decide_eq_true r, decide_eq_true ((hB _ (by omega)).mpr r)]
      · rw [decide_eq_false r, decide_eq_false (fun z => r ((hB _ (by omega)).mp z))]
theorem had_same {W : zWo} (hW : WOK W) {O B B' : Nat} (hB : ∀ b, b < 3 → (dgt B' b = 2 ↔ dgt B b = 2)) : hadW W O B' = hadW W O B := by
  apply Nat.eq_of_testBit_eq
  intro k
  rcases Nat.lt_or_ge k 8 with hk | hk
  rotate_left
  · rw [tb_hi hadW_lt hk, tb_hi hadW_lt hk]
  rw [hadW_bit hk, hadW_bit hk]
  unfold hasK
  cases q : wKey W k with
  | none => rfl
  | some x =>
    rcases key11 hW hk q with hx | hx
    · simp only [hx, ↓reduceIte]
    · have n8 : ¬ x < 8 := by omega
      simp only [n8, ↓reduceIte]
      by_cases r : dgt B (x - 8) = 2
      · rw [decide_eq_true r, decide_eq_true ((hB _ (by omega)).mpr r)]
      · rw [decide_eq_false r, decide_eq_false (fun z => r ((hB _ (by omega)).mp z))]
theorem had_give {W : zWo} (hW : WOK W) {O B d : Nat} (hB : B < 27) (hd : d < 3) (h0 : dgt B d = 0) : hadW W O (B + 2 * 3 ^ d) = hadW W O B ||| keysW W (8 + d) := by
  obtain ⟨u1, u2⟩ := dgt_up B hB d hd 2 (by decide) h0
  apply Nat.eq_of_testBit_eq
  intro k
  rw [Nat.testBit_or]
  rcases Nat.lt_or_ge k 8 with hk | hk
  rotate_left
  · rw [tb_hi hadW_lt hk, tb_hi hadW_lt hk, tb_hi (keysW_lt W _) hk]
    rfl
  rw [hadW_bit hk, hadW_bit hk]
  unfold hasK
  cases q : wKey W k with
  | none =>
    have : (keysW W (8 + d)).testBit k = false := by
      cases r : (keysW W (8 + d)).testBit k with
      | false => rfl
      | true => rw [(keysW_bit W _ hk).mp r] at q; cases q
    rw [this]
    rfl
  | some x =>
    have kb : (keysW W (8 + d)).testBit k = decide (x = 8 + d) := by
      by_cases r : x = 8 + d
      · rw [decide_eq_true r]
        exact (keysW_bit W _ hk).mpr (by rw [q, r])
      · rw [decide_eq_false r]
        cases s : (keysW W (8 + d)).testBit k with
        | false => rfl
        | true =>
          have := (keysW_bit W _ hk).mp s
          rw [q] at this
          exact absurd (Option.some.inj this) r
    rw [kb]
    rcases key11 hW hk q with hx | hx
    · simp only [hx, ↓reduceIte]
      rw [decide_eq_false (show ¬ x = 8 + d by omega), Bool.or_false]
    · have n8 : ¬ x < 8 := by omega
      simp only [n8, ↓reduceIte]
      rw [u2 (x - 8) (by omega)]
      by_cases r : x - 8 = d
      · rw [if_pos r, decide_eq_true (show x = 8 + d by omega), Bool.or_true]
        rfl
      · rw [if_neg r, decide_eq_false (show ¬ x = 8 + d by omega), Bool.or_false]
/-! the reference's acts -/
theorem sub_or {a O q : Nat} (ha : a < 256) (hq : q < 8) : subB (2 ^ q ||| a) O = (O.testBit q && subB a O) := by
  have h := subB_i (O := O) (or_lt (pow_lt8 hq) ha)
  have h2 := subB_i (O := O) ha
  by_cases r : O.testBit q = true
  · rw [r, Bool.true_and]
    by_cases s : subB a O = true
    · rw [s]
      refine h.mpr (fun k hk hb => ?_)
      rw [Nat.testBit_or, Nat.testBit_two_pow, Bool.or_eq_true, decide_eq_true_eq] at hb
      rcases hb with hb | hb
      · rw [← hb]
        exact r
      · exact h2.mp s k hk hb
    · rw [Bool.eq_false_iff.mpr s]
      refine Bool.eq_false_iff.mpr (fun z => s (h2.mpr (fun k hk hb => h.mp z k hk ?_)))
      rw [Nat.testBit_or, hb, Bool.or_true]
  · rw [Bool.eq_false_iff.mpr r, Bool.false_and]
    refine Bool.eq_false_iff.mpr (fun z => r (h.mp z q hq ?_))
    rw [Nat.testBit_or, Nat.testBit_two_pow, decide_eq_true rfl, Bool.true_or]
theorem T_isFree {W : zWo} {σ : zSt} (hW : WOK W) (hM : EM 70 0 W σ) {O p : Nat} (hO : O < 256) (hp : p < 8) : F_X12_isFree (nI p) (nI O) σ = some (bI (subB (ancs W p) O = true), σ) := by
  have key : ∀ p, p < 8 → ∀ f, p < f → zfix (F_X12_isFree_7L (nI O)) f (e2 (wWin W p), σ) = some (bI (subB (ancs W p) O = true), σ) := by
    intro p
    induction p using Nat.strongRecOn with
    | ind p ih =>
      intro hp f hf
      obtain ⟨f, rfl⟩ : ∃ g, f = g + 1 := ⟨f - 1, by omega⟩
      show F_X12_isFree_7 (nI O) (zfix (F_X12_isFree_7L (nI O)) f) (e2 (wWin W p)) σ = _
      unfold F_X12_isFree_7
      cases hw : wWin W p with
      | none =>
        rw [if_pos (show e2 none < 0 by decide), ancs_0 hw, bI_t (show subB 0 O = true by unfold subB; simp)]
      | some q =>
        have hq := (hW.win p q hp hw).1
        have e4 : σ.1 72 q = e2 (wWin W q) := hM.2.2.1 q (by omega)
        rw [if_neg (show ¬ e2 (some q) < 0 from nI_pos (by omega)), show e2 (some q) = nI q from rfl, T_has (And.intro hO (show q < 8 by omega)), bd_s, gd_n (by omega), nI_cl (by omega), e4, nm_s, ancs_s hW hp hw, sub_or (ancs_lt hW (by omega)) (by omega)]
        by_cases r : O.testBit q = true
        · rw [bI_t r, if_neg (show ¬ (1 : Int32) = 0 by decide), ih q hq (by omega) f (by omega), r, Bool.true_and]
        · rw [bI_f r, if_pos (show (0 : Int32) = 0 from rfl), Bool.eq_false_iff.mpr r, Bool.false_and, bI_f (fun z => by cases z)]
  have e4 : σ.1 72 p = e2 (wWin W p) := hM.2.2.1 p hp
  unfold F_X12_isFree F_X12_isFree_0
  rw [gd_n (by omega), nI_cl (by omega), e4, nm_s]
  exact key p hp zlim (by show p < 1000000; omega)
theorem T_aims {W : zWo} {σ : zSt} (hW : WOK W) (hM : EM 70 0 W σ) : F_X12_aims σ = some (nI (golW W), σ) := by
  have key : ∀ j p f a, p < 8 → 8 ≤ p + j → j + 1 < f → zfix F_X12_aims_7L f (nI a, nI p, σ) = some (nI (a ||| golF W 8 p), σ) := by
    intro j
    induction j with
    | zero => intro p f a hp h; omega
    | succ j ih =>
      intro p f a hp h hf
      obtain ⟨f, rfl⟩ : ∃ q, f = q + 1 := ⟨f - 1, by omega⟩
      show F_X12_aims_7 (zfix F_X12_aims_7L f) (nI a) (nI p) σ = _
      have e6 : σ.1 74 p = e2 (wFli W p) := hM.2.2.2.2.1 p hp
      unfold F_X12_aims_7
      rw [if_neg (nI_pos (by omega)), bit_1 p hp, nI_or, nm_s, gd_n (by omega), nI_cl (by omega), e6, nm_s, golF_s hW hp]
      cases q : wFli W p with
      | none =>
        obtain ⟨f, rfl⟩ : ∃ q, f = q + 1 := ⟨f - 1, by omega⟩
        show F_X12_aims_7 (zfix F_X12_aims_7L f) (nI (a ||| 2 ^ p)) (-2) σ = _
        unfold F_X12_aims_7
        rw [if_pos (by decide), Nat.or_zero]
      | some r =>
        obtain ⟨b1, b2⟩ := hW.fli p r hp q
        show zfix F_X12_aims_7L f (nI (a ||| 2 ^ p), nI r, σ) = _
        rw [ih r f (a ||| 2 ^ p) (wIs_lt b2) (by omega) (by omega), Nat.or_assoc]
  have e2' : σ.1 69 2 = nI (wHea W) := hM.2.2.2.2.2.2.2.2.1
  unfold F_X12_aims F_X12_aims_0
  rw [e2']
  refine (key 8 (wHea W) zlim 0 hW.hea (by omega) (by show 9 < 1000000; decide)).trans ?_
  rw [Nat.zero_or]
  rfl
theorem T_isHadM {W : zWo} {σ : zSt} (hW : WOK W) (hM : EM 70 0 W σ) {O : Nat} (hO : O < 256) : F_X12_isHad (nI O) σ = some (bI (wIs W (wHea W) = true ∧ subB (golW W) O = true), σ) := by
  have e2' : σ.1 69 2 = nI (wHea W) := hM.2.2.2.2.2.2.2.2.1
  have hh := hW.hea
  have lt : golW W &&& (O ^^^ 255) < 256 := and_lt (golW_lt hW)
  unfold F_X12_isHad F_X12_isHad_0
  rw [e2', T_isPlace hW hM, bd_s]
  by_cases q : wIs W (wHea W) = true
  · rw [bI_t ((isT_n (by omega)).mpr q), if_neg (show ¬ (1 : Int32) = 0 by decide), T_aims hW hM, bd_s, nI_andn (golW_lt hW) hO]
    by_cases r : golW W &&& (O ^^^ 255) = 0
    · rw [if_pos (by rw [r]; rfl), bI_t ⟨q, decide_eq_true r⟩]
    · rw [if_neg (by rw [nI_e0 (by omega)]; exact r), bI_f (fun z => r (of_decide_eq_true z.2))]
  · rw [bI_f (fun z => q ((isT_n (by omega)).mp z)), if_pos (show (0 : Int32) = 0 from rfl), bI_f (fun z => q z.1)]
theorem T_canOpen {W : zWo} {σ : zSt} (hW : WOK W) (hM : EM 70 0 W σ) {O B i l d : Nat} (hO : O < 256) (hi : i < 4) (hd : d < 8) (hl : l = 2 ∨ (l = 3 ∧ dgt B 1 = 0) ∨ (l = 4 ∧ dgt B 2 = 0)) : F_X12_canOpen (nI d) (nI l) (nI i) (nI O) (nI (hadW W O B)) σ = some (bI ((canW W O B i l).testBit d = true), σ) := by
  have e1' : σ.1 69 1 = nI (wWet W) := hM.2.2.2.2.2.2.2.1
  have e73 : σ.1 73 d = e2 (wLok W d) := hM.2.2.2.1 d hd
  have isl := islW_lt hW hd
  have no : ¬ opn W O i d → bI ((canW W O B i l).testBit d = true) = 0 := by
    intro h
    refine bI_f (fun z => h ?_)
    rcases hl with rfl | ⟨rfl, q⟩ | ⟨rfl, q⟩
    · exact ((can_2 hd).mp z).1
    · exact ((can_3 hd).mp z).2.1
    · exact ((can_4 hd).mp z).2.1
  unfold F_X12_canOpen F_X12_canOpen_0
  rw [T_isPlace hW hM, bd_s]
  by_cases q1 : wIs W d = true
  rotate_left
  · rw [bI_f (fun z => q1 ((isT_n (by omega)).mp z)), if_pos (show (0 : Int32) = 0 from rfl), no (fun z => q1 z.1)]
  rw [bI_t ((isT_n (by omega)).mpr q1), if_neg (show ¬ (1 : Int32) = 0 by decide), T_has (And.intro hO hd), bd_s]
  by_cases q2 : O.testBit d = true
  · rw [bI_t q2, if_neg (show ¬ (1 : Int32) = 0 by decide), no (fun z => by rw [z.2.2] at q2; cases q2)]
  rw [bI_f q2, if_pos (show (0 : Int32) = 0 from rfl), t_islandBy hW hM hd, bd_s, if_eqI (by omega)]
  by_cases q3 : islW W d = i
  rotate_left
  · rw [if_neg q3, no (fun z => q3 z.2.1)]
  have ho : opn W O i d := ⟨q1, q3, Bool.eq_false_iff.mpr q2⟩
  rw [if_pos q3]
  rcases hl with rfl | ⟨rfl, q⟩ | ⟨rfl, q⟩
  · rw [if_neg (show ¬ nI 2 = 4 by decide), T_isFree hW hM hO hd, bd_s]
    by_cases q4 : subB (ancs W d) O = true
    rotate_left
    · rw [bI_f q4, if_pos (show (0 : Int32) = 0 from rfl), bI_f (fun z => q4 ((can_2 hd).mp z).2.1)]
    rw [bI_t q4, if_neg (show ¬ (1 : Int32) = 0 by decide), if_neg (show ¬ nI 2 = 3 by decide), gd_n (by omega), nI_cl (by omega), e73]
    cases q5 : wLok W d with
    | none =>
      rw [if_pos (show e2 none < 0 by decide), bI_t ((can_2 hd).mpr ⟨ho, q4, by unfold lokB; rw [q5]⟩)]
    | some k =>
      have hk := hW.lok d k hd q5
      have lk : lokB W O B d = hasK W O B k := by unfold lokB; rw [q5]
      rw [if_neg (show ¬ e2 (some k) < 0 from nI_pos (by omega)), gd_n (by omega), show e2 (some k) = nI k from rfl, T_has (And.intro hadW_lt hk), bd_s, hadW_bit hk]
      by_cases q6 : hasK W O B k = true
      · rw [bI_t q6, if_neg (show ¬ (1 : Int32) = 0 by decide), bI_t ((can_2 hd).mpr ⟨ho, q4, lk.trans q6⟩)]
      · rw [bI_f q6, if_pos (show (0 : Int32) = 0 from rfl), bI_f (fun z => q6 (lk.symm.trans ((can_2 hd).mp z).2.2))]
  · rw [if_neg (show ¬ nI 3 = 4 by decide), T_isFree hW hM hO hd, bd_s]
    by_cases q4 : subB (ancs W d) O = true
    rotate_left
    · rw [bI_f q4, if_pos (show (0 : Int32) = 0 from rfl), bI_f (fun z => q4 ((can_3 hd).mp z).2.2.1)]
    rw [bI_t q4, if_neg (show ¬ (1 : Int32) = 0 by decide), if_pos (show nI 3 = 3 from rfl), e1', T_has (And.intro hW.wet hd), bd_s]
    by_cases q5 : (wWet W).testBit d = true
    · rw [bI_t q5, if_neg (show ¬ (1 : Int32) = 0 by decide), bI_f (fun z => by rw [((can_3 hd).mp z).2.2.2] at q5; cases q5)]
    · rw [bI_f q5, if_pos (show (0 : Int32) = 0 from rfl), bI_t ((can_3 hd).mpr ⟨q, ho, q4, Bool.eq_false_iff.mpr q5⟩)]
  · rw [if_pos (show nI 4 = 4 from rfl), e1', T_has (And.intro hW.wet hd), bd_s, gd_01]
    refine congrArg (fun x => some (x, σ)) (bI_c ⟨fun z => (can_4 hd).mpr ⟨q, ho, z⟩, fun z => ((can_4 hd).mp z).2.2⟩)
def bfor (l d : Nat) : Option Nat := if l = 1 then some 0 else if l = 3 then some 1 else if l = 4 then some 2 else if l = 5 then some d else none
theorem T_beastFor {σ : zSt} {l d : Nat} (hl : l < 6) : F_X12_beastFor (nI l) (nI d) σ = some (e1 (bfor l d), σ) := by
  revert l
  exact fun {l} hl => case6 (P := fun l => F_X12_beastFor (nI l) (nI d) σ = some (e1 (bfor l d), σ)) rfl rfl rfl rfl rfl rfl l hl
/-- the reference's seeker -/
def MS (W : zWo) (O B i D : Nat) (σ : zSt) : Prop := σ.1 69 37 = nI i ∧ σ.1 69 38 = nI O ∧ σ.1 69 39 = nI (hadW W O B) ∧ σ.1 69 40 = nI (usd B) ∧ σ.1 69 41 = nI D
def SJ : List (Nat × Nat) := [(69, 37), (69, 38), (69, 39), (69, 40), (69, 41)]
theorem acB_e {B : Nat} (l d : Nat) : (bfor l d = none → acB B l d = B) ∧ ∀ b, bfor l d = some b → acB B l d = B + (if l = 5 then 2 else 1) * 3 ^ b := by
  unfold bfor acB
  by_cases q1 : l = 1
  · subst q1
    exact ⟨fun (h : some 0 = none) => (by cases h), fun b (h : some 0 = some b) => (by cases h; rfl)⟩
  by_cases q3 : l = 3
  · subst q3
    exact ⟨fun (h : some 1 = none) => (by cases h), fun b (h : some 1 = some b) => (by cases h; rfl)⟩
  by_cases q4 : l = 4
  · subst q4
    exact ⟨fun (h : some 2 = none) => (by cases h), fun b (h : some 2 = some b) => (by cases h; rfl)⟩
  by_cases q5 : l = 5
  · subst q5
    exact ⟨fun (h : some d = none) => (by cases h), fun b (h : some d = some b) => (by cases h; rfl)⟩
  simp only [q1, q3, q4, q5, ↓reduceIte]
  exact ⟨fun _ => trivial, fun b h => (by cases h)⟩
theorem T_does198 {σ : zSt} {B l d : Nat} (hB : B < 27) (hl : l < 6) (hd : d < dgs l) (e : σ.1 69 40 = nI (usd B)) (h0 : ∀ b, bfor l d = some b → dgt B b = 0) : wp (F_X12_does_198 (e1 (bfor l d)) σ) (fun a τ => a = 1 ∧ fr [] [(69, 40)] σ τ ∧ τ.1 69 40 = nI (usd (acB B l d))) := by
  obtain ⟨a1, a2⟩ := acB_e (B := B) l d
  unfold F_X12_does_198
  cases q : bfor l d with
  | none =>
    rw [if_pos (show e1 none = -1 from rfl), a1 q]
    exact wp_some ⟨rfl, fr.rf, e⟩
  | some b =>
    have hb : b < 3 := by
      unfold bfor at q
      repeat' split at q
      all_goals first | (cases q; done) | (cases q; decide) | skip
      cases q
      rename_i h5
      rw [h5] at hd
      exact hd
    have hz := h0 b q
    rw [if_neg (show ¬ e1 (some b) = -1 from e1_n (by omega)), a2 b q, e, show e1 (some b) = nI b from rfl, bit_1 b (by omega), nI_or, nm_s]
    refine wp_some ⟨rfl, fr_w (Or.inr (by decide)), ?_⟩
    rw [zwr_at]
    by_cases h5 : l = 5
    · rw [if_pos h5, (usd_up B hB b hb 2 (by decide) hz).resolve_left (by decide)]
    · rw [if_neg h5, (usd_up B hB b hb 1 (by decide) hz).resolve_left (by decide)]
theorem acB_2 {B l d : Nat} (hB : B < 27) (hl : l < 6) (h5 : l ≠ 5) (h0 : ∀ b, bfor l d = some b → dgt B b = 0) : ∀ b, b < 3 → (dgt (acB B l d) b = 2 ↔ dgt B b = 2) := by
  obtain ⟨a1, a2⟩ := acB_e (B := B) l d
  intro b hb
  cases q : bfor l d with
  | none => rw [a1 q]
  | some c =>
    have hc : c < 3 := by
      unfold bfor at q
      repeat' split at q
      all_goals first | (cases q; done) | (cases q; decide) | skip
    obtain ⟨u1, u2⟩ := dgt_up B hB c hc 1 (by decide) (h0 c q)
    rw [a2 c q, if_neg h5, u2 b hb]
    by_cases z : b = c
    · rw [if_pos z, z, h0 c q]
      decide
    · rw [if_neg z]
theorem T_does {W : zWo} {σ : zSt} (hW : WOK W) (hM : EM 70 0 W σ) {O B i D l d : Nat} (hO : O < 256) (hB : B < 27) (hi : i < 4) (hl : l < 6) (hd : d < dgs l) (hS : MS W O B i D σ) : ((canW W O B i l).testBit d = true → wp (F_X12_does (nI l) (nI d) σ) (fun a τ => a = 1 ∧ fr [] SJ σ τ ∧ MS W (acO O l d) (acB B l d) (acI i l d) (D + dyW W i l d) τ)) ∧ ((canW W O B i l).testBit d = false → F_X12_does (nI l) (nI d) σ = some (0, σ)) := by
  obtain ⟨m1, m2, m3, m4', m5⟩ := hS
  have hd8 : d < 8 := by
    have := dgs_le l hl
    omega
  -- the beast
  have E0 : F_X12_does (nI l) (nI d) σ = @ite _ (∀ b, bfor l d = some b → dgt B b = 0) (Classical.propDecidable _) (F_X12_does_24 (nI l) (nI d) (e1 (bfor l d)) σ) (some (0, σ)) := by
    unfold F_X12_does F_X12_does_0
    rw [T_beastFor hl, bd_s]
    cases q : bfor l d with
    | none =>
      rw [if_pos (show e1 none = -1 from rfl), if_pos (fun b h => by cases h)]
    | some b =>
      have hb : b < 3 := by
        unfold bfor at q
        repeat' split at q
        all_goals first | (cases q; done) | (cases q; decide) | skip
        cases q
        rename_i h5
        rw [h5] at hd
        exact hd
      rw [if_neg (show ¬ e1 (some b) = -1 from e1_n (by omega)), m4', show e1 (some b) = nI b from rfl, T_has (And.intro usd_lt (show b < 8 by omega)), bd_s]
      by_cases z : dgt B b = 0
      · rw [bI_f (fun y => (usd_bit hb).mp y z), if_pos (show (0 : Int32) = 0 from rfl), if_pos (fun c h => by cases h; exact z)]
      · rw [bI_t ((usd_bit hb).mpr z), if_neg (show ¬ (1 : Int32) = 0 by decide), if_neg (fun y => z (y b rfl))]
  rw [E0]
  by_cases hz : ∀ b, bfor l d = some b → dgt B b = 0
  rotate_left
  · rw [if_neg hz]
    refine ⟨fun h => absurd ?_ hz, fun _ => rfl⟩
    have e : l = 0 ∨ l = 1 ∨ l = 2 ∨ l = 3 ∨ l = 4 ∨ l = 5 := by omega
    rcases e with rfl | rfl | rfl | rfl | rfl | rfl
    · exact fun b q => by cases q
    · exact fun b q => by cases q; exact ((can_1 hi hd8).mp h).1
    · exact fun b q => by cases q
    · exact fun b q => by cases q; exact ((can_3 hd8).mp h).1
    · exact fun b q => by cases q; exact ((can_4 hd8).mp h).1
    · exact fun b q => by cases q; exact (can_5.mp h).2.1
  rw [if_pos hz]
  -- going and flying
  have go : l ≤ 1 → ((canW W O B i l).testBit d = true → wp (F_X12_does_33 (nI l) (nI d) (e1 (bfor l d)) σ) (fun a τ => a = 1 ∧ fr [] SJ σ τ ∧ MS W (acO O l d) (acB B l d) (acI i l d) (D + dyW W i l d) τ)) ∧ ((canW W O B i l).testBit d = false → F_X12_does_33 (nI l) (nI d) (e1 (bfor l d)) σ = some (0, σ)) := by
    intro hl1
    have hd4 : d < 4 := by
      have e : l = 0 ∨ l = 1 := by omega
      rcases e with rfl | rfl <;> exact hd
    have e70 : σ.1 70 (4 * i + d) = nI (wWay W (4 * i + d)) := hM.1 _ (by omega)
    have w30 : wWay W (4 * i + d) ≤ 30 := hW.1 _ (by omega)
    have hdy : ∀ v, v = dyW W i l d → wp (F_X12_does_89 (nI d) (e1 (bfor l d)) (nI v) (nI D) σ) (fun a τ => a = 1 ∧ fr [] SJ σ τ ∧ MS W (acO O l d) (acB B l d) (acI i l d) (D + dyW W i l d) τ) := by
      intro v hv
      subst hv
      unfold F_X12_does_89
      rw [nI_add]
      refine wp_let (fun a ha => ?_)
      refine wp_let (fun b hb => ?_)
      have fb : fr [] SJ σ b := by
        rw [hb, ha]
        exact (fr_w (Or.inr (by decide))).w (Or.inr (by decide))
      have b40 : b.1 69 40 = nI (usd B) := by rw [hb, zwr_ne (Or.inr (by decide)), ha, zwr_ne (Or.inr (by decide)), m4']
      refine wp_mono (T_does198 hB hl hd b40 hz) (fun x τ h => ?_)
      obtain ⟨h1, h2, h3⟩ := h
      refine ⟨h1, fb.tr (h2.mono (by decide)), ?_, ?_, ?_, h3, ?_⟩
      · rw [h2.rd (by decide) (by decide), hb, zwr_at]
        unfold acI
        rw [if_pos hl1]
      · rw [h2.rd (by decide) (by decide), hb, zwr_ne (Or.inr (by decide)), ha, zwr_ne (Or.inr (by decide)), m2]
        unfold acO
        rw [if_neg (by omega)]
      · rw [h2.rd (by decide) (by decide), hb, zwr_ne (Or.inr (by decide)), ha, zwr_ne (Or.inr (by decide)), m3]
        unfold acO
        rw [if_neg (by omega), had_same hW (acB_2 hB hl (by omega) hz)]
      · rw [h2.rd (by decide) (by decide), hb, zwr_ne (Or.inr (by decide)), ha, zwr_at]
    unfold F_X12_does_33 F_X12_does_63
    rw [m1, m4, nI_add, gd_n (by omega), gd_n (by omega), nI_cl (by omega), e70, m5, if_eqI (by omega)]
    have e : l = 0 ∨ l = 1 := by omega
    rcases e with rfl | rfl
    · refine ⟨fun h => ?_, fun h => ?_⟩
      · have hc := (can_0.mp h).2
        have hdi : ¬ d = i := by
          intro q
          subst q
          rw [show 4 * d + d = 5 * d by omega, hW.2.1 d hi] at hc
          omega
        rw [if_neg hdi, if_pos (show nI 0 = 0 from rfl), if_neg (by rw [nI_e0 (by omega)]; omega), if_pos (show nI 0 = 0 from rfl)]
        exact hdy _ rfl
      · have hc : ¬ 0 < wWay W (4 * i + d) := by
          intro q
          rw [can_0.mpr ⟨hd4, q⟩] at h
          cases h
        by_cases hdi : d = i
        · rw [if_pos hdi]
        · rw [if_neg hdi, if_pos (show nI 0 = 0 from rfl), show wWay W (4 * i + d) = 0 by omega, if_pos (show nI 0 = 0 from rfl)]
    · refine ⟨fun h => ?_, fun h => ?_⟩
      · have hc := (can_1 hi hd8).mp h
        rw [if_neg hc.2.2, if_neg (show ¬ nI 1 = 0 by decide), if_neg (show ¬ nI 1 = 0 by decide)]
        exact hdy 1 rfl
      · have hdi : d = i := by
          refine Classical.byContradiction (fun q => ?_)
          rw [(can_1 hi hd8).mpr ⟨hz 0 rfl, hd4, q⟩] at h
          cases h
        rw [if_pos hdi]
  -- opening
  have op : 2 ≤ l → l ≤ 4 → ((canW W O B i l).testBit d = true → wp (F_X12_does_24 (nI l) (nI d) (e1 (bfor l d)) σ) (fun a τ => a = 1 ∧ fr [] SJ σ τ ∧ MS W (acO O l d) (acB B l d) (acI i l d) (D + dyW W i l d) τ)) ∧ ((canW W O B i l).testBit d = false → F_X12_does_24 (nI l) (nI d) (e1 (bfor l d)) σ = some (0, σ)) := by
    intro l2 l4
    have hl' : l = 2 ∨ (l = 3 ∧ dgt B 1 = 0) ∨ (l = 4 ∧ dgt B 2 = 0) := by
      have e : l = 2 ∨ l = 3 ∨ l = 4 := by omega
      rcases e with rfl | rfl | rfl
      · exact Or.inl rfl
      · exact Or.inr (Or.inl ⟨rfl, hz 1 rfl⟩)
      · exact Or.inr (Or.inr ⟨rfl, hz 2 rfl⟩)
    have n0 : ¬ nI l = 0 := nI_ne0 (by omega) (by omega)
    have n1 : ¬ nI l = 1 := fun q => by
      have := (nI_eq (b := 1) (by omega) (by decide)).mp q
      omega
    have n5 : ¬ nI l = 5 := fun q => by
      have := (nI_eq (b := 5) (by omega) (by decide)).mp q
      omega
    unfold F_X12_does_24
    rw [if_neg n0, if_neg n1, if_neg n5, m1, m2, m3, T_canOpen hW hM hO hi hd8 hl', bd_s]
    refine ⟨fun h => ?_, fun h => ?_⟩
    · rw [bI_t h, if_neg (show ¬ (1 : Int32) = 0 by decide), bit_1 d hd8, m2, nI_or]
      refine wp_let (fun a ha => ?_)
      have fa : fr [] SJ σ a := ha ▸ fr_w (Or.inr (by decide))
      have a39 : a.1 69 39 = nI (hadW W O B) := by rw [ha, zwr_ne (Or.inr (by decide)), m3]
      rw [T_keysAt hW (fa.EM (by decide) hM) (by omega), bd_s, a39, nI_or]
      refine wp_let (fun b hb => ?_)
      have b41 : b.1 69 41 = nI D := by rw [hb, zwr_ne (Or.inr (by decide)), ha, zwr_ne (Or.inr (by decide)), m5]
      rw [b41, nI_1]
      refine wp_let (fun c hc => ?_)
      have fc : fr [] SJ σ c := by
        rw [hc, hb]
        exact (fa.w (Or.inr (by decide))).w (Or.inr (by decide))
      have c40 : c.1 69 40 = nI (usd B) := by rw [hc, zwr_ne (Or.inr (by decide)), hb, zwr_ne (Or.inr (by decide)), ha, zwr_ne (Or.inr (by decide)), m4']
      refine wp_mono (T_does198 hB hl hd c40 hz) (fun x τ g => ?_)
      obtain ⟨h1, h2, h3⟩ := g
      refine ⟨h1, fc.tr (h2.mono (by decide)), ?_, ?_, ?_, h3, ?_⟩
      · rw [h2.rd (by decide) (by decide), hc, zwr_ne (Or.inr (by decide)), hb, zwr_ne (Or.inr (by decide)), ha, zwr_ne (Or.inr (by decide)), m1]
        unfold acI
        rw [if_neg (by omega)]
      · rw [h2.rd (by decide) (by decide), hc, zwr_ne (Or.inr (by decide)), hb, zwr_ne (Or.inr (by decide)), ha, zwr_at]
        unfold acO
        rw [if_pos ⟨l2, l4⟩]
      · rw [h2.rd (by decide) (by decide), hc, zwr_ne (Or.inr (by decide)), hb, zwr_at]
        unfold acO
        rw [if_pos ⟨l2, l4⟩, had_open hW hd8 (acB_2 hB hl (by omega) hz)]
      · rw [h2.rd (by decide) (by decide), hc, zwr_at]
        unfold dyW
        rw [if_neg (by omega), if_neg (by omega)]
    · rw [bI_f (fun z => by rw [h] at z; cases z), if_pos (show (0 : Int32) = 0 from rfl)]
  have e : l ≤ 1 ∨ (2 ≤ l ∧ l ≤ 4) ∨ l = 5 := by omega
  rcases e with h1 | ⟨h1, h2⟩ | rfl
  · have E1 : F_X12_does_24 (nI l) (nI d) (e1 (bfor l d)) σ = F_X12_does_33 (nI l) (nI d) (e1 (bfor l d)) σ := by
      unfold F_X12_does_24
      have e : l = 0 ∨ l = 1 := by omega
      rcases e with rfl | rfl
      · rw [if_pos (show nI 0 = 0 from rfl)]
      · rw [if_neg (show ¬ nI 1 = 0 by decide), if_pos (show nI 1 = 1 from rfl)]
    rw [E1]
    exact go h1
  · exact op h1 h2
  · have hd3 : d < 3 := hd
    have kl := keysW_lt W (8 + d)
    unfold F_X12_does_24
    rw [if_neg (show ¬ nI 5 = 0 by decide), if_neg (show ¬ nI 5 = 1 by decide), if_pos (show nI 5 = 5 from rfl), show (8 : Int32) + nI d = nI (8 + d) from nI_add 8 d, T_keysAt hW hM (by omega), bd_s, T_keysAt hW hM (by omega), bd_s, m3, nI_or]
    refine ⟨fun h => ?_, fun h => ?_⟩
    · have hc := can_5.mp h
      rw [if_neg (by rw [nI_e0 (by omega)]; exact hc.2.2)]
      refine wp_let (fun a ha => ?_)
      have fa : fr [] SJ σ a := ha ▸ fr_w (Or.inr (by decide))
      have a40 : a.1 69 40 = nI (usd B) := by rw [ha, zwr_ne (Or.inr (by decide)), m4']
      refine wp_mono (T_does198 hB hl hd a40 hz) (fun x τ g => ?_)
      obtain ⟨h1, h2, h3⟩ := g
      refine ⟨h1, fa.tr (h2.mono (by decide)), ?_, ?_, ?_, h3, ?_⟩
      · rw [h2.rd (by decide) (by decide), ha, zwr_ne (Or.inr (by decide)), m1]
        rfl
      · rw [h2.rd (by decide) (by decide), ha, zwr_ne (Or.inr (by decide)), m2]
        rfl
      · rw [h2.rd (by decide) (by decide), ha, zwr_at, ← had_give hW hB hd3 hc.2.1]
        rfl
      · rw [h2.rd (by decide) (by decide), ha, zwr_ne (Or.inr (by decide)), m5]
        rfl
    · have hc : keysW W (8 + d) = 0 := by
        refine Classical.byContradiction (fun q => ?_)
        rw [can_5.mpr ⟨hd3, hz d rfl, q⟩] at h
        cases h
      rw [hc, if_pos (show nI 0 = 0 from rfl)]
/-- what a step leaves -/
theorem ac_ok {W : zWo} {O B i l d : Nat} (hO : O < 256) (hB : B < 27) (hi : i < 4) (hl : l < 6) (hd : d < 8) (h : (canW W O B i l).testBit d = true) : acO O l d < 256 ∧ acB B l d < 27 ∧ acI i l d < 4 ∧ (subB O (wTol W) = true → subB (acO O l d) (wTol W) = true) := by
  have hdg := can_dg hi hl hd h
  have hz : ∀ b, bfor l d = some b → dgt B b = 0 := by
    have e : l = 0 ∨ l = 1 ∨ l = 2 ∨ l = 3 ∨ l = 4 ∨ l = 5 := by omega
    rcases e with rfl | rfl | rfl | rfl | rfl | rfl
    · exact fun b q => by cases q
    · exact fun b q => by cases q; exact ((can_1 hi hd).mp h).1
    · exact fun b q => by cases q
    · exact fun b q => by cases q; exact ((can_3 hd).mp h).1
    · exact fun b q => by cases q; exact ((can_4 hd).mp h).1
    · exact fun b q => by cases q; exact (can_5.mp h).2.1
  refine ⟨?_, ?_, ?_, fun hs => ?_⟩
  · unfold acO
    split
    · exact or_lt hO (pow_lt8 hd)
    · exact hO
  · obtain ⟨a1, a2⟩ := acB_e (B := B) l d
    cases q : bfor l d with
    | none => rw [a1 q]; exact hB
    | some b =>
      have hb : b < 3 := by
        unfold bfor at q
        repeat' split at q
        all_goals first | (cases q; done) | (cases q; decide) | skip
        cases q
        rename_i h5
        rw [h5] at hdg
        exact hdg
      rw [a2 b q]
      split
      · exact (dgt_up B hB b hb 2 (by decide) (hz b q)).1
      · exact (dgt_up B hB b hb 1 (by decide) (hz b q)).1
  · unfold acI
    split
    · have e : l = 0 ∨ l = 1 := by omega
      rcases e with rfl | rfl <;> exact hdg
    · exact hi
  · unfold acO
    split
    · rename_i hl24
      have ho : opn W O i d := by
        have e : l = 2 ∨ l = 3 ∨ l = 4 := by omega
        rcases e with rfl | rfl | rfl
        · exact ((can_2 hd).mp h).1
        · exact ((can_3 hd).mp h).2.1
        · exact ((can_4 hd).mp h).2.1
      rw [Nat.or_comm, sub_or hO hd, hs, Bool.and_true, ← wIs_bit hd]
      exact ho.1
    · exact hs
/-- a tale judged: fuel, which, opened, beasts, island, days -/
def jdg (W : zWo) (kd dg : Nat → Nat) : Nat → Nat → Nat → Nat → Nat → Nat → Nat × Nat × Nat × Nat × Nat
  | 0, k, O, B, i, D => (k, O, B, i, D)
  | f + 1, k, O, B, i, D => if (canW W O B i (kd k)).testBit (dg k) then jdg W kd dg f (k + 1) (acO O (kd k) (dg k)) (acB B (kd k) (dg k)) (acI i (kd k) (dg k)) (D + dyW W i (kd k) (dg k)) else (k, O, B, i, D)
noncomputable def jA (W : zWo) (x2 : Int32) (r : Nat × Nat × Nat × Nat × Nat) : Int32 :=
  if x2 = 0 then nI r.1 else if x2 = 1 then nI r.2.2.2.2 else if x2 = 2 then nI r.2.1 else if x2 = 3 then nI (hadW W r.2.1 r.2.2.1) else if x2 = 4 then nI r.2.2.2.1 else bI (subB (golW W) r.2.1 = true)
theorem T_j106 {W : zWo} {σ : zSt} (hW : WOK W) (hS : SK W σ) {O B i k D : Nat} (hO : O < 256) (h : ST W O B i σ) (x2 : Int32) : F_X7_judged_106 x2 (nI D) (nI k) σ = some (jA W x2 (k, O, B, i, D), σ) := by
  obtain ⟨⟨e8, e9, e10, -⟩, e7, -⟩ := h
  unfold F_X7_judged_106 jA
  rw [e8, e10, e7, T_isHadC hW hS hO, bd_s]
  by_cases z0 : x2 = 0
  · rw [if_pos z0, if_pos z0]
  rw [if_neg z0, if_neg z0]
  by_cases z1 : x2 = 1
  · rw [if_pos z1, if_pos z1]
  rw [if_neg z1, if_neg z1]
  by_cases z2 : x2 = 2
  · rw [if_pos z2, if_pos z2]
  rw [if_neg z2, if_neg z2]
  by_cases z3 : x2 = 3
  · rw [if_pos z3, if_pos z3]
  rw [if_neg z3, if_neg z3]
  by_cases z4 : x2 = 4
  · rw [if_pos z4, if_pos z4]
  rw [if_neg z4, if_neg z4]
  by_cases q : subB (golW W) O = true
  · rw [bI_t q, if_neg (show ¬ (1 : Int32) = 0 by decide)]
  · rw [bI_f q, if_pos (show (0 : Int32) = 0 from rfl)]
theorem ACT_fr {r1 r2 m : Nat} {kd dg : Nat → Nat} {σ τ : zSt} {L : List Nat} {S : List (Nat × Nat)} (h : ACT r1 r2 m kd dg σ) (f : fr L S σ τ) (h1 : (!L.contains r1 && S.all (fun q => q.1 != r1)) = true) (h2 : (!L.contains r2 && S.all (fun q => q.1 != r2)) = true) : ACT r1 r2 m kd dg τ := by
  intro j hj
  rw [f.row h1, f.row h2]
  exact h j hj
theorem T_judC {W : zWo} (hW : WOK W) {m : Nat} {kd dg : Nat → Nat} (x2 : Int32) : ∀ f fu k O B i D (σ : zSt), k + f = m → f < fu → m ≤ 32 → O < 256 → B < 27 → i < 4 → D ≤ 30 * k → SK W σ → ST W O B i σ → σ.1 44 2 = nI m → ACT 45 46 m kd dg σ → wp (zfix (F_X7_judged_14L x2) fu (nI D, nI k, σ)) (fun a τ => a = jA W x2 (jdg W kd dg f k O B i D) ∧ fr [23] ((17, 7) :: SE) σ τ) := by
  intro f
  induction f with
  | zero =>
    intro fu k O B i D σ hk hf hm hO hB hi hD hS h e2 hA
    obtain ⟨fu, rfl⟩ : ∃ q, fu = q + 1 := ⟨fu - 1, by omega⟩
    show wp (F_X7_judged_14 x2 (zfix (F_X7_judged_14L x2) fu) (nI D) (nI k) σ) _
    unfold F_X7_judged_14
    rw [e2, if_le (by omega), if_pos (by omega), T_j106 hW hS hO h]
    exact wp_some ⟨rfl, fr.rf⟩
  | succ f ih =>
    intro fu k O B i D σ hk hf hm hO hB hi hD hS h e2 hA
    obtain ⟨fu, rfl⟩ : ∃ q, fu = q + 1 := ⟨fu - 1, by omega⟩
    show wp (F_X7_judged_14 x2 (zfix (F_X7_judged_14L x2) fu) (nI D) (nI k) σ) _
    obtain ⟨a1, a2, a3, a4⟩ := hA k (by omega)
    have hd8 : dg k < 8 := by
      have := dgs_le _ a3
      omega
    have cl : canW W O B i (kd k) < 256 := by
      obtain ⟨-, -, h6⟩ := h
      have e : kd k = 0 ∨ kd k = 1 ∨ kd k = 2 ∨ kd k = 3 ∨ kd k = 4 ∨ kd k = 5 := by omega
      rcases e with e | e | e | e | e | e <;> rw [e]
      · exact wfrW_lt
      · exact and_lt ravW_lt
      · exact and_lt bykW_lt
      · exact and_lt bywW_lt
      · exact and_lt (bysW_lt hW)
      · exact givW_lt
    unfold F_X7_judged_14 F_X7_judged_54 jdg
    rw [e2, if_le (by omega), if_neg (by omega), show (32 : Int32) = nI 32 from rfl, if_le (by omega), if_neg (by omega), gd_n (by omega), nI_cl (by omega), a1, T_canBits h a3, bd_s, gd_n (by omega), a2, bit_01 _ cl _ hd8]
    by_cases q : (canW W O B i (kd k)).testBit (dg k) = true
    rotate_left
    · rw [Bool.eq_false_iff.mpr q, if_pos (show nI (false).toNat = 0 from rfl), T_j106 hW hS hO h, if_neg (show ¬ false = true by decide)]
      exact wp_some ⟨rfl, fr.rf⟩
    rw [q, if_neg (show ¬ nI (true).toNat = 0 by decide), if_pos rfl, gd_n (by omega), gd_n (by omega), a1, T_daysOf hS h hi a3 (fun z => by rw [z] at a4; exact a4), bd_s, nI_add, nm_s, gd_n (by omega), gd_n (by omega), a1, a2, T_after h a3 hd8 (fun z => by rw [z] at a4; exact a4), bd_s]
    obtain ⟨k1, k2, k3, k4⟩ := ac_ok hO hB hi a3 hd8 q
    have dl : dyW W i (kd k) (dg k) ≤ 30 := by
      unfold dyW
      split
      · rename_i z
        rw [z] at a4
        have a4' : dg k < 4 := a4
        exact hW.1 _ (by omega)
      · split <;> omega
    refine wp_bd2 (T_stand hW hS k1 k2 k3) (fun _ τ hτ => ?_)
    rw [nm_s, nI_1]
    refine wp_mono (ih fu (k + 1) _ _ _ _ τ (by omega) (by omega) hm k1 k2 k3 (by omega) (SK_fr hS hτ.1 (by decide)) hτ.2 ((hτ.1.rd (by decide) (by decide)).trans e2) (ACT_fr hA hτ.1 (by decide) (by decide))) (fun a υ g => ⟨g.1, hτ.1.tr g.2⟩)
theorem had_0 {W : zWo} : hadW W 0 0 = 0 := by
  apply Nat.eq_of_testBit_eq
  intro k
  rw [Nat.zero_testBit]
  rcases Nat.lt_or_ge k 8 with hk | hk
  rotate_left
  · exact tb_hi hadW_lt hk
  rw [hadW_bit hk]
  unfold hasK
  cases wKey W k with
  | none => rfl
  | some x =>
    simp only
    split
    · exact Nat.zero_testBit x
    · refine decide_eq_false ?_
      unfold dgt
      rw [Nat.zero_div]
      decide
theorem T_judM {W : zWo} (hW : WOK W) {m : Nat} {kd dg : Nat → Nat} (x2 : Int32) : ∀ f fu k O B i D (σ : zSt), k + f = m → f < fu → m ≤ 32 → O < 256 → B < 27 → i < 4 → subB O (wTol W) = true → EM 70 0 W σ → MS W O B i D σ → σ.1 69 42 = nI m → ACT 90 91 m kd dg σ → wp (zfix (F_X12_tale_110L x2) fu (nI k, σ)) (fun a τ => a = jA W x2 (jdg W kd dg f k O B i D) ∧ fr [] SJ σ τ) := by
  have fin : ∀ k O B i D (σ : zSt), O < 256 → subB O (wTol W) = true → EM 70 0 W σ → MS W O B i D σ → F_X12_tale_149 x2 (nI k) σ = some (jA W x2 (k, O, B, i, D), σ) := by
    intro k O B i D σ hO hs hM hS
    obtain ⟨m1, m2, m3, m4', m5⟩ := hS
    have hb : bI (wIs W (wHea W) = true ∧ subB (golW W) O = true) = bI (subB (golW W) O = true) := by
      refine bI_c ⟨fun z => z.2, fun z => ⟨?_, z⟩⟩
      have hg := (subB_i (golW_lt hW)).mp z (wHea W) hW.hea (by
        unfold golW golF
        rw [Nat.testBit_or, Nat.testBit_two_pow, decide_eq_true rfl, Bool.true_or])
      rw [wIs_bit hW.hea]
      exact (subB_i hO).mp hs _ hW.hea hg
    unfold F_X12_tale_149 jA
    rw [m5, m2, m3, m1, T_isHadM hW hM hO, bd_s, hb]
    by_cases z0 : x2 = 0
    · rw [if_pos z0, if_pos z0]
    rw [if_neg z0, if_neg z0]
    by_cases z1 : x2 = 1
    · rw [if_pos z1, if_pos z1]
    rw [if_neg z1, if_neg z1]
    by_cases z2 : x2 = 2
    · rw [if_pos z2, if_pos z2]
    rw [if_neg z2, if_neg z2]
    by_cases z3 : x2 = 3
    · rw [if_pos z3, if_pos z3]
    rw [if_neg z3, if_neg z3]
    by_cases z4 : x2 = 4
    · rw [if_pos z4, if_pos z4]
    rw [if_neg z4, if_neg z4]
    by_cases q : subB (golW W) O = true
    · rw [bI_t q, if_neg (show ¬ (1 : Int32) = 0 by decide)]
    · rw [bI_f q, if_pos (show (0 : Int32) = 0 from rfl)]
  intro f
  induction f with
  | zero =>
    intro fu k O B i D σ hk hf hm hO hB hi hs hM hS e2' hA
    obtain ⟨fu, rfl⟩ : ∃ q, fu = q + 1 := ⟨fu - 1, by omega⟩
    show wp (F_X12_tale_110 x2 (zfix (F_X12_tale_110L x2) fu) (nI k) σ) _
    unfold F_X12_tale_110
    rw [e2', if_le (by omega), if_pos (by omega), fin k O B i D σ hO hs hM hS]
    exact wp_some ⟨rfl, fr.rf⟩
  | succ f ih =>
    intro fu k O B i D σ hk hf hm hO hB hi hs hM hS e2' hA
    obtain ⟨fu, rfl⟩ : ∃ q, fu = q + 1 := ⟨fu - 1, by omega⟩
    show wp (F_X12_tale_110 x2 (zfix (F_X12_tale_110L x2) fu) (nI k) σ) _
    obtain ⟨a1, a2, a3, a4⟩ := hA k (by omega)
    have hd8 : dg k < 8 := by
      have := dgs_le _ a3
      omega
    obtain ⟨g1, g2⟩ := T_does hW hM hO hB hi a3 a4 hS
    unfold F_X12_tale_110 jdg
    rw [e2', if_le (by omega), if_neg (by omega), gd_n (by omega), gd_n (by omega), nI_cl (by omega), a1, a2]
    by_cases q : (canW W O B i (kd k)).testBit (dg k) = true
    rotate_left
    · rw [g2 (Bool.eq_false_iff.mpr q), bd_s, if_pos (show (0 : Int32) = 0 from rfl), fin k O B i D σ hO hs hM hS, if_neg q]
      exact wp_some ⟨rfl, fr.rf⟩
    obtain ⟨k1, k2, k3, k4⟩ := ac_ok hO hB hi a3 hd8 q
    refine wp_bd2 (g1 q) (fun a τ hτ => ?_)
    obtain ⟨rfl, t1, t2⟩ := hτ
    rw [if_neg (show ¬ (1 : Int32) = 0 by decide), nm_s, nI_1, if_pos q]
    refine wp_mono (ih fu (k + 1) _ _ _ _ τ (by omega) (by omega) hm k1 k2 k3 (k4 hs) (t1.EM (by decide) hM) t2 ((t1.rd (by decide) (by decide)).trans e2') (ACT_fr hA t1 (by decide) (by decide))) (fun a υ g => ⟨g.1, t1.tr g.2⟩)
theorem T_in_t100 {x : Int32} {σ : zSt} : F_X12_in x 1 100 σ = some (bI (1 ≤ x.toInt ∧ x.toInt ≤ 100), σ) := T_in
theorem s_tale {n : Nat} {σ : zSt} (hn : n < 512) (hR : Rel n σ) (x1 x2 : Int32) : Both n (F_X11_tale x1 x2) (F_X12_tale x1 x2) σ := by
  obtain ⟨-, ⟨W, w0, w1, w2, w3⟩, -, ⟨m, tp, t0, t1, t2, t3⟩, -⟩ := id hR
  by_cases h1 : 1 ≤ x1.toInt ∧ x1.toInt ≤ 100
  rotate_left
  · refine Both.no (-1) hn hR ?_ ?_
    · unfold F_X11_tale F_X11_tale_0
      have a : (1 : Int32).toInt = 1 := rfl
      have b : (100 : Int32).toInt = 100 := rfl
      by_cases q : x1 < 1
      · rw [if_pos q]
      · rw [if_neg q, if_pos (by rw [i_lt] at q ⊢; omega)]
    · unfold F_X12_tale F_X12_tale_0
      rw [T_in_t100, bd_s, bI_f h1, if_pos rfl]
  obtain ⟨N, hN, rfl⟩ := i_of (n := 101) (x := x1) (by omega) (by omega)
  have h1' := h1
  rw [i_nI (by omega)] at h1'
  have hN1 : 1 ≤ N := by omega
  have c1 : ¬ nI N < 1 := by
    rw [show (1 : Int32) = nI 1 from rfl, nI_ltp (by omega)]
    omega
  have c2 : ¬ (100 : Int32) < nI N := by
    rw [show (100 : Int32) = nI 100 from rfl, nI_ltp (by omega)]
    omega
  by_cases h2 : bel x2 6
  rotate_left
  · refine Both.no (-1) hn hR ?_ ?_
    · unfold F_X11_tale F_X11_tale_0
      rw [if_neg c1, if_neg c2, T_isBelow_6, bd_s, bI_f h2, if_pos rfl]
    · unfold F_X12_tale F_X12_tale_0
      rw [T_in_t100, bd_s, bI_t h1, if_neg (show ¬ (1 : Int32) = 0 by decide), T_in_5, bd_s, bI_f h2, if_pos rfl]
  by_cases h3 : N ≤ m
  rotate_left
  · refine Both.no (-1) hn hR ?_ ?_
    · unfold F_X11_tale F_X11_tale_0
      rw [if_neg c1, if_neg c2, T_isBelow_6, bd_s, bI_t h2, if_neg (show ¬ (1 : Int32) = 0 by decide), take_no t1 (Or.inr (by rw [nI_lep (by omega)]; exact h3)), bd_s, if_pos rfl]
    · unfold F_X12_tale F_X12_tale_0
      rw [T_in_t100, bd_s, bI_t h1, if_neg (show ¬ (1 : Int32) = 0 by decide), T_in_5, bd_s, bI_t h2, if_neg (show ¬ (1 : Int32) = 0 by decide), t2, if_neg (by rw [nI_lep (by omega)]; exact h3)]
  generalize hres : tpr tp N 33 0 0 (fun _ => 0) (fun _ => 0) = res
  have ans : ∃ v : Int32, (wp (F_X11_tale (nI N) x2 σ) (fun a τ => a = v ∧ fr LC [(33, 1), (33, 2)] σ τ ∧ τ.1 33 1 = 0)) ∧ ∀ τ, EM 70 0 W τ → τ.1 69 14 = nI m → (∀ j, j < N → tp j < 256 ∧ τ.1 76 j = sb (tp j)) → wp (F_X12_tale (nI N) x2 τ) (fun a υ => a = v ∧ fr LM ((69, 14) :: SM) τ υ ∧ υ.1 69 14 = 0) := by
    refine ⟨if res.1 = 0 then jA W x2 (jdg W res.2.2.1 res.2.2.2 res.2.1 0 0 0 0 0) else res.1, ?_, fun τ hM u14 uT => ?_⟩
    · unfold F_X11_tale F_X11_tale_0
      rw [if_neg c1, if_neg c2, T_isBelow_6, bd_s, bI_t h2, if_neg (show ¬ (1 : Int32) = 0 by decide), take_yes t0 t1 h3, bd_s, if_neg (show ¬ (1 : Int32) = 0 by decide)]
      have f1 : fr LC [(33, 1), (33, 2)] σ (zwr (zwr σ 33 2 (nI N)) 33 1 0) := (fr_w (Or.inr (by decide))).w (Or.inr (by decide))
      have T1 : TX tp N (zwr (zwr σ 33 2 (nI N)) 33 1 0) := by
        refine ⟨by omega, ?_, fun j hj => ⟨(t3 j (by omega)).1, ?_⟩⟩
        · rw [zwr_ne (Or.inr (by decide)), zwr_at]
        · rw [f1.row (c := 34) (by decide)]
          exact (t3 j (by omega)).2.1
      have z33 : (zwr (zwr σ 33 2 (nI N)) 33 1 0).1 33 1 = 0 := zwr_at
      generalize zwr (zwr σ 33 2 (nI N)) 33 1 0 = s at f1 T1 z33
      unfold F_X7_read F_X7_read_0
      refine wp_bd2 (P := fun a τ => a = res.1 ∧ fr [44, 45, 46] [] s τ ∧ τ.1 44 2 = nI res.2.1 ∧ res.2.1 ≤ 32 ∧ ACT 45 46 res.2.1 res.2.2.1 res.2.2.2 τ) ?_ (fun a τ hτ => ?_)
      · rw [nm_s]
        have f2 : fr [44, 45, 46] [] s (zwr s 44 2 0) := fr_w (Or.inl (by decide))
        refine wp_mono (T_readC (tp := tp) (N := N) 33 zlim 0 0 (fun _ => 0) (fun _ => 0) (zwr s 44 2 0) rfl (by show 33 < 1000000; decide) (by decide) (TX_fr T1 f2 (by decide)) zwr_at (fun j hj => absurd hj (Nat.not_lt_zero j))) (fun a τ h => ?_)
        rw [hres] at h
        rcases h with ⟨a1, a2, a3, a4, a5⟩ | h
        · exact ⟨a1, f2.tr (a2.mono (by decide)), a3, a4, a5⟩
        · omega
      · obtain ⟨rfl, a2, a3, a4, a5⟩ := hτ
        have f3 : fr LC [(33, 1), (33, 2)] σ τ := f1.tr (a2.mono (by decide))
        have zτ : τ.1 33 1 = 0 := (a2.rd (by decide) (by decide)).trans z33
        by_cases q : res.1 = 0
        rotate_left
        · rw [if_neg q, if_neg q]
          exact wp_some ⟨rfl, f3, zτ⟩
        rw [if_pos q, if_pos q]
        unfold F_X7_judged F_X7_judged_0
        refine wp_bd2 (P := fun a υ => a = jA W x2 (jdg W res.2.2.1 res.2.2.2 res.2.1 0 0 0 0 0) ∧ fr LC [] τ υ) ?_ (fun a υ hυ => wp_some ⟨hυ.1, f3.tr (hυ.2.mono (by decide)), (hυ.2.rd (by decide) (by decide)).trans zτ⟩)
        refine wp_bd2 (T_learn w0 (f3.EC (by decide) w2)) (fun _ υ hυ => ?_)
        refine wp_bd2 (T_stand (O := 0) (B := 0) (i := 0) w0 hυ.2 (by decide) (by decide) (by decide)) (fun _ ω hω => ?_)
        have g1 : fr LC [] τ ω := (hυ.1.mono (by decide)).tr (hω.1.mono (by decide))
        refine wp_mono (T_judC w0 (m := res.2.1) x2 res.2.1 zlim 0 0 0 0 0 ω (by omega) (by show res.2.1 < 1000000; omega) a4 (by decide) (by decide) (by decide) (by decide) (SK_fr hυ.2 hω.1 (by decide)) hω.2 (((hω.1.rd (by decide) (by decide)).trans (hυ.1.rd (by decide) (by decide))).trans a3) (ACT_fr (ACT_fr a5 hυ.1 (by decide) (by decide)) hω.1 (by decide) (by decide))) (fun a κ h => ⟨h.1, g1.tr (h.2.mono (by decide))⟩)
    · unfold F_X12_tale F_X12_tale_0
      rw [T_in_t100, bd_s, bI_t h1, if_neg (show ¬ (1 : Int32) = 0 by decide), T_in_5, bd_s, bI_t h2, if_neg (show ¬ (1 : Int32) = 0 by decide), u14, if_pos (by rw [nI_lep (by omega)]; exact h3)]
      refine wp_let (fun a ha => ?_)
      refine wp_let (fun b hb => ?_)
      refine wp_let (fun c hc => ?_)
      have fc : fr LM ((69, 14) :: SM) τ c := by
        rw [hc, hb, ha]
        exact ((fr_w (Or.inr (by decide))).w (Or.inr (by decide))).w (Or.inr (by decide))
      have T1 : TXm tp N c := by
        refine ⟨by omega, ?_, fun j hj => ⟨(uT j hj).1, ?_⟩⟩
        · rw [hc, zwr_ne (Or.inr (by decide)), hb, zwr_at]
        · rw [fc.row (c := 76) (by decide)]
          exact (uT j hj).2
      have c15 : c.1 69 15 = nI 0 := by
        rw [hc, zwr_ne (Or.inr (by decide)), hb, zwr_ne (Or.inr (by decide)), ha, zwr_at]
        rfl
      have c42 : c.1 69 42 = nI 0 := by
        rw [hc, zwr_at]
        rfl
      obtain ⟨g, υ, u1, u2⟩ := T_readM (tp := tp) (N := N) x2 33 zlim 0 0 (fun _ => 0) (fun _ => 0) c rfl (by show 33 < 1000000; decide) (by decide) (by decide) T1 c15 c42 (fun j hj => absurd hj (Nat.not_lt_zero j))
      rw [u1]
      rw [hres] at u2
      obtain ⟨v1, v2, v3, v4, v5⟩ := u2
      unfold F_X12_tale_89
      refine wp_let (fun d hd => ?_)
      have fd : fr LM ((69, 14) :: SM) τ d := by
        rw [hd]
        exact (fc.tr (v1.mono (by decide))).w (Or.inr (by decide))
      have fvd : fr [90, 91] [(69, 15), (69, 17), (69, 42), (69, 14)] c d := by
        rw [hd]
        exact (v1.mono (by decide)).w (Or.inr (by decide))
      have d14 : d.1 69 14 = 0 := by rw [hd, zwr_at]
      rcases v5 with ⟨q, rfl⟩ | ⟨q, rfl, v6⟩
      rotate_left
      · rw [if_pos (show (0 : Int32) = 0 from rfl), if_neg q, hd, zwr_ne (Or.inr (by decide)), v6, ← hd]
        exact wp_some ⟨rfl, fd, d14⟩
      rw [if_neg (show ¬ (1 : Int32) = 0 by decide), if_pos q]
      have EB : F_X12_begins d = some ((), zwr (zwr (zwr (zwr (zwr d 69 37 0) 69 38 0) 69 39 0) 69 40 0) 69 41 0) := rfl
      rw [EB, bd_s]
      have fe : fr [] SJ d (zwr (zwr (zwr (zwr (zwr d 69 37 0) 69 38 0) 69 39 0) 69 40 0) 69 41 0) := ((((fr_w (Or.inr (by decide))).w (Or.inr (by decide))).w (Or.inr (by decide))).w (Or.inr (by decide))).w (Or.inr (by decide))
      have S0 : MS W 0 0 0 0 (zwr (zwr (zwr (zwr (zwr d 69 37 0) 69 38 0) 69 39 0) 69 40 0) 69 41 0) := by
        refine ⟨?_, ?_, ?_, ?_, ?_⟩
        · rw [zwr_ne (Or.inr (by decide)), zwr_ne (Or.inr (by decide)), zwr_ne (Or.inr (by decide)), zwr_ne (Or.inr (by decide)), zwr_at]
          rfl
        · rw [zwr_ne (Or.inr (by decide)), zwr_ne (Or.inr (by decide)), zwr_ne (Or.inr (by decide)), zwr_at]
          rfl
        · rw [zwr_ne (Or.inr (by decide)), zwr_ne (Or.inr (by decide)), zwr_at, had_0]
          rfl
        · rw [zwr_ne (Or.inr (by decide)), zwr_at, show usd 0 = 0 by decide]
          rfl
        · rw [zwr_at]
          rfl
      have d42 : d.1 69 42 = nI res.2.1 := by rw [hd, zwr_ne (Or.inr (by decide)), v2]
      have dA : ACT 90 91 res.2.1 res.2.2.1 res.2.2.2 d := by
        rw [hd]
        exact ACT_w v4 (by decide) (by decide)
      generalize zwr (zwr (zwr (zwr (zwr d 69 37 0) 69 38 0) 69 39 0) 69 40 0) 69 41 0 = e at fe S0
      refine wp_mono (T_judM w0 (m := res.2.1) x2 res.2.1 zlim 0 0 0 0 0 e (by omega) (by show res.2.1 < 1000000; omega) v3 (by decide) (by decide) (by decide) (by unfold subB; simp) (fe.EM (by decide) (fd.EM (by decide) hM)) S0 ((fe.rd (by decide) (by decide)).trans d42) (ACT_fr dA fe (by decide) (by decide))) (fun a κ h => ⟨h.1, fd.tr ((fe.tr h.2).mono (by decide)), ?_⟩)
      rw [(fe.tr h.2).rd (by decide) (by decide), d14]
  obtain ⟨v, A1, A2⟩ := ans
  obtain ⟨a, τ, e1', rfl, f1, k1⟩ := A1
  obtain ⟨b, υ, e2', rfl, f2, k2⟩ := A2 τ (f1.EM (by decide) w3) ((f1.rd (by decide) (by decide)).trans t2) (fun j hj => ⟨(t3 j (by omega)).1, by rw [f1.row (c := 76) (by decide)]; exact (t3 j (by omega)).2.2⟩)
  exact Both.mk e1' e2' (Rel_T hn hR ((f1.eqOn (by decide)).tr (f2.eqOn (by decide))) (RT_0 ((f2.rd (by decide) (by decide)).trans k1) k2))
