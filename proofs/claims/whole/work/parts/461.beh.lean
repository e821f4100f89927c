/-! PURE: the reference's acts on states -/
theorem wp_eq {α : Type} {x : Option (α × zSt)} {r : α} {σ : zSt} (h : wp x (fun a τ => a = r ∧ τ = σ)) : x = some (r, σ) := by
  obtain ⟨a, τ, e, rfl, rfl⟩ := h
  exact e
/-- what the reference laid down before it reckons -/
def PM (W : zWo) (m : Nat) (σ : zSt) : Prop := EM 70 0 W σ ∧ (∀ p, p < 8 → σ.1 93 p = nI (keysW W p)) ∧ (∀ b, b < 3 → σ.1 94 b = nI (keysW W (8 + b))) ∧ (∀ p, p < 8 → σ.1 95 p = if wIs W p = true then nI (islW W p) else -1) ∧ σ.1 69 49 = nI m
theorem PM_fr {W : zWo} {m : Nat} {σ τ : zSt} (h : PM W m σ) (f : fr [92] [] σ τ) : PM W m τ := by
  obtain ⟨h1, h2, h3, h4, h5⟩ := h
  refine ⟨f.EM (by decide) h1, fun p hp => ?_, fun p hp => ?_, fun p hp => ?_, ?_⟩
  · rw [f.row (c := 93) (by decide)]
    exact h2 p hp
  · rw [f.row (c := 94) (by decide)]
    exact h3 p hp
  · rw [f.row (c := 95) (by decide)]
    exact h4 p hp
  · rw [f.rd (by decide) (by decide)]
    exact h5
theorem T_standOf {σ : zSt} : ∀ B, B < 27 → ∀ b, b < 3 → F_X12_standOf (nI B) (nI b) σ = some (nI (dgt B b), σ) := by
  have e : ∀ B, B < 27 → ∀ b, b < 3 → (if nI b = 0 then nI B % 3 else if nI b = 1 then nI B / 3 % 3 else nI B / 9) = nI (dgt B b) := by decide +kernel
  intro B hB b hb
  unfold F_X12_standOf F_X12_standOf_0
  rw [← e B hB b hb]
  split
  · rfl
  · split <;> rfl
theorem T_stateOf {σ : zSt} {O B i : Nat} : F_X12_stateOf (nI O) (nI B) (nI i) σ = some (nI (cod O B i), σ) := by
  unfold F_X12_stateOf F_X12_stateOf_0
  rw [show (27 : Int32) = nI 27 from rfl, show (4 : Int32) = nI 4 from rfl, pk_mul, nI_add, pk_mul, nI_add]
  rfl
theorem T_unitOf {σ : zSt} : ∀ b, b < 3 → F_X12_unitOf (nI b) σ = some (nI (3 ^ b), σ) := by
  intro b hb
  rcases (by omega : b = 0 ∨ b = 1 ∨ b = 2) with e | e | e <;> subst e <;> rfl
/-- all the bits of f 0, .., f (n - 1) -/
def orN (f : Nat → Nat) : Nat → Nat
  | 0 => 0
  | n + 1 => orN f n ||| f n
theorem orN_bit {f : Nat → Nat} {k : Nat} : ∀ n, (orN f n).testBit k = true ↔ ∃ x, x < n ∧ (f x).testBit k = true := by
  intro n
  induction n with
  | zero => exact ⟨fun h => (by rw [show orN f 0 = 0 from rfl, Nat.zero_testBit] at h; cases h), fun ⟨x, hx, _⟩ => absurd hx (Nat.not_lt_zero x)⟩
  | succ n ih =>
    show (orN f n ||| f n).testBit k = true ↔ _
    rw [Nat.testBit_or, Bool.or_eq_true, ih]
    constructor
    · rintro (⟨x, hx, e⟩ | e)
      · exact ⟨x, by omega, e⟩
      · exact ⟨n, by omega, e⟩
    · rintro ⟨x, hx, e⟩
      by_cases q : x = n
      · subst q
        exact Or.inr e
      · exact Or.inl ⟨x, by omega, e⟩
def kwN (W : zWo) (O B x : Nat) : Nat := if x < 8 then (if O.testBit x = true then keysW W x else 0) else (if dgt B (x - 8) = 2 then keysW W x else 0)
theorem kwN_lt {W : zWo} {O B x : Nat} : kwN W O B x < 256 := by
  unfold kwN
  split
  · split
    · exact keysW_lt W x
    · decide
  · split
    · exact keysW_lt W x
    · decide
theorem kwN_had {W : zWo} (hW : WOK W) {O B : Nat} : orN (kwN W O B) 11 = hadW W O B := by
  apply Nat.eq_of_testBit_eq
  intro k
  rw [Bool.eq_iff_iff, orN_bit]
  by_cases hk : k < 8
  rotate_left
  · rw [tb_hi hadW_lt (by omega)]
    constructor
    · rintro ⟨x, -, e⟩
      rw [tb_hi kwN_lt (by omega)] at e
      exact e
    · intro h
      cases h
  rw [hadW_bit hk]
  unfold hasK
  cases q : wKey W k with
  | none =>
    constructor
    · rintro ⟨x, hx, e⟩
      unfold kwN at e
      have no : ∀ c : Prop, ∀ _ : Decidable c, ¬ (if c then keysW W x else 0).testBit k = true := by
        intro c _ z
        split at z
        · rw [keysW_bit W x hk, q] at z
          cases z
        · rw [Nat.zero_testBit] at z
          cases z
      split at e <;> exact absurd e (no _ _)
    · intro h
      cases h
  | some y =>
    have y11 : y < 11 := by rcases key11 hW hk q with z | z <;> omega
    show _ ↔ (if y < 8 then O.testBit y else decide (dgt B (y - 8) = 2)) = true
    constructor
    · rintro ⟨x, hx, e⟩
      unfold kwN at e
      split at e
      · split at e
        · rw [keysW_bit W x hk, q] at e
          cases e
          rename_i h1 h2
          rw [if_pos h1]
          exact h2
        · rw [Nat.zero_testBit] at e
          cases e
      · split at e
        · rw [keysW_bit W x hk, q] at e
          cases e
          rename_i h1 h2
          rw [if_neg h1]
          exact decide_eq_true h2
        · rw [Nat.zero_testBit] at e
          cases e
    · intro h
      refine ⟨y, y11, ?_⟩
      unfold kwN
      split at h
      · rename_i h1
        rw [if_pos h1, if_pos h]
        exact (keysW_bit W y hk).mpr q
      · rename_i h1
        rw [if_neg h1, if_pos (of_decide_eq_true h)]
        exact (keysW_bit W y hk).mpr q
theorem T_keysWith {W : zWo} {m : Nat} {σ : zSt} (hW : WOK W) (h : PM W m σ) {O B : Nat} (hO : O < 256) (hB : B < 27) : F_X12_keysWith (nI O) (nI B) σ = some (nI (hadW W O B), σ) := by
  obtain ⟨h1, h2, h3, h4, h5⟩ := h
  rw [← kwN_had hW]
  unfold F_X12_keysWith F_X12_keysWith_0
  refine wp_eq (wp_for (fun p s => s = (nI (orN (kwN W O B) p), nI p, σ)) 8 (by decide) (fun p w s hp hI hw => ?_) (fun w s hI => ?_) rfl)
  · subst hI
    show wp (F_X12_keysWith_5 (nI O) (nI B) w (nI (orN (kwN W O B) p)) (nI p) σ) _
    unfold F_X12_keysWith_5 F_X12_keysWith_33
    rw [if_neg (by rw [show (8 : Int32) = nI 8 from rfl, nI_lep (by omega)]; omega), T_has (And.intro hO hp), bd_s]
    have e : kwN W O B p = if O.testBit p = true then keysW W p else 0 := if_pos hp
    by_cases q : O.testBit p = true
    · rw [bI_t q, if_neg (show ¬ (1 : Int32) = 0 by decide), gd_n (by omega), nI_cl (by omega), h2 p hp, nI_or, nm_s, nm_s, nI_1]
      refine hw _ ?_
      rw [show orN (kwN W O B) (p + 1) = orN (kwN W O B) p ||| kwN W O B p from rfl, e, if_pos q]
    · rw [bI_f q, if_pos (show (0 : Int32) = 0 from rfl), show (0 : Int32) = nI 0 from rfl, nI_or, nm_s, nm_s, nI_1]
      refine hw _ ?_
      rw [show orN (kwN W O B) (p + 1) = orN (kwN W O B) p ||| kwN W O B p from rfl, e, if_neg q]
  · subst hI
    show wp (F_X12_keysWith_5 (nI O) (nI B) w (nI (orN (kwN W O B) 8)) (nI 8) σ) _
    unfold F_X12_keysWith_5 F_X12_keysWith_41
    rw [if_pos (show (8 : Int32) ≤ nI 8 by decide)]
    refine wp_for (fun b s => s = (nI (orN (kwN W O B) (8 + b)), nI b, σ)) 3 (by decide) (fun b w2 s hb hI hw2 => ?_) (fun w2 s hI => ?_) rfl
    · subst hI
      show wp (F_X12_keysWith_44 (nI B) w2 (nI (orN (kwN W O B) (8 + b))) (nI b) σ) _
      unfold F_X12_keysWith_44 F_X12_keysWith_72
      rw [if_neg (by rw [show (3 : Int32) = nI 3 from rfl, nI_lep (by omega)]; omega), T_standOf B hB b hb, bd_s]
      have e : kwN W O B (8 + b) = if dgt B b = 2 then keysW W (8 + b) else 0 := by
        unfold kwN
        rw [if_neg (by omega), Nat.add_sub_cancel_left]
      have d3 : dgt B b < 3 := dgt_lt
      by_cases q : dgt B b = 2
      · rw [q, if_pos (show nI 2 = 2 from rfl), gd_n (by omega), nI_cl (by omega), h3 b hb, nI_or, nm_s, nm_s, nI_1]
        refine hw2 _ ?_
        rw [← Nat.add_assoc, show orN (kwN W O B) (8 + b + 1) = orN (kwN W O B) (8 + b) ||| kwN W O B (8 + b) from rfl, e, if_pos q]
      · rw [if_neg (by rw [show (2 : Int32) = nI 2 from rfl, nI_eqp (by omega)]; exact q), show (0 : Int32) = nI 0 from rfl, nI_or, nm_s, nm_s, nI_1]
        refine hw2 _ ?_
        rw [← Nat.add_assoc, show orN (kwN W O B) (8 + b + 1) = orN (kwN W O B) (8 + b) ||| kwN W O B (8 + b) from rfl, e, if_neg q]
    · subst hI
      show wp (F_X12_keysWith_44 (nI B) w2 (nI (orN (kwN W O B) 11)) (nI 3) σ) _
      unfold F_X12_keysWith_44
      rw [if_pos (show (3 : Int32) ≤ nI 3 by decide)]
      exact wp_some ⟨rfl, rfl⟩
/-- what an act leads to -/
def nxt (O B i l d : Nat) : Nat := cod (acO O l d) (acB B l d) (acI i l d)
def canB (W : zWo) (O B i l d : Nat) : Bool := (canW W O B i l).testBit d
theorem T_beh55 {W : zWo} {m : Nat} {σ : zSt} (hW : WOK W) (h : PM W m σ) {O B i l d : Nat} (hO : O < 256) (hB : B < 27) (hi : i < 4) (hl : l < 6) (hd : d < dgs l) (h0 : ∀ b, bfor l d = some b → dgt B b = 0) : F_X12_behind_55 (nI O) (nI i) (nI (hadW W O B)) (nI l) (nI d) (nI (acB B l d)) σ = some (if canB W O B i l d = true then nI (nxt O B i l d) else -1, σ) := by
  obtain ⟨h1, h2, h3, h4, h5⟩ := h
  have hd8 : d < 8 := by have := (dgs_le l hl).2; omega
  have hw : ∀ a, a < 4 → wWay W (5 * a) = 0 := hW.2.1
  have m4 : ∀ a : Nat, (4 : Int32) * nI a = nI (4 * a) := fun a => pk_mul 4 a
  unfold F_X12_behind_55 canB nxt
  rcases (by omega : l = 0 ∨ l = 1 ∨ l = 5 ∨ (l = 2 ∨ l = 3 ∨ l = 4)) with rfl | rfl | rfl | hl3
  · have hd4 : d < 4 := hd
    have e70 : σ.1 70 (4 * i + d) = nI (wWay W (4 * i + d)) := h1.1 _ (by omega)
    have wb : wWay W (4 * i + d) ≤ 30 := hW.1 _ (by omega)
    rw [if_pos (show nI 0 = 0 from rfl), if_eqI (by omega)]
    by_cases q : d = i
    · rw [if_pos q, if_neg (fun z => ?_)]
      have := (can_0.mp z).2
      rw [q, show 4 * i + i = 5 * i by omega, hw i hi] at this
      omega
    rw [if_neg q, m4, nI_add, gd_n (by omega), nI_cl (by omega), e70]
    by_cases r : wWay W (4 * i + d) = 0
    · rw [if_pos (by rw [r]; rfl), if_neg (fun z => absurd (can_0.mp z).2 (by omega))]
    · rw [if_neg (by rw [nI_e0 (by omega)]; exact r), T_stateOf, bd_s, if_pos (can_0.mpr ⟨hd4, by omega⟩)]
      rfl
  · have hd4 : d < 4 := hd
    rw [if_neg (show ¬ nI 1 = 0 by decide), if_pos (show nI 1 = 1 from rfl), if_eqI (by omega)]
    have hb := h0 0 rfl
    by_cases q : d = i
    · rw [if_pos q, if_neg (fun z => ((can_1 hi hd8).mp z).2.2 q)]
    · rw [if_neg q, T_stateOf, bd_s, if_pos ((can_1 hi hd8).mpr ⟨hb, hd4, q⟩)]
      rfl
  · have hd3 : d < 3 := hd
    have hb := h0 d rfl
    have kl := keysW_lt W (8 + d)
    rw [if_neg (show ¬ nI 5 = 0 by decide), if_neg (show ¬ nI 5 = 1 by decide), if_pos (show nI 5 = 5 from rfl), gd_n (by omega), nI_cl (by omega), h3 d hd3]
    by_cases q : keysW W (8 + d) = 0
    · rw [if_pos (by rw [q]; rfl), if_neg (fun z => (can_5.mp z).2.2 q)]
    · rw [if_neg (by rw [nI_e0 (by omega)]; exact q), T_stateOf, bd_s, if_pos (can_5.mpr ⟨hd3, hb, q⟩)]
      rfl
  · have hdd : d < 8 := hd8
    have il := islW_lt hW hdd
    have hl4 : l = 2 ∨ (l = 3 ∧ dgt B 1 = 0) ∨ (l = 4 ∧ dgt B 2 = 0) := by
      rcases hl3 with rfl | rfl | rfl
      · exact Or.inl rfl
      · exact Or.inr (Or.inl ⟨rfl, h0 1 rfl⟩)
      · exact Or.inr (Or.inr ⟨rfl, h0 2 rfl⟩)
    have op : (canW W O B i l).testBit d = true → opn W O i d := by
      intro z
      rcases hl3 with rfl | rfl | rfl
      · exact ((can_2 hd8).mp z).1
      · exact ((can_3 hd8).mp z).2.1
      · exact ((can_4 hd8).mp z).2.1
    rw [if_neg (nI_ne0 (by omega) (by omega)), if_neg (by rw [show (1 : Int32) = nI 1 from rfl, nI_eqp (by omega)]; omega), if_neg (by rw [show (5 : Int32) = nI 5 from rfl, nI_eqp (by omega)]; omega), gd_n (by omega), nI_cl (by omega), h4 d hdd]
    by_cases q1 : wIs W d = true
    rotate_left
    · rw [if_neg q1, if_neg (show ¬ (-1 : Int32) = nI i from fun z => e1_n (by omega) z.symm), if_neg (fun z => q1 (op z).1)]
    rw [if_pos q1, if_eqI (by omega)]
    by_cases q2 : islW W d = i
    rotate_left
    · rw [if_neg q2, if_neg (fun z => q2 (op z).2.1)]
    rw [if_pos q2, T_canOpen hW h1 hO hi hdd hl4, bd_s]
    by_cases q3 : (canW W O B i l).testBit d = true
    · rw [bI_t q3, if_neg (show ¬ (1 : Int32) = 0 by decide), bit_1 d hdd, nI_or, T_stateOf, bd_s, if_pos q3]
      have a1 : acO O l d = O ||| 2 ^ d := if_pos (by omega)
      have a2 : acI i l d = i := if_neg (by omega)
      rw [a1, a2]
    · rw [bI_f q3, if_pos (show (0 : Int32) = 0 from rfl), if_neg q3]
theorem T_behind {W : zWo} {m : Nat} {σ : zSt} (hW : WOK W) (h : PM W m σ) {O B i l d : Nat} (hO : O < 256) (hB : B < 27) (hi : i < 4) (hl : l < 6) (hd : d < dgs l) : F_X12_behind (nI O) (nI B) (nI i) (nI (hadW W O B)) (nI l) (nI d) σ = some (if canB W O B i l d = true then nI (nxt O B i l d) else -1, σ) := by
  have hd8 : d < 8 := by have := (dgs_le l hl).2; omega
  obtain ⟨a1, a2⟩ := acB_e (B := B) l d
  unfold F_X12_behind F_X12_behind_0
  rw [T_beastFor hl, bd_s]
  cases q : bfor l d with
  | none =>
    unfold F_X12_behind_26
    rw [if_pos (show e1 none = -1 from rfl), if_pos (show e1 none = -1 from rfl), ← T_beh55 hW h hO hB hi hl hd (fun b z => by rw [q] at z; cases z), a1 q]
  | some b =>
    have hb : b < 3 := by
      unfold bfor at q
      split at q
      · cases q; decide
      split at q
      · cases q; decide
      split at q
      · cases q; decide
      split at q
      · rename_i e
        cases q
        subst e
        exact hd
      · cases q
    have eb : e1 (some b) = nI b := rfl
    have nb : ¬ nI b = -1 := e1_n (by omega)
    rw [eb, if_neg nb, T_standOf B hB b hb, bd_s]
    have d3 : dgt B b < 3 := dgt_lt
    by_cases z0 : dgt B b = 0
    · have ee : nI B + nI (3 ^ b) * (if nI l = 5 then (2 : Int32) else 1) = nI (acB B l d) := by
        rw [a2 b q]
        by_cases l5 : l = 5
        · rw [if_pos (by rw [l5]; rfl), if_pos l5, show (2 : Int32) = nI 2 from rfl, pk_mul, nI_add, Nat.mul_comm]
        · rw [if_neg (by rw [show (5 : Int32) = nI 5 from rfl, nI_eqp (by omega)]; exact l5), if_neg l5, show (1 : Int32) = nI 1 from rfl, pk_mul, nI_add, Nat.mul_comm]
      unfold F_X12_behind_26
      rw [z0, if_pos (show nI 0 ≤ 0 by decide), if_neg nb, T_unitOf b hb, bd_s, nm_s, ee, T_beh55 hW h hO hB hi hl hd (fun b' z => by rw [q] at z; cases z; exact z0)]
    · rw [if_neg (by rw [show (0 : Int32) = nI 0 from rfl, nI_lep (by omega)]; omega), if_neg]
      intro z
      apply z0
      unfold bfor at q
      rcases (by omega : l = 0 ∨ l = 1 ∨ l = 2 ∨ l = 3 ∨ l = 4 ∨ l = 5) with rfl | rfl | rfl | rfl | rfl | rfl
      · cases q
      · cases q
        exact ((can_1 hi hd8).mp z).1
      · cases q
      · cases q
        exact ((can_3 hd8).mp z).1
      · cases q
        exact ((can_4 hd8).mp z).1
      · cases q
        exact (can_5.mp z).2.1
/-- days, and behind them what is counted -/
def cstW (W : zWo) (m i l d : Nat) : Nat := 1024 * dyW W i l d + (if m = 0 then 1 else if l = 2 ∨ l = 3 ∨ l = 4 then 1 else 0)
theorem cstW_le {W : zWo} (hW : WOK W) {m i l d : Nat} (hi : i < 4) (hd : l = 0 → d < 4) : cstW W m i l d ≤ 30721 := by
  unfold cstW
  have h : dyW W i l d ≤ 30 := by
    unfold dyW
    split
    · rename_i e
      exact hW.1 _ (by have := hd e; omega)
    · split <;> omega
  have h2 : (if m = 0 then 1 else if l = 2 ∨ l = 3 ∨ l = 4 then 1 else 0) ≤ 1 := by
    split
    · omega
    · split <;> omega
  omega
theorem T_cost49 {σ : zSt} {m c : Nat} (hm : m < 2) (e : σ.1 69 49 = nI m) (t : Nat) : F_X12_costOf_49 (nI c) (nI t) σ = some (nI (1024 * t + (if m = 0 then 1 else if nI c = 0 then 0 else 1)), σ) := by
  have m4 : (1024 : Int32) * nI t = nI (1024 * t) := pk_mul 1024 t
  unfold F_X12_costOf_49
  rw [e, m4]
  by_cases q : m = 0
  · rw [if_pos (by rw [q]; rfl), if_pos q, show (1 : Int32) = nI 1 from rfl, nI_add]
  · rw [if_neg (nI_ne0 (by omega) (by omega)), if_neg q]
    by_cases r : nI c = 0
    · rw [if_pos r, if_pos r, show (0 : Int32) = nI 0 from rfl, nI_add]
    · rw [if_neg r, if_neg r, show (1 : Int32) = nI 1 from rfl, nI_add]
theorem T_costOf {W : zWo} {m : Nat} {σ : zSt} (hW : WOK W) (h : PM W m σ) (hm : m < 2) {i l d : Nat} (hi : i < 4) (hl : l < 6) (hd : d < dgs l) : F_X12_costOf (nI i) (nI l) (nI d) σ = some (nI (cstW W m i l d), σ) := by
  obtain ⟨h1, -, -, -, h5⟩ := h
  have m4 : ∀ a : Nat, (4 : Int32) * nI a = nI (4 * a) := fun a => pk_mul 4 a
  unfold F_X12_costOf F_X12_costOf_0 cstW
  rcases (by omega : l = 0 ∨ l = 1 ∨ l = 2 ∨ l = 3 ∨ l = 4 ∨ l = 5) with rfl | rfl | rfl | rfl | rfl | rfl
  · have hd4 : d < 4 := hd
    have e70 : σ.1 70 (4 * i + d) = nI (wWay W (4 * i + d)) := h1.1 _ (by omega)
    rw [nm_s, if_pos (show nI 0 = 0 from rfl), m4, nI_add, gd_n (by omega), nI_cl (by omega), e70]
    exact T_cost49 (c := 0) hm h5 _
  · exact T_cost49 (c := 0) hm h5 1
  · exact T_cost49 (c := 1) hm h5 1
  · exact T_cost49 (c := 1) hm h5 1
  · exact T_cost49 (c := 1) hm h5 1
  · exact T_cost49 (c := 0) hm h5 0
