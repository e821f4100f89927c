/-! PURE: what the planner holds useful -/
def oB : Option Nat → Nat
  | none => 0
  | some k => 2 ^ k
def oB8 : Option Nat → Nat
  | none => 0
  | some k => if k < 8 then 2 ^ k else 0
def lkP (W : zWo) (U p : Nat) : Option Nat := if U.testBit p = true then wLok W p else none
def usA (W : zWo) (U p : Nat) : Nat := U ||| oB8 ((lkP W U p).bind (wKey W))
def us1 (W : zWo) (u : Nat × Nat) (p : Nat) : Nat × Nat := (usA W u.1 p ||| (if (usA W u.1 p).testBit p = true then ancs W p else 0), u.2 ||| oB (lkP W u.1 p))
def usr (W : zWo) (u : Nat × Nat) : Nat → Nat × Nat
  | 0 => u
  | n + 1 => us1 W (usr W u n) n
def usn (W : zWo) (u : Nat × Nat) : Nat → Nat × Nat
  | 0 => u
  | n + 1 => usr W (usn W u n) 8
def useW (W : zWo) : Nat := (usn W (golW W, 0) 8).1
def lksW (W : zWo) : Nat := (usn W (golW W, 0) 8).2
/-- the digits that help -/
def hlpW (W : zWo) (l : Nat) : Nat := if l ≤ 1 then 15 else if l ≤ 4 then useW W else bset (fun b => decide (keysW W (8 + b) &&& lksW W ≠ 0)) 3
theorem oB_lt {o : Option Nat} (h : ∀ k, o = some k → k < 8) : oB o < 256 := by
  cases o with
  | none => decide
  | some k =>
    have := h k rfl
    show 2 ^ k < 256
    exact Nat.lt_of_lt_of_le (Nat.pow_lt_pow_right (by decide) this) (by decide)
theorem oB8_lt {o : Option Nat} : oB8 o < 256 := by
  cases o with
  | none => decide
  | some k =>
    show (if k < 8 then 2 ^ k else 0) < 256
    split
    · exact oB_lt (o := some k) (fun j e => by cases e; assumption)
    · decide
theorem lk_8 {W : zWo} (hW : WOK W) {U p k : Nat} (hp : p < 8) (h : lkP W U p = some k) : k < 8 := by
  unfold lkP at h
  split at h
  · exact hW.lok p k hp h
  · cases h
theorem lkP_t {W : zWo} {U p : Nat} (h : U.testBit p = true) : lkP W U p = wLok W p := if_pos h
theorem us1_lt {W : zWo} (hW : WOK W) {u : Nat × Nat} {p : Nat} (hp : p < 8) (h : u.1 < 256 ∧ u.2 < 256) : (us1 W u p).1 < 256 ∧ (us1 W u p).2 < 256 := by
  refine ⟨or_lt (or_lt h.1 oB8_lt) ?_, or_lt h.2 (oB_lt (fun k e => lk_8 hW hp e))⟩
  show (if (usA W u.1 p).testBit p = true then ancs W p else 0) < 256
  split
  · exact ancs_lt hW hp
  · decide
theorem usr_lt {W : zWo} (hW : WOK W) {u : Nat × Nat} (h : u.1 < 256 ∧ u.2 < 256) : ∀ n, n ≤ 8 → (usr W u n).1 < 256 ∧ (usr W u n).2 < 256 := by
  intro n
  induction n with
  | zero => intro _; exact h
  | succ n ih => intro hn; exact us1_lt hW (by omega) (ih (by omega))
theorem usn_lt {W : zWo} (hW : WOK W) {u : Nat × Nat} (h : u.1 < 256 ∧ u.2 < 256) : ∀ n, (usn W u n).1 < 256 ∧ (usn W u n).2 < 256 := by
  intro n
  induction n with
  | zero => exact h
  | succ n ih => exact usr_lt hW ih 8 (Nat.le_refl 8)
theorem use_lt {W : zWo} (hW : WOK W) : useW W < 256 ∧ lksW W < 256 := usn_lt hW ⟨golW_lt hW, (by decide : (0 : Nat) < 256)⟩ 8
/-- what is in stays in -/
theorem us1_in {W : zWo} {u : Nat × Nat} {p k : Nat} : (u.1.testBit k = true → (us1 W u p).1.testBit k = true) ∧ (u.2.testBit k = true → (us1 W u p).2.testBit k = true) := by
  unfold us1 usA
  constructor
  · intro h
    rw [Nat.testBit_or, Nat.testBit_or, h, Bool.true_or, Bool.true_or]
  · intro h
    rw [Nat.testBit_or, h, Bool.true_or]
theorem usr_in {W : zWo} {u : Nat × Nat} {k : Nat} : ∀ n, (u.1.testBit k = true → (usr W u n).1.testBit k = true) ∧ (u.2.testBit k = true → (usr W u n).2.testBit k = true) := by
  intro n
  induction n with
  | zero => exact ⟨id, id⟩
  | succ n ih => exact ⟨fun h => us1_in.1 (ih.1 h), fun h => us1_in.2 (ih.2 h)⟩
theorem usr_up {W : zWo} {u : Nat × Nat} {k : Nat} : ∀ m n, n ≤ m → ((usr W u n).1.testBit k = true → (usr W u m).1.testBit k = true) ∧ ((usr W u n).2.testBit k = true → (usr W u m).2.testBit k = true) := by
  intro m
  induction m with
  | zero =>
    intro n hn
    have : n = 0 := by omega
    subst this
    exact ⟨id, id⟩
  | succ m ih =>
    intro n hn
    by_cases q : n = m + 1
    · subst q
      exact ⟨id, id⟩
    · have := ih n (by omega)
      exact ⟨fun h => us1_in.1 (this.1 h), fun h => us1_in.2 (this.2 h)⟩
/-- closed under what is around, and under where the locks' KEYS are -/
def UC (W : zWo) (u : Nat × Nat) : Prop := ∀ p, p < 8 → u.1.testBit p = true → (∀ q, (ancs W p).testBit q = true → u.1.testBit q = true) ∧ (∀ k, wLok W p = some k → u.2.testBit k = true ∧ ∀ q, q < 8 → wKey W k = some q → u.1.testBit q = true)
theorem UC_of {W : zWo} (hW : WOK W) {u : Nat × Nat} (h : ∀ k, k < 8 → (usr W u 8).1.testBit k = true → u.1.testBit k = true) : UC W (usr W u 8) := by
  have same : ∀ n k, n ≤ 8 → k < 8 → (usr W u 8).1.testBit k = true → (usr W u n).1.testBit k = true := fun n k hn hk z => (usr_in n).1 (h k hk z)
  intro p hp up
  have up' := same p p (by omega) hp up
  have st : usr W u (p + 1) = us1 W (usr W u p) p := rfl
  constructor
  · intro q hq
    refine (usr_up 8 (p + 1) (by omega)).1 ?_
    rw [st]
    unfold us1
    show (usA W (usr W u p).1 p ||| (if (usA W (usr W u p).1 p).testBit p = true then ancs W p else 0)).testBit q = true
    rw [if_pos (by unfold usA; rw [Nat.testBit_or, up', Bool.true_or]), Nat.testBit_or, hq, Bool.or_true]
  · intro k hk
    have hk8 := hW.lok p k hp hk
    constructor
    · refine (usr_up 8 (p + 1) (by omega)).2 ?_
      rw [st]
      show ((usr W u p).2 ||| oB (lkP W (usr W u p).1 p)).testBit k = true
      rw [lkP_t up', hk, Nat.testBit_or, show oB (some k) = 2 ^ k from rfl, Nat.testBit_two_pow_self, Bool.or_true]
    · intro q hq kq
      refine (usr_up 8 (p + 1) (by omega)).1 ?_
      rw [st]
      unfold us1 usA
      rw [lkP_t up', hk, Option.bind_some, kq, Nat.testBit_or, Nat.testBit_or, show oB8 (some q) = 2 ^ q from if_pos hq, Nat.testBit_two_pow_self, Bool.or_true, Bool.true_or]
theorem us1_c {W : zWo} {u : Nat × Nat} (hW : WOK W) (h : UC W u) {p k : Nat} (hp : p < 8) (hz : (us1 W u p).1.testBit k = true) : u.1.testBit k = true := by
  have a1 : ∀ k, (oB8 ((lkP W u.1 p).bind (wKey W))).testBit k = true → u.1.testBit k = true := by
    intro k hk
    by_cases q : u.1.testBit p = true
    · rw [lkP_t q] at hk
      cases l : wLok W p with
      | none => rw [l] at hk; rw [show oB8 (Option.bind none (wKey W)) = 0 from rfl, Nat.zero_testBit] at hk; cases hk
      | some j =>
        rw [l, Option.bind_some] at hk
        cases m : wKey W j with
        | none => rw [m, show oB8 none = 0 from rfl, Nat.zero_testBit] at hk; cases hk
        | some x =>
          rw [m] at hk
          by_cases x8 : x < 8
          · rw [show oB8 (some x) = 2 ^ x from if_pos x8, Nat.testBit_two_pow] at hk
            have := of_decide_eq_true hk
            subst this
            exact ((h p hp q).2 j l).2 x x8 m
          · rw [show oB8 (some x) = 0 from if_neg x8, Nat.zero_testBit] at hk
            cases hk
    · rw [show lkP W u.1 p = none from if_neg q, show oB8 (Option.bind none (wKey W)) = 0 from rfl, Nat.zero_testBit] at hk
      cases hk
  have a2 : ∀ k, (usA W u.1 p).testBit k = true → u.1.testBit k = true := by
    intro k hk
    unfold usA at hk
    rw [Nat.testBit_or, Bool.or_eq_true] at hk
    exact hk.elim id (a1 k)
  have hz' : (usA W u.1 p ||| (if (usA W u.1 p).testBit p = true then ancs W p else 0)).testBit k = true := hz
  rw [Nat.testBit_or, Bool.or_eq_true] at hz'
  rcases hz' with z | z
  · exact a2 k z
  · by_cases c : (usA W u.1 p).testBit p = true
    · rw [if_pos c] at z
      exact (h p hp (a2 p c)).1 k z
    · rw [if_neg c, Nat.zero_testBit] at z
      cases z
theorem UC_s {W : zWo} (hW : WOK W) {u : Nat × Nat} (h : UC W u) {p : Nat} (hp : p < 8) : UC W (us1 W u p) := by
  intro q hq uq
  obtain ⟨b1, b2⟩ := h q hq (us1_c hW h hp uq)
  exact ⟨fun x hx => us1_in.1 (b1 x hx), fun k hk => ⟨us1_in.2 (b2 k hk).1, fun x hx kx => us1_in.1 ((b2 k hk).2 x hx kx)⟩⟩
theorem UC_r {W : zWo} (hW : WOK W) {u : Nat × Nat} (h : UC W u) : ∀ n, n ≤ 8 → UC W (usr W u n) := by
  intro n
  induction n with
  | zero => intro _; exact h
  | succ n ih => intro hn; exact UC_s hW (ih (by omega)) (by omega)
theorem popn_mono {a b : Nat} : ∀ n, (∀ k, k < n → a.testBit k = true → b.testBit k = true) → popn a n ≤ popn b n ∧ ((∃ k, k < n ∧ b.testBit k = true ∧ a.testBit k = false) → popn a n < popn b n) := by
  intro n
  induction n with
  | zero => intro _; exact ⟨Nat.le_refl _, fun ⟨k, hk, _⟩ => absurd hk (Nat.not_lt_zero k)⟩
  | succ n ih =>
    intro h
    obtain ⟨i1, i2⟩ := ih (fun k hk => h k (by omega))
    have hn := h n (Nat.lt_succ_self n)
    show popn a n + (a.testBit n).toNat ≤ popn b n + (b.testBit n).toNat ∧ (_ → popn a n + (a.testBit n).toNat < popn b n + (b.testBit n).toNat)
    have le : (a.testBit n).toNat ≤ (b.testBit n).toNat := by
      cases ea : a.testBit n with
      | false => exact Nat.zero_le _
      | true => rw [hn ea]; exact Nat.le_refl _
    refine ⟨by omega, fun ⟨k, hk, bk, ak⟩ => ?_⟩
    by_cases q : k = n
    · subst q
      rw [bk, ak]
      show popn a k + 0 < popn b k + 1
      omega
    · have := i2 ⟨k, by omega, bk, ak⟩
      omega
theorem usn_UC {W : zWo} (hW : WOK W) {u : Nat × Nat} (h0 : 1 ≤ pop8 u.1) : ∀ n, n ≤ 8 → UC W (usn W u n) ∨ n + 1 ≤ pop8 (usn W u n).1 := by
  intro n
  induction n with
  | zero => intro _; exact Or.inr h0
  | succ n ih =>
    intro hn
    rcases ih (by omega) with z | z
    · exact Or.inl (UC_r hW z 8 (Nat.le_refl 8))
    · by_cases q : ∃ k, k < 8 ∧ (usr W (usn W u n) 8).1.testBit k = true ∧ (usn W u n).1.testBit k = false
      · refine Or.inr ?_
        have := (popn_mono (a := (usn W u n).1) (b := (usr W (usn W u n) 8).1) 8 (fun k _ e => (usr_in 8).1 e)).2 q
        show n + 1 + 1 ≤ popn (usr W (usn W u n) 8).1 8
        have z' : n + 1 ≤ popn (usn W u n).1 8 := z
        omega
      · refine Or.inl (UC_of hW (fun k hk e => ?_))
        cases b : (usn W u n).1.testBit k with
        | true => rfl
        | false => exact absurd ⟨k, hk, e, b⟩ q
theorem use_in {W : zWo} : ∀ k n, (golW W).testBit k = true → (usn W (golW W, 0) n).1.testBit k = true := by
  intro k n
  induction n with
  | zero => exact id
  | succ n ih => exact fun h => (usr_in 8).1 (ih h)
theorem use_C {W : zWo} (hW : WOK W) : UC W (useW W, lksW W) := by
  have h1 : 1 ≤ pop8 (golW W) := by
    have hb : (golW W).testBit (wHea W) = true := by
      unfold golW
      rw [golF_s hW hW.hea, Nat.testBit_or, Nat.testBit_two_pow_self, Bool.true_or]
    have := (popn_mono (a := 0) (b := golW W) 8 (fun k _ e => by rw [Nat.zero_testBit] at e; cases e)).2 ⟨wHea W, hW.hea, hb, Nat.zero_testBit _⟩
    show 1 ≤ popn (golW W) 8
    omega
  rcases usn_UC hW (u := (golW W, 0)) h1 8 (Nat.le_refl 8) with z | z
  · exact z
  · have : popn (usn W (golW W, 0) 8).1 8 ≤ 8 := popn_le _ 8
    have z' : 9 ≤ popn (usn W (golW W, 0) 8).1 8 := z
    omega
theorem use_gol {W : zWo} {k : Nat} (h : (golW W).testBit k = true) : (useW W).testBit k = true := use_in k 8 h

