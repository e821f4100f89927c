/-! the world that class and reference hold alike -/
abbrev zWo : Type := ((Nat → Nat) × (Nat → Nat)) × ((Nat → Option Nat) × (Nat → Option Nat) × (Nat → Option Nat) × (Nat → Option Nat)) × (Nat × Nat × Nat) × (Nat × Nat × Nat × Nat)
def wWay (W : zWo) : Nat → Nat := W.1.1
def wIsl (W : zWo) : Nat → Nat := W.1.2
def wWin (W : zWo) : Nat → Option Nat := W.2.1.1
def wLok (W : zWo) : Nat → Option Nat := W.2.1.2.1
def wFli (W : zWo) : Nat → Option Nat := W.2.1.2.2.1
def wKey (W : zWo) : Nat → Option Nat := W.2.1.2.2.2
def wTol (W : zWo) : Nat := W.2.2.1.1
def wWet (W : zWo) : Nat := W.2.2.1.2.1
def wHea (W : zWo) : Nat := W.2.2.1.2.2
def wX (W : zWo) : Nat := W.2.2.2.1
def wNig (W : zWo) : Nat := W.2.2.2.2.1
def wDus (W : zWo) : Nat := W.2.2.2.2.2.1
def wSai (W : zWo) : Nat := W.2.2.2.2.2.2
def e1 : Option Nat → Int32
  | none => -1
  | some k => nI k
def e2 : Option Nat → Int32
  | none => -2
  | some k => nI k
def EC (c r : Nat) (W : zWo) (σ : zSt) : Prop :=
  (∀ j, j < 16 → σ.1 r j = nI (wWay W j)) ∧ (∀ j, j < 8 → σ.1 (r + 1) j = nI (wIsl W j)) ∧ (∀ j, j < 8 → σ.1 (r + 2) j = e1 (wWin W j)) ∧ (∀ j, j < 8 → σ.1 (r + 3) j = e1 (wLok W j)) ∧ (∀ j, j < 8 → σ.1 (r + 4) j = e1 (wFli W j)) ∧ (∀ j, j < 8 → σ.1 (r + 5) j = e1 (wKey W j)) ∧
  σ.1 c 6 = nI (wTol W) ∧ σ.1 c 7 = nI (wWet W) ∧ σ.1 c 8 = nI (wHea W) ∧ σ.1 c 9 = nI (wNig W) ∧ σ.1 c 10 = nI (wDus W) ∧ σ.1 c 11 = nI (wSai W) ∧ σ.1 c 12 = nI (wX W)
def EM (r b : Nat) (W : zWo) (σ : zSt) : Prop :=
  (∀ j, j < 16 → σ.1 r j = nI (wWay W j)) ∧ (∀ j, j < 8 → σ.1 (r + 1) j = nI (wIsl W j)) ∧ (∀ j, j < 8 → σ.1 (r + 2) j = e2 (wWin W j)) ∧ (∀ j, j < 8 → σ.1 (r + 3) j = e2 (wLok W j)) ∧ (∀ j, j < 8 → σ.1 (r + 4) j = e2 (wFli W j)) ∧ (∀ j, j < 8 → σ.1 (r + 5) j = e2 (wKey W j)) ∧
  σ.1 69 b = nI (wTol W) ∧ σ.1 69 (b + 1) = nI (wWet W) ∧ σ.1 69 (b + 2) = nI (wHea W) ∧ σ.1 69 (b + 4) = nI (wNig W) ∧ σ.1 69 (b + 5) = nI (wDus W) ∧ σ.1 69 (b + 6) = nI (wSai W) ∧ σ.1 69 (b + 3) = nI (wX W)
/-- told -/
def wIs (W : zWo) (p : Nat) : Bool := decide (p < 8) && (wTol W).testBit p
def WOK (W : zWo) : Prop :=
  (∀ j, j < 16 → wWay W j ≤ 30) ∧ (∀ a, a < 4 → wWay W (5 * a) = 0) ∧ (∀ j, j < 8 → wIsl W j < 4) ∧ (∀ j k, j < 8 → wWin W j = some k → k < j ∧ wIs W k = true) ∧ (∀ j k, j < 8 → wLok W j = some k → k < 8) ∧ (∀ j k, j < 8 → wFli W j = some k → j < k ∧ wIs W k = true) ∧ (∀ j k, j < 8 → wKey W j = some k → wIs W k = true ∨ (8 ≤ k ∧ k ≤ 10)) ∧
  wTol W < 256 ∧ wWet W < 256 ∧ wHea W < 8 ∧ wNig W ≤ 600 ∧ wDus W ≤ 8 ∧ wSai W ≤ 8 ∧ wX W < 65536
theorem e1_n {k : Nat} (h : k < 2147483648) : ¬ nI k = -1 := by
  rw [i_eq, i_nI h]
  show ¬ (k : Int) = -1
  omega
theorem e1_none {o : Option Nat} (h : ∀ k, o = some k → k < 16) : e1 o = -1 ↔ o = none := by
  cases o with
  | none => simp [e1]
  | some k =>
    have := h k rfl
    simp only [e1, reduceCtorEq, iff_false]
    exact e1_n (by omega)
theorem e1_lt {o : Option Nat} (h : ∀ k, o = some k → k < 16) : (e1 o).toInt < 0 ↔ o = none := by
  cases o with
  | none => simp only [e1, iff_true]; decide
  | some k =>
    have := h k rfl
    simp only [e1, reduceCtorEq, iff_false]
    rw [i_nI (by omega)]
    omega
theorem e2_lt {o : Option Nat} (h : ∀ k, o = some k → k < 16) : (e2 o).toInt < 0 ↔ o = none := by
  cases o with
  | none => simp only [e2, iff_true]; decide
  | some k =>
    have := h k rfl
    simp only [e2, reduceCtorEq, iff_false]
    rw [i_nI (by omega)]
    omega
theorem e1_eq {o : Option Nat} {p : Nat} (hp : p < 16) (h : ∀ k, o = some k → k < 16) : e1 o = nI p ↔ o = some p := by
  cases o with
  | none =>
    simp only [e1, reduceCtorEq, iff_false]
    intro q
    exact e1_n (k := p) (by omega) q.symm
  | some k =>
    have := h k rfl
    simp only [e1, Option.some.injEq]
    exact nI_eq (by omega) (by omega)
theorem e2_eq {o : Option Nat} {p : Nat} (hp : p < 16) (h : ∀ k, o = some k → k < 16) : e2 o = nI p ↔ o = some p := by
  cases o with
  | none =>
    simp only [e2, reduceCtorEq, iff_false]
    intro q
    rw [i_eq, i_nI (by omega)] at q
    have : (-2 : Int32).toInt = -2 := rfl
    omega
  | some k =>
    have := h k rfl
    simp only [e2, Option.some.injEq]
    exact nI_eq (by omega) (by omega)
/-! bits of numbers below 256 -/
theorem bit_t : ∀ m, m < 256 → ∀ k, k < 8 → decide (((nI m >>> (nI k &&& 31)) &&& (1 : Int32)) = 1) = m.testBit k := by decide +kernel
theorem bit_is {m k : Nat} (hm : m < 256) (hk : k < 8) : ((nI m >>> (nI k &&& 31)) &&& (1 : Int32)) = 1 ↔ m.testBit k = true := by
  rw [← bit_t m hm k hk, decide_eq_true_eq]
theorem bit_1 : ∀ k, k < 8 → (1 : Int32) <<< (nI k &&& 31) = nI (2 ^ k) := by decide +kernel
theorem bit_or : ∀ m, m < 256 → ∀ n, n < 256 → nI m ||| nI n = nI (m ||| n) := by
  intro m hm n hn
  apply Int32.toBitVec_inj.mp
  rw [Int32.toBitVec_or]
  apply BitVec.eq_of_toNat_eq
  rw [BitVec.toNat_or, pk_tn (by omega), pk_tn (by omega), pk_tn (by have := Nat.or_lt_two_pow (n := 8) hm hn; omega)]
theorem bit_and : ∀ m, m < 256 → ∀ n, n < 256 → nI m &&& nI n = nI (m &&& n) := by
  intro m hm n hn
  apply Int32.toBitVec_inj.mp
  rw [Int32.toBitVec_and]
  apply BitVec.eq_of_toNat_eq
  rw [BitVec.toNat_and, pk_tn (by omega), pk_tn (by omega), pk_tn (by have := Nat.and_le_left (n := m) (m := n); omega)]
theorem bit_clr : ∀ m, m < 256 → ∀ k, k < 8 → nI m &&& (((1 : Int32) <<< (nI k &&& 31)) ^^^ -1) = nI (m &&& (255 - 2 ^ k)) := by decide +kernel
