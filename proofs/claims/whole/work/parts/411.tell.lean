/-! PURE: literals, bits -/
theorem lt_lit {a k : Nat} (h : a < 2147483648 ∧ (OfNat.ofNat k : Nat) < 2147483648) : (nI a < no_index (OfNat.ofNat k : Int32)) = (a < (OfNat.ofNat k : Nat)) := propext (nI_ltI (b := k) h.1 h.2)
theorem le_lit {a k : Nat} (h : a < 2147483648 ∧ (OfNat.ofNat k : Nat) < 2147483648) : (nI a ≤ no_index (OfNat.ofNat k : Int32)) = (a ≤ (OfNat.ofNat k : Nat)) := propext (nI_leI (b := k) h.1 h.2)
theorem lit_lt {a k : Nat} (h : a < 2147483648 ∧ (OfNat.ofNat k : Nat) < 2147483648) : (no_index (OfNat.ofNat k : Int32) < nI a) = ((OfNat.ofNat k : Nat) < a) := propext (nI_ltI (a := k) h.2 h.1)
theorem lit_le {a k : Nat} (h : a < 2147483648 ∧ (OfNat.ofNat k : Nat) < 2147483648) : (no_index (OfNat.ofNat k : Int32) ≤ nI a) = ((OfNat.ofNat k : Nat) ≤ a) := propext (nI_leI (a := k) h.2 h.1)
theorem eq_lit {a k : Nat} (h : a < 2147483648 ∧ (OfNat.ofNat k : Nat) < 2147483648) : (nI a = no_index (OfNat.ofNat k : Int32)) = (a = (OfNat.ofNat k : Nat)) := propext (nI_eq (b := k) h.1 h.2)
theorem lit_eq {a k : Nat} (h : a < 2147483648 ∧ (OfNat.ofNat k : Nat) < 2147483648) : (no_index (OfNat.ofNat k : Int32) = nI a) = ((OfNat.ofNat k : Nat) = a) := propext (nI_eq (a := k) h.2 h.1)
theorem nI_ltp {a b : Nat} (h : a < 2147483648 ∧ b < 2147483648) : (nI a < nI b) = (a < b) := propext (nI_ltI h.1 h.2)
theorem nI_lep {a b : Nat} (h : a < 2147483648 ∧ b < 2147483648) : (nI a ≤ nI b) = (a ≤ b) := propext (nI_leI h.1 h.2)
theorem nI_eqp {a b : Nat} (h : a < 2147483648 ∧ b < 2147483648) : (nI a = nI b) = (a = b) := propext (nI_eq h.1 h.2)
theorem if_le {α : Type} {a b : Nat} {i : Decidable (nI a ≤ nI b)} {x y : α} (h : a < 2147483648 ∧ b < 2147483648) : @ite α (nI a ≤ nI b) i x y = if a ≤ b then x else y := by
  by_cases q : a ≤ b
  · rw [if_pos q, if_pos ((nI_leI h.1 h.2).mpr q)]
  · rw [if_neg q, if_neg (fun r => q ((nI_leI h.1 h.2).mp r))]
theorem if_lt {α : Type} {a b : Nat} {i : Decidable (nI a < nI b)} {x y : α} (h : a < 2147483648 ∧ b < 2147483648) : @ite α (nI a < nI b) i x y = if a < b then x else y := by
  by_cases q : a < b
  · rw [if_pos q, if_pos ((nI_ltI h.1 h.2).mpr q)]
  · rw [if_neg q, if_neg (fun r => q ((nI_ltI h.1 h.2).mp r))]
theorem if_eqI {α : Type} {a b : Nat} {i : Decidable (nI a = nI b)} {x y : α} (h : a < 2147483648 ∧ b < 2147483648) : @ite α (nI a = nI b) i x y = if a = b then x else y := by
  by_cases q : a = b
  · rw [if_pos q, if_pos (by rw [q])]
  · rw [if_neg q, if_neg (fun r => q ((nI_eq h.1 h.2).mp r))]
theorem if_e1 {α : Type} {o : Option Nat} {c : Nat} {i : Decidable (e1 o = nI c)} {x y : α} (ho : ∀ b, o = some b → b < 2147483648) (hc : c < 2147483648) : @ite α (e1 o = nI c) i x y = if o = some c then x else y := by
  cases o with
  | none => rw [if_neg (show ¬ (none : Option Nat) = some c from fun r => by cases r), if_neg (show ¬ e1 none = nI c from fun r => e1_n (k := c) hc r.symm)]
  | some b =>
    by_cases q : b = c
    · rw [if_pos (show e1 (some b) = nI c by rw [q]; rfl), if_pos (show some b = some c by rw [q])]
    · rw [if_neg (fun r => q (Option.some.inj r)), if_neg (show ¬ e1 (some b) = nI c from fun r => q ((nI_eq (ho b rfl) hc).mp r))]
theorem lit_sub {a k : Nat} (h : (OfNat.ofNat k : Nat) ≤ a) : nI a - no_index (OfNat.ofNat k : Int32) = nI (a - (OfNat.ofNat k : Nat)) := pk_sub (b := k) h
theorem lit_add {a k : Nat} : nI a + no_index (OfNat.ofNat k : Int32) = nI (a + (OfNat.ofNat k : Nat)) := nI_add a k
theorem add_lit {a k : Nat} : no_index (OfNat.ofNat k : Int32) + nI a = nI ((OfNat.ofNat k : Nat) + a) := nI_add k a
theorem lit_mul {a k : Nat} : no_index (OfNat.ofNat k : Int32) * nI a = nI ((OfNat.ofNat k : Nat) * a) := pk_mul k a
theorem lit_div {a k : Nat} (h : a < 2147483648 ∧ 0 < (OfNat.ofNat k : Nat) ∧ (OfNat.ofNat k : Nat) < 2147483648) : nI a / no_index (OfNat.ofNat k : Int32) = nI (a / (OfNat.ofNat k : Nat)) := pk_div (d := k) h.1 h.2.1 h.2.2
theorem nI_ne_m1 {a : Nat} (h : a < 2147483648) : (nI a = -1) = False := eq_false (e1_n h)
theorem nI_ne_m2 {a : Nat} (h : a < 2147483648) : (nI a = -2) = False := eq_false (fun q => by
  rw [i_eq, i_nI h] at q
  have : (-2 : Int32).toInt = -2 := rfl
  omega)
theorem m1_lt0 : ((-1 : Int32) < 0) = True := eq_true (by decide)
theorem nI_lt0 {a : Nat} (h : a < 2147483648) : (nI a < 0) = False := eq_false (nI_pos h)
theorem nI_or (a b : Nat) : nI a ||| nI b = nI (a ||| b) := by
  apply Int32.toBitVec_inj.1
  show BitVec.ofNat 32 a ||| BitVec.ofNat 32 b = BitVec.ofNat 32 (a ||| b)
  apply BitVec.eq_of_getLsbD_eq
  intro i hi
  simp [hi]
theorem nI_and (a b : Nat) : nI a &&& nI b = nI (a &&& b) := by
  apply Int32.toBitVec_inj.1
  show BitVec.ofNat 32 a &&& BitVec.ofNat 32 b = BitVec.ofNat 32 (a &&& b)
  apply BitVec.eq_of_getLsbD_eq
  intro i hi
  simp [hi]
theorem d10 : ((1 : Int32) = 0) = False := by decide
theorem d01 : ((0 : Int32) = 1) = False := by decide
theorem lit_test (a : Nat) (h : a < 18) (h2 : 10 ≤ a) : (if nI a < (10 : Int32) then (0 : Nat) else if (18 : Int32) ≤ nI a then 1 else if (0 : Int32) ≤ nI a then (if nI a = (1 : Int32) then 3 else 4) else 5) = 4 := by
  simp (disch := omega) only [lt_lit, lit_le, eq_lit, if_pos, if_neg]
theorem bit_xor8 : ∀ m, m < 256 → ∀ k, k < 8 → nI m ^^^ ((1 : Int32) <<< (nI k &&& 31)) = if m.testBit k then nI (m &&& (255 - 2 ^ k)) else nI (m ||| 2 ^ k) := by decide +kernel
theorem bit_01 : ∀ m, m < 256 → ∀ k, k < 8 → (nI m >>> (nI k &&& 31)) &&& (1 : Int32) = nI (m.testBit k).toNat := by decide +kernel
def popn (m : Nat) : Nat → Nat
  | 0 => 0
  | k + 1 => popn m k + (m.testBit k).toNat
def pop8 (m : Nat) : Nat := popn m 8
theorem popn_le (m : Nat) : ∀ k, popn m k ≤ k
  | 0 => Nat.le_refl 0
  | k + 1 => by
    have := popn_le m k
    have h2 : (m.testBit k).toNat ≤ 1 := Bool.toNat_le _
    unfold popn
    omega
theorem pop8_add : ∀ m, m < 256 → ∀ q, q < 8 → m.testBit q = false → pop8 (2 ^ q ||| m) = pop8 m + 1 := by decide +kernel
def bce (x : Int32) : Int32 :=
  let v1 := x - ((zushr x (1 : Int32)) &&& (1431655765 : Int32))
  let v2 := (v1 &&& (858993459 : Int32)) + ((zushr v1 (2 : Int32)) &&& (858993459 : Int32))
  let v3 := (v2 + (zushr v2 (4 : Int32))) &&& (252645135 : Int32)
  let v4 := v3 + (zushr v3 (8 : Int32))
  let v5 := v4 + (zushr v4 (16 : Int32))
  v5 &&& (63 : Int32)
theorem bc_n : ∀ m, m < 256 → bce (nI m) = nI (pop8 m) := by decide +kernel
theorem T_bitCount {m : Nat} {σ : zSt} (hm : m < 256) : F_J6_bitCount_0f7a4 (nI m) σ = some (nI (pop8 m), σ) := congrArg (fun x => some (x, σ)) (bc_n m hm)
theorem T_bitCountX (x : Int32) (σ : zSt) : ∃ v, F_J6_bitCount_0f7a4 x σ = some (v, σ) := ⟨_, rfl⟩
theorem T_bits {m : Nat} {σ : zSt} (hm : m < 256) : F_X12_bits (nI m) σ = some (nI (pop8 m), σ) := by
  unfold F_X12_bits F_X12_bits_0
  refine zfix_run (fun i => (nI (popn m i), nI i, σ)) 8 (by decide) (fun i w hi => ?_) (fun w => ?_)
  · show F_X12_bits_4 (nI m) w (nI (popn m i)) (nI i) σ = _
    unfold F_X12_bits_4
    have := popn_le m i
    simp (disch := omega) only [lit_le, if_neg, nm_s, bit_01 m hm i hi, nI_add, nI_1, popn]
  · show F_X12_bits_4 (nI m) w (nI (popn m 8)) (nI 8) σ = _
    unfold F_X12_bits_4
    simp (disch := omega) only [lit_le, if_pos]
    rfl
theorem pop_lev {W : zWo} (hW : WOK W) : ∀ p, p < 8 → pop8 (ancs W p) = levW W 8 p := by
  intro p
  induction p using Nat.strongRecOn with
  | ind p ih =>
    intro hp
    cases hw : wWin W p with
    | none =>
      rw [ancs_0 hw]
      simp [levW, hw]
      decide
    | some q =>
      have hq := (hW.win p q hp hw).1
      have hl : levW W 8 p = levW W 8 q + 1 := by
        rw [show levW W 8 p = levW W 7 q + 1 by simp [levW, hw], (ancW_n hW q (by omega) 7 8 (by omega) (by omega)).2]
      rw [ancs_s hW hp hw, hl, ← ih q hq (by omega)]
      refine pop8_add _ (ancs_lt hW (by omega)) q (by omega) ?_
      cases h : (ancs W q).testBit q with
      | false => rfl
      | true => exact absurd (ancs_bit hW q (by omega) q h) (Nat.lt_irrefl q)
/-- the KEYS that are at x, as bits -/
def keyb (W : zWo) (x : Nat) : Nat → Nat
  | 0 => 0
  | n + 1 => keyb W x n ||| (if wKey W n = some x then 2 ^ n else 0)
def keysW (W : zWo) (x : Nat) : Nat := keyb W x 8
theorem keyb_lt (W : zWo) (x : Nat) : ∀ n, n ≤ 8 → keyb W x n < 256 := by
  intro n
  induction n with
  | zero => intro _; exact Nat.zero_lt_succ 255
  | succ n ih =>
    intro h
    unfold keyb
    refine or_lt (ih (by omega)) ?_
    split
    · exact pow_lt8 (by omega)
    · decide
theorem keyb_bit (W : zWo) (x : Nat) : ∀ n, ∀ k, (keyb W x n).testBit k = (decide (k < n) && decide (wKey W k = some x)) := by
  intro n
  induction n with
  | zero => intro k; simp [keyb]
  | succ n ih =>
    intro k
    unfold keyb
    rw [Nat.testBit_or, ih k]
    by_cases h : wKey W n = some x
    · rw [if_pos h, Nat.testBit_two_pow]
      by_cases q : n = k
      · subst q
        simp [h]
      · have e : decide (k < n + 1) = decide (k < n) := by
          by_cases r : k < n
          · rw [decide_eq_true r, decide_eq_true (by omega)]
          · rw [decide_eq_false r, decide_eq_false (by omega)]
        rw [e]
        simp [q]
    · rw [if_neg h, Nat.zero_testBit, Bool.or_false]
      by_cases q : k = n
      · subst q
        simp [h]
      · have e : decide (k < n + 1) = decide (k < n) := by
          by_cases r : k < n
          · rw [decide_eq_true r, decide_eq_true (by omega)]
          · rw [decide_eq_false r, decide_eq_false (by omega)]
        rw [e]
theorem keysW_bit (W : zWo) (x : Nat) {k : Nat} (hk : k < 8) : (keysW W x).testBit k = true ↔ wKey W k = some x := by
  unfold keysW
  rw [keyb_bit]
  simp [hk]
theorem keysW_lt (W : zWo) (x : Nat) : keysW W x < 256 := keyb_lt W x 8 (Nat.le_refl 8)
theorem key16 {W : zWo} (hW : WOK W) {j : Nat} (hj : j < 8) : ∀ k, wKey W j = some k → k < 16 := fun k h => by
  rcases hW.key j k hj h with q | q
  · have := wIs_lt q
    omega
  · omega
theorem keysUp_e {W : zWo} (row : Nat → Int32) {x : Nat} (h : ∀ j, j < 8 → (row j = nI x ↔ wKey W j = some x)) : ∀ n, n ≤ 8 → keysUp row (nI x) n = nI (keyb W x n) := by
  intro n
  induction n with
  | zero => intro _; rfl
  | succ n ih =>
    intro hn
    unfold keysUp keyb
    rw [ih (by omega)]
    by_cases q : wKey W n = some x
    · rw [if_pos q, if_pos ((h n (by omega)).mpr q), bit_1 n (by omega), nI_or]
    · rw [if_neg q, if_neg (fun r => q ((h n (by omega)).mp r)), ← nI_0, nI_or]
theorem T_keysIn {W : zWo} {σ : zSt} (hW : WOK W) (hE : EC 1 2 W σ) {x : Nat} (hx : x < 16) : F_X10_keysIn (nI x) σ = some (nI (keysW W x), σ) := by
  rw [t_keysIn, keysUp_e (W := W) _ (fun j hj => ?_) 8 (Nat.le_refl 8)]
  · rfl
  · rw [show σ.1 7 j = e1 (wKey W j) from hE.2.2.2.2.2.1 j hj]
    exact e1_eq hx (key16 hW hj)
theorem T_keysAt {W : zWo} {σ : zSt} (hW : WOK W) (hE : EM 70 0 W σ) {x : Nat} (hx : x < 16) : F_X12_keysAt (nI x) σ = some (nI (keysW W x), σ) := by
  rw [t_keysAt, keysUp_e (W := W) _ (fun j hj => ?_) 8 (Nat.le_refl 8)]
  · rfl
  · rw [show σ.1 75 j = e2 (wKey W j) from hE.2.2.2.2.2.1 j hj]
    exact e2_eq hx (key16 hW hj)
theorem e12s {o : Option Nat} {σ : zSt} (h : ∀ k, o = some k → k < 16) : (if e1 o = -1 then some ((-2 : Int32), σ) else some (e1 o, σ)) = some (e2 o, σ) := by
  cases o with
  | none => rfl
  | some k => exact if_neg (e1_n (by have := h k rfl; omega))
theorem s_placeIs {n : Nat} {σ : zSt} (hn : n < 512) (hR : Rel n σ) (x1 x2 : Int32) : Both n (F_X11_placeIs x1 x2) (F_X12_placeIs x1 x2) σ := by
  obtain ⟨-, ⟨W, w0, w1, w2, w3⟩, -⟩ := id hR
  by_cases h1 : isT W x1
  rotate_left
  · exact Both.no (-1) hn hR (by simp (disch := omega) only [F_X11_placeIs, F_X11_placeIs_0, T_isBelow_2, T_isBelow_3, T_isBelow_4, T_isBelow_6, T_isBelow_8, T_isBelow_9, T_isBelow_10, T_isBelow_12, T_isBelow_16, T_isBelow_17, T_isBelow_31, T_isBelow_64, T_isBelow_256, T_isBelow_65536, T_in_1, T_in_2, T_in_3, T_in_4, T_in_5, T_in_8, T_in_11, T_in_16, T_in_30, T_in_63, T_in_255, T_in_65535, T_isIsland, T_isEight, bd_s, nm_s, bI_0, gd_n, gd_01, nI_cl, nI_add, nI_1, m4, Bool.false_eq_true, and_self, true_and, and_true, true_or, or_true, or_self, false_or, or_false, gd_T, not_true_eq_false, not_false_eq_true, ↓reduceIte, h1, T_isTold w0 w2]) (by simp (disch := omega) only [F_X12_placeIs, F_X12_placeIs_0, T_isBelow_2, T_isBelow_3, T_isBelow_4, T_isBelow_6, T_isBelow_8, T_isBelow_9, T_isBelow_10, T_isBelow_12, T_isBelow_16, T_isBelow_17, T_isBelow_31, T_isBelow_64, T_isBelow_256, T_isBelow_65536, T_in_1, T_in_2, T_in_3, T_in_4, T_in_5, T_in_8, T_in_11, T_in_16, T_in_30, T_in_63, T_in_255, T_in_65535, T_isIsland, T_isEight, bd_s, nm_s, bI_0, gd_n, gd_01, nI_cl, nI_add, nI_1, m4, Bool.false_eq_true, and_self, true_and, and_true, true_or, or_true, or_self, false_or, or_false, gd_T, not_true_eq_false, not_false_eq_true, ↓reduceIte, h1, T_isPlace w0 w3])
  have g1 := h1
  obtain ⟨p, hp, hp2, rfl⟩ := isT_of h1
  have hb : bel (nI p) 8 := bel_t (by omega)
  have E1 : F_X11_placeIs (nI p) x2 σ = bd (F_X10_ofPlace (nI p) x2 σ) (fun q6 s5 => some (q6, s5)) := by
    simp (disch := omega) only [F_X11_placeIs, F_X11_placeIs_0, T_isBelow_2, T_isBelow_3, T_isBelow_4, T_isBelow_6, T_isBelow_8, T_isBelow_9, T_isBelow_10, T_isBelow_12, T_isBelow_16, T_isBelow_17, T_isBelow_31, T_isBelow_64, T_isBelow_256, T_isBelow_65536, T_in_1, T_in_2, T_in_3, T_in_4, T_in_5, T_in_8, T_in_11, T_in_16, T_in_30, T_in_63, T_in_255, T_in_65535, T_isIsland, T_isEight, bd_s, nm_s, bI_0, gd_n, gd_01, nI_cl, nI_add, nI_1, m4, Bool.false_eq_true, and_self, true_and, and_true, true_or, or_true, or_self, false_or, or_false, gd_T, not_true_eq_false, not_false_eq_true, ↓reduceIte, g1, T_isTold w0 w2]
  have win := w2.2.2.1 p hp
  have lok := w2.2.2.2.1 p hp
  have fli := w2.2.2.2.2.1 p hp
  have mwin : σ.1 72 p = _ := w3.2.2.1 p hp
  have mlok : σ.1 73 p = _ := w3.2.2.2.1 p hp
  have mfli : σ.1 74 p = _ := w3.2.2.2.2.1 p hp
  have cwin : σ.1 4 p = _ := win
  have clok : σ.1 5 p = _ := lok
  have cfli : σ.1 6 p = _ := fli
  have cwet : σ.1 1 7 = nI (wWet W) := w2.2.2.2.2.2.2.2.1
  have mwet : σ.1 69 1 = nI (wWet W) := w3.2.2.2.2.2.2.2.1
  have hwin := win16 w0 hp
  have hlok : ∀ k, wLok W p = some k → k < 16 := fun k q => by have := w0.lok p k hp q; omega
  have hfli : ∀ k, wFli W p = some k → k < 16 := fun k q => by have := wIs_lt (w0.fli p k hp q).2; omega
  by_cases a0 : x2 = 0
  · exact Both.no (nI (islW W p)) hn hR (by rw [E1]; simp (disch := omega) only [F_X10_ofPlace, F_X10_ofPlace_0, T_isBelow_2, T_isBelow_3, T_isBelow_4, T_isBelow_6, T_isBelow_8, T_isBelow_9, T_isBelow_10, T_isBelow_12, T_isBelow_16, T_isBelow_17, T_isBelow_31, T_isBelow_64, T_isBelow_256, T_isBelow_65536, T_in_1, T_in_2, T_in_3, T_in_4, T_in_5, T_in_8, T_in_11, T_in_16, T_in_30, T_in_63, T_in_255, T_in_65535, T_isIsland, T_isEight, bd_s, nm_s, bI_0, gd_n, gd_01, nI_cl, nI_add, nI_1, m4, Bool.false_eq_true, and_self, true_and, and_true, true_or, or_true, or_self, false_or, or_false, gd_T, not_true_eq_false, not_false_eq_true, ↓reduceIte, if_pos a0, hb, t_islandOf w0 w2 hp]) (by simp (disch := omega) only [F_X12_placeIs, F_X12_placeIs_0, T_isBelow_2, T_isBelow_3, T_isBelow_4, T_isBelow_6, T_isBelow_8, T_isBelow_9, T_isBelow_10, T_isBelow_12, T_isBelow_16, T_isBelow_17, T_isBelow_31, T_isBelow_64, T_isBelow_256, T_isBelow_65536, T_in_1, T_in_2, T_in_3, T_in_4, T_in_5, T_in_8, T_in_11, T_in_16, T_in_30, T_in_63, T_in_255, T_in_65535, T_isIsland, T_isEight, bd_s, nm_s, bI_0, gd_n, gd_01, nI_cl, nI_add, nI_1, m4, Bool.false_eq_true, and_self, true_and, and_true, true_or, or_true, or_self, false_or, or_false, gd_T, not_true_eq_false, not_false_eq_true, ↓reduceIte, g1, if_pos a0, T_isPlace w0 w3, t_islandBy w0 w3 hp])
  by_cases a1 : x2 = 1
  · exact Both.no (e2 (wWin W p)) hn hR (by rw [E1]; simp (disch := omega) only [F_X10_ofPlace, F_X10_ofPlace_0, T_isBelow_2, T_isBelow_3, T_isBelow_4, T_isBelow_6, T_isBelow_8, T_isBelow_9, T_isBelow_10, T_isBelow_12, T_isBelow_16, T_isBelow_17, T_isBelow_31, T_isBelow_64, T_isBelow_256, T_isBelow_65536, T_in_1, T_in_2, T_in_3, T_in_4, T_in_5, T_in_8, T_in_11, T_in_16, T_in_30, T_in_63, T_in_255, T_in_65535, T_isIsland, T_isEight, bd_s, nm_s, bI_0, gd_n, gd_01, nI_cl, nI_add, nI_1, m4, Bool.false_eq_true, and_self, true_and, and_true, true_or, or_true, or_self, false_or, or_false, gd_T, not_true_eq_false, not_false_eq_true, ↓reduceIte, a0, if_pos a1, hb, cwin, e12s hwin]) (by simp (disch := omega) only [F_X12_placeIs, F_X12_placeIs_0, T_isBelow_2, T_isBelow_3, T_isBelow_4, T_isBelow_6, T_isBelow_8, T_isBelow_9, T_isBelow_10, T_isBelow_12, T_isBelow_16, T_isBelow_17, T_isBelow_31, T_isBelow_64, T_isBelow_256, T_isBelow_65536, T_in_1, T_in_2, T_in_3, T_in_4, T_in_5, T_in_8, T_in_11, T_in_16, T_in_30, T_in_63, T_in_255, T_in_65535, T_isIsland, T_isEight, bd_s, nm_s, bI_0, gd_n, gd_01, nI_cl, nI_add, nI_1, m4, Bool.false_eq_true, and_self, true_and, and_true, true_or, or_true, or_self, false_or, or_false, gd_T, not_true_eq_false, not_false_eq_true, ↓reduceIte, g1, a0, if_pos a1, T_isPlace w0 w3, mwin])
  by_cases a2 : x2 = 2
  · exact Both.no (e2 (wLok W p)) hn hR (by rw [E1]; simp (disch := omega) only [F_X10_ofPlace, F_X10_ofPlace_0, T_isBelow_2, T_isBelow_3, T_isBelow_4, T_isBelow_6, T_isBelow_8, T_isBelow_9, T_isBelow_10, T_isBelow_12, T_isBelow_16, T_isBelow_17, T_isBelow_31, T_isBelow_64, T_isBelow_256, T_isBelow_65536, T_in_1, T_in_2, T_in_3, T_in_4, T_in_5, T_in_8, T_in_11, T_in_16, T_in_30, T_in_63, T_in_255, T_in_65535, T_isIsland, T_isEight, bd_s, nm_s, bI_0, gd_n, gd_01, nI_cl, nI_add, nI_1, m4, Bool.false_eq_true, and_self, true_and, and_true, true_or, or_true, or_self, false_or, or_false, gd_T, not_true_eq_false, not_false_eq_true, ↓reduceIte, a0, a1, if_pos a2, hb, clok, e12s hlok]) (by simp (disch := omega) only [F_X12_placeIs, F_X12_placeIs_0, T_isBelow_2, T_isBelow_3, T_isBelow_4, T_isBelow_6, T_isBelow_8, T_isBelow_9, T_isBelow_10, T_isBelow_12, T_isBelow_16, T_isBelow_17, T_isBelow_31, T_isBelow_64, T_isBelow_256, T_isBelow_65536, T_in_1, T_in_2, T_in_3, T_in_4, T_in_5, T_in_8, T_in_11, T_in_16, T_in_30, T_in_63, T_in_255, T_in_65535, T_isIsland, T_isEight, bd_s, nm_s, bI_0, gd_n, gd_01, nI_cl, nI_add, nI_1, m4, Bool.false_eq_true, and_self, true_and, and_true, true_or, or_true, or_self, false_or, or_false, gd_T, not_true_eq_false, not_false_eq_true, ↓reduceIte, g1, a0, a1, if_pos a2, T_isPlace w0 w3, mlok])
  by_cases a3 : x2 = 3
  · by_cases b : (wWet W).testBit p = true
    · exact Both.no 1 hn hR (by rw [E1]; simp (disch := omega) only [F_X10_ofPlace, F_X10_ofPlace_0, F_X10_isWet, F_X10_isWet_0, T_isBelow_2, T_isBelow_3, T_isBelow_4, T_isBelow_6, T_isBelow_8, T_isBelow_9, T_isBelow_10, T_isBelow_12, T_isBelow_16, T_isBelow_17, T_isBelow_31, T_isBelow_64, T_isBelow_256, T_isBelow_65536, T_in_1, T_in_2, T_in_3, T_in_4, T_in_5, T_in_8, T_in_11, T_in_16, T_in_30, T_in_63, T_in_255, T_in_65535, T_isIsland, T_isEight, bd_s, nm_s, bI_0, gd_n, gd_01, nI_cl, nI_add, nI_1, m4, Bool.false_eq_true, and_self, true_and, and_true, true_or, or_true, or_self, false_or, or_false, gd_T, not_true_eq_false, not_false_eq_true, ↓reduceIte, a0, a1, a2, if_pos a3, hb, cwet, bit_is w0.wet hp, b, d10]) (by simp (disch := omega) only [F_X12_placeIs, F_X12_placeIs_0, T_isBelow_2, T_isBelow_3, T_isBelow_4, T_isBelow_6, T_isBelow_8, T_isBelow_9, T_isBelow_10, T_isBelow_12, T_isBelow_16, T_isBelow_17, T_isBelow_31, T_isBelow_64, T_isBelow_256, T_isBelow_65536, T_in_1, T_in_2, T_in_3, T_in_4, T_in_5, T_in_8, T_in_11, T_in_16, T_in_30, T_in_63, T_in_255, T_in_65535, T_isIsland, T_isEight, bd_s, nm_s, bI_0, gd_n, gd_01, nI_cl, nI_add, nI_1, m4, Bool.false_eq_true, and_self, true_and, and_true, true_or, or_true, or_self, false_or, or_false, gd_T, not_true_eq_false, not_false_eq_true, ↓reduceIte, g1, a0, a1, a2, if_pos a3, T_isPlace w0 w3, mwet, T_has (And.intro w0.wet hp), b])
    · exact Both.no 0 hn hR (by rw [E1]; simp (disch := omega) only [F_X10_ofPlace, F_X10_ofPlace_0, F_X10_isWet, F_X10_isWet_0, T_isBelow_2, T_isBelow_3, T_isBelow_4, T_isBelow_6, T_isBelow_8, T_isBelow_9, T_isBelow_10, T_isBelow_12, T_isBelow_16, T_isBelow_17, T_isBelow_31, T_isBelow_64, T_isBelow_256, T_isBelow_65536, T_in_1, T_in_2, T_in_3, T_in_4, T_in_5, T_in_8, T_in_11, T_in_16, T_in_30, T_in_63, T_in_255, T_in_65535, T_isIsland, T_isEight, bd_s, nm_s, bI_0, gd_n, gd_01, nI_cl, nI_add, nI_1, m4, Bool.false_eq_true, and_self, true_and, and_true, true_or, or_true, or_self, false_or, or_false, gd_T, not_true_eq_false, not_false_eq_true, ↓reduceIte, a0, a1, a2, if_pos a3, hb, cwet, bit_is w0.wet hp, b]) (by simp (disch := omega) only [F_X12_placeIs, F_X12_placeIs_0, T_isBelow_2, T_isBelow_3, T_isBelow_4, T_isBelow_6, T_isBelow_8, T_isBelow_9, T_isBelow_10, T_isBelow_12, T_isBelow_16, T_isBelow_17, T_isBelow_31, T_isBelow_64, T_isBelow_256, T_isBelow_65536, T_in_1, T_in_2, T_in_3, T_in_4, T_in_5, T_in_8, T_in_11, T_in_16, T_in_30, T_in_63, T_in_255, T_in_65535, T_isIsland, T_isEight, bd_s, nm_s, bI_0, gd_n, gd_01, nI_cl, nI_add, nI_1, m4, Bool.false_eq_true, and_self, true_and, and_true, true_or, or_true, or_self, false_or, or_false, gd_T, not_true_eq_false, not_false_eq_true, ↓reduceIte, g1, a0, a1, a2, if_pos a3, T_isPlace w0 w3, mwet, T_has (And.intro w0.wet hp), b])
  by_cases a4 : x2 = 4
  · exact Both.no (e2 (wFli W p)) hn hR (by rw [E1]; simp (disch := omega) only [F_X10_ofPlace, F_X10_ofPlace_0, T_isBelow_2, T_isBelow_3, T_isBelow_4, T_isBelow_6, T_isBelow_8, T_isBelow_9, T_isBelow_10, T_isBelow_12, T_isBelow_16, T_isBelow_17, T_isBelow_31, T_isBelow_64, T_isBelow_256, T_isBelow_65536, T_in_1, T_in_2, T_in_3, T_in_4, T_in_5, T_in_8, T_in_11, T_in_16, T_in_30, T_in_63, T_in_255, T_in_65535, T_isIsland, T_isEight, bd_s, nm_s, bI_0, gd_n, gd_01, nI_cl, nI_add, nI_1, m4, Bool.false_eq_true, and_self, true_and, and_true, true_or, or_true, or_self, false_or, or_false, gd_T, not_true_eq_false, not_false_eq_true, ↓reduceIte, a0, a1, a2, a3, if_pos a4, hb, cfli, e12s hfli]) (by simp (disch := omega) only [F_X12_placeIs, F_X12_placeIs_0, T_isBelow_2, T_isBelow_3, T_isBelow_4, T_isBelow_6, T_isBelow_8, T_isBelow_9, T_isBelow_10, T_isBelow_12, T_isBelow_16, T_isBelow_17, T_isBelow_31, T_isBelow_64, T_isBelow_256, T_isBelow_65536, T_in_1, T_in_2, T_in_3, T_in_4, T_in_5, T_in_8, T_in_11, T_in_16, T_in_30, T_in_63, T_in_255, T_in_65535, T_isIsland, T_isEight, bd_s, nm_s, bI_0, gd_n, gd_01, nI_cl, nI_add, nI_1, m4, Bool.false_eq_true, and_self, true_and, and_true, true_or, or_true, or_self, false_or, or_false, gd_T, not_true_eq_false, not_false_eq_true, ↓reduceIte, g1, a0, a1, a2, a3, if_pos a4, T_isPlace w0 w3, mfli])
  by_cases a5 : x2 = 5
  · exact Both.no (nI (keysW W p)) hn hR (by rw [E1]; simp (disch := omega) only [F_X10_ofPlace, F_X10_ofPlace_0, T_isBelow_2, T_isBelow_3, T_isBelow_4, T_isBelow_6, T_isBelow_8, T_isBelow_9, T_isBelow_10, T_isBelow_12, T_isBelow_16, T_isBelow_17, T_isBelow_31, T_isBelow_64, T_isBelow_256, T_isBelow_65536, T_in_1, T_in_2, T_in_3, T_in_4, T_in_5, T_in_8, T_in_11, T_in_16, T_in_30, T_in_63, T_in_255, T_in_65535, T_isIsland, T_isEight, bd_s, nm_s, bI_0, gd_n, gd_01, nI_cl, nI_add, nI_1, m4, Bool.false_eq_true, and_self, true_and, and_true, true_or, or_true, or_self, false_or, or_false, gd_T, not_true_eq_false, not_false_eq_true, ↓reduceIte, a0, a1, a2, a3, a4, if_pos a5, hb, T_keysIn w0 w2 (show p < 16 by omega)]) (by simp (disch := omega) only [F_X12_placeIs, F_X12_placeIs_0, T_isBelow_2, T_isBelow_3, T_isBelow_4, T_isBelow_6, T_isBelow_8, T_isBelow_9, T_isBelow_10, T_isBelow_12, T_isBelow_16, T_isBelow_17, T_isBelow_31, T_isBelow_64, T_isBelow_256, T_isBelow_65536, T_in_1, T_in_2, T_in_3, T_in_4, T_in_5, T_in_8, T_in_11, T_in_16, T_in_30, T_in_63, T_in_255, T_in_65535, T_isIsland, T_isEight, bd_s, nm_s, bI_0, gd_n, gd_01, nI_cl, nI_add, nI_1, m4, Bool.false_eq_true, and_self, true_and, and_true, true_or, or_true, or_self, false_or, or_false, gd_T, not_true_eq_false, not_false_eq_true, ↓reduceIte, g1, a0, a1, a2, a3, a4, if_pos a5, T_isPlace w0 w3, T_keysAt w0 w3 (show p < 16 by omega)])
  by_cases a6 : x2 = 6
  · exact Both.no (nI (levW W 8 p)) hn hR (by rw [E1]; simp (disch := omega) only [F_X10_ofPlace, F_X10_ofPlace_0, T_isBelow_2, T_isBelow_3, T_isBelow_4, T_isBelow_6, T_isBelow_8, T_isBelow_9, T_isBelow_10, T_isBelow_12, T_isBelow_16, T_isBelow_17, T_isBelow_31, T_isBelow_64, T_isBelow_256, T_isBelow_65536, T_in_1, T_in_2, T_in_3, T_in_4, T_in_5, T_in_8, T_in_11, T_in_16, T_in_30, T_in_63, T_in_255, T_in_65535, T_isIsland, T_isEight, bd_s, nm_s, bI_0, gd_n, gd_01, nI_cl, nI_add, nI_1, m4, Bool.false_eq_true, and_self, true_and, and_true, true_or, or_true, or_self, false_or, or_false, gd_T, not_true_eq_false, not_false_eq_true, ↓reduceIte, a0, a1, a2, a3, a4, a5, if_pos a6, hb, t_around w0 w2 hp, T_bitCount (ancs_lt w0 hp), pop_lev w0 p hp]) (by simp (disch := omega) only [F_X12_placeIs, F_X12_placeIs_0, T_isBelow_2, T_isBelow_3, T_isBelow_4, T_isBelow_6, T_isBelow_8, T_isBelow_9, T_isBelow_10, T_isBelow_12, T_isBelow_16, T_isBelow_17, T_isBelow_31, T_isBelow_64, T_isBelow_256, T_isBelow_65536, T_in_1, T_in_2, T_in_3, T_in_4, T_in_5, T_in_8, T_in_11, T_in_16, T_in_30, T_in_63, T_in_255, T_in_65535, T_isIsland, T_isEight, bd_s, nm_s, bI_0, gd_n, gd_01, nI_cl, nI_add, nI_1, m4, Bool.false_eq_true, and_self, true_and, and_true, true_or, or_true, or_self, false_or, or_false, gd_T, not_true_eq_false, not_false_eq_true, ↓reduceIte, g1, a0, a1, a2, a3, a4, a5, if_pos a6, T_isPlace w0 w3, t_levels w0 w3 hp])
  exact Both.no (-1) hn hR (by rw [E1]; simp (disch := omega) only [F_X10_ofPlace, F_X10_ofPlace_0, T_isBelow_2, T_isBelow_3, T_isBelow_4, T_isBelow_6, T_isBelow_8, T_isBelow_9, T_isBelow_10, T_isBelow_12, T_isBelow_16, T_isBelow_17, T_isBelow_31, T_isBelow_64, T_isBelow_256, T_isBelow_65536, T_in_1, T_in_2, T_in_3, T_in_4, T_in_5, T_in_8, T_in_11, T_in_16, T_in_30, T_in_63, T_in_255, T_in_65535, T_isIsland, T_isEight, bd_s, nm_s, bI_0, gd_n, gd_01, nI_cl, nI_add, nI_1, m4, Bool.false_eq_true, and_self, true_and, and_true, true_or, or_true, or_self, false_or, or_false, gd_T, not_true_eq_false, not_false_eq_true, ↓reduceIte, a0, a1, a2, a3, a4, a5, a6, hb]) (by simp (disch := omega) only [F_X12_placeIs, F_X12_placeIs_0, T_isBelow_2, T_isBelow_3, T_isBelow_4, T_isBelow_6, T_isBelow_8, T_isBelow_9, T_isBelow_10, T_isBelow_12, T_isBelow_16, T_isBelow_17, T_isBelow_31, T_isBelow_64, T_isBelow_256, T_isBelow_65536, T_in_1, T_in_2, T_in_3, T_in_4, T_in_5, T_in_8, T_in_11, T_in_16, T_in_30, T_in_63, T_in_255, T_in_65535, T_isIsland, T_isEight, bd_s, nm_s, bI_0, gd_n, gd_01, nI_cl, nI_add, nI_1, m4, Bool.false_eq_true, and_self, true_and, and_true, true_or, or_true, or_self, false_or, or_false, gd_T, not_true_eq_false, not_false_eq_true, ↓reduceIte, g1, a0, a1, a2, a3, a4, a5, a6, T_isPlace w0 w3])
theorem T_isToldE {E i : Nat} {σ : zSt} (hE : E < 256) (hi : i < 8) (e : σ.1 65 0 = nI E) : F_X0_isTold (nI i) σ = some (bI (E.testBit i = true), σ) := by
  have hb : bel (nI i) 8 := bel_t (by omega)
  unfold F_X0_isTold F_X0_isTold_0
  rw [T_isBelow_8, bd_s, bI_t hb, if_neg (by decide), e]
  by_cases h : E.testBit i = true
  · rw [if_pos ((bit_is hE hi).mpr h), bI_t h]
  · rw [if_neg (fun q => h ((bit_is hE hi).mp q)), bI_f h]
theorem s_egg {n : Nat} {σ : zSt} (hn : n < 512) (hR : Rel n σ) (x1 x2 : Int32) (hx : x2 = 0 ∨ x2 = 1) : Both n (F_X11_egg x1 x2) (F_X12_egg x1 x2) σ := by
  by_cases h1 : bel x1 8
  rotate_left
  · exact Both.no 0 hn hR (by simp (disch := omega) only [F_X11_egg, F_X11_egg_0, F_X0_tell, F_X0_tell_0, F_X12_egg, F_X12_egg_0, T_isBelow_2, T_isBelow_3, T_isBelow_4, T_isBelow_6, T_isBelow_8, T_isBelow_9, T_isBelow_10, T_isBelow_12, T_isBelow_16, T_isBelow_17, T_isBelow_31, T_isBelow_64, T_isBelow_256, T_isBelow_65536, T_in_1, T_in_2, T_in_3, T_in_4, T_in_5, T_in_8, T_in_11, T_in_16, T_in_30, T_in_63, T_in_255, T_in_65535, T_isIsland, T_isEight, bd_s, nm_s, bI_0, gd_n, gd_01, nI_cl, nI_add, nI_1, m4, Bool.false_eq_true, and_self, true_and, and_true, true_or, or_true, or_self, false_or, or_false, gd_T, not_true_eq_false, not_false_eq_true, ↓reduceIte, h1, gd_t (show (0 : Int32) = 0 ∨ (0 : Int32) = 1 from Or.inl rfl), gd_t (show (1 : Int32) = 0 ∨ (1 : Int32) = 1 from Or.inr rfl)]) (by simp (disch := omega) only [F_X11_egg, F_X11_egg_0, F_X0_tell, F_X0_tell_0, F_X12_egg, F_X12_egg_0, T_isBelow_2, T_isBelow_3, T_isBelow_4, T_isBelow_6, T_isBelow_8, T_isBelow_9, T_isBelow_10, T_isBelow_12, T_isBelow_16, T_isBelow_17, T_isBelow_31, T_isBelow_64, T_isBelow_256, T_isBelow_65536, T_in_1, T_in_2, T_in_3, T_in_4, T_in_5, T_in_8, T_in_11, T_in_16, T_in_30, T_in_63, T_in_255, T_in_65535, T_isIsland, T_isEight, bd_s, nm_s, bI_0, gd_n, gd_01, nI_cl, nI_add, nI_1, m4, Bool.false_eq_true, and_self, true_and, and_true, true_or, or_true, or_self, false_or, or_false, gd_T, not_true_eq_false, not_false_eq_true, ↓reduceIte, h1, gd_t (show (0 : Int32) = 0 ∨ (0 : Int32) = 1 from Or.inl rfl), gd_t (show (1 : Int32) = 0 ∨ (1 : Int32) = 1 from Or.inr rfl)])
  obtain ⟨i, hi, rfl⟩ := bel_of h1
  obtain ⟨E, te, hE, e1, e2, e3⟩ := hR.2.2.2.2.2.1
  have hb : bel (nI i) 8 := h1
  by_cases hb2 : bI (E.testBit i = true) = x2
  · exact Both.no 0 hn hR (by simp (disch := omega) only [F_X11_egg, F_X11_egg_0, F_X0_tell, F_X0_tell_0, T_isBelow_2, T_isBelow_3, T_isBelow_4, T_isBelow_6, T_isBelow_8, T_isBelow_9, T_isBelow_10, T_isBelow_12, T_isBelow_16, T_isBelow_17, T_isBelow_31, T_isBelow_64, T_isBelow_256, T_isBelow_65536, T_in_1, T_in_2, T_in_3, T_in_4, T_in_5, T_in_8, T_in_11, T_in_16, T_in_30, T_in_63, T_in_255, T_in_65535, T_isIsland, T_isEight, bd_s, nm_s, bI_0, gd_n, gd_01, nI_cl, nI_add, nI_1, m4, Bool.false_eq_true, and_self, true_and, and_true, true_or, or_true, or_self, false_or, or_false, gd_T, not_true_eq_false, not_false_eq_true, ↓reduceIte, hb, T_isToldE hE hi e1, if_pos hb2, gd_t (show (0 : Int32) = 0 ∨ (0 : Int32) = 1 from Or.inl rfl), gd_t (show (1 : Int32) = 0 ∨ (1 : Int32) = 1 from Or.inr rfl)]) (by simp (disch := omega) only [F_X12_egg, F_X12_egg_0, T_isBelow_2, T_isBelow_3, T_isBelow_4, T_isBelow_6, T_isBelow_8, T_isBelow_9, T_isBelow_10, T_isBelow_12, T_isBelow_16, T_isBelow_17, T_isBelow_31, T_isBelow_64, T_isBelow_256, T_isBelow_65536, T_in_1, T_in_2, T_in_3, T_in_4, T_in_5, T_in_8, T_in_11, T_in_16, T_in_30, T_in_63, T_in_255, T_in_65535, T_isIsland, T_isEight, bd_s, nm_s, bI_0, gd_n, gd_01, nI_cl, nI_add, nI_1, m4, Bool.false_eq_true, and_self, true_and, and_true, true_or, or_true, or_self, false_or, or_false, gd_T, not_true_eq_false, not_false_eq_true, ↓reduceIte, hb, e2, T_has (And.intro hE hi), if_pos hb2])
  have key : ∃ v, v < 256 ∧ nI E ^^^ ((1 : Int32) <<< (nI i &&& 31)) = nI v ∧ (if x2 = 0 then (nI E &&& (((1 : Int32) <<< (nI i &&& 31)) ^^^ (-1 : Int32))) else (nI E ||| ((1 : Int32) <<< (nI i &&& 31)))) = nI v := by
    by_cases t : E.testBit i = true
    · have q : x2 = 0 := hx.resolve_right (fun r => hb2 (by rw [bI_t t, r]))
      refine ⟨_, wet_lt hE, (bit_xor8 E hE i hi).trans (if_pos t), ?_⟩
      rw [if_pos q, bit_clr E hE i hi]
    · have q : ¬ x2 = 0 := fun r => hb2 (by rw [bI_f t, r])
      refine ⟨E ||| 2 ^ i, or_lt hE (pow_lt8 hi), (bit_xor8 E hE i hi).trans (if_neg t), ?_⟩
      rw [if_neg q, bit_1 i hi, nI_or]
  obtain ⟨v, hv, k1, k2⟩ := key
  apply Both.mk (r := 1) (σ1 := zwr σ 65 0 (nI v)) (σ2 := zwr (zwr σ 65 0 (nI v)) 69 59 (nI v))
  · simp (disch := omega) only [F_X11_egg, F_X11_egg_0, F_X0_tell, F_X0_tell_0, T_isBelow_2, T_isBelow_3, T_isBelow_4, T_isBelow_6, T_isBelow_8, T_isBelow_9, T_isBelow_10, T_isBelow_12, T_isBelow_16, T_isBelow_17, T_isBelow_31, T_isBelow_64, T_isBelow_256, T_isBelow_65536, T_in_1, T_in_2, T_in_3, T_in_4, T_in_5, T_in_8, T_in_11, T_in_16, T_in_30, T_in_63, T_in_255, T_in_65535, T_isIsland, T_isEight, bd_s, nm_s, bI_0, gd_n, gd_01, nI_cl, nI_add, nI_1, m4, Bool.false_eq_true, and_self, true_and, and_true, true_or, or_true, or_self, false_or, or_false, gd_T, not_true_eq_false, not_false_eq_true, ↓reduceIte, hb, T_isToldE hE hi e1, hb2, e1, k1, gd_t (show (0 : Int32) = 0 ∨ (0 : Int32) = 1 from Or.inl rfl), gd_t (show (1 : Int32) = 0 ∨ (1 : Int32) = 1 from Or.inr rfl)]
  · simp (disch := omega) only [F_X12_egg, F_X12_egg_0, T_isBelow_2, T_isBelow_3, T_isBelow_4, T_isBelow_6, T_isBelow_8, T_isBelow_9, T_isBelow_10, T_isBelow_12, T_isBelow_16, T_isBelow_17, T_isBelow_31, T_isBelow_64, T_isBelow_256, T_isBelow_65536, T_in_1, T_in_2, T_in_3, T_in_4, T_in_5, T_in_8, T_in_11, T_in_16, T_in_30, T_in_63, T_in_255, T_in_65535, T_isIsland, T_isEight, bd_s, nm_s, bI_0, gd_n, gd_01, nI_cl, nI_add, nI_1, m4, Bool.false_eq_true, and_self, true_and, and_true, true_or, or_true, or_self, false_or, or_false, gd_T, not_true_eq_false, not_false_eq_true, ↓reduceIte, hb, zwr_r, Nat.reduceEqDiff, e2, T_has (And.intro hE hi), hb2, k2]
  exact Rel_E hn hR ((eqOn_wr (by decide)).tr (eqOn_wr (by decide))) ⟨v, te, hv, rfl, rfl, e3⟩
theorem T_in_10 {x : Int32} {σ : zSt} : F_X12_in x 10 17 σ = some (bI (10 ≤ x.toInt ∧ x.toInt ≤ 17), σ) := T_in
theorem T_in_100 {x : Int32} {σ : zSt} : F_X12_in x 100 115 σ = some (bI (100 ≤ x.toInt ∧ x.toInt ≤ 115), σ) := T_in
theorem s_count {n : Nat} {σ : zSt} (hn : n < 512) (hR : Rel n σ) (x1 : Int32) : Both n (F_X11_count x1) (F_X12_count x1) σ := by
  obtain ⟨-, ⟨W, w0, w1, w2, w3⟩, -, ⟨m, tp, t0, t1, t2, t3⟩, ⟨k, l0, l1, l2, l3⟩, ⟨E, te, g0, g1, g2, g3⟩, -⟩ := id hR
  obtain ⟨c1, c2, c3, c4, c5, c6, c7, c8, c9, c10, c11, c12, c13⟩ := w2
  obtain ⟨d1, d2, d3, d4, d5, d6, d7, d8, d9, d10, d11, d12, d13⟩ := w3
  simp only [Nat.reduceAdd] at c2 c3 c4 c5 c6 d2 d3 d4 d5 d6 d7 d8 d9 d10 d11 d12 d13
  by_cases a : 10 ≤ x1.toInt ∧ x1.toInt ≤ 17
  · obtain ⟨j, hj, rfl⟩ := i_of (n := 18) (x := x1) (by omega) (by omega)
    rw [i_nI (by omega)] at a
    have hj2 : 10 ≤ j := by omega
    have e16 := key16 w0 (show j - 10 < 8 by omega)
    refine Both.no (e2 (wKey W (j - 10))) hn hR ?_ ?_
    · simp (disch := omega) only [F_X11_count, F_X11_count_0, T_isBelow_2, T_isBelow_3, T_isBelow_4, T_isBelow_6, T_isBelow_8, T_isBelow_9, T_isBelow_10, T_isBelow_12, T_isBelow_16, T_isBelow_17, T_isBelow_31, T_isBelow_64, T_isBelow_256, T_isBelow_65536, T_in_1, T_in_2, T_in_3, T_in_4, T_in_5, T_in_8, T_in_11, T_in_16, T_in_30, T_in_63, T_in_255, T_in_65535, T_isIsland, T_isEight, bd_s, nm_s, bI_0, gd_n, gd_01, nI_cl, nI_add, nI_1, m4, Bool.false_eq_true, and_self, true_and, and_true, true_or, or_true, or_self, false_or, or_false, gd_T, not_true_eq_false, not_false_eq_true, ↓reduceIte, lt_lit, lit_le, lit_sub, if_pos, if_neg, c6, e12s e16]
    · have A : (10 : Int) ≤ (nI j).toInt ∧ (nI j).toInt ≤ 17 := by rw [i_nI (by omega)]; omega
      simp (disch := omega) only [F_X12_count, F_X12_count_0, T_isBelow_2, T_isBelow_3, T_isBelow_4, T_isBelow_6, T_isBelow_8, T_isBelow_9, T_isBelow_10, T_isBelow_12, T_isBelow_16, T_isBelow_17, T_isBelow_31, T_isBelow_64, T_isBelow_256, T_isBelow_65536, T_in_1, T_in_2, T_in_3, T_in_4, T_in_5, T_in_8, T_in_11, T_in_16, T_in_30, T_in_63, T_in_255, T_in_65535, T_isIsland, T_isEight, bd_s, nm_s, bI_0, gd_n, gd_01, nI_cl, nI_add, nI_1, m4, Bool.false_eq_true, and_self, true_and, and_true, true_or, or_true, or_self, false_or, or_false, gd_T, not_true_eq_false, not_false_eq_true, ↓reduceIte, eq_lit, lit_sub, if_pos, if_neg, T_in_10, A, d6]
  by_cases b : 100 ≤ x1.toInt ∧ x1.toInt ≤ 115
  · obtain ⟨j, hj, rfl⟩ := i_of (n := 116) (x := x1) (by omega) (by omega)
    have b' := b
    rw [i_nI (by omega)] at b'
    have hj2 : 100 ≤ j := by omega
    refine Both.no (nI (wWay W (j - 100))) hn hR ?_ ?_
    · simp (disch := omega) only [F_X11_count, F_X11_count_0, F_X11_count_37, T_isBelow_2, T_isBelow_3, T_isBelow_4, T_isBelow_6, T_isBelow_8, T_isBelow_9, T_isBelow_10, T_isBelow_12, T_isBelow_16, T_isBelow_17, T_isBelow_31, T_isBelow_64, T_isBelow_256, T_isBelow_65536, T_in_1, T_in_2, T_in_3, T_in_4, T_in_5, T_in_8, T_in_11, T_in_16, T_in_30, T_in_63, T_in_255, T_in_65535, T_isIsland, T_isEight, bd_s, nm_s, bI_0, gd_n, gd_01, nI_cl, nI_add, nI_1, m4, Bool.false_eq_true, and_self, true_and, and_true, true_or, or_true, or_self, false_or, or_false, gd_T, not_true_eq_false, not_false_eq_true, ↓reduceIte, lt_lit, lit_le, lit_sub, if_pos, if_neg, c1]
    · simp (disch := omega) only [F_X12_count, F_X12_count_0, T_isBelow_2, T_isBelow_3, T_isBelow_4, T_isBelow_6, T_isBelow_8, T_isBelow_9, T_isBelow_10, T_isBelow_12, T_isBelow_16, T_isBelow_17, T_isBelow_31, T_isBelow_64, T_isBelow_256, T_isBelow_65536, T_in_1, T_in_2, T_in_3, T_in_4, T_in_5, T_in_8, T_in_11, T_in_16, T_in_30, T_in_63, T_in_255, T_in_65535, T_isIsland, T_isEight, bd_s, nm_s, bI_0, gd_n, gd_01, nI_cl, nI_add, nI_1, m4, Bool.false_eq_true, and_self, true_and, and_true, true_or, or_true, or_self, false_or, or_false, gd_T, not_true_eq_false, not_false_eq_true, ↓reduceIte, eq_lit, lit_sub, if_pos, if_neg, T_in_10, T_in_100, a, b, d1]
  have E1 : F_X11_count x1 σ = F_X11_count_62 x1 σ := by
    have a' : x1 < 10 ∨ (18 : Int32) ≤ x1 := by
      rw [i_lt, i_le]
      have q1 : (10 : Int32).toInt = 10 := rfl
      have q2 : (18 : Int32).toInt = 18 := rfl
      omega
    have b' : x1 < 100 ∨ (116 : Int32) ≤ x1 := by
      rw [i_lt, i_le]
      have q1 : (100 : Int32).toInt = 100 := rfl
      have q2 : (116 : Int32).toInt = 116 := rfl
      omega
    have E0 : F_X11_count x1 σ = F_X11_count_37 x1 σ := by
      unfold F_X11_count F_X11_count_0
      by_cases q : x1 < 10
      · rw [if_pos q]
      · rw [if_neg q, if_pos (a'.resolve_left q)]
    rw [E0]
    unfold F_X11_count_37
    by_cases q : x1 < 100
    · rw [if_pos q]
    · rw [if_neg q, if_pos (b'.resolve_left q)]
  by_cases z0 : x1 = 0
  · exact Both.no (nI (wTol W)) hn hR (by rw [E1]; simp only [F_X11_count_62, if_pos z0, ↓reduceIte, c7]) (by simp only [F_X12_count, F_X12_count_0, if_pos z0, ↓reduceIte, d7])
  by_cases z1 : x1 = 1
  · exact Both.no (nI (wHea W)) hn hR (by rw [E1]; simp only [F_X11_count_62, z0, if_pos z1, ↓reduceIte, c9]) (by simp only [F_X12_count, F_X12_count_0, z0, if_pos z1, ↓reduceIte, d9])
  by_cases z2 : x1 = 2
  · exact Both.no (nI k) hn hR (by rw [E1]; simp only [F_X11_count_62, z0, z1, if_pos z2, ↓reduceIte, l1]) (by simp only [F_X12_count, F_X12_count_0, z0, z1, if_pos z2, ↓reduceIte, l2])
  by_cases z3 : x1 = 3
  · exact Both.no (nI m) hn hR (by rw [E1]; simp only [F_X11_count_62, z0, z1, z2, if_pos z3, ↓reduceIte, t1]) (by simp only [F_X12_count, F_X12_count_0, z0, z1, z2, if_pos z3, ↓reduceIte, t2])
  by_cases z4 : x1 = 4
  · exact Both.no (nI (wX W)) hn hR (by rw [E1]; simp only [F_X11_count_62, z0, z1, z2, z3, if_pos z4, ↓reduceIte, c13]) (by simp only [F_X12_count, F_X12_count_0, z0, z1, z2, z3, if_pos z4, ↓reduceIte, d13])
  by_cases z5 : x1 = 5
  · exact Both.no (nI (wNig W)) hn hR (by rw [E1]; simp only [F_X11_count_62, z0, z1, z2, z3, z4, if_pos z5, ↓reduceIte, c10]) (by simp only [F_X12_count, F_X12_count_0, z0, z1, z2, z3, z4, if_pos z5, ↓reduceIte, d10])
  by_cases z6 : x1 = 6
  · exact Both.no (nI (wDus W)) hn hR (by rw [E1]; simp only [F_X11_count_62, z0, z1, z2, z3, z4, z5, if_pos z6, ↓reduceIte, c11]) (by simp only [F_X12_count, F_X12_count_0, z0, z1, z2, z3, z4, z5, if_pos z6, ↓reduceIte, d11])
  by_cases z7 : x1 = 7
  · exact Both.no (nI (wSai W)) hn hR (by rw [E1]; simp only [F_X11_count_62, z0, z1, z2, z3, z4, z5, z6, if_pos z7, ↓reduceIte, c12]) (by simp only [F_X12_count, F_X12_count_0, z0, z1, z2, z3, z4, z5, z6, if_pos z7, ↓reduceIte, d12])
  by_cases z8 : x1 = 8
  · exact Both.no (nI E) hn hR (by rw [E1]; simp only [F_X11_count_62, z0, z1, z2, z3, z4, z5, z6, z7, if_pos z8, ↓reduceIte, g1]) (by simp only [F_X12_count, F_X12_count_0, z0, z1, z2, z3, z4, z5, z6, z7, if_pos z8, ↓reduceIte, g2])
  exact Both.no (-1) hn hR (by rw [E1]; simp only [F_X11_count_62, z0, z1, z2, z3, z4, z5, z6, z7, z8, ↓reduceIte]) (by simp (disch := omega) only [F_X12_count, F_X12_count_0, T_isBelow_2, T_isBelow_3, T_isBelow_4, T_isBelow_6, T_isBelow_8, T_isBelow_9, T_isBelow_10, T_isBelow_12, T_isBelow_16, T_isBelow_17, T_isBelow_31, T_isBelow_64, T_isBelow_256, T_isBelow_65536, T_in_1, T_in_2, T_in_3, T_in_4, T_in_5, T_in_8, T_in_11, T_in_16, T_in_30, T_in_63, T_in_255, T_in_65535, T_isIsland, T_isEight, bd_s, nm_s, bI_0, gd_n, gd_01, nI_cl, nI_add, nI_1, m4, Bool.false_eq_true, and_self, true_and, and_true, true_or, or_true, or_self, false_or, or_false, gd_T, not_true_eq_false, not_false_eq_true, ↓reduceIte, z0, z1, z2, z3, z4, z5, z6, z7, z8, T_in_10, T_in_100, a, b])
