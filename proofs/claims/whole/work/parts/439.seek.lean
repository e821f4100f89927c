/-! PURE: the seeker of the class -/
/-- those below n of which P holds, as bits -/
def bset (P : Nat → Bool) : Nat → Nat
  | 0 => 0
  | n + 1 => bset P n ||| (if P n then 2 ^ n else 0)
theorem bset_lt (P : Nat → Bool) : ∀ n, n ≤ 8 → bset P n < 256 := by
  intro n
  induction n with
  | zero => intro _; exact Nat.zero_lt_succ 255
  | succ n ih =>
    intro h
    unfold bset
    refine or_lt (ih (by omega)) ?_
    split
    · exact pow_lt8 (by omega)
    · decide
theorem bset_bit (P : Nat → Bool) : ∀ n k, (bset P n).testBit k = (decide (k < n) && P k) := by
  intro n
  induction n with
  | zero => intro k; simp [bset]
  | succ n ih =>
    intro k
    unfold bset
    rw [Nat.testBit_or, ih k]
    by_cases h : P n = true
    · rw [if_pos h, Nat.testBit_two_pow]
      by_cases q : n = k
      · subst q
        simp [h]
      · have e : decide (k < n + 1) = decide (k < n) := by
          by_cases r : k < n
          · rw [decide_eq_true r, decide_eq_true (by omega)]
          · rw [decide_eq_false r, decide_eq_false (by omega)]
        rw [e]
        simp [q]
    · rw [if_neg h, Nat.zero_testBit, Bool.or_false]
      by_cases q : k = n
      · subst q
        simp [h]
      · have e : decide (k < n + 1) = decide (k < n) := by
          by_cases r : k < n
          · rw [decide_eq_true r, decide_eq_true (by omega)]
          · rw [decide_eq_false r, decide_eq_false (by omega)]
        rw [e]
theorem bset_s {P : Nat → Bool} {n : Nat} (hn : n < 8) {v : Int32} (hv : v = if P n then (1 : Int32) <<< (nI n &&& 31) else 0) : nI (bset P n) ||| v = nI (bset P (n + 1)) := by
  rw [hv, bset]
  by_cases h : P n = true
  · rw [if_pos h, if_pos h, bit_1 n hn, nI_or]
  · rw [if_neg h, if_neg h, ← nI_0, nI_or]
theorem bt_nI {m i : Nat} (hi : i < 32) : bt (nI m) i = m.testBit i := by
  unfold bt
  show (BitVec.ofNat 32 m).getLsbD i = _
  rw [BitVec.getLsbD_ofNat, decide_eq_true hi, Bool.true_and]
theorem tb_hi {m i : Nat} (hm : m < 256) (hi : 8 ≤ i) : m.testBit i = false := by
  refine Nat.testBit_lt_two_pow (Nat.lt_of_lt_of_le hm ?_)
  exact Nat.pow_le_pow_right (n := 2) (by decide) hi
theorem tb255 {i : Nat} : Nat.testBit 255 i = decide (i < 8) := by
  rcases Nat.lt_or_ge i 8 with h | h
  · exact (by decide +kernel : ∀ i, i < 8 → Nat.testBit 255 i = decide (i < 8)) i h
  · rw [tb_hi (by decide) h, decide_eq_false (by omega)]
/-- what is in f and not in m -/
theorem nI_andn {f m : Nat} (hf : f < 256) (hm : m < 256) : nI f &&& (nI m ^^^ (-1)) = nI (f &&& (m ^^^ 255)) := by
  apply b_ext
  intro i hi
  rw [b_and, b_xor, b_m1 i hi, bt_nI hi, bt_nI hi, bt_nI hi, Nat.testBit_and, Nat.testBit_xor, tb255]
  rcases Nat.lt_or_ge i 8 with h | h
  · rw [decide_eq_true h]
  · rw [tb_hi hf h, Bool.false_and, Bool.false_and]
theorem nI_nand {f m : Nat} (hf : f < 256) (hm : m < 256) : (nI m ^^^ (-1)) &&& nI f = nI (f &&& (m ^^^ 255)) := by
  rw [← nI_andn hf hm]
  apply b_ext
  intro i _
  rw [b_and, b_and, Bool.and_comm]
theorem and_lt {a b : Nat} (h : a < 256) : a &&& b < 256 := Nat.lt_of_le_of_lt Nat.and_le_left h
theorem nI_e0 {a : Nat} (h : a < 2147483648) : (nI a = 0) = (a = 0) := by
  rw [show (0 : Int32) = nI 0 from rfl, nI_eqp (by omega)]
/-- all of a are in O -/
def subB (a O : Nat) : Bool := decide (a &&& (O ^^^ 255) = 0)
theorem subB_i {a O : Nat} (ha : a < 256) : subB a O = true ↔ ∀ k, k < 8 → a.testBit k = true → O.testBit k = true := by
  unfold subB
  rw [decide_eq_true_eq]
  constructor
  · intro h k hk h1
    have := congrArg (fun x => Nat.testBit x k) h
    simp only [Nat.testBit_and, Nat.testBit_xor, tb255, Nat.zero_testBit, h1, decide_eq_true hk, Bool.true_and] at this
    cases r : O.testBit k with
    | true => rfl
    | false => rw [r] at this; cases this
  · intro h
    apply Nat.eq_of_testBit_eq
    intro k
    rw [Nat.testBit_and, Nat.testBit_xor, tb255, Nat.zero_testBit]
    rcases Nat.lt_or_ge k 8 with q | q
    · cases r : a.testBit k with
      | false => rfl
      | true =>
        rw [h k q r, decide_eq_true q]
        rfl
    · rw [tb_hi ha q, Bool.false_and]
def dgt (B b : Nat) : Nat := B / 3 ^ b % 3
/-- the KEYS he has -/
def hasK (W : zWo) (O B k : Nat) : Bool := match wKey W k with
  | none => false
  | some x => if x < 8 then O.testBit x else decide (dgt B (x - 8) = 2)
def hadW (W : zWo) (O B : Nat) : Nat := bset (hasK W O B) 8
def ploW (W : zWo) (i : Nat) : Nat := bset (fun p => wIs W p && decide (islW W p = i)) 8
def wfrW (W : zWo) (i : Nat) : Nat := bset (fun t => decide (0 < wWay W (4 * i + t))) 4
def lokB (W : zWo) (O B p : Nat) : Bool := match wLok W p with
  | none => true
  | some k => hasK W O B k
def freeW (W : zWo) (O : Nat) : Nat := bset (fun p => subB (ancs W p) O) 8
def unlW (W : zWo) (O B : Nat) : Nat := bset (lokB W O B) 8
def bykW (W : zWo) (O B : Nat) : Nat := (freeW W O &&& (O ^^^ 255)) &&& unlW W O B
def bywW (W : zWo) (O B : Nat) : Nat := if dgt B 1 = 0 then (freeW W O &&& (O ^^^ 255)) &&& (wWet W ^^^ 255) else 0
def bysW (W : zWo) (O B : Nat) : Nat := if dgt B 2 = 0 then wWet W &&& (O ^^^ 255) else 0
def givW (W : zWo) (B : Nat) : Nat := bset (fun b => decide (dgt B b = 0) && decide (keysW W (8 + b) ≠ 0)) 3
def ravW (B : Nat) : Nat := if dgt B 0 = 0 then 15 else 0
/-- the digits that can stand behind a letter, as bits -/
def canW (W : zWo) (O B i : Nat) : Nat → Nat
  | 0 => wfrW W i
  | 1 => ravW B &&& (255 - 2 ^ i)
  | 2 => bykW W O B &&& ploW W i
  | 3 => bywW W O B &&& ploW W i
  | 4 => bysW W O B &&& ploW W i
  | 5 => givW W B
  | _ => 0
/-- what must be opened -/
def golF (W : zWo) : Nat → Nat → Nat
  | 0, _ => 0
  | n + 1, p => 2 ^ p ||| match wFli W p with
    | none => 0
    | some q => golF W n q
def golW (W : zWo) : Nat := golF W 8 (wHea W)
theorem golF_lt {W : zWo} (hW : WOK W) : ∀ n p, p < 8 → golF W n p < 256 := by
  intro n
  induction n with
  | zero => intro p _; exact Nat.zero_lt_succ 255
  | succ n ih =>
    intro p hp
    unfold golF
    refine or_lt (pow_lt8 hp) ?_
    cases q : wFli W p with
    | none => exact Nat.zero_lt_succ 255
    | some r => exact ih r (wIs_lt (hW.fli p r hp q).2)
theorem golF_n {W : zWo} (hW : WOK W) : ∀ j p, p < 8 → 8 ≤ p + j → ∀ n m, j ≤ n → j ≤ m → golF W n p = golF W m p := by
  intro j
  induction j with
  | zero => intro p hp h; omega
  | succ j ih =>
    intro p hp h n m hn hm
    obtain ⟨n, rfl⟩ : ∃ q, n = q + 1 := ⟨n - 1, by omega⟩
    obtain ⟨m, rfl⟩ : ∃ q, m = q + 1 := ⟨m - 1, by omega⟩
    unfold golF
    cases q : wFli W p with
    | none => rfl
    | some r =>
      obtain ⟨a, b⟩ := hW.fli p r hp q
      show 2 ^ p ||| golF W n r = 2 ^ p ||| golF W m r
      rw [ih r (wIs_lt b) (by omega) n m (by omega) (by omega)]
theorem golF_s {W : zWo} (hW : WOK W) {p : Nat} (hp : p < 8) : golF W 8 p = 2 ^ p ||| match wFli W p with | none => 0 | some q => golF W 8 q := by
  rw [golF]
  cases q : wFli W p with
  | none => rfl
  | some r =>
    obtain ⟨a, b⟩ := hW.fli p r hp q
    show 2 ^ p ||| golF W 7 r = 2 ^ p ||| golF W 8 r
    rw [golF_n hW 7 r (wIs_lt b) (by omega) 7 8 (by decide) (by decide)]
theorem golW_lt {W : zWo} (hW : WOK W) : golW W < 256 := golF_lt hW 8 _ hW.hea
/-- what the seeker has learned, with what it looks up in the world -/
def SK (W : zWo) (σ : zSt) : Prop :=
  (∀ i, i < 4 → σ.1 18 i = nI (ploW W i)) ∧ (∀ i, i < 4 → σ.1 19 i = nI (wfrW W i)) ∧ (∀ p, p < 8 → σ.1 20 p = nI (ancs W p)) ∧ (∀ k, k < 8 → σ.1 21 k = e1 (wKey W k)) ∧ (∀ b, b < 3 → σ.1 22 b = nI (keysW W (8 + b))) ∧ σ.1 17 6 = nI (golW W) ∧
  (∀ p, p < 8 → σ.1 5 p = e1 (wLok W p)) ∧ σ.1 1 7 = nI (wWet W) ∧ ∀ j, j < 16 → σ.1 2 j = nI (wWay W j)
theorem SK_fr {W : zWo} {σ τ : zSt} {L : List Nat} {S : List (Nat × Nat)} (h : SK W σ) (f : fr L S σ τ) (d : ([18, 19, 20, 21, 22, 5, 2].all (fun c => !L.contains c && S.all (fun q => q.1 != c)) && [(17, 6), (1, 7)].all (fun q => !L.contains q.1 && !S.contains q)) = true) : SK W τ := by
  have g : eqOn [18, 19, 20, 21, 22, 5, 2] [(17, 6), (1, 7)] σ τ := f.eqOn d
  obtain ⟨h1, h2, h3, h4, h5, h6, h7, h8, h9⟩ := h
  have r : ∀ c, c ∈ [18, 19, 20, 21, 22, 5, 2] → τ.1 c = σ.1 c := g.1
  exact ⟨fun i hi => (congrFun (r 18 (by decide)) i).trans (h1 i hi), fun i hi => (congrFun (r 19 (by decide)) i).trans (h2 i hi), fun i hi => (congrFun (r 20 (by decide)) i).trans (h3 i hi), fun i hi => (congrFun (r 21 (by decide)) i).trans (h4 i hi), fun i hi => (congrFun (r 22 (by decide)) i).trans (h5 i hi), (g.2 (17, 6) (by decide)).trans h6, fun i hi => (congrFun (r 5 (by decide)) i).trans (h7 i hi), (g.2 (1, 7) (by decide)).trans h8, fun i hi => (congrFun (r 2 (by decide)) i).trans (h9 i hi)⟩
theorem T_daysTo {σ : zSt} {W : zWo} {a b : Nat} (h : ∀ j, j < 16 → σ.1 2 j = nI (wWay W j)) (ha : a < 4) (hb : b < 4) : F_X5_daysTo (nI a) (nI b) σ = some (nI (wWay W (4 * a + b)), σ) := by
  have g1 : bel (nI a) 4 := bel_t (by omega)
  have g2 : bel (nI b) 4 := bel_t (by omega)
  unfold F_X5_daysTo F_X5_daysTo_0
  rw [T_isBelow_4, bd_s, bI_t g1, if_neg (show ¬ (1 : Int32) = 0 by decide), T_isBelow_4, bd_s, bI_t g2, if_neg (show ¬ (1 : Int32) = 0 by decide), m4, nI_add, gd_n (by omega), nI_cl (by omega), h _ (by omega)]
theorem keyb_bset (W : zWo) (x : Nat) : ∀ n, keyb W x n = bset (fun k => decide (wKey W k = some x)) n := by
  intro n
  induction n with
  | zero => rfl
  | succ n ih =>
    unfold keyb bset
    rw [ih]
    by_cases q : wKey W n = some x
    · rw [if_pos q, if_pos (decide_eq_true q)]
    · rw [if_neg q, if_neg (by simpa using q)]
theorem T_mouths {W : zWo} {σ : zSt} (hW : ∀ k, k < 8 → ∀ x, wKey W k = some x → x < 16) (h : ∀ k, k < 8 → σ.1 21 k = e1 (wKey W k)) : wp (F_X5_learnMouths σ) (fun _ τ => fr [22] [] σ τ ∧ ∀ b, b < 3 → τ.1 22 b = nI (keysW W (8 + b))) := by
  unfold F_X5_learnMouths F_X5_learnMouths_0
  refine wp_for (fun b s => s.1 = nI b ∧ fr [22] [] σ s.2 ∧ ∀ c, c < b → s.2.1 22 c = nI (keysW W (8 + c))) 3 (by decide) (fun b w s hb hI hw => ?_) (fun w s hI => ?_) ⟨rfl, fr.rf, fun c hc => absurd hc (Nat.not_lt_zero c)⟩
  · obtain ⟨x, τ⟩ := s
    obtain ⟨i1, i2, i3⟩ := hI
    simp only at i1 i2 i3
    subst i1
    show wp (F_X5_learnMouths_2 w (nI b) τ) _
    unfold F_X5_learnMouths_2
    rw [if_neg (by rw [show (3 : Int32) = nI 3 from rfl, nI_lep (by omega)]; omega), gd_n (by omega), nI_cl (by omega), nm_s]
    refine wp_for (fun k s => s.1 = nI k ∧ fr [22] [] σ s.2 ∧ (∀ c, c < b → s.2.1 22 c = nI (keysW W (8 + c))) ∧ s.2.1 22 b = nI (keyb W (8 + b) k)) 8 (by decide) (fun k w2 s hk hI hw2 => ?_) (fun w2 s hI => ?_) ⟨rfl, i2.w (Or.inl (by decide)), fun c hc => ?_, ?_⟩
    · obtain ⟨y, υ⟩ := s
      obtain ⟨j1, j2, j3, j4⟩ := hI
      simp only at j1 j2 j3 j4
      subst j1
      show wp (F_X5_learnMouths_16 w (nI b) w2 (nI k) υ) _
      have e21 : υ.1 21 k = e1 (wKey W k) := (j2.rd0 (by decide)).trans (h k hk)
      have v : (if e1 (wKey W k) = ((8 : Int32) + nI b) then ((1 : Int32) <<< (nI k &&& 31)) else (0 : Int32)) = if (decide (wKey W k = some (8 + b))) then (1 : Int32) <<< (nI k &&& 31) else 0 := by
        have e8 : (8 : Int32) + nI b = nI (8 + b) := nI_add 8 b
        rw [e8]
        by_cases q : wKey W k = some (8 + b)
        · rw [if_pos ((e1_eq (by omega) (hW k hk)).mpr q), if_pos (decide_eq_true q)]
        · rw [if_neg (fun r => q ((e1_eq (by omega) (hW k hk)).mp r)), if_neg (by simpa using q)]
      unfold F_X5_learnMouths_16
      rw [if_neg (by rw [show (8 : Int32) = nI 8 from rfl, nI_lep (by omega)]; omega), gd_n (by omega), gd_n (by omega), nI_cl (by omega), e21, v, nm_s, gd_n (by omega), nI_cl (by omega), nm_s, nm_s, j4, nI_1]
      refine hw2 _ ⟨rfl, j2.w (Or.inl (by decide)), fun c hc => ?_, ?_⟩
      · show upd (υ.1 22) b _ c = _
        rw [pk_un (by omega)]
        exact j3 c hc
      · show upd (υ.1 22) b _ b = _
        rw [pk_us, keyb_bset, keyb_bset]
        exact bset_s hk rfl
    · obtain ⟨y, υ⟩ := s
      obtain ⟨j1, j2, j3, j4⟩ := hI
      simp only at j1 j2 j3 j4
      subst j1
      show wp (F_X5_learnMouths_16 w (nI b) w2 (nI 8) υ) _
      unfold F_X5_learnMouths_16 F_X5_learnMouths_57
      rw [if_pos (show (8 : Int32) ≤ nI 8 by decide), nm_s, nI_1]
      refine hw _ ⟨rfl, j2, fun c hc => ?_⟩
      by_cases q : c = b
      · rw [q]
        exact j4
      · exact j3 c (by omega)
    · show upd (τ.1 22) b _ c = _
      rw [pk_un (by omega)]
      exact i3 c hc
    · show upd (τ.1 22) b _ b = _
      rw [pk_us]
      rfl
  · obtain ⟨x, τ⟩ := s
    obtain ⟨i1, i2, i3⟩ := hI
    simp only at i1 i2 i3
    subst i1
    show wp (F_X5_learnMouths_2 w (nI 3) τ) _
    unfold F_X5_learnMouths_2
    rw [if_pos (show (3 : Int32) ≤ nI 3 by decide)]
    exact wp_some ⟨i2, i3⟩
theorem T_learn {W : zWo} {σ : zSt} (hW : WOK W) (hC : EC 1 2 W σ) : wp (F_X5_learn σ) (fun _ τ => fr [18, 19, 20, 21, 22] [(17, 6)] σ τ ∧ SK W τ) := by
  have c8 : (8 : Int32) = nI 8 := rfl
  have c4 : (4 : Int32) = nI 4 := rfl
  unfold F_X5_learn F_X5_learn_0
  refine wp_for (fun i s => s.1 = nI i ∧ fr [18, 19] [] σ s.2 ∧ ∀ c, c < i → s.2.1 18 c = nI (ploW W c) ∧ s.2.1 19 c = nI (wfrW W c)) 4 (by decide) (fun i w s hi hI hw => ?_) (fun w s hI => ?_) ⟨rfl, fr.rf, fun c hc => absurd hc (Nat.not_lt_zero c)⟩
  · obtain ⟨x, τ⟩ := s
    obtain ⟨i1, i2, i3⟩ := hI
    simp only at i1 i2 i3
    subst i1
    show wp (F_X5_learn_2 w (nI i) τ) _
    unfold F_X5_learn_2
    rw [if_neg (by rw [c4, nI_lep (by omega)]; omega), gd_n (by omega), nI_cl (by omega), nm_s]
    refine wp_for (fun p s => s.1 = nI p ∧ fr [18, 19] [] σ s.2 ∧ (∀ c, c < i → s.2.1 18 c = nI (ploW W c) ∧ s.2.1 19 c = nI (wfrW W c)) ∧ s.2.1 18 i = nI (bset (fun p => wIs W p && decide (islW W p = i)) p)) 8 (by decide) (fun p w2 s hp hI hw2 => ?_) (fun w2 s hI => ?_) ⟨rfl, i2.w (Or.inl (by decide)), fun c hc => ⟨?_, (i3 c hc).2⟩, ?_⟩
    · obtain ⟨y, υ⟩ := s
      obtain ⟨j1, j2, j3, j4⟩ := hI
      simp only at j1 j2 j3 j4
      subst j1
      show wp (F_X5_learn_16 w (nI i) w2 (nI p) υ) _
      have hC' := j2.EC (by decide) hC
      have tail : ∀ v : Int32, (v = if (wIs W p && decide (islW W p = i)) then (1 : Int32) <<< (nI p &&& 31) else 0) → wp (w2 (nI (p + 1), zwr υ 18 i (nI (bset (fun p => wIs W p && decide (islW W p = i)) p) ||| v))) (fun _ τ => fr [18, 19, 20, 21, 22] [(17, 6)] σ τ ∧ SK W τ) := by
        intro v hv
        refine hw2 _ ⟨rfl, j2.w (Or.inl (by decide)), fun c hc => ⟨?_, (j3 c hc).2⟩, ?_⟩
        · show upd (υ.1 18) i _ c = _
          rw [pk_un (by omega)]
          exact (j3 c hc).1
        · show upd (υ.1 18) i _ i = _
          rw [pk_us]
          exact bset_s hp hv
      unfold F_X5_learn_16 F_X5_learn_58 F_X5_learn_59
      rw [if_neg (by rw [c8, nI_lep (by omega)]; omega), gd_n (by omega), T_isTold hW hC', bd_s, nI_cl (by omega), j4]
      by_cases q : wIs W p = true
      · rw [bI_t ((isT_n (by omega)).mpr q), if_neg (show ¬ (1 : Int32) = 0 by decide), t_islandOf hW hC' hp, bd_s, nm_s, gd_n (by omega), nm_s, nm_s, nI_1, if_eqI (show islW W p < 2147483648 ∧ i < 2147483648 by have := islW_lt hW hp; omega)]
        refine tail _ ?_
        rw [q, Bool.true_and]
        by_cases r : islW W p = i
        · rw [if_pos r, if_pos (decide_eq_true r)]
        · rw [if_neg r, if_neg (by simpa using r)]
      · rw [bI_f (fun r => q ((isT_n (by omega)).mp r)), if_pos rfl, gd_n (by omega), nm_s, nm_s, nI_1]
        refine tail _ ?_
        rw [Bool.eq_false_iff.mpr q, Bool.false_and]
        rfl
    · obtain ⟨y, υ⟩ := s
      obtain ⟨j1, j2, j3, j4⟩ := hI
      simp only at j1 j2 j3 j4
      subst j1
      show wp (F_X5_learn_16 w (nI i) w2 (nI 8) υ) _
      unfold F_X5_learn_16 F_X5_learn_67
      rw [if_pos (show (8 : Int32) ≤ nI 8 by decide), gd_n (by omega), nI_cl (by omega), nm_s]
      refine wp_for (fun t s => s.1 = nI t ∧ fr [18, 19] [] σ s.2 ∧ (∀ c, c < i → s.2.1 18 c = nI (ploW W c) ∧ s.2.1 19 c = nI (wfrW W c)) ∧ s.2.1 18 i = nI (ploW W i) ∧ s.2.1 19 i = nI (bset (fun t => decide (0 < wWay W (4 * i + t))) t)) 4 (by decide) (fun t w3 s ht hI hw3 => ?_) (fun w3 s hI => ?_) ⟨rfl, j2.w (Or.inl (by decide)), fun c hc => ⟨(j3 c hc).1, ?_⟩, j4, ?_⟩
      · obtain ⟨z, ω⟩ := s
        obtain ⟨l1, l2, l3, l4, l5⟩ := hI
        simp only at l1 l2 l3 l4 l5
        subst l1
        show wp (F_X5_learn_76 w (nI i) w3 (nI t) ω) _
        have hC' := l2.EC (by decide) hC
        have hw30 : wWay W (4 * i + t) ≤ 30 := hW.1 _ (by omega)
        unfold F_X5_learn_76
        rw [if_neg (by rw [c4, nI_lep (by omega)]; omega), gd_n (by omega), T_daysTo hC'.1 hi ht, bd_s, nm_s, gd_n (by omega), nI_cl (by omega), nm_s, nm_s, l5, nI_1]
        refine hw3 _ ⟨rfl, l2.w (Or.inl (by decide)), fun c hc => ⟨(l3 c hc).1, ?_⟩, l4, ?_⟩
        · show upd (ω.1 19) i _ c = _
          rw [pk_un (by omega)]
          exact (l3 c hc).2
        · show upd (ω.1 19) i _ i = _
          rw [pk_us]
          refine bset_s (by omega) ?_
          rw [show (0 : Int32) = nI 0 from rfl, if_le (by omega)]
          by_cases r : 0 < wWay W (4 * i + t)
          · rw [if_neg (by omega), if_pos (decide_eq_true r)]
          · rw [if_pos (by omega), if_neg (by simpa using r)]
      · obtain ⟨z, ω⟩ := s
        obtain ⟨l1, l2, l3, l4, l5⟩ := hI
        simp only at l1 l2 l3 l4 l5
        subst l1
        show wp (F_X5_learn_76 w (nI i) w3 (nI 4) ω) _
        unfold F_X5_learn_76 F_X5_learn_112
        rw [if_pos (show (4 : Int32) ≤ nI 4 by decide), nm_s, nI_1]
        refine hw _ ⟨rfl, l2, fun c hc => ?_⟩
        by_cases q : c = i
        · rw [q]
          exact ⟨l4, l5⟩
        · exact l3 c (by omega)
      · show upd (υ.1 19) i _ c = _
        rw [pk_un (by omega)]
        exact (j3 c hc).2
      · show upd (υ.1 19) i _ i = _
        rw [pk_us]
        rfl
    · show upd (τ.1 18) i _ c = _
      rw [pk_un (by omega)]
      exact (i3 c hc).1
    · show upd (τ.1 18) i _ i = _
      rw [pk_us]
      rfl
  · obtain ⟨x, τ⟩ := s
    obtain ⟨i1, i2, i3⟩ := hI
    simp only at i1 i2 i3
    subst i1
    show wp (F_X5_learn_2 w (nI 4) τ) _
    unfold F_X5_learn_2 F_X5_learn_118
    rw [if_pos (show (4 : Int32) ≤ nI 4 by decide)]
    refine wp_for (fun p s => s.1 = nI p ∧ fr [18, 19, 20] [] σ s.2 ∧ (∀ c, c < 4 → s.2.1 18 c = nI (ploW W c) ∧ s.2.1 19 c = nI (wfrW W c)) ∧ ∀ q, q < p → s.2.1 20 q = nI (ancs W q)) 8 (by decide) (fun p w2 s hp hI hw2 => ?_) (fun w2 s hI => ?_) ⟨rfl, i2.mono (by decide), i3, fun q hq => absurd hq (Nat.not_lt_zero q)⟩
    · obtain ⟨y, υ⟩ := s
      obtain ⟨j1, j2, j3, j4⟩ := hI
      simp only at j1 j2 j3 j4
      subst j1
      show wp (F_X5_learn_120 w2 (nI p) υ) _
      have hC' := j2.EC (by decide) hC
      unfold F_X5_learn_120
      rw [if_neg (by rw [c8, nI_lep (by omega)]; omega), t_around hW hC' hp, bd_s, gd_n (by omega), nI_cl (by omega), nm_s, nm_s, nI_1]
      refine hw2 _ ⟨rfl, j2.w (Or.inl (by decide)), j3, fun q hq => ?_⟩
      show upd (υ.1 20) p _ q = _
      by_cases r : q = p
      · rw [r, pk_us]
      · rw [pk_un r]
        exact j4 q (by omega)
    · obtain ⟨y, υ⟩ := s
      obtain ⟨j1, j2, j3, j4⟩ := hI
      simp only at j1 j2 j3 j4
      subst j1
      show wp (F_X5_learn_120 w2 (nI 8) υ) _
      unfold F_X5_learn_120 F_X5_learn_146
      rw [if_pos (show (8 : Int32) ≤ nI 8 by decide), nm_s, va_cpn]
      have hC' := j2.EC (by decide) hC
      have f1 : fr [18, 19, 20, 21, 22] [(17, 6)] σ (zrow υ 21 (cpn (υ.1 7) (υ.1 21) 8)) := (j2.mono (by decide)).z (by decide)
      have k21 : ∀ k, k < 8 → (zrow υ 21 (cpn (υ.1 7) (υ.1 21) 8)).1 21 k = e1 (wKey W k) := by
        intro k hk
        rw [zrow_c, cpn_in hk]
        exact hC'.2.2.2.2.2.1 k hk
      refine wp_bd2 (T_mouths (fun k hk x hx => key16 hW hk x hx) k21) (fun _ ω hω => ?_)
      obtain ⟨g1, g2⟩ := hω
      have f2 : fr [18, 19, 20, 21, 22] [(17, 6)] σ ω := f1.tr (g1.mono (by decide))
      rw [nm_s]
      have f3 : fr [18, 19, 20, 21, 22] [(17, 6)] σ (zwr ω 17 6 0) := f2.w (Or.inr (by decide))
      have hC3 := f3.EC (by decide) hC
      have e8 : (zwr ω 17 6 0).1 1 8 = nI (wHea W) := hC3.2.2.2.2.2.2.2.2.1
      rw [e8]
      have base : ∀ s : zSt, fr [18, 19, 20, 21, 22] [(17, 6)] (zwr ω 17 6 0) s → (∀ c, c ∈ [18, 19, 20, 21, 22] → s.1 c = ω.1 c) → s.1 17 6 = nI (golW W) → fr [18, 19, 20, 21, 22] [(17, 6)] σ s ∧ SK W s := by
        intro s hs hr he
        have hCs := (f3.tr hs).EC (by decide) hC
        refine ⟨f3.tr hs, fun c hc => ?_, fun c hc => ?_, fun p hp => ?_, fun k hk => ?_, fun b hb => ?_, he, hCs.2.2.2.1, hCs.2.2.2.2.2.2.2.1, hCs.1⟩
        · rw [hr 18 (by decide), g1.row (c := 18) (by decide)]
          exact (j3 c hc).1
        · rw [hr 19 (by decide), g1.row (c := 19) (by decide)]
          exact (j3 c hc).2
        · rw [hr 20 (by decide), g1.row (c := 20) (by decide)]
          exact j4 p hp
        · rw [hr 21 (by decide), g1.row (c := 21) (by decide)]
          exact k21 k hk
        · rw [hr 22 (by decide)]
          exact g2 b hb
      have key : ∀ j p f k a (s : zSt), p < 8 → 8 ≤ p + j → k + j ≤ 8 → j + 1 < f → a < 256 → s.1 17 6 = nI a → EC 1 2 W s → wp (zfix F_X5_learn_183L f (nI p, nI k, s)) (fun _ t => fr [] [(17, 6)] s t ∧ t.1 17 6 = nI (a ||| golF W 8 p)) := by
        intro j
        induction j with
        | zero => intro p f k a s hp h; omega
        | succ j ih =>
          intro p f k a s hp h hk hf ha es hCs
          obtain ⟨f, rfl⟩ : ∃ q, f = q + 1 := ⟨f - 1, by omega⟩
          show wp (F_X5_learn_183 (zfix F_X5_learn_183L f) (nI p) (nI k) s) _
          have hb : bel (nI p) 8 := bel_t (by omega)
          have e6 : s.1 6 p = e1 (wFli W p) := hCs.2.2.2.2.1 p hp
          have fs : fr [] [(17, 6)] s (zwr s 17 6 (nI (a ||| 2 ^ p))) := fr_w (Or.inr (by decide))
          unfold F_X5_learn_183
          rw [if_neg (by rw [c8, nI_lep (by omega)]; omega), T_isBelow_8, bd_s, bI_t hb, if_neg (show ¬ (1 : Int32) = 0 by decide), es, bit_1 p hp, nI_or, nm_s, gd_n (by omega), nI_cl (by omega), nm_s, nm_s, nI_1, show (zwr s 17 6 (nI (a ||| 2 ^ p))).1 6 p = e1 (wFli W p) from e6, golF_s hW hp]
          cases q : wFli W p with
          | none =>
            obtain ⟨f, rfl⟩ : ∃ q, f = q + 1 := ⟨f - 1, by omega⟩
            show wp (F_X5_learn_183 (zfix F_X5_learn_183L f) (-1) (nI (k + 1)) (zwr s 17 6 (nI (a ||| 2 ^ p)))) _
            unfold F_X5_learn_183
            rw [T_isBelow_8, bd_s, bI_f bel_m1, if_pos (show (0 : Int32) = 0 from rfl)]
            have fin : wp (some ((), zwr s 17 6 (nI (a ||| 2 ^ p)))) (fun _ t => fr [] [(17, 6)] s t ∧ t.1 17 6 = nI (a ||| (2 ^ p ||| 0))) := wp_some ⟨fs, by rw [Nat.or_zero]; simp only [zwr_r, upd_r, Nat.reduceEqDiff, ↓reduceIte]⟩
            by_cases z : (8 : Int32) ≤ nI (k + 1)
            · rw [if_pos z]
              exact fin
            · rw [if_neg z]
              exact fin
          | some r =>
            obtain ⟨b1, b2⟩ := hW.fli p r hp q
            refine wp_mono (ih r f (k + 1) (a ||| 2 ^ p) _ (wIs_lt b2) (by omega) (by omega) (by omega) (or_lt ha (pow_lt8 hp)) (by simp only [zwr_r, upd_r, Nat.reduceEqDiff, ↓reduceIte]) (fs.EC (by decide) hCs)) (fun _ t ht => ⟨fs.tr ht.1, ?_⟩)
            rw [ht.2, Nat.or_assoc]
      refine wp_mono (key 8 (wHea W) zlim 0 0 (zwr ω 17 6 0) hW.hea (by omega) (by decide) (by show 9 < 1000000; decide) (by decide) (by simp only [zwr_r, upd_r, Nat.reduceEqDiff, ↓reduceIte]; rfl) hC3) (fun _ t ht => base t (ht.1.mono (by decide)) (fun c hc => ?_) ?_)
      · have hcc : c ≠ 17 := by
          intro q
          rw [q] at hc
          revert hc
          decide
        refine (ht.1.row ?_).trans (zwr_n hcc)
        simp [Ne.symm hcc]
      · rw [ht.2, Nat.zero_or]
        rfl
