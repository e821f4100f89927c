/-! PURE: rows of KEYS put among themselves -/
theorem OK_le {W : zWo} {m : Nat} {T S : Nat → Nat} (hT : OKT W m T 0) (hS : OKT W m S 0) : ∀ n O B i, 16 * S (cod O B i) + (11 - rk O B) < n → O < 256 → B < 27 → i < 4 → S (cod O B i) < 1000000000 → T (cod O B i) ≤ S (cod O B i) := by
  intro n
  induction n with
  | zero => intro O B i hn; omega
  | succ n ih =>
    intro O B i hn hO hB1 hi hf
    have ok := hT O B i hO hB1 hi (Nat.zero_le _)
    have os := hS O B i hO hB1 hi (Nat.zero_le _)
    cases st : subB O (wTol W) with
    | false =>
      have := os.1 st
      omega
    | true =>
      cases hg : subB (golW W) O with
      | true =>
        have a := ok.2.1 st hg
        omega
      | false =>
        rcases (os.2.2.1 st hg).2 with z | ⟨l, d, hl, hd, hc, tn, te⟩
        · omega
        have hd8 : d < 8 := by have := (dgs_le l hl).2; omega
        obtain ⟨a1, a2, a3, a4⟩ := ac_ok hO hB1 hi hl hd8 hc
        have en : nxt O B i l d = cod (acO O l d) (acB B l d) (acI i l d) := rfl
        have tt := (ok.2.2.1 st hg).1 l d hl hd hc
        rw [en] at tn te tt
        have ds : 16 * S (cod (acO O l d) (acB B l d) (acI i l d)) + (11 - rk (acO O l d) (acB B l d)) < n := by
          by_cases l0 : l = 0
          · subst l0
            have wpos : 0 < dyW W i 0 d := (can_0.mp hc).2
            have ce : cstW W m i 0 d = 1024 * dyW W i 0 d + (if m = 0 then 1 else if (0 : Nat) = 2 ∨ (0 : Nat) = 3 ∨ (0 : Nat) = 4 then 1 else 0) := rfl
            have er : rk (acO O 0 d) (acB B 0 d) = rk O B := rfl
            omega
          · have up := rk_up hO hB1 hi hl (by omega) hd hc
            have rl := rk_le a1 a2
            omega
        have r := ih (acO O l d) (acB B l d) (acI i l d) ds a1 a2 a3 tn
        have := tt (by omega)
        omega
theorem OK_eq {W : zWo} {m : Nat} {T S : Nat → Nat} (hT : OKT W m T 0) (hS : OKT W m S 0) : T 0 = S 0 := by
  have c0 : cod 0 0 0 = 0 := rfl
  have limT := T_lim hT (O := 0) (B := 0) (i := 0) (by decide) (by decide) (by decide)
  have limS := T_lim hS (O := 0) (B := 0) (i := 0) (by decide) (by decide) (by decide)
  have a := OK_le hT hS (16 * S (cod 0 0 0) + 12) 0 0 0 (by omega) (by decide) (by decide) (by decide)
  have b := OK_le hS hT (16 * T (cod 0 0 0) + 12) 0 0 0 (by omega) (by decide) (by decide) (by decide)
  rw [c0] at limT limS a b
  rcases limT with x | x
  · rcases limS with y | y
    · omega
    · have := a (by omega)
      omega
  · have := b (by omega)
    rcases limS with y | y
    · have := b (by omega)
      omega
    · have := a (by omega)
      omega
/-- the least days of a world -/
noncomputable def dyO (W : zWo) : Option Nat := @dite _ (∃ T, OKT W 1 T 0 ∧ T 0 ≠ 1000000000) (Classical.propDecidable _) (fun h => some (Classical.choose h 0 / 1024)) (fun _ => none)
theorem dyO_t {W : zWo} {T : Nat → Nat} (hT : OKT W 1 T 0) (h : T 0 ≠ 1000000000) : dyO W = some (T 0 / 1024) := by
  have e : ∃ T, OKT W 1 T 0 ∧ T 0 ≠ 1000000000 := ⟨T, hT, h⟩
  unfold dyO
  rw [dif_pos e]
  rw [OK_eq (Classical.choose_spec e).1 hT]
theorem dyO_f {W : zWo} {T : Nat → Nat} (hT : OKT W 1 T 0) (h : T 0 = 1000000000) : dyO W = none := by
  unfold dyO
  rw [dif_neg]
  rintro ⟨S, s1, s2⟩
  exact s2 ((OK_eq s1 hT).trans h)
/-- the places of the hiders, in order -/
def Hn (K : Nat) : Nat → Nat → Nat
  | 0 => fun _ => 0
  | k + 1 => if K.testBit k = true then fset (Hn K k) (popn K k) k else Hn K k
theorem Hn_ok : ∀ K, K < 256 → ∀ i, i < popn K 8 → Hn K 8 i < 8 ∧ K.testBit (Hn K 8 i) = true := by decide +kernel
theorem Hn_inj : ∀ K, K < 256 → ∀ i, i < popn K 8 → ∀ j, j < popn K 8 → Hn K 8 i = Hn K 8 j → i = j := by decide +kernel
theorem Hn_at : ∀ K, K < 256 → ∀ k, k < 8 → K.testBit k = true → popn K k < popn K 8 ∧ Hn K 8 (popn K k) = k := by decide +kernel
theorem Hn_up : ∀ K, K < 256 → ∀ k, k < 9 → 4 ≤ popn K k → popn K 8 ≤ 4 → popn K k = popn K 8 ∧ ∀ i, i < 4 → Hn K k i = Hn K 8 i := by decide +kernel
/-- a row by its number: two bits each -/
def rC (m c i : Nat) : Nat := c / 4 ^ (m - 1 - i) % 4
def tkC (m c : Nat) : Nat → Nat
  | 0 => 0
  | i + 1 => tkC m c i ||| 2 ^ rC m c i
def okC (m c : Nat) : Bool := decide (tkC m c m = 2 ^ m - 1)
/-- a row as the reference reads it -/
def rM (m c i : Nat) : Nat := c / m ^ (m - 1 - i) % m
def snM (m c : Nat) : Nat → Nat
  | 0 => 0
  | j + 1 => snM m c j ||| 2 ^ rM m c (m - 1 - j)
def fdM (m c : Nat) : Nat → Bool
  | 0 => true
  | j + 1 => fdM m c j && !(snM m c j).testBit (rM m c (m - 1 - j))
def okM (m c : Nat) : Bool := fdM m c m
def cvN (m x : Nat) : Nat → Nat
  | 0 => 0
  | i + 1 => 4 * cvN m x i + rM m x i
def cvt (m x : Nat) : Nat := cvN m x m
def LCn (m : Nat) : Nat → List Nat
  | 0 => []
  | c + 1 => LCn m c ++ (if okC m c = true then [c] else [])
def LMn (m : Nat) : Nat → List Nat
  | 0 => []
  | c + 1 => LMn m c ++ (if okM m c = true then [cvt m c] else [])
theorem L_same : ∀ m, m < 5 → 2 ≤ m → LCn m (4 ^ m) = LMn m (m ^ m) := by decide +kernel
theorem rC_lt : ∀ m, m < 5 → ∀ c, c < 4 ^ m → okC m c = true → ∀ i, i < m → rC m c i < m := by decide +kernel
theorem cv_row : ∀ m, m < 5 → 2 ≤ m → ∀ x, x < m ^ m → ∀ i, i < m → rC m (cvt m x) i = rM m x i := by decide +kernel
theorem cv_ok : ∀ m, m < 5 → 2 ≤ m → ∀ x, x < m ^ m → cvt m x < 4 ^ m ∧ (okM m x = true → okC m (cvt m x) = true) := by decide +kernel
theorem rC_i : ∀ m, m < 5 → ∀ c, c < 4 ^ m → ∀ i, i < m → (nI c >>> (((2 : Int32) * ((nI m - 1) - nI i)) &&& 31)) &&& 3 = nI (rC m c i) := by decide +kernel
theorem m4_i : ∀ m, m < 5 → (1 : Int32) <<< (((2 : Int32) * nI m) &&& 31) = nI (4 ^ m) ∧ ((1 : Int32) <<< (nI m &&& 31)) - 1 = nI (2 ^ m - 1) := by decide +kernel
theorem rM_lt {m x i : Nat} (h : 0 < m) : rM m x i < m := Nat.mod_lt _ h
/-- the best of rows, gone through in order -/
def stRw (dy : Nat → Option Nat) (s : Option (Nat × Nat)) (c : Nat) : Option (Nat × Nat) := match dy c with
  | none => s
  | some d => match s with
    | none => some (d, c)
    | some b => if b.1 < d then some (d, c) else some b
theorem stRw_n {dy : Nat → Option Nat} {s : Option (Nat × Nat)} {c : Nat} (h : dy c = none) : stRw dy s c = s := by
  unfold stRw
  rw [h]
def fC (dy : Nat → Option Nat) (m c : Nat) : Option (Nat × Nat) := (LCn m c).foldl (stRw dy) none
def fM (dy : Nat → Option Nat) (m c : Nat) : Option (Nat × Nat) := (LMn m c).foldl (stRw dy) none
theorem fC_s {dy : Nat → Option Nat} {m c : Nat} : fC dy m (c + 1) = if okC m c = true then stRw dy (fC dy m c) c else fC dy m c := by
  unfold fC
  rw [LCn, List.foldl_append]
  by_cases q : okC m c = true
  · rw [if_pos q, if_pos q]
    rfl
  · rw [if_neg q, if_neg q]
    rfl
theorem fM_s {dy : Nat → Option Nat} {m c : Nat} : fM dy m (c + 1) = if okM m c = true then stRw dy (fM dy m c) (cvt m c) else fM dy m c := by
  unfold fM
  rw [LMn, List.foldl_append]
  by_cases q : okM m c = true
  · rw [if_pos q, if_pos q]
    rfl
  · rw [if_neg q, if_neg q]
    rfl
theorem f_same {dy : Nat → Option Nat} {m : Nat} (h : m < 5 ∧ 2 ≤ m) : fC dy m (4 ^ m) = fM dy m (m ^ m) := by
  unfold fC fM
  rw [L_same m h.1 h.2]
/-- a world with all its KEYS put so -/
def putW (W : zWo) (κ : Nat → Option Nat) : zWo := (W.1, (W.2.1.1, W.2.1.2.1, W.2.1.2.2.1, κ), W.2.2)
theorem putW_id {W : zWo} : putW W (wKey W) = W := rfl
theorem setK_put {W : zWo} {κ : Nat → Option Nat} {p : Nat} {o : Option Nat} : setK (putW W κ) p o = putW W (fset κ p o) := rfl
def kr (H P r : Nat → Nat) (κ : Nat → Option Nat) : Nat → Nat → Option Nat
  | 0 => κ
  | i + 1 => fset (kr H P r κ i) (H i) (some (P (r i)))
theorem kr_eq {H P r : Nat → Nat} {κ κ' : Nat → Option Nat} : ∀ i k, (κ k = κ' k ∨ ∃ j, j < i ∧ H j = k) → kr H P r κ i k = kr H P r κ' i k := by
  intro i
  induction i with
  | zero =>
    intro k h
    rcases h with h | ⟨j, hj, -⟩
    · exact h
    · exact absurd hj (Nat.not_lt_zero j)
  | succ i ih =>
    intro k h
    unfold kr
    by_cases q : k = H i
    · rw [q, fset_s, fset_s]
    · rw [fset_n q, fset_n q]
      refine ih k ?_
      rcases h with h | ⟨j, hj, e⟩
      · exact Or.inl h
      · refine Or.inr ⟨j, ?_, e⟩
        by_cases z : j = i
        · rw [z] at e
          exact absurd e.symm q
        · omega
/-- the KEYS that do not hide are where they are in the world -/
def Off (W : zWo) (m : Nat) (H : Nat → Nat) (κ : Nat → Option Nat) : Prop := ∀ k, κ k = wKey W k ∨ ∃ j, j < m ∧ H j = k
theorem Off_kr {W : zWo} {m : Nat} {H P r : Nat → Nat} {κ : Nat → Option Nat} (h : Off W m H κ) : ∀ i, i ≤ m → Off W m H (kr H P r κ i) := by
  intro i
  induction i with
  | zero => intro _; exact h
  | succ i ih =>
    intro hi k
    unfold kr
    by_cases q : k = H i
    · exact Or.inr ⟨i, by omega, q.symm⟩
    · rw [fset_n q]
      exact ih (by omega) k
theorem kr_off {W : zWo} {m : Nat} {H P r : Nat → Nat} {κ : Nat → Option Nat} (h : Off W m H κ) : kr H P r κ m = kr H P r (wKey W) m := funext (fun k => kr_eq m k (h k))
theorem kr_r {H P r r' : Nat → Nat} {κ : Nat → Option Nat} : ∀ i, (∀ j, j < i → r j = r' j) → kr H P r κ i = kr H P r' κ i := by
  intro i
  induction i with
  | zero => intro _; rfl
  | succ i ih =>
    intro h
    unfold kr
    rw [ih (fun j hj => h j (by omega)), h i (Nat.lt_succ_self i)]
/-- who hides, and where: m, H, P -/
def HD (W : zWo) (m : Nat) (H P : Nat → Nat) : Prop := 2 ≤ m ∧ m < 5 ∧ (∀ i, i < m → H i < 8 ∧ wKey W (H i) = some (P i) ∧ wIs W (P i) = true)
theorem kr_id {W : zWo} {m : Nat} {H P : Nat → Nat} (h : HD W m H P) : ∀ i, i ≤ m → kr H P (fun j => j) (wKey W) i = wKey W := by
  intro i
  induction i with
  | zero => intro _; rfl
  | succ i ih =>
    intro hi
    unfold kr
    rw [ih (by omega)]
    funext k
    by_cases q : k = H i
    · rw [q, fset_s, (h.2.2 i (by omega)).2.1]
    · rw [fset_n q]
theorem WOK_put {W : zWo} (hW : WOK W) {κ : Nat → Option Nat} (ho : ∀ j k, j < 8 → κ j = some k → wIs W k = true ∨ (8 ≤ k ∧ k ≤ 10)) : WOK (putW W κ) := ⟨hW.1, hW.2.1, hW.2.2.1, hW.2.2.2.1, hW.2.2.2.2.1, hW.2.2.2.2.2.1, fun j k hj e => ho j k hj e, hW.2.2.2.2.2.2.2⟩
theorem kr_ok {W : zWo} {m : Nat} {H P r : Nat → Nat} {κ : Nat → Option Nat} (h : HD W m H P) (hr : ∀ i, i < m → r i < m) (hk : ∀ j k, j < 8 → κ j = some k → wIs W k = true ∨ (8 ≤ k ∧ k ≤ 10)) : ∀ i, i ≤ m → ∀ j k, j < 8 → kr H P r κ i j = some k → wIs W k = true ∨ (8 ≤ k ∧ k ≤ 10) := by
  intro i
  induction i with
  | zero => intro _; exact hk
  | succ i ih =>
    intro hi j k hj e
    unfold kr at e
    by_cases q : j = H i
    · rw [q, fset_s] at e
      cases e
      exact Or.inl (h.2.2 (r i) (hr i (by omega))).2.2
    · rw [fset_n q] at e
      exact ih (by omega) j k hj e
/-- the world by a row -/
def rowW (W : zWo) (m : Nat) (H P : Nat → Nat) (c : Nat) : zWo := putW W (kr H P (rC m c) (wKey W) m)
theorem rowW_ok {W : zWo} (hW : WOK W) {m c : Nat} {H P : Nat → Nat} (h : HD W m H P) (hr : ∀ i, i < m → rC m c i < m) : WOK (rowW W m H P c) := WOK_put hW (kr_ok h hr hW.2.2.2.2.2.2.1 m (Nat.le_refl m))
