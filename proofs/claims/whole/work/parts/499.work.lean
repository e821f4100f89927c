/-! PURE: texts, a tale read -/
def chN (tp : Nat → Nat) (N i : Nat) : Option Nat := if i < N then some (tp i) else none
theorem chN_lt {tp : Nat → Nat} {N i b : Nat} (h : ∀ j, j < N → tp j < 256) (e : chN tp N i = some b) : b < 256 ∧ i < N := by
  unfold chN at e
  by_cases q : i < N
  · rw [if_pos q] at e
    cases e
    exact ⟨h i q, q⟩
  · rw [if_neg q] at e
    cases e
def flt (k p : Nat) : Int32 := (-1000 : Int32) * nI k - nI p
theorem flt_ne : ∀ k, k < 6 → ∀ p, p < 300 → ¬ (k ≠ 0 ∧ flt k p = 0) := by decide +kernel
theorem flt_n {k p : Nat} (h0 : k ≠ 0) (hk : k < 6) (hp : p < 300) : ¬ flt k p = 0 := fun q => flt_ne k hk p hp ⟨h0, q⟩
/-- the text on the class's tape, on the reference's -/
def TX (tp : Nat → Nat) (N : Nat) (σ : zSt) : Prop := N ≤ 260 ∧ σ.1 33 2 = nI N ∧ ∀ j, j < N → tp j < 256 ∧ σ.1 34 j = nI (tp j)
def TXm (tp : Nat → Nat) (N : Nat) (σ : zSt) : Prop := N ≤ 260 ∧ σ.1 69 16 = nI N ∧ ∀ j, j < N → tp j < 256 ∧ σ.1 76 j = sb (tp j)
theorem TX_fr {tp : Nat → Nat} {N : Nat} {σ τ : zSt} {L : List Nat} {S : List (Nat × Nat)} (h : TX tp N σ) (f : fr L S σ τ) (d : (!L.contains 33 && !S.contains (33, 2) && !L.contains 34 && S.all (fun q => q.1 != 34)) = true) : TX tp N τ := by
  simp only [Bool.and_eq_true, Bool.not_eq_true', List.contains_eq_mem, decide_eq_false_iff_not] at d
  obtain ⟨⟨⟨d1, d2⟩, d3⟩, d4⟩ := d
  refine ⟨h.1, (f.rd d1 d2).trans h.2.1, fun j hj => ?_⟩
  have r : τ.1 34 = σ.1 34 := f.row (by rw [Bool.and_eq_true]; exact ⟨by simpa using d3, d4⟩)
  rw [r]
  exact h.2.2 j hj
theorem TXm_fr {tp : Nat → Nat} {N : Nat} {σ τ : zSt} {L : List Nat} {S : List (Nat × Nat)} (h : TXm tp N σ) (f : fr L S σ τ) (d : (!L.contains 69 && !S.contains (69, 16) && !L.contains 76 && S.all (fun q => q.1 != 76)) = true) : TXm tp N τ := by
  simp only [Bool.and_eq_true, Bool.not_eq_true', List.contains_eq_mem, decide_eq_false_iff_not] at d
  obtain ⟨⟨⟨d1, d2⟩, d3⟩, d4⟩ := d
  refine ⟨h.1, (f.rd d1 d2).trans h.2.1, fun j hj => ?_⟩
  have r : τ.1 76 = σ.1 76 := f.row (by rw [Bool.and_eq_true]; exact ⟨by simpa using d3, d4⟩)
  rw [r]
  exact h.2.2 j hj
theorem T_chr {tp : Nat → Nat} {N i : Nat} {σ : zSt} (h : TX tp N σ) (hi : i < 2000) : F_X8_at (nI i) σ = some (e1 (chN tp N i), σ) := by
  have hN := h.1
  unfold F_X8_at F_X8_at_0 chN
  rw [if_neg (nI_pos (by omega)), h.2.1, if_le (by omega)]
  by_cases q : i < N
  · rw [if_neg (by omega), if_neg (by rw [show (260 : Int32) = nI 260 from rfl, nI_lep (by omega)]; omega), gd_n (by omega), nI_cl (by omega), if_pos q, (h.2.2 i q).2]
    rfl
  · rw [if_pos (by omega), if_neg q]
    rfl
theorem T_here {tp : Nat → Nat} {N p : Nat} {σ : zSt} (h : TXm tp N σ) (e15 : σ.1 69 15 = nI p) (hp : p < 2000) : F_X12_here σ = some (e1 (chN tp N p), σ) := by
  have hN := h.1
  unfold F_X12_here F_X12_here_0 chN
  rw [e15, h.2.1, if_le (by omega)]
  by_cases q : p < N
  · obtain ⟨a, b⟩ := h.2.2 p q
    rw [if_neg (by omega), gd_n (by omega), nI_cl (by omega), if_pos q, b, sb_255 _ a]
    rfl
  · rw [if_pos (by omega), if_neg q]
    rfl
theorem e1_lit {o : Option Nat} {c : Nat} (ho : ∀ b, o = some b → b < 256) (hc : c < 256) : (e1 o = nI c) = (o = some c) := by
  cases o with
  | none =>
    simp only [e1, reduceCtorEq, eq_iff_iff, iff_false]
    exact fun q => e1_n (k := c) (by omega) q.symm
  | some b =>
    have := ho b rfl
    simp only [e1, Option.some.injEq, nI_eqp (show b < 2147483648 ∧ c < 2147483648 by omega)]
theorem T_wrong {σ : zSt} {k p : Nat} : F_X12_wrongAt (nI k) (nI p) σ = some (0, zwr σ 69 17 (flt k p)) := rfl
theorem T_wrong1 {σ : zSt} {p : Nat} : F_X12_wrongAt 1 (nI p) σ = some (0, zwr σ 69 17 (flt 1 p)) := rfl
theorem T_wrong2 {σ : zSt} {p : Nat} : F_X12_wrongAt 2 (nI p) σ = some (0, zwr σ 69 17 (flt 2 p)) := rfl
theorem T_wrong3 {σ : zSt} {p : Nat} : F_X12_wrongAt 3 (nI p) σ = some (0, zwr σ 69 17 (flt 3 p)) := rfl
theorem T_wrong4 {σ : zSt} {p : Nat} : F_X12_wrongAt 4 (nI p) σ = some (0, zwr σ 69 17 (flt 4 p)) := rfl
theorem T_wrong5 {σ : zSt} {p : Nat} : F_X12_wrongAt 5 (nI p) σ = some (0, zwr σ 69 17 (flt 5 p)) := rfl
theorem T_flt1 {σ : zSt} {p : Nat} : F_X11_fault 1 (nI p) σ = some (flt 1 p, σ) := rfl
theorem T_flt3 {σ : zSt} {p : Nat} : F_X11_fault 3 (nI p) σ = some (flt 3 p, σ) := rfl
theorem T_flt4 {σ : zSt} {p : Nat} : F_X11_fault 4 (nI p) σ = some (flt 4 p, σ) := rfl
theorem g01_0 {α : Type} {x : Option α} : gd ((0 : Int32) = 0 ∨ (0 : Int32) = 1) x = x := gd_t (Or.inl rfl)
theorem g01_1 {α : Type} {x : Option α} : gd ((1 : Int32) = 0 ∨ (1 : Int32) = 1) x = x := gd_t (Or.inr rfl)
theorem T_takes {tp : Nat → Nat} {N p c : Nat} {σ : zSt} (h : TXm tp N σ) (e15 : σ.1 69 15 = nI p) (hp : p < 2000) (hc : c < 256) : F_X12_takes (nI c) σ = if chN tp N p = some c then some (1, zwr σ 69 15 (nI (p + 1))) else some (0, zwr σ 69 17 (flt 1 p)) := by
  unfold F_X12_takes F_X12_takes_0
  rw [T_here h e15 hp, bd_s, e15]
  have e : (e1 (chN tp N p) = nI c) = (chN tp N p = some c) := e1_lit (fun b hb => (chN_lt (fun j hj => (h.2.2 j hj).1) hb).1) hc
  by_cases q : chN tp N p = some c
  · rw [if_pos (by rw [e]; exact q), if_pos q, nm_s, nI_1]
  · rw [if_neg (by rw [e]; exact q), if_neg q, T_wrong1, bd_s, g01_0]
/-- letters and digits of a tale -/
def kindB (b : Nat) : Option Nat := if b = 103 then some 0 else if b = 114 then some 1 else if b = 111 then some 2 else if b = 119 then some 3 else if b = 115 then some 4 else if b = 107 then some 5 else none
def dgB (b : Nat) : Option Nat := if 48 ≤ b ∧ b ≤ 57 then some (b - 48) else none
def dgs (k : Nat) : Nat := if k ≤ 1 then 4 else if k = 5 then 3 else 8
theorem kindB_lt {b k : Nat} (h : kindB b = some k) : k < 6 := by
  unfold kindB at h
  repeat' split at h
  all_goals first | (cases h; done) | (cases h; decide)
theorem dgB_lt {b d : Nat} (h : dgB b = some d) : d < 10 ∧ b = d + 48 := by
  unfold dgB at h
  split at h
  · cases h
    omega
  · cases h
theorem T_kindOf {o : Option Nat} {σ : zSt} (ho : ∀ b, o = some b → b < 256) : F_X12_kindOf (e1 o) σ = some (e1 (o.bind kindB), σ) := by
  have l := fun c (hc : c < 256) => e1_lit (c := c) ho hc
  unfold F_X12_kindOf F_X12_kindOf_0
  rw [show (103 : Int32) = nI 103 from rfl, show (114 : Int32) = nI 114 from rfl, show (111 : Int32) = nI 111 from rfl, show (119 : Int32) = nI 119 from rfl, show (115 : Int32) = nI 115 from rfl, show (107 : Int32) = nI 107 from rfl]
  simp only [l 103 (by decide), l 114 (by decide), l 111 (by decide), l 119 (by decide), l 115 (by decide), l 107 (by decide)]
  cases o with
  | none => rfl
  | some b =>
    simp only [Option.some.injEq, Option.bind_some, kindB]
    by_cases q1 : b = 103
    · rw [if_pos q1, if_pos q1]; rfl
    rw [if_neg q1, if_neg q1]
    by_cases q2 : b = 114
    · rw [if_pos q2, if_pos q2]; rfl
    rw [if_neg q2, if_neg q2]
    by_cases q3 : b = 111
    · rw [if_pos q3, if_pos q3]; rfl
    rw [if_neg q3, if_neg q3]
    by_cases q4 : b = 119
    · rw [if_pos q4, if_pos q4]; rfl
    rw [if_neg q4, if_neg q4]
    by_cases q5 : b = 115
    · rw [if_pos q5, if_pos q5]; rfl
    rw [if_neg q5, if_neg q5]
    by_cases q6 : b = 107
    · rw [if_pos q6, if_pos q6]; rfl
    rw [if_neg q6, if_neg q6]
    rfl
theorem case6 {P : Nat → Prop} (h0 : P 0) (h1 : P 1) (h2 : P 2) (h3 : P 3) (h4 : P 4) (h5 : P 5) : ∀ k, k < 6 → P k := by
  intro k hk
  have e : k = 0 ∨ k = 1 ∨ k = 2 ∨ k = 3 ∨ k = 4 ∨ k = 5 := by omega
  rcases e with rfl | rfl | rfl | rfl | rfl | rfl <;> assumption
theorem T_digitsFor {σ : zSt} : ∀ k, k < 6 → F_X12_digitsFor (nI k) σ = some (nI (dgs k), σ) := case6 rfl rfl rfl rfl rfl rfl
theorem T_highest {σ : zSt} : ∀ k, k < 6 → F_X5_highest (nI k) σ = some (nI (dgs k - 1), σ) := by
  intro k hk
  have hb : bel (nI k) 6 := bel_t (by omega)
  unfold F_X5_highest F_X5_highest_0
  rw [T_isBelow_6, bd_s, bI_t hb, if_neg (show ¬ (1 : Int32) = 0 by decide), gd_n (by omega), nI_cl (by omega)]
  revert k
  exact fun k hk _ => case6 (P := fun k => some (zHi k, σ) = some (nI (dgs k - 1), σ)) rfl rfl rfl rfl rfl rfl k hk
theorem dgs_le : ∀ k, k < 6 → 1 ≤ dgs k ∧ dgs k ≤ 8 := by decide
/-- a place in a row of letters -/
def ixF (l : List Int32) (v : Int32) : Nat → Nat → Int32
  | 0, _ => -1
  | f + 1, i => if l.getD i 0 = v then nI i else ixF l v f (i + 1)
theorem ix_kind : ∀ b, b < 256 → ixF (zBy.getD 1 []) (sb b) 6 0 = e1 (kindB b) := by decide +kernel
theorem T_can {b : Nat} {σ : zSt} (hb : b < 256) : F_J1_canEncode_9a6ad (nI b) σ = some (1, σ) := by
  unfold F_J1_canEncode_9a6ad F_J1_canEncode_9a6ad_0
  rw [if_neg (nI_pos (by omega)), if_neg (by rw [show (255 : Int32) = nI 255 from rfl, nI_ltp (by omega)]; omega)]
theorem T_index3 {b : Nat} {σ : zSt} (hb : b < 256) : F_J0_indexOf_0f7a4_1003 (nI b) σ = some (e1 (kindB b), σ) := by
  have E : F_J1_indexOfChar_4cfef_1005 (nI b) 0 6 σ = some (e1 (kindB b), σ) := by
    unfold F_J1_indexOfChar_4cfef_1005 F_J1_indexOfChar_4cfef_1005_0
    rw [nm_s, ← ix_kind b hb]
    refine zfix_out (fun i => (nI i, σ)) (fun i => some (ixF (zBy.getD 1 []) (sb b) (6 - i) i, σ)) 6 (by decide) (fun i w hi ih => ?_) (fun w => ?_) 0 (by decide)
    · show F_J1_indexOfChar_4cfef_1005_7 6 (sb b) w (nI i) σ = _
      unfold F_J1_indexOfChar_4cfef_1005_7
      rw [if_neg (by rw [show (6 : Int32) = nI 6 from rfl, nI_lep (by omega)]; omega), gd_t (show vp_in (nI i) (([9, 6] : List Nat).getD 1 0) from vp_in_nI hi (by decide)), nI_cl (by omega), show 6 - i = (6 - (i + 1)) + 1 by omega, ixF, nm_s, nI_1, ih]
      by_cases q : (zBy.getD 1 []).getD i 0 = sb b
      · rw [if_pos q, if_pos q]
      · rw [if_neg q, if_neg q]
    · show F_J1_indexOfChar_4cfef_1005_7 6 (sb b) w (nI 6) σ = _
      unfold F_J1_indexOfChar_4cfef_1005_7
      rw [if_pos (show (6 : Int32) ≤ nI 6 by decide)]
      rfl
  unfold F_J0_indexOf_0f7a4_1003 F_J0_indexOf_0f7a4_1003_0 F_J0_indexOf_7cf53_1003 F_J0_indexOf_7cf53_1003_0
  have E2 : F_J0_length_8abf5_1003 σ = some (6, σ) := by
    unfold F_J0_length_8abf5_1003 F_J0_length_8abf5_1003_0 F_J0_coder_7d493_1003 F_J0_coder_7d493_1003_0
    rw [if_neg (show ¬ (1 : Int32) = 0 by decide), bd_s, sb_shr0]
  have E3 : F_J0_isLatin1_aae02_1003 σ = some (1, σ) := by
    unfold F_J0_isLatin1_aae02_1003 F_J0_isLatin1_aae02_1003_0
    rw [if_neg (show ¬ (1 : Int32) = 0 by decide), if_pos (show (0 : Int32) = 0 from rfl)]
  have E4 : F_J1_indexOf_4cfef_1005 (nI b) 0 6 σ = some (e1 (kindB b), σ) := by
    unfold F_J1_indexOf_4cfef_1005 F_J1_indexOf_4cfef_1005_0
    rw [T_can hb, bd_s, if_neg (show ¬ (1 : Int32) = 0 by decide), nm_s, nm_s, show jmax 0 0 = 0 from rfl, show jmin 6 6 = 6 from rfl, if_pos (show (0 : Int32) < 6 by decide), E, bd_s]
  rw [E3, bd_s, if_neg (show ¬ (1 : Int32) = 0 by decide), E2, bd_s, E4, bd_s, bd_s]
theorem ch_u16 : ∀ b, b < 256 → ((nI b).toUInt32 % 65536).toInt32 = nI b := by decide +kernel
/-- the place of a byte among a tale's letters -/
theorem T_letter {β : Type} {o : Option Nat} {σ : zSt} (ho : ∀ b, o = some b → b < 256) (K : Int32 → zSt → Option β) : (if 0 ≤ e1 o then bd (F_J0_indexOf_0f7a4_1003 (((e1 o).toUInt32 % 65536).toInt32) σ) (fun q11 s10 => K q11 s10) else K (-1) σ) = K (e1 (o.bind kindB)) σ := by
  cases o with
  | none =>
    rw [if_neg (show ¬ (0 : Int32) ≤ e1 none by decide)]
    rfl
  | some b =>
    have hb := ho b rfl
    rw [if_pos (show (0 : Int32) ≤ e1 (some b) from nI_pos' (by omega))]
    show bd (F_J0_indexOf_0f7a4_1003 (((nI b).toUInt32 % 65536).toInt32) σ) _ = _
    rw [ch_u16 b hb, T_index3 hb, bd_s]
    rfl
theorem dig_c : ∀ b, b < 256 → (dgB b = none → ((nI b - 48).toInt < 0 ∨ 10 ≤ (nI b - 48).toInt)) ∧ (∀ d, d < 10 → dgB b = some d → nI b - 48 = nI d) := by decide +kernel
theorem dig_o {o : Option Nat} (ho : ∀ b, o = some b → b < 256) : (o.bind dgB = none → ¬ bel (e1 o - 48) 10) ∧ ∀ d, o.bind dgB = some d → e1 o - 48 = nI d ∧ d < 10 := by
  cases o with
  | none =>
    refine ⟨fun _ q => ?_, fun d h => by cases h⟩
    exact absurd q.1 (by decide)
  | some b =>
    obtain ⟨a, c⟩ := dig_c b (ho b rfl)
    refine ⟨fun h q => ?_, fun d h => ?_⟩
    · have := a h
      have q1 : 0 ≤ (nI b - 48).toInt := q.1
      have q2 : (nI b - 48).toInt < 10 := q.2
      omega
    · have := (dgB_lt h).1
      exact ⟨c d this h, this⟩
/-- a tale read: fuel, where, how many so far, letters, digits; 0 or a FAULT -/
def tpr (tp : Nat → Nat) (N : Nat) : Nat → Nat → Nat → (Nat → Nat) → (Nat → Nat) → Int32 × Nat × (Nat → Nat) × (Nat → Nat)
  | 0, p, m, kd, dg => (flt 4 p, m, kd, dg)
  | f + 1, p, m, kd, dg => match (chN tp N p).bind kindB with
    | none => (flt 1 p, m, kd, dg)
    | some k => if 32 ≤ m then (flt 4 p, m, kd, dg) else match (chN tp N (p + 1)).bind dgB with
      | none => (flt 1 (p + 1), m, kd, dg)
      | some d => if dgs k ≤ d then (flt 3 (p + 1), m, kd, dg) else
        if p + 2 = N then (0, m + 1, fset kd m k, fset dg m d) else
        if chN tp N (p + 2) = some 44 then tpr tp N f (p + 3) (m + 1) (fset kd m k) (fset dg m d) else (flt 1 (p + 2), m + 1, fset kd m k, fset dg m d)
def ACT (r1 r2 m : Nat) (kd dg : Nat → Nat) (σ : zSt) : Prop := ∀ j, j < m → σ.1 r1 j = nI (kd j) ∧ σ.1 r2 j = nI (dg j) ∧ kd j < 6 ∧ dg j < dgs (kd j)
theorem ACT_s {r1 r2 m k d : Nat} {kd dg : Nat → Nat} {σ τ : zSt} (h : ACT r1 r2 m kd dg σ) (hk : k < 6) (hd : d < dgs k) (a : τ.1 r1 = upd (σ.1 r1) m (nI k)) (b : τ.1 r2 = upd (σ.1 r2) m (nI d)) : ACT r1 r2 (m + 1) (fset kd m k) (fset dg m d) τ := by
  intro j hj
  rw [a, b]
  by_cases q : j = m
  · subst q
    rw [pk_us, pk_us, fset_s, fset_s]
    exact ⟨rfl, rfl, hk, hd⟩
  · rw [pk_un q, pk_un q, fset_n q, fset_n q]
    exact h j (by omega)
theorem TX_b {tp : Nat → Nat} {N : Nat} {σ : zSt} (h : TX tp N σ) {i : Nat} : ∀ b, chN tp N i = some b → b < 256 := fun _ e => (chN_lt (fun j hj => (h.2.2 j hj).1) e).1
theorem TXm_b {tp : Nat → Nat} {N : Nat} {σ : zSt} (h : TXm tp N σ) {i : Nat} : ∀ b, chN tp N i = some b → b < 256 := fun _ e => (chN_lt (fun j hj => (h.2.2 j hj).1) e).1
theorem T_flt {σ : zSt} {k p : Nat} : F_X11_fault (nI k) (nI p) σ = some (flt k p, σ) := rfl
theorem T_readC {tp : Nat → Nat} {N : Nat} : ∀ f fu p m kd dg (σ : zSt), m + f = 33 → f < fu → p ≤ 3 * m → TX tp N σ → σ.1 44 2 = nI m → ACT 45 46 m kd dg σ → wp (zfix F_X7_read_9L fu (nI p, nI m, σ)) (fun a τ => a = (tpr tp N f p m kd dg).1 ∧ fr [45, 46] [(44, 2)] σ τ ∧ τ.1 44 2 = nI (tpr tp N f p m kd dg).2.1 ∧ (tpr tp N f p m kd dg).2.1 ≤ 32 ∧ ACT 45 46 (tpr tp N f p m kd dg).2.1 (tpr tp N f p m kd dg).2.2.1 (tpr tp N f p m kd dg).2.2.2 τ ∨ (33 ≤ m)) := by
  intro f
  induction f with
  | zero =>
    intro fu p m kd dg σ hm hf hp hT e hA
    obtain ⟨fu, rfl⟩ : ∃ q, fu = q + 1 := ⟨fu - 1, by omega⟩
    show wp (F_X7_read_9 (zfix F_X7_read_9L fu) (nI p) (nI m) σ) _
    unfold F_X7_read_9 F_X7_read_185
    rw [if_pos (by rw [show (32 : Int32) = nI 32 from rfl, nI_ltp (by omega)]; omega), T_flt4, bd_s]
    exact wp_some (Or.inr (by omega))
  | succ f ih =>
    intro fu p m kd dg σ hm hf hp hT e hA
    obtain ⟨fu, rfl⟩ : ∃ q, fu = q + 1 := ⟨fu - 1, by omega⟩
    show wp (F_X7_read_9 (zfix F_X7_read_9L fu) (nI p) (nI m) σ) _
    have hN := hT.1
    unfold F_X7_read_9
    rw [if_neg (by rw [show (32 : Int32) = nI 32 from rfl, nI_ltp (by omega)]; omega), T_chr hT (by omega), bd_s, T_letter (TX_b hT) (fun q11 s10 => F_X7_read_39 (zfix F_X7_read_9L fu) (nI p) (nI m) q11 s10)]
    unfold F_X7_read_39 F_X7_read_46 F_X7_read_61 F_X7_read_89 F_X7_read_107 F_X7_read_170 tpr
    cases hk : (chN tp N p).bind kindB with
    | none =>
      rw [if_neg (show ¬ (0 : Int32) ≤ e1 none by decide), T_flt1, bd_s]
      exact wp_some (Or.inl ⟨rfl, fr.rf, e, by show m ≤ 32; omega, hA⟩)
    | some k =>
      have hk6 : k < 6 := by
        obtain ⟨b, hb, hb2⟩ := Option.bind_eq_some_iff.mp hk
        exact kindB_lt hb2
      rw [if_pos (show (0 : Int32) ≤ e1 (some k) from nI_pos' (by omega)), e, show (32 : Int32) = nI 32 from rfl, if_lt (by omega)]
      by_cases q32 : 32 ≤ m
      · rw [if_neg (by omega), T_flt4, bd_s]
        simp only [q32, ↓reduceIte]
        exact wp_some (Or.inl ⟨rfl, fr.rf, e, by show m ≤ 32; omega, hA⟩)
      rw [if_pos (by omega), show nI p + (1 : Int32) = nI (p + 1) from nI_add p 1, T_chr hT (by omega), bd_s]
      simp only [q32, ↓reduceIte]
      obtain ⟨d1, d2⟩ := dig_o (o := chN tp N (p + 1)) (TX_b hT)
      rw [nm_s, T_isBelow_10, bd_s]
      cases hd : (chN tp N (p + 1)).bind dgB with
      | none =>
        rw [bI_f (d1 hd), if_pos rfl, T_flt1, bd_s]
        exact wp_some (Or.inl ⟨rfl, fr.rf, e, by show m ≤ 32; omega, hA⟩)
      | some d =>
        obtain ⟨d3, d4⟩ := d2 d hd
        have hb10 : bel (nI d) 10 := bel_t (by omega)
        have hp1 : p + 1 < N := by
          obtain ⟨b, hb, hb2⟩ := Option.bind_eq_some_iff.mp hd
          exact (chN_lt (fun j hj => (hT.2.2 j hj).1) hb).2
        obtain ⟨g1, g2⟩ := dgs_le k hk6
        rw [d3, bI_t hb10, if_neg (show ¬ (1 : Int32) = 0 by decide), show e1 (some k) = nI k from rfl, T_highest k hk6, bd_s, if_le (by omega)]
        by_cases qd : dgs k ≤ d
        · rw [if_neg (by omega), T_flt3, bd_s]
          simp only [qd, ↓reduceIte]
          exact wp_some (Or.inl ⟨rfl, fr.rf, e, by show m ≤ 32; omega, hA⟩)
        rw [if_pos (by omega)]
        simp (disch := omega) only [qd, e, gd_n, nI_cl, nm_s, zwr_r, upd_r, Nat.reduceEqDiff, ↓reduceIte, nI_1, show ∀ x : Nat, nI x + (2 : Int32) = nI (x + 2) from fun x => nI_add x 2, hT.2.1, nI_eqp]
        have f1 : fr [45, 46] [(44, 2)] σ (zwr (zwr (zwr σ 45 m (nI k)) 46 m (nI d)) 44 2 (nI (m + 1))) := (((fr_w (Or.inl (by decide))).w (Or.inl (by decide))).w (Or.inr (by decide)))
        have A1 : ACT 45 46 (m + 1) (fset kd m k) (fset dg m d) (zwr (zwr (zwr σ 45 m (nI k)) 46 m (nI d)) 44 2 (nI (m + 1))) := ACT_s hA hk6 (by omega) rfl rfl
        by_cases qN : p + 2 = N
        · rw [if_pos qN, if_pos qN]
          exact wp_some (Or.inl ⟨rfl, f1, rfl, by show m + 1 ≤ 32; omega, A1⟩)
        rw [if_neg qN, if_neg qN, T_chr (TX_fr hT f1 (by decide)) (by omega), bd_s, show (44 : Int32) = nI 44 from rfl, if_e1 (fun b hb => by have := TX_b hT b hb; omega) (by decide)]
        by_cases qc : chN tp N (p + 2) = some 44
        · rw [if_pos qc, if_pos qc]
          refine wp_mono (ih fu (p + 2 + 1) (m + 1) (fset kd m k) (fset dg m d) _ (by omega) (by omega) (by omega) (TX_fr hT f1 (by decide)) (by simp only [zwr_r, upd_r, Nat.reduceEqDiff, ↓reduceIte]) A1) (fun a τ h => ?_)
          rcases h with ⟨a1, a2, a3⟩ | h
          · exact Or.inl ⟨a1, f1.tr a2, a3⟩
          · exact Or.inl (by omega)
        · rw [if_neg qc, if_neg qc, T_flt1, bd_s]
          exact wp_some (Or.inl ⟨rfl, f1, by simp only [zwr_r, upd_r, Nat.reduceEqDiff, ↓reduceIte], by show m + 1 ≤ 32; omega, A1⟩)
theorem T_digitM {tp : Nat → Nat} {N p : Nat} {σ : zSt} (h : TXm tp N σ) (e15 : σ.1 69 15 = nI p) (hp : p < 2000) : F_X12_isDigit σ = some (bI ((chN tp N p).bind dgB ≠ none), σ) := by
  unfold F_X12_isDigit F_X12_isDigit_0
  rw [T_here h e15 hp, bd_s, T_here h e15 hp, bd_s]
  cases ho : chN tp N p with
  | none =>
    rw [if_pos (show e1 none < 48 by decide), bI_f (fun r => r rfl)]
  | some b =>
    have hb := TXm_b h b ho
    show (if nI b < (48 : Int32) then some ((0 : Int32), σ) else if (57 : Int32) < nI b then some ((0 : Int32), σ) else some ((1 : Int32), σ)) = some (bI (dgB b ≠ none), σ)
    rw [show (48 : Int32) = nI 48 from rfl, show (57 : Int32) = nI 57 from rfl, if_lt (by omega), if_lt (by omega)]
    by_cases q1 : b < 48
    · rw [if_pos q1, bI_f]
      intro r
      refine r ?_
      unfold dgB
      rw [if_neg (by omega)]
    · rw [if_neg q1]
      by_cases q2 : 57 < b
      · rw [if_pos q2, bI_f]
        intro r
        refine r ?_
        unfold dgB
        rw [if_neg (by omega)]
      · rw [if_neg q2, bI_t]
        unfold dgB
        rw [if_pos (by omega)]
        exact fun r => by cases r
theorem T_readsAct {tp : Nat → Nat} {N p m : Nat} {σ : zSt} (h : TXm tp N σ) (e15 : σ.1 69 15 = nI p) (hp : p < 1000) (e42 : σ.1 69 42 = nI m) (hm : m ≤ 32) : F_X12_readsAct σ = match (chN tp N p).bind kindB with
    | none => some (0, zwr σ 69 17 (flt 1 p))
    | some k => if 32 ≤ m then some (0, zwr σ 69 17 (flt 4 p)) else match (chN tp N (p + 1)).bind dgB with
      | none => some (0, zwr (zwr σ 69 15 (nI (p + 1))) 69 17 (flt 1 (p + 1)))
      | some d => if dgs k ≤ d then some (0, zwr (zwr σ 69 15 (nI (p + 1))) 69 17 (flt 3 (p + 1))) else some (1, zwr (zwr (zwr (zwr (zwr σ 69 15 (nI (p + 1))) 69 15 (nI (p + 2))) 90 m (nI k)) 91 m (nI d)) 69 42 (nI (m + 1))) := by
  unfold F_X12_readsAct F_X12_readsAct_0
  rw [T_here h e15 (by omega), bd_s, T_kindOf (TXm_b h), bd_s]
  cases hk : (chN tp N p).bind kindB with
  | none =>
    rw [if_pos (show e1 none = -1 from rfl), e15, T_wrong1, bd_s, g01_0]
  | some k =>
    have hk6 : k < 6 := by
      obtain ⟨b, hb, hb2⟩ := Option.bind_eq_some_iff.mp hk
      exact kindB_lt hb2
    rw [if_neg (show ¬ e1 (some k) = -1 from e1_n (by omega)), e42, show (32 : Int32) = nI 32 from rfl, if_eqI (by omega)]
    by_cases q32 : 32 ≤ m
    · rw [if_pos (by omega), e15, T_wrong4, bd_s, g01_0]
      simp only [q32, ↓reduceIte]
    rw [if_neg (by omega), e15, nm_s, nI_1]
    simp only [q32, ↓reduceIte]
    have f1 : fr [] [(69, 15)] σ (zwr σ 69 15 (nI (p + 1))) := fr_w (Or.inr (by decide))
    have h1 := TXm_fr h f1 (by decide)
    have e15' : (zwr σ 69 15 (nI (p + 1))).1 69 15 = nI (p + 1) := by simp only [zwr_r, upd_r, Nat.reduceEqDiff, ↓reduceIte]
    rw [T_digitM h1 e15' (by omega), bd_s]
    cases hd : (chN tp N (p + 1)).bind dgB with
    | none =>
      rw [bI_f (fun r => r rfl), if_pos rfl, e15', T_wrong1, bd_s, g01_0]
    | some d =>
      obtain ⟨d3, d4⟩ := (dig_o (o := chN tp N (p + 1)) (TXm_b h)).2 d hd
      obtain ⟨g1, g2⟩ := dgs_le k hk6
      rw [bI_t (fun r => by cases r), if_neg (show ¬ (1 : Int32) = 0 by decide), T_here h1 e15' (by omega), bd_s, nm_s, d3, show e1 (some k) = nI k from rfl, T_digitsFor k hk6, bd_s, if_lt (by omega)]
      by_cases qd : dgs k ≤ d
      · rw [if_neg (by omega), e15', T_wrong3, bd_s, g01_0]
        simp only [qd, ↓reduceIte]
      · rw [if_pos (by omega)]
        simp (disch := omega) only [qd, zwr_r, upd_r, Nat.reduceEqDiff, ↓reduceIte, nm_s, e42, gd_n, nI_cl, nI_1]
theorem q01 {q : Int32} (h : q = 0 ∨ q = 1) : (if q = 0 then (0 : Int32) else 1) = q := by
  rcases h with rfl | rfl <;> rfl
/-- what the reference's reading leaves -/
def RDM (r1 r2 cs : Nat) (res : Int32 × Nat × (Nat → Nat) × (Nat → Nat)) (g : Int32) (σ τ : zSt) : Prop := fr [r1, r2] [(69, 15), (69, 17), (69, cs)] σ τ ∧ τ.1 69 cs = nI res.2.1 ∧ res.2.1 ≤ 32 ∧ ACT r1 r2 res.2.1 res.2.2.1 res.2.2.2 τ ∧ ((res.1 = 0 ∧ g = 1) ∨ (¬ res.1 = 0 ∧ g = 0 ∧ τ.1 69 17 = res.1))
theorem ACT_w {r1 r2 m j : Nat} {kd dg : Nat → Nat} {σ : zSt} {v : Int32} (h : ACT r1 r2 m kd dg σ) (h1 : r1 ≠ 69) (h2 : r2 ≠ 69) : ACT r1 r2 m kd dg (zwr σ 69 j v) := by
  intro k hk
  rw [zwr_n h1, zwr_n h2]
  exact h k hk
theorem RDM_no {r1 r2 cs m : Nat} {v : Int32} {kd dg : Nat → Nat} {σ τ : zSt} (h1 : r1 ≠ 69) (h2 : r2 ≠ 69) (h3 : cs ≠ 17) (hv : ¬ v = 0) (f : fr [r1, r2] [(69, 15), (69, 17), (69, cs)] σ τ) (hm : m ≤ 32) (e : τ.1 69 cs = nI m) (hA : ACT r1 r2 m kd dg τ) : RDM r1 r2 cs (v, m, kd, dg) 0 σ (zwr τ 69 17 v) := by
  refine ⟨f.w (Or.inr (by simp)), ?_, hm, ACT_w hA h1 h2, Or.inr ⟨hv, rfl, zwr_at⟩⟩
  rw [zwr_ne (Or.inr h3)]
  exact e
theorem RDM_yes {r1 r2 cs m : Nat} {kd dg : Nat → Nat} {σ τ : zSt} (f : fr [r1, r2] [(69, 15), (69, 17), (69, cs)] σ τ) (hm : m ≤ 32) (e : τ.1 69 cs = nI m) (hA : ACT r1 r2 m kd dg τ) : RDM r1 r2 cs (0, m, kd, dg) 1 σ τ := ⟨f, e, hm, hA, Or.inl ⟨rfl, rfl⟩⟩
theorem RDM_tr {r1 r2 cs : Nat} {res : Int32 × Nat × (Nat → Nat) × (Nat → Nat)} {g : Int32} {σ τ υ : zSt} (f : fr [r1, r2] [(69, 15), (69, 17), (69, cs)] σ τ) (h : RDM r1 r2 cs res g τ υ) : RDM r1 r2 cs res g σ υ := ⟨f.tr h.1, h.2⟩
theorem T_readM {tp : Nat → Nat} {N : Nat} (x2 : Int32) : ∀ f fu p m kd dg (σ : zSt), m + f = 33 → f < fu → p ≤ 3 * m → m ≤ 32 → TXm tp N σ → σ.1 69 15 = nI p → σ.1 69 42 = nI m → ACT 90 91 m kd dg σ → ∃ g τ, bd (F_X12_readsAct σ) (fun q s => zfix (F_X12_tale_49L x2) fu (q, s)) = F_X12_tale_89 x2 g τ ∧ RDM 90 91 42 (tpr tp N f p m kd dg) g σ τ := by
  intro f
  induction f with
  | zero => intro fu p m kd dg σ hm hf hp hm32; omega
  | succ f ih =>
    intro fu p m kd dg σ hm hf hp hm32 hT e15 e42 hA
    obtain ⟨fu, rfl⟩ : ∃ q, fu = q + 1 := ⟨fu - 1, by omega⟩
    have hN := hT.1
    have stop : ∀ (v : Int32) (τ : zSt), bd (some ((0 : Int32), zwr τ 69 17 v)) (fun q s => zfix (F_X12_tale_49L x2) (fu + 1) (q, s)) = F_X12_tale_89 x2 0 (zwr τ 69 17 v) := by
      intro v τ
      rw [bd_s]
      show F_X12_tale_49 x2 (zfix (F_X12_tale_49L x2) fu) 0 (zwr τ 69 17 v) = _
      unfold F_X12_tale_49
      rw [if_pos rfl]
    rw [T_readsAct hT e15 (by omega) e42 hm32]
    unfold tpr
    cases hk : (chN tp N p).bind kindB with
    | none =>
      exact ⟨0, _, stop _ _, RDM_no (by decide) (by decide) (by decide) (flt_n (by decide) (by decide) (by omega)) fr.rf hm32 e42 hA⟩
    | some k =>
      have hk6 : k < 6 := by
        obtain ⟨b, hb, hb2⟩ := Option.bind_eq_some_iff.mp hk
        exact kindB_lt hb2
      by_cases q32 : 32 ≤ m
      · simp only [q32, ↓reduceIte]
        exact ⟨0, _, stop _ _, RDM_no (by decide) (by decide) (by decide) (flt_n (by decide) (by decide) (by omega)) fr.rf hm32 e42 hA⟩
      simp only [q32, ↓reduceIte]
      cases hd : (chN tp N (p + 1)).bind dgB with
      | none =>
        exact ⟨0, _, stop _ _, RDM_no (by decide) (by decide) (by decide) (flt_n (by decide) (by decide) (by omega)) (fr_w (Or.inr (by decide))) hm32 ((zwr_ne (Or.inr (by decide))).trans e42) (ACT_w hA (by decide) (by decide))⟩
      | some d =>
        have hp1 : p + 1 < N := by
          obtain ⟨b, hb, hb2⟩ := Option.bind_eq_some_iff.mp hd
          exact (chN_lt (fun j hj => (hT.2.2 j hj).1) hb).2
        by_cases qd : dgs k ≤ d
        · simp only [qd, ↓reduceIte]
          exact ⟨0, _, stop _ _, RDM_no (by decide) (by decide) (by decide) (flt_n (by decide) (by decide) (by omega)) (fr_w (Or.inr (by decide))) hm32 ((zwr_ne (Or.inr (by decide))).trans e42) (ACT_w hA (by decide) (by decide))⟩
        simp only [qd, ↓reduceIte]
        have f1 : fr [90, 91] [(69, 15), (69, 17), (69, 42)] σ (zwr (zwr (zwr (zwr (zwr σ 69 15 (nI (p + 1))) 69 15 (nI (p + 2))) 90 m (nI k)) 91 m (nI d)) 69 42 (nI (m + 1))) := ((((fr_w (Or.inr (by decide))).w (Or.inr (by decide))).w (Or.inl (by decide))).w (Or.inl (by decide))).w (Or.inr (by decide))
        have A1 : ACT 90 91 (m + 1) (fset kd m k) (fset dg m d) (zwr (zwr (zwr (zwr (zwr σ 69 15 (nI (p + 1))) 69 15 (nI (p + 2))) 90 m (nI k)) 91 m (nI d)) 69 42 (nI (m + 1))) := ACT_s hA hk6 (by omega) rfl rfl
        generalize hτ : zwr (zwr (zwr (zwr (zwr σ 69 15 (nI (p + 1))) 69 15 (nI (p + 2))) 90 m (nI k)) 91 m (nI d)) 69 42 (nI (m + 1)) = τ at f1 A1
        have t15 : τ.1 69 15 = nI (p + 2) := by
          rw [← hτ]
          simp only [zwr_r, upd_r, Nat.reduceEqDiff, ↓reduceIte]
        have t42 : τ.1 69 42 = nI (m + 1) := by
          rw [← hτ]
          simp only [zwr_r, upd_r, Nat.reduceEqDiff, ↓reduceIte]
        have hT1 := TXm_fr hT f1 (by decide)
        rw [bd_s]
        show ∃ g υ, F_X12_tale_49 x2 (zfix (F_X12_tale_49L x2) fu) 1 τ = _ ∧ _
        unfold F_X12_tale_49 F_X12_tale_84 F_X12_tale_85
        rw [if_neg (show ¬ (1 : Int32) = 0 by decide), t15, hT1.2.1, if_le (by omega)]
        by_cases qN : p + 2 = N
        · rw [if_pos (by omega), if_pos qN]
          exact ⟨1, τ, rfl, RDM_yes f1 (by omega) t42 A1⟩
        rw [if_neg (by omega), if_neg qN, show (44 : Int32) = nI 44 from rfl, T_takes hT1 t15 (by omega) (by decide)]
        by_cases qc : chN tp N (p + 2) = some 44
        · rw [if_pos qc, if_pos qc, bd_s, if_neg (show ¬ (1 : Int32) = 0 by decide)]
          have f2 : fr [90, 91] [(69, 15), (69, 17), (69, 42)] τ (zwr τ 69 15 (nI (p + 2 + 1))) := fr_w (Or.inr (by decide))
          have A2 : ACT 90 91 (m + 1) (fset kd m k) (fset dg m d) (zwr τ 69 15 (nI (p + 2 + 1))) := ACT_w A1 (by decide) (by decide)
          have hA3 : (zwr τ 69 15 (nI (p + 2 + 1))).1 69 42 = nI (m + 1) := (zwr_ne (Or.inr (by decide))).trans t42
          have hT2 := TXm_fr hT1 f2 (by decide)
          have h15 : (zwr τ 69 15 (nI (p + 2 + 1))).1 69 15 = nI (p + 3) := by simp only [zwr_r, upd_r, Nat.reduceEqDiff, ↓reduceIte]
          by_cases q33 : m + 1 ≤ 32
          · obtain ⟨g, υ, u1, u2⟩ := ih fu (p + 3) (m + 1) (fset kd m k) (fset dg m d) _ (by omega) (by omega) (by omega) q33 hT2 h15 hA3 A2
            refine ⟨g, υ, ?_, RDM_tr (f1.tr f2) u2⟩
            rw [← u1]
            obtain ⟨r, s, e, hr⟩ : ∃ r s, F_X12_readsAct (zwr τ 69 15 (nI (p + 2 + 1))) = some (r, s) ∧ (r = 0 ∨ r = 1) := by
              rw [T_readsAct hT2 h15 (by omega) hA3 q33]
              cases (chN tp N (p + 3)).bind kindB with
              | none => exact ⟨_, _, rfl, Or.inl rfl⟩
              | some k2 =>
                simp only
                split
                · exact ⟨_, _, rfl, Or.inl rfl⟩
                · cases (chN tp N (p + 3 + 1)).bind dgB with
                  | none => exact ⟨_, _, rfl, Or.inl rfl⟩
                  | some d2 =>
                    simp only
                    split
                    · exact ⟨_, _, rfl, Or.inl rfl⟩
                    · exact ⟨_, _, rfl, Or.inr rfl⟩
            rw [e, bd_s, bd_s, q01 hr, nm_s]
          · omega
        · rw [if_neg qc, if_neg qc, bd_s, if_pos rfl]
          obtain ⟨fu, rfl⟩ : ∃ q, fu = q + 1 := ⟨fu - 1, by omega⟩
          refine ⟨0, zwr τ 69 17 (flt 1 (p + 2)), ?_, RDM_no (by decide) (by decide) (by decide) (flt_n (by decide) (by decide) (by omega)) f1 (by omega) t42 A1⟩
          show F_X12_tale_49 x2 (zfix (F_X12_tale_49L x2) fu) 0 (zwr τ 69 17 (flt 1 (p + 2))) = _
          unfold F_X12_tale_49
          rw [if_pos rfl]
