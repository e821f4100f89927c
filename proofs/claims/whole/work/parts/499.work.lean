/-! PURE: texts, a tale read -/
def chN (tp : Nat → Nat) (N i : Nat) : Option Nat := if i < N then some (tp i) else none
theorem chN_lt {tp : Nat → Nat} {N i b : Nat} (h : ∀ j, j < N → tp j < 256) (e : chN tp N i = some b) : b < 256 ∧ i < N := by
  unfold chN at e
  by_cases q : i < N
  · rw [if_pos q] at e
    cases e
    exact ⟨h i q, q⟩
  · rw [if_neg q] at e
    cases e
def flt (k p : Nat) : Int32 := (-1000 : Int32) * nI k - nI p
theorem flt_ne : ∀ k, k < 6 → ∀ p, p < 300 → ¬ (k ≠ 0 ∧ flt k p = 0) := by decide +kernel
theorem flt_n {k p : Nat} (h0 : k ≠ 0) (hk : k < 6) (hp : p < 300) : ¬ flt k p = 0 := fun q => flt_ne k hk p hp ⟨h0, q⟩
/-- the text on the class's tape, on the reference's -/
def TX (tp : Nat → Nat) (N : Nat) (σ : zSt) : Prop := N ≤ 260 ∧ σ.1 33 2 = nI N ∧ ∀ j, j < N → tp j < 256 ∧ σ.1 34 j = nI (tp j)
def TXm (tp : Nat → Nat) (N : Nat) (σ : zSt) : Prop := N ≤ 260 ∧ σ.1 69 16 = nI N ∧ ∀ j, j < N → tp j < 256 ∧ σ.1 76 j = sb (tp j)
theorem TX_fr {tp : Nat → Nat} {N : Nat} {σ τ : zSt} {L : List Nat} {S : List (Nat × Nat)} (h : TX tp N σ) (f : fr L S σ τ) (d : (!L.contains 33 && !S.contains (33, 2) && !L.contains 34 && S.all (fun q => q.1 != 34)) = true) : TX tp N τ := by
  simp only [Bool.and_eq_true, Bool.not_eq_true', List.contains_eq_mem, decide_eq_false_iff_not] at d
  obtain ⟨⟨⟨d1, d2⟩, d3⟩, d4⟩ := d
  refine ⟨h.1, (f.rd d1 d2).trans h.2.1, fun j hj => ?_⟩
  have r : τ.1 34 = σ.1 34 := f.row (by rw [Bool.and_eq_true]; exact ⟨by simpa using d3, d4⟩)
  rw [r]
  exact h.2.2 j hj
theorem TXm_fr {tp : Nat → Nat} {N : Nat} {σ τ : zSt} {L : List Nat} {S : List (Nat × Nat)} (h : TXm tp N σ) (f : fr L S σ τ) (d : (!L.contains 69 && !S.contains (69, 16) && !L.contains 76 && S.all (fun q => q.1 != 76)) = true) : TXm tp N τ := by
  simp only [Bool.and_eq_true, Bool.not_eq_true', List.contains_eq_mem, decide_eq_false_iff_not] at d
  obtain ⟨⟨⟨d1, d2⟩, d3⟩, d4⟩ := d
  refine ⟨h.1, (f.rd d1 d2).trans h.2.1, fun j hj => ?_⟩
  have r : τ.1 76 = σ.1 76 := f.row (by rw [Bool.and_eq_true]; exact ⟨by simpa using d3, d4⟩)
  rw [r]
  exact h.2.2 j hj
theorem T_chr {tp : Nat → Nat} {N i : Nat} {σ : zSt} (h : TX tp N σ) (hi : i < 2000) : F_X8_at (nI i) σ = some (e1 (chN tp N i), σ) := by
  have hN := h.1
  unfold F_X8_at F_X8_at_0 chN
  rw [if_neg (nI_pos (by omega)), h.2.1, if_le (by omega)]
  by_cases q : i < N
  · rw [if_neg (by omega), if_neg (by rw [show (260 : Int32) = nI 260 from rfl, nI_lep (by omega)]; omega), gd_n (by omega), nI_cl (by omega), if_pos q, (h.2.2 i q).2]
    rfl
  · rw [if_pos (by omega), if_neg q]
    rfl
theorem T_here {tp : Nat → Nat} {N p : Nat} {σ : zSt} (h : TXm tp N σ) (e15 : σ.1 69 15 = nI p) (hp : p < 2000) : F_X12_here σ = some (e1 (chN tp N p), σ) := by
  have hN := h.1
  unfold F_X12_here F_X12_here_0 chN
  rw [e15, h.2.1, if_le (by omega)]
  by_cases q : p < N
  · obtain ⟨a, b⟩ := h.2.2 p q
    rw [if_neg (by omega), gd_n (by omega), nI_cl (by omega), if_pos q, b, sb_255 _ a]
    rfl
  · rw [if_pos (by omega), if_neg q]
    rfl
theorem e1_lit {o : Option Nat} {c : Nat} (ho : ∀ b, o = some b → b < 256) (hc : c < 256) : (e1 o = nI c) = (o = some c) := by
  cases o with
  | none =>
    simp only [e1, reduceCtorEq, eq_iff_iff, iff_false]
    exact fun q => e1_n (k := c) (by omega) q.symm
  | some b =>
    have := ho b rfl
    simp only [e1, Option.some.injEq, nI_eqp (show b < 2147483648 ∧ c < 2147483648 by omega)]
theorem T_wrong {σ : zSt} {k p : Nat} : F_X12_wrongAt (nI k) (nI p) σ = some (0, zwr σ 69 17 (flt k p)) := rfl
theorem T_wrong1 {σ : zSt} {p : Nat} : F_X12_wrongAt 1 (nI p) σ = some (0, zwr σ 69 17 (flt 1 p)) := rfl
theorem T_wrong2 {σ : zSt} {p : Nat} : F_X12_wrongAt 2 (nI p) σ = some (0, zwr σ 69 17 (flt 2 p)) := rfl
theorem T_wrong3 {σ : zSt} {p : Nat} : F_X12_wrongAt 3 (nI p) σ = some (0, zwr σ 69 17 (flt 3 p)) := rfl
theorem T_wrong4 {σ : zSt} {p : Nat} : F_X12_wrongAt 4 (nI p) σ = some (0, zwr σ 69 17 (flt 4 p)) := rfl
theorem T_wrong5 {σ : zSt} {p : Nat} : F_X12_wrongAt 5 (nI p) σ = some (0, zwr σ 69 17 (flt 5 p)) := rfl
theorem T_flt1 {σ : zSt} {p : Nat} : F_X11_fault 1 (nI p) σ = some (flt 1 p, σ) := rfl
theorem T_flt3 {σ : zSt} {p : Nat} : F_X11_fault 3 (nI p) σ = some (flt 3 p, σ) := rfl
theorem T_flt4 {σ : zSt} {p : Nat} : F_X11_fault 4 (nI p) σ = some (flt 4 p, σ) := rfl
theorem g01_0 {α : Type} {x : Option α} : gd ((0 : Int32) = 0 ∨ (0 : Int32) = 1) x = x := gd_t (Or.inl rfl)
theorem g01_1 {α : Type} {x : Option α} : gd ((1 : Int32) = 0 ∨ (1 : Int32) = 1) x = x := gd_t (Or.inr rfl)
theorem T_takes {tp : Nat → Nat} {N p c : Nat} {σ : zSt} (h : TXm tp N σ) (e15 : σ.1 69 15 = nI p) (hp : p < 2000) (hc : c < 256) : F_X12_takes (nI c) σ = if chN tp N p = some c then some (1, zwr σ 69 15 (nI (p + 1))) else some (0, zwr σ 69 17 (flt 1 p)) := by
  unfold F_X12_takes F_X12_takes_0
  rw [T_here h e15 hp, bd_s, e15]
  have e : (e1 (chN tp N p) = nI c) = (chN tp N p = some c) := e1_lit (fun b hb => (chN_lt (fun j hj => (h.2.2 j hj).1) hb).1) hc
  by_cases q : chN tp N p = some c
  · rw [if_pos (by rw [e]; exact q), if_pos q, nm_s, nI_1]
  · rw [if_neg (by rw [e]; exact q), if_neg q, T_wrong1, bd_s, g01_0]
/-- letters and digits of a tale -/
def kindB (b : Nat) : Option Nat := if b = 103 then some 0 else if b = 114 then some 1 else if b = 111 then some 2 else if b = 119 then some 3 else if b = 115 then some 4 else if b = 107 then some 5 else none
def dgB (b : Nat) : Option Nat := if 48 ≤ b ∧ b ≤ 57 then some (b - 48) else none
def dgs (k : Nat) : Nat := if k ≤ 1 then 4 else if k = 5 then 3 else 8
theorem kindB_lt {b k : Nat} (h : kindB b = some k) : k < 6 := by
  unfold kindB at h
  repeat' split at h
  all_goals first | (cases h; done) | (cases h; decide)
theorem dgB_lt {b d : Nat} (h : dgB b = some d) : d < 10 ∧ b = d + 48 := by
  unfold dgB at h
  split at h
  · cases h
    omega
  · cases h
theorem T_kindOf {o : Option Nat} {σ : zSt} (ho : ∀ b, o = some b → b < 256) : F_X12_kindOf (e1 o) σ = some (e1 (o.bind kindB), σ) := by
  have l := fun c (hc : c < 256) => e1_lit (c := c) ho hc
  unfold F_X12_kindOf F_X12_kindOf_0
  rw [show (103 : Int32) = nI 103 from rfl, show (114 : Int32) = nI 114 from rfl, show (111 : Int32) = nI 111 from rfl, show (119 : Int32) = nI 119 from rfl, show (115 : Int32) = nI 115 from rfl, show (107 : Int32) = nI 107 from rfl]
  simp only [l 103 (by decide), l 114 (by decide), l 111 (by decide), l 119 (by decide), l 115 (by decide), l 107 (by decide)]
  cases o with
  | none => rfl
  | some b =>
    simp only [Option.some.injEq, Option.bind_some, kindB]
    by_cases q1 : b = 103
    · rw [if_pos q1, if_pos q1]; rfl
    rw [if_neg q1, if_neg q1]
    by_cases q2 : b = 114
    · rw [if_pos q2, if_pos q2]; rfl
    rw [if_neg q2, if_neg q2]
    by_cases q3 : b = 111
    · rw [if_pos q3, if_pos q3]; rfl
    rw [if_neg q3, if_neg q3]
    by_cases q4 : b = 119
    · rw [if_pos q4, if_pos q4]; rfl
    rw [if_neg q4, if_neg q4]
    by_cases q5 : b = 115
    · rw [if_pos q5, if_pos q5]; rfl
    rw [if_neg q5, if_neg q5]
    by_cases q6 : b = 107
    · rw [if_pos q6, if_pos q6]; rfl
    rw [if_neg q6, if_neg q6]
    rfl
theorem case6 {P : Nat → Prop} (h0 : P 0) (h1 : P 1) (h2 : P 2) (h3 : P 3) (h4 : P 4) (h5 : P 5) : ∀ k, k < 6 → P k := by
  intro k hk
  have e : k = 0 ∨ k = 1 ∨ k = 2 ∨ k = 3 ∨ k = 4 ∨ k = 5 := by omega
  rcases e with rfl | rfl | rfl | rfl | rfl | rfl <;> assumption
theorem T_digitsFor {σ : zSt} : ∀ k, k < 6 → F_X12_digitsFor (nI k) σ = some (nI (dgs k), σ) := case6 rfl rfl rfl rfl rfl rfl
theorem T_highest {σ : zSt} : ∀ k, k < 6 → F_X5_highest (nI k) σ = some (nI (dgs k - 1), σ) := by
  intro k hk
  have hb : bel (nI k) 6 := bel_t (by omega)
  unfold F_X5_highest F_X5_highest_0
  rw [T_isBelow_6, bd_s, bI_t hb, if_neg (show ¬ (1 : Int32) = 0 by decide), gd_n (by omega), nI_cl (by omega)]
  revert k
  exact fun k hk _ => case6 (P := fun k => some (zHi k, σ) = some (nI (dgs k - 1), σ)) rfl rfl rfl rfl rfl rfl k hk
theorem dgs_le : ∀ k, k < 6 → 1 ≤ dgs k ∧ dgs k ≤ 8 := by decide
/-- a place in a row of letters -/
def ixF (l : List Int32) (v : Int32) : Nat → Nat → Int32
  | 0, _ => -1
  | f + 1, i => if l.getD i 0 = v then nI i else ixF l v f (i + 1)
theorem ix_kind : ∀ b, b < 256 → ixF (zBy.getD 1 []) (sb b) 6 0 = e1 (kindB b) := by decide +kernel
theorem T_can {b : Nat} {σ : zSt} (hb : b < 256) : F_J1_canEncode_9a6ad (nI b) σ = some (1, σ) := by
  unfold F_J1_canEncode_9a6ad F_J1_canEncode_9a6ad_0
  rw [if_neg (nI_pos (by omega)), if_neg (by rw [show (255 : Int32) = nI 255 from rfl, nI_ltp (by omega)]; omega)]
theorem T_index3 {b : Nat} {σ : zSt} (hb : b < 256) : F_J0_indexOf_0f7a4_1003 (nI b) σ = some (e1 (kindB b), σ) := by
  have E : F_J1_indexOfChar_4cfef_1005 (nI b) 0 6 σ = some (e1 (kindB b), σ) := by
    unfold F_J1_indexOfChar_4cfef_1005 F_J1_indexOfChar_4cfef_1005_0
    rw [nm_s, ← ix_kind b hb]
    refine zfix_out (fun i => (nI i, σ)) (fun i => some (ixF (zBy.getD 1 []) (sb b) (6 - i) i, σ)) 6 (by decide) (fun i w hi ih => ?_) (fun w => ?_) 0 (by decide)
    · show F_J1_indexOfChar_4cfef_1005_7 6 (sb b) w (nI i) σ = _
      unfold F_J1_indexOfChar_4cfef_1005_7
      rw [if_neg (by rw [show (6 : Int32) = nI 6 from rfl, nI_lep (by omega)]; omega), gd_t (show vp_in (nI i) (([9, 6] : List Nat).getD 1 0) from vp_in_nI hi (by decide)), nI_cl (by omega), show 6 - i = (6 - (i + 1)) + 1 by omega, ixF, nm_s, nI_1, ih]
      by_cases q : (zBy.getD 1 []).getD i 0 = sb b
      · rw [if_pos q, if_pos q]
      · rw [if_neg q, if_neg q]
    · show F_J1_indexOfChar_4cfef_1005_7 6 (sb b) w (nI 6) σ = _
      unfold F_J1_indexOfChar_4cfef_1005_7
      rw [if_pos (show (6 : Int32) ≤ nI 6 by decide)]
      rfl
  unfold F_J0_indexOf_0f7a4_1003 F_J0_indexOf_0f7a4_1003_0 F_J0_indexOf_7cf53_1003 F_J0_indexOf_7cf53_1003_0
  have E2 : F_J0_length_8abf5_1003 σ = some (6, σ) := by
    unfold F_J0_length_8abf5_1003 F_J0_length_8abf5_1003_0 F_J0_coder_7d493_1003 F_J0_coder_7d493_1003_0
    rw [if_neg (show ¬ (1 : Int32) = 0 by decide), bd_s, sb_shr0]
  have E3 : F_J0_isLatin1_aae02_1003 σ = some (1, σ) := by
    unfold F_J0_isLatin1_aae02_1003 F_J0_isLatin1_aae02_1003_0
    rw [if_neg (show ¬ (1 : Int32) = 0 by decide), if_pos (show (0 : Int32) = 0 from rfl)]
  have E4 : F_J1_indexOf_4cfef_1005 (nI b) 0 6 σ = some (e1 (kindB b), σ) := by
    unfold F_J1_indexOf_4cfef_1005 F_J1_indexOf_4cfef_1005_0
    rw [T_can hb, bd_s, if_neg (show ¬ (1 : Int32) = 0 by decide), nm_s, nm_s, show jmax 0 0 = 0 from rfl, show jmin 6 6 = 6 from rfl, if_pos (show (0 : Int32) < 6 by decide), E, bd_s]
  rw [E3, bd_s, if_neg (show ¬ (1 : Int32) = 0 by decide), E2, bd_s, E4, bd_s, bd_s]
theorem ch_u16 : ∀ b, b < 256 → ((nI b).toUInt32 % 65536).toInt32 = nI b := by decide +kernel
/-- the place of a byte among a tale's letters -/
theorem T_letter {β : Type} {o : Option Nat} {σ : zSt} (ho : ∀ b, o = some b → b < 256) (K : Int32 → zSt → Option β) : (if 0 ≤ e1 o then bd (F_J0_indexOf_0f7a4_1003 (((e1 o).toUInt32 % 65536).toInt32) σ) (fun q11 s10 => K q11 s10) else K (-1) σ) = K (e1 (o.bind kindB)) σ := by
  cases o with
  | none =>
    rw [if_neg (show ¬ (0 : Int32) ≤ e1 none by decide)]
    rfl
  | some b =>
    have hb := ho b rfl
    rw [if_pos (show (0 : Int32) ≤ e1 (some b) from nI_pos' (by omega))]
    show bd (F_J0_indexOf_0f7a4_1003 (((nI b).toUInt32 % 65536).toInt32) σ) _ = _
    rw [ch_u16 b hb, T_index3 hb, bd_s]
    rfl
theorem dig_c : ∀ b, b < 256 → (dgB b = none → ((nI b - 48).toInt < 0 ∨ 10 ≤ (nI b - 48).toInt)) ∧ (∀ d, d < 10 → dgB b = some d → nI b - 48 = nI d) := by decide +kernel
theorem dig_o {o : Option Nat} (ho : ∀ b, o = some b → b < 256) : (o.bind dgB = none → ¬ bel (e1 o - 48) 10) ∧ ∀ d, o.bind dgB = some d → e1 o - 48 = nI d ∧ d < 10 := by
  cases o with
  | none =>
    refine ⟨fun _ q => ?_, fun d h => by cases h⟩
    exact absurd q.1 (by decide)
  | some b =>
    obtain ⟨a, c⟩ := dig_c b (ho b rfl)
    refine ⟨fun h q => ?_, fun d h => ?_⟩
    · have := a h
      have q1 : 0 ≤ (nI b - 48).toInt := q.1
      have q2 : (nI b - 48).toInt < 10 := q.2
      omega
    · have := (dgB_lt h).1
      exact ⟨c d this h, this⟩
/-- a tale read: fuel, where, how many so far, letters, digits; 0 or a FAULT -/
def tpr (tp : Nat → Nat) (N : Nat) : Nat → Nat → Nat → (Nat → Nat) → (Nat → Nat) → Int32 × Nat × (Nat → Nat) × (Nat → Nat)
  | 0, p, m, kd, dg => (flt 4 p, m, kd, dg)
  | f + 1, p, m, kd, dg => match (chN tp N p).bind kindB with
    | none => (flt 1 p, m, kd, dg)
    | some k => if 32 ≤ m then (flt 4 p, m, kd, dg) else match (chN tp N (p + 1)).bind dgB with
      | none => (flt 1 (p + 1), m, kd, dg)
      | some d => if dgs k ≤ d then (flt 3 (p + 1), m, kd, dg) else
        if p + 2 = N then (0, m + 1, fset kd m k, fset dg m d) else
        if chN tp N (p + 2) = some 44 then tpr tp N f (p + 3) (m + 1) (fset kd m k) (fset dg m d) else (flt 1 (p + 2), m + 1, fset kd m k, fset dg m d)
def ACT (r1 r2 m : Nat) (kd dg : Nat → Nat) (σ : zSt) : Prop := ∀ j, j < m → σ.1 r1 j = nI (kd j) ∧ σ.1 r2 j = nI (dg j) ∧ kd j < 6 ∧ dg j < dgs (kd j)
theorem ACT_s {r1 r2 m k d : Nat} {kd dg : Nat → Nat} {σ τ : zSt} (h : ACT r1 r2 m kd dg σ) (hk : k < 6) (hd : d < dgs k) (a : τ.1 r1 = upd (σ.1 r1) m (nI k)) (b : τ.1 r2 = upd (σ.1 r2) m (nI d)) : ACT r1 r2 (m + 1) (fset kd m k) (fset dg m d) τ := by
  intro j hj
  rw [a, b]
  by_cases q : j = m
  · subst q
    rw [pk_us, pk_us, fset_s, fset_s]
    exact ⟨rfl, rfl, hk, hd⟩
  · rw [pk_un q, pk_un q, fset_n q, fset_n q]
    exact h j (by omega)
theorem TX_b {tp : Nat → Nat} {N : Nat} {σ : zSt} (h : TX tp N σ) {i : Nat} : ∀ b, chN tp N i = some b → b < 256 := fun _ e => (chN_lt (fun j hj => (h.2.2 j hj).1) e).1
theorem TXm_b {tp : Nat → Nat} {N : Nat} {σ : zSt} (h : TXm tp N σ) {i : Nat} : ∀ b, chN tp N i = some b → b < 256 := fun _ e => (chN_lt (fun j hj => (h.2.2 j hj).1) e).1
theorem T_flt {σ : zSt} {k p : Nat} : F_X11_fault (nI k) (nI p) σ = some (flt k p, σ) := rfl
theorem T_readC {tp : Nat → Nat} {N : Nat} : ∀ f fu p m kd dg (σ : zSt), m + f = 33 → f < fu → p ≤ 3 * m → TX tp N σ → σ.1 44 2 = nI m → ACT 45 46 m kd dg σ → wp (zfix F_X7_read_9L fu (nI p, nI m, σ)) (fun a τ => a = (tpr tp N f p m kd dg).1 ∧ fr [45, 46] [(44, 2)] σ τ ∧ τ.1 44 2 = nI (tpr tp N f p m kd dg).2.1 ∧ (tpr tp N f p m kd dg).2.1 ≤ 32 ∧ ACT 45 46 (tpr tp N f p m kd dg).2.1 (tpr tp N f p m kd dg).2.2.1 (tpr tp N f p m kd dg).2.2.2 τ ∨ (33 ≤ m)) := by
  intro f
  induction f with
  | zero =>
    intro fu p m kd dg σ hm hf hp hT e hA
    obtain ⟨fu, rfl⟩ : ∃ q, fu = q + 1 := ⟨fu - 1, by omega⟩
    show wp (F_X7_read_9 (zfix F_X7_read_9L fu) (nI p) (nI m) σ) _
    unfold F_X7_read_9 F_X7_read_185
    rw [if_pos (by rw [show (32 : Int32) = nI 32 from rfl, nI_ltp (by omega)]; omega), T_flt4, bd_s]
    exact wp_some (Or.inr (by omega))
  | succ f ih =>
    intro fu p m kd dg σ hm hf hp hT e hA
    obtain ⟨fu, rfl⟩ : ∃ q, fu = q + 1 := ⟨fu - 1, by omega⟩
    show wp (F_X7_read_9 (zfix F_X7_read_9L fu) (nI p) (nI m) σ) _
    have hN := hT.1
    unfold F_X7_read_9
    rw [if_neg (by rw [show (32 : Int32) = nI 32 from rfl, nI_ltp (by omega)]; omega), T_chr hT (by omega), bd_s, T_letter (TX_b hT) (fun q11 s10 => F_X7_read_39 (zfix F_X7_read_9L fu) (nI p) (nI m) q11 s10)]
    unfold F_X7_read_39 F_X7_read_46 F_X7_read_61 F_X7_read_89 F_X7_read_107 F_X7_read_170 tpr
    cases hk : (chN tp N p).bind kindB with
    | none =>
      rw [if_neg (show ¬ (0 : Int32) ≤ e1 none by decide), T_flt1, bd_s]
      exact wp_some (Or.inl ⟨rfl, fr.rf, e, by show m ≤ 32; omega, hA⟩)
    | some k =>
      have hk6 : k < 6 := by
        obtain ⟨b, hb, hb2⟩ := Option.bind_eq_some_iff.mp hk
        exact kindB_lt hb2
      rw [if_pos (show (0 : Int32) ≤ e1 (some k) from nI_pos' (by omega)), e, show (32 : Int32) = nI 32 from rfl, if_lt (by omega)]
      by_cases q32 : 32 ≤ m
      · rw [if_neg (by omega), T_flt4, bd_s]
        simp only [q32, ↓reduceIte]
        exact wp_some (Or.inl ⟨rfl, fr.rf, e, by show m ≤ 32; omega, hA⟩)
      rw [if_pos (by omega), show nI p + (1 : Int32) = nI (p + 1) from nI_add p 1, T_chr hT (by omega), bd_s]
      simp only [q32, ↓reduceIte]
      obtain ⟨d1, d2⟩ := dig_o (o := chN tp N (p + 1)) (TX_b hT)
      rw [nm_s, T_isBelow_10, bd_s]
      cases hd : (chN tp N (p + 1)).bind dgB with
      | none =>
        rw [bI_f (d1 hd), if_pos rfl, T_flt1, bd_s]
        exact wp_some (Or.inl ⟨rfl, fr.rf, e, by show m ≤ 32; omega, hA⟩)
      | some d =>
        obtain ⟨d3, d4⟩ := d2 d hd
        have hb10 : bel (nI d) 10 := bel_t (by omega)
        have hp1 : p + 1 < N := by
          obtain ⟨b, hb, hb2⟩ := Option.bind_eq_some_iff.mp hd
          exact (chN_lt (fun j hj => (hT.2.2 j hj).1) hb).2
        obtain ⟨g1, g2⟩ := dgs_le k hk6
        rw [d3, bI_t hb10, if_neg (show ¬ (1 : Int32) = 0 by decide), show e1 (some k) = nI k from rfl, T_highest k hk6, bd_s, if_le (by omega)]
        by_cases qd : dgs k ≤ d
        · rw [if_neg (by omega), T_flt3, bd_s]
          simp only [qd, ↓reduceIte]
          exact wp_some (Or.inl ⟨rfl, fr.rf, e, by show m ≤ 32; omega, hA⟩)
        rw [if_pos (by omega)]
        simp (disch := omega) only [qd, e, gd_n, nI_cl, nm_s, zwr_r, upd_r, Nat.reduceEqDiff, ↓reduceIte, nI_1, show ∀ x : Nat, nI x + (2 : Int32) = nI (x + 2) from fun x => nI_add x 2, hT.2.1, nI_eqp]
        have f1 : fr [45, 46] [(44, 2)] σ (zwr (zwr (zwr σ 45 m (nI k)) 46 m (nI d)) 44 2 (nI (m + 1))) := (((fr_w (Or.inl (by decide))).w (Or.inl (by decide))).w (Or.inr (by decide)))
        have A1 : ACT 45 46 (m + 1) (fset kd m k) (fset dg m d) (zwr (zwr (zwr σ 45 m (nI k)) 46 m (nI d)) 44 2 (nI (m + 1))) := ACT_s hA hk6 (by omega) rfl rfl
        by_cases qN : p + 2 = N
        · rw [if_pos qN, if_pos qN]
          exact wp_some (Or.inl ⟨rfl, f1, rfl, by show m + 1 ≤ 32; omega, A1⟩)
        rw [if_neg qN, if_neg qN, T_chr (TX_fr hT f1 (by decide)) (by omega), bd_s, show (44 : Int32) = nI 44 from rfl, if_e1 (fun b hb => by have := TX_b hT b hb; omega) (by decide)]
        by_cases qc : chN tp N (p + 2) = some 44
        · rw [if_pos qc, if_pos qc]
          refine wp_mono (ih fu (p + 2 + 1) (m + 1) (fset kd m k) (fset dg m d) _ (by omega) (by omega) (by omega) (TX_fr hT f1 (by decide)) (by simp only [zwr_r, upd_r, Nat.reduceEqDiff, ↓reduceIte]) A1) (fun a τ h => ?_)
          rcases h with ⟨a1, a2, a3⟩ | h
          · exact Or.inl ⟨a1, f1.tr a2, a3⟩
          · exact Or.inl (by omega)
        · rw [if_neg qc, if_neg qc, T_flt1, bd_s]
          exact wp_some (Or.inl ⟨rfl, f1, by simp only [zwr_r, upd_r, Nat.reduceEqDiff, ↓reduceIte], by show m + 1 ≤ 32; omega, A1⟩)
theorem T_digitM {tp : Nat → Nat} {N p : Nat} {σ : zSt} (h : TXm tp N σ) (e15 : σ.1 69 15 = nI p) (hp : p < 2000) : F_X12_isDigit σ = some (bI ((chN tp N p).bind dgB ≠ none), σ) := by
  unfold F_X12_isDigit F_X12_isDigit_0
  rw [T_here h e15 hp, bd_s, T_here h e15 hp, bd_s]
  cases ho : chN tp N p with
  | none =>
    rw [if_pos (show e1 none < 48 by decide), bI_f (fun r => r rfl)]
  | some b =>
    have hb := TXm_b h b ho
    show (if nI b < (48 : Int32) then some ((0 : Int32), σ) else if (57 : Int32) < nI b then some ((0 : Int32), σ) else some ((1 : Int32), σ)) = some (bI (dgB b ≠ none), σ)
    rw [show (48 : Int32) = nI 48 from rfl, show (57 : Int32) = nI 57 from rfl, if_lt (by omega), if_lt (by omega)]
    by_cases q1 : b < 48
    · rw [if_pos q1, bI_f]
      intro r
      refine r ?_
      unfold dgB
      rw [if_neg (by omega)]
    · rw [if_neg q1]
      by_cases q2 : 57 < b
      · rw [if_pos q2, bI_f]
        intro r
        refine r ?_
        unfold dgB
        rw [if_neg (by omega)]
      · rw [if_neg q2, bI_t]
        unfold dgB
        rw [if_pos (by omega)]
        exact fun r => by cases r
theorem T_readsAct {tp : Nat → Nat} {N p m : Nat} {σ : zSt} (h : TXm tp N σ) (e15 : σ.1 69 15 = nI p) (hp : p < 1000) (e42 : σ.1 69 42 = nI m) (hm : m ≤ 32) : F_X12_readsAct σ = match (chN tp N p).bind kindB with
    | none => some (0, zwr σ 69 17 (flt 1 p))
    | some k => if 32 ≤ m then some (0, zwr σ 69 17 (flt 4 p)) else match (chN tp N (p + 1)).bind dgB with
      | none => some (0, zwr (zwr σ 69 15 (nI (p + 1))) 69 17 (flt 1 (p + 1)))
      | some d => if dgs k ≤ d then some (0, zwr (zwr σ 69 15 (nI (p + 1))) 69 17 (flt 3 (p + 1))) else some (1, zwr (zwr (zwr (zwr (zwr σ 69 15 (nI (p + 1))) 69 15 (nI (p + 2))) 90 m (nI k)) 91 m (nI d)) 69 42 (nI (m + 1))) := by
  unfold F_X12_readsAct F_X12_readsAct_0
  rw [T_here h e15 (by omega), bd_s, T_kindOf (TXm_b h), bd_s]
  cases hk : (chN tp N p).bind kindB with
  | none =>
    rw [if_pos (show e1 none = -1 from rfl), e15, T_wrong1, bd_s, g01_0]
  | some k =>
    have hk6 : k < 6 := by
      obtain ⟨b, hb, hb2⟩ := Option.bind_eq_some_iff.mp hk
      exact kindB_lt hb2
    rw [if_neg (show ¬ e1 (some k) = -1 from e1_n (by omega)), e42, show (32 : Int32) = nI 32 from rfl, if_eqI (by omega)]
    by_cases q32 : 32 ≤ m
    · rw [if_pos (by omega), e15, T_wrong4, bd_s, g01_0]
      simp only [q32, ↓reduceIte]
    rw [if_neg (by omega), e15, nm_s, nI_1]
    simp only [q32, ↓reduceIte]
    have f1 : fr [] [(69, 15)] σ (zwr σ 69 15 (nI (p + 1))) := fr_w (Or.inr (by decide))
    have h1 := TXm_fr h f1 (by decide)
    have e15' : (zwr σ 69 15 (nI (p + 1))).1 69 15 = nI (p + 1) := by simp only [zwr_r, upd_r, Nat.reduceEqDiff, ↓reduceIte]
    rw [T_digitM h1 e15' (by omega), bd_s]
    cases hd : (chN tp N (p + 1)).bind dgB with
    | none =>
      rw [bI_f (fun r => r rfl), if_pos rfl, e15', T_wrong1, bd_s, g01_0]
    | some d =>
      obtain ⟨d3, d4⟩ := (dig_o (o := chN tp N (p + 1)) (TXm_b h)).2 d hd
      obtain ⟨g1, g2⟩ := dgs_le k hk6
      rw [bI_t (fun r => by cases r), if_neg (show ¬ (1 : Int32) = 0 by decide), T_here h1 e15' (by omega), bd_s, nm_s, d3, show e1 (some k) = nI k from rfl, T_digitsFor k hk6, bd_s, if_lt (by omega)]
      by_cases qd : dgs k ≤ d
      · rw [if_neg (by omega), e15', T_wrong3, bd_s, g01_0]
        simp only [qd, ↓reduceIte]
      · rw [if_pos (by omega)]
        simp (disch := omega) only [qd, zwr_r, upd_r, Nat.reduceEqDiff, ↓reduceIte, nm_s, e42, gd_n, nI_cl, nI_1]
theorem q01 {q : Int32} (h : q = 0 ∨ q = 1) : (if q = 0 then (0 : Int32) else 1) = q := by
  rcases h with rfl | rfl <;> rfl
/-- what the reference's reading leaves -/
def RDM (r1 r2 cs : Nat) (res : Int32 × Nat × (Nat → Nat) × (Nat → Nat)) (g : Int32) (σ τ : zSt) : Prop := fr [r1, r2] [(69, 15), (69, 17), (69, cs)] σ τ ∧ τ.1 69 cs = nI res.2.1 ∧ res.2.1 ≤ 32 ∧ ACT r1 r2 res.2.1 res.2.2.1 res.2.2.2 τ ∧ ((res.1 = 0 ∧ g = 1) ∨ (¬ res.1 = 0 ∧ g = 0 ∧ τ.1 69 17 = res.1))
theorem T_readM {tp : Nat → Nat} {N : Nat} (x2 : Int32) : ∀ f fu p m kd dg (σ : zSt), m + f = 33 → f < fu → p ≤ 3 * m → m ≤ 32 → TXm tp N σ → σ.1 69 15 = nI p → σ.1 69 42 = nI m → ACT 90 91 m kd dg σ → ∃ g τ, bd (F_X12_readsAct σ) (fun q s => zfix (F_X12_tale_49L x2) fu (q, s)) = F_X12_tale_89 x2 g τ ∧ RDM 90 91 42 (tpr tp N f p m kd dg) g σ τ := by
  intro f
  induction f with
  | zero => intro fu p m kd dg σ hm hf hp hm32; omega
  | succ f ih =>
    intro fu p m kd dg σ hm hf hp hm32 hT e15 e42 hA
    obtain ⟨fu, rfl⟩ : ∃ q, fu = q + 1 := ⟨fu - 1, by omega⟩
    have hN := hT.1
    have stop : ∀ (v : Int32) (τ : zSt), bd (some ((0 : Int32), zwr τ 69 17 v)) (fun q s => zfix (F_X12_tale_49L x2) (fu + 1) (q, s)) = F_X12_tale_89 x2 0 (zwr τ 69 17 v) := by
      intro v τ
      rw [bd_s]
      show F_X12_tale_49 x2 (zfix (F_X12_tale_49L x2) fu) 0 (zwr τ 69 17 v) = _
      unfold F_X12_tale_49
      rw [if_pos rfl]
    rw [T_readsAct hT e15 (by omega) e42 hm32]
    unfold tpr
    cases hk : (chN tp N p).bind kindB with
    | none =>
      refine ⟨0, _, stop _ _, fr_w (Or.inr (by decide)), ?_, hm32, hA, Or.inr ⟨flt_n (by decide) (by decide) (by omega), rfl, zwr_at⟩⟩
      exact e42
    | some k =>
      have hk6 : k < 6 := by
        obtain ⟨b, hb, hb2⟩ := Option.bind_eq_some_iff.mp hk
        exact kindB_lt hb2
      by_cases q32 : 32 ≤ m
      · simp only [q32, ↓reduceIte]
        exact ⟨0, _, stop _ _, fr_w (Or.inr (by decide)), e42, hm32, hA, Or.inr ⟨flt_n (by decide) (by decide) (by omega), rfl, zwr_at⟩⟩
      simp only [q32, ↓reduceIte]
      cases hd : (chN tp N (p + 1)).bind dgB with
      | none =>
        exact ⟨0, _, stop _ _, (fr_w (Or.inr (by decide))).w (Or.inr (by decide)), e42, hm32, hA, Or.inr ⟨flt_n (by decide) (by decide) (by omega), rfl, zwr_at⟩⟩
      | some d =>
        have hp1 : p + 1 < N := by
          obtain ⟨b, hb, hb2⟩ := Option.bind_eq_some_iff.mp hd
          exact (chN_lt (fun j hj => (hT.2.2 j hj).1) hb).2
        by_cases qd : dgs k ≤ d
        · simp only [qd, ↓reduceIte]
          exact ⟨0, _, stop _ _, (fr_w (Or.inr (by decide))).w (Or.inr (by decide)), e42, hm32, hA, Or.inr ⟨flt_n (by decide) (by decide) (by omega), rfl, zwr_at⟩⟩
        simp only [qd, ↓reduceIte]
        have f1 : fr [90, 91] [(69, 15), (69, 17), (69, 42)] σ (zwr (zwr (zwr (zwr (zwr σ 69 15 (nI (p + 1))) 69 15 (nI (p + 2))) 90 m (nI k)) 91 m (nI d)) 69 42 (nI (m + 1))) := ((((fr_w (Or.inr (by decide))).w (Or.inr (by decide))).w (Or.inl (by decide))).w (Or.inl (by decide))).w (Or.inr (by decide))
        have A1 : ACT 90 91 (m + 1) (fset kd m k) (fset dg m d) (zwr (zwr (zwr (zwr (zwr σ 69 15 (nI (p + 1))) 69 15 (nI (p + 2))) 90 m (nI k)) 91 m (nI d)) 69 42 (nI (m + 1))) := ACT_s hA hk6 (by omega) rfl rfl
        generalize hτ : zwr (zwr (zwr (zwr (zwr σ 69 15 (nI (p + 1))) 69 15 (nI (p + 2))) 90 m (nI k)) 91 m (nI d)) 69 42 (nI (m + 1)) = τ at f1 A1
        have t15 : τ.1 69 15 = nI (p + 2) := by
          rw [← hτ]
          simp only [zwr_r, upd_r, Nat.reduceEqDiff, ↓reduceIte]
        have t42 : τ.1 69 42 = nI (m + 1) := by
          rw [← hτ]
          simp only [zwr_r, upd_r, Nat.reduceEqDiff, ↓reduceIte]
        have hT1 := TXm_fr hT f1 (by decide)
        rw [bd_s]
        show ∃ g υ, F_X12_tale_49 x2 (zfix (F_X12_tale_49L x2) fu) 1 τ = _ ∧ _
        unfold F_X12_tale_49 F_X12_tale_84 F_X12_tale_85
        rw [if_neg (show ¬ (1 : Int32) = 0 by decide), t15, hT1.2.1, if_le (by omega)]
        by_cases qN : p + 2 = N
        · rw [if_pos (by omega), if_pos qN]
          exact ⟨1, τ, rfl, f1, t42, by show m + 1 ≤ 32; omega, A1, Or.inl ⟨rfl, rfl⟩⟩
        rw [if_neg (by omega), if_neg qN, show (44 : Int32) = nI 44 from rfl, T_takes hT1 t15 (by omega) (by decide)]
        by_cases qc : chN tp N (p + 2) = some 44
        · rw [if_pos qc, if_pos qc, bd_s, if_neg (show ¬ (1 : Int32) = 0 by decide)]
          have f2 : fr [90, 91] [(69, 15), (69, 17), (69, 42)] τ (zwr τ 69 15 (nI (p + 2 + 1))) := fr_w (Or.inr (by decide))
          have A2 : ACT 90 91 (m + 1) (fset kd m k) (fset dg m d) (zwr τ 69 15 (nI (p + 2 + 1))) := A1
          have hA3 : (zwr τ 69 15 (nI (p + 2 + 1))).1 69 42 = nI (m + 1) := t42
          have hT2 := TXm_fr hT1 f2 (by decide)
          have h15 : (zwr τ 69 15 (nI (p + 2 + 1))).1 69 15 = nI (p + 3) := by simp only [zwr_r, upd_r, Nat.reduceEqDiff, ↓reduceIte]
          by_cases q33 : m + 1 ≤ 32
          · obtain ⟨g, υ, u1, u2⟩ := ih fu (p + 3) (m + 1) (fset kd m k) (fset dg m d) _ (by omega) (by omega) (by omega) q33 hT2 h15 hA3 A2
            refine ⟨g, υ, ?_, (f1.tr f2).tr u2.1, u2.2⟩
            rw [← u1]
            obtain ⟨r, s, e, hr⟩ : ∃ r s, F_X12_readsAct (zwr τ 69 15 (nI (p + 2 + 1))) = some (r, s) ∧ (r = 0 ∨ r = 1) := by
              rw [T_readsAct hT2 h15 (by omega) hA3 q33]
              cases (chN tp N (p + 3)).bind kindB with
              | none => exact ⟨_, _, rfl, Or.inl rfl⟩
              | some k2 =>
                simp only
                split
                · exact ⟨_, _, rfl, Or.inl rfl⟩
                · cases (chN tp N (p + 3 + 1)).bind dgB with
                  | none => exact ⟨_, _, rfl, Or.inl rfl⟩
                  | some d2 =>
                    simp only
                    split
                    · exact ⟨_, _, rfl, Or.inl rfl⟩
                    · exact ⟨_, _, rfl, Or.inr rfl⟩
            rw [e, bd_s, bd_s, q01 hr, nm_s]
          · omega
        · rw [if_neg qc, if_neg qc, bd_s, if_pos rfl]
          obtain ⟨fu, rfl⟩ : ∃ q, fu = q + 1 := ⟨fu - 1, by omega⟩
          refine ⟨0, zwr τ 69 17 (flt 1 (p + 2)), ?_, f1.w (Or.inr (by decide)), t42, by show m + 1 ≤ 32; omega, A1, Or.inr ⟨flt_n (by decide) (by decide) (by omega), rfl, zwr_at⟩⟩
          show F_X12_tale_49 x2 (zfix (F_X12_tale_49L x2) fu) 0 (zwr τ 69 17 (flt 1 (p + 2))) = _
          unfold F_X12_tale_49
          rw [if_pos rfl]
/-! PURE: the seeker of the class -/
/-- those below n of which P holds, as bits -/
def bset (P : Nat → Bool) : Nat → Nat
  | 0 => 0
  | n + 1 => bset P n ||| (if P n then 2 ^ n else 0)
theorem bset_lt (P : Nat → Bool) : ∀ n, n ≤ 8 → bset P n < 256 := by
  intro n
  induction n with
  | zero => intro _; exact Nat.zero_lt_succ 255
  | succ n ih =>
    intro h
    unfold bset
    refine or_lt (ih (by omega)) ?_
    split
    · exact pow_lt8 (by omega)
    · decide
theorem bset_bit (P : Nat → Bool) : ∀ n k, (bset P n).testBit k = (decide (k < n) && P k) := by
  intro n
  induction n with
  | zero => intro k; simp [bset]
  | succ n ih =>
    intro k
    unfold bset
    rw [Nat.testBit_or, ih k]
    by_cases h : P n = true
    · rw [if_pos h, Nat.testBit_two_pow]
      by_cases q : n = k
      · subst q
        simp [h]
      · have e : decide (k < n + 1) = decide (k < n) := by
          by_cases r : k < n
          · rw [decide_eq_true r, decide_eq_true (by omega)]
          · rw [decide_eq_false r, decide_eq_false (by omega)]
        rw [e]
        simp [q]
    · rw [if_neg h, Nat.zero_testBit, Bool.or_false]
      by_cases q : k = n
      · subst q
        simp [h]
      · have e : decide (k < n + 1) = decide (k < n) := by
          by_cases r : k < n
          · rw [decide_eq_true r, decide_eq_true (by omega)]
          · rw [decide_eq_false r, decide_eq_false (by omega)]
        rw [e]
theorem bset_s {P : Nat → Bool} {n : Nat} (hn : n < 8) {v : Int32} (hv : v = if P n then (1 : Int32) <<< (nI n &&& 31) else 0) : nI (bset P n) ||| v = nI (bset P (n + 1)) := by
  rw [hv, bset]
  by_cases h : P n = true
  · rw [if_pos h, if_pos h, bit_1 n hn, nI_or]
  · rw [if_neg h, if_neg h, ← nI_0, nI_or]
theorem bt_nI {m i : Nat} (hi : i < 32) : bt (nI m) i = m.testBit i := by
  unfold bt
  show (BitVec.ofNat 32 m).getLsbD i = _
  rw [BitVec.getLsbD_ofNat, decide_eq_true hi, Bool.true_and]
theorem tb_hi {m i : Nat} (hm : m < 256) (hi : 8 ≤ i) : m.testBit i = false := by
  refine Nat.testBit_lt_two_pow (Nat.lt_of_lt_of_le hm ?_)
  exact Nat.pow_le_pow_right (n := 2) (by decide) hi
theorem tb255 {i : Nat} : Nat.testBit 255 i = decide (i < 8) := by
  rcases Nat.lt_or_ge i 8 with h | h
  · exact (by decide +kernel : ∀ i, i < 8 → Nat.testBit 255 i = decide (i < 8)) i h
  · rw [tb_hi (by decide) h, decide_eq_false (by omega)]
/-- what is in f and not in m -/
theorem nI_andn {f m : Nat} (hf : f < 256) (hm : m < 256) : nI f &&& (nI m ^^^ (-1)) = nI (f &&& (m ^^^ 255)) := by
  apply b_ext
  intro i hi
  rw [b_and, b_xor, b_m1 i hi, bt_nI hi, bt_nI hi, bt_nI hi, Nat.testBit_and, Nat.testBit_xor, tb255]
  rcases Nat.lt_or_ge i 8 with h | h
  · rw [decide_eq_true h]
  · rw [tb_hi hf h, Bool.false_and, Bool.false_and]
theorem nI_nand {f m : Nat} (hf : f < 256) (hm : m < 256) : (nI m ^^^ (-1)) &&& nI f = nI (f &&& (m ^^^ 255)) := by
  rw [← nI_andn hf hm]
  apply b_ext
  intro i _
  rw [b_and, b_and, Bool.and_comm]
theorem and_lt {a b : Nat} (h : a < 256) : a &&& b < 256 := Nat.lt_of_le_of_lt Nat.and_le_left h
theorem nI_e0 {a : Nat} (h : a < 2147483648) : (nI a = 0) = (a = 0) := by
  rw [show (0 : Int32) = nI 0 from rfl, nI_eqp (by omega)]
/-- all of a are in O -/
def subB (a O : Nat) : Bool := decide (a &&& (O ^^^ 255) = 0)
theorem subB_i {a O : Nat} (ha : a < 256) : subB a O = true ↔ ∀ k, k < 8 → a.testBit k = true → O.testBit k = true := by
  unfold subB
  rw [decide_eq_true_eq]
  constructor
  · intro h k hk h1
    have := congrArg (fun x => Nat.testBit x k) h
    simp only [Nat.testBit_and, Nat.testBit_xor, tb255, Nat.zero_testBit, h1, decide_eq_true hk, Bool.true_and] at this
    cases r : O.testBit k with
    | true => rfl
    | false => rw [r] at this; cases this
  · intro h
    apply Nat.eq_of_testBit_eq
    intro k
    rw [Nat.testBit_and, Nat.testBit_xor, tb255, Nat.zero_testBit]
    rcases Nat.lt_or_ge k 8 with q | q
    · cases r : a.testBit k with
      | false => rfl
      | true =>
        rw [h k q r, decide_eq_true q]
        rfl
    · rw [tb_hi ha q, Bool.false_and]
def dgt (B b : Nat) : Nat := B / 3 ^ b % 3
/-- the KEYS he has -/
def hasK (W : zWo) (O B k : Nat) : Bool := match wKey W k with
  | none => false
  | some x => if x < 8 then O.testBit x else decide (dgt B (x - 8) = 2)
def hadW (W : zWo) (O B : Nat) : Nat := bset (hasK W O B) 8
def ploW (W : zWo) (i : Nat) : Nat := bset (fun p => wIs W p && decide (islW W p = i)) 8
def wfrW (W : zWo) (i : Nat) : Nat := bset (fun t => decide (0 < wWay W (4 * i + t))) 4
def lokB (W : zWo) (O B p : Nat) : Bool := match wLok W p with
  | none => true
  | some k => hasK W O B k
def freeW (W : zWo) (O : Nat) : Nat := bset (fun p => subB (ancs W p) O) 8
def unlW (W : zWo) (O B : Nat) : Nat := bset (lokB W O B) 8
def bykW (W : zWo) (O B : Nat) : Nat := (freeW W O &&& (O ^^^ 255)) &&& unlW W O B
def bywW (W : zWo) (O B : Nat) : Nat := if dgt B 1 = 0 then (freeW W O &&& (O ^^^ 255)) &&& (wWet W ^^^ 255) else 0
def bysW (W : zWo) (O B : Nat) : Nat := if dgt B 2 = 0 then wWet W &&& (O ^^^ 255) else 0
def givW (W : zWo) (B : Nat) : Nat := bset (fun b => decide (dgt B b = 0) && decide (keysW W (8 + b) ≠ 0)) 3
def ravW (B : Nat) : Nat := if dgt B 0 = 0 then 15 else 0
/-- the digits that can stand behind a letter, as bits -/
def canW (W : zWo) (O B i : Nat) : Nat → Nat
  | 0 => wfrW W i
  | 1 => ravW B &&& (255 - 2 ^ i)
  | 2 => bykW W O B &&& ploW W i
  | 3 => bywW W O B &&& ploW W i
  | 4 => bysW W O B &&& ploW W i
  | 5 => givW W B
  | _ => 0
/-- what must be opened -/
def golF (W : zWo) : Nat → Nat → Nat
  | 0, _ => 0
  | n + 1, p => 2 ^ p ||| match wFli W p with
    | none => 0
    | some q => golF W n q
def golW (W : zWo) : Nat := golF W 8 (wHea W)
theorem golF_lt {W : zWo} (hW : WOK W) : ∀ n p, p < 8 → golF W n p < 256 := by
  intro n
  induction n with
  | zero => intro p _; exact Nat.zero_lt_succ 255
  | succ n ih =>
    intro p hp
    unfold golF
    refine or_lt (pow_lt8 hp) ?_
    cases q : wFli W p with
    | none => exact Nat.zero_lt_succ 255
    | some r => exact ih r (wIs_lt (hW.fli p r hp q).2)
theorem golF_n {W : zWo} (hW : WOK W) : ∀ j p, p < 8 → 8 ≤ p + j → ∀ n m, j ≤ n → j ≤ m → golF W n p = golF W m p := by
  intro j
  induction j with
  | zero => intro p hp h; omega
  | succ j ih =>
    intro p hp h n m hn hm
    obtain ⟨n, rfl⟩ : ∃ q, n = q + 1 := ⟨n - 1, by omega⟩
    obtain ⟨m, rfl⟩ : ∃ q, m = q + 1 := ⟨m - 1, by omega⟩
    unfold golF
    cases q : wFli W p with
    | none => rfl
    | some r =>
      obtain ⟨a, b⟩ := hW.fli p r hp q
      show 2 ^ p ||| golF W n r = 2 ^ p ||| golF W m r
      rw [ih r (wIs_lt b) (by omega) n m (by omega) (by omega)]
theorem golF_s {W : zWo} (hW : WOK W) {p : Nat} (hp : p < 8) : golF W 8 p = 2 ^ p ||| match wFli W p with | none => 0 | some q => golF W 8 q := by
  rw [golF]
  cases q : wFli W p with
  | none => rfl
  | some r =>
    obtain ⟨a, b⟩ := hW.fli p r hp q
    show 2 ^ p ||| golF W 7 r = 2 ^ p ||| golF W 8 r
    rw [golF_n hW 7 r (wIs_lt b) (by omega) 7 8 (by decide) (by decide)]
theorem golW_lt {W : zWo} (hW : WOK W) : golW W < 256 := golF_lt hW 8 _ hW.hea
/-- what the seeker has learned, with what it looks up in the world -/
def SK (W : zWo) (σ : zSt) : Prop :=
  (∀ i, i < 4 → σ.1 18 i = nI (ploW W i)) ∧ (∀ i, i < 4 → σ.1 19 i = nI (wfrW W i)) ∧ (∀ p, p < 8 → σ.1 20 p = nI (ancs W p)) ∧ (∀ k, k < 8 → σ.1 21 k = e1 (wKey W k)) ∧ (∀ b, b < 3 → σ.1 22 b = nI (keysW W (8 + b))) ∧ σ.1 17 6 = nI (golW W) ∧
  (∀ p, p < 8 → σ.1 5 p = e1 (wLok W p)) ∧ σ.1 1 7 = nI (wWet W) ∧ ∀ j, j < 16 → σ.1 2 j = nI (wWay W j)
theorem SK_fr {W : zWo} {σ τ : zSt} {L : List Nat} {S : List (Nat × Nat)} (h : SK W σ) (f : fr L S σ τ) (d : ([18, 19, 20, 21, 22, 5, 2].all (fun c => !L.contains c && S.all (fun q => q.1 != c)) && [(17, 6), (1, 7)].all (fun q => !L.contains q.1 && !S.contains q)) = true) : SK W τ := by
  have g : eqOn [18, 19, 20, 21, 22, 5, 2] [(17, 6), (1, 7)] σ τ := f.eqOn d
  obtain ⟨h1, h2, h3, h4, h5, h6, h7, h8, h9⟩ := h
  have r : ∀ c, c ∈ [18, 19, 20, 21, 22, 5, 2] → τ.1 c = σ.1 c := g.1
  exact ⟨fun i hi => (congrFun (r 18 (by decide)) i).trans (h1 i hi), fun i hi => (congrFun (r 19 (by decide)) i).trans (h2 i hi), fun i hi => (congrFun (r 20 (by decide)) i).trans (h3 i hi), fun i hi => (congrFun (r 21 (by decide)) i).trans (h4 i hi), fun i hi => (congrFun (r 22 (by decide)) i).trans (h5 i hi), (g.2 (17, 6) (by decide)).trans h6, fun i hi => (congrFun (r 5 (by decide)) i).trans (h7 i hi), (g.2 (1, 7) (by decide)).trans h8, fun i hi => (congrFun (r 2 (by decide)) i).trans (h9 i hi)⟩
theorem T_daysTo {σ : zSt} {W : zWo} {a b : Nat} (h : ∀ j, j < 16 → σ.1 2 j = nI (wWay W j)) (ha : a < 4) (hb : b < 4) : F_X5_daysTo (nI a) (nI b) σ = some (nI (wWay W (4 * a + b)), σ) := by
  have g1 : bel (nI a) 4 := bel_t (by omega)
  have g2 : bel (nI b) 4 := bel_t (by omega)
  unfold F_X5_daysTo F_X5_daysTo_0
  rw [T_isBelow_4, bd_s, bI_t g1, if_neg (show ¬ (1 : Int32) = 0 by decide), T_isBelow_4, bd_s, bI_t g2, if_neg (show ¬ (1 : Int32) = 0 by decide), m4, nI_add, gd_n (by omega), nI_cl (by omega), h _ (by omega)]
theorem keyb_bset (W : zWo) (x : Nat) : ∀ n, keyb W x n = bset (fun k => decide (wKey W k = some x)) n := by
  intro n
  induction n with
  | zero => rfl
  | succ n ih =>
    unfold keyb bset
    rw [ih]
    by_cases q : wKey W n = some x
    · rw [if_pos q, if_pos (decide_eq_true q)]
    · rw [if_neg q, if_neg (by simpa using q)]
theorem T_mouths {W : zWo} {σ : zSt} (hW : ∀ k, k < 8 → ∀ x, wKey W k = some x → x < 16) (h : ∀ k, k < 8 → σ.1 21 k = e1 (wKey W k)) : wp (F_X5_learnMouths σ) (fun _ τ => fr [22] [] σ τ ∧ ∀ b, b < 3 → τ.1 22 b = nI (keysW W (8 + b))) := by
  unfold F_X5_learnMouths F_X5_learnMouths_0
  refine wp_for (fun b s => s.1 = nI b ∧ fr [22] [] σ s.2 ∧ ∀ c, c < b → s.2.1 22 c = nI (keysW W (8 + c))) 3 (by decide) (fun b w s hb hI hw => ?_) (fun w s hI => ?_) ⟨rfl, fr.rf, fun c hc => absurd hc (Nat.not_lt_zero c)⟩
  · obtain ⟨x, τ⟩ := s
    obtain ⟨i1, i2, i3⟩ := hI
    simp only at i1 i2 i3
    subst i1
    show wp (F_X5_learnMouths_2 w (nI b) τ) _
    unfold F_X5_learnMouths_2
    rw [if_neg (by rw [show (3 : Int32) = nI 3 from rfl, nI_lep (by omega)]; omega), gd_n (by omega), nI_cl (by omega), nm_s]
    refine wp_for (fun k s => s.1 = nI k ∧ fr [22] [] σ s.2 ∧ (∀ c, c < b → s.2.1 22 c = nI (keysW W (8 + c))) ∧ s.2.1 22 b = nI (keyb W (8 + b) k)) 8 (by decide) (fun k w2 s hk hI hw2 => ?_) (fun w2 s hI => ?_) ⟨rfl, i2.w (Or.inl (by decide)), fun c hc => ?_, ?_⟩
    · obtain ⟨y, υ⟩ := s
      obtain ⟨j1, j2, j3, j4⟩ := hI
      simp only at j1 j2 j3 j4
      subst j1
      show wp (F_X5_learnMouths_16 w (nI b) w2 (nI k) υ) _
      have e21 : υ.1 21 k = e1 (wKey W k) := (j2.rd0 (by decide)).trans (h k hk)
      have v : (if e1 (wKey W k) = ((8 : Int32) + nI b) then ((1 : Int32) <<< (nI k &&& 31)) else (0 : Int32)) = if (decide (wKey W k = some (8 + b))) then (1 : Int32) <<< (nI k &&& 31) else 0 := by
        have e8 : (8 : Int32) + nI b = nI (8 + b) := nI_add 8 b
        rw [e8]
        by_cases q : wKey W k = some (8 + b)
        · rw [if_pos ((e1_eq (by omega) (hW k hk)).mpr q), if_pos (decide_eq_true q)]
        · rw [if_neg (fun r => q ((e1_eq (by omega) (hW k hk)).mp r)), if_neg (by simpa using q)]
      unfold F_X5_learnMouths_16
      rw [if_neg (by rw [show (8 : Int32) = nI 8 from rfl, nI_lep (by omega)]; omega), gd_n (by omega), gd_n (by omega), nI_cl (by omega), e21, v, nm_s, gd_n (by omega), nI_cl (by omega), nm_s, nm_s, j4, nI_1]
      refine hw2 _ ⟨rfl, j2.w (Or.inl (by decide)), fun c hc => ?_, ?_⟩
      · show upd (υ.1 22) b _ c = _
        rw [pk_un (by omega)]
        exact j3 c hc
      · show upd (υ.1 22) b _ b = _
        rw [pk_us, keyb_bset, keyb_bset]
        exact bset_s hk rfl
    · obtain ⟨y, υ⟩ := s
      obtain ⟨j1, j2, j3, j4⟩ := hI
      simp only at j1 j2 j3 j4
      subst j1
      show wp (F_X5_learnMouths_16 w (nI b) w2 (nI 8) υ) _
      unfold F_X5_learnMouths_16 F_X5_learnMouths_57
      rw [if_pos (show (8 : Int32) ≤ nI 8 by decide), nm_s, nI_1]
      refine hw _ ⟨rfl, j2, fun c hc => ?_⟩
      by_cases q : c = b
      · rw [q]
        exact j4
      · exact j3 c (by omega)
    · show upd (τ.1 22) b _ c = _
      rw [pk_un (by omega)]
      exact i3 c hc
    · show upd (τ.1 22) b _ b = _
      rw [pk_us]
      rfl
  · obtain ⟨x, τ⟩ := s
    obtain ⟨i1, i2, i3⟩ := hI
    simp only at i1 i2 i3
    subst i1
    show wp (F_X5_learnMouths_2 w (nI 3) τ) _
    unfold F_X5_learnMouths_2
    rw [if_pos (show (3 : Int32) ≤ nI 3 by decide)]
    exact wp_some ⟨i2, i3⟩
theorem T_learn {W : zWo} {σ : zSt} (hW : WOK W) (hC : EC 1 2 W σ) : wp (F_X5_learn σ) (fun _ τ => fr [18, 19, 20, 21, 22] [(17, 6)] σ τ ∧ SK W τ) := by
  have c8 : (8 : Int32) = nI 8 := rfl
  have c4 : (4 : Int32) = nI 4 := rfl
  unfold F_X5_learn F_X5_learn_0
  refine wp_for (fun i s => s.1 = nI i ∧ fr [18, 19] [] σ s.2 ∧ ∀ c, c < i → s.2.1 18 c = nI (ploW W c) ∧ s.2.1 19 c = nI (wfrW W c)) 4 (by decide) (fun i w s hi hI hw => ?_) (fun w s hI => ?_) ⟨rfl, fr.rf, fun c hc => absurd hc (Nat.not_lt_zero c)⟩
  · obtain ⟨x, τ⟩ := s
    obtain ⟨i1, i2, i3⟩ := hI
    simp only at i1 i2 i3
    subst i1
    show wp (F_X5_learn_2 w (nI i) τ) _
    unfold F_X5_learn_2
    rw [if_neg (by rw [c4, nI_lep (by omega)]; omega), gd_n (by omega), nI_cl (by omega), nm_s]
    refine wp_for (fun p s => s.1 = nI p ∧ fr [18, 19] [] σ s.2 ∧ (∀ c, c < i → s.2.1 18 c = nI (ploW W c) ∧ s.2.1 19 c = nI (wfrW W c)) ∧ s.2.1 18 i = nI (bset (fun p => wIs W p && decide (islW W p = i)) p)) 8 (by decide) (fun p w2 s hp hI hw2 => ?_) (fun w2 s hI => ?_) ⟨rfl, i2.w (Or.inl (by decide)), fun c hc => ⟨?_, (i3 c hc).2⟩, ?_⟩
    · obtain ⟨y, υ⟩ := s
      obtain ⟨j1, j2, j3, j4⟩ := hI
      simp only at j1 j2 j3 j4
      subst j1
      show wp (F_X5_learn_16 w (nI i) w2 (nI p) υ) _
      have hC' := j2.EC (by decide) hC
      have tail : ∀ v : Int32, (v = if (wIs W p && decide (islW W p = i)) then (1 : Int32) <<< (nI p &&& 31) else 0) → wp (w2 (nI (p + 1), zwr υ 18 i (nI (bset (fun p => wIs W p && decide (islW W p = i)) p) ||| v))) (fun _ τ => fr [18, 19, 20, 21, 22] [(17, 6)] σ τ ∧ SK W τ) := by
        intro v hv
        refine hw2 _ ⟨rfl, j2.w (Or.inl (by decide)), fun c hc => ⟨?_, (j3 c hc).2⟩, ?_⟩
        · show upd (υ.1 18) i _ c = _
          rw [pk_un (by omega)]
          exact (j3 c hc).1
        · show upd (υ.1 18) i _ i = _
          rw [pk_us]
          exact bset_s hp hv
      unfold F_X5_learn_16 F_X5_learn_58 F_X5_learn_59
      rw [if_neg (by rw [c8, nI_lep (by omega)]; omega), gd_n (by omega), T_isTold hW hC', bd_s, nI_cl (by omega), j4]
      by_cases q : wIs W p = true
      · rw [bI_t ((isT_n (by omega)).mpr q), if_neg (show ¬ (1 : Int32) = 0 by decide), t_islandOf hW hC' hp, bd_s, nm_s, gd_n (by omega), nm_s, nm_s, nI_1, if_eqI (show islW W p < 2147483648 ∧ i < 2147483648 by have := islW_lt hW hp; omega)]
        refine tail _ ?_
        rw [q, Bool.true_and]
        by_cases r : islW W p = i
        · rw [if_pos r, if_pos (decide_eq_true r)]
        · rw [if_neg r, if_neg (by simpa using r)]
      · rw [bI_f (fun r => q ((isT_n (by omega)).mp r)), if_pos rfl, gd_n (by omega), nm_s, nm_s, nI_1]
        refine tail _ ?_
        rw [Bool.eq_false_iff.mpr q, Bool.false_and]
        rfl
    · obtain ⟨y, υ⟩ := s
      obtain ⟨j1, j2, j3, j4⟩ := hI
      simp only at j1 j2 j3 j4
      subst j1
      show wp (F_X5_learn_16 w (nI i) w2 (nI 8) υ) _
      unfold F_X5_learn_16 F_X5_learn_67
      rw [if_pos (show (8 : Int32) ≤ nI 8 by decide), gd_n (by omega), nI_cl (by omega), nm_s]
      refine wp_for (fun t s => s.1 = nI t ∧ fr [18, 19] [] σ s.2 ∧ (∀ c, c < i → s.2.1 18 c = nI (ploW W c) ∧ s.2.1 19 c = nI (wfrW W c)) ∧ s.2.1 18 i = nI (ploW W i) ∧ s.2.1 19 i = nI (bset (fun t => decide (0 < wWay W (4 * i + t))) t)) 4 (by decide) (fun t w3 s ht hI hw3 => ?_) (fun w3 s hI => ?_) ⟨rfl, j2.w (Or.inl (by decide)), fun c hc => ⟨(j3 c hc).1, ?_⟩, j4, ?_⟩
      · obtain ⟨z, ω⟩ := s
        obtain ⟨l1, l2, l3, l4, l5⟩ := hI
        simp only at l1 l2 l3 l4 l5
        subst l1
        show wp (F_X5_learn_76 w (nI i) w3 (nI t) ω) _
        have hC' := l2.EC (by decide) hC
        have hw30 : wWay W (4 * i + t) ≤ 30 := hW.1 _ (by omega)
        unfold F_X5_learn_76
        rw [if_neg (by rw [c4, nI_lep (by omega)]; omega), gd_n (by omega), T_daysTo hC'.1 hi ht, bd_s, nm_s, gd_n (by omega), nI_cl (by omega), nm_s, nm_s, l5, nI_1]
        refine hw3 _ ⟨rfl, l2.w (Or.inl (by decide)), fun c hc => ⟨(l3 c hc).1, ?_⟩, l4, ?_⟩
        · show upd (ω.1 19) i _ c = _
          rw [pk_un (by omega)]
          exact (l3 c hc).2
        · show upd (ω.1 19) i _ i = _
          rw [pk_us]
          refine bset_s (by omega) ?_
          rw [show (0 : Int32) = nI 0 from rfl, if_le (by omega)]
          by_cases r : 0 < wWay W (4 * i + t)
          · rw [if_neg (by omega), if_pos (decide_eq_true r)]
          · rw [if_pos (by omega), if_neg (by simpa using r)]
      · obtain ⟨z, ω⟩ := s
        obtain ⟨l1, l2, l3, l4, l5⟩ := hI
        simp only at l1 l2 l3 l4 l5
        subst l1
        show wp (F_X5_learn_76 w (nI i) w3 (nI 4) ω) _
        unfold F_X5_learn_76 F_X5_learn_112
        rw [if_pos (show (4 : Int32) ≤ nI 4 by decide), nm_s, nI_1]
        refine hw _ ⟨rfl, l2, fun c hc => ?_⟩
        by_cases q : c = i
        · rw [q]
          exact ⟨l4, l5⟩
        · exact l3 c (by omega)
      · show upd (υ.1 19) i _ c = _
        rw [pk_un (by omega)]
        exact (j3 c hc).2
      · show upd (υ.1 19) i _ i = _
        rw [pk_us]
        rfl
    · show upd (τ.1 18) i _ c = _
      rw [pk_un (by omega)]
      exact (i3 c hc).1
    · show upd (τ.1 18) i _ i = _
      rw [pk_us]
      rfl
  · obtain ⟨x, τ⟩ := s
    obtain ⟨i1, i2, i3⟩ := hI
    simp only at i1 i2 i3
    subst i1
    show wp (F_X5_learn_2 w (nI 4) τ) _
    unfold F_X5_learn_2 F_X5_learn_118
    rw [if_pos (show (4 : Int32) ≤ nI 4 by decide)]
    refine wp_for (fun p s => s.1 = nI p ∧ fr [18, 19, 20] [] σ s.2 ∧ (∀ c, c < 4 → s.2.1 18 c = nI (ploW W c) ∧ s.2.1 19 c = nI (wfrW W c)) ∧ ∀ q, q < p → s.2.1 20 q = nI (ancs W q)) 8 (by decide) (fun p w2 s hp hI hw2 => ?_) (fun w2 s hI => ?_) ⟨rfl, i2.mono (by decide), i3, fun q hq => absurd hq (Nat.not_lt_zero q)⟩
    · obtain ⟨y, υ⟩ := s
      obtain ⟨j1, j2, j3, j4⟩ := hI
      simp only at j1 j2 j3 j4
      subst j1
      show wp (F_X5_learn_120 w2 (nI p) υ) _
      have hC' := j2.EC (by decide) hC
      unfold F_X5_learn_120
      rw [if_neg (by rw [c8, nI_lep (by omega)]; omega), t_around hW hC' hp, bd_s, gd_n (by omega), nI_cl (by omega), nm_s, nm_s, nI_1]
      refine hw2 _ ⟨rfl, j2.w (Or.inl (by decide)), j3, fun q hq => ?_⟩
      show upd (υ.1 20) p _ q = _
      by_cases r : q = p
      · rw [r, pk_us]
      · rw [pk_un r]
        exact j4 q (by omega)
    · obtain ⟨y, υ⟩ := s
      obtain ⟨j1, j2, j3, j4⟩ := hI
      simp only at j1 j2 j3 j4
      subst j1
      show wp (F_X5_learn_120 w2 (nI 8) υ) _
      unfold F_X5_learn_120 F_X5_learn_146
      rw [if_pos (show (8 : Int32) ≤ nI 8 by decide), nm_s, va_cpn]
      have hC' := j2.EC (by decide) hC
      have f1 : fr [18, 19, 20, 21, 22] [(17, 6)] σ (zrow υ 21 (cpn (υ.1 7) (υ.1 21) 8)) := (j2.mono (by decide)).z (by decide)
      have k21 : ∀ k, k < 8 → (zrow υ 21 (cpn (υ.1 7) (υ.1 21) 8)).1 21 k = e1 (wKey W k) := by
        intro k hk
        rw [zrow_c, cpn_in hk]
        exact hC'.2.2.2.2.2.1 k hk
      refine wp_bd2 (T_mouths (fun k hk x hx => key16 hW hk x hx) k21) (fun _ ω hω => ?_)
      obtain ⟨g1, g2⟩ := hω
      have f2 : fr [18, 19, 20, 21, 22] [(17, 6)] σ ω := f1.tr (g1.mono (by decide))
      rw [nm_s]
      have f3 : fr [18, 19, 20, 21, 22] [(17, 6)] σ (zwr ω 17 6 0) := f2.w (Or.inr (by decide))
      have hC3 := f3.EC (by decide) hC
      have e8 : (zwr ω 17 6 0).1 1 8 = nI (wHea W) := hC3.2.2.2.2.2.2.2.2.1
      rw [e8]
      have base : ∀ s : zSt, fr [18, 19, 20, 21, 22] [(17, 6)] (zwr ω 17 6 0) s → (∀ c, c ∈ [18, 19, 20, 21, 22] → s.1 c = ω.1 c) → s.1 17 6 = nI (golW W) → fr [18, 19, 20, 21, 22] [(17, 6)] σ s ∧ SK W s := by
        intro s hs hr he
        have hCs := (f3.tr hs).EC (by decide) hC
        refine ⟨f3.tr hs, fun c hc => ?_, fun c hc => ?_, fun p hp => ?_, fun k hk => ?_, fun b hb => ?_, he, hCs.2.2.2.1, hCs.2.2.2.2.2.2.2.1, hCs.1⟩
        · rw [hr 18 (by decide), g1.row (c := 18) (by decide)]
          exact (j3 c hc).1
        · rw [hr 19 (by decide), g1.row (c := 19) (by decide)]
          exact (j3 c hc).2
        · rw [hr 20 (by decide), g1.row (c := 20) (by decide)]
          exact j4 p hp
        · rw [hr 21 (by decide), g1.row (c := 21) (by decide)]
          exact k21 k hk
        · rw [hr 22 (by decide)]
          exact g2 b hb
      have key : ∀ j p f k a (s : zSt), p < 8 → 8 ≤ p + j → k + j ≤ 8 → j + 1 < f → a < 256 → s.1 17 6 = nI a → EC 1 2 W s → wp (zfix F_X5_learn_183L f (nI p, nI k, s)) (fun _ t => fr [] [(17, 6)] s t ∧ t.1 17 6 = nI (a ||| golF W 8 p)) := by
        intro j
        induction j with
        | zero => intro p f k a s hp h; omega
        | succ j ih =>
          intro p f k a s hp h hk hf ha es hCs
          obtain ⟨f, rfl⟩ : ∃ q, f = q + 1 := ⟨f - 1, by omega⟩
          show wp (F_X5_learn_183 (zfix F_X5_learn_183L f) (nI p) (nI k) s) _
          have hb : bel (nI p) 8 := bel_t (by omega)
          have e6 : s.1 6 p = e1 (wFli W p) := hCs.2.2.2.2.1 p hp
          have fs : fr [] [(17, 6)] s (zwr s 17 6 (nI (a ||| 2 ^ p))) := fr_w (Or.inr (by decide))
          unfold F_X5_learn_183
          rw [if_neg (by rw [c8, nI_lep (by omega)]; omega), T_isBelow_8, bd_s, bI_t hb, if_neg (show ¬ (1 : Int32) = 0 by decide), es, bit_1 p hp, nI_or, nm_s, gd_n (by omega), nI_cl (by omega), nm_s, nm_s, nI_1, show (zwr s 17 6 (nI (a ||| 2 ^ p))).1 6 p = e1 (wFli W p) from e6, golF_s hW hp]
          cases q : wFli W p with
          | none =>
            obtain ⟨f, rfl⟩ : ∃ q, f = q + 1 := ⟨f - 1, by omega⟩
            show wp (F_X5_learn_183 (zfix F_X5_learn_183L f) (-1) (nI (k + 1)) (zwr s 17 6 (nI (a ||| 2 ^ p)))) _
            unfold F_X5_learn_183
            rw [T_isBelow_8, bd_s, bI_f bel_m1, if_pos (show (0 : Int32) = 0 from rfl)]
            have fin : wp (some ((), zwr s 17 6 (nI (a ||| 2 ^ p)))) (fun _ t => fr [] [(17, 6)] s t ∧ t.1 17 6 = nI (a ||| (2 ^ p ||| 0))) := wp_some ⟨fs, by rw [Nat.or_zero]; simp only [zwr_r, upd_r, Nat.reduceEqDiff, ↓reduceIte]⟩
            by_cases z : (8 : Int32) ≤ nI (k + 1)
            · rw [if_pos z]
              exact fin
            · rw [if_neg z]
              exact fin
          | some r =>
            obtain ⟨b1, b2⟩ := hW.fli p r hp q
            refine wp_mono (ih r f (k + 1) (a ||| 2 ^ p) _ (wIs_lt b2) (by omega) (by omega) (by omega) (or_lt ha (pow_lt8 hp)) (by simp only [zwr_r, upd_r, Nat.reduceEqDiff, ↓reduceIte]) (fs.EC (by decide) hCs)) (fun _ t ht => ⟨fs.tr ht.1, ?_⟩)
            rw [ht.2, Nat.or_assoc]
      refine wp_mono (key 8 (wHea W) zlim 0 0 (zwr ω 17 6 0) hW.hea (by omega) (by decide) (by show 9 < 1000000; decide) (by decide) (by simp only [zwr_r, upd_r, Nat.reduceEqDiff, ↓reduceIte]; rfl) hC3) (fun _ t ht => base t (ht.1.mono (by decide)) (fun c hc => ?_) ?_)
      · have hcc : c ≠ 17 := by
          intro q
          rw [q] at hc
          revert hc
          decide
        refine (ht.1.row ?_).trans (zwr_n hcc)
        simp [Ne.symm hcc]
      · rw [ht.2, Nat.zero_or]
        rfl
