/-! PURE: the law, the class reads its text -/
def TXc (tp : Nat → Nat) (N : Nat) (σ : zSt) : Prop := N ≤ 240 ∧ σ.1 35 10 = nI N ∧ ∀ j, j < N → tp j < 256 ∧ σ.1 42 j = nI (tp j)
theorem TXc_b {tp : Nat → Nat} {N : Nat} {σ : zSt} (h : TXc tp N σ) {i : Nat} : ∀ b, chN tp N i = some b → b < 256 := fun _ e => (chN_lt (fun j hj => (h.2.2 j hj).1) e).1
theorem chN_in {tp : Nat → Nat} {N i b : Nat} (e : chN tp N i = some b) : i < N := by
  unfold chN at e
  by_cases q : i < N
  · exact q
  · rw [if_neg q] at e
    cases e
theorem T_cHere {tp : Nat → Nat} {N p : Nat} {σ : zSt} (h : TXc tp N σ) (e : σ.1 35 11 = nI p) (hp : p < 2000) : F_X1_here σ = some (e1 (chN tp N p), σ) := by
  have hN := h.1
  unfold F_X1_here F_X1_here_0 chN
  rw [e, if_neg (nI_pos (by omega)), h.2.1, if_le (by omega)]
  by_cases q : p < N
  · rw [if_neg (by omega), if_neg (by rw [show (240 : Int32) = nI 240 from rfl, nI_lep (by omega)]; omega), gd_n (by omega), nI_cl (by omega), if_pos q, (h.2.2 p q).2]
    rfl
  · rw [if_pos (by omega), if_neg q]
    rfl
theorem T_cWrong1 {p : Nat} {σ : zSt} (e : σ.1 35 11 = nI p) : F_X1_wrong 1 σ = some (0, zwr σ 35 12 (flt 1 p)) := by
  unfold F_X1_wrong F_X1_wrong_0
  rw [e]
  rfl
theorem T_cWrong2 {p : Nat} {σ : zSt} (e : σ.1 35 11 = nI p) : F_X1_wrong 2 σ = some (0, zwr σ 35 12 (flt 2 p)) := by
  unfold F_X1_wrong F_X1_wrong_0
  rw [e]
  rfl
theorem T_cWrong4 {p : Nat} {σ : zSt} (e : σ.1 35 11 = nI p) : F_X1_wrong 4 σ = some (0, zwr σ 35 12 (flt 4 p)) := by
  unfold F_X1_wrong F_X1_wrong_0
  rw [e]
  rfl
theorem T_cWrong5 {p : Nat} {σ : zSt} (e : σ.1 35 11 = nI p) : F_X1_wrong 5 σ = some (0, zwr σ 35 12 (flt 5 p)) := by
  unfold F_X1_wrong F_X1_wrong_0
  rw [e]
  rfl
theorem T_cSign {tp : Nat → Nat} {N p c : Nat} {σ : zSt} (h : TXc tp N σ) (e : σ.1 35 11 = nI p) (hp : p < 2000) (hc : c < 256) : F_X1_readSign (nI c) σ = if chN tp N p = some c then some (1, zwr (zwr σ 35 12 (flt 1 p)) 35 11 (nI (p + 1))) else some (0, zwr (zwr σ 35 12 (flt 1 p)) 35 11 (nI p)) := by
  have hN := h.1
  have k : F_X1_readSign_46 0 σ = some (0, zwr (zwr σ 35 12 (flt 1 p)) 35 11 (nI p)) := by
    unfold F_X1_readSign_46
    rw [nm_s, if_pos rfl, nm_s, nm_s, g01_0, zwr_ne (by decide), e, show nI p + (0 : Int32) = nI p from nI_add p 0]
    rfl
  unfold F_X1_readSign F_X1_readSign_0 F_X1_readSign_45 chN
  rw [e, if_neg (nI_pos (by omega)), h.2.1, if_le (by omega)]
  by_cases q : p < N
  · rw [if_neg (by omega), if_neg (by rw [show (240 : Int32) = nI 240 from rfl, nI_lep (by omega)]; omega), gd_n (by omega), nI_cl (by omega), if_pos q, (h.2.2 p q).2]
    have := (h.2.2 p q).1
    by_cases z : tp p = c
    · rw [if_pos (by rw [z]), z, if_pos rfl, nm_s, nm_s, if_neg (show ¬ (1 : Int32) = 0 by decide), nm_s, nm_s, g01_1, zwr_ne (by decide), e, nI_1]
      rfl
    · rw [if_neg (show ¬ some (tp p) = some c from fun w => z (by cases w; rfl)), if_neg (by rw [nI_eqp (by omega)]; exact z), nm_s, nm_s, if_pos rfl, nm_s, nm_s, g01_0, zwr_ne (by decide), e, show nI p + (0 : Int32) = nI p from nI_add p 0]
      rfl
  · rw [if_pos (by omega), if_neg q, if_neg (by exact fun w => by cases w), k]
theorem T_cPut {s : Nat} {x y : Int32} {σ : zSt} (e : σ.1 35 2 = nI s) (hs : s < 240) : F_X1_put x y σ = some (nI s, zwr (zwr (zwr σ 36 s x) 37 s y) 35 2 (nI (s + 1))) := by
  unfold F_X1_put F_X1_put_0
  rw [e, if_neg (nI_pos (by omega)), if_pos (by rw [show (240 : Int32) = nI 240 from rfl, nI_ltp (by omega)]; omega), gd_n (by omega), nI_cl (by omega), nm_s, zwr_n (by decide), e, gd_n (by omega), nI_cl (by omega), nm_s, zwr_n (by decide), zwr_n (by decide), e, nI_1, nm_s, zwr_at, show nI (s + 1) - (1 : Int32) = nI s from pk_sub (a := s + 1) (b := 1) (by omega)]
theorem ix_let : ∀ b, b < 256 → ixF (zBy.getD 0 []) (sb b) 9 0 = e1 (letB b) := by decide +kernel
theorem letB_lt {b k : Nat} (h : letB b = some k) : k < 9 := by
  unfold letB at h
  repeat' split at h
  all_goals first | (cases h; decide) | cases h
theorem T_index2 {b : Nat} {σ : zSt} (hb : b < 256) : F_J0_indexOf_0f7a4_1002 (nI b) σ = some (e1 (letB b), σ) := by
  have E : F_J1_indexOfChar_4cfef_1004 (nI b) 0 9 σ = some (e1 (letB b), σ) := by
    unfold F_J1_indexOfChar_4cfef_1004 F_J1_indexOfChar_4cfef_1004_0
    rw [nm_s, ← ix_let b hb]
    refine zfix_out (fun i => (nI i, σ)) (fun i => some (ixF (zBy.getD 0 []) (sb b) (9 - i) i, σ)) 9 (by decide) (fun i w hi ih => ?_) (fun w => ?_) 0 (by decide)
    · show F_J1_indexOfChar_4cfef_1004_7 9 (sb b) w (nI i) σ = _
      unfold F_J1_indexOfChar_4cfef_1004_7
      rw [if_neg (by rw [show (9 : Int32) = nI 9 from rfl, nI_lep (by omega)]; omega), gd_t (show vp_in (nI i) (([9, 6] : List Nat).getD 0 0) from vp_in_nI hi (by decide)), nI_cl (by omega), show 9 - i = (9 - (i + 1)) + 1 by omega, ixF, nm_s, nI_1, ih]
      by_cases q : (zBy.getD 0 []).getD i 0 = sb b
      · rw [if_pos q, if_pos q]
      · rw [if_neg q, if_neg q]
    · show F_J1_indexOfChar_4cfef_1004_7 9 (sb b) w (nI 9) σ = _
      unfold F_J1_indexOfChar_4cfef_1004_7
      rw [if_pos (show (9 : Int32) ≤ nI 9 by decide)]
      rfl
  unfold F_J0_indexOf_0f7a4_1002 F_J0_indexOf_0f7a4_1002_0 F_J0_indexOf_7cf53_1002 F_J0_indexOf_7cf53_1002_0
  have E2 : F_J0_length_8abf5_1002 σ = some (9, σ) := by
    unfold F_J0_length_8abf5_1002 F_J0_length_8abf5_1002_0 F_J0_coder_7d493_1002 F_J0_coder_7d493_1002_0
    rw [if_neg (show ¬ (1 : Int32) = 0 by decide), bd_s, sb_shr0]
  have E3 : F_J0_isLatin1_aae02_1002 σ = some (1, σ) := by
    unfold F_J0_isLatin1_aae02_1002 F_J0_isLatin1_aae02_1002_0
    rw [if_neg (show ¬ (1 : Int32) = 0 by decide), if_pos (show (0 : Int32) = 0 from rfl)]
  have E4 : F_J1_indexOf_4cfef_1004 (nI b) 0 9 σ = some (e1 (letB b), σ) := by
    unfold F_J1_indexOf_4cfef_1004 F_J1_indexOf_4cfef_1004_0
    rw [T_can hb, bd_s, if_neg (show ¬ (1 : Int32) = 0 by decide), nm_s, nm_s, show jmax 0 0 = 0 from rfl, show jmin 9 9 = 9 from rfl, if_pos (show (0 : Int32) < 9 by decide), E, bd_s]
  rw [E3, bd_s, if_neg (show ¬ (1 : Int32) = 0 by decide), E2, bd_s, E4, bd_s, bd_s]
/-- the place of a byte among the law's letters -/
theorem T_letter2 {β : Type} {o : Option Nat} {σ : zSt} (ho : ∀ b, o = some b → b < 256) (K : Int32 → zSt → Option β) : (if 0 ≤ e1 o then bd (F_J0_indexOf_0f7a4_1002 (((e1 o).toUInt32 % 65536).toInt32) σ) (fun q11 s10 => K q11 s10) else K (-1) σ) = K (e1 (o.bind letB)) σ := by
  cases o with
  | none =>
    rw [if_neg (show ¬ (0 : Int32) ≤ e1 none by decide)]
    rfl
  | some b =>
    have hb := ho b rfl
    rw [if_pos (show (0 : Int32) ≤ e1 (some b) from nI_pos' (by omega))]
    show bd (F_J0_indexOf_0f7a4_1002 (((nI b).toUInt32 % 65536).toInt32) σ) _ = _
    rw [ch_u16 b hb, T_index2 hb, bd_s]
    rfl
theorem flt_le : ∀ k, k < 6 → ∀ p, p < 300 → flt k p ≤ 0 := by decide +kernel
/-- what the class's reading changes: nothing below s -/
def cfr (s : Nat) (σ τ : zSt) : Prop := fr [36, 37] [(35, 2), (35, 8), (35, 11), (35, 12)] σ τ ∧ ∀ j, j < s → τ.1 36 j = σ.1 36 j ∧ τ.1 37 j = σ.1 37 j
theorem cfr.rf {s : Nat} {σ : zSt} : cfr s σ σ := ⟨fr.rf, fun _ _ => ⟨rfl, rfl⟩⟩
theorem cfr.tr {s : Nat} {σ τ υ : zSt} (h : cfr s σ τ) (g : cfr s τ υ) : cfr s σ υ := ⟨h.1.tr g.1, fun j hj => ⟨(g.2 j hj).1.trans (h.2 j hj).1, (g.2 j hj).2.trans (h.2 j hj).2⟩⟩
theorem cfr.dn {s s' : Nat} {σ τ : zSt} (h : cfr s σ τ) (g : s' ≤ s) : cfr s' σ τ := ⟨h.1, fun j hj => h.2 j (by omega)⟩
theorem cfr_w {s j : Nat} {v : Int32} {σ : zSt} (h : (35, j) ∈ ([(35, 2), (35, 8), (35, 11), (35, 12)] : List (Nat × Nat))) : cfr s σ (zwr σ 35 j v) := ⟨fr_w (Or.inr h), fun _ _ => ⟨by rw [zwr_n (by decide)], by rw [zwr_n (by decide)]⟩⟩
theorem TXc_fr {tp : Nat → Nat} {N s : Nat} {σ τ : zSt} (h : TXc tp N σ) (f : cfr s σ τ) : TXc tp N τ := by
  refine ⟨h.1, (f.1.rd (by decide) (by decide)).trans h.2.1, fun j hj => ?_⟩
  rw [f.1.row (c := 42) (by decide)]
  exact h.2.2 j hj
/-- the class's place in the text and in the code -/
def CP (tp : Nat → Nat) (N p s : Nat) (σ : zSt) : Prop := TXc tp N σ ∧ σ.1 35 11 = nI p ∧ σ.1 35 2 = nI s ∧ p ≤ N ∧ s ≤ p ∧ (σ.1 35 8 = 0 ∨ σ.1 35 8 = 1)
theorem CP.here {tp : Nat → Nat} {N p s : Nat} {σ : zSt} (h : CP tp N p s σ) : F_X1_here σ = some (e1 (chN tp N p), σ) := T_cHere h.1 h.2.1 (by have := h.1.1; have := h.2.2.2.1; omega)
theorem CP.b {tp : Nat → Nat} {N p s i : Nat} {σ : zSt} (h : CP tp N p s σ) : ∀ b, chN tp N i = some b → b < 256 := TXc_b h.1
theorem CP.eq {tp : Nat → Nat} {N p s i c : Nat} {σ : zSt} (h : CP tp N p s σ) (hc : c < 256) : (e1 (chN tp N i) = nI c) = (chN tp N i = some c) := e1_lit h.b hc
theorem CP.step {tp : Nat → Nat} {N p s b : Nat} {σ : zSt} (h : CP tp N p s σ) (hb : chN tp N p = some b) : CP tp N (p + 1) s (zwr σ 35 11 (nI (p + 1))) ∧ cfr s σ (zwr σ 35 11 (nI (p + 1))) := by
  have f : cfr s σ (zwr σ 35 11 (nI (p + 1))) := cfr_w (by decide)
  have := chN_in hb
  have h5 := h.2.2.2.2.1
  exact ⟨⟨TXc_fr h.1 f, zwr_at, by rw [zwr_ne (by decide)]; exact h.2.2.1, by omega, by omega, by rw [zwr_ne (by decide)]; exact h.2.2.2.2.2⟩, f⟩
