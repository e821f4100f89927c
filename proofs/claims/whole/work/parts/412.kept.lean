/-! PURE: keep, undo -/
def cpn (f g : Nat → Int32) (n : Nat) : Nat → Int32 := fun k => if k < n then f k else g k
theorem cpn_in {f g : Nat → Int32} {n k : Nat} (h : k < n) : cpn f g n k = f k := if_pos h
theorem cpn_0 {f g : Nat → Int32} : cpn f g 0 = g := funext (fun k => if_neg (Nat.not_lt_zero k))
theorem cpn_s {f g : Nat → Int32} {n : Nat} : upd (cpn f g n) n (f n) = cpn f g (n + 1) := by
  refine funext (fun k => ?_)
  unfold upd cpn
  by_cases h : k = n
  · subst h
    rw [if_pos rfl, if_pos (Nat.lt_succ_self k)]
  · rw [if_neg h]
    by_cases q : k < n
    · rw [if_pos q, if_pos (by omega)]
    · rw [if_neg q, if_neg (by omega)]
theorem va_cpn {f g : Nat → Int32} {n : Nat} : va_cpy f g 0 0 n = cpn f g n := by
  refine funext (fun k => ?_)
  unfold va_cpy cpn
  by_cases q : k < n
  · rw [if_pos q, if_pos ⟨Nat.zero_le k, by omega⟩, Nat.zero_add, Nat.sub_zero]
  · rw [if_neg q, if_neg (fun r => q (by omega))]
theorem zrow_zrow {σ : zSt} {c : Nat} {f g : Nat → Int32} : zrow (zrow σ c f) c g = zrow σ c g := by
  refine Prod.ext (funext (fun a => ?_)) rfl
  unfold zrow
  by_cases h : a = c
  · simp only [if_pos h]
  · simp only [if_neg h]
theorem zrow_same {σ : zSt} {c : Nat} : zrow σ c (σ.1 c) = σ := by
  refine Prod.ext (funext (fun a => ?_)) rfl
  unfold zrow
  by_cases h : a = c
  · subst h
    simp only [if_pos]
  · simp only [if_neg h]
theorem zwr_zrow {σ : zSt} {c j : Nat} {f : Nat → Int32} {v : Int32} : zwr (zrow σ c f) c j v = zrow σ c (upd f j v) := by
  unfold zwr
  rw [zrow_zrow, zrow_c]
theorem T_cp_70_105 (σ : zSt) : F_X12_copies_70_105 16 σ = some ((), zrow σ 105 (cpn (σ.1 70) (σ.1 105) 16)) := by
  unfold F_X12_copies_70_105 F_X12_copies_70_105_0
  have h := zfix_run (body := F_X12_copies_70_105_2L 16) (out := some ((), zrow σ 105 (cpn (σ.1 70) (σ.1 105) 16))) (fun i => (nI i, zrow σ 105 (cpn (σ.1 70) (σ.1 105) i))) 16 (by decide) (fun i w hi => ?_) (fun w => ?_)
  · simp only [cpn_0, zrow_same] at h
    exact h
  · show F_X12_copies_70_105_2 16 w (nI i) _ = _
    unfold F_X12_copies_70_105_2
    have e : (zrow σ 105 (cpn (σ.1 70) (σ.1 105) i)).1 70 = σ.1 70 := zrow_n (by decide)
    simp (disch := omega) only [lit_le, if_neg, gd_n, nm_s, nI_cl, e, zwr_zrow, cpn_s, nI_1]
  · show F_X12_copies_70_105_2 16 w (nI 16) _ = _
    unfold F_X12_copies_70_105_2
    simp (disch := omega) only [lit_le, if_pos]
theorem T_cp_71_106 (σ : zSt) : F_X12_copies_71_106 8 σ = some ((), zrow σ 106 (cpn (σ.1 71) (σ.1 106) 8)) := by
  unfold F_X12_copies_71_106 F_X12_copies_71_106_0
  have h := zfix_run (body := F_X12_copies_71_106_2L 8) (out := some ((), zrow σ 106 (cpn (σ.1 71) (σ.1 106) 8))) (fun i => (nI i, zrow σ 106 (cpn (σ.1 71) (σ.1 106) i))) 8 (by decide) (fun i w hi => ?_) (fun w => ?_)
  · simp only [cpn_0, zrow_same] at h
    exact h
  · show F_X12_copies_71_106_2 8 w (nI i) _ = _
    unfold F_X12_copies_71_106_2
    have e : (zrow σ 106 (cpn (σ.1 71) (σ.1 106) i)).1 71 = σ.1 71 := zrow_n (by decide)
    simp (disch := omega) only [lit_le, if_neg, gd_n, nm_s, nI_cl, e, zwr_zrow, cpn_s, nI_1]
  · show F_X12_copies_71_106_2 8 w (nI 8) _ = _
    unfold F_X12_copies_71_106_2
    simp (disch := omega) only [lit_le, if_pos]
theorem T_cp_72_107 (σ : zSt) : F_X12_copies_72_107 8 σ = some ((), zrow σ 107 (cpn (σ.1 72) (σ.1 107) 8)) := by
  unfold F_X12_copies_72_107 F_X12_copies_72_107_0
  have h := zfix_run (body := F_X12_copies_72_107_2L 8) (out := some ((), zrow σ 107 (cpn (σ.1 72) (σ.1 107) 8))) (fun i => (nI i, zrow σ 107 (cpn (σ.1 72) (σ.1 107) i))) 8 (by decide) (fun i w hi => ?_) (fun w => ?_)
  · simp only [cpn_0, zrow_same] at h
    exact h
  · show F_X12_copies_72_107_2 8 w (nI i) _ = _
    unfold F_X12_copies_72_107_2
    have e : (zrow σ 107 (cpn (σ.1 72) (σ.1 107) i)).1 72 = σ.1 72 := zrow_n (by decide)
    simp (disch := omega) only [lit_le, if_neg, gd_n, nm_s, nI_cl, e, zwr_zrow, cpn_s, nI_1]
  · show F_X12_copies_72_107_2 8 w (nI 8) _ = _
    unfold F_X12_copies_72_107_2
    simp (disch := omega) only [lit_le, if_pos]
theorem T_cp_73_108 (σ : zSt) : F_X12_copies_73_108 8 σ = some ((), zrow σ 108 (cpn (σ.1 73) (σ.1 108) 8)) := by
  unfold F_X12_copies_73_108 F_X12_copies_73_108_0
  have h := zfix_run (body := F_X12_copies_73_108_2L 8) (out := some ((), zrow σ 108 (cpn (σ.1 73) (σ.1 108) 8))) (fun i => (nI i, zrow σ 108 (cpn (σ.1 73) (σ.1 108) i))) 8 (by decide) (fun i w hi => ?_) (fun w => ?_)
  · simp only [cpn_0, zrow_same] at h
    exact h
  · show F_X12_copies_73_108_2 8 w (nI i) _ = _
    unfold F_X12_copies_73_108_2
    have e : (zrow σ 108 (cpn (σ.1 73) (σ.1 108) i)).1 73 = σ.1 73 := zrow_n (by decide)
    simp (disch := omega) only [lit_le, if_neg, gd_n, nm_s, nI_cl, e, zwr_zrow, cpn_s, nI_1]
  · show F_X12_copies_73_108_2 8 w (nI 8) _ = _
    unfold F_X12_copies_73_108_2
    simp (disch := omega) only [lit_le, if_pos]
theorem T_cp_74_109 (σ : zSt) : F_X12_copies_74_109 8 σ = some ((), zrow σ 109 (cpn (σ.1 74) (σ.1 109) 8)) := by
  unfold F_X12_copies_74_109 F_X12_copies_74_109_0
  have h := zfix_run (body := F_X12_copies_74_109_2L 8) (out := some ((), zrow σ 109 (cpn (σ.1 74) (σ.1 109) 8))) (fun i => (nI i, zrow σ 109 (cpn (σ.1 74) (σ.1 109) i))) 8 (by decide) (fun i w hi => ?_) (fun w => ?_)
  · simp only [cpn_0, zrow_same] at h
    exact h
  · show F_X12_copies_74_109_2 8 w (nI i) _ = _
    unfold F_X12_copies_74_109_2
    have e : (zrow σ 109 (cpn (σ.1 74) (σ.1 109) i)).1 74 = σ.1 74 := zrow_n (by decide)
    simp (disch := omega) only [lit_le, if_neg, gd_n, nm_s, nI_cl, e, zwr_zrow, cpn_s, nI_1]
  · show F_X12_copies_74_109_2 8 w (nI 8) _ = _
    unfold F_X12_copies_74_109_2
    simp (disch := omega) only [lit_le, if_pos]
theorem T_cp_75_110 (σ : zSt) : F_X12_copies_75_110 8 σ = some ((), zrow σ 110 (cpn (σ.1 75) (σ.1 110) 8)) := by
  unfold F_X12_copies_75_110 F_X12_copies_75_110_0
  have h := zfix_run (body := F_X12_copies_75_110_2L 8) (out := some ((), zrow σ 110 (cpn (σ.1 75) (σ.1 110) 8))) (fun i => (nI i, zrow σ 110 (cpn (σ.1 75) (σ.1 110) i))) 8 (by decide) (fun i w hi => ?_) (fun w => ?_)
  · simp only [cpn_0, zrow_same] at h
    exact h
  · show F_X12_copies_75_110_2 8 w (nI i) _ = _
    unfold F_X12_copies_75_110_2
    have e : (zrow σ 110 (cpn (σ.1 75) (σ.1 110) i)).1 75 = σ.1 75 := zrow_n (by decide)
    simp (disch := omega) only [lit_le, if_neg, gd_n, nm_s, nI_cl, e, zwr_zrow, cpn_s, nI_1]
  · show F_X12_copies_75_110_2 8 w (nI 8) _ = _
    unfold F_X12_copies_75_110_2
    simp (disch := omega) only [lit_le, if_pos]
theorem T_cp_105_70 (σ : zSt) : F_X12_copies_105_70 16 σ = some ((), zrow σ 70 (cpn (σ.1 105) (σ.1 70) 16)) := by
  unfold F_X12_copies_105_70 F_X12_copies_105_70_0
  have h := zfix_run (body := F_X12_copies_105_70_2L 16) (out := some ((), zrow σ 70 (cpn (σ.1 105) (σ.1 70) 16))) (fun i => (nI i, zrow σ 70 (cpn (σ.1 105) (σ.1 70) i))) 16 (by decide) (fun i w hi => ?_) (fun w => ?_)
  · simp only [cpn_0, zrow_same] at h
    exact h
  · show F_X12_copies_105_70_2 16 w (nI i) _ = _
    unfold F_X12_copies_105_70_2
    have e : (zrow σ 70 (cpn (σ.1 105) (σ.1 70) i)).1 105 = σ.1 105 := zrow_n (by decide)
    simp (disch := omega) only [lit_le, if_neg, gd_n, nm_s, nI_cl, e, zwr_zrow, cpn_s, nI_1]
  · show F_X12_copies_105_70_2 16 w (nI 16) _ = _
    unfold F_X12_copies_105_70_2
    simp (disch := omega) only [lit_le, if_pos]
theorem T_cp_106_71 (σ : zSt) : F_X12_copies_106_71 8 σ = some ((), zrow σ 71 (cpn (σ.1 106) (σ.1 71) 8)) := by
  unfold F_X12_copies_106_71 F_X12_copies_106_71_0
  have h := zfix_run (body := F_X12_copies_106_71_2L 8) (out := some ((), zrow σ 71 (cpn (σ.1 106) (σ.1 71) 8))) (fun i => (nI i, zrow σ 71 (cpn (σ.1 106) (σ.1 71) i))) 8 (by decide) (fun i w hi => ?_) (fun w => ?_)
  · simp only [cpn_0, zrow_same] at h
    exact h
  · show F_X12_copies_106_71_2 8 w (nI i) _ = _
    unfold F_X12_copies_106_71_2
    have e : (zrow σ 71 (cpn (σ.1 106) (σ.1 71) i)).1 106 = σ.1 106 := zrow_n (by decide)
    simp (disch := omega) only [lit_le, if_neg, gd_n, nm_s, nI_cl, e, zwr_zrow, cpn_s, nI_1]
  · show F_X12_copies_106_71_2 8 w (nI 8) _ = _
    unfold F_X12_copies_106_71_2
    simp (disch := omega) only [lit_le, if_pos]
theorem T_cp_107_72 (σ : zSt) : F_X12_copies_107_72 8 σ = some ((), zrow σ 72 (cpn (σ.1 107) (σ.1 72) 8)) := by
  unfold F_X12_copies_107_72 F_X12_copies_107_72_0
  have h := zfix_run (body := F_X12_copies_107_72_2L 8) (out := some ((), zrow σ 72 (cpn (σ.1 107) (σ.1 72) 8))) (fun i => (nI i, zrow σ 72 (cpn (σ.1 107) (σ.1 72) i))) 8 (by decide) (fun i w hi => ?_) (fun w => ?_)
  · simp only [cpn_0, zrow_same] at h
    exact h
  · show F_X12_copies_107_72_2 8 w (nI i) _ = _
    unfold F_X12_copies_107_72_2
    have e : (zrow σ 72 (cpn (σ.1 107) (σ.1 72) i)).1 107 = σ.1 107 := zrow_n (by decide)
    simp (disch := omega) only [lit_le, if_neg, gd_n, nm_s, nI_cl, e, zwr_zrow, cpn_s, nI_1]
  · show F_X12_copies_107_72_2 8 w (nI 8) _ = _
    unfold F_X12_copies_107_72_2
    simp (disch := omega) only [lit_le, if_pos]
theorem T_cp_108_73 (σ : zSt) : F_X12_copies_108_73 8 σ = some ((), zrow σ 73 (cpn (σ.1 108) (σ.1 73) 8)) := by
  unfold F_X12_copies_108_73 F_X12_copies_108_73_0
  have h := zfix_run (body := F_X12_copies_108_73_2L 8) (out := some ((), zrow σ 73 (cpn (σ.1 108) (σ.1 73) 8))) (fun i => (nI i, zrow σ 73 (cpn (σ.1 108) (σ.1 73) i))) 8 (by decide) (fun i w hi => ?_) (fun w => ?_)
  · simp only [cpn_0, zrow_same] at h
    exact h
  · show F_X12_copies_108_73_2 8 w (nI i) _ = _
    unfold F_X12_copies_108_73_2
    have e : (zrow σ 73 (cpn (σ.1 108) (σ.1 73) i)).1 108 = σ.1 108 := zrow_n (by decide)
    simp (disch := omega) only [lit_le, if_neg, gd_n, nm_s, nI_cl, e, zwr_zrow, cpn_s, nI_1]
  · show F_X12_copies_108_73_2 8 w (nI 8) _ = _
    unfold F_X12_copies_108_73_2
    simp (disch := omega) only [lit_le, if_pos]
theorem T_cp_109_74 (σ : zSt) : F_X12_copies_109_74 8 σ = some ((), zrow σ 74 (cpn (σ.1 109) (σ.1 74) 8)) := by
  unfold F_X12_copies_109_74 F_X12_copies_109_74_0
  have h := zfix_run (body := F_X12_copies_109_74_2L 8) (out := some ((), zrow σ 74 (cpn (σ.1 109) (σ.1 74) 8))) (fun i => (nI i, zrow σ 74 (cpn (σ.1 109) (σ.1 74) i))) 8 (by decide) (fun i w hi => ?_) (fun w => ?_)
  · simp only [cpn_0, zrow_same] at h
    exact h
  · show F_X12_copies_109_74_2 8 w (nI i) _ = _
    unfold F_X12_copies_109_74_2
    have e : (zrow σ 74 (cpn (σ.1 109) (σ.1 74) i)).1 109 = σ.1 109 := zrow_n (by decide)
    simp (disch := omega) only [lit_le, if_neg, gd_n, nm_s, nI_cl, e, zwr_zrow, cpn_s, nI_1]
  · show F_X12_copies_109_74_2 8 w (nI 8) _ = _
    unfold F_X12_copies_109_74_2
    simp (disch := omega) only [lit_le, if_pos]
theorem T_cp_110_75 (σ : zSt) : F_X12_copies_110_75 8 σ = some ((), zrow σ 75 (cpn (σ.1 110) (σ.1 75) 8)) := by
  unfold F_X12_copies_110_75 F_X12_copies_110_75_0
  have h := zfix_run (body := F_X12_copies_110_75_2L 8) (out := some ((), zrow σ 75 (cpn (σ.1 110) (σ.1 75) 8))) (fun i => (nI i, zrow σ 75 (cpn (σ.1 110) (σ.1 75) i))) 8 (by decide) (fun i w hi => ?_) (fun w => ?_)
  · simp only [cpn_0, zrow_same] at h
    exact h
  · show F_X12_copies_110_75_2 8 w (nI i) _ = _
    unfold F_X12_copies_110_75_2
    have e : (zrow σ 75 (cpn (σ.1 110) (σ.1 75) i)).1 110 = σ.1 110 := zrow_n (by decide)
    simp (disch := omega) only [lit_le, if_neg, gd_n, nm_s, nI_cl, e, zwr_zrow, cpn_s, nI_1]
  · show F_X12_copies_110_75_2 8 w (nI 8) _ = _
    unfold F_X12_copies_110_75_2
    simp (disch := omega) only [lit_le, if_pos]
/-- the world kept in other cells -/
theorem EC_k {c r c' r' : Nat} {W : zWo} {σ τ : zSt} (h : EC c r W σ) (a0 : ∀ j, j < 16 → τ.1 r' j = σ.1 r j) (a1 : ∀ j, j < 8 → τ.1 (r' + 1) j = σ.1 (r + 1) j) (a2 : ∀ j, j < 8 → τ.1 (r' + 2) j = σ.1 (r + 2) j) (a3 : ∀ j, j < 8 → τ.1 (r' + 3) j = σ.1 (r + 3) j) (a4 : ∀ j, j < 8 → τ.1 (r' + 4) j = σ.1 (r + 4) j) (a5 : ∀ j, j < 8 → τ.1 (r' + 5) j = σ.1 (r + 5) j) (b : ∀ i, 6 ≤ i → i < 13 → τ.1 c' i = σ.1 c i) : EC c' r' W τ := by
  obtain ⟨c1, c2, c3, c4, c5, c6, c7, c8, c9, c10, c11, c12, c13⟩ := h
  exact ⟨fun j hj => (a0 j hj).trans (c1 j hj), fun j hj => (a1 j hj).trans (c2 j hj), fun j hj => (a2 j hj).trans (c3 j hj), fun j hj => (a3 j hj).trans (c4 j hj), fun j hj => (a4 j hj).trans (c5 j hj), fun j hj => (a5 j hj).trans (c6 j hj), (b 6 (by decide) (by decide)).trans c7, (b 7 (by decide) (by decide)).trans c8, (b 8 (by decide) (by decide)).trans c9, (b 9 (by decide) (by decide)).trans c10, (b 10 (by decide) (by decide)).trans c11, (b 11 (by decide) (by decide)).trans c12, (b 12 (by decide) (by decide)).trans c13⟩
theorem EM_k {r b r' b' : Nat} {W : zWo} {σ τ : zSt} (h : EM r b W σ) (a0 : ∀ j, j < 16 → τ.1 r' j = σ.1 r j) (a1 : ∀ j, j < 8 → τ.1 (r' + 1) j = σ.1 (r + 1) j) (a2 : ∀ j, j < 8 → τ.1 (r' + 2) j = σ.1 (r + 2) j) (a3 : ∀ j, j < 8 → τ.1 (r' + 3) j = σ.1 (r + 3) j) (a4 : ∀ j, j < 8 → τ.1 (r' + 4) j = σ.1 (r + 4) j) (a5 : ∀ j, j < 8 → τ.1 (r' + 5) j = σ.1 (r + 5) j) (q : ∀ i, i < 7 → τ.1 69 (b' + i) = σ.1 69 (b + i)) : EM r' b' W τ := by
  obtain ⟨c1, c2, c3, c4, c5, c6, c7, c8, c9, c10, c11, c12, c13⟩ := h
  exact ⟨fun j hj => (a0 j hj).trans (c1 j hj), fun j hj => (a1 j hj).trans (c2 j hj), fun j hj => (a2 j hj).trans (c3 j hj), fun j hj => (a3 j hj).trans (c4 j hj), fun j hj => (a4 j hj).trans (c5 j hj), fun j hj => (a5 j hj).trans (c6 j hj), (q 0 (by decide)).trans c7, (q 1 (by decide)).trans c8, (q 2 (by decide)).trans c9, (q 4 (by decide)).trans c10, (q 5 (by decide)).trans c11, (q 6 (by decide)).trans c12, (q 3 (by decide)).trans c13⟩
theorem cases7 {P : Nat → Prop} (h6 : P 6) (h7 : P 7) (h8 : P 8) (h9 : P 9) (h10 : P 10) (h11 : P 11) (h12 : P 12) : ∀ i, 6 ≤ i → i < 13 → P i := by
  intro i h1 h2
  have e : i = 6 ∨ i = 7 ∨ i = 8 ∨ i = 9 ∨ i = 10 ∨ i = 11 ∨ i = 12 := by omega
  rcases e with rfl | rfl | rfl | rfl | rfl | rfl | rfl <;> assumption
theorem cases7' {P : Nat → Prop} (h6 : P 0) (h7 : P 1) (h8 : P 2) (h9 : P 3) (h10 : P 4) (h11 : P 5) (h12 : P 6) : ∀ i, i < 7 → P i := by
  intro i h2
  have e : i = 0 ∨ i = 1 ∨ i = 2 ∨ i = 3 ∨ i = 4 ∨ i = 5 ∨ i = 6 := by omega
  rcases e with rfl | rfl | rfl | rfl | rfl | rfl | rfl <;> assumption
theorem T_take_26_1 (σ : zSt) : wp (F_X10_takeOver_26_1 σ) (fun _ τ => (∀ j, j < 16 → τ.1 27 j = σ.1 2 j) ∧ (∀ j, j < 8 → τ.1 28 j = σ.1 3 j) ∧ (∀ j, j < 8 → τ.1 29 j = σ.1 4 j) ∧ (∀ j, j < 8 → τ.1 30 j = σ.1 5 j) ∧ (∀ j, j < 8 → τ.1 31 j = σ.1 6 j) ∧ (∀ j, j < 8 → τ.1 32 j = σ.1 7 j) ∧ (∀ i, 6 ≤ i → i < 13 → τ.1 26 i = σ.1 1 i) ∧ (∀ d, d ≠ 26 → (d < 27 ∨ 32 < d) → τ.1 d = σ.1 d)) := by
  unfold F_X10_takeOver_26_1 F_X10_takeOver_26_1_0
  simp only [nm_s, va_cpn]
  refine wp_some ⟨fun j hj => ?_, fun j hj => ?_, fun j hj => ?_, fun j hj => ?_, fun j hj => ?_, fun j hj => ?_, cases7 ?_ ?_ ?_ ?_ ?_ ?_ ?_, fun d h1 h2 => ?_⟩
  case refine_14 =>
    have e1 : d ≠ 27 := by omega
    have e2 : d ≠ 28 := by omega
    have e3 : d ≠ 29 := by omega
    have e4 : d ≠ 30 := by omega
    have e5 : d ≠ 31 := by omega
    have e6 : d ≠ 32 := by omega
    simp only [zwr_r, zrow_r, if_neg h1, if_neg e1, if_neg e2, if_neg e3, if_neg e4, if_neg e5, if_neg e6]
  all_goals simp (disch := omega) only [zwr_r, zrow_r, Nat.reduceEqDiff, ↓reduceIte, upd_r, cpn_in]
theorem T_take_1_26 (σ : zSt) : wp (F_X10_takeOver_1_26 σ) (fun _ τ => (∀ j, j < 16 → τ.1 2 j = σ.1 27 j) ∧ (∀ j, j < 8 → τ.1 3 j = σ.1 28 j) ∧ (∀ j, j < 8 → τ.1 4 j = σ.1 29 j) ∧ (∀ j, j < 8 → τ.1 5 j = σ.1 30 j) ∧ (∀ j, j < 8 → τ.1 6 j = σ.1 31 j) ∧ (∀ j, j < 8 → τ.1 7 j = σ.1 32 j) ∧ (∀ i, 6 ≤ i → i < 13 → τ.1 1 i = σ.1 26 i) ∧ (∀ d, d ≠ 1 → (d < 2 ∨ 7 < d) → τ.1 d = σ.1 d)) := by
  unfold F_X10_takeOver_1_26 F_X10_takeOver_1_26_0
  simp only [nm_s, va_cpn]
  refine wp_some ⟨fun j hj => ?_, fun j hj => ?_, fun j hj => ?_, fun j hj => ?_, fun j hj => ?_, fun j hj => ?_, cases7 ?_ ?_ ?_ ?_ ?_ ?_ ?_, fun d h1 h2 => ?_⟩
  case refine_14 =>
    have e1 : d ≠ 2 := by omega
    have e2 : d ≠ 3 := by omega
    have e3 : d ≠ 4 := by omega
    have e4 : d ≠ 5 := by omega
    have e5 : d ≠ 6 := by omega
    have e6 : d ≠ 7 := by omega
    simp only [zwr_r, zrow_r, if_neg h1, if_neg e1, if_neg e2, if_neg e3, if_neg e4, if_neg e5, if_neg e6]
  all_goals simp (disch := omega) only [zwr_r, zrow_r, Nat.reduceEqDiff, ↓reduceIte, upd_r, cpn_in]
theorem s_keep {n : Nat} {σ : zSt} (hn : n < 512) (hR : Rel n σ) : Both n F_X11_keep F_X12_keep σ := by
  obtain ⟨-, ⟨W, w0, w1, w2, w3⟩, -⟩ := id hR
  obtain ⟨_, τ, e, k0, k1, k2, k3, k4, k5, k6, k7⟩ := T_take_26_1 σ
  have eT : (zwr τ 0 2 1).1 1 6 = nI (wTol W) := (congrFun (k7 1 (by decide) (by decide)) 6).trans w2.2.2.2.2.2.2.1
  have E1 : F_X11_keep σ = some (nI (pop8 (wTol W)), zwr τ 0 2 1) := by
    unfold F_X11_keep F_X11_keep_0
    rw [e, bd_s, nm_s, eT, T_bitCount w0.told, bd_s]
  have E2 : wp (F_X12_keep (zwr τ 0 2 1)) (fun r υ => r = nI (pop8 (wTol W)) ∧ (∀ j, j < 16 → υ.1 105 j = τ.1 70 j) ∧ (∀ j, j < 8 → υ.1 106 j = τ.1 71 j) ∧ (∀ j, j < 8 → υ.1 107 j = τ.1 72 j) ∧ (∀ j, j < 8 → υ.1 108 j = τ.1 73 j) ∧ (∀ j, j < 8 → υ.1 109 j = τ.1 74 j) ∧ (∀ j, j < 8 → υ.1 110 j = τ.1 75 j) ∧ (∀ i, i < 7 → υ.1 69 (63 + i) = τ.1 69 (0 + i)) ∧ υ.1 69 62 = 1 ∧ υ.1 0 2 = 1 ∧ (∀ d, d ≠ 69 → d ≠ 0 → d < 105 → υ.1 d = τ.1 d) ∧ (∀ i, i < 62 → υ.1 69 i = τ.1 69 i)) := by
    unfold F_X12_keep F_X12_keep_0
    have mT : τ.1 69 0 = nI (wTol W) := (congrFun (k7 69 (by decide) (by decide)) 0).trans w3.2.2.2.2.2.2.1
    simp only [nm_s, T_cp_70_105, T_cp_71_106, T_cp_72_107, T_cp_73_108, T_cp_74_109, T_cp_75_110, bd_s, zwr_r, zrow_r, Nat.reduceEqDiff, ↓reduceIte, upd_r, mT, T_bits w0.told]
    refine wp_some ⟨rfl, fun j hj => ?_, fun j hj => ?_, fun j hj => ?_, fun j hj => ?_, fun j hj => ?_, fun j hj => ?_, cases7' ?_ ?_ ?_ ?_ ?_ ?_ ?_, ?_, ?_, fun d h1 h2 h3 => ?_, fun i hi => ?_⟩
    case refine_16 =>
      have e1 : d ≠ 105 := by omega
      have e2 : d ≠ 106 := by omega
      have e3 : d ≠ 107 := by omega
      have e4 : d ≠ 108 := by omega
      have e5 : d ≠ 109 := by omega
      have e6 : d ≠ 110 := by omega
      simp only [zwr_r, zrow_r, if_neg h1, if_neg h2, if_neg e1, if_neg e2, if_neg e3, if_neg e4, if_neg e5, if_neg e6]
    case refine_17 =>
      simp (disch := omega) only [zwr_r, zrow_r, Nat.reduceEqDiff, ↓reduceIte, upd_r, if_neg]
    all_goals simp (disch := omega) only [zwr_r, zrow_r, Nat.reduceEqDiff, ↓reduceIte, upd_r, cpn_in, Nat.zero_add, Nat.add_zero, Nat.reduceAdd, mT]
  obtain ⟨r, υ, e2, rfl, m0, m1, m2, m3, m4, m5, m6, m7, m8, m9, m10⟩ := E2
  refine Both.mk E1 e2 ?_
  have fr : ∀ d, d ≠ 69 → d ≠ 0 → d ≠ 26 → (d < 27 ∨ 32 < d) → d < 105 → υ.1 d = σ.1 d := fun d h1 h2 h3 h4 h5 => (m9 d h1 h2 h5).trans (k7 d h3 h4)
  have f69 : ∀ i, i < 62 → υ.1 69 i = σ.1 69 i := fun i hi => (m10 i hi).trans (congrFun (k7 69 (by decide) (by decide)) i)
  refine Rel_K hn hR ⟨fun c hc => ?_, fun q hq => ?_⟩ (Or.inr ⟨m8, m7, W, w0, Nat.le_succ_of_le w1, ?_, ?_⟩)
  · have h := List.all_eq_true.mp (show (((rowsC ++ rowsM) ++ rowsT ++ rowsL ++ rowsE ++ rowsO).filter (fun c => c != 104)).all (fun d => d != 69 && d != 0 && d != 26 && (decide (d < 27) || decide (32 < d)) && decide (d < 105)) = true by decide)
    by_cases c104 : c = 104
    · rw [c104]
      exact fr 104 (by decide) (by decide) (by decide) (by decide) (by decide)
    have h2 := h c (List.mem_filter.mpr ⟨hc, by simpa using c104⟩)
    simp only [Bool.and_eq_true, Bool.or_eq_true, decide_eq_true_eq, bne_iff_ne] at h2
    exact fr c h2.1.1.1.1 h2.1.1.1.2 h2.1.1.2 h2.1.2 h2.2
  · have h := List.all_eq_true.mp (show ((slotsC ++ slotsM) ++ slotsT ++ slotsL ++ slotsE).all (fun d => (d.1 == 69 && decide (d.2 < 62)) || (d.1 != 69 && d.1 != 0 && d.1 != 26 && (decide (d.1 < 27) || decide (32 < d.1)) && decide (d.1 < 105))) = true by decide) q hq
    simp only [Bool.and_eq_true, Bool.or_eq_true, decide_eq_true_eq, bne_iff_ne, beq_iff_eq] at h
    rcases h with h | h
    · rw [h.1]
      exact f69 q.2 h.2
    · rw [fr q.1 h.1.1.1.1 h.1.1.1.2 h.1.1.2 h.1.2 h.2]
  · refine EC_k (c := 1) (r := 2) w2 (fun j hj => ?_) (fun j hj => ?_) (fun j hj => ?_) (fun j hj => ?_) (fun j hj => ?_) (fun j hj => ?_) (fun i h1 h2 => ?_)
    · exact (congrFun (m9 27 (by decide) (by decide) (by decide)) j).trans (k0 j hj)
    · exact (congrFun (m9 28 (by decide) (by decide) (by decide)) j).trans (k1 j hj)
    · exact (congrFun (m9 29 (by decide) (by decide) (by decide)) j).trans (k2 j hj)
    · exact (congrFun (m9 30 (by decide) (by decide) (by decide)) j).trans (k3 j hj)
    · exact (congrFun (m9 31 (by decide) (by decide) (by decide)) j).trans (k4 j hj)
    · exact (congrFun (m9 32 (by decide) (by decide) (by decide)) j).trans (k5 j hj)
    · exact (congrFun (m9 26 (by decide) (by decide) (by decide)) i).trans (k6 i h1 h2)
  · have g : ∀ d, 33 < d → τ.1 d = σ.1 d := fun d hd => k7 d (by omega) (by omega)
    refine EM_k (r := 70) (b := 0) w3 (fun j hj => ?_) (fun j hj => ?_) (fun j hj => ?_) (fun j hj => ?_) (fun j hj => ?_) (fun j hj => ?_) (fun i h1 => ?_)
    · exact (m0 j hj).trans (congrFun (g 70 (by decide)) j)
    · exact (m1 j hj).trans (congrFun (g 71 (by decide)) j)
    · exact (m2 j hj).trans (congrFun (g 72 (by decide)) j)
    · exact (m3 j hj).trans (congrFun (g 73 (by decide)) j)
    · exact (m4 j hj).trans (congrFun (g 74 (by decide)) j)
    · exact (m5 j hj).trans (congrFun (g 75 (by decide)) j)
    · exact (m6 i h1).trans (congrFun (g 69 (by decide)) (0 + i))
theorem s_undo {n : Nat} {σ : zSt} (hn : n < 512) (hR : Rel n σ) : Both n F_X11_undo F_X12_undo σ := by
  obtain ⟨-, -, hK, -⟩ := id hR
  rcases hK with ⟨a1, a2⟩ | ⟨a1, a2, W, w0, w1, w2, w3⟩
  · refine Both.no 0 hn hR ?_ ?_
    · unfold F_X11_undo F_X11_undo_0
      rw [a1, if_pos rfl, gd_t (Or.inl rfl)]
    · unfold F_X12_undo F_X12_undo_0
      rw [a2, if_pos rfl]
  obtain ⟨_, τ, e, k0, k1, k2, k3, k4, k5, k6, k7⟩ := T_take_1_26 σ
  have t02 : τ.1 0 2 = 1 := (congrFun (k7 0 (by decide) (by decide)) 2).trans a1
  have E1 : F_X11_undo σ = some (1, τ) := by
    unfold F_X11_undo F_X11_undo_0
    rw [a1, if_neg (by decide), e, bd_s, t02, gd_t (Or.inr rfl)]
  have t69 : τ.1 69 62 = 1 := (congrFun (k7 69 (by decide) (by decide)) 62).trans a2
  have E2 : wp (F_X12_undo τ) (fun r υ => r = 1 ∧ (∀ j, j < 16 → υ.1 70 j = τ.1 105 j) ∧ (∀ j, j < 8 → υ.1 71 j = τ.1 106 j) ∧ (∀ j, j < 8 → υ.1 72 j = τ.1 107 j) ∧ (∀ j, j < 8 → υ.1 73 j = τ.1 108 j) ∧ (∀ j, j < 8 → υ.1 74 j = τ.1 109 j) ∧ (∀ j, j < 8 → υ.1 75 j = τ.1 110 j) ∧ (∀ i, i < 7 → υ.1 69 (0 + i) = τ.1 69 (63 + i)) ∧ (∀ d, d ≠ 69 → (d < 70 ∨ 75 < d) → υ.1 d = τ.1 d) ∧ (∀ i, 7 ≤ i → υ.1 69 i = τ.1 69 i)) := by
    unfold F_X12_undo F_X12_undo_0
    rw [t69, if_neg (by decide)]
    simp only [nm_s, T_cp_105_70, T_cp_106_71, T_cp_107_72, T_cp_108_73, T_cp_109_74, T_cp_110_75, bd_s]
    refine wp_some ⟨rfl, fun j hj => ?_, fun j hj => ?_, fun j hj => ?_, fun j hj => ?_, fun j hj => ?_, fun j hj => ?_, cases7' ?_ ?_ ?_ ?_ ?_ ?_ ?_, fun d h1 h2 => ?_, fun i hi => ?_⟩
    case refine_14 =>
      have e1 : d ≠ 70 := by omega
      have e2 : d ≠ 71 := by omega
      have e3 : d ≠ 72 := by omega
      have e4 : d ≠ 73 := by omega
      have e5 : d ≠ 74 := by omega
      have e6 : d ≠ 75 := by omega
      simp only [zwr_r, zrow_r, if_neg h1, if_neg e1, if_neg e2, if_neg e3, if_neg e4, if_neg e5, if_neg e6]
    case refine_15 =>
      simp (disch := omega) only [zwr_r, zrow_r, Nat.reduceEqDiff, ↓reduceIte, upd_r, if_neg]
    all_goals simp (disch := omega) only [zwr_r, zrow_r, Nat.reduceEqDiff, ↓reduceIte, upd_r, cpn_in, Nat.zero_add, Nat.add_zero, Nat.reduceAdd]
  obtain ⟨r, υ, e2, rfl, m0, m1, m2, m3, m4, m5, m6, m7, m8⟩ := E2
  refine Both.mk E1 e2 ?_
  have fr : ∀ d, d ≠ 69 → (d < 70 ∨ 75 < d) → d ≠ 1 → (d < 2 ∨ 7 < d) → υ.1 d = σ.1 d := fun d h1 h2 h3 h4 => (m7 d h1 h2).trans (k7 d h3 h4)
  have f69 : ∀ i, 7 ≤ i → υ.1 69 i = σ.1 69 i := fun i hi => (m8 i hi).trans (congrFun (k7 69 (by decide) (by decide)) i)
  have g : ∀ d, 7 < d → τ.1 d = σ.1 d := fun d hd => k7 d (by omega) (by omega)
  refine Rel_W hn hR ⟨fun c hc => ?_, fun q hq => ?_⟩ ⟨W, w0, Nat.le_succ_of_le w1, ?_, ?_⟩
  · have h2 := List.all_eq_true.mp (show ((rowsKC ++ rowsKM) ++ rowsT ++ rowsL ++ rowsE ++ rowsO).all (fun d => d != 69 && (decide (d < 70) || decide (75 < d)) && d != 1 && (decide (d < 2) || decide (7 < d))) = true by decide) c hc
    simp only [Bool.and_eq_true, Bool.or_eq_true, decide_eq_true_eq, bne_iff_ne] at h2
    exact fr c h2.1.1.1 h2.1.1.2 h2.1.2 h2.2
  · have h := List.all_eq_true.mp (show ((slotsKC ++ slotsKM) ++ slotsT ++ slotsL ++ slotsE).all (fun d => (d.1 == 69 && decide (7 ≤ d.2)) || (d.1 != 69 && (decide (d.1 < 70) || decide (75 < d.1)) && d.1 != 1 && (decide (d.1 < 2) || decide (7 < d.1)))) = true by decide) q hq
    simp only [Bool.and_eq_true, Bool.or_eq_true, decide_eq_true_eq, bne_iff_ne, beq_iff_eq] at h
    rcases h with h | h
    · rw [h.1]
      exact f69 q.2 h.2
    · rw [fr q.1 h.1.1.1 h.1.1.2 h.1.2 h.2]
  · refine EC_k (c := 26) (r := 27) w2 (fun j hj => ?_) (fun j hj => ?_) (fun j hj => ?_) (fun j hj => ?_) (fun j hj => ?_) (fun j hj => ?_) (fun i h1 h2 => ?_)
    · exact (congrFun (m7 2 (by decide) (by decide)) j).trans (k0 j hj)
    · exact (congrFun (m7 3 (by decide) (by decide)) j).trans (k1 j hj)
    · exact (congrFun (m7 4 (by decide) (by decide)) j).trans (k2 j hj)
    · exact (congrFun (m7 5 (by decide) (by decide)) j).trans (k3 j hj)
    · exact (congrFun (m7 6 (by decide) (by decide)) j).trans (k4 j hj)
    · exact (congrFun (m7 7 (by decide) (by decide)) j).trans (k5 j hj)
    · exact (congrFun (m7 1 (by decide) (by decide)) i).trans (k6 i h1 h2)
  · refine EM_k (r := 105) (b := 63) w3 (fun j hj => ?_) (fun j hj => ?_) (fun j hj => ?_) (fun j hj => ?_) (fun j hj => ?_) (fun j hj => ?_) (fun i h1 => ?_)
    · exact (m0 j hj).trans (congrFun (g 105 (by decide)) j)
    · exact (m1 j hj).trans (congrFun (g 106 (by decide)) j)
    · exact (m2 j hj).trans (congrFun (g 107 (by decide)) j)
    · exact (m3 j hj).trans (congrFun (g 108 (by decide)) j)
    · exact (m4 j hj).trans (congrFun (g 109 (by decide)) j)
    · exact (m5 j hj).trans (congrFun (g 110 (by decide)) j)
    · exact (m6 i h1).trans (congrFun (g 69 (by decide)) (63 + i))
