/-! PURE: the calls that only tell something -/
theorem bit_clr1 {w p : Nat} (hw : w < 256) (hp : p < 8) : nI w &&& (nI (2 ^ p) ^^^ -1) = nI (w &&& (255 - 2 ^ p)) := by
  rw [← bit_1 p hp]
  exact bit_clr w hw p hp
def fset {α : Type} (g : Nat → α) (p : Nat) (v : α) : Nat → α := fun j => if j = p then v else g j
theorem fset_s {α : Type} {g : Nat → α} {p : Nat} {v : α} : fset g p v p = v := if_pos rfl
theorem fset_n {α : Type} {g : Nat → α} {p j : Nat} {v : α} (h : j ≠ p) : fset g p v j = g j := if_neg h
theorem upd_map {α : Type} {f : Nat → Int32} {g : Nat → α} {e : α → Int32} {p j : Nat} {v : α} (h : f j = e (g j)) : upd f p (e v) j = e (fset g p v j) := by
  unfold upd fset
  by_cases q : j = p
  · rw [if_pos q, if_pos q]
  · rw [if_neg q, if_neg q]
    exact h
theorem e12 {o : Option Nat} (h : ∀ k, o = some k → k < 16) : (if e1 o = -1 then (-2 : Int32) else e1 o) = e2 o := by
  cases o with
  | none => rfl
  | some k => exact if_neg (e1_n (by have := h k rfl; omega))
/-- none, or a number below n -/
theorem e1_of {x : Int32} {n : Nat} (h : x = -1 ∨ bel x n) : ∃ o : Option Nat, x = e1 o ∧ ∀ k, o = some k → k < n := by
  rcases h with rfl | h
  · exact ⟨none, rfl, fun k q => by cases q⟩
  · obtain ⟨j, hj, rfl⟩ := bel_of h
    exact ⟨some j, rfl, fun k q => by cases q; exact hj⟩
theorem WOK.told {W : zWo} (h : WOK W) : wTol W < 256 := h.2.2.2.2.2.2.2.1
theorem WOK.wet {W : zWo} (h : WOK W) : wWet W < 256 := h.2.2.2.2.2.2.2.2.1
theorem WOK.hea {W : zWo} (h : WOK W) : wHea W < 8 := h.2.2.2.2.2.2.2.2.2.1
theorem WOK.win {W : zWo} (h : WOK W) : ∀ j k, j < 8 → wWin W j = some k → k < j ∧ wIs W k = true := h.2.2.2.1
theorem WOK.lok {W : zWo} (h : WOK W) : ∀ j k, j < 8 → wLok W j = some k → k < 8 := h.2.2.2.2.1
theorem WOK.fli {W : zWo} (h : WOK W) : ∀ j k, j < 8 → wFli W j = some k → j < k ∧ wIs W k = true := h.2.2.2.2.2.1
theorem WOK.key {W : zWo} (h : WOK W) : ∀ j k, j < 8 → wKey W j = some k → wIs W k = true ∨ (8 ≤ k ∧ k ≤ 10) := h.2.2.2.2.2.2.1
theorem s_way {n : Nat} {σ : zSt} (hn : n < 512) (hR : Rel n σ) (x1 x2 x3 : Int32) : Both n (F_X11_way x1 x2 x3) (F_X12_way x1 x2 x3) σ := by
  by_cases h1 : bel x1 4
  rotate_left
  · exact Both.no 0 hn hR (by simp (disch := omega) only [F_X11_way, F_X11_way_0, F_X12_way, F_X12_way_0, T_isBelow_2, T_isBelow_3, T_isBelow_4, T_isBelow_6, T_isBelow_8, T_isBelow_9, T_isBelow_10, T_isBelow_12, T_isBelow_16, T_isBelow_17, T_isBelow_31, T_isBelow_64, T_isBelow_256, T_isBelow_65536, T_in_1, T_in_2, T_in_3, T_in_4, T_in_5, T_in_8, T_in_11, T_in_16, T_in_30, T_in_63, T_in_255, T_in_65535, T_isIsland, T_isEight, bd_s, nm_s, bI_0, gd_n, gd_01, nI_cl, nI_add, nI_1, m4, Bool.false_eq_true, and_self, true_and, and_true, true_or, or_true, or_self, false_or, or_false, gd_T, not_true_eq_false, not_false_eq_true, ↓reduceIte, h1]) (by simp (disch := omega) only [F_X11_way, F_X11_way_0, F_X12_way, F_X12_way_0, T_isBelow_2, T_isBelow_3, T_isBelow_4, T_isBelow_6, T_isBelow_8, T_isBelow_9, T_isBelow_10, T_isBelow_12, T_isBelow_16, T_isBelow_17, T_isBelow_31, T_isBelow_64, T_isBelow_256, T_isBelow_65536, T_in_1, T_in_2, T_in_3, T_in_4, T_in_5, T_in_8, T_in_11, T_in_16, T_in_30, T_in_63, T_in_255, T_in_65535, T_isIsland, T_isEight, bd_s, nm_s, bI_0, gd_n, gd_01, nI_cl, nI_add, nI_1, m4, Bool.false_eq_true, and_self, true_and, and_true, true_or, or_true, or_self, false_or, or_false, gd_T, not_true_eq_false, not_false_eq_true, ↓reduceIte, h1])
  by_cases h2 : bel x2 4
  rotate_left
  · exact Both.no 0 hn hR (by simp (disch := omega) only [F_X11_way, F_X11_way_0, F_X12_way, F_X12_way_0, T_isBelow_2, T_isBelow_3, T_isBelow_4, T_isBelow_6, T_isBelow_8, T_isBelow_9, T_isBelow_10, T_isBelow_12, T_isBelow_16, T_isBelow_17, T_isBelow_31, T_isBelow_64, T_isBelow_256, T_isBelow_65536, T_in_1, T_in_2, T_in_3, T_in_4, T_in_5, T_in_8, T_in_11, T_in_16, T_in_30, T_in_63, T_in_255, T_in_65535, T_isIsland, T_isEight, bd_s, nm_s, bI_0, gd_n, gd_01, nI_cl, nI_add, nI_1, m4, Bool.false_eq_true, and_self, true_and, and_true, true_or, or_true, or_self, false_or, or_false, gd_T, not_true_eq_false, not_false_eq_true, ↓reduceIte, h1, h2]) (by simp (disch := omega) only [F_X11_way, F_X11_way_0, F_X12_way, F_X12_way_0, T_isBelow_2, T_isBelow_3, T_isBelow_4, T_isBelow_6, T_isBelow_8, T_isBelow_9, T_isBelow_10, T_isBelow_12, T_isBelow_16, T_isBelow_17, T_isBelow_31, T_isBelow_64, T_isBelow_256, T_isBelow_65536, T_in_1, T_in_2, T_in_3, T_in_4, T_in_5, T_in_8, T_in_11, T_in_16, T_in_30, T_in_63, T_in_255, T_in_65535, T_isIsland, T_isEight, bd_s, nm_s, bI_0, gd_n, gd_01, nI_cl, nI_add, nI_1, m4, Bool.false_eq_true, and_self, true_and, and_true, true_or, or_true, or_self, false_or, or_false, gd_T, not_true_eq_false, not_false_eq_true, ↓reduceIte, h1, h2])
  by_cases h3 : x1 = x2
  · exact Both.no 0 hn hR (by simp (disch := omega) only [F_X11_way, F_X11_way_0, F_X12_way, F_X12_way_0, T_isBelow_2, T_isBelow_3, T_isBelow_4, T_isBelow_6, T_isBelow_8, T_isBelow_9, T_isBelow_10, T_isBelow_12, T_isBelow_16, T_isBelow_17, T_isBelow_31, T_isBelow_64, T_isBelow_256, T_isBelow_65536, T_in_1, T_in_2, T_in_3, T_in_4, T_in_5, T_in_8, T_in_11, T_in_16, T_in_30, T_in_63, T_in_255, T_in_65535, T_isIsland, T_isEight, bd_s, nm_s, bI_0, gd_n, gd_01, nI_cl, nI_add, nI_1, m4, Bool.false_eq_true, and_self, true_and, and_true, true_or, or_true, or_self, false_or, or_false, gd_T, not_true_eq_false, not_false_eq_true, ↓reduceIte, h1, h2, if_pos h3]) (by simp (disch := omega) only [F_X11_way, F_X11_way_0, F_X12_way, F_X12_way_0, T_isBelow_2, T_isBelow_3, T_isBelow_4, T_isBelow_6, T_isBelow_8, T_isBelow_9, T_isBelow_10, T_isBelow_12, T_isBelow_16, T_isBelow_17, T_isBelow_31, T_isBelow_64, T_isBelow_256, T_isBelow_65536, T_in_1, T_in_2, T_in_3, T_in_4, T_in_5, T_in_8, T_in_11, T_in_16, T_in_30, T_in_63, T_in_255, T_in_65535, T_isIsland, T_isEight, bd_s, nm_s, bI_0, gd_n, gd_01, nI_cl, nI_add, nI_1, m4, Bool.false_eq_true, and_self, true_and, and_true, true_or, or_true, or_self, false_or, or_false, gd_T, not_true_eq_false, not_false_eq_true, ↓reduceIte, h1, h2, if_pos h3])
  by_cases h4 : bel x3 31
  rotate_left
  · exact Both.no 0 hn hR (by simp (disch := omega) only [F_X11_way, F_X11_way_0, F_X12_way, F_X12_way_0, T_isBelow_2, T_isBelow_3, T_isBelow_4, T_isBelow_6, T_isBelow_8, T_isBelow_9, T_isBelow_10, T_isBelow_12, T_isBelow_16, T_isBelow_17, T_isBelow_31, T_isBelow_64, T_isBelow_256, T_isBelow_65536, T_in_1, T_in_2, T_in_3, T_in_4, T_in_5, T_in_8, T_in_11, T_in_16, T_in_30, T_in_63, T_in_255, T_in_65535, T_isIsland, T_isEight, bd_s, nm_s, bI_0, gd_n, gd_01, nI_cl, nI_add, nI_1, m4, Bool.false_eq_true, and_self, true_and, and_true, true_or, or_true, or_self, false_or, or_false, gd_T, not_true_eq_false, not_false_eq_true, ↓reduceIte, h1, h2, h3, h4]) (by simp (disch := omega) only [F_X11_way, F_X11_way_0, F_X12_way, F_X12_way_0, T_isBelow_2, T_isBelow_3, T_isBelow_4, T_isBelow_6, T_isBelow_8, T_isBelow_9, T_isBelow_10, T_isBelow_12, T_isBelow_16, T_isBelow_17, T_isBelow_31, T_isBelow_64, T_isBelow_256, T_isBelow_65536, T_in_1, T_in_2, T_in_3, T_in_4, T_in_5, T_in_8, T_in_11, T_in_16, T_in_30, T_in_63, T_in_255, T_in_65535, T_isIsland, T_isEight, bd_s, nm_s, bI_0, gd_n, gd_01, nI_cl, nI_add, nI_1, m4, Bool.false_eq_true, and_self, true_and, and_true, true_or, or_true, or_self, false_or, or_false, gd_T, not_true_eq_false, not_false_eq_true, ↓reduceIte, h1, h2, h3, h4])
  obtain ⟨a, ha, rfl⟩ := bel_of h1
  obtain ⟨b, hb, rfl⟩ := bel_of h2
  obtain ⟨d, hd, rfl⟩ := bel_of h4
  have hab : a ≠ b := fun q => h3 (by rw [q])
  obtain ⟨-, ⟨W, w0, w1, w2, w3⟩, -⟩ := id hR
  apply Both.mk (r := 1) (σ1 := zwr (zwr σ 2 (4 * a + b) (nI d)) 2 (4 * b + a) (nI d)) (σ2 := zwr (zwr (zwr (zwr σ 2 (4 * a + b) (nI d)) 2 (4 * b + a) (nI d)) 70 (4 * a + b) (nI d)) 70 (4 * b + a) (nI d))
  · simp (disch := omega) only [F_X11_way, F_X11_way_0, F_X12_way, F_X12_way_0, T_isBelow_2, T_isBelow_3, T_isBelow_4, T_isBelow_6, T_isBelow_8, T_isBelow_9, T_isBelow_10, T_isBelow_12, T_isBelow_16, T_isBelow_17, T_isBelow_31, T_isBelow_64, T_isBelow_256, T_isBelow_65536, T_in_1, T_in_2, T_in_3, T_in_4, T_in_5, T_in_8, T_in_11, T_in_16, T_in_30, T_in_63, T_in_255, T_in_65535, T_isIsland, T_isEight, bd_s, nm_s, bI_0, gd_n, gd_01, nI_cl, nI_add, nI_1, m4, Bool.false_eq_true, and_self, true_and, and_true, true_or, or_true, or_self, false_or, or_false, gd_T, not_true_eq_false, not_false_eq_true, ↓reduceIte, h1, h2, h3, h4]
  · simp (disch := omega) only [F_X11_way, F_X11_way_0, F_X12_way, F_X12_way_0, T_isBelow_2, T_isBelow_3, T_isBelow_4, T_isBelow_6, T_isBelow_8, T_isBelow_9, T_isBelow_10, T_isBelow_12, T_isBelow_16, T_isBelow_17, T_isBelow_31, T_isBelow_64, T_isBelow_256, T_isBelow_65536, T_in_1, T_in_2, T_in_3, T_in_4, T_in_5, T_in_8, T_in_11, T_in_16, T_in_30, T_in_63, T_in_255, T_in_65535, T_isIsland, T_isEight, bd_s, nm_s, bI_0, gd_n, gd_01, nI_cl, nI_add, nI_1, m4, Bool.false_eq_true, and_self, true_and, and_true, true_or, or_true, or_self, false_or, or_false, gd_T, not_true_eq_false, not_false_eq_true, ↓reduceIte, h1, h2, h3, h4]
  refine Rel_W hn hR ((((eqOn_wrR (by decide)).tr (eqOn_wrR (by decide))).tr (eqOn_wrR (by decide))).tr (eqOn_wrR (by decide))) ⟨((fset (fset (wWay W) (4 * a + b) d) (4 * b + a) d, wIsl W), W.2), ?_, Nat.le_succ_of_le w1, ?_, ?_⟩
  · obtain ⟨v1, v2, v3⟩ := w0
    refine ⟨fun j hj => ?_, fun j hj => ?_, v3⟩
    · show fset (fset (wWay W) (4 * a + b) d) (4 * b + a) d j ≤ 30
      have := v1 j hj
      unfold fset
      split
      · omega
      · split <;> omega
    · show fset (fset (wWay W) (4 * a + b) d) (4 * b + a) d (5 * j) = 0
      rw [fset_n (by omega), fset_n (by omega)]
      exact v2 j hj
  · obtain ⟨c1, c2, c3, c4, c5, c6, c7⟩ := w2
    exact ⟨fun j hj => upd_map (upd_map (c1 j hj)), c2, c3, c4, c5, c6, c7⟩
  · obtain ⟨c1, c2, c3, c4, c5, c6, c7⟩ := w3
    exact ⟨fun j hj => upd_map (upd_map (c1 j hj)), c2, c3, c4, c5, c6, c7⟩
theorem t_place61 {p t w i : Nat} {x2 : Int32} {o l : Option Nat} {σ : zSt} (hp : p < 8) (ht : t < 256) (hw : w < 256) (et : σ.1 1 6 = nI t) (ew : σ.1 1 7 = nI w) (hi : (if e1 o = -1 then x2 else (0 : Int32)) = nI i) : F_X11_place_61 (nI p) x2 (e1 o) (e1 l) σ = some (1, zwr (zwr (zwr (zwr (zwr (zwr σ 1 6 (nI (t ||| 2 ^ p))) 1 7 (nI (w &&& (255 - 2 ^ p)))) 3 p (nI i)) 4 p (e1 o)) 5 p (e1 l)) 6 p (-1)) := by
  have hb : bel (nI p) 8 := bel_t (by omega)
  simp (disch := omega) only [F_X11_place_61, F_X10_tell, F_X10_tell_0, T_isBelow_2, T_isBelow_3, T_isBelow_4, T_isBelow_6, T_isBelow_8, T_isBelow_9, T_isBelow_10, T_isBelow_12, T_isBelow_16, T_isBelow_17, T_isBelow_31, T_isBelow_64, T_isBelow_256, T_isBelow_65536, T_in_1, T_in_2, T_in_3, T_in_4, T_in_5, T_in_8, T_in_11, T_in_16, T_in_30, T_in_63, T_in_255, T_in_65535, T_isIsland, T_isEight, bd_s, nm_s, bI_0, gd_n, gd_01, nI_cl, nI_add, nI_1, m4, Bool.false_eq_true, and_self, true_and, and_true, true_or, or_true, or_self, false_or, or_false, gd_T, not_true_eq_false, not_false_eq_true, ↓reduceIte, hi, hb, zwr_r, upd_r, Nat.reduceEqDiff, et, ew, bit_clr1 hw hp, bit_1 p hp, bit_or t ht _ (pow_lt8 hp)]
theorem t_place53 {p t w i : Nat} {x2 : Int32} {o l : Option Nat} {σ : zSt} (hp : p < 8) (ht : t < 256) (hw : w < 256) (et : σ.1 69 0 = nI t) (ew : σ.1 69 1 = nI w) (hi : (if e1 o = -1 then x2 else (0 : Int32)) = nI i) (ho : ∀ k, o = some k → k < 16) (hl : ∀ k, l = some k → k < 16) : F_X12_place_53 (nI p) x2 (e1 o) (e1 l) σ = some (1, zwr (zwr (zwr (zwr (zwr (zwr σ 69 0 (nI (t ||| 2 ^ p))) 69 1 (nI (w &&& (255 - 2 ^ p)))) 71 p (nI i)) 72 p (e2 o)) 73 p (e2 l)) 74 p (-2)) := by
  simp (disch := omega) only [F_X12_place_53, T_isBelow_2, T_isBelow_3, T_isBelow_4, T_isBelow_6, T_isBelow_8, T_isBelow_9, T_isBelow_10, T_isBelow_12, T_isBelow_16, T_isBelow_17, T_isBelow_31, T_isBelow_64, T_isBelow_256, T_isBelow_65536, T_in_1, T_in_2, T_in_3, T_in_4, T_in_5, T_in_8, T_in_11, T_in_16, T_in_30, T_in_63, T_in_255, T_in_65535, T_isIsland, T_isEight, bd_s, nm_s, bI_0, gd_n, gd_01, nI_cl, nI_add, nI_1, m4, Bool.false_eq_true, and_self, true_and, and_true, true_or, or_true, or_self, false_or, or_false, gd_T, not_true_eq_false, not_false_eq_true, ↓reduceIte, hi, e12 ho, e12 hl, zwr_r, upd_r, Nat.reduceEqDiff, et, ew, bit_clr1 hw hp, bit_1 p hp, bit_or t ht _ (pow_lt8 hp)]
theorem wet_lt {w p : Nat} (hw : w < 256) : w &&& (255 - 2 ^ p) < 256 := Nat.lt_of_le_of_lt Nat.and_le_left hw
theorem s_place {n : Nat} {σ : zSt} (hn : n < 512) (hR : Rel n σ) (x1 x2 x3 x4 : Int32) : Both n (F_X11_place x1 x2 x3 x4) (F_X12_place x1 x2 x3 x4) σ := by
  obtain ⟨-, ⟨W, w0, w1, w2, w3⟩, -⟩ := id hR
  by_cases h1 : bel x1 8
  rotate_left
  · exact Both.no 0 hn hR (by simp (disch := omega) only [F_X11_place, F_X11_place_0, F_X11_place_27, F_X12_place, F_X12_place_0, F_X12_place_23, T_isBelow_2, T_isBelow_3, T_isBelow_4, T_isBelow_6, T_isBelow_8, T_isBelow_9, T_isBelow_10, T_isBelow_12, T_isBelow_16, T_isBelow_17, T_isBelow_31, T_isBelow_64, T_isBelow_256, T_isBelow_65536, T_in_1, T_in_2, T_in_3, T_in_4, T_in_5, T_in_8, T_in_11, T_in_16, T_in_30, T_in_63, T_in_255, T_in_65535, T_isIsland, T_isEight, bd_s, nm_s, bI_0, gd_n, gd_01, nI_cl, nI_add, nI_1, m4, Bool.false_eq_true, and_self, true_and, and_true, true_or, or_true, or_self, false_or, or_false, gd_T, not_true_eq_false, not_false_eq_true, ↓reduceIte, h1]) (by simp (disch := omega) only [F_X11_place, F_X11_place_0, F_X11_place_27, F_X12_place, F_X12_place_0, F_X12_place_23, T_isBelow_2, T_isBelow_3, T_isBelow_4, T_isBelow_6, T_isBelow_8, T_isBelow_9, T_isBelow_10, T_isBelow_12, T_isBelow_16, T_isBelow_17, T_isBelow_31, T_isBelow_64, T_isBelow_256, T_isBelow_65536, T_in_1, T_in_2, T_in_3, T_in_4, T_in_5, T_in_8, T_in_11, T_in_16, T_in_30, T_in_63, T_in_255, T_in_65535, T_isIsland, T_isEight, bd_s, nm_s, bI_0, gd_n, gd_01, nI_cl, nI_add, nI_1, m4, Bool.false_eq_true, and_self, true_and, and_true, true_or, or_true, or_self, false_or, or_false, gd_T, not_true_eq_false, not_false_eq_true, ↓reduceIte, h1])
  by_cases h2 : x4 = -1 ∨ bel x4 8
  rotate_left
  · have g1 : ¬ x4 = -1 := fun q => h2 (Or.inl q)
    have g2 : ¬ bel x4 8 := fun q => h2 (Or.inr q)
    exact Both.no 0 hn hR (by simp (disch := omega) only [F_X11_place, F_X11_place_0, F_X11_place_27, F_X12_place, F_X12_place_0, F_X12_place_23, T_isBelow_2, T_isBelow_3, T_isBelow_4, T_isBelow_6, T_isBelow_8, T_isBelow_9, T_isBelow_10, T_isBelow_12, T_isBelow_16, T_isBelow_17, T_isBelow_31, T_isBelow_64, T_isBelow_256, T_isBelow_65536, T_in_1, T_in_2, T_in_3, T_in_4, T_in_5, T_in_8, T_in_11, T_in_16, T_in_30, T_in_63, T_in_255, T_in_65535, T_isIsland, T_isEight, bd_s, nm_s, bI_0, gd_n, gd_01, nI_cl, nI_add, nI_1, m4, Bool.false_eq_true, and_self, true_and, and_true, true_or, or_true, or_self, false_or, or_false, gd_T, not_true_eq_false, not_false_eq_true, ↓reduceIte, h1, g1, g2]) (by simp (disch := omega) only [F_X11_place, F_X11_place_0, F_X11_place_27, F_X12_place, F_X12_place_0, F_X12_place_23, T_isBelow_2, T_isBelow_3, T_isBelow_4, T_isBelow_6, T_isBelow_8, T_isBelow_9, T_isBelow_10, T_isBelow_12, T_isBelow_16, T_isBelow_17, T_isBelow_31, T_isBelow_64, T_isBelow_256, T_isBelow_65536, T_in_1, T_in_2, T_in_3, T_in_4, T_in_5, T_in_8, T_in_11, T_in_16, T_in_30, T_in_63, T_in_255, T_in_65535, T_isIsland, T_isEight, bd_s, nm_s, bI_0, gd_n, gd_01, nI_cl, nI_add, nI_1, m4, Bool.false_eq_true, and_self, true_and, and_true, true_or, or_true, or_self, false_or, or_false, gd_T, not_true_eq_false, not_false_eq_true, ↓reduceIte, h1, g1, g2])
  have E1 : F_X11_place x1 x2 x3 x4 σ = F_X11_place_27 x1 x2 x3 x4 σ := by
    by_cases g : x4 = -1
    · simp (disch := omega) only [F_X11_place, F_X11_place_0, T_isBelow_2, T_isBelow_3, T_isBelow_4, T_isBelow_6, T_isBelow_8, T_isBelow_9, T_isBelow_10, T_isBelow_12, T_isBelow_16, T_isBelow_17, T_isBelow_31, T_isBelow_64, T_isBelow_256, T_isBelow_65536, T_in_1, T_in_2, T_in_3, T_in_4, T_in_5, T_in_8, T_in_11, T_in_16, T_in_30, T_in_63, T_in_255, T_in_65535, T_isIsland, T_isEight, bd_s, nm_s, bI_0, gd_n, gd_01, nI_cl, nI_add, nI_1, m4, Bool.false_eq_true, and_self, true_and, and_true, true_or, or_true, or_self, false_or, or_false, gd_T, not_true_eq_false, not_false_eq_true, ↓reduceIte, h1, if_pos g]
    · have g2 := h2.resolve_left g
      simp (disch := omega) only [F_X11_place, F_X11_place_0, T_isBelow_2, T_isBelow_3, T_isBelow_4, T_isBelow_6, T_isBelow_8, T_isBelow_9, T_isBelow_10, T_isBelow_12, T_isBelow_16, T_isBelow_17, T_isBelow_31, T_isBelow_64, T_isBelow_256, T_isBelow_65536, T_in_1, T_in_2, T_in_3, T_in_4, T_in_5, T_in_8, T_in_11, T_in_16, T_in_30, T_in_63, T_in_255, T_in_65535, T_isIsland, T_isEight, bd_s, nm_s, bI_0, gd_n, gd_01, nI_cl, nI_add, nI_1, m4, Bool.false_eq_true, and_self, true_and, and_true, true_or, or_true, or_self, false_or, or_false, gd_T, not_true_eq_false, not_false_eq_true, ↓reduceIte, h1, g, g2]
  have E2 : ∀ τ, F_X12_place x1 x2 x3 x4 τ = F_X12_place_23 x1 x2 x3 x4 τ := by
    intro τ
    by_cases g : x4 = -1
    · simp (disch := omega) only [F_X12_place, F_X12_place_0, T_isBelow_2, T_isBelow_3, T_isBelow_4, T_isBelow_6, T_isBelow_8, T_isBelow_9, T_isBelow_10, T_isBelow_12, T_isBelow_16, T_isBelow_17, T_isBelow_31, T_isBelow_64, T_isBelow_256, T_isBelow_65536, T_in_1, T_in_2, T_in_3, T_in_4, T_in_5, T_in_8, T_in_11, T_in_16, T_in_30, T_in_63, T_in_255, T_in_65535, T_isIsland, T_isEight, bd_s, nm_s, bI_0, gd_n, gd_01, nI_cl, nI_add, nI_1, m4, Bool.false_eq_true, and_self, true_and, and_true, true_or, or_true, or_self, false_or, or_false, gd_T, not_true_eq_false, not_false_eq_true, ↓reduceIte, h1, if_pos g]
    · have g2 := h2.resolve_left g
      simp (disch := omega) only [F_X12_place, F_X12_place_0, T_isBelow_2, T_isBelow_3, T_isBelow_4, T_isBelow_6, T_isBelow_8, T_isBelow_9, T_isBelow_10, T_isBelow_12, T_isBelow_16, T_isBelow_17, T_isBelow_31, T_isBelow_64, T_isBelow_256, T_isBelow_65536, T_in_1, T_in_2, T_in_3, T_in_4, T_in_5, T_in_8, T_in_11, T_in_16, T_in_30, T_in_63, T_in_255, T_in_65535, T_isIsland, T_isEight, bd_s, nm_s, bI_0, gd_n, gd_01, nI_cl, nI_add, nI_1, m4, Bool.false_eq_true, and_self, true_and, and_true, true_or, or_true, or_self, false_or, or_false, gd_T, not_true_eq_false, not_false_eq_true, ↓reduceIte, h1, g, g2]
  have T1 := @T_isTold W σ w0 w2 x3
  have T2 := @T_isPlace W σ w0 w3 x3
  have hc : (x3 = -1 ∧ bel x2 4) ∨ (¬ x3 = -1 ∧ isT W x3 ∧ x3 < x1) ∨ (¬ (x3 = -1 ∧ bel x2 4) ∧ ¬ (¬ x3 = -1 ∧ isT W x3 ∧ x3 < x1)) := by
    by_cases a : (x3 = -1 ∧ bel x2 4)
    · exact Or.inl a
    · by_cases b : (¬ x3 = -1 ∧ isT W x3 ∧ x3 < x1)
      · exact Or.inr (Or.inl b)
      · exact Or.inr (Or.inr ⟨a, b⟩)
  by_cases hx : ¬ (x3 = -1 ∧ bel x2 4) ∧ ¬ (¬ x3 = -1 ∧ isT W x3 ∧ x3 < x1)
  · by_cases g : x3 = -1
    · have g2 : ¬ bel x2 4 := fun q => hx.1 ⟨g, q⟩
      exact Both.no 0 hn hR (by rw [E1]; simp (disch := omega) only [F_X11_place_27, T_isBelow_2, T_isBelow_3, T_isBelow_4, T_isBelow_6, T_isBelow_8, T_isBelow_9, T_isBelow_10, T_isBelow_12, T_isBelow_16, T_isBelow_17, T_isBelow_31, T_isBelow_64, T_isBelow_256, T_isBelow_65536, T_in_1, T_in_2, T_in_3, T_in_4, T_in_5, T_in_8, T_in_11, T_in_16, T_in_30, T_in_63, T_in_255, T_in_65535, T_isIsland, T_isEight, bd_s, nm_s, bI_0, gd_n, gd_01, nI_cl, nI_add, nI_1, m4, Bool.false_eq_true, and_self, true_and, and_true, true_or, or_true, or_self, false_or, or_false, gd_T, not_true_eq_false, not_false_eq_true, ↓reduceIte, if_pos g, g2]) (by rw [E2]; simp (disch := omega) only [F_X12_place_23, T_isBelow_2, T_isBelow_3, T_isBelow_4, T_isBelow_6, T_isBelow_8, T_isBelow_9, T_isBelow_10, T_isBelow_12, T_isBelow_16, T_isBelow_17, T_isBelow_31, T_isBelow_64, T_isBelow_256, T_isBelow_65536, T_in_1, T_in_2, T_in_3, T_in_4, T_in_5, T_in_8, T_in_11, T_in_16, T_in_30, T_in_63, T_in_255, T_in_65535, T_isIsland, T_isEight, bd_s, nm_s, bI_0, gd_n, gd_01, nI_cl, nI_add, nI_1, m4, Bool.false_eq_true, and_self, true_and, and_true, true_or, or_true, or_self, false_or, or_false, gd_T, not_true_eq_false, not_false_eq_true, ↓reduceIte, if_pos g, g2])
    · by_cases g2 : isT W x3
      · have g3 : ¬ x3 < x1 := fun q => hx.2 ⟨g, g2, q⟩
        exact Both.no 0 hn hR (by rw [E1]; simp (disch := omega) only [F_X11_place_27, T_isBelow_2, T_isBelow_3, T_isBelow_4, T_isBelow_6, T_isBelow_8, T_isBelow_9, T_isBelow_10, T_isBelow_12, T_isBelow_16, T_isBelow_17, T_isBelow_31, T_isBelow_64, T_isBelow_256, T_isBelow_65536, T_in_1, T_in_2, T_in_3, T_in_4, T_in_5, T_in_8, T_in_11, T_in_16, T_in_30, T_in_63, T_in_255, T_in_65535, T_isIsland, T_isEight, bd_s, nm_s, bI_0, gd_n, gd_01, nI_cl, nI_add, nI_1, m4, Bool.false_eq_true, and_self, true_and, and_true, true_or, or_true, or_self, false_or, or_false, gd_T, not_true_eq_false, not_false_eq_true, ↓reduceIte, g, g2, g3, T1]) (by rw [E2]; simp (disch := omega) only [F_X12_place_23, T_isBelow_2, T_isBelow_3, T_isBelow_4, T_isBelow_6, T_isBelow_8, T_isBelow_9, T_isBelow_10, T_isBelow_12, T_isBelow_16, T_isBelow_17, T_isBelow_31, T_isBelow_64, T_isBelow_256, T_isBelow_65536, T_in_1, T_in_2, T_in_3, T_in_4, T_in_5, T_in_8, T_in_11, T_in_16, T_in_30, T_in_63, T_in_255, T_in_65535, T_isIsland, T_isEight, bd_s, nm_s, bI_0, gd_n, gd_01, nI_cl, nI_add, nI_1, m4, Bool.false_eq_true, and_self, true_and, and_true, true_or, or_true, or_self, false_or, or_false, gd_T, not_true_eq_false, not_false_eq_true, ↓reduceIte, g, g2, g3, T2])
      · exact Both.no 0 hn hR (by rw [E1]; simp (disch := omega) only [F_X11_place_27, T_isBelow_2, T_isBelow_3, T_isBelow_4, T_isBelow_6, T_isBelow_8, T_isBelow_9, T_isBelow_10, T_isBelow_12, T_isBelow_16, T_isBelow_17, T_isBelow_31, T_isBelow_64, T_isBelow_256, T_isBelow_65536, T_in_1, T_in_2, T_in_3, T_in_4, T_in_5, T_in_8, T_in_11, T_in_16, T_in_30, T_in_63, T_in_255, T_in_65535, T_isIsland, T_isEight, bd_s, nm_s, bI_0, gd_n, gd_01, nI_cl, nI_add, nI_1, m4, Bool.false_eq_true, and_self, true_and, and_true, true_or, or_true, or_self, false_or, or_false, gd_T, not_true_eq_false, not_false_eq_true, ↓reduceIte, g, g2, T1]) (by rw [E2]; simp (disch := omega) only [F_X12_place_23, T_isBelow_2, T_isBelow_3, T_isBelow_4, T_isBelow_6, T_isBelow_8, T_isBelow_9, T_isBelow_10, T_isBelow_12, T_isBelow_16, T_isBelow_17, T_isBelow_31, T_isBelow_64, T_isBelow_256, T_isBelow_65536, T_in_1, T_in_2, T_in_3, T_in_4, T_in_5, T_in_8, T_in_11, T_in_16, T_in_30, T_in_63, T_in_255, T_in_65535, T_isIsland, T_isEight, bd_s, nm_s, bI_0, gd_n, gd_01, nI_cl, nI_add, nI_1, m4, Bool.false_eq_true, and_self, true_and, and_true, true_or, or_true, or_self, false_or, or_false, gd_T, not_true_eq_false, not_false_eq_true, ↓reduceIte, g, g2, T2])
  obtain ⟨p, hp, rfl⟩ := bel_of h1
  obtain ⟨l, rfl, hl⟩ := e1_of h2
  have ht := w0.told
  have hw := w0.wet
  have key : ∃ (o : Option Nat) (i : Nat), x3 = e1 o ∧ (∀ k, o = some k → k < p ∧ wIs W k = true) ∧ i < 4 ∧ (if e1 o = -1 then x2 else (0 : Int32)) = nI i ∧ F_X11_place_27 (nI p) x2 x3 (e1 l) σ = F_X11_place_61 (nI p) x2 x3 (e1 l) σ ∧ ∀ τ, EM 70 0 W τ → F_X12_place_23 (nI p) x2 x3 (e1 l) τ = F_X12_place_53 (nI p) x2 x3 (e1 l) τ := by
    by_cases g : x3 = -1
    · have g2 : bel x2 4 := by
        refine Classical.byContradiction (fun q => hx ⟨fun r => q r.2, fun r => r.1 g⟩)
      obtain ⟨i, hi, rfl⟩ := bel_of g2
      subst g
      refine ⟨none, i, rfl, fun k q => (by cases q), hi, rfl, ?_, fun τ _ => ?_⟩
      · simp (disch := omega) only [F_X11_place_27, T_isBelow_2, T_isBelow_3, T_isBelow_4, T_isBelow_6, T_isBelow_8, T_isBelow_9, T_isBelow_10, T_isBelow_12, T_isBelow_16, T_isBelow_17, T_isBelow_31, T_isBelow_64, T_isBelow_256, T_isBelow_65536, T_in_1, T_in_2, T_in_3, T_in_4, T_in_5, T_in_8, T_in_11, T_in_16, T_in_30, T_in_63, T_in_255, T_in_65535, T_isIsland, T_isEight, bd_s, nm_s, bI_0, gd_n, gd_01, nI_cl, nI_add, nI_1, m4, Bool.false_eq_true, and_self, true_and, and_true, true_or, or_true, or_self, false_or, or_false, gd_T, not_true_eq_false, not_false_eq_true, ↓reduceIte, g2]
      · simp (disch := omega) only [F_X12_place_23, T_isBelow_2, T_isBelow_3, T_isBelow_4, T_isBelow_6, T_isBelow_8, T_isBelow_9, T_isBelow_10, T_isBelow_12, T_isBelow_16, T_isBelow_17, T_isBelow_31, T_isBelow_64, T_isBelow_256, T_isBelow_65536, T_in_1, T_in_2, T_in_3, T_in_4, T_in_5, T_in_8, T_in_11, T_in_16, T_in_30, T_in_63, T_in_255, T_in_65535, T_isIsland, T_isEight, bd_s, nm_s, bI_0, gd_n, gd_01, nI_cl, nI_add, nI_1, m4, Bool.false_eq_true, and_self, true_and, and_true, true_or, or_true, or_self, false_or, or_false, gd_T, not_true_eq_false, not_false_eq_true, ↓reduceIte, g2]
    · have g2 : isT W x3 ∧ x3 < nI p := by
        refine Classical.byContradiction (fun q => hx ⟨fun r => g r.1, fun r => q r.2⟩)
      obtain ⟨g3, g4⟩ := g2
      obtain ⟨q, hq, hq2, rfl⟩ := isT_of g3
      have g5 : q < p := (nI_ltI (by omega) (by omega)).mp g4
      refine ⟨some q, 0, rfl, fun k r => (by cases r; exact ⟨g5, hq2⟩), by decide, if_neg (show ¬ e1 (some q) = -1 from g), ?_, fun τ hτ => ?_⟩
      · simp (disch := omega) only [F_X11_place_27, T_isBelow_2, T_isBelow_3, T_isBelow_4, T_isBelow_6, T_isBelow_8, T_isBelow_9, T_isBelow_10, T_isBelow_12, T_isBelow_16, T_isBelow_17, T_isBelow_31, T_isBelow_64, T_isBelow_256, T_isBelow_65536, T_in_1, T_in_2, T_in_3, T_in_4, T_in_5, T_in_8, T_in_11, T_in_16, T_in_30, T_in_63, T_in_255, T_in_65535, T_isIsland, T_isEight, bd_s, nm_s, bI_0, gd_n, gd_01, nI_cl, nI_add, nI_1, m4, Bool.false_eq_true, and_self, true_and, and_true, true_or, or_true, or_self, false_or, or_false, gd_T, not_true_eq_false, not_false_eq_true, ↓reduceIte, g, g3, g4, T1]
      · have T2 := @T_isPlace W τ w0 hτ (nI q)
        simp (disch := omega) only [F_X12_place_23, T_isBelow_2, T_isBelow_3, T_isBelow_4, T_isBelow_6, T_isBelow_8, T_isBelow_9, T_isBelow_10, T_isBelow_12, T_isBelow_16, T_isBelow_17, T_isBelow_31, T_isBelow_64, T_isBelow_256, T_isBelow_65536, T_in_1, T_in_2, T_in_3, T_in_4, T_in_5, T_in_8, T_in_11, T_in_16, T_in_30, T_in_63, T_in_255, T_in_65535, T_isIsland, T_isEight, bd_s, nm_s, bI_0, gd_n, gd_01, nI_cl, nI_add, nI_1, m4, Bool.false_eq_true, and_self, true_and, and_true, true_or, or_true, or_self, false_or, or_false, gd_T, not_true_eq_false, not_false_eq_true, ↓reduceIte, g, g3, g4, T2]
  obtain ⟨o, i, rfl, ho, hi4, hi, K1, K2⟩ := key
  have eT : σ.1 1 6 = nI (wTol W) := w2.2.2.2.2.2.2.1
  have eWt : σ.1 1 7 = nI (wWet W) := w2.2.2.2.2.2.2.2.1
  have mT : σ.1 69 0 = nI (wTol W) := w3.2.2.2.2.2.2.1
  have mWt : σ.1 69 1 = nI (wWet W) := w3.2.2.2.2.2.2.2.1
  have ho16 : ∀ k, o = some k → k < 16 := fun k q => by have := (ho k q).1; omega
  have hl16 : ∀ k, l = some k → k < 16 := fun k q => by have := hl k q; omega
  refine Both.mk (E1.trans (K1.trans (t_place61 hp ht hw eT eWt hi))) ((E2 _).trans ((K2 _ (EM_on ((((((eqOn_wr (by decide)).tr (eqOn_wr (by decide))).tr (eqOn_wrR (by decide))).tr (eqOn_wrR (by decide))).tr (eqOn_wrR (by decide))).tr (eqOn_wrR (by decide))) w3)).trans (t_place53 hp ht hw mT mWt hi ho16 hl16))) ?_
  have told' : ∀ k, wIs W k = true → (decide (k < 8) && (wTol W ||| 2 ^ p).testBit k) = true := by
    intro k hk
    have h8 := wIs_lt hk
    rw [wIs_bit h8] at hk
    rw [Nat.testBit_or, hk]
    simp [h8]
  refine Rel_W hn hR ((((((((((((eqOn_wr (by decide)).tr (eqOn_wr (by decide))).tr (eqOn_wrR (by decide))).tr (eqOn_wrR (by decide))).tr (eqOn_wrR (by decide))).tr (eqOn_wrR (by decide))).tr (eqOn_wr (by decide))).tr (eqOn_wr (by decide))).tr (eqOn_wrR (by decide))).tr (eqOn_wrR (by decide))).tr (eqOn_wrR (by decide))).tr (eqOn_wrR (by decide))) ⟨((wWay W, fset (wIsl W) p i), (fset (wWin W) p o, fset (wLok W) p l, fset (wFli W) p none, wKey W), (wTol W ||| 2 ^ p, wWet W &&& (255 - 2 ^ p), wHea W), W.2.2.2), ?_, Nat.le_succ_of_le w1, ?_, ?_⟩
  · obtain ⟨v1, v2, v3, v4, v5, v6, v7, v8, v9, v10⟩ := w0
    refine ⟨v1, v2, fun j hj => ?_, fun j k hj hk => ?_, fun j k hj hk => ?_, fun j k hj hk => ?_, fun j k hj hk => ?_, or_lt v8 (pow_lt8 hp), wet_lt v9, v10⟩
    · show fset (wIsl W) p i j < 4
      unfold fset
      split
      · exact hi4
      · exact v3 j hj
    · replace hk : fset (wWin W) p o j = some k := hk
      by_cases q : j = p
      · rw [q, fset_s] at hk
        rw [q]
        exact ⟨(ho k hk).1, told' k (ho k hk).2⟩
      · rw [fset_n q] at hk
        exact ⟨(v4 j k hj hk).1, told' k (v4 j k hj hk).2⟩
    · replace hk : fset (wLok W) p l j = some k := hk
      by_cases q : j = p
      · rw [q, fset_s] at hk
        exact hl k hk
      · rw [fset_n q] at hk
        exact v5 j k hj hk
    · replace hk : fset (wFli W) p none j = some k := hk
      by_cases q : j = p
      · rw [q, fset_s] at hk
        cases hk
      · rw [fset_n q] at hk
        exact ⟨(v6 j k hj hk).1, told' k (v6 j k hj hk).2⟩
    · exact (v7 j k hj hk).imp (told' k) id
  · obtain ⟨c1, c2, c3, c4, c5, c6, c7, c8, c9⟩ := w2
    exact ⟨c1, fun j hj => upd_map (c2 j hj), fun j hj => upd_map (c3 j hj), fun j hj => upd_map (c4 j hj), fun j hj => upd_map (e := e1) (v := none) (c5 j hj), c6, rfl, rfl, c9⟩
  · obtain ⟨c1, c2, c3, c4, c5, c6, c7, c8, c9⟩ := w3
    exact ⟨c1, fun j hj => upd_map (c2 j hj), fun j hj => upd_map (c3 j hj), fun j hj => upd_map (c4 j hj), fun j hj => upd_map (e := e2) (v := none) (c5 j hj), c6, rfl, rfl, c9⟩
theorem t_wet {w p : Nat} (x2 : Int32) (hw : w < 256) (hp : p < 8) : ∃ v, v < 256 ∧ (if x2 = 0 then (nI w &&& (((1 : Int32) <<< (nI p &&& 31)) ^^^ (-1 : Int32))) else (nI w ||| ((1 : Int32) <<< (nI p &&& 31)))) = nI v := by
  by_cases h : x2 = 0
  · exact ⟨_, wet_lt hw, by rw [if_pos h, bit_clr w hw p hp]⟩
  · exact ⟨w ||| 2 ^ p, or_lt hw (pow_lt8 hp), by rw [if_neg h, bit_1 p hp, bit_or w hw _ (pow_lt8 hp)]⟩
theorem s_more {n : Nat} {σ : zSt} (hn : n < 512) (hR : Rel n σ) (x1 x2 x3 : Int32) : Both n (F_X11_more x1 x2 x3) (F_X12_more x1 x2 x3) σ := by
  obtain ⟨-, ⟨W, w0, w1, w2, w3⟩, -⟩ := id hR
  have T1 := fun x => @T_isTold W σ w0 w2 x
  have T2 := fun x => @T_isPlace W σ w0 w3 x
  by_cases h1 : isT W x1
  rotate_left
  · exact Both.no 0 hn hR (by simp (disch := omega) only [F_X11_more, F_X11_more_0, F_X12_more, F_X12_more_0, T_isBelow_2, T_isBelow_3, T_isBelow_4, T_isBelow_6, T_isBelow_8, T_isBelow_9, T_isBelow_10, T_isBelow_12, T_isBelow_16, T_isBelow_17, T_isBelow_31, T_isBelow_64, T_isBelow_256, T_isBelow_65536, T_in_1, T_in_2, T_in_3, T_in_4, T_in_5, T_in_8, T_in_11, T_in_16, T_in_30, T_in_63, T_in_255, T_in_65535, T_isIsland, T_isEight, bd_s, nm_s, bI_0, gd_n, gd_01, nI_cl, nI_add, nI_1, m4, Bool.false_eq_true, and_self, true_and, and_true, true_or, or_true, or_self, false_or, or_false, gd_T, not_true_eq_false, not_false_eq_true, ↓reduceIte, h1, T1, T2]) (by simp (disch := omega) only [F_X11_more, F_X11_more_0, F_X12_more, F_X12_more_0, T_isBelow_2, T_isBelow_3, T_isBelow_4, T_isBelow_6, T_isBelow_8, T_isBelow_9, T_isBelow_10, T_isBelow_12, T_isBelow_16, T_isBelow_17, T_isBelow_31, T_isBelow_64, T_isBelow_256, T_isBelow_65536, T_in_1, T_in_2, T_in_3, T_in_4, T_in_5, T_in_8, T_in_11, T_in_16, T_in_30, T_in_63, T_in_255, T_in_65535, T_isIsland, T_isEight, bd_s, nm_s, bI_0, gd_n, gd_01, nI_cl, nI_add, nI_1, m4, Bool.false_eq_true, and_self, true_and, and_true, true_or, or_true, or_self, false_or, or_false, gd_T, not_true_eq_false, not_false_eq_true, ↓reduceIte, h1, T1, T2])
  by_cases hx : x3 = -1 ∨ (isT W x3 ∧ x1 < x3)
  rotate_left
  · have g1 : ¬ x3 = -1 := fun q => hx (Or.inl q)
    by_cases g2 : isT W x3
    · have g3 : ¬ x1 < x3 := fun q => hx (Or.inr ⟨g2, q⟩)
      exact Both.no 0 hn hR (by simp (disch := omega) only [F_X11_more, F_X11_more_0, F_X12_more, F_X12_more_0, T_isBelow_2, T_isBelow_3, T_isBelow_4, T_isBelow_6, T_isBelow_8, T_isBelow_9, T_isBelow_10, T_isBelow_12, T_isBelow_16, T_isBelow_17, T_isBelow_31, T_isBelow_64, T_isBelow_256, T_isBelow_65536, T_in_1, T_in_2, T_in_3, T_in_4, T_in_5, T_in_8, T_in_11, T_in_16, T_in_30, T_in_63, T_in_255, T_in_65535, T_isIsland, T_isEight, bd_s, nm_s, bI_0, gd_n, gd_01, nI_cl, nI_add, nI_1, m4, Bool.false_eq_true, and_self, true_and, and_true, true_or, or_true, or_self, false_or, or_false, gd_T, not_true_eq_false, not_false_eq_true, ↓reduceIte, h1, g1, g2, g3, T1, T2]) (by simp (disch := omega) only [F_X11_more, F_X11_more_0, F_X12_more, F_X12_more_0, T_isBelow_2, T_isBelow_3, T_isBelow_4, T_isBelow_6, T_isBelow_8, T_isBelow_9, T_isBelow_10, T_isBelow_12, T_isBelow_16, T_isBelow_17, T_isBelow_31, T_isBelow_64, T_isBelow_256, T_isBelow_65536, T_in_1, T_in_2, T_in_3, T_in_4, T_in_5, T_in_8, T_in_11, T_in_16, T_in_30, T_in_63, T_in_255, T_in_65535, T_isIsland, T_isEight, bd_s, nm_s, bI_0, gd_n, gd_01, nI_cl, nI_add, nI_1, m4, Bool.false_eq_true, and_self, true_and, and_true, true_or, or_true, or_self, false_or, or_false, gd_T, not_true_eq_false, not_false_eq_true, ↓reduceIte, h1, g1, g2, g3, T1, T2])
    · exact Both.no 0 hn hR (by simp (disch := omega) only [F_X11_more, F_X11_more_0, F_X12_more, F_X12_more_0, T_isBelow_2, T_isBelow_3, T_isBelow_4, T_isBelow_6, T_isBelow_8, T_isBelow_9, T_isBelow_10, T_isBelow_12, T_isBelow_16, T_isBelow_17, T_isBelow_31, T_isBelow_64, T_isBelow_256, T_isBelow_65536, T_in_1, T_in_2, T_in_3, T_in_4, T_in_5, T_in_8, T_in_11, T_in_16, T_in_30, T_in_63, T_in_255, T_in_65535, T_isIsland, T_isEight, bd_s, nm_s, bI_0, gd_n, gd_01, nI_cl, nI_add, nI_1, m4, Bool.false_eq_true, and_self, true_and, and_true, true_or, or_true, or_self, false_or, or_false, gd_T, not_true_eq_false, not_false_eq_true, ↓reduceIte, h1, g1, g2, T1, T2]) (by simp (disch := omega) only [F_X11_more, F_X11_more_0, F_X12_more, F_X12_more_0, T_isBelow_2, T_isBelow_3, T_isBelow_4, T_isBelow_6, T_isBelow_8, T_isBelow_9, T_isBelow_10, T_isBelow_12, T_isBelow_16, T_isBelow_17, T_isBelow_31, T_isBelow_64, T_isBelow_256, T_isBelow_65536, T_in_1, T_in_2, T_in_3, T_in_4, T_in_5, T_in_8, T_in_11, T_in_16, T_in_30, T_in_63, T_in_255, T_in_65535, T_isIsland, T_isEight, bd_s, nm_s, bI_0, gd_n, gd_01, nI_cl, nI_add, nI_1, m4, Bool.false_eq_true, and_self, true_and, and_true, true_or, or_true, or_self, false_or, or_false, gd_T, not_true_eq_false, not_false_eq_true, ↓reduceIte, h1, g1, g2, T1, T2])
  have E1 : F_X11_more x1 x2 x3 σ = F_X11_more_34 x1 x2 x3 σ := by
    by_cases g : x3 = -1
    · simp (disch := omega) only [F_X11_more, F_X11_more_0, T_isBelow_2, T_isBelow_3, T_isBelow_4, T_isBelow_6, T_isBelow_8, T_isBelow_9, T_isBelow_10, T_isBelow_12, T_isBelow_16, T_isBelow_17, T_isBelow_31, T_isBelow_64, T_isBelow_256, T_isBelow_65536, T_in_1, T_in_2, T_in_3, T_in_4, T_in_5, T_in_8, T_in_11, T_in_16, T_in_30, T_in_63, T_in_255, T_in_65535, T_isIsland, T_isEight, bd_s, nm_s, bI_0, gd_n, gd_01, nI_cl, nI_add, nI_1, m4, Bool.false_eq_true, and_self, true_and, and_true, true_or, or_true, or_self, false_or, or_false, gd_T, not_true_eq_false, not_false_eq_true, ↓reduceIte, h1, T1, if_pos g]
    · obtain ⟨g2, g3⟩ := hx.resolve_left g
      simp (disch := omega) only [F_X11_more, F_X11_more_0, T_isBelow_2, T_isBelow_3, T_isBelow_4, T_isBelow_6, T_isBelow_8, T_isBelow_9, T_isBelow_10, T_isBelow_12, T_isBelow_16, T_isBelow_17, T_isBelow_31, T_isBelow_64, T_isBelow_256, T_isBelow_65536, T_in_1, T_in_2, T_in_3, T_in_4, T_in_5, T_in_8, T_in_11, T_in_16, T_in_30, T_in_63, T_in_255, T_in_65535, T_isIsland, T_isEight, bd_s, nm_s, bI_0, gd_n, gd_01, nI_cl, nI_add, nI_1, m4, Bool.false_eq_true, and_self, true_and, and_true, true_or, or_true, or_self, false_or, or_false, gd_T, not_true_eq_false, not_false_eq_true, ↓reduceIte, h1, T1, g, g2, g3]
  have E2 : ∀ τ, EM 70 0 W τ → F_X12_more x1 x2 x3 τ = F_X12_more_28 x1 x2 x3 τ := by
    intro τ hτ
    have T2 := fun x => @T_isPlace W τ w0 hτ x
    by_cases g : x3 = -1
    · simp (disch := omega) only [F_X12_more, F_X12_more_0, T_isBelow_2, T_isBelow_3, T_isBelow_4, T_isBelow_6, T_isBelow_8, T_isBelow_9, T_isBelow_10, T_isBelow_12, T_isBelow_16, T_isBelow_17, T_isBelow_31, T_isBelow_64, T_isBelow_256, T_isBelow_65536, T_in_1, T_in_2, T_in_3, T_in_4, T_in_5, T_in_8, T_in_11, T_in_16, T_in_30, T_in_63, T_in_255, T_in_65535, T_isIsland, T_isEight, bd_s, nm_s, bI_0, gd_n, gd_01, nI_cl, nI_add, nI_1, m4, Bool.false_eq_true, and_self, true_and, and_true, true_or, or_true, or_self, false_or, or_false, gd_T, not_true_eq_false, not_false_eq_true, ↓reduceIte, h1, T2, if_pos g]
    · obtain ⟨g2, g3⟩ := hx.resolve_left g
      simp (disch := omega) only [F_X12_more, F_X12_more_0, T_isBelow_2, T_isBelow_3, T_isBelow_4, T_isBelow_6, T_isBelow_8, T_isBelow_9, T_isBelow_10, T_isBelow_12, T_isBelow_16, T_isBelow_17, T_isBelow_31, T_isBelow_64, T_isBelow_256, T_isBelow_65536, T_in_1, T_in_2, T_in_3, T_in_4, T_in_5, T_in_8, T_in_11, T_in_16, T_in_30, T_in_63, T_in_255, T_in_65535, T_isIsland, T_isEight, bd_s, nm_s, bI_0, gd_n, gd_01, nI_cl, nI_add, nI_1, m4, Bool.false_eq_true, and_self, true_and, and_true, true_or, or_true, or_self, false_or, or_false, gd_T, not_true_eq_false, not_false_eq_true, ↓reduceIte, h1, T2, g, g2, g3]
  obtain ⟨p, hp, hp2, rfl⟩ := isT_of h1
  have key : ∃ o : Option Nat, x3 = e1 o ∧ ∀ k, o = some k → p < k ∧ wIs W k = true := by
    rcases hx with rfl | ⟨g2, g3⟩
    · exact ⟨none, rfl, fun k q => (by cases q)⟩
    · obtain ⟨q, hq, hq2, rfl⟩ := isT_of g2
      exact ⟨some q, rfl, fun k r => (by cases r; exact ⟨(nI_ltI (by omega) (by omega)).mp g3, hq2⟩)⟩
  obtain ⟨o, rfl, ho⟩ := key
  have ho16 : ∀ k, o = some k → k < 16 := fun k q => by have := wIs_lt (ho k q).2; omega
  obtain ⟨v, hv, ev⟩ := t_wet (p := p) x2 w0.wet hp
  have eWt : σ.1 1 7 = nI (wWet W) := w2.2.2.2.2.2.2.2.1
  have mWt : σ.1 69 1 = nI (wWet W) := w3.2.2.2.2.2.2.2.1
  apply Both.mk (r := 1) (σ1 := zwr (zwr σ 1 7 (nI v)) 6 p (e1 o)) (σ2 := zwr (zwr (zwr (zwr σ 1 7 (nI v)) 6 p (e1 o)) 69 1 (nI v)) 74 p (e2 o))
  · rw [E1]
    simp (disch := omega) only [F_X11_more_34, T_isBelow_2, T_isBelow_3, T_isBelow_4, T_isBelow_6, T_isBelow_8, T_isBelow_9, T_isBelow_10, T_isBelow_12, T_isBelow_16, T_isBelow_17, T_isBelow_31, T_isBelow_64, T_isBelow_256, T_isBelow_65536, T_in_1, T_in_2, T_in_3, T_in_4, T_in_5, T_in_8, T_in_11, T_in_16, T_in_30, T_in_63, T_in_255, T_in_65535, T_isIsland, T_isEight, bd_s, nm_s, bI_0, gd_n, gd_01, nI_cl, nI_add, nI_1, m4, Bool.false_eq_true, and_self, true_and, and_true, true_or, or_true, or_self, false_or, or_false, gd_T, not_true_eq_false, not_false_eq_true, ↓reduceIte, eWt, ev]
  · rw [E2 _ (EM_on ((eqOn_wr (by decide)).tr (eqOn_wrR (by decide))) w3)]
    simp (disch := omega) only [F_X12_more_28, T_isBelow_2, T_isBelow_3, T_isBelow_4, T_isBelow_6, T_isBelow_8, T_isBelow_9, T_isBelow_10, T_isBelow_12, T_isBelow_16, T_isBelow_17, T_isBelow_31, T_isBelow_64, T_isBelow_256, T_isBelow_65536, T_in_1, T_in_2, T_in_3, T_in_4, T_in_5, T_in_8, T_in_11, T_in_16, T_in_30, T_in_63, T_in_255, T_in_65535, T_isIsland, T_isEight, bd_s, nm_s, bI_0, gd_n, gd_01, nI_cl, nI_add, nI_1, m4, Bool.false_eq_true, and_self, true_and, and_true, true_or, or_true, or_self, false_or, or_false, gd_T, not_true_eq_false, not_false_eq_true, ↓reduceIte, zwr_r, Nat.reduceEqDiff, mWt, ev, e12 ho16]
  refine Rel_W hn hR ((((eqOn_wr (by decide)).tr (eqOn_wrR (by decide))).tr (eqOn_wr (by decide))).tr (eqOn_wrR (by decide))) ⟨(W.1, (wWin W, wLok W, fset (wFli W) p o, wKey W), (wTol W, v, wHea W), W.2.2.2), ?_, Nat.le_succ_of_le w1, ?_, ?_⟩
  · obtain ⟨v1, v2, v3, v4, v5, v6, v7, v8, v9, v10⟩ := w0
    refine ⟨v1, v2, v3, v4, v5, fun j k hj hk => ?_, v7, v8, hv, v10⟩
    replace hk : fset (wFli W) p o j = some k := hk
    by_cases q : j = p
    · rw [q, fset_s] at hk
      rw [q]
      exact ho k hk
    · rw [fset_n q] at hk
      exact v6 j k hj hk
  · obtain ⟨c1, c2, c3, c4, c5, c6, c7, c8, c9⟩ := w2
    exact ⟨c1, c2, c3, c4, fun j hj => upd_map (c5 j hj), c6, c7, rfl, c9⟩
  · obtain ⟨c1, c2, c3, c4, c5, c6, c7, c8, c9⟩ := w3
    exact ⟨c1, c2, c3, c4, fun j hj => upd_map (c5 j hj), c6, c7, rfl, c9⟩
theorem beast_i {x : Int32} : (if x < (8 : Int32) then (0 : Int32) else (if (11 : Int32) ≤ x then (0 : Int32) else (1 : Int32))) = bI (8 ≤ x.toInt ∧ x.toInt ≤ 10) := by
  have a : (8 : Int32).toInt = 8 := rfl
  have b : (11 : Int32).toInt = 11 := rfl
  simp only [i_lt, i_le, a, b]
  by_cases h1 : x.toInt < 8
  · rw [if_pos h1, bI_f (by omega)]
  · by_cases h2 : 11 ≤ x.toInt
    · rw [if_neg h1, if_pos h2, bI_f (by omega)]
    · rw [if_neg h1, if_neg h2, bI_t (by omega)]
theorem T_in_b {x : Int32} {σ : zSt} : F_X12_in x 8 10 σ = some (bI (8 ≤ x.toInt ∧ x.toInt ≤ 10), σ) := T_in
theorem s_key {n : Nat} {σ : zSt} (hn : n < 512) (hR : Rel n σ) (x1 x2 : Int32) : Both n (F_X11_key x1 x2) (F_X12_key x1 x2) σ := by
  obtain ⟨-, ⟨W, w0, w1, w2, w3⟩, -⟩ := id hR
  have T1 := fun x => @T_isTold W σ w0 w2 x
  have T2 := fun x => @T_isPlace W σ w0 w3 x
  by_cases h1 : bel x1 8
  rotate_left
  · exact Both.no 0 hn hR (by simp (disch := omega) only [F_X11_key, F_X11_key_0, F_X12_key, F_X12_key_0, T_isBelow_2, T_isBelow_3, T_isBelow_4, T_isBelow_6, T_isBelow_8, T_isBelow_9, T_isBelow_10, T_isBelow_12, T_isBelow_16, T_isBelow_17, T_isBelow_31, T_isBelow_64, T_isBelow_256, T_isBelow_65536, T_in_1, T_in_2, T_in_3, T_in_4, T_in_5, T_in_8, T_in_11, T_in_16, T_in_30, T_in_63, T_in_255, T_in_65535, T_isIsland, T_isEight, bd_s, nm_s, bI_0, gd_n, gd_01, nI_cl, nI_add, nI_1, m4, Bool.false_eq_true, and_self, true_and, and_true, true_or, or_true, or_self, false_or, or_false, gd_T, not_true_eq_false, not_false_eq_true, ↓reduceIte, h1, T1, T2, beast_i, T_in_b]) (by simp (disch := omega) only [F_X11_key, F_X11_key_0, F_X12_key, F_X12_key_0, T_isBelow_2, T_isBelow_3, T_isBelow_4, T_isBelow_6, T_isBelow_8, T_isBelow_9, T_isBelow_10, T_isBelow_12, T_isBelow_16, T_isBelow_17, T_isBelow_31, T_isBelow_64, T_isBelow_256, T_isBelow_65536, T_in_1, T_in_2, T_in_3, T_in_4, T_in_5, T_in_8, T_in_11, T_in_16, T_in_30, T_in_63, T_in_255, T_in_65535, T_isIsland, T_isEight, bd_s, nm_s, bI_0, gd_n, gd_01, nI_cl, nI_add, nI_1, m4, Bool.false_eq_true, and_self, true_and, and_true, true_or, or_true, or_self, false_or, or_false, gd_T, not_true_eq_false, not_false_eq_true, ↓reduceIte, h1, T1, T2, beast_i, T_in_b])
  by_cases hx : x2 = -1 ∨ (8 ≤ x2.toInt ∧ x2.toInt ≤ 10) ∨ isT W x2
  rotate_left
  · have g1 : ¬ x2 = -1 := fun q => hx (Or.inl q)
    have g2 : ¬ (8 ≤ x2.toInt ∧ x2.toInt ≤ 10) := fun q => hx (Or.inr (Or.inl q))
    have g3 : ¬ isT W x2 := fun q => hx (Or.inr (Or.inr q))
    exact Both.no 0 hn hR (by simp (disch := omega) only [F_X11_key, F_X11_key_0, F_X12_key, F_X12_key_0, T_isBelow_2, T_isBelow_3, T_isBelow_4, T_isBelow_6, T_isBelow_8, T_isBelow_9, T_isBelow_10, T_isBelow_12, T_isBelow_16, T_isBelow_17, T_isBelow_31, T_isBelow_64, T_isBelow_256, T_isBelow_65536, T_in_1, T_in_2, T_in_3, T_in_4, T_in_5, T_in_8, T_in_11, T_in_16, T_in_30, T_in_63, T_in_255, T_in_65535, T_isIsland, T_isEight, bd_s, nm_s, bI_0, gd_n, gd_01, nI_cl, nI_add, nI_1, m4, Bool.false_eq_true, and_self, true_and, and_true, true_or, or_true, or_self, false_or, or_false, gd_T, not_true_eq_false, not_false_eq_true, ↓reduceIte, h1, T1, T2, beast_i, T_in_b, g1, g2, g3]) (by simp (disch := omega) only [F_X11_key, F_X11_key_0, F_X12_key, F_X12_key_0, T_isBelow_2, T_isBelow_3, T_isBelow_4, T_isBelow_6, T_isBelow_8, T_isBelow_9, T_isBelow_10, T_isBelow_12, T_isBelow_16, T_isBelow_17, T_isBelow_31, T_isBelow_64, T_isBelow_256, T_isBelow_65536, T_in_1, T_in_2, T_in_3, T_in_4, T_in_5, T_in_8, T_in_11, T_in_16, T_in_30, T_in_63, T_in_255, T_in_65535, T_isIsland, T_isEight, bd_s, nm_s, bI_0, gd_n, gd_01, nI_cl, nI_add, nI_1, m4, Bool.false_eq_true, and_self, true_and, and_true, true_or, or_true, or_self, false_or, or_false, gd_T, not_true_eq_false, not_false_eq_true, ↓reduceIte, h1, T1, T2, beast_i, T_in_b, g1, g2, g3])
  have E1 : F_X11_key x1 x2 σ = F_X11_key_49 x1 x2 σ := by
    by_cases g : x2 = -1
    · simp (disch := omega) only [F_X11_key, F_X11_key_0, T_isBelow_2, T_isBelow_3, T_isBelow_4, T_isBelow_6, T_isBelow_8, T_isBelow_9, T_isBelow_10, T_isBelow_12, T_isBelow_16, T_isBelow_17, T_isBelow_31, T_isBelow_64, T_isBelow_256, T_isBelow_65536, T_in_1, T_in_2, T_in_3, T_in_4, T_in_5, T_in_8, T_in_11, T_in_16, T_in_30, T_in_63, T_in_255, T_in_65535, T_isIsland, T_isEight, bd_s, nm_s, bI_0, gd_n, gd_01, nI_cl, nI_add, nI_1, m4, Bool.false_eq_true, and_self, true_and, and_true, true_or, or_true, or_self, false_or, or_false, gd_T, not_true_eq_false, not_false_eq_true, ↓reduceIte, h1, T1, beast_i, if_pos g]
    · by_cases g2 : 8 ≤ x2.toInt ∧ x2.toInt ≤ 10
      · simp (disch := omega) only [F_X11_key, F_X11_key_0, T_isBelow_2, T_isBelow_3, T_isBelow_4, T_isBelow_6, T_isBelow_8, T_isBelow_9, T_isBelow_10, T_isBelow_12, T_isBelow_16, T_isBelow_17, T_isBelow_31, T_isBelow_64, T_isBelow_256, T_isBelow_65536, T_in_1, T_in_2, T_in_3, T_in_4, T_in_5, T_in_8, T_in_11, T_in_16, T_in_30, T_in_63, T_in_255, T_in_65535, T_isIsland, T_isEight, bd_s, nm_s, bI_0, gd_n, gd_01, nI_cl, nI_add, nI_1, m4, Bool.false_eq_true, and_self, true_and, and_true, true_or, or_true, or_self, false_or, or_false, gd_T, not_true_eq_false, not_false_eq_true, ↓reduceIte, h1, T1, beast_i, g, g2]
      · have g3 := (hx.resolve_left g).resolve_left g2
        simp (disch := omega) only [F_X11_key, F_X11_key_0, T_isBelow_2, T_isBelow_3, T_isBelow_4, T_isBelow_6, T_isBelow_8, T_isBelow_9, T_isBelow_10, T_isBelow_12, T_isBelow_16, T_isBelow_17, T_isBelow_31, T_isBelow_64, T_isBelow_256, T_isBelow_65536, T_in_1, T_in_2, T_in_3, T_in_4, T_in_5, T_in_8, T_in_11, T_in_16, T_in_30, T_in_63, T_in_255, T_in_65535, T_isIsland, T_isEight, bd_s, nm_s, bI_0, gd_n, gd_01, nI_cl, nI_add, nI_1, m4, Bool.false_eq_true, and_self, true_and, and_true, true_or, or_true, or_self, false_or, or_false, gd_T, not_true_eq_false, not_false_eq_true, ↓reduceIte, h1, T1, beast_i, g, g2, g3]
  have E2 : ∀ τ, EM 70 0 W τ → F_X12_key x1 x2 τ = F_X12_key_33 x1 x2 τ := by
    intro τ hτ
    have T2 := fun x => @T_isPlace W τ w0 hτ x
    by_cases g : x2 = -1
    · simp (disch := omega) only [F_X12_key, F_X12_key_0, T_isBelow_2, T_isBelow_3, T_isBelow_4, T_isBelow_6, T_isBelow_8, T_isBelow_9, T_isBelow_10, T_isBelow_12, T_isBelow_16, T_isBelow_17, T_isBelow_31, T_isBelow_64, T_isBelow_256, T_isBelow_65536, T_in_1, T_in_2, T_in_3, T_in_4, T_in_5, T_in_8, T_in_11, T_in_16, T_in_30, T_in_63, T_in_255, T_in_65535, T_isIsland, T_isEight, bd_s, nm_s, bI_0, gd_n, gd_01, nI_cl, nI_add, nI_1, m4, Bool.false_eq_true, and_self, true_and, and_true, true_or, or_true, or_self, false_or, or_false, gd_T, not_true_eq_false, not_false_eq_true, ↓reduceIte, h1, T2, T_in_b, if_pos g]
    · by_cases g3 : isT W x2
      · simp (disch := omega) only [F_X12_key, F_X12_key_0, T_isBelow_2, T_isBelow_3, T_isBelow_4, T_isBelow_6, T_isBelow_8, T_isBelow_9, T_isBelow_10, T_isBelow_12, T_isBelow_16, T_isBelow_17, T_isBelow_31, T_isBelow_64, T_isBelow_256, T_isBelow_65536, T_in_1, T_in_2, T_in_3, T_in_4, T_in_5, T_in_8, T_in_11, T_in_16, T_in_30, T_in_63, T_in_255, T_in_65535, T_isIsland, T_isEight, bd_s, nm_s, bI_0, gd_n, gd_01, nI_cl, nI_add, nI_1, m4, Bool.false_eq_true, and_self, true_and, and_true, true_or, or_true, or_self, false_or, or_false, gd_T, not_true_eq_false, not_false_eq_true, ↓reduceIte, h1, T2, T_in_b, g, g3]
      · have g2 := (hx.resolve_left g).resolve_right g3
        simp (disch := omega) only [F_X12_key, F_X12_key_0, T_isBelow_2, T_isBelow_3, T_isBelow_4, T_isBelow_6, T_isBelow_8, T_isBelow_9, T_isBelow_10, T_isBelow_12, T_isBelow_16, T_isBelow_17, T_isBelow_31, T_isBelow_64, T_isBelow_256, T_isBelow_65536, T_in_1, T_in_2, T_in_3, T_in_4, T_in_5, T_in_8, T_in_11, T_in_16, T_in_30, T_in_63, T_in_255, T_in_65535, T_isIsland, T_isEight, bd_s, nm_s, bI_0, gd_n, gd_01, nI_cl, nI_add, nI_1, m4, Bool.false_eq_true, and_self, true_and, and_true, true_or, or_true, or_self, false_or, or_false, gd_T, not_true_eq_false, not_false_eq_true, ↓reduceIte, h1, T2, T_in_b, g, g2, g3]
  obtain ⟨p, hp, rfl⟩ := bel_of h1
  have key : ∃ o : Option Nat, x2 = e1 o ∧ ∀ k, o = some k → wIs W k = true ∨ (8 ≤ k ∧ k ≤ 10) := by
    rcases hx with rfl | g2 | g2
    · exact ⟨none, rfl, fun k q => (by cases q)⟩
    · obtain ⟨q, hq, rfl⟩ := i_of (n := 11) (x := x2) (by omega) (by omega)
      rw [i_nI (by omega)] at g2
      exact ⟨some q, rfl, fun k r => (by cases r; exact Or.inr (by omega))⟩
    · obtain ⟨q, hq, hq2, rfl⟩ := isT_of g2
      exact ⟨some q, rfl, fun k r => (by cases r; exact Or.inl hq2)⟩
  obtain ⟨o, rfl, ho⟩ := key
  have ho16 : ∀ k, o = some k → k < 16 := fun k q => by
    rcases ho k q with h | h
    · have := wIs_lt h
      omega
    · omega
  apply Both.mk (r := 1) (σ1 := zwr σ 7 p (e1 o)) (σ2 := zwr (zwr σ 7 p (e1 o)) 75 p (e2 o))
  · rw [E1]
    simp (disch := omega) only [F_X11_key_49, T_isBelow_2, T_isBelow_3, T_isBelow_4, T_isBelow_6, T_isBelow_8, T_isBelow_9, T_isBelow_10, T_isBelow_12, T_isBelow_16, T_isBelow_17, T_isBelow_31, T_isBelow_64, T_isBelow_256, T_isBelow_65536, T_in_1, T_in_2, T_in_3, T_in_4, T_in_5, T_in_8, T_in_11, T_in_16, T_in_30, T_in_63, T_in_255, T_in_65535, T_isIsland, T_isEight, bd_s, nm_s, bI_0, gd_n, gd_01, nI_cl, nI_add, nI_1, m4, Bool.false_eq_true, and_self, true_and, and_true, true_or, or_true, or_self, false_or, or_false, gd_T, not_true_eq_false, not_false_eq_true, ↓reduceIte]
  · rw [E2 _ (EM_on (eqOn_wrR (by decide)) w3)]
    simp (disch := omega) only [F_X12_key_33, T_isBelow_2, T_isBelow_3, T_isBelow_4, T_isBelow_6, T_isBelow_8, T_isBelow_9, T_isBelow_10, T_isBelow_12, T_isBelow_16, T_isBelow_17, T_isBelow_31, T_isBelow_64, T_isBelow_256, T_isBelow_65536, T_in_1, T_in_2, T_in_3, T_in_4, T_in_5, T_in_8, T_in_11, T_in_16, T_in_30, T_in_63, T_in_255, T_in_65535, T_isIsland, T_isEight, bd_s, nm_s, bI_0, gd_n, gd_01, nI_cl, nI_add, nI_1, m4, Bool.false_eq_true, and_self, true_and, and_true, true_or, or_true, or_self, false_or, or_false, gd_T, not_true_eq_false, not_false_eq_true, ↓reduceIte, e12 ho16]
  refine Rel_W hn hR ((eqOn_wrR (by decide)).tr (eqOn_wrR (by decide))) ⟨(W.1, (wWin W, wLok W, wFli W, fset (wKey W) p o), W.2.2), ?_, Nat.le_succ_of_le w1, ?_, ?_⟩
  · obtain ⟨v1, v2, v3, v4, v5, v6, v7, v8⟩ := w0
    refine ⟨v1, v2, v3, v4, v5, v6, fun j k hj hk => ?_, v8⟩
    replace hk : fset (wKey W) p o j = some k := hk
    by_cases q : j = p
    · rw [q, fset_s] at hk
      exact ho k hk
    · rw [fset_n q] at hk
      exact v7 j k hj hk
  · obtain ⟨c1, c2, c3, c4, c5, c6, c7⟩ := w2
    exact ⟨c1, c2, c3, c4, c5, fun j hj => upd_map (c6 j hj), c7⟩
  · obtain ⟨c1, c2, c3, c4, c5, c6, c7⟩ := w3
    exact ⟨c1, c2, c3, c4, c5, fun j hj => upd_map (c6 j hj), c7⟩
theorem s_heart {n : Nat} {σ : zSt} (hn : n < 512) (hR : Rel n σ) (x1 : Int32) : Both n (F_X11_heart x1) (F_X12_heart x1) σ := by
  obtain ⟨-, ⟨W, w0, w1, w2, w3⟩, -⟩ := id hR
  by_cases h1 : isT W x1
  rotate_left
  · exact Both.no 0 hn hR (by simp (disch := omega) only [F_X11_heart, F_X11_heart_0, F_X12_heart, F_X12_heart_0, T_isBelow_2, T_isBelow_3, T_isBelow_4, T_isBelow_6, T_isBelow_8, T_isBelow_9, T_isBelow_10, T_isBelow_12, T_isBelow_16, T_isBelow_17, T_isBelow_31, T_isBelow_64, T_isBelow_256, T_isBelow_65536, T_in_1, T_in_2, T_in_3, T_in_4, T_in_5, T_in_8, T_in_11, T_in_16, T_in_30, T_in_63, T_in_255, T_in_65535, T_isIsland, T_isEight, bd_s, nm_s, bI_0, gd_n, gd_01, nI_cl, nI_add, nI_1, m4, Bool.false_eq_true, and_self, true_and, and_true, true_or, or_true, or_self, false_or, or_false, gd_T, not_true_eq_false, not_false_eq_true, ↓reduceIte, h1, T_isTold w0 w2]) (by simp (disch := omega) only [F_X11_heart, F_X11_heart_0, F_X12_heart, F_X12_heart_0, T_isBelow_2, T_isBelow_3, T_isBelow_4, T_isBelow_6, T_isBelow_8, T_isBelow_9, T_isBelow_10, T_isBelow_12, T_isBelow_16, T_isBelow_17, T_isBelow_31, T_isBelow_64, T_isBelow_256, T_isBelow_65536, T_in_1, T_in_2, T_in_3, T_in_4, T_in_5, T_in_8, T_in_11, T_in_16, T_in_30, T_in_63, T_in_255, T_in_65535, T_isIsland, T_isEight, bd_s, nm_s, bI_0, gd_n, gd_01, nI_cl, nI_add, nI_1, m4, Bool.false_eq_true, and_self, true_and, and_true, true_or, or_true, or_self, false_or, or_false, gd_T, not_true_eq_false, not_false_eq_true, ↓reduceIte, h1, T_isPlace w0 w3])
  obtain ⟨p, hp, hp2, rfl⟩ := isT_of h1
  apply Both.mk (r := 1) (σ1 := zwr σ 1 8 (nI p)) (σ2 := zwr (zwr σ 1 8 (nI p)) 69 2 (nI p))
  · simp (disch := omega) only [F_X11_heart, F_X11_heart_0, F_X12_heart, F_X12_heart_0, T_isBelow_2, T_isBelow_3, T_isBelow_4, T_isBelow_6, T_isBelow_8, T_isBelow_9, T_isBelow_10, T_isBelow_12, T_isBelow_16, T_isBelow_17, T_isBelow_31, T_isBelow_64, T_isBelow_256, T_isBelow_65536, T_in_1, T_in_2, T_in_3, T_in_4, T_in_5, T_in_8, T_in_11, T_in_16, T_in_30, T_in_63, T_in_255, T_in_65535, T_isIsland, T_isEight, bd_s, nm_s, bI_0, gd_n, gd_01, nI_cl, nI_add, nI_1, m4, Bool.false_eq_true, and_self, true_and, and_true, true_or, or_true, or_self, false_or, or_false, gd_T, not_true_eq_false, not_false_eq_true, ↓reduceIte, h1, T_isTold w0 w2]
  · have m1 : EM 70 0 W (zwr σ 1 8 (nI p)) := EM_on (eqOn_wr (by decide)) w3
    simp (disch := omega) only [F_X11_heart, F_X11_heart_0, F_X12_heart, F_X12_heart_0, T_isBelow_2, T_isBelow_3, T_isBelow_4, T_isBelow_6, T_isBelow_8, T_isBelow_9, T_isBelow_10, T_isBelow_12, T_isBelow_16, T_isBelow_17, T_isBelow_31, T_isBelow_64, T_isBelow_256, T_isBelow_65536, T_in_1, T_in_2, T_in_3, T_in_4, T_in_5, T_in_8, T_in_11, T_in_16, T_in_30, T_in_63, T_in_255, T_in_65535, T_isIsland, T_isEight, bd_s, nm_s, bI_0, gd_n, gd_01, nI_cl, nI_add, nI_1, m4, Bool.false_eq_true, and_self, true_and, and_true, true_or, or_true, or_self, false_or, or_false, gd_T, not_true_eq_false, not_false_eq_true, ↓reduceIte, h1, T_isPlace w0 m1]
  refine Rel_W hn hR ((eqOn_wr (by decide)).tr (eqOn_wr (by decide))) ⟨(W.1, W.2.1, (wTol W, wWet W, p), W.2.2.2), ?_, Nat.le_succ_of_le w1, ?_, ?_⟩
  · obtain ⟨v1, v2, v3, v4, v5, v6, v7, v8, v9, v10, v11⟩ := w0
    exact ⟨v1, v2, v3, v4, v5, v6, v7, v8, v9, hp, v11⟩
  · obtain ⟨c1, c2, c3, c4, c5, c6, c7, c8, c9, c10⟩ := w2
    exact ⟨c1, c2, c3, c4, c5, c6, c7, c8, rfl, c10⟩
  · obtain ⟨c1, c2, c3, c4, c5, c6, c7, c8, c9, c10⟩ := w3
    exact ⟨c1, c2, c3, c4, c5, c6, c7, c8, rfl, c10⟩
theorem s_seed {n : Nat} {σ : zSt} (hn : n < 512) (hR : Rel n σ) (x1 : Int32) : Both n (F_X11_seed x1) (F_X12_seed x1) σ := by
  obtain ⟨-, ⟨W, w0, w1, w2, w3⟩, -⟩ := id hR
  by_cases h1 : bel x1 65536
  rotate_left
  · exact Both.no 0 hn hR (by simp (disch := omega) only [F_X11_seed, F_X11_seed_0, F_X12_seed, F_X12_seed_0, T_isBelow_2, T_isBelow_3, T_isBelow_4, T_isBelow_6, T_isBelow_8, T_isBelow_9, T_isBelow_10, T_isBelow_12, T_isBelow_16, T_isBelow_17, T_isBelow_31, T_isBelow_64, T_isBelow_256, T_isBelow_65536, T_in_1, T_in_2, T_in_3, T_in_4, T_in_5, T_in_8, T_in_11, T_in_16, T_in_30, T_in_63, T_in_255, T_in_65535, T_isIsland, T_isEight, bd_s, nm_s, bI_0, gd_n, gd_01, nI_cl, nI_add, nI_1, m4, Bool.false_eq_true, and_self, true_and, and_true, true_or, or_true, or_self, false_or, or_false, gd_T, not_true_eq_false, not_false_eq_true, ↓reduceIte, h1]) (by simp (disch := omega) only [F_X11_seed, F_X11_seed_0, F_X12_seed, F_X12_seed_0, T_isBelow_2, T_isBelow_3, T_isBelow_4, T_isBelow_6, T_isBelow_8, T_isBelow_9, T_isBelow_10, T_isBelow_12, T_isBelow_16, T_isBelow_17, T_isBelow_31, T_isBelow_64, T_isBelow_256, T_isBelow_65536, T_in_1, T_in_2, T_in_3, T_in_4, T_in_5, T_in_8, T_in_11, T_in_16, T_in_30, T_in_63, T_in_255, T_in_65535, T_isIsland, T_isEight, bd_s, nm_s, bI_0, gd_n, gd_01, nI_cl, nI_add, nI_1, m4, Bool.false_eq_true, and_self, true_and, and_true, true_or, or_true, or_self, false_or, or_false, gd_T, not_true_eq_false, not_false_eq_true, ↓reduceIte, h1])
  obtain ⟨p, hp, rfl⟩ := bel_of h1
  apply Both.mk (r := 1) (σ1 := zwr σ 1 12 (nI p)) (σ2 := zwr (zwr σ 1 12 (nI p)) 69 3 (nI p))
  · simp (disch := omega) only [F_X11_seed, F_X11_seed_0, F_X12_seed, F_X12_seed_0, T_isBelow_2, T_isBelow_3, T_isBelow_4, T_isBelow_6, T_isBelow_8, T_isBelow_9, T_isBelow_10, T_isBelow_12, T_isBelow_16, T_isBelow_17, T_isBelow_31, T_isBelow_64, T_isBelow_256, T_isBelow_65536, T_in_1, T_in_2, T_in_3, T_in_4, T_in_5, T_in_8, T_in_11, T_in_16, T_in_30, T_in_63, T_in_255, T_in_65535, T_isIsland, T_isEight, bd_s, nm_s, bI_0, gd_n, gd_01, nI_cl, nI_add, nI_1, m4, Bool.false_eq_true, and_self, true_and, and_true, true_or, or_true, or_self, false_or, or_false, gd_T, not_true_eq_false, not_false_eq_true, ↓reduceIte, h1]
  · simp (disch := omega) only [F_X11_seed, F_X11_seed_0, F_X12_seed, F_X12_seed_0, T_isBelow_2, T_isBelow_3, T_isBelow_4, T_isBelow_6, T_isBelow_8, T_isBelow_9, T_isBelow_10, T_isBelow_12, T_isBelow_16, T_isBelow_17, T_isBelow_31, T_isBelow_64, T_isBelow_256, T_isBelow_65536, T_in_1, T_in_2, T_in_3, T_in_4, T_in_5, T_in_8, T_in_11, T_in_16, T_in_30, T_in_63, T_in_255, T_in_65535, T_isIsland, T_isEight, bd_s, nm_s, bI_0, gd_n, gd_01, nI_cl, nI_add, nI_1, m4, Bool.false_eq_true, and_self, true_and, and_true, true_or, or_true, or_self, false_or, or_false, gd_T, not_true_eq_false, not_false_eq_true, ↓reduceIte, h1]
  refine Rel_W hn hR ((eqOn_wr (by decide)).tr (eqOn_wr (by decide))) ⟨(W.1, W.2.1, W.2.2.1, (p, W.2.2.2.2)), ?_, Nat.le_succ_of_le w1, ?_, ?_⟩
  · obtain ⟨v1, v2, v3, v4, v5, v6, v7, v8, v9, v10, v11, v12, v13, v14⟩ := w0
    exact ⟨v1, v2, v3, v4, v5, v6, v7, v8, v9, v10, v11, v12, v13, hp⟩
  · obtain ⟨c1, c2, c3, c4, c5, c6, c7, c8, c9, c10, c11, c12, c13⟩ := w2
    exact ⟨c1, c2, c3, c4, c5, c6, c7, c8, c9, c10, c11, c12, rfl⟩
  · obtain ⟨c1, c2, c3, c4, c5, c6, c7, c8, c9, c10, c11, c12, c13⟩ := w3
    exact ⟨c1, c2, c3, c4, c5, c6, c7, c8, c9, c10, c11, c12, rfl⟩
theorem s_test {n : Nat} {σ : zSt} (hn : n < 512) (hR : Rel n σ) (x1 x2 : Int32) : Both n (F_X11_test x1 x2) (F_X12_test x1 x2) σ := by
  by_cases h1 : bel x1 6
  rotate_left
  · exact Both.no 0 hn hR (by simp (disch := omega) only [F_X11_test, F_X11_test_0, F_X0_show, F_X0_show_0, F_X12_test, F_X12_test_0, T_isBelow_2, T_isBelow_3, T_isBelow_4, T_isBelow_6, T_isBelow_8, T_isBelow_9, T_isBelow_10, T_isBelow_12, T_isBelow_16, T_isBelow_17, T_isBelow_31, T_isBelow_64, T_isBelow_256, T_isBelow_65536, T_in_1, T_in_2, T_in_3, T_in_4, T_in_5, T_in_8, T_in_11, T_in_16, T_in_30, T_in_63, T_in_255, T_in_65535, T_isIsland, T_isEight, bd_s, nm_s, bI_0, gd_n, gd_01, nI_cl, nI_add, nI_1, m4, Bool.false_eq_true, and_self, true_and, and_true, true_or, or_true, or_self, false_or, or_false, gd_T, not_true_eq_false, not_false_eq_true, ↓reduceIte, h1, gd_t (show (0 : Int32) = 0 ∨ (0 : Int32) = 1 from Or.inl rfl), gd_t (show (1 : Int32) = 0 ∨ (1 : Int32) = 1 from Or.inr rfl)]) (by simp (disch := omega) only [F_X11_test, F_X11_test_0, F_X0_show, F_X0_show_0, F_X12_test, F_X12_test_0, T_isBelow_2, T_isBelow_3, T_isBelow_4, T_isBelow_6, T_isBelow_8, T_isBelow_9, T_isBelow_10, T_isBelow_12, T_isBelow_16, T_isBelow_17, T_isBelow_31, T_isBelow_64, T_isBelow_256, T_isBelow_65536, T_in_1, T_in_2, T_in_3, T_in_4, T_in_5, T_in_8, T_in_11, T_in_16, T_in_30, T_in_63, T_in_255, T_in_65535, T_isIsland, T_isEight, bd_s, nm_s, bI_0, gd_n, gd_01, nI_cl, nI_add, nI_1, m4, Bool.false_eq_true, and_self, true_and, and_true, true_or, or_true, or_self, false_or, or_false, gd_T, not_true_eq_false, not_false_eq_true, ↓reduceIte, h1, gd_t (show (0 : Int32) = 0 ∨ (0 : Int32) = 1 from Or.inl rfl), gd_t (show (1 : Int32) = 0 ∨ (1 : Int32) = 1 from Or.inr rfl)])
  by_cases h2 : bel x2 256
  rotate_left
  · exact Both.no 0 hn hR (by simp (disch := omega) only [F_X11_test, F_X11_test_0, F_X0_show, F_X0_show_0, F_X12_test, F_X12_test_0, T_isBelow_2, T_isBelow_3, T_isBelow_4, T_isBelow_6, T_isBelow_8, T_isBelow_9, T_isBelow_10, T_isBelow_12, T_isBelow_16, T_isBelow_17, T_isBelow_31, T_isBelow_64, T_isBelow_256, T_isBelow_65536, T_in_1, T_in_2, T_in_3, T_in_4, T_in_5, T_in_8, T_in_11, T_in_16, T_in_30, T_in_63, T_in_255, T_in_65535, T_isIsland, T_isEight, bd_s, nm_s, bI_0, gd_n, gd_01, nI_cl, nI_add, nI_1, m4, Bool.false_eq_true, and_self, true_and, and_true, true_or, or_true, or_self, false_or, or_false, gd_T, not_true_eq_false, not_false_eq_true, ↓reduceIte, h1, h2, gd_t (show (0 : Int32) = 0 ∨ (0 : Int32) = 1 from Or.inl rfl), gd_t (show (1 : Int32) = 0 ∨ (1 : Int32) = 1 from Or.inr rfl)]) (by simp (disch := omega) only [F_X11_test, F_X11_test_0, F_X0_show, F_X0_show_0, F_X12_test, F_X12_test_0, T_isBelow_2, T_isBelow_3, T_isBelow_4, T_isBelow_6, T_isBelow_8, T_isBelow_9, T_isBelow_10, T_isBelow_12, T_isBelow_16, T_isBelow_17, T_isBelow_31, T_isBelow_64, T_isBelow_256, T_isBelow_65536, T_in_1, T_in_2, T_in_3, T_in_4, T_in_5, T_in_8, T_in_11, T_in_16, T_in_30, T_in_63, T_in_255, T_in_65535, T_isIsland, T_isEight, bd_s, nm_s, bI_0, gd_n, gd_01, nI_cl, nI_add, nI_1, m4, Bool.false_eq_true, and_self, true_and, and_true, true_or, or_true, or_self, false_or, or_false, gd_T, not_true_eq_false, not_false_eq_true, ↓reduceIte, h1, h2, gd_t (show (0 : Int32) = 0 ∨ (0 : Int32) = 1 from Or.inl rfl), gd_t (show (1 : Int32) = 0 ∨ (1 : Int32) = 1 from Or.inr rfl)])
  obtain ⟨t, ht, rfl⟩ := bel_of h1
  obtain ⟨m, hm, rfl⟩ := bel_of h2
  apply Both.mk (r := 1) (σ1 := zwr σ 66 t (nI m)) (σ2 := zwr (zwr σ 66 t (nI m)) 103 t (nI m))
  · simp (disch := omega) only [F_X11_test, F_X11_test_0, F_X0_show, F_X0_show_0, F_X12_test, F_X12_test_0, T_isBelow_2, T_isBelow_3, T_isBelow_4, T_isBelow_6, T_isBelow_8, T_isBelow_9, T_isBelow_10, T_isBelow_12, T_isBelow_16, T_isBelow_17, T_isBelow_31, T_isBelow_64, T_isBelow_256, T_isBelow_65536, T_in_1, T_in_2, T_in_3, T_in_4, T_in_5, T_in_8, T_in_11, T_in_16, T_in_30, T_in_63, T_in_255, T_in_65535, T_isIsland, T_isEight, bd_s, nm_s, bI_0, gd_n, gd_01, nI_cl, nI_add, nI_1, m4, Bool.false_eq_true, and_self, true_and, and_true, true_or, or_true, or_self, false_or, or_false, gd_T, not_true_eq_false, not_false_eq_true, ↓reduceIte, h1, h2, gd_t (show (0 : Int32) = 0 ∨ (0 : Int32) = 1 from Or.inl rfl), gd_t (show (1 : Int32) = 0 ∨ (1 : Int32) = 1 from Or.inr rfl)]
  · simp (disch := omega) only [F_X11_test, F_X11_test_0, F_X0_show, F_X0_show_0, F_X12_test, F_X12_test_0, T_isBelow_2, T_isBelow_3, T_isBelow_4, T_isBelow_6, T_isBelow_8, T_isBelow_9, T_isBelow_10, T_isBelow_12, T_isBelow_16, T_isBelow_17, T_isBelow_31, T_isBelow_64, T_isBelow_256, T_isBelow_65536, T_in_1, T_in_2, T_in_3, T_in_4, T_in_5, T_in_8, T_in_11, T_in_16, T_in_30, T_in_63, T_in_255, T_in_65535, T_isIsland, T_isEight, bd_s, nm_s, bI_0, gd_n, gd_01, nI_cl, nI_add, nI_1, m4, Bool.false_eq_true, and_self, true_and, and_true, true_or, or_true, or_self, false_or, or_false, gd_T, not_true_eq_false, not_false_eq_true, ↓reduceIte, h1, h2]
  obtain ⟨E, te, e1, e2, e3, e4⟩ := hR.2.2.2.2.2.1
  refine Rel_E hn hR ((eqOn_wrR (by decide)).tr (eqOn_wrR (by decide))) ⟨E, fset te t m, e1, e2, e3, fun j hj => ?_⟩
  obtain ⟨a1, a2, a3⟩ := e4 j hj
  refine ⟨?_, upd_map a2, upd_map a3⟩
  unfold fset
  split
  · exact hm
  · exact a1
theorem T_in_m1 {x : Int32} {σ : zSt} : F_X12_in x (-1) 11 σ = some (bI (x = -1 ∨ bel x 12), σ) := by
  rw [T_in, bI_c]
  have a : (-1 : Int32).toInt = -1 := rfl
  have b : (11 : Int32).toInt = 11 := rfl
  rw [i_eq, a, b]
  unfold bel
  omega
theorem s_owes {n : Nat} {σ : zSt} (hn : n < 512) (hR : Rel n σ) (x1 x2 : Int32) : Both n (F_X11_owes x1 x2) (F_X12_owes x1 x2) σ := by
  by_cases h1 : bel x1 12
  rotate_left
  · exact Both.no 0 hn hR (by simp (disch := omega) only [F_X11_owes, F_X11_owes_0, F_X9_owe, F_X9_owe_0, F_X9_owe_30, F_X12_owes, F_X12_owes_0, T_isBelow_2, T_isBelow_3, T_isBelow_4, T_isBelow_6, T_isBelow_8, T_isBelow_9, T_isBelow_10, T_isBelow_12, T_isBelow_16, T_isBelow_17, T_isBelow_31, T_isBelow_64, T_isBelow_256, T_isBelow_65536, T_in_1, T_in_2, T_in_3, T_in_4, T_in_5, T_in_8, T_in_11, T_in_16, T_in_30, T_in_63, T_in_255, T_in_65535, T_isIsland, T_isEight, bd_s, nm_s, bI_0, gd_n, gd_01, nI_cl, nI_add, nI_1, m4, Bool.false_eq_true, and_self, true_and, and_true, true_or, or_true, or_self, false_or, or_false, gd_T, not_true_eq_false, not_false_eq_true, ↓reduceIte, h1, gd_t (show (0 : Int32) = 0 ∨ (0 : Int32) = 1 from Or.inl rfl), gd_t (show (1 : Int32) = 0 ∨ (1 : Int32) = 1 from Or.inr rfl)]) (by simp (disch := omega) only [F_X11_owes, F_X11_owes_0, F_X9_owe, F_X9_owe_0, F_X9_owe_30, F_X12_owes, F_X12_owes_0, T_isBelow_2, T_isBelow_3, T_isBelow_4, T_isBelow_6, T_isBelow_8, T_isBelow_9, T_isBelow_10, T_isBelow_12, T_isBelow_16, T_isBelow_17, T_isBelow_31, T_isBelow_64, T_isBelow_256, T_isBelow_65536, T_in_1, T_in_2, T_in_3, T_in_4, T_in_5, T_in_8, T_in_11, T_in_16, T_in_30, T_in_63, T_in_255, T_in_65535, T_isIsland, T_isEight, bd_s, nm_s, bI_0, gd_n, gd_01, nI_cl, nI_add, nI_1, m4, Bool.false_eq_true, and_self, true_and, and_true, true_or, or_true, or_self, false_or, or_false, gd_T, not_true_eq_false, not_false_eq_true, ↓reduceIte, h1, gd_t (show (0 : Int32) = 0 ∨ (0 : Int32) = 1 from Or.inl rfl), gd_t (show (1 : Int32) = 0 ∨ (1 : Int32) = 1 from Or.inr rfl)])
  by_cases h3 : x1 = x2
  · subst h3
    have h4 : x1 = -1 ∨ bel x1 12 := Or.inr h1
    exact Both.no 0 hn hR (by simp (disch := omega) only [F_X11_owes, F_X11_owes_0, F_X9_owe, F_X9_owe_0, F_X9_owe_30, F_X12_owes, F_X12_owes_0, T_isBelow_2, T_isBelow_3, T_isBelow_4, T_isBelow_6, T_isBelow_8, T_isBelow_9, T_isBelow_10, T_isBelow_12, T_isBelow_16, T_isBelow_17, T_isBelow_31, T_isBelow_64, T_isBelow_256, T_isBelow_65536, T_in_1, T_in_2, T_in_3, T_in_4, T_in_5, T_in_8, T_in_11, T_in_16, T_in_30, T_in_63, T_in_255, T_in_65535, T_isIsland, T_isEight, bd_s, nm_s, bI_0, gd_n, gd_01, nI_cl, nI_add, nI_1, m4, Bool.false_eq_true, and_self, true_and, and_true, true_or, or_true, or_self, false_or, or_false, gd_T, not_true_eq_false, not_false_eq_true, ↓reduceIte, h1, h4, T_in_m1, gd_t (show (0 : Int32) = 0 ∨ (0 : Int32) = 1 from Or.inl rfl), gd_t (show (1 : Int32) = 0 ∨ (1 : Int32) = 1 from Or.inr rfl)]) (by simp (disch := omega) only [F_X11_owes, F_X11_owes_0, F_X9_owe, F_X9_owe_0, F_X9_owe_30, F_X12_owes, F_X12_owes_0, T_isBelow_2, T_isBelow_3, T_isBelow_4, T_isBelow_6, T_isBelow_8, T_isBelow_9, T_isBelow_10, T_isBelow_12, T_isBelow_16, T_isBelow_17, T_isBelow_31, T_isBelow_64, T_isBelow_256, T_isBelow_65536, T_in_1, T_in_2, T_in_3, T_in_4, T_in_5, T_in_8, T_in_11, T_in_16, T_in_30, T_in_63, T_in_255, T_in_65535, T_isIsland, T_isEight, bd_s, nm_s, bI_0, gd_n, gd_01, nI_cl, nI_add, nI_1, m4, Bool.false_eq_true, and_self, true_and, and_true, true_or, or_true, or_self, false_or, or_false, gd_T, not_true_eq_false, not_false_eq_true, ↓reduceIte, h1, h4, T_in_m1, gd_t (show (0 : Int32) = 0 ∨ (0 : Int32) = 1 from Or.inl rfl), gd_t (show (1 : Int32) = 0 ∨ (1 : Int32) = 1 from Or.inr rfl)])
  by_cases h2 : x2 = -1 ∨ bel x2 12
  rotate_left
  · have g1 : ¬ x2 = -1 := fun q => h2 (Or.inl q)
    have g2 : ¬ bel x2 12 := fun q => h2 (Or.inr q)
    exact Both.no 0 hn hR (by simp (disch := omega) only [F_X11_owes, F_X11_owes_0, F_X9_owe, F_X9_owe_0, F_X9_owe_30, F_X12_owes, F_X12_owes_0, T_isBelow_2, T_isBelow_3, T_isBelow_4, T_isBelow_6, T_isBelow_8, T_isBelow_9, T_isBelow_10, T_isBelow_12, T_isBelow_16, T_isBelow_17, T_isBelow_31, T_isBelow_64, T_isBelow_256, T_isBelow_65536, T_in_1, T_in_2, T_in_3, T_in_4, T_in_5, T_in_8, T_in_11, T_in_16, T_in_30, T_in_63, T_in_255, T_in_65535, T_isIsland, T_isEight, bd_s, nm_s, bI_0, gd_n, gd_01, nI_cl, nI_add, nI_1, m4, Bool.false_eq_true, and_self, true_and, and_true, true_or, or_true, or_self, false_or, or_false, gd_T, not_true_eq_false, not_false_eq_true, ↓reduceIte, h1, h3, h2, g1, g2, T_in_m1, gd_t (show (0 : Int32) = 0 ∨ (0 : Int32) = 1 from Or.inl rfl), gd_t (show (1 : Int32) = 0 ∨ (1 : Int32) = 1 from Or.inr rfl)]) (by simp (disch := omega) only [F_X11_owes, F_X11_owes_0, F_X9_owe, F_X9_owe_0, F_X9_owe_30, F_X12_owes, F_X12_owes_0, T_isBelow_2, T_isBelow_3, T_isBelow_4, T_isBelow_6, T_isBelow_8, T_isBelow_9, T_isBelow_10, T_isBelow_12, T_isBelow_16, T_isBelow_17, T_isBelow_31, T_isBelow_64, T_isBelow_256, T_isBelow_65536, T_in_1, T_in_2, T_in_3, T_in_4, T_in_5, T_in_8, T_in_11, T_in_16, T_in_30, T_in_63, T_in_255, T_in_65535, T_isIsland, T_isEight, bd_s, nm_s, bI_0, gd_n, gd_01, nI_cl, nI_add, nI_1, m4, Bool.false_eq_true, and_self, true_and, and_true, true_or, or_true, or_self, false_or, or_false, gd_T, not_true_eq_false, not_false_eq_true, ↓reduceIte, h1, h3, h2, g1, g2, T_in_m1, gd_t (show (0 : Int32) = 0 ∨ (0 : Int32) = 1 from Or.inl rfl), gd_t (show (1 : Int32) = 0 ∨ (1 : Int32) = 1 from Or.inr rfl)])
  have E1 : F_X11_owes x1 x2 σ = bd (F_X9_owe_30 x1 x2 σ) (fun q2 s1 => gd (q2 = 0 ∨ q2 = 1) (some (q2, s1))) := by
    by_cases g : x2 = -1
    · simp (disch := omega) only [F_X11_owes, F_X11_owes_0, F_X9_owe, F_X9_owe_0, T_isBelow_2, T_isBelow_3, T_isBelow_4, T_isBelow_6, T_isBelow_8, T_isBelow_9, T_isBelow_10, T_isBelow_12, T_isBelow_16, T_isBelow_17, T_isBelow_31, T_isBelow_64, T_isBelow_256, T_isBelow_65536, T_in_1, T_in_2, T_in_3, T_in_4, T_in_5, T_in_8, T_in_11, T_in_16, T_in_30, T_in_63, T_in_255, T_in_65535, T_isIsland, T_isEight, bd_s, nm_s, bI_0, gd_n, gd_01, nI_cl, nI_add, nI_1, m4, Bool.false_eq_true, and_self, true_and, and_true, true_or, or_true, or_self, false_or, or_false, gd_T, not_true_eq_false, not_false_eq_true, ↓reduceIte, h1, h3, if_pos g]
    · have g2 := h2.resolve_left g
      simp (disch := omega) only [F_X11_owes, F_X11_owes_0, F_X9_owe, F_X9_owe_0, T_isBelow_2, T_isBelow_3, T_isBelow_4, T_isBelow_6, T_isBelow_8, T_isBelow_9, T_isBelow_10, T_isBelow_12, T_isBelow_16, T_isBelow_17, T_isBelow_31, T_isBelow_64, T_isBelow_256, T_isBelow_65536, T_in_1, T_in_2, T_in_3, T_in_4, T_in_5, T_in_8, T_in_11, T_in_16, T_in_30, T_in_63, T_in_255, T_in_65535, T_isIsland, T_isEight, bd_s, nm_s, bI_0, gd_n, gd_01, nI_cl, nI_add, nI_1, m4, Bool.false_eq_true, and_self, true_and, and_true, true_or, or_true, or_self, false_or, or_false, gd_T, not_true_eq_false, not_false_eq_true, ↓reduceIte, h1, h3, g, g2]
  obtain ⟨i, hi, rfl⟩ := bel_of h1
  have E2 : ∀ τ, F_X12_owes (nI i) x2 τ = some (1, zwr τ 104 i x2) := by
    intro τ
    simp (disch := omega) only [F_X12_owes, F_X12_owes_0, T_isBelow_2, T_isBelow_3, T_isBelow_4, T_isBelow_6, T_isBelow_8, T_isBelow_9, T_isBelow_10, T_isBelow_12, T_isBelow_16, T_isBelow_17, T_isBelow_31, T_isBelow_64, T_isBelow_256, T_isBelow_65536, T_in_1, T_in_2, T_in_3, T_in_4, T_in_5, T_in_8, T_in_11, T_in_16, T_in_30, T_in_63, T_in_255, T_in_65535, T_isIsland, T_isEight, bd_s, nm_s, bI_0, gd_n, gd_01, nI_cl, nI_add, nI_1, m4, Bool.false_eq_true, and_self, true_and, and_true, true_or, or_true, or_self, false_or, or_false, gd_T, not_true_eq_false, not_false_eq_true, ↓reduceIte, h1, h2, h3, T_in_m1]
  obtain ⟨o, rfl, ho⟩ := e1_of h2
  apply Both.mk (r := 1) (σ1 := zwr σ 68 i (e1 o)) (σ2 := zwr (zwr σ 68 i (e1 o)) 104 i (e1 o))
  · rw [E1]
    simp (disch := omega) only [F_X9_owe_30, T_isBelow_2, T_isBelow_3, T_isBelow_4, T_isBelow_6, T_isBelow_8, T_isBelow_9, T_isBelow_10, T_isBelow_12, T_isBelow_16, T_isBelow_17, T_isBelow_31, T_isBelow_64, T_isBelow_256, T_isBelow_65536, T_in_1, T_in_2, T_in_3, T_in_4, T_in_5, T_in_8, T_in_11, T_in_16, T_in_30, T_in_63, T_in_255, T_in_65535, T_isIsland, T_isEight, bd_s, nm_s, bI_0, gd_n, gd_01, nI_cl, nI_add, nI_1, m4, Bool.false_eq_true, and_self, true_and, and_true, true_or, or_true, or_self, false_or, or_false, gd_T, not_true_eq_false, not_false_eq_true, ↓reduceIte, gd_t (show (0 : Int32) = 0 ∨ (0 : Int32) = 1 from Or.inl rfl), gd_t (show (1 : Int32) = 0 ∨ (1 : Int32) = 1 from Or.inr rfl)]
  · exact E2 _
  obtain ⟨ow, e4⟩ := hR.2.2.2.2.2.2
  refine Rel_O hn hR ((eqOn_wrR (by decide)).tr (eqOn_wrR (by decide))) ⟨fset ow i o, fun j hj => ?_⟩
  obtain ⟨a1, a2, a3⟩ := e4 j hj
  refine ⟨fun k hk => ?_, upd_map a2, upd_map a3⟩
  by_cases q : j = i
  · rw [q, fset_s] at hk
    refine ⟨ho k hk, fun r => h3 ?_⟩
    rw [hk, r, q]
    rfl
  · rw [fset_n q] at hk
    exact a1 k hk
