/-! PURE: the law, both alike -/
theorem CS_row {sg vl : Nat → Int32} {a b : Nat} {v : lDen} (h : CS sg vl a b 15 v) (hb : b ≤ 240) (lt : Nat → Int32) (σ : zSt) (e9 : σ.1 9 = sg) (e10 : σ.1 10 = vl) (e25 : ∀ j, j < 9 → σ.1 25 j = lt j) : ∃ st, F_X1_run (nI a) (nI b) σ = some ((v lt).getD 0, zrow σ 16 st) := by
  have ab := h.1
  have hw : WC sg vl lt b 0 a (σ.1 16) ((v lt).getD 0) := by
    refine h.2 sg vl (fun _ _ _ => ⟨rfl, rfl⟩) lt b 0 (σ.1 16) _ (by omega) (Nat.le_refl b) hb ?_
    cases v lt with
    | none => exact rfl
    | some x =>
      show ∀ st', (∀ j, j < 0 → st' j = σ.1 16 j) → st' 0 = x → WC sg vl lt b (0 + 1) b st' x
      intro st' _ e
      rw [← e]
      exact WC_end (by omega) hb
  exact hw zlim 0 σ e9 e10 e25 rfl (by show 241 ≤ 1000000 + a; omega) (Nat.zero_le a)
theorem CM_row {cd : Nat → Int32} {a b : Nat} {v : lDen} (h : CM cd a b 15 v) (hb : b ≤ 240) (lt : Nat → Int32) (σ : zSt) (e1' : σ.1 83 = cd) (e2' : ∀ j, j < 9 → σ.1 89 j = lt j) : ∃ st, F_X12_comesTo (nI a) (nI b) σ = some ((v lt).getD 0, zrow σ 88 st) := by
  have ab := h.1
  have hw : WM cd lt b 0 a (σ.1 88) ((v lt).getD 0) := by
    refine h.2 cd (fun _ _ _ => rfl) lt b 0 (σ.1 88) _ (by omega) (Nat.le_refl b) hb ?_
    cases v lt with
    | none => exact rfl
    | some x =>
      show ∀ st', (∀ j, j < 0 → st' j = σ.1 88 j) → st' 0 = x → WM cd lt b (0 + 1) b st' x
      intro st' _ e
      rw [← e]
      exact WM_end hb
  have e0 : (260 : Int32) * (nI a / (260 : Int32)) = nI 0 := by
    rw [show nI a / (260 : Int32) = nI (a / 260) from pk_div (d := 260) (by omega) (by omega) (by omega), show a / 260 = 0 by omega]
    rfl
  unfold F_X12_comesTo F_X12_comesTo_0
  rw [e0, nm_s]
  exact hw zlim σ e1' e2' rfl (by show 241 ≤ 1000000 + a; omega)
theorem KCf_on {σ τ : zSt} {c : Nat} {k : Nat × lDen × lDen} (h : KCf σ c k) (e : ∀ d, d ∈ [9, 10, 11, 12, 13, 14] → τ.1 d = σ.1 d) : KCf τ c k := by
  obtain ⟨x, y, z, h1, h2, h3, h4, h5, h6, h7⟩ := h
  refine ⟨x, y, z, ?_, ?_, ?_, ?_, ?_, ?_, h7⟩
  · rw [e 11 (by decide)]
    exact h1
  · rw [e 12 (by decide)]
    exact h2
  · rw [e 13 (by decide)]
    exact h3
  · rw [e 14 (by decide)]
    exact h4
  · rw [e 9 (by decide), e 10 (by decide)]
    exact h5
  · rw [e 9 (by decide), e 10 (by decide)]
    exact h6
theorem RLw_new {n : Nat} {cl : lCl} {τ : zSt} (hn : n ≤ 16) (h7 : τ.1 8 7 = nI n) (h8 : τ.1 8 8 = 0 ∨ τ.1 8 8 = 1) (h23 : τ.1 69 23 = nI n) (hC : ∀ c, c < n → KCf τ c (cl c) ∧ lBo (cl c).2.2) (hI : τ.1 8 8 = 0 → ∀ c, c < n → lIn (cl c).2.1 ∧ lIn (cl c).2.2) (hM : ∀ c, c < n → KMf τ c (cl c)) : RLw τ := by
  refine ⟨n, hn, h7, h23, h8, fun c hc => ?_⟩
  obtain ⟨⟨a, b, e, p1, p2, p3, p4, p5, p6, p7⟩, hb⟩ := hC c hc
  obtain ⟨x, y, z, q1, q2, q3, q4, q5, q6, q7⟩ := hM c hc
  have be := p6.1
  have yz := q6.1
  have L1 : ∀ lt, LRow (τ.1 9) (τ.1 10) (τ.1 83) (τ.1 13 c) (τ.1 14 c) (τ.1 86 c) (τ.1 87 c) lt (((cl c).2.2 lt).getD 0) (((cl c).2.2 lt).getD 0) := by
    intro lt
    rw [p3, p4, q3, q4]
    exact ⟨fun σ e1 e2 e3 => CS_row p6 p7 lt σ e1 e2 e3, fun σ e1 e2 => CM_row q6 q7 lt σ e1 e2⟩
  have L2 : ∀ lt, LRow (τ.1 9) (τ.1 10) (τ.1 83) (τ.1 12 c) (τ.1 13 c) (τ.1 85 c) (τ.1 86 c) lt (((cl c).2.1 lt).getD 0) (((cl c).2.1 lt).getD 0) := by
    intro lt
    rw [p2, p3, q2, q3]
    exact ⟨fun σ e1 e2 e3 => CS_row p5 (by omega) lt σ e1 e2 e3, fun σ e1 e2 => CM_row q5 (by omega) lt σ e1 e2⟩
  refine ⟨p1.trans q1.symm, fun lt => ⟨((cl c).2.2 lt).getD 0, ((cl c).2.2 lt).getD 0, ((cl c).2.1 lt).getD 0, L1 lt, ?_, fun _ => L2 lt, fun ha lt' hl => ?_⟩⟩
  · cases hv : (cl c).2.2 lt with
    | none =>
      show ¬ (0 : Int32) = 0 ↔ (0 : Int32) = 1
      decide
    | some w =>
      show ¬ w = 0 ↔ w = 1
      rcases hb lt w hv with rfl | rfl
      · decide
      · decide
  · obtain ⟨i1, i2⟩ := hI ha c hc
    rw [← i1 lt lt' hl, ← i2 lt lt' hl]
    exact ⟨L1 lt', fun _ => L2 lt'⟩
theorem Rel_TL {n : Nat} {σ τ : zSt} (hn : n < 512) (g : Rel n σ) (h : eqOn ((rowsC ++ rowsM) ++ (rowsKC ++ rowsKM) ++ rowsE ++ rowsO) ((slotsC ++ slotsM) ++ (slotsKC ++ slotsKM) ++ slotsE) σ τ) (ht : RT τ) (hl : RLw τ) : Rel (n + 1) τ :=
  ⟨hn, RW_on (Nat.le_succ n) (h.sub (by decide) (by decide)) g.2.1, RK_on (Nat.le_succ n) (h.sub (by decide) (by decide)) g.2.2.1, ht, hl, RE_on (h.sub (by decide) (by decide)) g.2.2.2.2.2.1, RO_on (h.sub (by decide) (by decide)) g.2.2.2.2.2.2⟩
theorem s_law {n : Nat} {σ : zSt} (hn : n < 512) (hR : Rel n σ) (x1 : Int32) : Both n (F_X11_law x1) (F_X12_law x1) σ := by
  obtain ⟨-, ⟨W, w0, w1, w2, w3⟩, -, ⟨m, tp, t0, t1, t2, t3⟩, -⟩ := id hR
  by_cases h1 : 1 ≤ x1.toInt ∧ x1.toInt ≤ 240
  rotate_left
  · refine Both.no (-1) hn hR ?_ ?_
    · unfold F_X11_law F_X11_law_0
      have a : (1 : Int32).toInt = 1 := rfl
      have b : (240 : Int32).toInt = 240 := rfl
      by_cases q : x1 < 1
      · rw [if_pos q]
      · rw [if_neg q, if_pos (by rw [i_lt] at q ⊢; omega)]
    · unfold F_X12_law F_X12_law_0
      rw [T_in_l240, bd_s, bI_f h1, if_pos rfl]
  obtain ⟨N, hN, rfl⟩ := i_of (n := 241) (x := x1) (by omega) (by omega)
  have h1' := h1
  rw [i_nI (by omega)] at h1'
  have c1 : ¬ nI N < 1 := by
    rw [show (1 : Int32) = nI 1 from rfl, nI_ltp (by omega)]
    omega
  have c2 : ¬ (240 : Int32) < nI N := by
    rw [show (240 : Int32) = nI 240 from rfl, nI_ltp (by omega)]
    omega
  by_cases h3 : N ≤ m
  rotate_left
  · refine Both.no (-1) hn hR ?_ ?_
    · unfold F_X11_law F_X11_law_0
      rw [if_neg c1, if_neg c2, take_no t1 (Or.inr (by rw [nI_lep (by omega)]; exact h3)), bd_s, if_pos rfl]
    · unfold F_X12_law F_X12_law_0
      rw [T_in_l240, bd_s, bI_t h1, if_neg (show ¬ (1 : Int32) = 0 by decide), t2, if_neg (by rw [nI_lep (by omega)]; exact h3)]
  obtain ⟨r, τ, e1', z33, hC⟩ := T_cLaw (tp := tp) (m := m) (N := N) (σ := σ) (by omega) (by omega) t0 t1 h3 (fun j hj => ⟨(t3 j (by omega)).1, (t3 j (by omega)).2.1⟩)
  cases es : lawT tp N 300 0 0 lcl0 with
  | inl E =>
    rw [es] at hC
    obtain ⟨rfl, f1⟩ := hC
    obtain ⟨r2, υ, e2', z14, hM⟩ := T_mLaw (tp := tp) (m := m) (N := N) (σ := τ) (by omega) (by omega) t0 ((f1.rd (by decide) (by decide)).trans t2) h3 (fun j hj => ⟨(t3 j (by omega)).1, by rw [f1.row (c := 76) (by decide)]; exact (t3 j (by omega)).2.2⟩)
    rw [es] at hM
    obtain ⟨rfl, f2⟩ := hM
    exact Both.mk e1' e2' (Rel_T hn hR ((f1.eqOn (by decide)).tr (f2.eqOn (by decide))) (RT_0 ((f2.rd (by decide) (by decide)).trans z33) z14))
  | inr nc =>
    obtain ⟨k, cl⟩ := nc
    rw [es] at hC
    obtain ⟨rfl, f1, k16, g7, g8, gC, gI⟩ := hC
    obtain ⟨r2, υ, e2', z14, hM⟩ := T_mLaw (tp := tp) (m := m) (N := N) (σ := τ) (by omega) (by omega) t0 ((f1.rd (by decide) (by decide)).trans t2) h3 (fun j hj => ⟨(t3 j (by omega)).1, by rw [f1.row (c := 76) (by decide)]; exact (t3 j (by omega)).2.2⟩)
    rw [es] at hM
    obtain ⟨rfl, f2, g23, gM⟩ := hM
    have u7 : υ.1 8 7 = nI k := (f2.rd (by decide) (by decide)).trans g7
    have u8 : υ.1 8 8 = τ.1 8 8 := f2.rd (by decide) (by decide)
    have ur : ∀ d, d ∈ [9, 10, 11, 12, 13, 14] → υ.1 d = τ.1 d := by
      intro d hd
      rcases List.mem_cons.mp hd with rfl | hd
      · exact f2.row (by decide)
      rcases List.mem_cons.mp hd with rfl | hd
      · exact f2.row (by decide)
      rcases List.mem_cons.mp hd with rfl | hd
      · exact f2.row (by decide)
      rcases List.mem_cons.mp hd with rfl | hd
      · exact f2.row (by decide)
      rcases List.mem_cons.mp hd with rfl | hd
      · exact f2.row (by decide)
      rcases List.mem_cons.mp hd with rfl | hd
      · exact f2.row (by decide)
      cases hd
    have hL : RLw υ := RLw_new k16.2 u7 (by rw [u8]; exact g8) g23 (fun c hc => ⟨KCf_on (gC c hc).1 ur, (gC c hc).2⟩) (by rw [u8]; exact gI) gM
    exact Both.mk e1' e2' (Rel_TL hn hR ((f1.eqOn (by decide)).tr (f2.eqOn (by decide))) (RT_0 ((f2.rd (by decide) (by decide)).trans z33) z14) hL)
