/-! PURE: what the planner's search keeps true -/
theorem ancs_told {W : zWo} (hW : WOK W) : ∀ n p, p < n → p < 8 → ∀ k, (ancs W p).testBit k = true → wIs W k = true := by
  intro n
  induction n with
  | zero => intro p hp; exact absurd hp (Nat.not_lt_zero p)
  | succ n ih =>
    intro p hp p8 k hk
    cases q : wWin W p with
    | none =>
      rw [ancs_0 q, Nat.zero_testBit] at hk
      cases hk
    | some r =>
      obtain ⟨r1, r2⟩ := hW.2.2.2.1 p r p8 q
      rw [ancs_s hW p8 q, Nat.testBit_or, Bool.or_eq_true] at hk
      rcases hk with z | z
      · rw [Nat.testBit_two_pow] at z
        have := of_decide_eq_true z
        subst this
        exact r2
      · exact ih r (by omega) (by omega) k z
theorem gol_told {W : zWo} (hW : WOK W) : ∀ n p, 8 ≤ p + n → p < 8 → wIs W p = true → ∀ k, (golF W 8 p).testBit k = true → wIs W k = true := by
  intro n
  induction n with
  | zero => intro p h1 h2; omega
  | succ n ih =>
    intro p h1 h2 hp k hk
    rw [golF_s hW h2, Nat.testBit_or, Bool.or_eq_true] at hk
    rcases hk with z | z
    · rw [Nat.testBit_two_pow] at z
      have := of_decide_eq_true z
      subst this
      exact hp
    · cases q : wFli W p with
      | none =>
        rw [q] at z
        replace z : Nat.testBit 0 k = true := z
        rw [Nat.zero_testBit] at z
        cases z
      | some r =>
        rw [q] at z
        obtain ⟨r1, r2⟩ := hW.fli p r h2 q
        exact ih r (by omega) (wIs_lt r2) r2 k z
theorem us1_told {W : zWo} (hW : WOK W) {u : Nat × Nat} {p : Nat} (hp : p < 8) (h : ∀ k, u.1.testBit k = true → wIs W k = true) : ∀ k, (us1 W u p).1.testBit k = true → wIs W k = true := by
  intro k hk
  have hk' : (usA W u.1 p ||| (if (usA W u.1 p).testBit p = true then ancs W p else 0)).testBit k = true := hk
  rw [Nat.testBit_or, Bool.or_eq_true] at hk'
  rcases hk' with z | z
  · unfold usA at z
    rw [Nat.testBit_or, Bool.or_eq_true] at z
    rcases z with z | z
    · exact h k z
    · cases l : lkP W u.1 p with
      | none =>
        rw [l] at z
        replace z : Nat.testBit 0 k = true := z
        rw [Nat.zero_testBit] at z
        cases z
      | some j =>
        rw [l, Option.bind_some] at z
        cases q : wKey W j with
        | none =>
          rw [q] at z
          replace z : Nat.testBit 0 k = true := z
          rw [Nat.zero_testBit] at z
          cases z
        | some x =>
          rw [q] at z
          by_cases x8 : x < 8
          · rw [show oB8 (some x) = 2 ^ x from if_pos x8, Nat.testBit_two_pow] at z
            have := of_decide_eq_true z
            subst this
            rcases hW.2.2.2.2.2.2.1 j x (lk_8 hW hp l) q with y | y
            · exact y
            · omega
          · rw [show oB8 (some x) = 0 from if_neg x8, Nat.zero_testBit] at z
            cases z
  · by_cases c : (usA W u.1 p).testBit p = true
    · rw [if_pos c] at z
      exact ancs_told hW 8 p hp hp k z
    · rw [if_neg c, Nat.zero_testBit] at z
      cases z
theorem use_told {W : zWo} (hW : WOK W) (hh : wIs W (wHea W) = true) : ∀ k, (useW W).testBit k = true → wIs W k = true := by
  have r : ∀ (u : Nat × Nat), (∀ k, u.1.testBit k = true → wIs W k = true) → ∀ n, n ≤ 8 → ∀ k, (usr W u n).1.testBit k = true → wIs W k = true := by
    intro u h n
    induction n with
    | zero => intro _; exact h
    | succ n ih => intro hn; exact us1_told hW (by omega) (ih (by omega))
  have a : ∀ n, ∀ k, (usn W (golW W, 0) n).1.testBit k = true → wIs W k = true := by
    intro n
    induction n with
    | zero => exact gol_told hW 8 (wHea W) (by omega) hW.hea hh
    | succ n ih => exact r _ ih 8 (Nat.le_refl 8)
  exact a 8
theorem use_sub {W : zWo} (hW : WOK W) (hh : wIs W (wHea W) = true) {O : Nat} (hO : O < 256) (h : subB O (useW W) = true) : subB O (wTol W) = true := by
  rw [subB_i hO] at h ⊢
  intro k hk ok
  have := use_told hW hh k (h k hk ok)
  unfold wIs at this
  rw [Bool.and_eq_true] at this
  exact this.2
/-- what holds while the planner searches: f its table, bst its best, T the reference's costs; layers below L are settled, states below S are left -/
def SI (W : zWo) (m : Nat) (T f : Nat → Nat) (bst L S : Nat) : Prop :=
  bst ≤ 134217728 ∧
  (∀ O B a b, O < 256 → B < 27 → a < 4 → b < 4 → subB O (useW W) = true → 27 * O + B < L → f (cod O B b) ≤ f (cod O B a) + pth W m (4 * a + b)) ∧
  (∀ O B i l d, O < 256 → B < 27 → i < 4 → subB O (useW W) = true → cod O B i < S → subB (golW W) O = false → f (cod O B i) < bst → 1 ≤ l → l < 6 → d < 8 → hB W O B i l d = true → f (nxt O B i l d) ≤ f (cod O B i) + cstW W m i l d) ∧
  (∀ O B i, O < 256 → B < 27 → i < 4 → subB O (useW W) = true → cod O B i < S → subB (golW W) O = true → bst ≤ f (cod O B i)) ∧
  (bst = 134217728 ∨ ∃ O B i, O < 256 ∧ B < 27 ∧ i < 4 ∧ subB O (useW W) = true ∧ cod O B i < S ∧ subB (golW W) O = true ∧ f (cod O B i) = bst) ∧
  (∀ O B i, O < 256 → B < 27 → i < 4 → subB O (useW W) = true → f (cod O B i) < 134217728 → T (cod O B i) < 1000000000 → T 0 ≤ f (cod O B i) + T (cod O B i)) ∧
  f 0 = 0
theorem T_lim {W : zWo} {m : Nat} {T : Nat → Nat} (h : OKT W m T 0) {O B i : Nat} (hO : O < 256) (hB' : B < 27) (hi : i < 4) : T (cod O B i) = 1000000000 ∨ T (cod O B i) ≤ 100000000 := by
  rcases (h O B i hO hB' hi (Nat.zero_le _)).2.2.2 with z | z
  · exact Or.inl z
  · refine Or.inr ?_
    have : KB (rk O B) ≤ 24000000 := by unfold KB; omega
    omega
/-- the costs obey the ways of a layer -/
theorem T_ways {W : zWo} (hW : WOK W) (hh : wIs W (wHea W) = true) {m : Nat} {T : Nat → Nat} (h : OKT W m T 0) {O B : Nat} (hO : O < 256) (hB' : B < 27) (hU : subB O (useW W) = true) : ∀ a b, a < 4 → b < 4 → pth W m (4 * a + b) < 134217728 → T (cod O B b) < 1000000000 → T (cod O B a) ≤ pth W m (4 * a + b) + T (cod O B b) := by
  refine pth_c (C := fun a => T (cod O B a)) (fun a ha => T_lim h hO hB' ha) (fun a b ha hb hw cb => ?_)
  have ok := h O B a hO hB' ha (Nat.zero_le _)
  have st := use_sub hW hh hO hU
  show T (cod O B a) ≤ cstW W m a 0 b + T (cod O B b)
  cases g : subB (golW W) O with
  | true =>
    rw [ok.2.1 st g]
    exact Nat.zero_le _
  | false =>
    have := (ok.2.2.1 st g).1 0 b (by decide) hb (can_0.mpr ⟨hb, hw⟩) cb
    rw [Nat.add_comm]
    exact this
/-- the table with the layer's four settled -/
def stT (W : zWo) (m : Nat) (f : Nat → Nat) (L : Nat) : Nat → Nat := fun s => if 4 * L ≤ s ∧ s < 4 * L + 4 then stl (pth W m) (fun i => f (4 * L + i)) (s - 4 * L) else f s
theorem stT_i {W : zWo} {m L i : Nat} {f : Nat → Nat} (hi : i < 4) : stT W m f L (4 * L + i) = stl (pth W m) (fun i => f (4 * L + i)) i := by
  unfold stT
  rw [if_pos (by omega), Nat.add_sub_cancel_left]
theorem stT_n {W : zWo} {m L s : Nat} {f : Nat → Nat} (h : s < 4 * L ∨ 4 * L + 4 ≤ s) : stT W m f L s = f s := if_neg (by omega)
theorem stT_le {W : zWo} {m L s : Nat} {f : Nat → Nat} : stT W m f L s ≤ f s := by
  by_cases q : 4 * L ≤ s ∧ s < 4 * L + 4
  · obtain ⟨i, hi, rfl⟩ : ∃ i, i < 4 ∧ s = 4 * L + i := ⟨s - 4 * L, by omega, by omega⟩
    rw [stT_i hi]
    exact stl_v
  · rw [stT_n (by omega)]
    exact Nat.le_refl _
theorem SI_settle {W : zWo} (hW : WOK W) (hh : wIs W (wHea W) = true) {m : Nat} {T f : Nat → Nat} {bst O B : Nat} (hT : OKT W m T 0) (hO : O < 256) (hB' : B < 27) (hU : subB O (useW W) = true) (h : SI W m T f bst (27 * O + B) (4 * (27 * O + B))) : SI W m T (stT W m f (27 * O + B)) bst (27 * O + B + 1) (4 * (27 * O + B)) := by
  obtain ⟨h1, h2, h3, h4, h5, h6, h7⟩ := h
  have lo : ∀ O' B' i, B' < 27 → i < 4 → cod O' B' i < 4 * (27 * O + B) → stT W m f (27 * O + B) (cod O' B' i) = f (cod O' B' i) := fun O' B' i h1 h2 h3 => stT_n (Or.inl h3)
  have at' : ∀ i, i < 4 → stT W m f (27 * O + B) (cod O B i) = stl (pth W m) (fun i => f (4 * (27 * O + B) + i)) i := fun i hi => stT_i hi
  refine ⟨h1, fun O' B' a b q1 q2 q3 q4 q5 q6 => ?_, fun O' B' i l d q1 q2 q3 q4 q5 q6 q7 q8 q9 q10 q11 => ?_, fun O' B' i q1 q2 q3 q4 q5 q6 => ?_, ?_, fun O' B' i q1 q2 q3 q4 q5 q6 => ?_, ?_⟩
  · by_cases e : 27 * O' + B' = 27 * O + B
    · have eO : O' = O := by omega
      have eB : B' = B := by omega
      subst eO eB
      rw [at' a q3, at' b q4]
      exact stl_t (fun a ha => pth_0 ha) (fun a b c ha hb hc => pth_t ha hb hc) q3 q4
    · rw [lo O' B' a q2 q3 (by unfold cod; omega), lo O' B' b q2 q4 (by unfold cod; omega)]
      exact h2 O' B' a b q1 q2 q3 q4 q5 (by omega)
  · rw [lo O' B' i q2 q3 q5] at q7 ⊢
    exact Nat.le_trans stT_le (h3 O' B' i l d q1 q2 q3 q4 q5 q6 q7 q8 q9 q10 q11)
  · rw [lo O' B' i q2 q3 q5]
    exact h4 O' B' i q1 q2 q3 q4 q5 q6
  · rcases h5 with z | ⟨O', B', i, q1, q2, q3, q4, q5, q6, q7⟩
    · exact Or.inl z
    · exact Or.inr ⟨O', B', i, q1, q2, q3, q4, q5, q6, by rw [lo O' B' i q2 q3 q5]; exact q7⟩
  · by_cases e : 27 * O' + B' = 27 * O + B
    · have eO : O' = O := by omega
      have eB : B' = B := by omega
      subst eO eB
      rw [at' i q3] at q5 ⊢
      obtain ⟨a, ha, ea⟩ := stl_ex (P := pth W m) (V := fun i => f (4 * (27 * O' + B') + i)) q3 (pth_0 q3)
      rw [ea] at q5 ⊢
      replace q5 : f (cod O' B' a) + pth W m (4 * a + i) < 134217728 := q5
      show T 0 ≤ f (cod O' B' a) + pth W m (4 * a + i) + T (cod O' B' i)
      have t1 := T_ways hW hh hT hO hB' hU a i ha q3 (by omega) q6
      have lim := T_lim hT hO hB' q3
      have t2 := h6 O' B' a hO hB' ha hU (by omega) (by omega)
      omega
    · have en : stT W m f (27 * O + B) (cod O' B' i) = f (cod O' B' i) := stT_n (by unfold cod; omega)
      rw [en] at q5 ⊢
      exact h6 O' B' i q1 q2 q3 q4 q5 q6
  · have := stT_le (W := W) (m := m) (L := 27 * O + B) (s := 0) (f := f)
    omega
theorem cod_i {O B i O' B' i' : Nat} (h1 : B < 27) (h2 : i < 4) (h3 : B' < 27) (h4 : i' < 4) (h : cod O' B' i' = cod O B i) : O' = O ∧ B' = B ∧ i' = i := by
  unfold cod at h
  omega
/-- a state that is no better than the best is passed over -/
theorem SI_skip {W : zWo} {m : Nat} {T f : Nat → Nat} {bst L O B i : Nat} (hB' : B < 27) (hi : i < 4) (h : SI W m T f bst L (cod O B i)) (g : bst ≤ f (cod O B i)) : SI W m T f bst L (cod O B i + 1) := by
  obtain ⟨h1, h2, h3, h4, h5, h6, h7⟩ := h
  refine ⟨h1, h2, fun O' B' i' l d q1 q2 q3 q4 q5 q6 q7 => ?_, fun O' B' i' q1 q2 q3 q4 q5 q6 => ?_, ?_, h6, h7⟩
  · by_cases e : cod O' B' i' = cod O B i
    · rw [e] at q7
      omega
    · exact h3 O' B' i' l d q1 q2 q3 q4 (by omega) q6 q7
  · by_cases e : cod O' B' i' = cod O B i
    · rw [e]
      exact g
    · exact h4 O' B' i' q1 q2 q3 q4 (by omega) q6
  · rcases h5 with z | ⟨O', B', i', q1, q2, q3, q4, q5, q6, q7⟩
    · exact Or.inl z
    · exact Or.inr ⟨O', B', i', q1, q2, q3, q4, by omega, q6, q7⟩
/-- a better end -/
theorem SI_best {W : zWo} {m : Nat} {T f : Nat → Nat} {bst L O B i : Nat} (hO : O < 256) (hB' : B < 27) (hi : i < 4) (hU : subB O (useW W) = true) (hg : subB (golW W) O = true) (h : SI W m T f bst L (cod O B i)) (g : f (cod O B i) < bst) : SI W m T f (f (cod O B i)) L (cod O B i + 1) := by
  obtain ⟨h1, h2, h3, h4, h5, h6, h7⟩ := h
  refine ⟨by omega, h2, fun O' B' i' l d q1 q2 q3 q4 q5 q6 q7 => ?_, fun O' B' i' q1 q2 q3 q4 q5 q6 => ?_, Or.inr ⟨O, B, i, hO, hB', hi, hU, by omega, hg, rfl⟩, h6, h7⟩
  · by_cases e : cod O' B' i' = cod O B i
    · rw [e] at q7
      omega
    · exact h3 O' B' i' l d q1 q2 q3 q4 (by omega) q6 (by omega)
  · by_cases e : cod O' B' i' = cod O B i
    · rw [e]
      exact Nat.le_refl _
    · have := h4 O' B' i' q1 q2 q3 q4 (by omega) q6
      omega
/-- a state that is left -/
theorem SI_leave {W : zWo} (hW : WOK W) (hh : wIs W (wHea W) = true) {m : Nat} {T f f' : Nat → Nat} {bst O B i : Nat} (hT : OKT W m T 0) (hO : O < 256) (hB' : B < 27) (hi : i < 4) (hU : subB O (useW W) = true) (hg : subB (golW W) O = false) (h : SI W m T f bst (27 * O + B + 1) (cod O B i)) (g : f (cod O B i) < bst) (hl : LVP W m f f' (f (cod O B i)) O B i (fun _ _ => True)) : SI W m T f' bst (27 * O + B + 1) (cod O B i + 1) := by
  obtain ⟨h1, h2, h3, h4, h5, h6, h7⟩ := h
  obtain ⟨l1, l2, l3⟩ := hl
  have same : ∀ s, s < 4 * (27 * O + B + 1) → f' s = f s := by
    intro s hs
    rcases l3 s with z | ⟨l, d, q1, q2, q3, q4, q5, q6⟩
    · exact z
    · have := (hB_in hO hB' hi q2 q1 q3 hU q4).1
      omega
  have sc : ∀ O' B' i', i' < 4 → 27 * O' + B' < 27 * O + B + 1 → f' (cod O' B' i') = f (cod O' B' i') := fun O' B' i' q1 q2 => same _ (by unfold cod; omega)
  have ci : cod O B i < 4 * (27 * O + B + 1) := by unfold cod; omega
  refine ⟨h1, fun O' B' a b q1 q2 q3 q4 q5 q6 => ?_, fun O' B' i' l d q1 q2 q3 q4 q5 q6 q7 q8 q9 q10 q11 => ?_, fun O' B' i' q1 q2 q3 q4 q5 q6 => ?_, ?_, fun O' B' i' q1 q2 q3 q4 q5 q6 => ?_, (same 0 (by omega)).trans h7⟩
  · rw [sc O' B' a q3 q6, sc O' B' b q4 q6]
    exact h2 O' B' a b q1 q2 q3 q4 q5 q6
  · rw [same (cod O' B' i') (by omega)] at q7 ⊢
    by_cases e : cod O' B' i' = cod O B i
    · obtain ⟨e1', e2', e3'⟩ := cod_i hB' hi q2 q3 e
      subst e1' e2' e3'
      exact l2 l d trivial q8 q9 q10 q11
    · exact Nat.le_trans (l1 _) (h3 O' B' i' l d q1 q2 q3 q4 (by omega) q6 q7 q8 q9 q10 q11)
  · rw [same _ (by omega)]
    by_cases e : cod O' B' i' = cod O B i
    · obtain ⟨e1', e2', e3'⟩ := cod_i hB' hi q2 q3 e
      subst e1'
      rw [hg] at q6
      cases q6
    · exact h4 O' B' i' q1 q2 q3 q4 (by omega) q6
  · rcases h5 with z | ⟨O', B', i', q1, q2, q3, q4, q5, q6, q7⟩
    · exact Or.inl z
    · exact Or.inr ⟨O', B', i', q1, q2, q3, q4, by omega, q6, by rw [same _ (by omega)]; exact q7⟩
  · rcases l3 (cod O' B' i') with z | ⟨l, d, r1, r2, r3, r4, r5, r6⟩
    · rw [z] at q5 ⊢
      exact h6 O' B' i' q1 q2 q3 q4 q5 q6
    · rw [r6]
      have lim := T_lim hT q1 q2 q3
      have st := use_sub hW hh hO hU
      have c1 := (hB_c r4).1
      have cle := cstW_le hW (m := m) (l := l) (d := d) hi (fun z => by omega)
      have ok := ((hT O B i hO hB' hi (Nat.zero_le _)).2.2.1 st hg).1 l d r2 (can_dg hi r2 r3 c1) c1 (by rw [← r5]; exact q6)
      rw [← r5] at ok
      have t0 := h6 O B i hO hB' hi hU (by omega) (by omega)
      omega

