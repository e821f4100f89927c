/-! PURE: best ways -/
/-- who has done what helps alone is no further from the end -/
theorem Dm_T {W : zWo} (hW : WOK W) (hh : wIs W (wHea W) = true) {m : Nat} {T : Nat → Nat} (hT : OKT W m T 0) : ∀ n O B i O' B', 16 * T (cod O B i) + (11 - rk O B) < n → O < 256 → B < 27 → i < 4 → O' < 256 → B' < 27 → subB O' (useW W) = true → Dm W O B O' B' → T (cod O B i) < 1000000000 → T (cod O' B' i) ≤ T (cod O B i) := by
  intro n
  induction n with
  | zero => intro O B i O' B' hn; omega
  | succ n ih =>
    intro O B i O' B' hn hO hB1 hi hO' hB2 hU hD hf
    have ok := hT O B i hO hB1 hi (Nat.zero_le _)
    have ok' := hT O' B' i hO' hB2 hi (Nat.zero_le _)
    have gl := golW_lt hW
    have st' := use_sub hW hh hO' hU
    cases st : subB O (wTol W) with
    | false =>
      have := ok.1 st
      omega
    | true =>
      cases hg : subB (golW W) O with
      | true =>
        have g' : subB (golW W) O' = true := by
          rw [subB_i gl] at hg ⊢
          exact fun k hk e => hD.2.1 k hk (hg k hk e) (use_gol e)
        have := ok'.2.1 st' g'
        omega
      | false =>
        cases hg' : subB (golW W) O' with
        | true =>
          have := ok'.2.1 st' hg'
          omega
        | false =>
        rcases (ok.2.2.1 st hg).2 with z | ⟨l, d, hl, hd, hc, tn, te⟩
        · omega
        have hd8 : d < 8 := by have := (dgs_le l hl).2; omega
        by_cases l0 : l = 0
        · subst l0
          have hd4 : d < 4 := hd
          have hc' : canB W O' B' i 0 d = true := can_0.mpr (can_0.mp hc)
          have wpos : 0 < dyW W i 0 d := (can_0.mp hc).2
          have ce : cstW W m i 0 d = 1024 * dyW W i 0 d + (if m = 0 then 1 else if (0 : Nat) = 2 ∨ (0 : Nat) = 3 ∨ (0 : Nat) = 4 then 1 else 0) := rfl
          have t1 := (ok'.2.2.1 st' hg').1 0 d (by decide) hd4 hc'
          have en : nxt O B i 0 d = cod O B d := rfl
          have en' : nxt O' B' i 0 d = cod O' B' d := rfl
          rw [en] at tn te
          rw [en'] at t1
          have r := ih O B d O' B' (by omega) hO hB1 hd4 hO' hB2 hU hD tn
          have := t1 (by omega)
          omega
        · obtain ⟨a1, a2, a3, -⟩ := ac_ok hO hB1 hi hl hd8 hc
          have up := rk_up hO hB1 hi hl (by omega) hd hc
          have rl := rk_le a1 a2
          have en : nxt O B i l d = cod (acO O l d) (acB B l d) (acI i l d) := rfl
          rw [en] at tn te
          rcases Dm_act hW hO hB1 hB2 hi hl (by omega) hd8 hD hc with ⟨hb, hD'⟩ | ⟨hD', ei⟩
          · obtain ⟨b1, b2, b3, -⟩ := ac_ok hO' hB2 hi hl hd8 (hB_c hb).1
            have inn := (hB_in hO' hB2 hi hl (by omega) hd8 hU hb).2.2
            have t1 := (ok'.2.2.1 st' hg').1 l d hl hd (hB_c hb).1
            have en' : nxt O' B' i l d = cod (acO O' l d) (acB B' l d) (acI i l d) := rfl
            have e108 : cod (acO O' l d) (acB B' l d) (acI i l d) / 108 = acO O' l d := by unfold cod; omega
            rw [en'] at t1 inn
            rw [e108] at inn
            have r := ih (acO O l d) (acB B l d) (acI i l d) (acO O' l d) (acB B' l d) (by omega) a1 a2 a3 b1 b2 inn hD' tn
            have := t1 (by omega)
            omega
          · rw [ei] at tn te
            have r := ih (acO O l d) (acB B l d) i O' B' (by omega) a1 a2 hi hO' hB2 hU hD' tn
            omega
/-- an act by which it stays as soon -/
def Gd (W : zWo) (T : Nat → Nat) (O B i l d : Nat) : Prop := l < 6 ∧ d < dgs l ∧ canB W O B i l d = true ∧ T (nxt O B i l d) < 1000000000 ∧ T (nxt O B i l d) + cstW W 0 i l d = T (cod O B i)
def Fs (W : zWo) (T : Nat → Nat) (O B i l d : Nat) : Prop := Gd W T O B i l d ∧ ∀ l' d', (l' < l ∨ (l' = l ∧ d' < d)) → ¬ Gd W T O B i l' d'
/-- the acts from a state on, each the first by which it stays as soon -/
def PT (W : zWo) (T : Nat → Nat) : Nat → Nat → Nat → Nat → (Nat → Nat) → Prop
  | 0, O, _, _, _ => subB (golW W) O = true
  | N + 1, O, B, i, a => subB (golW W) O = false ∧ ∃ l d, a 0 = 10 * l + d ∧ Fs W T O B i l d ∧ PT W T N (acO O l d) (acB B l d) (acI i l d) (fun k => a (k + 1))
/-- what the beasts still count for: the raven twice -/
def pB (B : Nat) : Nat := (if dgt B 0 = 0 then 2 else 0) + (if dgt B 1 = 0 then 1 else 0) + (if dgt B 2 = 0 then 1 else 0)
theorem pB_le : ∀ B, B < 27 → pB B ≤ 4 := by decide +kernel
theorem pB_up : ∀ B, B < 27 → ∀ b, b < 3 → ∀ c, c < 3 → c ≠ 0 → dgt B b = 0 → pB (B + c * 3 ^ b) + (if b = 0 then 2 else 1) = pB B := by decide +kernel
theorem one_in : ∀ i, i < 4 → sumN (fun j => if j = i then 1 else 0) 4 ≤ 1 := by decide +kernel
/-- how many acts there can be at most: four for each place that isn't opened, what beasts count for, the cheaper islands -/
def phW (T : Nat → Nat) (O B i : Nat) : Nat := 4 * (8 - pop8 O) + pB B + ctL T O B (T (cod O B i))
theorem ph_le {T : Nat → Nat} {O B i : Nat} (hB : B < 27) (hi : i < 4) : phW T O B i ≤ 39 := by
  have := ctL_3 (T := T) (O := O) (B := B) hi
  have := pB_le B hB
  unfold phW
  omega
theorem ph_s {W : zWo} {T : Nat → Nat} (hT : OKT W 0 T 0) {O B i l d : Nat} (hO : O < 256) (hB : B < 27) (hi : i < 4) (st : subB O (wTol W) = true) (hg : subB (golW W) O = false) (g : Gd W T O B i l d) : phW T (acO O l d) (acB B l d) (acI i l d) + 1 ≤ phW T O B i := by
  obtain ⟨g1, g2, g3, g4, g5⟩ := g
  have hd8 : d < 8 := by have := (dgs_le l g1).2; omega
  obtain ⟨a1, a2, a3, -⟩ := ac_ok hO hB hi g1 hd8 g3
  have up : 2 ≤ l → l ≤ 4 → pop8 (acO O l d) = pop8 O + 1 := by
    intro q1 q2
    have o := canB_opn hd8 q1 q2 g3
    rw [show acO O l d = O ||| 2 ^ d from if_pos ⟨q1, q2⟩, Nat.or_comm]
    exact pop8_add O hO d hd8 o.2.2
  have p8 := pop8_8 (acO O l d) a1
  have c3 := ctL_3 (T := T) (O := acO O l d) (B := acB B l d) a3
  rcases (by omega : l = 0 ∨ l = 1 ∨ l = 2 ∨ l = 3 ∨ l = 4 ∨ l = 5) with rfl | rfl | rfl | rfl | rfl | rfl
  · have hd4 : d < 4 := g2
    have wpos : 0 < dyW W i 0 d := (can_0.mp g3).2
    have ce : cstW W 0 i 0 d = 1024 * dyW W i 0 d + 1 := rfl
    have en : nxt O B i 0 d = cod O B d := rfl
    rw [en] at g4 g5
    have := ctL_lt (T := T) (O := O) (B := B) (v := T (cod O B i)) hd4 (by omega)
    have e : phW T (acO O 0 d) (acB B 0 d) (acI i 0 d) = 4 * (8 - pop8 O) + pB B + ctL T O B (T (cod O B d)) := rfl
    rw [e]
    unfold phW
    omega
  · obtain ⟨r1, r2, r3⟩ := (can_1 hi hd8).mp g3
    have pb : pB (B + 1) + 2 = pB B := pB_up B hB 0 (by decide) 1 (by decide) (by decide) r1
    have ce : cstW W 0 i 1 d = 1025 := rfl
    have en : nxt O B i 1 d = cod O (B + 1) d := rfl
    rw [en] at g4 g5
    rw [ce] at g5
    have one : ctL T O (B + 1) (T (cod O (B + 1) d)) ≤ 1 := by
      refine Nat.le_trans ?_ (one_in i hi)
      refine sumN_le 4 (fun j hj => ?_)
      show (if T (cod O (B + 1) j) < T (cod O (B + 1) d) then 1 else 0) ≤ if j = i then 1 else 0
      by_cases q : T (cod O (B + 1) j) < T (cod O (B + 1) d)
      · by_cases e : j = i
        · rw [if_pos q, if_pos e]
          exact Nat.le_refl _
        · exfalso
          have t := ((hT O B i hO hB hi (Nat.zero_le _)).2.2.1 st hg).1 1 j (by decide) hj ((can_1 hi (by omega)).mpr ⟨r1, hj, e⟩)
          rw [show nxt O B i 1 j = cod O (B + 1) j from rfl, show cstW W 0 i 1 j = 1025 from rfl] at t
          have := t (by omega)
          omega
      · rw [if_neg q]
        exact Nat.zero_le _
    have e : phW T (acO O 1 d) (acB B 1 d) (acI i 1 d) = 4 * (8 - pop8 O) + pB (B + 1) + ctL T O (B + 1) (T (cod O (B + 1) d)) := rfl
    rw [e]
    unfold phW
    omega
  · have u := up (by decide) (by decide)
    have eb : pB (acB B 2 d) = pB B := rfl
    unfold phW
    omega
  · have u := up (by decide) (by decide)
    have eb : pB (acB B 3 d) + 1 = pB B := pB_up B hB 1 (by decide) 1 (by decide) (by decide) ((can_3 hd8).mp g3).1
    unfold phW
    omega
  · have u := up (by decide) (by decide)
    have eb : pB (acB B 4 d) + 1 = pB B := pB_up B hB 2 (by decide) 1 (by decide) (by decide) ((can_4 hd8).mp g3).1
    unfold phW
    omega
  · obtain ⟨r1, r2, r3⟩ := can_5.mp g3
    have eb : pB (acB B 5 d) + (if d = 0 then 2 else 1) = pB B := pB_up B hB d r1 2 (by decide) (by decide) r2
    have e1' : 1 ≤ (if d = 0 then 2 else 1) := by split <;> omega
    have ce : ∀ j, cstW W 0 j 5 d = 1 := fun j => rfl
    have en : ∀ j, nxt O B j 5 d = cod O (acB B 5 d) j := fun j => rfl
    rw [en] at g4 g5
    rw [ce] at g5
    have le : ctL T O (acB B 5 d) (T (cod O (acB B 5 d) i)) ≤ ctL T O B (T (cod O B i)) := by
      refine sumN_le 4 (fun j hj => ?_)
      show (if T (cod O (acB B 5 d) j) < T (cod O (acB B 5 d) i) then 1 else 0) ≤ if T (cod O B j) < T (cod O B i) then 1 else 0
      by_cases q : T (cod O (acB B 5 d) j) < T (cod O (acB B 5 d) i)
      · have t := ((hT O B j hO hB hj (Nat.zero_le _)).2.2.1 st hg).1 5 d (by decide) g2 (can_5.mpr ⟨r1, r2, r3⟩)
        rw [en, ce] at t
        have := t (by omega)
        rw [if_pos q, if_pos (by omega)]
        exact Nat.le_refl _
      · rw [if_neg q]
        exact Nat.zero_le _
    have e : phW T (acO O 5 d) (acB B 5 d) (acI i 5 d) = 4 * (8 - pop8 O) + pB (acB B 5 d) + ctL T O (acB B 5 d) (T (cod O (acB B 5 d) i)) := rfl
    rw [e]
    unfold phW
    omega
/-- a state on a best way -/
def AL (T f : Nat → Nat) (bst s : Nat) : Prop := T s < 1000000000 ∧ f s + T s = bst
theorem al_back {W : zWo} (hW : WOK W) (hh : wIs W (wHea W) = true) {T f : Nat → Nat} {bst : Nat} (hT : OKT W 0 T 0) (hI : SI W 0 T f bst 6912 27648) (hb : bst = T 0) (hl : bst < 134217728) {O B i l d : Nat} (hO : O < 256) (hB : B < 27) (hi : i < 4) (hU : subB O (useW W) = true) (hg : subB (golW W) O = false) (g1 : l < 6) (g2 : d < dgs l) (g3 : canB W O B i l d = true) (ft : f (nxt O B i l d) = f (cod O B i) + cstW W 0 i l d) (a : AL T f bst (nxt O B i l d)) : AL T f bst (cod O B i) ∧ T (nxt O B i l d) + cstW W 0 i l d = T (cod O B i) := by
  obtain ⟨a1, a2⟩ := a
  have ok := hT O B i hO hB hi (Nat.zero_le _)
  have st := use_sub hW hh hO hU
  have t1 := (ok.2.2.1 st hg).1 l d g1 g2 g3 a1
  have lim := T_lim hT hO hB hi
  have cl := cstW_le hW (m := 0) (l := l) (d := d) hi (fun e => by subst e; exact g2)
  obtain ⟨h1, h2, h3, h4, h5, h6, h7⟩ := hI
  have := h6 O B i hO hB hi hU (by omega) (by omega)
  unfold AL
  omega
/-- what stays as soon helps, and is on the planner's best way -/
theorem al_fwd {W : zWo} (hW : WOK W) (hh : wIs W (wHea W) = true) {T f : Nat → Nat} {bst : Nat} (hT : OKT W 0 T 0) (hI : SI W 0 T f bst 6912 27648) (hb : bst = T 0) (hl : bst < 134217728) {O B i l d : Nat} (hO : O < 256) (hB1 : B < 27) (hi : i < 4) (hU : subB O (useW W) = true) (hg : subB (golW W) O = false) (g : Gd W T O B i l d) (a : AL T f bst (cod O B i)) : hB W O B i l d = true ∧ f (nxt O B i l d) = f (cod O B i) + cstW W 0 i l d ∧ AL T f bst (nxt O B i l d) := by
  obtain ⟨g1, g2, g3, g4, g5⟩ := g
  obtain ⟨b1, b2⟩ := a
  have hd8 : d < 8 := by have := (dgs_le l g1).2; omega
  obtain ⟨a1, a2, a3, -⟩ := ac_ok hO hB1 hi g1 hd8 g3
  have hI' := hI
  obtain ⟨h1, h2, h3, h4, h5, h6, h7⟩ := hI
  have c' : cod O B i < 27648 := by unfold cod; omega
  have en : nxt O B i l d = cod (acO O l d) (acB B l d) (acI i l d) := rfl
  have cp : 1 ≤ cstW W 0 i l d := by
    have : cstW W 0 i l d = 1024 * dyW W i l d + 1 := rfl
    omega
  have dom : ∀ O' B', O' < 256 → B' < 27 → acO O l d = O' → acB B l d = B' → acI i l d = i → Dm W O' B' O B → False := by
    intro O' B' q1 q2 e1' e2' e3' hD
    rw [en, e1', e2', e3'] at g4 g5
    have := Dm_T hW hh hT (16 * T (cod O' B' i) + 12) O' B' i O B (by omega) q1 q2 hi hO hB1 hU hD g4
    omega
  have hb' : hB W O B i l d = true := by
    by_cases l0 : l = 0
    · subst l0
      have hd4 : d < 4 := g2
      refine hB_i g3 ?_
      rw [show hlpW W 0 = 15 from rfl, tb_15 d hd8]
      exact decide_eq_true hd4
    · rcases Dm_act hW hO hB1 hB1 hi g1 (by omega) hd8 (show Dm W O B O B from ⟨fun k _ e => e, fun k _ e _ => e, fun b _ => Or.inl rfl⟩) g3 with ⟨z, -⟩ | ⟨z1, z2⟩
      · exact z
      · exact absurd z1 (fun z1 => dom _ _ a1 a2 rfl rfl z2 z1)
  have hU' : subB (acO O l d) (useW W) = true := by
    by_cases l0 : l = 0
    · subst l0
      exact hU
    · have inn := (hB_in hO hB1 hi g1 (by omega) hd8 hU hb').2.2
      have e108 : nxt O B i l d / 108 = acO O l d := by unfold nxt cod; omega
      rw [e108] at inn
      exact inn
  have Tp : 1 ≤ T (cod O B i) := by omega
  have le : f (nxt O B i l d) ≤ f (cod O B i) + cstW W 0 i l d := by
    by_cases l0 : l = 0
    · subst l0
      have hd4 : d < 4 := g2
      have p1 := pth_w (m := 0) hd4 g3
      have p2 := h2 O B i d hO hB1 hi hd4 hU (by omega)
      have e : nxt O B i 0 d = cod O B d := rfl
      rw [e]
      omega
    · exact h3 O B i l d hO hB1 hi hU c' hg (by omega) (by omega) g1 hd8 hb'
  have cl := cstW_le hW (m := 0) (l := l) (d := d) hi (fun e => by subst e; exact g2)
  have ge := h6 (acO O l d) (acB B l d) (acI i l d) a1 a2 a3 hU' (by rw [← en]; omega) (by rw [← en]; exact g4)
  rw [← en] at ge
  refine ⟨hb', by omega, g4, by omega⟩
/-- the acts of a best way, its days -/
theorem PT_T {W : zWo} (hW : WOK W) {T : Nat → Nat} (hT : OKT W 0 T 0) : ∀ N O B i a, O < 256 → B < 27 → i < 4 → subB O (wTol W) = true → PT W T N O B i a → ∃ D, T (cod O B i) = 1024 * D + N := by
  intro N
  induction N with
  | zero =>
    intro O B i a hO hB hi st h
    exact ⟨0, by have := (hT O B i hO hB hi (Nat.zero_le _)).2.1 st h; omega⟩
  | succ N ih =>
    intro O B i a hO hB hi st h
    obtain ⟨hg, l, d, -, ⟨⟨g1, g2, g3, g4, g5⟩, -⟩, hp⟩ := h
    have hd8 : d < 8 := by have := (dgs_le l g1).2; omega
    obtain ⟨a1, a2, a3, a4⟩ := ac_ok hO hB hi g1 hd8 g3
    obtain ⟨D, e⟩ := ih _ _ _ _ a1 a2 a3 (a4 st) hp
    have en : nxt O B i l d = cod (acO O l d) (acB B l d) (acI i l d) := rfl
    have ce : cstW W 0 i l d = 1024 * dyW W i l d + 1 := rfl
    rw [en] at g5
    exact ⟨D + dyW W i l d, by omega⟩
