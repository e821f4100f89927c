/-! PURE: the planner's best is the reference's least cost -/
/-- a beast that holds a KEY for a useful lock -/
def uB (W : zWo) (b : Nat) : Prop := keysW W (8 + b) &&& lksW W ≠ 0
/-- (O', B') has done all of (O, B) that helps -/
def Dm (W : zWo) (O B O' B' : Nat) : Prop := (∀ k, k < 8 → O'.testBit k = true → O.testBit k = true) ∧ (∀ k, k < 8 → O.testBit k = true → (useW W).testBit k = true → O'.testBit k = true) ∧ ∀ b, b < 3 → dgt B' b = dgt B b ∨ (dgt B' b = 0 ∧ ¬ (dgt B b = 2 ∧ uB W b))
theorem or_b {O d k : Nat} : (O ||| 2 ^ d).testBit k = true ↔ O.testBit k = true ∨ d = k := by
  rw [Nat.testBit_or, Bool.or_eq_true, Nat.testBit_two_pow, decide_eq_true_eq]
theorem Dm_O {W : zWo} {O B O' B' d : Nat} (h : Dm W O B O' B') : Dm W (O ||| 2 ^ d) B (O' ||| 2 ^ d) B' := by
  obtain ⟨h1, h2, h3⟩ := h
  refine ⟨fun k hk e => ?_, fun k hk e u => ?_, h3⟩
  · rw [or_b] at e ⊢
    exact e.imp (h1 k hk) id
  · rw [or_b] at e ⊢
    exact e.imp (fun z => h2 k hk z u) id
theorem Dm_O1 {W : zWo} {O B O' B' d : Nat} (h : Dm W O B O' B') (hd : (useW W).testBit d = false) : Dm W (O ||| 2 ^ d) B O' B' := by
  obtain ⟨h1, h2, h3⟩ := h
  refine ⟨fun k hk e => ?_, fun k hk e u => ?_, h3⟩
  · rw [or_b]
    exact Or.inl (h1 k hk e)
  · rw [or_b] at e
    rcases e with z | z
    · exact h2 k hk z u
    · subst z
      rw [hd] at u
      cases u
theorem Dm_z {W : zWo} {O B O' B' b : Nat} (h : Dm W O B O' B') (hb : b < 3) (z : dgt B b = 0) : dgt B' b = 0 := by
  rcases h.2.2 b hb with e | e
  · rw [e, z]
  · exact e.1
theorem Dm_B {W : zWo} {O B O' B' b c : Nat} (hB1 : B < 27) (hB2 : B' < 27) (hb : b < 3) (hc : c < 3) (z : dgt B b = 0) (h : Dm W O B O' B') : Dm W O (B + c * 3 ^ b) O' (B' + c * 3 ^ b) := by
  have z' := Dm_z h hb z
  have u1 := (dgt_up B hB1 b hb c hc z).2
  have u2 := (dgt_up B' hB2 b hb c hc z').2
  refine ⟨h.1, h.2.1, fun x hx => ?_⟩
  rw [u1 x hx, u2 x hx]
  by_cases q : x = b
  · rw [if_pos q, if_pos q]
    exact Or.inl rfl
  · rw [if_neg q, if_neg q]
    exact h.2.2 x hx
theorem Dm_B1 {W : zWo} {O B O' B' b c : Nat} (hB1 : B < 27) (hb : b < 3) (hc : c < 3) (z : dgt B b = 0) (hn : ¬ (c = 2 ∧ uB W b)) (h : Dm W O B O' B') : Dm W O (B + c * 3 ^ b) O' B' := by
  have z' := Dm_z h hb z
  have u1 := (dgt_up B hB1 b hb c hc z).2
  refine ⟨h.1, h.2.1, fun x hx => ?_⟩
  rw [u1 x hx]
  by_cases q : x = b
  · rw [if_pos q]
    subst q
    exact Or.inr ⟨z', hn⟩
  · rw [if_neg q]
    exact h.2.2 x hx
theorem Dm_key {W : zWo} (hW : WOK W) {O B O' B' p k : Nat} (hp : p < 8) (up : (useW W).testBit p = true) (hl : wLok W p = some k) (h : Dm W O B O' B') (hk : hasK W O B k = true) : hasK W O' B' k = true := by
  obtain ⟨c1, c2⟩ := (use_C hW p hp up).2 k hl
  have k8 := hW.lok p k hp hl
  unfold hasK at hk ⊢
  cases q : wKey W k with
  | none => rw [q] at hk; cases hk
  | some x =>
    rw [q] at hk
    replace hk : (if x < 8 then O.testBit x else decide (dgt B (x - 8) = 2)) = true := hk
    show (if x < 8 then O'.testBit x else decide (dgt B' (x - 8) = 2)) = true
    by_cases x8 : x < 8
    · rw [if_pos x8] at hk ⊢
      exact h.2.1 x x8 hk (c2 x x8 q)
    · rw [if_neg x8] at hk ⊢
      have d2 := of_decide_eq_true hk
      have x11 : x < 11 := by rcases key11 hW k8 q with z | z <;> omega
      have ub : uB W (x - 8) := by
        intro z
        have b1 : (keysW W (8 + (x - 8)) &&& lksW W).testBit k = true := by
          rw [Nat.testBit_and, show 8 + (x - 8) = x by omega, (keysW_bit W x k8).mpr q]
          exact c1
        rw [z, Nat.zero_testBit] at b1
        cases b1
      rcases h.2.2 (x - 8) (by omega) with e | e
      · exact decide_eq_true (e.trans d2)
      · exact absurd ⟨d2, ub⟩ e.2
theorem Dm_opn {W : zWo} (hW : WOK W) {O B O' B' i d : Nat} (hd : d < 8) (h : Dm W O B O' B') (o : opn W O i d) : opn W O' i d := by
  refine ⟨o.1, o.2.1, ?_⟩
  cases q : O'.testBit d with
  | false => rfl
  | true =>
    have := h.1 d hd q
    rw [o.2.2] at this
    cases this
theorem Dm_anc {W : zWo} (hW : WOK W) {O B O' B' d : Nat} (hd : d < 8) (ud : (useW W).testBit d = true) (h : Dm W O B O' B') (a : subB (ancs W d) O = true) : subB (ancs W d) O' = true := by
  rw [subB_i (ancs_lt hW hd)] at a ⊢
  intro k hk e
  exact h.2.1 k hk (a k hk e) ((use_C hW d hd ud).1 k e)
theorem hB_i {W : zWo} {O B i l d : Nat} (h1 : (canW W O B i l).testBit d = true) (h2 : (hlpW W l).testBit d = true) : hB W O B i l d = true := by
  unfold hB
  rw [Nat.testBit_and, h1, h2]
  rfl
/-- what helps can be done here too; what does not can be left out -/
theorem Dm_act {W : zWo} (hW : WOK W) {O B O' B' i l d : Nat} (hO : O < 256) (hB1 : B < 27) (hB2 : B' < 27) (hi : i < 4) (hl : l < 6) (h1 : 1 ≤ l) (hd : d < 8) (h : Dm W O B O' B') (hc : canB W O B i l d = true) : (hB W O' B' i l d = true ∧ Dm W (acO O l d) (acB B l d) (acO O' l d) (acB B' l d)) ∨ (Dm W (acO O l d) (acB B l d) O' B' ∧ acI i l d = i) := by
  have h24 : ∀ l, 2 ≤ l → l ≤ 4 → hlpW W l = useW W := fun l q1 q2 => by
    unfold hlpW
    rw [if_neg (by omega), if_pos q2]
  rcases (by omega : l = 1 ∨ l = 2 ∨ l = 3 ∨ l = 4 ∨ l = 5) with rfl | rfl | rfl | rfl | rfl
  · obtain ⟨z, d4, ne⟩ := (can_1 hi hd).mp hc
    refine Or.inl ⟨hB_i ((can_1 hi hd).mpr ⟨Dm_z h (by decide) z, d4, ne⟩) ?_, Dm_B (b := 0) (c := 1) hB1 hB2 (by decide) (by decide) z h⟩
    rw [show hlpW W 1 = 15 from rfl, tb_15 d hd]
    exact decide_eq_true d4
  · obtain ⟨o, a, k⟩ := (can_2 hd).mp hc
    cases u : (useW W).testBit d with
    | true =>
      refine Or.inl ⟨hB_i ((can_2 hd).mpr ⟨Dm_opn hW hd h o, Dm_anc hW hd u h a, ?_⟩) (by rw [h24 2 (by decide) (by decide)]; exact u), Dm_O h⟩
      unfold lokB at k ⊢
      cases q : wLok W d with
      | none => rfl
      | some x =>
        rw [q] at k
        exact Dm_key hW hd u q h k
    | false => exact Or.inr ⟨Dm_O1 h u, rfl⟩
  · obtain ⟨z, o, a, k⟩ := (can_3 hd).mp hc
    cases u : (useW W).testBit d with
    | true => exact Or.inl ⟨hB_i ((can_3 hd).mpr ⟨Dm_z h (by decide) z, Dm_opn hW hd h o, Dm_anc hW hd u h a, k⟩) (by rw [h24 3 (by decide) (by decide)]; exact u), Dm_O (Dm_B (b := 1) (c := 1) hB1 hB2 (by decide) (by decide) z h)⟩
    | false => exact Or.inr ⟨Dm_O1 (Dm_B1 (b := 1) (c := 1) hB1 (by decide) (by decide) z (fun y => absurd y.1 (by decide)) h) u, rfl⟩
  · obtain ⟨z, o, k⟩ := (can_4 hd).mp hc
    cases u : (useW W).testBit d with
    | true => exact Or.inl ⟨hB_i ((can_4 hd).mpr ⟨Dm_z h (by decide) z, Dm_opn hW hd h o, k⟩) (by rw [h24 4 (by decide) (by decide)]; exact u), Dm_O (Dm_B (b := 2) (c := 1) hB1 hB2 (by decide) (by decide) z h)⟩
    | false => exact Or.inr ⟨Dm_O1 (Dm_B1 (b := 2) (c := 1) hB1 (by decide) (by decide) z (fun y => absurd y.1 (by decide)) h) u, rfl⟩
  · obtain ⟨d3, z, k⟩ := can_5.mp hc
    by_cases u : uB W d
    · refine Or.inl ⟨hB_i (can_5.mpr ⟨d3, Dm_z h d3 z, k⟩) ?_, Dm_B (b := d) (c := 2) hB1 hB2 d3 (by decide) z h⟩
      show (bset (fun b => decide (keysW W (8 + b) &&& lksW W ≠ 0)) 3).testBit d = true
      rw [bset_bit, decide_eq_true d3, Bool.true_and]
      exact decide_eq_true u
    · exact Or.inr ⟨Dm_B1 (b := d) (c := 2) hB1 d3 (by decide) z (fun y => u y.2) h, rfl⟩
theorem up_main {W : zWo} (hW : WOK W) {m : Nat} {T f : Nat → Nat} {bst : Nat} (hT : OKT W m T 0) (h : SI W m T f bst 6912 27648) (hlt : T 0 < bst) : ∀ n O B i O' B', 16 * T (cod O B i) + (11 - rk O B) < n → O < 256 → B < 27 → i < 4 → O' < 256 → B' < 27 → subB O' (useW W) = true → Dm W O B O' B' → T (cod O B i) < 1000000000 → f (cod O' B' i) + T (cod O B i) ≤ T 0 → False := by
  intro n
  induction n with
  | zero => intro O B i O' B' hn; omega
  | succ n ih =>
    intro O B i O' B' hn hO hB1 hi hO' hB2 hU hD hf ht
    obtain ⟨h1, h2, h3, h4, h5, h6, h7⟩ := h
    have ok := hT O B i hO hB1 hi (Nat.zero_le _)
    have gl := golW_lt hW
    have c' : cod O' B' i < 27648 := by unfold cod; omega
    cases st : subB O (wTol W) with
    | false =>
      have := ok.1 st
      omega
    | true =>
      cases hg : subB (golW W) O with
      | true =>
        have g' : subB (golW W) O' = true := by
          rw [subB_i gl] at hg ⊢
          exact fun k hk e => hD.2.1 k hk (hg k hk e) (use_gol e)
        have := h4 O' B' i hO' hB2 hi hU c' g'
        omega
      | false =>
        have hg' : subB (golW W) O' = false := by
          cases q : subB (golW W) O' with
          | false => rfl
          | true =>
            have : subB (golW W) O = true := by
              rw [subB_i gl] at q ⊢
              exact fun k hk e => hD.1 k hk (q k hk e)
            rw [hg] at this
            cases this
        rcases (ok.2.2.1 st hg).2 with z | ⟨l, d, hl, hd, hc, tn, te⟩
        · omega
        have hd8 : d < 8 := by have := (dgs_le l hl).2; omega
        by_cases l0 : l = 0
        · subst l0
          have hd4 : d < 4 := hd
          have hc' : canB W O' B' i 0 d = true := can_0.mpr (can_0.mp hc)
          have p1 := pth_w (m := m) hd4 hc'
          have p2 := h2 O' B' i d hO' hB2 hi hd4 hU (by omega)
          have y := ((wyW_c (W := W) (m := m) (O := O) (B := B) (i := i) hd4).1 hc)
          have en : nxt O B i 0 d = cod O B d := rfl
          rw [en] at tn te
          exact ih O B d O' B' (by omega) hO hB1 hd4 hO' hB2 hU hD tn (by omega)
        · obtain ⟨a1, a2, a3, -⟩ := ac_ok hO hB1 hi hl hd8 hc
          have up := rk_up hO hB1 hi hl (by omega) hd hc
          have rl := rk_le a1 a2
          have en : nxt O B i l d = cod (acO O l d) (acB B l d) (acI i l d) := rfl
          rw [en] at tn te
          rcases Dm_act hW hO hB1 hB2 hi hl (by omega) hd8 hD hc with ⟨hb, hD'⟩ | ⟨hD', ei⟩
          · obtain ⟨b1, b2, b3, -⟩ := ac_ok hO' hB2 hi hl hd8 (hB_c hb).1
            have inn := (hB_in hO' hB2 hi hl (by omega) hd8 hU hb).2.2
            have st3 := h3 O' B' i l d hO' hB2 hi hU c' hg' (by omega) (by omega) hl hd8 hb
            have en' : nxt O' B' i l d = cod (acO O' l d) (acB B' l d) (acI i l d) := rfl
            have e108 : cod (acO O' l d) (acB B' l d) (acI i l d) / 108 = acO O' l d := by unfold cod; omega
            rw [en'] at st3 inn
            rw [e108] at inn
            have ec : cstW W m i l d = cstW W m i l d := rfl
            exact ih (acO O l d) (acB B l d) (acI i l d) (acO O' l d) (acB B' l d) (by omega) a1 a2 a3 b1 b2 inn hD' tn (by omega)
          · rw [ei] at tn te
            exact ih (acO O l d) (acB B l d) i O' B' (by omega) a1 a2 hi hO' hB2 hU hD' tn (by omega)
/-- the search finds the least cost -/
theorem best_is {W : zWo} (hW : WOK W) (hh : wIs W (wHea W) = true) {m : Nat} {T f : Nat → Nat} {bst : Nat} (hT : OKT W m T 0) (h : SI W m T f bst 6912 27648) : (bst < 134217728 → bst = T 0) ∧ (¬ bst < 134217728 → T 0 = 1000000000) := by
  have c0 : cod 0 0 0 = 0 := rfl
  have u0 : subB 0 (useW W) = true := by
    unfold subB
    rw [Nat.zero_and]
    rfl
  have lim := T_lim hT (O := 0) (B := 0) (i := 0) (by decide) (by decide) (by decide)
  rw [c0] at lim
  have lo : bst < 134217728 → T 0 ≤ bst := by
    intro q
    rcases h.2.2.2.2.1 with z | ⟨O, B, i, hO, hB1, hi, hU, -, hg, e⟩
    · omega
    · have st := use_sub hW hh hO hU
      have t0 := (hT O B i hO hB1 hi (Nat.zero_le _)).2.1 st hg
      have := h.2.2.2.2.2.1 O B i hO hB1 hi hU (by omega) (by omega)
      omega
  have up : T 0 < 1000000000 → ¬ T 0 < bst := by
    intro q lt
    refine up_main hW hT h lt (16 * T 0 + 12) 0 0 0 0 0 ?_ (by decide) (by decide) (by decide) (by decide) (by decide) u0 ⟨fun k _ e => e, fun k _ e _ => e, fun b _ => Or.inl rfl⟩ (by rw [c0]; exact q) ?_
    · rw [c0]
      omega
    · rw [c0, h.2.2.2.2.2.2]
      omega
  have hb := h.1
  refine ⟨fun q => ?_, fun q => ?_⟩
  · have := lo q
    have := up (by omega)
    omega
  · rcases lim with z | z
    · exact z
    · have := up (by omega)
      omega

