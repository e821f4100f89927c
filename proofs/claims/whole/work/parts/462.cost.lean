/-! PURE: the reference's costs -/
theorem or_gt : ∀ O, O < 256 → ∀ d, d < 8 → O.testBit d = false → O < O ||| 2 ^ d := by decide +kernel
theorem canB_opn {W : zWo} {O B i l d : Nat} (hd : d < 8) (h2 : 2 ≤ l) (h4 : l ≤ 4) (z : canB W O B i l d = true) : opn W O i d := by
  rcases (by omega : l = 2 ∨ l = 3 ∨ l = 4) with rfl | rfl | rfl
  · exact ((can_2 hd).mp z).1
  · exact ((can_3 hd).mp z).2.1
  · exact ((can_4 hd).mp z).2.1
theorem nxt_ok {W : zWo} {O B i l d : Nat} (hO : O < 256) (hB : B < 27) (hi : i < 4) (hl : l < 6) (h1 : 1 ≤ l) (hd : d < dgs l) (h : canB W O B i l d = true) : 4 * (27 * O + B + 1) ≤ nxt O B i l d ∧ nxt O B i l d < 27648 := by
  have hd8 : d < 8 := by have := (dgs_le l hl).2; omega
  obtain ⟨a1, a2, a3, a4⟩ := ac_ok hO hB hi hl hd8 h
  unfold nxt cod
  refine ⟨?_, by omega⟩
  have key : 27 * O + B + 1 ≤ 27 * acO O l d + acB B l d := by
    rcases (by omega : l = 1 ∨ l = 5 ∨ (2 ≤ l ∧ l ≤ 4)) with rfl | rfl | ⟨q1, q2⟩
    · show 27 * O + B + 1 ≤ 27 * O + (B + 1)
      omega
    · show 27 * O + B + 1 ≤ 27 * O + (B + 2 * 3 ^ d)
      have : 0 < 3 ^ d := Nat.pow_pos (by decide)
      omega
    · have o := canB_opn hd8 q1 q2 h
      have g := or_gt O hO d hd8 o.2.2
      have e : acO O l d = O ||| 2 ^ d := if_pos ⟨q1, q2⟩
      rw [e]
      omega
  omega
/-- how far on a layer is -/
def rkB (B : Nat) : Nat := (if dgt B 0 = 0 then 0 else 1) + (if dgt B 1 = 0 then 0 else 1) + (if dgt B 2 = 0 then 0 else 1)
theorem rkB_up : ∀ B, B < 27 → ∀ b, b < 3 → ∀ c, c < 3 → c ≠ 0 → dgt B b = 0 → rkB (B + c * 3 ^ b) = rkB B + 1 := by decide +kernel
theorem rkB_le : ∀ B, B < 27 → rkB B ≤ 3 := by decide +kernel
def rk (O B : Nat) : Nat := pop8 O + rkB B
theorem pop8_8 : ∀ m, m < 256 → pop8 m ≤ 8 := by decide +kernel
theorem rk_le {O B : Nat} (hO : O < 256) (hB : B < 27) : rk O B ≤ 11 := by
  have := rkB_le B hB
  have := pop8_8 O hO
  unfold rk
  omega
theorem rk_up {W : zWo} {O B i l d : Nat} (hO : O < 256) (hB : B < 27) (hi : i < 4) (hl : l < 6) (h1 : 1 ≤ l) (hd : d < dgs l) (h : canB W O B i l d = true) : rk O B + 1 ≤ rk (acO O l d) (acB B l d) := by
  have hd8 : d < 8 := by have := (dgs_le l hl).2; omega
  unfold rk
  have up : 2 ≤ l → l ≤ 4 → pop8 (acO O l d) = pop8 O + 1 := by
    intro q1 q2
    have o := canB_opn hd8 q1 q2 h
    rw [show acO O l d = O ||| 2 ^ d from if_pos ⟨q1, q2⟩, Nat.or_comm]
    exact pop8_add O hO d hd8 o.2.2
  rcases (by omega : l = 1 ∨ l = 2 ∨ l = 3 ∨ l = 4 ∨ l = 5) with rfl | rfl | rfl | rfl | rfl
  · have := rkB_up B hB 0 (by decide) 1 (by decide) (by decide) ((can_1 hi hd8).mp h).1
    rw [show acB B 1 d = B + 1 * 3 ^ 0 from rfl, show acO O 1 d = O from rfl]
    omega
  · rw [up (by decide) (by decide), show acB B 2 d = B from rfl]
    omega
  · have := rkB_up B hB 1 (by decide) 1 (by decide) (by decide) ((can_3 hd8).mp h).1
    rw [up (by decide) (by decide), show acB B 3 d = B + 1 * 3 ^ 1 from rfl]
    omega
  · have := rkB_up B hB 2 (by decide) 1 (by decide) (by decide) ((can_4 hd8).mp h).1
    rw [up (by decide) (by decide), show acB B 4 d = B + 1 * 3 ^ 2 from rfl]
    omega
  · have := rkB_up B hB d hd 2 (by decide) (by decide) (can_5.mp h).2.1
    rw [show acB B 5 d = B + 2 * 3 ^ d from rfl, show acO O 5 d = O from rfl]
    omega
def KB (r : Nat) : Nat := (12 - r) * 2000000
/-- the table holds T from the layer L on -/
def TB (σ : zSt) (T : Nat → Nat) (L : Nat) : Prop := ∀ s, 4 * L ≤ s → s < 27648 → σ.1 92 s = nI (T s) ∧ T s ≤ 1000000000
/-- the least, of the acts that dn says -/
def BB (W : zWo) (m : Nat) (T : Nat → Nat) (O B i : Nat) (dn : Nat → Nat → Prop) (v : Nat) : Prop := v ≤ 1000000000 ∧ (∀ l d, dn l d → 1 ≤ l → l < 6 → d < dgs l → canB W O B i l d = true → T (nxt O B i l d) < 1000000000 → v ≤ T (nxt O B i l d) + cstW W m i l d) ∧ (v = 1000000000 ∨ ∃ l d, 1 ≤ l ∧ l < 6 ∧ d < dgs l ∧ canB W O B i l d = true ∧ T (nxt O B i l d) < 1000000000 ∧ v = T (nxt O B i l d) + cstW W m i l d)
theorem T_min {σ : zSt} {a b : Nat} (h : a < 2147483648 ∧ b < 2147483648) : F_X12_min (nI a) (nI b) σ = some (nI (min a b), σ) := by
  unfold F_X12_min F_X12_min_0
  by_cases q : b ≤ a
  · rw [if_pos (by rw [nI_lep (by omega)]; exact q), Nat.min_eq_right q]
  · rw [if_neg (by rw [nI_lep (by omega)]; exact q), Nat.min_eq_left (by omega)]
theorem T_bestBy {W : zWo} {m : Nat} {σ : zSt} (hW : WOK W) (hm : m < 2) (h : PM W m σ) {T : Nat → Nat} {O B i : Nat} (hO : O < 256) (hB : B < 27) (hi : i < 4) (hT : TB σ T (27 * O + B + 1)) : wp (F_X12_bestBy (nI O) (nI B) (nI i) (nI (hadW W O B)) σ) (fun a τ => τ = σ ∧ ∃ v, a = nI v ∧ BB W m T O B i (fun _ _ => True) v) := by
  unfold F_X12_bestBy F_X12_bestBy_0
  refine wp_for (fun k s => s.2.1 = nI (k + 1) ∧ s.2.2 = σ ∧ ∃ v, s.1 = nI v ∧ BB W m T O B i (fun l _ => l ≤ k) v) 5 (by decide) (fun k w s hk hI hw => ?_) (fun w s hI => ?_) ⟨rfl, rfl, 1000000000, rfl, Nat.le_refl _, fun l d q h1 => absurd h1 (by omega), Or.inl rfl⟩
  · obtain ⟨x5, x6, τ⟩ := s
    obtain ⟨i1, i2, v, i3, i4⟩ := hI
    simp only at i1 i2 i3
    subst i1 i2 i3
    show wp (F_X12_bestBy_8 _ _ _ _ w (nI v) (nI (k + 1)) τ) _
    unfold F_X12_bestBy_8
    rw [if_neg (by rw [show (6 : Int32) = nI 6 from rfl, nI_lep (by omega)]; omega)]
    have dl := dgs_le (k + 1) (by omega)
    refine wp_for (fun e s => s.2.1 = nI e ∧ s.2.2 = τ ∧ ∃ v, s.1 = nI v ∧ BB W m T O B i (fun l d => l ≤ k ∨ (l = k + 1 ∧ d < e)) v) (dgs (k + 1)) (by omega) (fun e w2 s he hI hw2 => ?_) (fun w2 s hI => ?_) ⟨rfl, rfl, v, rfl, i4.1, fun l d q => i4.2.1 l d (by rcases q with q | q <;> omega), i4.2.2⟩
    · obtain ⟨x5, x7, υ⟩ := s
      obtain ⟨j1, j2, u, j3, j4⟩ := hI
      simp only at j1 j2 j3
      subst j1 j2 j3
      have ub := j4.1
      show wp (F_X12_bestBy_18 w _ _ _ _ (nI (k + 1)) w2 (nI u) (nI e) υ) _
      unfold F_X12_bestBy_18 F_X12_bestBy_86
      rw [T_digitsFor (k + 1) (by omega), bd_s, if_neg (by rw [nI_lep (by omega)]; omega), T_behind hW h hO hB hi (by omega) he, bd_s]
      by_cases c : canB W O B i (k + 1) e = true
      rotate_left
      · rw [if_neg c, if_pos rfl, nm_s, nI_1]
        refine hw2 _ ⟨rfl, rfl, u, rfl, j4.1, fun l d q h1 hl hd hc => ?_, j4.2.2⟩
        rcases q with q | ⟨q, q2⟩
        · exact j4.2.1 l d (Or.inl q) h1 hl hd hc
        · by_cases z : d = e
          · subst q z
            exact absurd hc c
          · exact j4.2.1 l d (Or.inr ⟨q, by omega⟩) h1 hl hd hc
      obtain ⟨n1, n2⟩ := nxt_ok hO hB hi (show k + 1 < 6 by omega) (by omega) he c
      obtain ⟨t1, t2⟩ := hT _ n1 n2
      rw [if_pos c, if_neg (e1_n (by omega)), gd_n (by omega), nI_cl (by omega), t1]
      by_cases f : 1000000000 ≤ T (nxt O B i (k + 1) e)
      · rw [if_pos (by rw [show (1000000000 : Int32) = nI 1000000000 from rfl, nI_lep (by omega)]; exact f), nm_s, nI_1]
        refine hw2 _ ⟨rfl, rfl, u, rfl, j4.1, fun l d q h1 hl hd hc ht => ?_, j4.2.2⟩
        rcases q with q | ⟨q, q2⟩
        · exact j4.2.1 l d (Or.inl q) h1 hl hd hc ht
        · by_cases z : d = e
          · subst q z
            omega
          · exact j4.2.1 l d (Or.inr ⟨q, by omega⟩) h1 hl hd hc ht
      have cb := cstW_le hW (m := m) hi (show k + 1 = 0 → e < 4 by omega)
      rw [if_neg (by rw [show (1000000000 : Int32) = nI 1000000000 from rfl, nI_lep (by omega)]; exact f), gd_n (by omega), T_costOf hW h hm hi (by omega) he, bd_s, nI_add, T_min (by omega), bd_s, nm_s, nI_1]
      refine hw2 _ ⟨rfl, rfl, _, rfl, by omega, fun l d q h1 hl hd hc ht => ?_, ?_⟩
      · rcases q with q | ⟨q, q2⟩
        · have := j4.2.1 l d (Or.inl q) h1 hl hd hc ht
          omega
        · by_cases z : d = e
          · subst q z
            omega
          · have := j4.2.1 l d (Or.inr ⟨q, by omega⟩) h1 hl hd hc ht
            omega
      · by_cases le : u ≤ T (nxt O B i (k + 1) e) + cstW W m i (k + 1) e
        · rw [Nat.min_eq_left le]
          exact j4.2.2
        · rw [Nat.min_eq_right (by omega)]
          exact Or.inr ⟨k + 1, e, by omega, by omega, he, c, by omega, rfl⟩
    · obtain ⟨x5, x7, υ⟩ := s
      obtain ⟨j1, j2, u, j3, j4⟩ := hI
      simp only at j1 j2 j3
      subst j1 j2 j3
      show wp (F_X12_bestBy_18 w _ _ _ _ (nI (k + 1)) w2 (nI u) (nI (dgs (k + 1))) υ) _
      unfold F_X12_bestBy_18 F_X12_bestBy_92
      rw [T_digitsFor (k + 1) (by omega), bd_s, if_pos (by rw [nI_lep (by omega)]; omega), nm_s, nI_1]
      refine hw _ ⟨rfl, rfl, u, rfl, j4.1, fun l d q h1 hl hd => j4.2.1 l d ?_ h1 hl hd, j4.2.2⟩
      by_cases z : l = k + 1
      · rw [z] at hd
        exact Or.inr ⟨z, hd⟩
      · exact Or.inl (by omega)
  · obtain ⟨x5, x6, τ⟩ := s
    obtain ⟨i1, i2, v, i3, i4⟩ := hI
    simp only at i1 i2 i3
    subst i1 i2 i3
    show wp (F_X12_bestBy_8 _ _ _ _ w (nI v) (nI 6) τ) _
    unfold F_X12_bestBy_8
    rw [if_pos (show (6 : Int32) ≤ nI 6 by decide)]
    exact wp_some ⟨rfl, v, rfl, i4.1, fun l d _ h1 hl => i4.2.1 l d (by omega) h1 hl, i4.2.2⟩
/-- the ways of a layer -/
def wyW (W : zWo) (m i j : Nat) : Nat := if 0 < wWay W (4 * i + j) then cstW W m i 0 j else 0
theorem wyW_c {W : zWo} {m O B i j : Nat} (hj : j < 4) : (canB W O B i 0 j = true → wyW W m i j = cstW W m i 0 j ∧ wyW W m i j ≠ 0) ∧ (¬ canB W O B i 0 j = true → wyW W m i j = 0) := by
  have e : canB W O B i 0 j = true ↔ j < 4 ∧ 0 < wWay W (4 * i + j) := can_0
  unfold wyW
  constructor
  · intro h
    have := (e.mp h).2
    rw [if_pos this]
    refine ⟨rfl, ?_⟩
    unfold cstW dyW
    rw [if_pos rfl]
    omega
  · intro h
    exact if_neg (fun z => h (e.mpr ⟨hj, z⟩))
/-- the layer's four in the table -/
def LV (σ : zSt) (L : Nat) (V : Nat → Nat) : Prop := ∀ i, i < 4 → σ.1 92 (4 * L + i) = nI (V i) ∧ V i ≤ 1000000000
theorem TB_w {σ : zSt} {T : Nat → Nat} {L j : Nat} {v : Int32} (h : TB σ T (L + 1)) (hj : j < 4) : TB (zwr σ 92 (4 * L + j) v) T (L + 1) := by
  intro s h1 h2
  rw [zwr_ne (Or.inr (by omega))]
  exact h s h1 h2
theorem LV_w {σ : zSt} {V : Nat → Nat} {L i v : Nat} (h : LV σ L V) (hv : v ≤ 1000000000) : LV (zwr σ 92 (4 * L + i) (nI v)) L (fset V i v) := by
  intro j hj
  by_cases q : j = i
  · subst q
    rw [zwr_at, fset_s]
    exact ⟨rfl, hv⟩
  · rw [zwr_ne (Or.inr (by omega)), fset_n q]
    exact h j hj
theorem T_relax {W : zWo} {m : Nat} {σ : zSt} (hW : WOK W) (hm : m < 2) (h : PM W m σ) {T V : Nat → Nat} {O B i j : Nat} (hO : O < 256) (hB : B < 27) (hi : i < 4) (hj : j < 4) (hT : TB σ T (27 * O + B + 1)) (hV : LV σ (27 * O + B) V) {w1 w2 w3 : (Int32 × zSt) → Option (Unit × zSt)} {x4 : Int32} {Q : Unit → zSt → Prop} (g : ∀ τ, fr [92] [] σ τ → TB τ T (27 * O + B + 1) → LV τ (27 * O + B) (rl (wyW W m) V i j) → wp (w3 (nI (j + 1), τ)) Q) : wp (F_X12_laysFor_64 w1 w2 (nI O) (nI B) (nI (hadW W O B)) x4 (nI i) w3 (nI j) σ) Q := by
  unfold F_X12_laysFor_64 F_X12_laysFor_149
  rw [if_neg (by rw [show (4 : Int32) = nI 4 from rfl, nI_lep (by omega)]; omega), show (0 : Int32) = nI 0 from rfl, T_behind hW h hO hB hi (by omega) (show j < dgs 0 from hj), bd_s]
  obtain ⟨y1, y2⟩ := wyW_c (W := W) (m := m) (O := O) (B := B) (i := i) hj
  by_cases c : canB W O B i 0 j = true
  rotate_left
  · rw [if_neg c, if_pos rfl, nm_s, nI_1]
    refine g σ fr.rf hT ?_
    rw [rl_n (Or.inl (y2 c))]
    exact hV
  obtain ⟨y3, y4⟩ := y1 c
  have en : nxt O B i 0 j = 4 * (27 * O + B) + j := rfl
  obtain ⟨v1, v2⟩ := hV j hj
  obtain ⟨u1, u2⟩ := hV i hi
  rw [if_pos c, if_neg (e1_n (by rw [en]; omega)), en, gd_n (by omega), nI_cl (by omega), v1]
  by_cases f : V j = 1000000000
  · rw [if_pos (by rw [f]; rfl), nm_s, nI_1]
    refine g σ fr.rf hT ?_
    rw [rl_n (Or.inr f)]
    exact hV
  have cb := cstW_le hW (m := m) (l := 0) hi (fun _ => hj)
  rw [if_neg (by rw [show (1000000000 : Int32) = nI 1000000000 from rfl, nI_eqp (by omega)]; exact f), T_stateOf, bd_s, show cod O B i = 4 * (27 * O + B) + i from rfl, gd_n (by omega), gd_n (by omega), T_costOf hW h hm hi (by omega) (show j < dgs 0 from hj), bd_s, nI_cl (by omega), u1, v1, nI_add, T_min (by omega), bd_s, gd_n (by omega), nm_s, nm_s, nI_1]
  have er : rl (wyW W m) V i j = fset V i (min (V i) (V j + wyW W m i j)) := if_neg (fun z => z.elim y4 f)
  refine g _ (fr_w (Or.inl (by decide))) (TB_w hT hi) ?_
  rw [er, y3]
  exact LV_w hV (by omega)

