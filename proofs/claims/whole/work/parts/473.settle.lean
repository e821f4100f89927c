/-! PURE: the planner settles a layer -/
/-- the four after n of the sixteen steps -/
def slN (P V : Nat → Nat) : Nat → Nat → Nat
  | 0, b => V b
  | n + 1, b => if n % 4 = b then min (slN P V n b) (V (n / 4) + P n) else slN P V n b
theorem slN_p {P V : Nat → Nat} {b : Nat} : ∀ n, slN P V n b ≤ V b ∧ (∀ m, m < n → m % 4 = b → slN P V n b ≤ V (m / 4) + P m) ∧ (slN P V n b = V b ∨ ∃ m, m < n ∧ m % 4 = b ∧ slN P V n b = V (m / 4) + P m) := by
  intro n
  induction n with
  | zero => exact ⟨Nat.le_refl _, fun m hm => absurd hm (Nat.not_lt_zero m), Or.inl rfl⟩
  | succ n ih =>
    obtain ⟨i1, i2, i3⟩ := ih
    show (if n % 4 = b then min (slN P V n b) (V (n / 4) + P n) else slN P V n b) ≤ V b ∧ (∀ m, m < n + 1 → m % 4 = b → (if n % 4 = b then min (slN P V n b) (V (n / 4) + P n) else slN P V n b) ≤ V (m / 4) + P m) ∧ ((if n % 4 = b then min (slN P V n b) (V (n / 4) + P n) else slN P V n b) = V b ∨ ∃ m, m < n + 1 ∧ m % 4 = b ∧ (if n % 4 = b then min (slN P V n b) (V (n / 4) + P n) else slN P V n b) = V (m / 4) + P m)
    by_cases q : n % 4 = b
    · rw [if_pos q]
      refine ⟨by omega, fun m hm hb => ?_, ?_⟩
      · by_cases z : m = n
        · subst z
          exact Nat.min_le_right _ _
        · have := i2 m (by omega) hb
          omega
      · by_cases le : slN P V n b ≤ V (n / 4) + P n
        · rw [Nat.min_eq_left le]
          rcases i3 with z | ⟨m, hm, hb, e⟩
          · exact Or.inl z
          · exact Or.inr ⟨m, by omega, hb, e⟩
        · rw [Nat.min_eq_right (by omega)]
          exact Or.inr ⟨n, by omega, q, rfl⟩
    · rw [if_neg q]
      refine ⟨i1, fun m hm hb => ?_, ?_⟩
      · exact i2 m (by have : m ≠ n := fun z => q (by rw [← z]; exact hb); omega) hb
      · rcases i3 with z | ⟨m, hm, hb, e⟩
        · exact Or.inl z
        · exact Or.inr ⟨m, by omega, hb, e⟩
/-- the settled four -/
def stl (P V : Nat → Nat) : Nat → Nat := slN P V 16
theorem stl_le {P V : Nat → Nat} {a b : Nat} (ha : a < 4) (hb : b < 4) : stl P V b ≤ V a + P (4 * a + b) := by
  have := (slN_p (P := P) (V := V) (b := b) 16).2.1 (4 * a + b) (by omega) (by omega)
  rw [show (4 * a + b) / 4 = a by omega] at this
  exact this
theorem stl_v {P V : Nat → Nat} {b : Nat} : stl P V b ≤ V b := (slN_p 16).1
theorem stl_ex {P V : Nat → Nat} {b : Nat} (hb : b < 4) (h0 : P (4 * b + b) = 0) : ∃ a, a < 4 ∧ stl P V b = V a + P (4 * a + b) := by
  rcases (slN_p (P := P) (V := V) (b := b) 16).2.2 with z | ⟨m, hm, mb, e⟩
  · exact ⟨b, hb, by rw [h0]; exact z⟩
  · refine ⟨m / 4, by omega, ?_⟩
    rw [show 4 * (m / 4) + b = m by omega]
    exact e
/-- settled: no cheapest way makes one of the four cheaper -/
theorem stl_t {P V : Nat → Nat} (h0 : ∀ a, a < 4 → P (4 * a + a) = 0) (ht : ∀ a b c, a < 4 → b < 4 → c < 4 → P (4 * a + b) ≤ P (4 * a + c) + P (4 * c + b)) {b c : Nat} (hb : b < 4) (hc : c < 4) : stl P V c ≤ stl P V b + P (4 * b + c) := by
  obtain ⟨a, ha, e⟩ := stl_ex (V := V) hb (h0 b hb)
  have := stl_le (P := P) (V := V) ha hc
  have := ht a c b ha hc hb
  omega
/-- a layer's four in the planner's table -/
def FL (σ : zSt) (L : Nat) (V : Nat → Nat) : Prop := ∀ i, i < 4 → σ.1 48 (4 * L + i) = nI (V i) ∧ V i ≤ 134217728
/-- the least of them -/
def lsN (V : Nat → Nat) : Nat → Nat
  | 0 => 134217728
  | n + 1 => min (lsN V n) (V n)
theorem lsN_p {V : Nat → Nat} : ∀ n, lsN V n ≤ 134217728 ∧ (∀ i, i < n → lsN V n ≤ V i) ∧ (lsN V n < 134217728 → ∃ i, i < n ∧ V i < 134217728) := by
  intro n
  induction n with
  | zero => exact ⟨Nat.le_refl _, fun i hi => absurd hi (Nat.not_lt_zero i), fun h => absurd h (Nat.lt_irrefl _)⟩
  | succ n ih =>
    obtain ⟨i1, i2, i3⟩ := ih
    show min (lsN V n) (V n) ≤ 134217728 ∧ (∀ i, i < n + 1 → min (lsN V n) (V n) ≤ V i) ∧ (min (lsN V n) (V n) < 134217728 → ∃ i, i < n + 1 ∧ V i < 134217728)
    refine ⟨by omega, fun i hi => ?_, fun h => ?_⟩
    · by_cases q : i = n
      · rw [q]
        omega
      · have := i2 i (by omega)
        omega
    · by_cases q : lsN V n < 134217728
      · obtain ⟨i, hi, e⟩ := i3 q
        exact ⟨i, by omega, e⟩
      · exact ⟨n, by omega, by omega⟩
theorem T_settle {σ : zSt} {P V : Nat → Nat} {L : Nat} (hL : L < 6912) (hP : PR σ P) (hPb : ∀ i, i < 16 → P i ≤ 134217728) (hV : FL σ L V) : wp (F_X4_settle (nI L) σ) (fun a τ => fr [48, 50] [] σ τ ∧ (∀ s, s < 4 * L ∨ 4 * L + 4 ≤ s → τ.1 48 s = σ.1 48 s) ∧ ((a = 0 ∧ (∀ i, i < 4 → V i = 134217728) ∧ FL τ L V) ∨ (a = 1 ∧ (∃ i, i < 4 ∧ V i < 134217728) ∧ FL τ L (stl P V)))) := by
  have m4 : ∀ a : Nat, (4 : Int32) * nI a = nI (4 * a) := fun a => pk_mul 4 a
  unfold F_X4_settle F_X4_settle_0
  refine wp_for (fun i s => s.1 = nI (lsN V i) ∧ s.2.1 = nI i ∧ fr [48, 50] [] σ s.2.2 ∧ s.2.2.1 48 = σ.1 48 ∧ ∀ j, j < i → s.2.2.1 50 j = nI (V j)) 4 (by decide) (fun i w s hi hI hw => ?_) (fun w s hI => ?_) ⟨rfl, rfl, fr.rf, rfl, fun j hj => absurd hj (Nat.not_lt_zero j)⟩
  · obtain ⟨x2, x3, τ⟩ := s
    obtain ⟨i1, i2, i3, i4, i5⟩ := hI
    simp only at i1 i2 i3 i4 i5
    subst i1 i2
    obtain ⟨v1, v2⟩ := hV i hi
    have lb := (lsN_p (V := V) i).1
    show wp (F_X4_settle_5 (nI L) w (nI (lsN V i)) (nI i) τ) _
    unfold F_X4_settle_5
    rw [if_neg (by rw [show (4 : Int32) = nI 4 from rfl, nI_lep (by omega)]; omega), m4, nI_add, gd_n (by omega), gd_n (by omega), nI_cl (by omega), nI_cl (by omega), i4, v1, nm_s, gd_n (by omega), zwr_at, T_jmin (by omega), nm_s, nm_s, nI_1]
    refine hw _ ⟨rfl, rfl, i3.w (Or.inl (by decide)), ?_, fun j hj => ?_⟩
    · rw [← i4]
      exact zwr_n (by decide)
    · by_cases q : j = i
      · rw [q, zwr_at]
      · rw [zwr_ne (Or.inr q)]
        exact i5 j (by omega)
  · obtain ⟨x2, x3, τ⟩ := s
    obtain ⟨i1, i2, i3, i4, i5⟩ := hI
    simp only at i1 i2 i3 i4 i5
    subst i1 i2
    have lp := lsN_p (V := V) 4
    have lb := lp.1
    have FV : FL τ L V := fun i hi => by rw [i4]; exact hV i hi
    show wp (F_X4_settle_5 (nI L) w (nI (lsN V 4)) (nI 4) τ) _
    unfold F_X4_settle_5 F_X4_settle_43
    rw [if_pos (show (4 : Int32) ≤ nI 4 by decide)]
    by_cases q : lsN V 4 < 134217728
    rotate_left
    · rw [if_neg (by rw [show (134217728 : Int32) = nI 134217728 from rfl, nI_ltp (by omega)]; exact q)]
      refine wp_some ⟨i3, fun s _ => by rw [i4], Or.inl ⟨rfl, fun i hi => ?_, FV⟩⟩
      have := lp.2.1 i hi
      have := (hV i hi).2
      omega
    rw [if_pos (by rw [show (134217728 : Int32) = nI 134217728 from rfl, nI_ltp (by omega)]; exact q)]
    have pP : PR τ P := fun i hi => by rw [i3.row (c := 49) (by decide)]; exact hP i hi
    refine wp_for (fun n s => s.1 = nI n ∧ fr [48, 50] [] σ s.2 ∧ (∀ s', s' < 4 * L ∨ 4 * L + 4 ≤ s' → s.2.1 48 s' = σ.1 48 s') ∧ FL s.2 L (slN P V n) ∧ (∀ j, j < 4 → s.2.1 50 j = nI (V j)) ∧ PR s.2 P) 16 (by decide) (fun n w2 s hn hI hw2 => ?_) (fun w2 s hI => ?_) ⟨rfl, i3, fun s _ => by rw [i4], FV, i5, pP⟩
    · obtain ⟨x, υ⟩ := s
      obtain ⟨j1, j2, j3, j4, j5, j6⟩ := hI
      simp only at j1 j2 j3 j4 j5 j6
      subst j1
      obtain ⟨u1, u2⟩ := j4 (n % 4) (by omega)
      have vb := (hV (n / 4) (by omega)).2
      have pb := hPb n hn
      show wp (F_X4_settle_53 (nI L) w2 (nI n) υ) _
      unfold F_X4_settle_53
      rw [if_neg (by rw [show (16 : Int32) = nI 16 from rfl, nI_lep (by omega)]; omega), show (4 : Int32) = nI 4 from rfl, pk_div (by omega) (by decide) (by decide), nI_mod (by omega), pk_mul, nI_add, nm_s, gd_n (by omega), gd_n (by omega), gd_n (by omega), gd_n (by omega), nI_cl (by omega), nI_cl (by omega), nI_cl (by omega), u1, j5 _ (by omega), j6 n hn, nI_add, T_jmin (by omega), nm_s, nm_s, nI_1]
      refine hw2 _ ⟨rfl, j2.w (Or.inl (by decide)), fun s' hs' => ?_, fun b hb => ?_, fun j hj => ?_, fun i hi => ?_⟩
      · rw [zwr_ne (Or.inr (by omega))]
        exact j3 s' hs'
      · show _ = nI (if n % 4 = b then min (slN P V n b) (V (n / 4) + P n) else slN P V n b) ∧ (if n % 4 = b then min (slN P V n b) (V (n / 4) + P n) else slN P V n b) ≤ 134217728
        by_cases z : n % 4 = b
        · rw [if_pos z, ← z, zwr_at]
          exact ⟨rfl, by omega⟩
        · rw [if_neg z, zwr_ne (Or.inr (by omega))]
          exact j4 b hb
      · rw [zwr_ne (Or.inl (by decide))]
        exact j5 j hj
      · rw [zwr_n (by decide)]
        exact j6 i hi
    · obtain ⟨x, υ⟩ := s
      obtain ⟨j1, j2, j3, j4, j5, j6⟩ := hI
      simp only at j1 j2 j3 j4 j5 j6
      subst j1
      show wp (F_X4_settle_53 (nI L) w2 (nI 16) υ) _
      unfold F_X4_settle_53
      rw [if_pos (show (16 : Int32) ≤ nI 16 by decide)]
      obtain ⟨i, hi, vi⟩ := lp.2.2 q
      exact wp_some ⟨j2, j3, Or.inr ⟨rfl, ⟨i, hi, vi⟩, j4⟩⟩

