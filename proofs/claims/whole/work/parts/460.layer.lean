/-! PURE: the reference's costs, one layer -/
def rl (w : Nat → Nat → Nat) (T : Nat → Nat) (i j : Nat) : Nat → Nat := if w i j = 0 ∨ T j = 1000000000 then T else fset T i (min (T i) (T j + w i j))
def rlr (w : Nat → Nat → Nat) (T : Nat → Nat) (i : Nat) : Nat → Nat → Nat
  | 0 => T
  | n + 1 => rl w (rlr w T i n) i n
def rli (w : Nat → Nat → Nat) (T : Nat → Nat) : Nat → Nat → Nat
  | 0 => T
  | n + 1 => rlr w (rli w T n) n 4
def rnd (w : Nat → Nat → Nat) (T : Nat → Nat) : Nat → Nat → Nat
  | 0 => T
  | n + 1 => rli w (rnd w T n) 4
theorem rl_x {w : Nat → Nat → Nat} {T : Nat → Nat} {i j x : Nat} (h : x ≠ i) : rl w T i j x = T x := by
  unfold rl
  split
  · rfl
  · exact if_neg h
theorem rl_i {w : Nat → Nat → Nat} {T : Nat → Nat} {i j : Nat} (h : ¬ (w i j = 0 ∨ T j = 1000000000)) : rl w T i j i = min (T i) (T j + w i j) := by
  unfold rl
  rw [if_neg h]
  exact if_pos rfl
theorem rl_n {w : Nat → Nat → Nat} {T : Nat → Nat} {i j : Nat} (h : w i j = 0 ∨ T j = 1000000000) : rl w T i j = T := if_pos h
theorem rl_le {w : Nat → Nat → Nat} {T : Nat → Nat} {i j x : Nat} : rl w T i j x ≤ T x := by
  by_cases h : w i j = 0 ∨ T j = 1000000000
  · rw [rl_n h]
    exact Nat.le_refl _
  · by_cases q : x = i
    · rw [q, rl_i h]
      exact Nat.min_le_left _ _
    · rw [rl_x q]
      exact Nat.le_refl _
/-- what is settled, and what is not below m -/
def QF (w : Nat → Nat → Nat) (F : Nat → Bool) (m : Nat) (T : Nat → Nat) : Prop := (∀ i, i < 4 → F i = true → T i ≤ m) ∧ (∀ j, j < 4 → F j = false → m ≤ T j) ∧ ∀ i k, i < 4 → k < 4 → F k = true → w i k ≠ 0 → m ≤ T k + w i k ∨ T i ≤ T k + w i k
theorem rl_Q {w : Nat → Nat → Nat} {F : Nat → Bool} {m : Nat} {T : Nat → Nat} (h : QF w F m T) {i j : Nat} (hi : i < 4) (hj : j < 4) : QF w F m (rl w T i j) ∧ ∀ x, x < 4 → F x = true → rl w T i j x = T x := by
  by_cases q : w i j = 0 ∨ T j = 1000000000
  · rw [rl_n q]
    exact ⟨h, fun _ _ _ => rfl⟩
  obtain ⟨h1, h2, h3⟩ := h
  have q0 : w i j ≠ 0 := fun z => q (Or.inl z)
  have c : ∀ x, x < 4 → F x = true → rl w T i j x = T x := by
    intro x hx fx
    by_cases e : x = i
    · subst e
      rw [rl_i q]
      have a := h1 x hi fx
      cases fj : F j with
      | true =>
        rcases h3 x j hi hj fj q0 with z | z <;> omega
      | false =>
        have := h2 j hj fj
        omega
    · exact rl_x e
  refine ⟨⟨fun x hx fx => by rw [c x hx fx]; exact h1 x hx fx, fun x hx fx => ?_, fun x k hx hk fk wk => ?_⟩, c⟩
  · by_cases e : x = i
    · subst e
      rw [rl_i q]
      have a := h2 x hi fx
      cases fj : F j with
      | true =>
        rcases h3 x j hi hj fj q0 with z | z <;> omega
      | false =>
        have := h2 j hj fj
        omega
    · rw [rl_x e]
      exact h2 x hx fx
  · rw [c k hk fk]
    have := rl_le (w := w) (T := T) (i := i) (j := j) (x := x)
    rcases h3 x k hx hk fk wk with z | z
    · exact Or.inl z
    · exact Or.inr (by omega)
theorem rl_s {w : Nat → Nat → Nat} {T : Nat → Nat} {i j : Nat} (hT : T i ≤ 1000000000) (h : w i j ≠ 0) : rl w T i j i ≤ T j + w i j := by
  by_cases q : w i j = 0 ∨ T j = 1000000000
  · rw [rl_n q]
    rcases q with q | q
    · exact absurd q h
    · omega
  · rw [rl_i q]
    exact Nat.min_le_right _ _
theorem rlr_Q {w : Nat → Nat → Nat} {F : Nat → Bool} {m : Nat} {T : Nat → Nat} (hT : ∀ x, x < 4 → T x ≤ 1000000000) (h : QF w F m T) {i : Nat} (hi : i < 4) : ∀ n, n ≤ 4 → QF w F m (rlr w T i n) ∧ (∀ x, x < 4 → F x = true → rlr w T i n x = T x) ∧ (∀ x, rlr w T i n x ≤ T x) ∧ (∀ x, x ≠ i → rlr w T i n x = T x) ∧ ∀ k, k < n → F k = true → w i k ≠ 0 → rlr w T i n i ≤ T k + w i k := by
  intro n
  induction n with
  | zero => intro _; exact ⟨h, fun _ _ _ => rfl, fun _ => Nat.le_refl _, fun _ _ => rfl, fun k hk => absurd hk (Nat.not_lt_zero k)⟩
  | succ n ih =>
    intro hn
    obtain ⟨g1, g2, g3, g4, g5⟩ := ih (by omega)
    obtain ⟨a1, a2⟩ := rl_Q g1 hi (show n < 4 by omega)
    unfold rlr
    refine ⟨a1, fun x hx fx => by rw [a2 x hx fx, g2 x hx fx], fun x => Nat.le_trans rl_le (g3 x), fun x hx => by rw [rl_x hx, g4 x hx], fun k hk fk wk => ?_⟩
    by_cases e : k = n
    · rw [e, ← g2 n (by omega) (by rw [← e]; exact fk)]
      have t := hT i hi
      have t2 := g3 i
      exact rl_s (by omega) (by rw [← e]; exact wk)
    · exact Nat.le_trans rl_le (g5 k (by omega) fk wk)
theorem rli_Q {w : Nat → Nat → Nat} {F : Nat → Bool} {m : Nat} {T : Nat → Nat} (hT : ∀ x, x < 4 → T x ≤ 1000000000) (h : QF w F m T) : ∀ n, n ≤ 4 → QF w F m (rli w T n) ∧ (∀ x, x < 4 → F x = true → rli w T n x = T x) ∧ (∀ x, rli w T n x ≤ T x) ∧ ∀ i k, i < n → k < 4 → F k = true → w i k ≠ 0 → rli w T n i ≤ T k + w i k := by
  intro n
  induction n with
  | zero => intro _; exact ⟨h, fun _ _ _ => rfl, fun _ => Nat.le_refl _, fun i k hi => absurd hi (Nat.not_lt_zero i)⟩
  | succ n ih =>
    intro hn
    obtain ⟨g1, g2, g3, g5⟩ := ih (by omega)
    obtain ⟨a1, a2, a3, a4, a5⟩ := rlr_Q (i := n) (fun x hx => Nat.le_trans (g3 x) (hT x hx)) g1 (by omega) 4 (Nat.le_refl 4)
    unfold rli
    refine ⟨a1, fun x hx fx => by rw [a2 x hx fx, g2 x hx fx], fun x => Nat.le_trans (a3 x) (g3 x), fun i k hi hk fk wk => ?_⟩
    by_cases e : i = n
    · rw [e]
      rw [e] at wk
      have := a5 k hk fk wk
      rw [g2 k hk fk] at this
      exact this
    · rw [a4 i e]
      exact g5 i k (by omega) hk fk wk
/-- settled after a turn -/
def PF (w : Nat → Nat → Nat) (F : Nat → Bool) (m : Nat) (T : Nat → Nat) : Prop := (∀ i, i < 4 → F i = true → T i ≤ m) ∧ (∀ j, j < 4 → F j = false → m ≤ T j) ∧ ∀ i k, i < 4 → k < 4 → F k = true → w i k ≠ 0 → T i ≤ T k + w i k
theorem QF_P {w : Nat → Nat → Nat} {F : Nat → Bool} {m : Nat} {T : Nat → Nat} (hT : ∀ x, x < 4 → T x ≤ 1000000000) (h : QF w F m T) : PF w F m (rli w T 4) := by
  obtain ⟨g1, g2, g3, g5⟩ := rli_Q hT h 4 (Nat.le_refl 4)
  exact ⟨g1.1, g1.2.1, fun i k hi hk fk wk => by rw [g2 k hk fk]; exact g5 i k hi hk fk wk⟩
theorem amin {F : Nat → Bool} {T : Nat → Nat} : ∀ n j, T j ≤ n → j < 4 → F j = false → ∃ b, b < 4 ∧ F b = false ∧ ∀ j, j < 4 → F j = false → T b ≤ T j := by
  intro n
  induction n with
  | zero => intro j h hj fj; exact ⟨j, hj, fj, fun k _ _ => by omega⟩
  | succ n ih =>
    intro j h hj fj
    by_cases q : ∃ k, k < 4 ∧ F k = false ∧ T k < T j
    · obtain ⟨k, hk, fk, lk⟩ := q
      exact ih k (by omega) hk fk
    · exact ⟨j, hj, fj, fun k hk fk => Nat.le_of_not_lt (fun z => q ⟨k, hk, fk, z⟩)⟩
def cnF (F : Nat → Bool) : Nat := (F 0).toNat + (F 1).toNat + (F 2).toNat + (F 3).toNat
theorem cnF_4 {F : Nat → Bool} (h : 4 ≤ cnF F) : ∀ j, j < 4 → F j = true := by
  have b : ∀ x : Bool, x.toNat ≤ 1 ∧ (x.toNat = 1 → x = true) := by decide
  have b0 := b (F 0)
  have b1 := b (F 1)
  have b2 := b (F 2)
  have b3 := b (F 3)
  unfold cnF at h
  intro j hj
  rcases (by omega : j = 0 ∨ j = 1 ∨ j = 2 ∨ j = 3) with e | e | e | e <;> subst e
  · exact b0.2 (by omega)
  · exact b1.2 (by omega)
  · exact b2.2 (by omega)
  · exact b3.2 (by omega)
theorem cnF_n {F : Nat → Bool} (h : cnF F < 4) : ∃ j, j < 4 ∧ F j = false := by
  cases f0 : F 0 with
  | false => exact ⟨0, by decide, f0⟩
  | true =>
    cases f1 : F 1 with
    | false => exact ⟨1, by decide, f1⟩
    | true =>
      cases f2 : F 2 with
      | false => exact ⟨2, by decide, f2⟩
      | true =>
        cases f3 : F 3 with
        | false => exact ⟨3, by decide, f3⟩
        | true =>
          unfold cnF at h
          rw [f0, f1, f2, f3] at h
          exact absurd h (by decide)
theorem cnF_up {F : Nat → Bool} {b : Nat} (hb : b < 4) (h : F b = false) : cnF (fun j => F j || decide (j = b)) = cnF F + 1 := by
  unfold cnF
  rcases (by omega : b = 0 ∨ b = 1 ∨ b = 2 ∨ b = 3) with e | e | e | e <;> subst e <;> rw [h] <;> simp <;> omega
theorem P_grow {w : Nat → Nat → Nat} {F : Nat → Bool} {m : Nat} {T : Nat → Nat} (h : PF w F m T) : ∃ F' m', QF w F' m' T ∧ (cnF F < 4 → cnF F' = cnF F + 1) ∧ (4 ≤ cnF F → F' = F) := by
  obtain ⟨h1, h2, h3⟩ := h
  by_cases q : cnF F < 4
  · obtain ⟨j, hj, fj⟩ := cnF_n q
    obtain ⟨b, hb, fb, lb⟩ := amin (T j) j (Nat.le_refl _) hj fj
    refine ⟨fun j => F j || decide (j = b), T b, ⟨fun i hi fi => ?_, fun i hi fi => ?_, fun i k hi hk fk wk => ?_⟩, fun _ => cnF_up hb fb, fun z => absurd z (by omega)⟩
    · by_cases e : i = b
      · rw [e]
        exact Nat.le_refl _
      · have fi' : F i = true := by simpa [e] using fi
        exact Nat.le_trans (h1 i hi fi') (h2 b hb fb)
    · have fi' : F i = false ∧ i ≠ b := by simpa using fi
      exact lb i hi fi'.1
    · by_cases e : k = b
      · rw [e]
        exact Or.inl (by omega)
      · have fk' : F k = true := by simpa [e] using fk
        exact Or.inr (h3 i k hi hk fk' wk)
  · exact ⟨F, m, ⟨h1, h2, fun i k hi hk fk wk => Or.inr (h3 i k hi hk fk wk)⟩, fun z => absurd z q, fun _ => rfl⟩
theorem rnd_le {w : Nat → Nat → Nat} {T : Nat → Nat} : ∀ n x, rnd w T n x ≤ T x := by
  have a : ∀ (T : Nat → Nat) i n x, rlr w T i n x ≤ T x := by
    intro T i n
    induction n with
    | zero => intro x; exact Nat.le_refl _
    | succ n ih => intro x; exact Nat.le_trans rl_le (ih x)
  have b : ∀ (T : Nat → Nat) n x, rli w T n x ≤ T x := by
    intro T n
    induction n with
    | zero => intro x; exact Nat.le_refl _
    | succ n ih => intro x; exact Nat.le_trans (a _ _ _ x) (ih x)
  intro n
  induction n with
  | zero => intro x; exact Nat.le_refl _
  | succ n ih => intro x; exact Nat.le_trans (b _ _ x) (ih x)
theorem rnd_P {w : Nat → Nat → Nat} {T : Nat → Nat} (hT : ∀ x, x < 4 → T x ≤ 1000000000) : ∀ n, n ≤ 4 → ∃ F m, PF w F m (rnd w T n) ∧ n ≤ cnF F := by
  intro n
  induction n with
  | zero => intro _; exact ⟨fun _ => false, 0, ⟨fun _ _ z => (by cases z), fun _ _ _ => Nat.zero_le _, fun _ _ _ _ z => (by cases z)⟩, Nat.zero_le _⟩
  | succ n ih =>
    intro hn
    obtain ⟨F, m, h, c⟩ := ih (by omega)
    obtain ⟨F', m', g, c1, c2⟩ := P_grow h
    refine ⟨F', m', QF_P (fun x hx => Nat.le_trans (rnd_le n x) (hT x hx)) g, ?_⟩
    by_cases q : cnF F < 4
    · rw [c1 q]
      omega
    · rw [c2 (by omega)]
      omega
/-- after four turns no way makes it cheaper -/
theorem rnd_4 {w : Nat → Nat → Nat} {T : Nat → Nat} (hT : ∀ x, x < 4 → T x ≤ 1000000000) : ∀ i k, i < 4 → k < 4 → w i k ≠ 0 → rnd w T 4 i ≤ rnd w T 4 k + w i k := by
  obtain ⟨F, m, h, c⟩ := rnd_P hT 4 (Nat.le_refl 4)
  intro i k hi hk wk
  exact h.2.2 i k hi hk (cnF_4 c k hk) wk
/-- each is what it was, or rests on another -/
def LF (w : Nat → Nat → Nat) (b T : Nat → Nat) : Prop := ∀ i, i < 4 → T i = b i ∨ ∃ j, j < 4 ∧ w i j ≠ 0 ∧ T j < 1000000000 ∧ T j + w i j ≤ T i
theorem rl_L {w : Nat → Nat → Nat} {b T : Nat → Nat} (hT : ∀ x, x < 4 → T x ≤ 1000000000) (h : LF w b T) {i j : Nat} (hi : i < 4) (hj : j < 4) (hw : w i i = 0) : LF w b (rl w T i j) := by
  by_cases q : w i j = 0 ∨ T j = 1000000000
  · rw [rl_n q]
    exact h
  have q0 : w i j ≠ 0 := fun z => q (Or.inl z)
  have q1 : T j ≠ 1000000000 := fun z => q (Or.inr z)
  have tj := hT j hj
  have ji : j ≠ i := fun z => q0 (by rw [z]; exact hw)
  intro x hx
  by_cases e : x = i
  · subst e
    by_cases l : T x ≤ T j + w x j
    · have ex : rl w T x j x = T x := by rw [rl_i q]; omega
      rw [ex]
      rcases h x hx with z | ⟨k, hk, wk, tk, sk⟩
      · exact Or.inl z
      · have := rl_le (w := w) (T := T) (i := x) (j := j) (x := k)
        exact Or.inr ⟨k, hk, wk, by omega, by omega⟩
    · refine Or.inr ⟨j, hj, q0, ?_, ?_⟩
      · rw [rl_x ji]
        omega
      · rw [rl_x ji, rl_i q]
        omega
  · rw [rl_x e]
    rcases h x hx with z | ⟨k, hk, wk, tk, sk⟩
    · exact Or.inl z
    · have := rl_le (w := w) (T := T) (i := i) (j := j) (x := k)
      exact Or.inr ⟨k, hk, wk, by omega, by omega⟩
theorem rnd_ind {w : Nat → Nat → Nat} {T : Nat → Nat} (I : Nat → (Nat → Nat) → Prop) (h0 : I 0 T) (st : ∀ c T i j, i < 4 → j < 4 → I c T → I (c + 1) (rl w T i j)) : I 64 (rnd w T 4) := by
  have a : ∀ n c (T : Nat → Nat) i, n ≤ 4 → i < 4 → I c T → I (c + n) (rlr w T i n) := by
    intro n
    induction n with
    | zero => intro c T i _ _ h; exact h
    | succ n ih =>
      intro c T i hn hi h
      exact st _ _ _ _ hi (by omega) (ih c T i (by omega) hi h)
  have b : ∀ n c (T : Nat → Nat), n ≤ 4 → I c T → I (c + 4 * n) (rli w T n) := by
    intro n
    induction n with
    | zero => intro c T _ h; exact h
    | succ n ih =>
      intro c T hn h
      exact a 4 _ _ n (Nat.le_refl 4) (by omega) (ih c T (by omega) h)
  have d : ∀ n, n ≤ 4 → I (16 * n) (rnd w T n) := by
    intro n
    induction n with
    | zero => intro _; exact h0
    | succ n ih =>
      intro hn
      exact b 4 _ _ (Nat.le_refl 4) (ih (by omega))
  exact d 4 (Nat.le_refl 4)
/-- the layer's costs: no act makes one cheaper, and one act is just as cheap -/
theorem rnd_ok {w : Nat → Nat → Nat} {b : Nat → Nat} {X : Nat} (hw : ∀ i, i < 4 → w i i = 0) (hw2 : ∀ i j, i < 4 → j < 4 → w i j ≤ 30721) (hb : ∀ x, x < 4 → b x = 1000000000 ∨ b x ≤ X) (hX : X ≤ 900000000) : (∀ i k, i < 4 → k < 4 → w i k ≠ 0 → rnd w b 4 i ≤ rnd w b 4 k + w i k) ∧ (∀ i, i < 4 → rnd w b 4 i ≤ b i) ∧ (∀ i, i < 4 → rnd w b 4 i = b i ∨ ∃ j, j < 4 ∧ w i j ≠ 0 ∧ rnd w b 4 j < 1000000000 ∧ rnd w b 4 i = rnd w b 4 j + w i j) ∧ ∀ i, i < 4 → rnd w b 4 i = 1000000000 ∨ rnd w b 4 i ≤ X + 1966144 := by
  have hT : ∀ x, x < 4 → b x ≤ 1000000000 := fun x hx => by rcases hb x hx with z | z <;> omega
  have r4 := rnd_4 (w := w) hT
  have hL : LF w b (rnd w b 4) ∧ ∀ x, x < 4 → rnd w b 4 x ≤ 1000000000 := by
    refine rnd_ind (fun _ T => LF w b T ∧ ∀ x, x < 4 → T x ≤ 1000000000) ⟨fun i _ => Or.inl rfl, hT⟩ (fun c T i j hi hj h => ⟨rl_L h.2 h.1 hi hj (hw i hi), fun x hx => Nat.le_trans rl_le (h.2 x hx)⟩)
  refine ⟨r4, fun i _ => rnd_le 4 i, fun i hi => ?_, ?_⟩
  · rcases hL.1 i hi with z | ⟨j, hj, wj, tj, sj⟩
    · exact Or.inl z
    · have := r4 i j hi hj wj
      exact Or.inr ⟨j, hj, wj, tj, by omega⟩
  · refine rnd_ind (fun c T => ∀ i, i < 4 → T i = 1000000000 ∨ T i ≤ X + 30721 * c) hb (fun c T i j hi hj h x hx => ?_)
    by_cases q : w i j = 0 ∨ T j = 1000000000
    · rw [rl_n q]
      rcases h x hx with z | z
      · exact Or.inl z
      · exact Or.inr (by omega)
    · by_cases e : x = i
      · subst e
        rw [rl_i q]
        have wj := hw2 x j hx hj
        have tj := h j hj
        have q1 : T j ≠ 1000000000 := fun z => q (Or.inr z)
        exact Or.inr (by omega)
      · rw [rl_x e]
        rcases h x hx with z | z
        · exact Or.inl z
        · exact Or.inr (by omega)
