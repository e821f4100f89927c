/-! PURE: the wood -/
theorem php : ∀ (n : Nat) (f : Nat → Nat), (∀ k, k ≤ n → f k < n) → ∃ a b, a < b ∧ b ≤ n ∧ f a = f b := by
  intro n
  induction n with
  | zero =>
    intro f h
    exact absurd (h 0 (Nat.le_refl 0)) (Nat.not_lt_zero _)
  | succ n ih =>
    intro f h
    by_cases q : ∃ k, k ≤ n ∧ f k = f (n + 1)
    · obtain ⟨k, h1, h2⟩ := q
      exact ⟨k, n + 1, by omega, Nat.le_refl _, h2⟩
    · have hl : f (n + 1) < n + 1 := h (n + 1) (Nat.le_refl _)
      have hg : ∀ k, k ≤ n → (if f k = n then f (n + 1) else f k) < n := by
        intro k hk
        have h3 : f k < n + 1 := h k (by omega)
        have h4 : f k ≠ f (n + 1) := fun r => q ⟨k, hk, r⟩
        split <;> omega
      obtain ⟨a, b, h5, h6, h7⟩ := ih (fun k => if f k = n then f (n + 1) else f k) hg
      refine ⟨a, b, h5, by omega, ?_⟩
      have h8 : f a ≠ f (n + 1) := fun r => q ⟨a, by omega, r⟩
      have h9 : f b ≠ f (n + 1) := fun r => q ⟨b, h6, r⟩
      replace h7 : (if f a = n then f (n + 1) else f a) = (if f b = n then f (n + 1) else f b) := h7
      split at h7 <;> split at h7 <;> omega
/-- whom one owes, m times on -/
def itO (ow : Nat → Option Nat) : Nat → Nat → Option Nat
  | 0, i => some i
  | m + 1, i => match ow i with
    | none => none
    | some j => itO ow m j
theorem itO_add (ow : Nat → Option Nat) : ∀ m k i, itO ow (m + k) i = match itO ow m i with | none => none | some j => itO ow k j := by
  intro m
  induction m with
  | zero => intro k i; rw [Nat.zero_add]; rfl
  | succ m ih =>
    intro k i
    rw [show m + 1 + k = (m + k) + 1 by omega]
    cases h : ow i with
    | none => simp only [itO, h]
    | some j =>
      simp only [itO, h]
      exact ih k j
def WD (ow : Nat → Option Nat) : Prop := ∀ i j, i < 12 → ow i = some j → j < 12 ∧ j ≠ i
theorem itO_lt {ow : Nat → Option Nat} (h : WD ow) : ∀ m i j, i < 12 → itO ow m i = some j → j < 12 := by
  intro m
  induction m with
  | zero => intro i j hi e; cases e; exact hi
  | succ m ih =>
    intro i j hi e
    unfold itO at e
    cases q : ow i with
    | none => rw [q] at e; cases e
    | some k =>
      rw [q] at e
      exact ih k j (h i k hi q).1 e
/-- the ring of i: n if one is at i again after n steps first (fuel f, from o on) -/
def rgO (ow : Nat → Option Nat) (i : Nat) : Nat → Option Nat → Nat → Nat
  | 0, _, _ => 0
  | _ + 1, none, _ => 0
  | f + 1, some x, n => if x = i then n else rgO ow i f (ow x) (n + 1)
def rgW (ow : Nat → Option Nat) (i : Nat) : Nat := rgO ow i 12 (ow i) 1
theorem rgO_le (ow : Nat → Option Nat) (i : Nat) : ∀ f o n, rgO ow i f o n ≤ n + f := by
  intro f
  induction f with
  | zero => intro o n; exact Nat.zero_le _
  | succ f ih =>
    intro o n
    cases o with
    | none => exact Nat.zero_le _
    | some x =>
      unfold rgO
      split
      · omega
      · have := ih (ow x) (n + 1)
        omega
theorem rgW_le {ow : Nat → Option Nat} {i : Nat} : rgW ow i ≤ 13 := rgO_le ow i 12 (ow i) 1
/-- what a ring is -/
theorem rgO_some (ow : Nat → Option Nat) (i : Nat) : ∀ f o n r, rgO ow i f o n = r → 0 < r → ∃ m, r = n + m ∧ (∃ x, o = some x ∧ itO ow m x = some i) ∧ ∀ q, q < m → ∀ x, o = some x → itO ow q x ≠ some i := by
  intro f
  induction f with
  | zero => intro o n r h1 h2; unfold rgO at h1; omega
  | succ f ih =>
    intro o n r h1 h2
    cases o with
    | none => unfold rgO at h1; omega
    | some x =>
      unfold rgO at h1
      by_cases q : x = i
      · rw [if_pos q] at h1
        exact ⟨0, by omega, ⟨x, rfl, by rw [q]; rfl⟩, fun k hk => by omega⟩
      · rw [if_neg q] at h1
        obtain ⟨m, a, ⟨y, b1, b2⟩, c⟩ := ih (ow x) (n + 1) r h1 h2
        refine ⟨m + 1, by omega, ⟨x, rfl, ?_⟩, fun k hk y' e => ?_⟩
        · unfold itO
          rw [b1]
          exact b2
        · cases e
          cases k with
          | zero => intro e; cases e; exact q rfl
          | succ k =>
            unfold itO
            rw [b1]
            exact c k (by omega) y b1
theorem rgO_pos (ow : Nat → Option Nat) (i : Nat) : ∀ f o n m, 0 < n → m < f → (∃ x, o = some x ∧ itO ow m x = some i) → 0 < rgO ow i f o n := by
  intro f
  induction f with
  | zero => intro o n m _ h; omega
  | succ f ih =>
    intro o n m hn hm ⟨x, e1, e2⟩
    subst e1
    unfold rgO
    by_cases q : x = i
    · rw [if_pos q]
      exact hn
    · rw [if_neg q]
      cases m with
      | zero => cases e2; exact absurd rfl q
      | succ m =>
        unfold itO at e2
        cases r : ow x with
        | none => rw [r] at e2; cases e2
        | some y =>
          rw [r] at e2
          exact ih (some y) (n + 1) m (by omega) (by omega) ⟨y, rfl, e2⟩
theorem rgW_pos {ow : Nat → Option Nat} {i m : Nat} (h1 : 0 < m) (h2 : m ≤ 12) (h : itO ow m i = some i) : 0 < rgW ow i := by
  obtain ⟨m, rfl⟩ : ∃ k, m = k + 1 := ⟨m - 1, by omega⟩
  unfold itO at h
  cases r : ow i with
  | none => rw [r] at h; cases h
  | some y =>
    rw [r] at h
    exact rgO_pos ow i 12 (ow i) 1 m (by decide) (by omega) ⟨y, r, h⟩
/-- one comes to a ring or to an end within eleven steps -/
theorem itO_end {ow : Nat → Option Nat} (hw : WD ow) {i : Nat} (hi : i < 12) : ∃ k x, k ≤ 11 ∧ itO ow k i = some x ∧ (0 < rgW ow x ∨ ow x = none) := by
  refine Classical.byContradiction (fun hno => ?_)
  have all : ∀ k, k ≤ 12 → ∃ x, itO ow k i = some x := by
    intro k
    induction k with
    | zero => intro _; exact ⟨i, rfl⟩
    | succ k ih =>
      intro hk
      obtain ⟨x, hx⟩ := ih (by omega)
      rw [itO_add, hx]
      cases r : ow x with
      | none => exact absurd ⟨k, x, by omega, hx, Or.inr r⟩ hno
      | some y =>
        refine ⟨y, ?_⟩
        show itO ow 1 x = some y
        unfold itO
        rw [r]
        rfl
  obtain ⟨a, b, h1, h2, h3⟩ := php 12 (fun k => (itO ow k i).getD 0) (fun k hk => by
    obtain ⟨x, hx⟩ := all k hk
    show (itO ow k i).getD 0 < 12
    rw [hx]
    exact itO_lt hw k i x hi hx)
  obtain ⟨x, hx⟩ := all a (by omega)
  obtain ⟨y, hy⟩ := all b h2
  simp only [hx, hy, Option.getD_some] at h3
  subst h3
  have e : itO ow (b - a) x = some x := by
    have := itO_add ow a (b - a) i
    rw [hx, show a + (b - a) = b by omega, hy] at this
    exact this.symm
  exact hno ⟨a, x, by omega, hx, Or.inl (rgW_pos (by omega) (by omega) e)⟩
def WO (ow : Nat → Option Nat) (σ : zSt) : Prop := ∀ i, i < 12 → (∀ j, ow i = some j → j < 12 ∧ j ≠ i) ∧ σ.1 68 i = e1 (ow i) ∧ σ.1 104 i = e1 (ow i)
theorem WO.wd {ow : Nat → Option Nat} {σ : zSt} (h : WO ow σ) : WD ow := fun i j hi e => (h i hi).1 j e
theorem T_ringM {ow : Nat → Option Nat} {σ : zSt} (h : WO ow σ) {i : Nat} (hi : i < 12) : F_X12_ringOf (nI i) σ = some (nI (rgW ow i), σ) := by
  unfold F_X12_ringOf F_X12_ringOf_0
  rw [gd_n ⟨hi, by decide⟩, nI_cl (by omega), (h i hi).2.2, nm_s]
  have key : ∀ f fu n o, n + f = 13 → f < fu → (∀ x, o = some x → x < 12) → zfix (F_X12_ringOf_9L (nI i)) fu (e1 o, nI n, σ) = some (nI (rgO ow i f o n), σ) := by
    intro f
    induction f with
    | zero =>
      intro fu n o hn hf ho
      obtain ⟨fu, rfl⟩ : ∃ q, fu = q + 1 := ⟨fu - 1, by omega⟩
      show F_X12_ringOf_9 (nI i) (zfix (F_X12_ringOf_9L (nI i)) fu) (e1 o) (nI n) σ = _
      unfold F_X12_ringOf_9
      simp (disch := omega) only [lit_lt, if_pos, rgO]
      rfl
    | succ f ih =>
      intro fu n o hn hf ho
      obtain ⟨fu, rfl⟩ : ∃ q, fu = q + 1 := ⟨fu - 1, by omega⟩
      show F_X12_ringOf_9 (nI i) (zfix (F_X12_ringOf_9L (nI i)) fu) (e1 o) (nI n) σ = _
      unfold F_X12_ringOf_9
      simp (disch := omega) only [lit_lt, if_neg]
      cases o with
      | none =>
        rw [if_pos (show e1 none = -1 from rfl)]
        rfl
      | some x =>
        have hx := ho x rfl
        rw [if_neg (show ¬ e1 (some x) = -1 from e1_n (by omega))]
        unfold rgO
        by_cases q : x = i
        · rw [if_pos (show e1 (some x) = nI i by rw [q]; rfl), if_pos q]
        · rw [if_neg (show ¬ e1 (some x) = nI i from fun r => q ((nI_eq (by omega) (by omega)).mp r)), if_neg q]
          simp (disch := omega) only [e1, gd_n, nI_cl, nm_s, nI_1]
          rw [(h x hx).2.2]
          exact ih fu (n + 1) (ow x) (by omega) (by omega) (fun y hy => ((h x hx).1 y hy).1)
  exact key 12 zlim 1 (ow i) rfl (by show 12 < 1000000; omega) (fun y hy => ((h i hi).1 y hy).1)
theorem T_ringC {ow : Nat → Option Nat} {σ : zSt} (h : WO ow σ) {i : Nat} (hi : i < 12) : F_X9_ringOf (nI i) σ = some (nI (rgW ow i), σ) := by
  unfold F_X9_ringOf F_X9_ringOf_0
  have key : ∀ f fu n x, n + f = 13 → f + 2 < fu → x < 12 → zfix (F_X9_ringOf_4L (nI i)) fu (nI x, nI n, σ) = some (nI (rgO ow i f (ow x) n), σ) := by
    intro f
    induction f with
    | zero =>
      intro fu n x hn hf hx
      obtain ⟨fu, rfl⟩ : ∃ q, fu = q + 1 := ⟨fu - 1, by omega⟩
      show F_X9_ringOf_4 (nI i) (zfix (F_X9_ringOf_4L (nI i)) fu) (nI x) (nI n) σ = _
      unfold F_X9_ringOf_4
      simp (disch := omega) only [lit_lt, if_pos, rgO]
      rfl
    | succ f ih =>
      intro fu n x hn hf hx
      obtain ⟨fu, rfl⟩ : ∃ q, fu = q + 1 := ⟨fu - 1, by omega⟩
      show F_X9_ringOf_4 (nI i) (zfix (F_X9_ringOf_4L (nI i)) fu) (nI x) (nI n) σ = _
      unfold F_X9_ringOf_4
      have hb : bel (nI x) 12 := bel_t (by omega)
      rw [T_isBelow_12, bd_s, bI_t hb, if_neg (show ¬ (1 : Int32) = 0 by decide)]
      simp (disch := omega) only [lit_lt, if_neg, gd_n, nI_cl, nm_s, nI_1]
      rw [(h x hx).2.1]
      cases q : ow x with
      | none =>
        rw [if_neg (show ¬ e1 none = nI i from fun r => e1_n (k := i) (by omega) r.symm)]
        obtain ⟨fu, rfl⟩ : ∃ q, fu = q + 1 := ⟨fu - 1, by omega⟩
        show F_X9_ringOf_4 (nI i) (zfix (F_X9_ringOf_4L (nI i)) fu) (-1) (nI (n + 1)) σ = _
        unfold F_X9_ringOf_4
        rw [T_isBelow_12, bd_s, bI_f bel_m1, if_pos (show (0 : Int32) = 0 from rfl)]
        by_cases z : (12 : Int32) < nI (n + 1)
        · rw [if_pos z]
          rfl
        · rw [if_neg z]
          rfl
      | some y =>
        have hy := ((h x hx).1 y q).1
        unfold rgO
        by_cases z : y = i
        · rw [if_pos (show e1 (some y) = nI i by rw [z]; rfl), if_pos z]
        · rw [if_neg (show ¬ e1 (some y) = nI i from fun r => z ((nI_eq (by omega) (by omega)).mp r)), if_neg z]
          exact ih fu (n + 1) y (by omega) (by omega) hy
  exact key 12 zlim 1 i rfl (by show 14 < 1000000; omega) hi
/-- the walk to a ring or an end: steps, and whether it is a ring -/
def wkO (ow : Nat → Option Nat) : Nat → Nat → Nat → Nat × Nat
  | 0, _, _ => (0, 0)
  | f + 1, x, s => if 0 < rgW ow x then (s, 1) else match ow x with
    | none => (s, 0)
    | some y => wkO ow f y (s + 1)
theorem pos_if {a : Nat} (ha : a < 2147483648) : (if nI a ≤ 0 then (0 : Int32) else 1) = bI (0 < a) := by
  by_cases h : 0 < a
  · rw [bI_t h, if_neg (by rw [show (0 : Int32) = nI 0 from rfl, nI_lep (by omega)]; omega)]
  · rw [bI_f h, if_pos (by rw [show (0 : Int32) = nI 0 from rfl, nI_lep (by omega)]; omega)]
theorem T_walkC {ow : Nat → Option Nat} {σ : zSt} (h : WO ow σ) {i : Nat} (hi : i < 12) (x2 : Int32) : F_X9_walk (nI i) x2 σ = some ((if x2 = 0 then nI (wkO ow 12 i 0).1 else nI (wkO ow 12 i 0).2), σ) := by
  unfold F_X9_walk F_X9_walk_0
  have key : ∀ f fu s x, s + f = 12 → f < fu → x < 12 → zfix (F_X9_walk_5L x2) fu (nI x, nI s, σ) = some ((if x2 = 0 then nI (wkO ow f x s).1 else nI (wkO ow f x s).2), σ) := by
    intro f
    induction f with
    | zero =>
      intro fu s x hn hf hx
      obtain ⟨fu, rfl⟩ : ∃ q, fu = q + 1 := ⟨fu - 1, by omega⟩
      show F_X9_walk_5 x2 (zfix (F_X9_walk_5L x2) fu) (nI x) (nI s) σ = _
      unfold F_X9_walk_5
      simp (disch := omega) only [lit_le, if_pos, wkO]
      split <;> rfl
    | succ f ih =>
      intro fu s x hn hf hx
      obtain ⟨fu, rfl⟩ : ∃ q, fu = q + 1 := ⟨fu - 1, by omega⟩
      show F_X9_walk_5 x2 (zfix (F_X9_walk_5L x2) fu) (nI x) (nI s) σ = _
      have hb : bel (nI x) 12 := bel_t (by omega)
      have hl := rgW_le (ow := ow) (i := x)
      unfold F_X9_walk_5 F_X9_walk_51
      rw [T_isBelow_12, bd_s, bI_t hb, if_neg (show ¬ (1 : Int32) = 0 by decide), T_ringC h hx, bd_s]
      simp (disch := omega) only [lit_le, if_neg, pos_if, nm_s]
      unfold wkO
      by_cases q : 0 < rgW ow x
      · rw [bI_t q, if_neg (show ¬ (1 : Int32) = 0 by decide), if_pos q]
        split <;> rfl
      · rw [bI_f q, if_pos (show (0 : Int32) = 0 from rfl), if_neg q]
        simp (disch := omega) only [gd_n, nI_cl, nI_1]
        rw [(h x hx).2.1]
        cases z : ow x with
        | none =>
          rw [if_pos (show e1 none = -1 from rfl)]
          split <;> rfl
        | some y =>
          rw [if_neg (show ¬ e1 (some y) = -1 from e1_n (by have := ((h x hx).1 y z).1; omega))]
          exact ih fu (s + 1) y (by omega) (by omega) ((h x hx).1 y z).1
  exact key 12 zlim 0 i rfl (by show 12 < 1000000; omega) hi
theorem T_walkM {ow : Nat → Option Nat} {σ : zSt} (h : WO ow σ) {i : Nat} (hi : i < 12) (x2 : Int32) : zfix (F_X12_rings_36L x2) zlim (nI i, (0 : Int32), σ) = some ((if x2 = 3 then nI (wkO ow 12 i 0).1 else nI (wkO ow 12 i 0).2), σ) := by
  have key : ∀ k f fu s x, k < f → f < fu → s + f = 12 → x < 12 → (∃ y, itO ow k x = some y ∧ (0 < rgW ow y ∨ ow y = none)) → zfix (F_X12_rings_36L x2) fu (nI x, nI s, σ) = some ((if x2 = 3 then nI (wkO ow f x s).1 else nI (wkO ow f x s).2), σ) := by
    intro k
    induction k with
    | zero =>
      intro f fu s x hk hf hs hx ⟨y, h1, h2⟩
      cases h1
      obtain ⟨fu, rfl⟩ : ∃ q, fu = q + 1 := ⟨fu - 1, by omega⟩
      obtain ⟨f, rfl⟩ : ∃ q, f = q + 1 := ⟨f - 1, by omega⟩
      show F_X12_rings_36 x2 (zfix (F_X12_rings_36L x2) fu) (nI x) (nI s) σ = _
      have hl := rgW_le (ow := ow) (i := x)
      unfold F_X12_rings_36 F_X12_rings_70 wkO
      rw [T_ringM h hx, bd_s]
      by_cases q : 0 < rgW ow x
      · rw [if_neg (nI_ne0 q (by omega)), if_pos q, T_ringM h hx, bd_s, if_neg (nI_nle q (by omega))]
        split <;> rfl
      · have q0 : rgW ow x = 0 := by omega
        have z := h2.resolve_left q
        rw [q0, if_pos (show nI 0 = 0 from rfl), gd_n ⟨hx, by decide⟩, nI_cl (by omega), (h x hx).2.2, z, if_pos (show e1 none = -1 from rfl), if_neg (show ¬ 0 < 0 by omega), T_ringM h hx, bd_s, q0, if_pos (show nI 0 ≤ 0 by decide)]
        split <;> rfl
    | succ k ih =>
      intro f fu s x hk hf hs hx ⟨y, h1, h2⟩
      obtain ⟨fu, rfl⟩ : ∃ q, fu = q + 1 := ⟨fu - 1, by omega⟩
      obtain ⟨f, rfl⟩ : ∃ q, f = q + 1 := ⟨f - 1, by omega⟩
      show F_X12_rings_36 x2 (zfix (F_X12_rings_36L x2) fu) (nI x) (nI s) σ = _
      have hl := rgW_le (ow := ow) (i := x)
      unfold F_X12_rings_36 F_X12_rings_70 wkO
      rw [T_ringM h hx, bd_s]
      by_cases q : 0 < rgW ow x
      · rw [if_neg (nI_ne0 q (by omega)), if_pos q, T_ringM h hx, bd_s, if_neg (nI_nle q (by omega))]
        split <;> rfl
      · have q0 : rgW ow x = 0 := by omega
        unfold itO at h1
        cases z : ow x with
        | none => rw [z] at h1; cases h1
        | some v =>
          rw [z] at h1
          have hv := ((h x hx).1 v z).1
          rw [q0, if_pos (show nI 0 = 0 from rfl), gd_n ⟨hx, by decide⟩, nI_cl (by omega), (h x hx).2.2, z, if_neg (show ¬ e1 (some v) = -1 from e1_n (by omega)), if_neg (show ¬ 0 < 0 by omega), gd_n ⟨hx, by decide⟩, nm_s, nm_s, nI_1]
          exact ih f fu (s + 1) v (by omega) (by omega) (by omega) hv ⟨y, h1, h2⟩
  obtain ⟨k, y, h1, h2, h3⟩ := itO_end h.wd hi
  exact key k 12 zlim 0 i (by omega) (by show 12 < 1000000; omega) rfl hi ⟨y, h2, h3⟩
/-- none of the ring is lower -/
def lowW (ow : Nat → Option Nat) (i j : Nat) : Prop := ∀ q, j ≤ q → q < rgW ow i → ∀ x, itO ow q i = some x → i ≤ x
theorem ring_path {ow : Nat → Option Nat} (hw : WD ow) {i : Nat} (hi : i < 12) (h : 0 < rgW ow i) : itO ow (rgW ow i) i = some i ∧ ∀ q, 0 < q → q < rgW ow i → ∃ x, itO ow q i = some x ∧ x < 12 ∧ x ≠ i := by
  obtain ⟨m, h1, ⟨x, h2, h3⟩, h4⟩ := rgO_some ow i 12 (ow i) 1 (rgW ow i) rfl h
  have e : itO ow (rgW ow i) i = some i := by
    rw [h1, Nat.add_comm]
    unfold itO
    rw [h2]
    exact h3
  refine ⟨e, fun q hq hl => ?_⟩
  have e2 := itO_add ow q (rgW ow i - q) i
  rw [show q + (rgW ow i - q) = rgW ow i by omega, e] at e2
  cases z : itO ow q i with
  | none => rw [z] at e2; cases e2
  | some y =>
    refine ⟨y, rfl, itO_lt hw q i y hi z, fun r => ?_⟩
    obtain ⟨q, rfl⟩ : ∃ k, q = k + 1 := ⟨q - 1, by omega⟩
    unfold itO at z
    rw [h2] at z
    exact h4 q (by omega) x h2 (by rw [← r]; exact z)
theorem lowW_s {ow : Nat → Option Nat} {i j x : Nat} (hj : j < rgW ow i) (hx : itO ow j i = some x) : lowW ow i j ↔ i ≤ x ∧ lowW ow i (j + 1) := by
  constructor
  · intro h
    exact ⟨h j (Nat.le_refl j) hj x hx, fun q h1 h2 => h q (by omega) h2⟩
  · intro ⟨h1, h2⟩ q h3 h4 y hy
    by_cases z : q = j
    · rw [z, hx] at hy
      cases hy
      exact h1
    · exact h2 q (by omega) h4 y hy
theorem itO_next {ow : Nat → Option Nat} {i q x : Nat} (h : itO ow q i = some x) : itO ow (q + 1) i = ow x := by
  rw [itO_add, h]
  show itO ow 1 x = ow x
  unfold itO
  cases ow x <;> rfl
theorem T_lowC {ow : Nat → Option Nat} {σ : zSt} (h : WO ow σ) {i : Nat} (hi : i < 12) : F_X9_isLeastOfRing (nI i) σ = some (bI (0 < rgW ow i ∧ lowW ow i 0), σ) := by
  unfold F_X9_isLeastOfRing F_X9_isLeastOfRing_0
  have hl := rgW_le (ow := ow) (i := i)
  by_cases hr : 0 < rgW ow i
  rotate_left
  · rw [bI_f (fun q => hr q.1)]
    show F_X9_isLeastOfRing_4 (nI i) (zfix (F_X9_isLeastOfRing_4L (nI i)) 999999) (nI i) (nI 0) σ = _
    unfold F_X9_isLeastOfRing_4 F_X9_isLeastOfRing_42
    rw [T_ringC h hi, bd_s, if_pos (by rw [nI_lep (by omega)]; omega), T_ringC h hi, bd_s, show rgW ow i = 0 by omega, if_pos (show nI 0 ≤ 0 by decide)]
  obtain ⟨p1, p2⟩ := ring_path h.wd hi hr
  have p3 : ∀ q, q ≤ rgW ow i → ∃ x, itO ow q i = some x ∧ x < 12 := by
    intro q hq
    by_cases z : q = 0
    · exact ⟨i, by rw [z]; rfl, hi⟩
    · by_cases y : q = rgW ow i
      · exact ⟨i, by rw [y]; exact p1, hi⟩
      · obtain ⟨x, a, b, _⟩ := p2 q (by omega) (by omega)
        exact ⟨x, a, b⟩
  have key := zfix_out (body := F_X9_isLeastOfRing_4L (nI i)) (fun j => (nI ((itO ow j i).getD 0), nI j, σ)) (fun j => some (bI (lowW ow i j), σ)) (rgW ow i) (by omega) (fun j w hj ih => ?_) (fun w => ?_) 0 (Nat.zero_le _)
  · refine key.trans (congrArg (fun x => some (x, σ)) (bI_c ⟨fun q => ⟨hr, q⟩, fun q => q.2⟩))
  · obtain ⟨x, hx, hx2⟩ := p3 j (by omega)
    show F_X9_isLeastOfRing_4 (nI i) w (nI ((itO ow j i).getD 0)) (nI j) σ = _
    simp only [itO_next hx, (show (itO ow j i).getD 0 = x by rw [hx]; rfl)] at ih ⊢
    have hb : bel (nI x) 12 := bel_t (by omega)
    obtain ⟨y, hy, hy2⟩ := p3 (j + 1) (by omega)
    rw [itO_next hx] at hy
    rw [hy] at ih
    unfold F_X9_isLeastOfRing_4 F_X9_isLeastOfRing_42
    rw [T_ringC h hi, bd_s, if_neg (by rw [nI_lep (by omega)]; omega), T_isBelow_12, bd_s, bI_t hb, if_neg (show ¬ (1 : Int32) = 0 by decide), if_le (by omega)]
    by_cases z : i ≤ x
    · rw [if_pos z, gd_n ⟨hx2, by decide⟩, nI_cl (by omega), (h x hx2).2.1, hy, nm_s, nm_s, nI_1]
      refine ih.trans (congrArg (fun x => some (x, σ)) (bI_c ⟨fun q => (lowW_s hj hx).mpr ⟨z, q⟩, fun q => ((lowW_s hj hx).mp q).2⟩))
    · rw [if_neg z, bI_f (fun q => z ((lowW_s hj hx).mp q).1)]
  · show F_X9_isLeastOfRing_4 (nI i) w _ (nI (rgW ow i)) σ = _
    unfold F_X9_isLeastOfRing_4 F_X9_isLeastOfRing_42
    rw [T_ringC h hi, bd_s, if_pos (by rw [nI_lep (by omega)]; omega), T_ringC h hi, bd_s, if_neg (nI_nle hr (by omega)), bI_t (p := lowW ow i (rgW ow i)) (fun q h1 h2 => by omega)]
theorem T_lowM {ow : Nat → Option Nat} {σ : zSt} (h : WO ow σ) {i : Nat} (hi : i < 12) (hr : 0 < rgW ow i) : F_X12_isLowest (nI i) σ = some (bI (lowW ow i 0), σ) := by
  unfold F_X12_isLowest F_X12_isLowest_0
  have hl := rgW_le (ow := ow) (i := i)
  obtain ⟨p1, p2⟩ := ring_path h.wd hi hr
  have p3 : ∀ q, q ≤ rgW ow i → ∃ x, itO ow q i = some x ∧ x < 12 := by
    intro q hq
    by_cases z : q = 0
    · exact ⟨i, by rw [z]; rfl, hi⟩
    · by_cases y : q = rgW ow i
      · exact ⟨i, by rw [y]; exact p1, hi⟩
      · obtain ⟨x, a, b, _⟩ := p2 q (by omega) (by omega)
        exact ⟨x, a, b⟩
  obtain ⟨y1, hy1, hy1l⟩ := p3 1 (by omega)
  have hy0 : ow i = some y1 := (itO_next (ow := ow) (q := 0) (i := i) (x := i) rfl).symm.trans hy1
  rw [gd_n ⟨hi, by decide⟩, nI_cl (by omega), (h i hi).2.2, nm_s, hy0]
  have key := zfix_out (body := F_X12_isLowest_7L (nI i)) (fun j => (nI ((itO ow (j + 1) i).getD 0), σ)) (fun j => some (bI (lowW ow i (j + 1)), σ)) (rgW ow i - 1) (by omega) (fun j w hj ih => ?_) (fun w => ?_) 0 (Nat.zero_le _)
  · simp only [Nat.zero_add, hy1, Option.getD_some] at key
    refine key.trans (congrArg (fun x => some (x, σ)) (bI_c ⟨fun q => (lowW_s hr rfl).mpr ⟨Nat.le_refl i, q⟩, fun q => ((lowW_s hr rfl).mp q).2⟩))
  · obtain ⟨x, hx, hx2, hxi⟩ := p2 (j + 1) (by omega) (by omega)
    obtain ⟨y, hy, hy2⟩ := p3 (j + 2) (by omega)
    show F_X12_isLowest_7 (nI i) w (nI ((itO ow (j + 1) i).getD 0)) σ = _
    simp only [hx, hy, Option.getD_some] at ih ⊢
    have hxy : ow x = some y := (itO_next hx).symm.trans hy
    unfold F_X12_isLowest_7
    rw [if_neg (fun r => hxi ((nI_eq (by omega) (by omega)).mp r)), if_le (by omega)]
    by_cases z : i ≤ x
    · rw [if_pos z, gd_n ⟨hx2, by decide⟩, nI_cl (by omega), (h x hx2).2.2, hxy, nm_s]
      refine ih.trans (congrArg (fun x => some (x, σ)) (bI_c ⟨fun q => (lowW_s (by omega) hx).mpr ⟨z, q⟩, fun q => ((lowW_s (by omega) hx).mp q).2⟩))
    · rw [if_neg z, bI_f (fun q => z ((lowW_s (by omega) hx).mp q).1)]
  · show F_X12_isLowest_7 (nI i) w (nI ((itO ow (rgW ow i - 1 + 1) i).getD 0)) σ = _
    unfold F_X12_isLowest_7
    rw [show rgW ow i - 1 + 1 = rgW ow i by omega, p1, Option.getD_some, if_pos rfl, bI_t (p := lowW ow i (rgW ow i)) (fun q h1 h2 => by omega)]
/-- over all: how many, in rings, the longest -/
noncomputable def rgs (ow : Nat → Option Nat) : Nat → Nat × Nat × Nat
  | 0 => (0, 0, 0)
  | k + 1 => ((rgs ow k).1 + @ite _ (0 < rgW ow k ∧ lowW ow k 0) (Classical.propDecidable _) 1 0, (rgs ow k).2.1 + (if 0 < rgW ow k then 1 else 0), if (rgs ow k).2.2 < rgW ow k then rgW ow k else (rgs ow k).2.2)
theorem rgs_b (ow : Nat → Option Nat) : ∀ k, (rgs ow k).1 ≤ k ∧ (rgs ow k).2.1 ≤ k ∧ (rgs ow k).2.2 ≤ 13 := by
  intro k
  induction k with
  | zero => exact ⟨Nat.le_refl 0, Nat.le_refl 0, Nat.zero_le 13⟩
  | succ k ih =>
    have := rgW_le (ow := ow) (i := k)
    refine ⟨?_, ?_, ?_⟩
    · show (rgs ow k).1 + @ite _ _ (Classical.propDecidable _) 1 0 ≤ k + 1
      split <;> omega
    · show (rgs ow k).2.1 + (if 0 < rgW ow k then 1 else 0) ≤ k + 1
      split <;> omega
    · show (if (rgs ow k).2.2 < rgW ow k then rgW ow k else (rgs ow k).2.2) ≤ 13
      split <;> omega
theorem T_howC {ow : Nat → Option Nat} {σ : zSt} (h : WO ow σ) : F_X9_howMany σ = some (nI (rgs ow 12).1, σ) := by
  unfold F_X9_howMany F_X9_howMany_0
  refine zfix_run (fun k => (nI (rgs ow k).1, nI k, σ)) 12 (by decide) (fun k w hk => ?_) (fun w => ?_)
  · show F_X9_howMany_4 w (nI (rgs ow k).1) (nI k) σ = w (nI (rgs ow (k + 1)).1, _, σ)
    unfold F_X9_howMany_4
    rw [T_lowC h hk, bd_s, bI_id]
    simp (disch := omega) only [lit_le, if_neg, nm_s, nI_1, rgs]
    by_cases q : 0 < rgW ow k ∧ lowW ow k 0
    · rw [bI_t q, if_pos q, nI_1]
    · rw [bI_f q, if_neg q, ← nI_0, nI_add]
  · show F_X9_howMany_4 w _ (nI 12) σ = _
    unfold F_X9_howMany_4
    simp (disch := omega) only [lit_le, if_pos]
theorem T_inC {ow : Nat → Option Nat} {σ : zSt} (h : WO ow σ) : F_X9_inRings σ = some (nI (rgs ow 12).2.1, σ) := by
  unfold F_X9_inRings F_X9_inRings_0
  refine zfix_run (fun k => (nI (rgs ow k).2.1, nI k, σ)) 12 (by decide) (fun k w hk => ?_) (fun w => ?_)
  · show F_X9_inRings_4 w (nI (rgs ow k).2.1) (nI k) σ = w (nI (rgs ow (k + 1)).2.1, _, σ)
    have hl := rgW_le (ow := ow) (i := k)
    unfold F_X9_inRings_4
    rw [T_ringC h hk, bd_s, pos_if (by omega)]
    simp (disch := omega) only [lit_le, if_neg, nm_s, nI_1, rgs]
    by_cases q : 0 < rgW ow k
    · rw [bI_t q, if_pos q, nI_1]
    · rw [bI_f q, if_neg q, ← nI_0, nI_add]
  · show F_X9_inRings_4 w _ (nI 12) σ = _
    unfold F_X9_inRings_4
    simp (disch := omega) only [lit_le, if_pos]
theorem T_longC {ow : Nat → Option Nat} {σ : zSt} (h : WO ow σ) : F_X9_longest σ = some (nI (rgs ow 12).2.2, σ) := by
  unfold F_X9_longest F_X9_longest_0
  refine zfix_run (fun k => (nI (rgs ow k).2.2, nI k, σ)) 12 (by decide) (fun k w hk => ?_) (fun w => ?_)
  · show F_X9_longest_4 w (nI (rgs ow k).2.2) (nI k) σ = w (nI (rgs ow (k + 1)).2.2, _, σ)
    have hl := rgW_le (ow := ow) (i := k)
    have hb := rgs_b ow k
    unfold F_X9_longest_4 jmax
    rw [T_ringC h hk, bd_s]
    simp (disch := omega) only [lit_le, if_neg, nm_s, nI_1, rgs, nI_ltp]
    by_cases q : (rgs ow k).2.2 < rgW ow k
    · rw [if_pos q, if_pos q]
    · rw [if_neg q, if_neg q]
  · show F_X9_longest_4 w _ (nI 12) σ = _
    unfold F_X9_longest_4
    simp (disch := omega) only [lit_le, if_pos]
theorem T_ringsM {ow : Nat → Option Nat} {σ : zSt} (h : WO ow σ) (x2 : Int32) : zfix (F_X12_rings_105L x2) zlim ((0 : Int32), (0 : Int32), (0 : Int32), (0 : Int32), σ) = F_X12_rings_166 x2 (nI (rgs ow 12).1) (nI (rgs ow 12).2.1) (nI (rgs ow 12).2.2) σ := by
  refine zfix_run (fun k => (nI (rgs ow k).1, nI (rgs ow k).2.1, nI (rgs ow k).2.2, nI k, σ)) 12 (by decide) (fun k w hk => ?_) (fun w => ?_)
  · show F_X12_rings_105 x2 w (nI (rgs ow k).1) (nI (rgs ow k).2.1) (nI (rgs ow k).2.2) (nI k) σ = w (nI (rgs ow (k + 1)).1, nI (rgs ow (k + 1)).2.1, nI (rgs ow (k + 1)).2.2, _, σ)
    have hl := rgW_le (ow := ow) (i := k)
    have hb := rgs_b ow k
    unfold F_X12_rings_105 F_X12_rings_160
    rw [if_neg (show ¬ (12 : Int32) ≤ nI k by rw [show (12 : Int32) = nI 12 from rfl, nI_lep (by omega)]; omega), T_ringM h hk, bd_s]
    by_cases q : 0 < rgW ow k
    · rw [if_neg (nI_ne0 q (by omega)), nm_s, T_ringM h hk, bd_s]
      unfold F_X12_max F_X12_max_0
      have e : (if nI (rgs ow k).2.2 ≤ nI (rgW ow k) then some (nI (rgW ow k), σ) else some (nI (rgs ow k).2.2, σ)) = some (nI (if (rgs ow k).2.2 < rgW ow k then rgW ow k else (rgs ow k).2.2), σ) := by
        rw [if_le (by omega)]
        by_cases z : (rgs ow k).2.2 < rgW ow k
        · rw [if_pos (show (rgs ow k).2.2 ≤ rgW ow k by omega), if_pos z]
        · rw [if_neg z]
          by_cases y : (rgs ow k).2.2 ≤ rgW ow k
          · rw [if_pos y, show rgW ow k = (rgs ow k).2.2 by omega]
          · rw [if_neg y]
      rw [e, bd_s, T_lowM h hk q, bd_s, bI_id, nm_s, nm_s, nm_s, nI_1, nI_1]
      by_cases y : lowW ow k 0
      · rw [bI_t y, nI_1]
        simp only [rgs, q, y, and_self, ↓reduceIte]
      · rw [bI_f y, ← nI_0, nI_add]
        simp only [rgs, q, y, and_false, ↓reduceIte]
    · have q0 : rgW ow k = 0 := by omega
      rw [q0, if_pos (show nI 0 = 0 from rfl)]
      simp (disch := omega) only [lit_le, if_neg, nm_s, nI_1, rgs, q0]
      simp only [Nat.lt_irrefl, false_and, ↓reduceIte, Nat.add_zero, Nat.not_lt_zero]
  · show F_X12_rings_105 x2 w _ _ _ (nI 12) σ = _
    unfold F_X12_rings_105
    simp (disch := omega) only [lit_le, if_pos]
theorem s_rings {n : Nat} {σ : zSt} (hn : n < 512) (hR : Rel n σ) (x1 x2 : Int32) : Both n (F_X11_rings x1 x2) (F_X12_rings x1 x2) σ := by
  obtain ⟨ow, h⟩ : ∃ ow, WO ow σ := hR.2.2.2.2.2.2
  have E1 : F_X11_rings x1 x2 σ = F_X9_answer x1 x2 σ := by
    unfold F_X11_rings F_X11_rings_0
    cases F_X9_answer x1 x2 σ <;> rfl
  by_cases z0 : x2 = 0
  · subst z0
    exact Both.no (nI (rgs ow 12).1) hn hR (by rw [E1]; simp only [F_X9_answer, F_X9_answer_0, F_X9_answer_21, ↓reduceIte, T_howC h, bd_s]; rfl) (by
      unfold F_X12_rings F_X12_rings_0 F_X12_rings_26
      rw [T_in_4, bd_s, bI_t (show bel 0 5 from ⟨by decide, by decide⟩), if_neg (by decide), if_pos (by decide), if_pos (by decide), T_ringsM h]
      rfl)
  by_cases z1 : x2 = 1
  · subst z1
    exact Both.no (nI (rgs ow 12).2.1) hn hR (by rw [E1]; simp only [F_X9_answer, F_X9_answer_0, F_X9_answer_21, ↓reduceIte, T_inC h, bd_s]; rfl) (by
      unfold F_X12_rings F_X12_rings_0 F_X12_rings_26
      rw [T_in_4, bd_s, bI_t (show bel 1 5 from ⟨by decide, by decide⟩), if_neg (by decide), if_pos (by decide), if_pos (by decide), T_ringsM h]
      rfl)
  by_cases z2 : x2 = 2
  · subst z2
    exact Both.no (nI (rgs ow 12).2.2) hn hR (by rw [E1]; simp only [F_X9_answer, F_X9_answer_0, F_X9_answer_21, ↓reduceIte, T_longC h, bd_s]; rfl) (by
      unfold F_X12_rings F_X12_rings_0 F_X12_rings_26
      rw [T_in_4, bd_s, bI_t (show bel 2 5 from ⟨by decide, by decide⟩), if_neg (by decide), if_pos (by decide), if_pos (by decide), T_ringsM h]
      rfl)
  by_cases z34 : x2 = 3 ∨ x2 = 4
  · have b5 : bel x2 5 := by
      rcases z34 with rfl | rfl
      · exact ⟨by decide, by decide⟩
      · exact ⟨by decide, by decide⟩
    have n2 : ¬ x2 ≤ 2 := by
      rcases z34 with rfl | rfl <;> decide
    have EA : F_X9_answer x1 x2 σ = F_X9_answer_10 x1 x2 σ := by
      unfold F_X9_answer F_X9_answer_0
      rcases z34 with rfl | rfl
      · rw [if_pos rfl]
      · rw [if_neg (by decide), if_pos rfl]
    by_cases h1 : bel x1 12
    · obtain ⟨i, hi, rfl⟩ := bel_of h1
      have EM : F_X12_rings (nI i) x2 σ = some ((if x2 = 3 then nI (wkO ow 12 i 0).1 else nI (wkO ow 12 i 0).2), σ) := by
        unfold F_X12_rings F_X12_rings_0 F_X12_rings_26
        rw [T_in_4, bd_s, bI_t b5, if_neg (by decide), if_neg n2, T_in_11, bd_s, bI_t h1, if_neg (by decide), if_neg n2, T_walkM h hi]
      refine Both.no _ hn hR ?_ EM
      rw [E1, EA]
      unfold F_X9_answer_10 F_X9_answer_21
      rw [T_isBelow_12, bd_s, bI_t h1, if_neg (by decide), if_neg z0, if_neg z1, if_neg z2]
      rcases z34 with rfl | rfl
      · rw [if_pos rfl, T_walkC h hi, bd_s]
        rfl
      · rw [if_neg (by decide), if_pos rfl, T_walkC h hi, bd_s]
        rfl
    · refine Both.no (-1) hn hR ?_ ?_
      · rw [E1, EA]
        unfold F_X9_answer_10
        rw [T_isBelow_12, bd_s, bI_f h1, if_pos rfl]
      · unfold F_X12_rings F_X12_rings_0
        rw [T_in_4, bd_s, bI_t b5, if_neg (by decide), if_neg n2, T_in_11, bd_s, bI_f h1, if_pos rfl]
  · have z3 : ¬ x2 = 3 := fun q => z34 (Or.inl q)
    have z4 : ¬ x2 = 4 := fun q => z34 (Or.inr q)
    have nb : ¬ bel x2 5 := by
      intro q
      obtain ⟨j, hj, rfl⟩ := bel_of q
      have e : j = 0 ∨ j = 1 ∨ j = 2 ∨ j = 3 ∨ j = 4 := by omega
      rcases e with rfl | rfl | rfl | rfl | rfl
      · exact z0 rfl
      · exact z1 rfl
      · exact z2 rfl
      · exact z3 rfl
      · exact z4 rfl
    refine Both.no (-1) hn hR ?_ ?_
    · rw [E1]
      unfold F_X9_answer F_X9_answer_0 F_X9_answer_21
      rw [if_neg z3, if_neg z4, if_neg z0, if_neg z1, if_neg z2, if_neg z3, if_neg z4]
    · unfold F_X12_rings F_X12_rings_0
      rw [T_in_4, bd_s, bI_f nb, if_pos rfl]
