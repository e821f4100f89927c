/-! PURE: small tools -/
theorem zfix_at {S T : Type} {body : (S → Option T) → S → Option T} (st : Nat → S) (N : Nat) {out : Option T} (hs : ∀ i w, i < N → body w (st i) = w (st (i + 1))) (he : ∀ w, body w (st N) = out) : ∀ f k, k ≤ N → N - k < f → zfix body f (st k) = out := by
  intro f
  induction f with
  | zero => intro k _ h; omega
  | succ f ih =>
    intro k hk h
    show body (zfix body f) (st k) = out
    rcases Nat.lt_or_ge k N with q | q
    · rw [hs k _ q]
      exact ih (k + 1) q (by omega)
    · have e : k = N := by omega
      rw [e]
      exact he _
theorem zfix_run {S T : Type} {body : (S → Option T) → S → Option T} (st : Nat → S) (N : Nat) {out : Option T} (hN : N < 1000000) (hs : ∀ i w, i < N → body w (st i) = w (st (i + 1))) (he : ∀ w, body w (st N) = out) : zfix body zlim (st 0) = out := zfix_at st N hs he zlim 0 (Nat.zero_le N) (by show N - 0 < 1000000; omega)
theorem bd_s {α β : Type} {q : α} {τ : zSt} {f : α → zSt → Option β} : bd (some (q, τ)) f = f q τ := rfl
theorem nm_s {α β : Type} {a : α} {f : α → β} : nm a f = f a := rfl
theorem zwr_c {σ : zSt} {c j : Nat} {v : Int32} : (zwr σ c j v).1 c = upd (σ.1 c) j v := zrow_c
theorem zwr_n {σ : zSt} {c j d : Nat} {v : Int32} (h : d ≠ c) : (zwr σ c j v).1 d = σ.1 d := zrow_n h
theorem zwr_L {σ : zSt} {c j : Nat} {v : Int32} : (zwr σ c j v).2 = σ.2 := rfl
theorem zwrL_c {σ : zSt} {c j : Nat} {v : Int64} : (zwrL σ c j v).2 c = vp_updL (σ.2 c) j v := zrowL_c
theorem zwrL_n {σ : zSt} {c j d : Nat} {v : Int64} (h : d ≠ c) : (zwrL σ c j v).2 d = σ.2 d := zrowL_n h
theorem zwrL_I {σ : zSt} {c j : Nat} {v : Int64} : (zwrL σ c j v).1 = σ.1 := rfl
/-- comparisons by the whole numbers -/
theorem i_le {a b : Int32} : a ≤ b ↔ a.toInt ≤ b.toInt := Int32.le_iff_toInt_le
theorem i_lt {a b : Int32} : a < b ↔ a.toInt < b.toInt := Int32.lt_iff_toInt_lt
theorem i_eq {a b : Int32} : a = b ↔ a.toInt = b.toInt := Int32.toInt_inj.symm
theorem i_nI {n : Nat} (h : n < 2147483648) : (nI n).toInt = (n : Int) := nI_toInt h
theorem i_of {x : Int32} {n : Nat} (h0 : 0 ≤ x.toInt) (h1 : x.toInt < n) : ∃ j : Nat, j < n ∧ x = nI j := by
  refine ⟨x.toInt.toNat, by omega, ?_⟩
  rw [i_eq, i_nI (by have := x.toInt_lt; omega)]
  omega
theorem t_isBelow (a b : Int32) (σ : zSt) : F_X11_isBelow a b σ = some (if 0 ≤ a.toInt ∧ a.toInt < b.toInt then 1 else 0, σ) := by
  unfold F_X11_isBelow F_X11_isBelow_0
  simp only [i_le, i_lt]
  have e : (0 : Int32).toInt = 0 := rfl
  rw [e]
  by_cases h1 : a.toInt < 0
  · rw [if_pos h1, if_neg (by omega)]
  · by_cases h2 : b.toInt ≤ a.toInt
    · rw [if_neg h1, if_pos h2, if_neg (by omega)]
    · rw [if_neg h1, if_neg h2, if_pos (by omega)]
theorem t_below {p n : Nat} {c : Int32} (hp : p < n) (hc : c.toInt = n) (σ : zSt) : F_X11_isBelow (nI p) c σ = some (1, σ) := by
  have := c.toInt_lt
  rw [t_isBelow, if_pos (by rw [i_nI (by omega), hc]; omega)]
theorem t_nbelow {x c : Int32} (h : x.toInt < 0 ∨ c.toInt ≤ x.toInt) (σ : zSt) : F_X11_isBelow x c σ = some (0, σ) := by
  rw [t_isBelow, if_neg (by omega)]
def keysUp (row : Nat → Int32) (p : Int32) : Nat → Int32
  | 0 => 0
  | n + 1 => keysUp row p n ||| (if row n = p then (1 : Int32) <<< (nI n &&& 31) else 0)
theorem t_keysIn (p : Int32) (σ : zSt) : F_X10_keysIn p σ = some (keysUp (σ.1 7) p 8, σ) := by
  unfold F_X10_keysIn F_X10_keysIn_0
  refine zfix_run (fun i => (keysUp (σ.1 7) p i, nI i, σ)) 8 (by decide) (fun i w hi => ?_) (fun w => ?_)
  · show F_X10_keysIn_4 p w _ _ _ = _
    unfold F_X10_keysIn_4
    rw [if_neg (by rw [i_le, i_nI (by omega)]; show ¬ (8 : Int) ≤ _; omega), gd_t (vp_in_nI hi (by decide))]
    simp only [nm, nI_clamp (show i < 2 ^ 31 by omega), nI_1, keysUp]
  · show F_X10_keysIn_4 p w _ _ _ = _
    unfold F_X10_keysIn_4
    rw [if_pos (show (8 : Int32) ≤ nI 8 by decide)]
theorem t_keysAt (p : Int32) (σ : zSt) : F_X12_keysAt p σ = some (keysUp (σ.1 75) p 8, σ) := by
  unfold F_X12_keysAt F_X12_keysAt_0
  refine zfix_run (fun i => (keysUp (σ.1 75) p i, nI i, σ)) 8 (by decide) (fun i w hi => ?_) (fun w => ?_)
  · show F_X12_keysAt_4 p w _ _ _ = _
    unfold F_X12_keysAt_4
    rw [if_neg (by rw [i_le, i_nI (by omega)]; show ¬ (8 : Int) ≤ _; omega), gd_t (vp_in_nI hi (by decide))]
    simp only [nm, nI_clamp (show i < 2 ^ 31 by omega), nI_1, keysUp]
  · show F_X12_keysAt_4 p w _ _ _ = _
    unfold F_X12_keysAt_4
    rw [if_pos (show (8 : Int32) ≤ nI 8 by decide)]
