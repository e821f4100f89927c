/-! PURE: the seeker with one KEY put elsewhere -/
theorem topW_setK {W : zWo} {p : Nat} {o : Option Nat} : ∀ n q, topW (setK W p o) n q = topW W n q := by
  intro n
  induction n with
  | zero => intro q; rfl
  | succ n ih =>
    intro q
    unfold topW
    rw [show wWin (setK W p o) q = wWin W q from rfl]
    cases wWin W q with
    | none => rfl
    | some r => exact ih r
theorem ancW_setK {W : zWo} {p : Nat} {o : Option Nat} : ∀ n q, ancW (setK W p o) n q = ancW W n q := by
  intro n
  induction n with
  | zero => intro q; rfl
  | succ n ih =>
    intro q
    unfold ancW
    rw [show wWin (setK W p o) q = wWin W q from rfl]
    cases wWin W q with
    | none => rfl
    | some r => exact congrArg (fun x => 2 ^ r ||| x) (ih r)
theorem golF_setK {W : zWo} {p : Nat} {o : Option Nat} : ∀ n q, golF (setK W p o) n q = golF W n q := by
  intro n
  induction n with
  | zero => intro q; rfl
  | succ n ih =>
    intro q
    unfold golF
    rw [show wFli (setK W p o) q = wFli W q from rfl]
    cases wFli W q with
    | none => rfl
    | some r => exact congrArg (fun x => 2 ^ q ||| x) (ih r)
theorem islW_setK {W : zWo} {p q : Nat} {o : Option Nat} : islW (setK W p o) q = islW W q := by
  unfold islW
  rw [topW_setK]
  rfl
theorem ploW_setK {W : zWo} {p i : Nat} {o : Option Nat} : ploW (setK W p o) i = ploW W i := by
  have e : (fun q => wIs (setK W p o) q && decide (islW (setK W p o) q = i)) = fun q => wIs W q && decide (islW W q = i) := by
    funext q
    rw [islW_setK]
    rfl
  unfold ploW
  rw [e]
theorem SK_put {W : zWo} {σ : zSt} (hS : SK W σ) {p : Nat} {o : Option Nat} (hp : p < 8) (hW : WOK (setK W p o)) : wp (F_X5_putKey (nI p) (e1 o) σ) (fun _ τ => fr [21, 22] [] σ τ ∧ SK (setK W p o) τ) := by
  obtain ⟨h1, h2, h3, h4, h5, h6, h7, h8, h9⟩ := hS
  have k21 : ∀ k, k < 8 → (zwr σ 21 p (e1 o)).1 21 k = e1 (wKey (setK W p o) k) := by
    intro k hk
    rw [setK_k]
    by_cases q : k = p
    · rw [q, zwr_at, fset_s]
    · rw [zwr_ne (Or.inr q), fset_n q]
      exact h4 k hk
  unfold F_X5_putKey F_X5_putKey_0
  rw [T_isBelow_8, bd_s, bI_t (p := bel (nI p) 8) (bel_t (by omega)), if_neg (show ¬ (1 : Int32) = 0 by decide), gd_n (by omega), nI_cl (by omega), nm_s]
  refine wp_bd2 (T_mouths (W := setK W p o) (fun k hk x e => by rcases key11 hW hk e with z | z <;> omega) k21) (fun _ τ hτ => ?_)
  obtain ⟨f, m⟩ := hτ
  have ff : fr [21, 22] [] σ τ := (fr_w (Or.inl (by decide))).tr (f.mono (by decide))
  have g : ∀ c, (!([21, 22] : List Nat).contains c && ([] : List (Nat × Nat)).all (fun q => q.1 != c)) = true → τ.1 c = σ.1 c := fun c hc => ff.row hc
  refine wp_some ⟨ff, fun i hi => ?_, fun i hi => ?_, fun q hq => ?_, fun k hk => ?_, m, ?_, fun q hq => ?_, ?_, fun j hj => ?_⟩
  · rw [g 18 (by decide), ploW_setK]
    exact h1 i hi
  · rw [g 19 (by decide)]
    exact h2 i hi
  · rw [g 20 (by decide), show ancs (setK W p o) q = ancs W q from ancW_setK 8 q]
    exact h3 q hq
  · rw [f.row (c := 21) (by decide)]
    exact k21 k hk
  · rw [g 17 (by decide), show golW (setK W p o) = golW W from golF_setK 8 _]
    exact h6
  · rw [g 5 (by decide)]
    exact h7 q hq
  · rw [g 1 (by decide)]
    exact h8
  · rw [g 2 (by decide)]
    exact h9 j hj

