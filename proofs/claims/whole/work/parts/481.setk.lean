/-! PURE: a world with one KEY put elsewhere -/
def setK (W : zWo) (p : Nat) (o : Option Nat) : zWo := (W.1, (W.2.1.1, W.2.1.2.1, W.2.1.2.2.1, fset W.2.1.2.2.2 p o), W.2.2)
theorem setK_k {W : zWo} {p : Nat} {o : Option Nat} : wKey (setK W p o) = fset (wKey W) p o := rfl
theorem WOK_setK {W : zWo} (hW : WOK W) {p : Nat} {o : Option Nat} (ho : ∀ k, o = some k → wIs W k = true ∨ (8 ≤ k ∧ k ≤ 10)) : WOK (setK W p o) := by
  refine ⟨hW.1, hW.2.1, hW.2.2.1, hW.2.2.2.1, hW.2.2.2.2.1, hW.2.2.2.2.2.1, fun j k hj e => ?_, hW.2.2.2.2.2.2.2⟩
  rw [setK_k] at e
  show wIs W k = true ∨ (8 ≤ k ∧ k ≤ 10)
  by_cases q : j = p
  · rw [q, fset_s] at e
    exact ho k e
  · rw [fset_n q] at e
    exact hW.2.2.2.2.2.2.1 j k hj e
theorem EM_setK {W : zWo} {σ : zSt} (h : EM 70 0 W σ) {p : Nat} {o : Option Nat} : EM 70 0 (setK W p o) (zwr σ 75 p (e2 o)) := by
  have z : ∀ c, c ≠ 75 → (zwr σ 75 p (e2 o)).1 c = σ.1 c := fun c hc => zwr_n hc
  obtain ⟨h1, h2, h3, h4, h5, h6, h7, h8, h9, h10, h11, h12, h13⟩ := h
  have z69 := z 69 (by decide)
  refine ⟨fun j hj => by rw [z 70 (by decide)]; exact h1 j hj, fun j hj => by rw [z 71 (by decide)]; exact h2 j hj, fun j hj => by rw [z 72 (by decide)]; exact h3 j hj, fun j hj => by rw [z 73 (by decide)]; exact h4 j hj, fun j hj => by rw [z 74 (by decide)]; exact h5 j hj, fun j hj => ?_, by rw [z69]; exact h7, by rw [z69]; exact h8, by rw [z69]; exact h9, by rw [z69]; exact h10, by rw [z69]; exact h11, by rw [z69]; exact h12, by rw [z69]; exact h13⟩
  show (zwr σ 75 p (e2 o)).1 75 j = e2 (fset (wKey W) p o j)
  by_cases q : j = p
  · rw [q, zwr_at, fset_s]
  · rw [zwr_ne (Or.inr q), fset_n q]
    exact h6 j hj

