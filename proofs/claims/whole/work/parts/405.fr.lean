/-! PURE: frames -/
theorem zwr_at {σ : zSt} {c j : Nat} {v : Int32} : (zwr σ c j v).1 c j = v := by rw [zwr_c, pk_us]
theorem zwr_ne {σ : zSt} {c j d k : Nat} {v : Int32} (h : d ≠ c ∨ k ≠ j) : (zwr σ c j v).1 d k = σ.1 d k := by
  by_cases q : d = c
  · subst q
    rw [zwr_c, pk_un (h.resolve_left (fun r => r rfl))]
  · rw [zwr_n q]
def fr (L : List Nat) (S : List (Nat × Nat)) (σ τ : zSt) : Prop := (∀ c j, c ∉ L → (c, j) ∉ S → τ.1 c j = σ.1 c j) ∧ ∀ c, c ∉ L → τ.2 c = σ.2 c
theorem fr.rf {L : List Nat} {S : List (Nat × Nat)} {σ : zSt} : fr L S σ σ := ⟨fun _ _ _ _ => rfl, fun _ _ => rfl⟩
theorem fr.tr {L : List Nat} {S : List (Nat × Nat)} {σ τ υ : zSt} (h : fr L S σ τ) (g : fr L S τ υ) : fr L S σ υ := ⟨fun c j h1 h2 => (g.1 c j h1 h2).trans (h.1 c j h1 h2), fun c h1 => (g.2 c h1).trans (h.2 c h1)⟩
theorem fr.mono {L L' : List Nat} {S S' : List (Nat × Nat)} {σ τ : zSt} (h : fr L S σ τ) (hh : (L.all (fun c => L'.contains c) && S.all (fun q => L'.contains q.1 || S'.contains q)) = true) : fr L' S' σ τ := by
  rw [Bool.and_eq_true] at hh
  refine ⟨fun c j h1 h2 => h.1 c j (fun q => h1 (List.contains_iff_mem.mp (List.all_eq_true.mp hh.1 c q))) (fun q => ?_), fun c h1 => h.2 c (fun q => h1 (List.contains_iff_mem.mp (List.all_eq_true.mp hh.1 c q)))⟩
  have := List.all_eq_true.mp hh.2 _ q
  rw [Bool.or_eq_true] at this
  rcases this with r | r
  · exact h1 (List.contains_iff_mem.mp r)
  · exact h2 (List.contains_iff_mem.mp r)
theorem fr_w {L : List Nat} {S : List (Nat × Nat)} {σ : zSt} {c j : Nat} {v : Int32} (h : c ∈ L ∨ (c, j) ∈ S) : fr L S σ (zwr σ c j v) := by
  refine ⟨fun d k h1 h2 => ?_, fun _ _ => rfl⟩
  by_cases q : d = c
  · by_cases r : k = j
    · subst q r
      exact absurd h (fun s => s.elim h1 h2)
    · rw [q, zwr_c, pk_un r]
  · rw [zwr_n q]
theorem fr_z {L : List Nat} {S : List (Nat × Nat)} {σ : zSt} {c : Nat} {f : Nat → Int32} (h : c ∈ L) : fr L S σ (zrow σ c f) := by
  refine ⟨fun d k h1 h2 => ?_, fun _ _ => rfl⟩
  by_cases q : d = c
  · subst q
    exact absurd h h1
  · rw [zrow_n q]
theorem fr_wL {L : List Nat} {S : List (Nat × Nat)} {σ : zSt} {c j : Nat} {v : Int64} (h : c ∈ L) : fr L S σ (zwrL σ c j v) := by
  refine ⟨fun d k h1 h2 => rfl, fun d h1 => ?_⟩
  by_cases q : d = c
  · subst q
    exact absurd h h1
  · exact zwrL_n q
theorem fr_zL {L : List Nat} {S : List (Nat × Nat)} {σ : zSt} {c : Nat} {f : Nat → Int64} (h : c ∈ L) : fr L S σ (zrowL σ c f) := by
  refine ⟨fun d k h1 h2 => rfl, fun d h1 => ?_⟩
  by_cases q : d = c
  · subst q
    exact absurd h h1
  · exact zrowL_n q
theorem fr.w {L : List Nat} {S : List (Nat × Nat)} {σ τ : zSt} {c j : Nat} {v : Int32} (g : fr L S σ τ) (h : c ∈ L ∨ (c, j) ∈ S) : fr L S σ (zwr τ c j v) := g.tr (fr_w h)
theorem fr.z {L : List Nat} {S : List (Nat × Nat)} {σ τ : zSt} {c : Nat} {f : Nat → Int32} (g : fr L S σ τ) (h : c ∈ L) : fr L S σ (zrow τ c f) := g.tr (fr_z h)
theorem fr.wL {L : List Nat} {S : List (Nat × Nat)} {σ τ : zSt} {c j : Nat} {v : Int64} (g : fr L S σ τ) (h : c ∈ L) : fr L S σ (zwrL τ c j v) := g.tr (fr_wL h)
theorem fr.zL {L : List Nat} {S : List (Nat × Nat)} {σ τ : zSt} {c : Nat} {f : Nat → Int64} (g : fr L S σ τ) (h : c ∈ L) : fr L S σ (zrowL τ c f) := g.tr (fr_zL h)
theorem fr.rd {L : List Nat} {S : List (Nat × Nat)} {σ τ : zSt} {c j : Nat} (h : fr L S σ τ) (hc : c ∉ L) (hs : (c, j) ∉ S) : τ.1 c j = σ.1 c j := h.1 c j hc hs
theorem fr.rd0 {L : List Nat} {σ τ : zSt} {c j : Nat} (h : fr L [] σ τ) (hc : c ∉ L) : τ.1 c j = σ.1 c j := h.1 c j hc (fun q => by cases q)
theorem fr.row {L : List Nat} {S : List (Nat × Nat)} {σ τ : zSt} {c : Nat} (h : fr L S σ τ) (hc : (!L.contains c && S.all (fun q => q.1 != c)) = true) : τ.1 c = σ.1 c := by
  rw [Bool.and_eq_true] at hc
  refine funext (fun j => h.1 c j (fun q => ?_) (fun q => ?_))
  · have := hc.1
    rw [List.contains_iff_mem.mpr q] at this
    cases this
  · have := List.all_eq_true.mp hc.2 _ q
    simp at this
theorem fr.rowL {L : List Nat} {S : List (Nat × Nat)} {σ τ : zSt} {c : Nat} (h : fr L S σ τ) (hc : c ∉ L) : τ.2 c = σ.2 c := h.2 c hc
theorem fr.eqOn {L : List Nat} {S : List (Nat × Nat)} {σ τ : zSt} {rows : List Nat} {slots : List (Nat × Nat)} (h : fr L S σ τ) (hr : (rows.all (fun c => !L.contains c && S.all (fun q => q.1 != c)) && slots.all (fun q => !L.contains q.1 && !S.contains q)) = true) : eqOn rows slots σ τ := by
  rw [Bool.and_eq_true] at hr
  refine ⟨fun c hc => h.row (List.all_eq_true.mp hr.1 c hc), fun q hq => ?_⟩
  have := List.all_eq_true.mp hr.2 q hq
  rw [Bool.and_eq_true] at this
  refine h.1 q.1 q.2 (fun r => ?_) (fun r => ?_)
  · have t := this.1
    rw [List.contains_iff_mem.mpr r] at t
    cases t
  · have t := this.2
    rw [List.contains_iff_mem.mpr r] at t
    cases t
theorem fr.EC {L : List Nat} {S : List (Nat × Nat)} {σ τ : zSt} {W : zWo} (h : fr L S σ τ) (hr : (rowsC.all (fun c => !L.contains c && S.all (fun q => q.1 != c)) && slotsC.all (fun q => !L.contains q.1 && !S.contains q)) = true) (g : EC 1 2 W σ) : EC 1 2 W τ := EC_on (h.eqOn hr) g
theorem fr.EM {L : List Nat} {S : List (Nat × Nat)} {σ τ : zSt} {W : zWo} (h : fr L S σ τ) (hr : (rowsM.all (fun c => !L.contains c && S.all (fun q => q.1 != c)) && slotsM.all (fun q => !L.contains q.1 && !S.contains q)) = true) (g : EM 70 0 W σ) : EM 70 0 W τ := EM_on (h.eqOn hr) g
/-- what only serves one call: class, reference -/
def LC : List Nat := [15, 16, 17, 18, 19, 20, 21, 22, 23, 24, 25, 35, 36, 37, 38, 39, 40, 41, 42, 43, 44, 45, 46, 47, 48, 49, 50, 51, 52, 53, 54, 55, 56, 57, 58, 59, 60, 61, 62, 63, 64]
def SC : List (Nat × Nat) := [(33, 2)]
def LM : List Nat := [77, 78, 79, 80, 81, 82, 88, 89, 90, 91, 92, 93, 94, 95, 96, 97, 98, 99, 100, 101, 102]
def SM : List (Nat × Nat) := [(69, 15), (69, 16), (69, 17), (69, 18), (69, 19), (69, 20), (69, 21), (69, 22), (69, 37), (69, 38), (69, 39), (69, 40), (69, 41), (69, 42), (69, 49), (69, 53), (69, 54)]
theorem fr.relC {n : Nat} {σ τ : zSt} (h : fr LC SC σ τ) (g : Rel n σ) : Rel n τ := Rel_on (h.eqOn (by decide)) g
theorem fr.relM {n : Nat} {σ τ : zSt} (h : fr LM SM σ τ) (g : Rel n σ) : Rel n τ := Rel_on (h.eqOn (by decide)) g
/-- class and reference answer alike, and change only what serves one call -/
theorem Both.fr {α : Type} {n : Nat} {f g : zSt → Option (α × zSt)} {σ : zSt} (r : α) (hn : n < 512) (hR : Rel n σ) (h1 : wp (f σ) (fun a τ => a = r ∧ fr LC SC σ τ)) (h2 : ∀ τ, Rel n τ → fr LC SC σ τ → wp (g τ) (fun a υ => a = r ∧ fr LM SM τ υ)) : Both n f g σ := by
  obtain ⟨a, τ, e1, rfl, f1⟩ := h1
  have hτ := f1.relC hR
  obtain ⟨b, υ, e2, rfl, f2⟩ := h2 τ hτ f1
  exact Both.mk e1 e2 (Rel_up hn (f2.relM hτ))
theorem wp_let {α β : Type} {a : α} {f : α → Option (β × zSt)} {Q : β → zSt → Prop} (h : ∀ t, t = a → wp (f t) Q) : wp (nm a f) Q := h a rfl
