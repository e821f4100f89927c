/-! PURE: rules of the store functions, and what the small ones are -/
def wp {α : Type} (x : Option (α × zSt)) (Q : α → zSt → Prop) : Prop := ∃ r τ, x = some (r, τ) ∧ Q r τ
theorem wp_some {α : Type} {r : α} {τ : zSt} {Q : α → zSt → Prop} (h : Q r τ) : wp (some (r, τ)) Q := ⟨r, τ, rfl, h⟩
theorem wp_of {α : Type} {x : Option (α × zSt)} {r : α} {τ : zSt} {Q : α → zSt → Prop} (e : x = some (r, τ)) (h : Q r τ) : wp x Q := ⟨r, τ, e, h⟩
theorem wp_bd {α β : Type} {x : Option (α × zSt)} {f : α → zSt → Option (β × zSt)} {Q : β → zSt → Prop} (h : wp x (fun r τ => wp (f r τ) Q)) : wp (bd x f) Q := by
  obtain ⟨r, τ, e, h⟩ := h
  rw [e]
  exact h
theorem wp_bd2 {α β : Type} {x : Option (α × zSt)} {f : α → zSt → Option (β × zSt)} {P : α → zSt → Prop} {Q : β → zSt → Prop} (h : wp x P) (g : ∀ r τ, P r τ → wp (f r τ) Q) : wp (bd x f) Q := by
  obtain ⟨r, τ, e, h⟩ := h
  rw [e]
  exact g r τ h
theorem wp_mono {α : Type} {x : Option (α × zSt)} {P Q : α → zSt → Prop} (h : wp x P) (g : ∀ r τ, P r τ → Q r τ) : wp x Q := by
  obtain ⟨r, τ, e, h⟩ := h
  exact ⟨r, τ, e, g r τ h⟩
theorem wp_nm {α β : Type} {a : α} {f : α → Option (β × zSt)} {Q : β → zSt → Prop} (h : wp (f a) Q) : wp (nm a f) Q := h
theorem wp_gd {α : Type} {p : Prop} {x : Option (α × zSt)} {Q : α → zSt → Prop} (hp : p) (h : wp x Q) : wp (gd p x) Q := by
  rw [gd_t hp]
  exact h
theorem wp_if {α : Type} {c : Prop} {i : Decidable c} {x y : Option (α × zSt)} {Q : α → zSt → Prop} (h : c → wp x Q) (g : ¬ c → wp y Q) : wp (@ite _ c i x y) Q := by
  by_cases q : c
  · rw [if_pos q]
    exact h q
  · rw [if_neg q]
    exact g q
/-- a loop: an invariant and a measure -/
theorem wp_fixn {α S : Type} {body : (S → Option (α × zSt)) → S → Option (α × zSt)} {Q : α → zSt → Prop} (I : S → Prop) (μ : S → Nat) (h : ∀ w s, I s → (∀ s', I s' → μ s' < μ s → wp (w s') Q) → wp (body w s) Q) : ∀ f s, I s → μ s < f → wp (zfix body f s) Q := by
  intro f
  induction f with
  | zero => intro s _ q; omega
  | succ f ih =>
    intro s hs q
    exact h _ s hs (fun s' h1 h2 => ih s' h1 (by omega))
theorem wp_fix {α S : Type} {body : (S → Option (α × zSt)) → S → Option (α × zSt)} {Q : α → zSt → Prop} {s : S} (I : S → Prop) (μ : S → Nat) (h : ∀ w s, I s → (∀ s', I s' → μ s' < μ s → wp (w s') Q) → wp (body w s) Q) (hs : I s) (hm : μ s < 1000000) : wp (zfix body zlim s) Q := wp_fixn I μ h zlim s hs hm
/-- a loop: what it comes to from each state -/
theorem zfix_mu {S T : Type} {body : (S → Option T) → S → Option T} (I : S → Prop) (μ : S → Nat) (out : S → Option T) (h : ∀ w s, I s → (∀ s', I s' → μ s' < μ s → w s' = out s') → body w s = out s) {s : S} (hs : I s) (hm : μ s < 1000000) : zfix body zlim s = out s := by
  have key : ∀ f s, I s → μ s < f → zfix body f s = out s := by
    intro f
    induction f with
    | zero => intro s _ q; omega
    | succ f ih =>
      intro s hs q
      exact h _ s hs (fun s' h1 h2 => ih s' h1 (by omega))
  exact key zlim s hs hm
/-- a loop over places i below N that may end early -/
theorem zfix_out {S T : Type} {body : (S → Option T) → S → Option T} (st : Nat → S) (out : Nat → Option T) (N : Nat) (hN : N < 1000000) (hs : ∀ i w, i < N → w (st (i + 1)) = out (i + 1) → body w (st i) = out i) (he : ∀ w, body w (st N) = out N) : ∀ k, k ≤ N → zfix body zlim (st k) = out k := by
  have key : ∀ f k, k ≤ N → N - k < f → zfix body f (st k) = out k := by
    intro f
    induction f with
    | zero => intro k _ h; omega
    | succ f ih =>
      intro k hk h
      rcases Nat.lt_or_ge k N with q | q
      · exact hs k _ q (ih (k + 1) q (by omega))
      · have e : k = N := by omega
        rw [e]
        exact he _
  intro k hk
  exact key zlim k hk (by show N - k < 1000000; omega)
/-! answers that are so or not -/
noncomputable def bI (p : Prop) : Int32 := @ite _ p (Classical.propDecidable p) 1 0
theorem bI_0 {p : Prop} : (bI p = 0) = ¬ p := by
  unfold bI
  by_cases h : p
  · rw [if_pos h]
    exact eq_false (fun q => absurd q (by decide)) |>.trans (eq_false (fun q => q h)).symm
  · rw [if_neg h]
    exact (eq_true rfl).trans (eq_true h).symm
theorem bI_t {p : Prop} (h : p) : bI p = 1 := if_pos h
theorem bI_f {p : Prop} (h : ¬ p) : bI p = 0 := if_neg h
theorem bI_01 {p : Prop} : bI p = 0 ∨ bI p = 1 := by
  by_cases h : p
  · exact Or.inr (bI_t h)
  · exact Or.inl (bI_f h)
theorem bI_c {p q : Prop} (h : p ↔ q) : bI p = bI q := by rw [propext h]
/-- x is below n, not below 0 -/
def bel (x : Int32) (n : Nat) : Prop := 0 ≤ x.toInt ∧ x.toInt < n
theorem bel_of {x : Int32} {n : Nat} (h : bel x n) : ∃ j : Nat, j < n ∧ x = nI j := i_of h.1 h.2
theorem bel_nI {a n : Nat} (ha : a < 2147483648) : bel (nI a) n ↔ a < n := by
  unfold bel
  rw [i_nI ha]
  omega
theorem bel_t {a n : Nat} (h : a < n ∧ n < 2147483648) : bel (nI a) n := (bel_nI (by omega)).mpr h.1
theorem bel_m1 {n : Nat} : ¬ bel (-1) n := by
  intro h
  exact absurd h.1 (by decide)
theorem bel_m2 {n : Nat} : ¬ bel (-2) n := by
  intro h
  exact absurd h.1 (by decide)
theorem T_isBelow {x c : Int32} {σ : zSt} (n : Nat) (hc : c.toInt = n) : F_X11_isBelow x c σ = some (bI (bel x n), σ) := by
  rw [t_isBelow, hc]
  by_cases h : 0 ≤ x.toInt ∧ x.toInt < (n : Int)
  · rw [if_pos h, bI_t (p := bel x n) h]
  · rw [if_neg h, bI_f (p := bel x n) h]
theorem T_isBelow_2 {x : Int32} {σ : zSt} : F_X11_isBelow x 2 σ = some (bI (bel x 2), σ) := T_isBelow 2 rfl
theorem T_isBelow_3 {x : Int32} {σ : zSt} : F_X11_isBelow x 3 σ = some (bI (bel x 3), σ) := T_isBelow 3 rfl
theorem T_isBelow_4 {x : Int32} {σ : zSt} : F_X11_isBelow x 4 σ = some (bI (bel x 4), σ) := T_isBelow 4 rfl
theorem T_isBelow_6 {x : Int32} {σ : zSt} : F_X11_isBelow x 6 σ = some (bI (bel x 6), σ) := T_isBelow 6 rfl
theorem T_isBelow_8 {x : Int32} {σ : zSt} : F_X11_isBelow x 8 σ = some (bI (bel x 8), σ) := T_isBelow 8 rfl
theorem T_isBelow_9 {x : Int32} {σ : zSt} : F_X11_isBelow x 9 σ = some (bI (bel x 9), σ) := T_isBelow 9 rfl
theorem T_isBelow_10 {x : Int32} {σ : zSt} : F_X11_isBelow x 10 σ = some (bI (bel x 10), σ) := T_isBelow 10 rfl
theorem T_isBelow_12 {x : Int32} {σ : zSt} : F_X11_isBelow x 12 σ = some (bI (bel x 12), σ) := T_isBelow 12 rfl
theorem T_isBelow_16 {x : Int32} {σ : zSt} : F_X11_isBelow x 16 σ = some (bI (bel x 16), σ) := T_isBelow 16 rfl
theorem T_isBelow_17 {x : Int32} {σ : zSt} : F_X11_isBelow x 17 σ = some (bI (bel x 17), σ) := T_isBelow 17 rfl
theorem T_isBelow_31 {x : Int32} {σ : zSt} : F_X11_isBelow x 31 σ = some (bI (bel x 31), σ) := T_isBelow 31 rfl
theorem T_isBelow_64 {x : Int32} {σ : zSt} : F_X11_isBelow x 64 σ = some (bI (bel x 64), σ) := T_isBelow 64 rfl
theorem T_isBelow_256 {x : Int32} {σ : zSt} : F_X11_isBelow x 256 σ = some (bI (bel x 256), σ) := T_isBelow 256 rfl
theorem T_isBelow_65536 {x : Int32} {σ : zSt} : F_X11_isBelow x 65536 σ = some (bI (bel x 65536), σ) := T_isBelow 65536 rfl
theorem T_in {x a b : Int32} {σ : zSt} : F_X12_in x a b σ = some (bI (a.toInt ≤ x.toInt ∧ x.toInt ≤ b.toInt), σ) := by
  unfold F_X12_in F_X12_in_0
  simp only [i_lt]
  by_cases h1 : x.toInt < a.toInt
  · rw [if_pos h1, bI_f (by omega)]
  · by_cases h2 : b.toInt < x.toInt
    · rw [if_neg h1, if_pos h2, bI_f (by omega)]
    · rw [if_neg h1, if_neg h2, bI_t (by omega)]
theorem T_inN {x c : Int32} {σ : zSt} (n : Nat) (hc : c.toInt = (n : Int)) : F_X12_in x 0 c σ = some (bI (bel x (n + 1)), σ) := by
  rw [T_in, bI_c]
  show (0 ≤ x.toInt ∧ x.toInt ≤ c.toInt) ↔ (0 ≤ x.toInt ∧ x.toInt < ((n + 1 : Nat) : Int))
  omega
theorem T_in_1 {x : Int32} {σ : zSt} : F_X12_in x 0 1 σ = some (bI (bel x 2), σ) := T_inN 1 rfl
theorem T_in_2 {x : Int32} {σ : zSt} : F_X12_in x 0 2 σ = some (bI (bel x 3), σ) := T_inN 2 rfl
theorem T_in_3 {x : Int32} {σ : zSt} : F_X12_in x 0 3 σ = some (bI (bel x 4), σ) := T_inN 3 rfl
theorem T_in_4 {x : Int32} {σ : zSt} : F_X12_in x 0 4 σ = some (bI (bel x 5), σ) := T_inN 4 rfl
theorem T_in_5 {x : Int32} {σ : zSt} : F_X12_in x 0 5 σ = some (bI (bel x 6), σ) := T_inN 5 rfl
theorem T_in_8 {x : Int32} {σ : zSt} : F_X12_in x 0 8 σ = some (bI (bel x 9), σ) := T_inN 8 rfl
theorem T_in_11 {x : Int32} {σ : zSt} : F_X12_in x 0 11 σ = some (bI (bel x 12), σ) := T_inN 11 rfl
theorem T_in_16 {x : Int32} {σ : zSt} : F_X12_in x 0 16 σ = some (bI (bel x 17), σ) := T_inN 16 rfl
theorem T_in_30 {x : Int32} {σ : zSt} : F_X12_in x 0 30 σ = some (bI (bel x 31), σ) := T_inN 30 rfl
theorem T_in_63 {x : Int32} {σ : zSt} : F_X12_in x 0 63 σ = some (bI (bel x 64), σ) := T_inN 63 rfl
theorem T_in_255 {x : Int32} {σ : zSt} : F_X12_in x 0 255 σ = some (bI (bel x 256), σ) := T_inN 255 rfl
theorem T_in_65535 {x : Int32} {σ : zSt} : F_X12_in x 0 65535 σ = some (bI (bel x 65536), σ) := T_inN 65535 rfl
theorem bel_lt {x c : Int32} {n : Nat} (hc : c.toInt = (n : Int)) : bel x n ↔ ¬ x < 0 ∧ ¬ c ≤ x := by
  rw [i_lt, i_le, hc]
  have e : (0 : Int32).toInt = 0 := rfl
  rw [e]
  unfold bel
  omega
theorem T_isIsland {x : Int32} {σ : zSt} : F_X12_isIsland x σ = some (bI (bel x 4), σ) := by
  unfold F_X12_isIsland F_X12_isIsland_0
  by_cases h : bel x 4
  · have g := (bel_lt (c := 4) rfl).mp h
    rw [bI_t h, if_neg g.1, if_neg g.2]
  · rw [bI_f h]
    by_cases h1 : x < 0
    · rw [if_pos h1]
    · by_cases h2 : (4 : Int32) ≤ x
      · rw [if_neg h1, if_pos h2]
      · exact absurd ((bel_lt (c := 4) rfl).mpr ⟨h1, h2⟩) h
theorem T_isEight {x : Int32} {σ : zSt} : F_X12_isEight x σ = some (bI (bel x 8), σ) := by
  unfold F_X12_isEight F_X12_isEight_0
  by_cases h : bel x 8
  · have g := (bel_lt (c := 8) rfl).mp h
    rw [bI_t h, if_neg g.1, if_neg g.2]
  · rw [bI_f h]
    by_cases h1 : x < 0
    · rw [if_pos h1]
    · by_cases h2 : (8 : Int32) ≤ x
      · rw [if_neg h1, if_pos h2]
      · exact absurd ((bel_lt (c := 8) rfl).mpr ⟨h1, h2⟩) h
theorem T_has {m k : Nat} {σ : zSt} (hm : m < 256 ∧ k < 8) : F_X12_has (nI m) (nI k) σ = some (bI (m.testBit k = true), σ) := by
  unfold F_X12_has F_X12_has_0
  by_cases h : m.testBit k = true
  · rw [if_pos ((bit_is hm.1 hm.2).mpr h), bI_t h]
  · rw [if_neg (fun q => h ((bit_is hm.1 hm.2).mp q)), bI_f h]
theorem T_isTold {W : zWo} {σ : zSt} (hW : WOK W) (h : EC 1 2 W σ) {x : Int32} : F_X10_isTold x σ = some (bI (isT W x), σ) := t_isTold hW h x
theorem T_isPlace {W : zWo} {σ : zSt} (hW : WOK W) (h : EM 70 0 W σ) {x : Int32} : F_X12_isPlace x σ = some (bI (isT W x), σ) := t_isPlace hW h x
theorem isT_of {W : zWo} {x : Int32} (h : isT W x) : ∃ p, p < 8 ∧ wIs W p = true ∧ x = nI p := by
  obtain ⟨p, h1, h2⟩ := h
  exact ⟨p, wIs_lt h1, h1, h2⟩
theorem isT_m1 {W : zWo} : ¬ isT W (-1) := by
  intro ⟨p, h1, h2⟩
  have := wIs_lt h1
  exact e1_n (k := p) (by omega) h2.symm
theorem gd_n {α : Type} {i n : Nat} {x : Option α} (h : i < n ∧ n < 2147483648) : gd (vp_in (nI i) n) x = x := gd_t (vp_in_nI h.1 h.2)
theorem gd_01 {α : Type} {p : Prop} {x : Option α} : gd (bI p = 0 ∨ bI p = 1) x = x := gd_t bI_01
theorem nI_cl {n : Nat} (h : n < 2147483648) : (nI n).toNatClampNeg = n := nI_clamp h
theorem zwr_r {σ : zSt} {c j d : Nat} {v : Int32} : (zwr σ c j v).1 d = if d = c then upd (σ.1 c) j v else σ.1 d := rfl
theorem zrow_r {σ : zSt} {c d : Nat} {f : Nat → Int32} : (zrow σ c f).1 d = if d = c then f else σ.1 d := rfl
theorem upd_r {f : Nat → Int32} {j k : Nat} {v : Int32} : upd f j v k = if k = j then v else f k := rfl
theorem m4 {a : Nat} : (4 : Int32) * nI a = nI (4 * a) := pk_mul 4 a
/-- class, then reference: like answers, all alike behind -/
def Both (n : Nat) (f g : zSt → Option (Int32 × zSt)) (σ : zSt) : Prop := ∃ r σ1 σ2, f σ = some (r, σ1) ∧ g σ1 = some (r, σ2) ∧ Rel (n + 1) σ2
theorem Both.mk {n : Nat} {f g : zSt → Option (Int32 × zSt)} {σ σ1 σ2 : zSt} {r : Int32} (h1 : f σ = some (r, σ1)) (h2 : g σ1 = some (r, σ2)) (h3 : Rel (n + 1) σ2) : Both n f g σ := ⟨r, σ1, σ2, h1, h2, h3⟩
theorem Both.same {n : Nat} {f g : zSt → Option (Int32 × zSt)} {σ σ1 σ2 : zSt} (r : Int32) (hn : n < 512) (hR : Rel n σ) (e1 : eqOn rowsP slotsP σ σ1) (e2 : eqOn rowsP slotsP σ1 σ2) (h1 : f σ = some (r, σ1)) (h2 : g σ1 = some (r, σ2)) : Both n f g σ := ⟨r, σ1, σ2, h1, h2, Rel_up hn (Rel_on (e1.tr e2) hR)⟩
theorem Both.no {n : Nat} {f g : zSt → Option (Int32 × zSt)} {σ : zSt} (r : Int32) (hn : n < 512) (hR : Rel n σ) (h1 : f σ = some (r, σ)) (h2 : g σ = some (r, σ)) : Both n f g σ := Both.same r hn hR eqOn.rf eqOn.rf h1 h2
theorem Rel_W {n : Nat} {σ τ : zSt} (hn : n < 512) (g : Rel n σ) (h : eqOn ((rowsKC ++ rowsKM) ++ rowsT ++ rowsL ++ rowsE ++ rowsO) ((slotsKC ++ slotsKM) ++ slotsT ++ slotsL ++ slotsE) σ τ) (hw : RW (n + 1) τ) : Rel (n + 1) τ :=
  ⟨hn, hw, RK_on (Nat.le_succ n) (h.sub (by decide) (by decide)) g.2.2.1, RT_on (h.sub (by decide) (by decide)) g.2.2.2.1, RLw_on (h.sub (by decide) (by decide)) g.2.2.2.2.1, RE_on (h.sub (by decide) (by decide)) g.2.2.2.2.2.1, RO_on (h.sub (by decide) (by decide)) g.2.2.2.2.2.2⟩
theorem Rel_E {n : Nat} {σ τ : zSt} (hn : n < 512) (g : Rel n σ) (h : eqOn ((rowsC ++ rowsM) ++ (rowsKC ++ rowsKM) ++ rowsT ++ rowsL ++ rowsO) ((slotsC ++ slotsM) ++ (slotsKC ++ slotsKM) ++ slotsT ++ slotsL) σ τ) (hw : RE τ) : Rel (n + 1) τ :=
  ⟨hn, RW_on (Nat.le_succ n) (h.sub (by decide) (by decide)) g.2.1, RK_on (Nat.le_succ n) (h.sub (by decide) (by decide)) g.2.2.1, RT_on (h.sub (by decide) (by decide)) g.2.2.2.1, RLw_on (h.sub (by decide) (by decide)) g.2.2.2.2.1, hw, RO_on (h.sub (by decide) (by decide)) g.2.2.2.2.2.2⟩
theorem Rel_O {n : Nat} {σ τ : zSt} (hn : n < 512) (g : Rel n σ) (h : eqOn ((rowsC ++ rowsM) ++ (rowsKC ++ rowsKM) ++ rowsT ++ rowsL ++ rowsE) ((slotsC ++ slotsM) ++ (slotsKC ++ slotsKM) ++ slotsT ++ slotsL ++ slotsE) σ τ) (hw : RO τ) : Rel (n + 1) τ :=
  ⟨hn, RW_on (Nat.le_succ n) (h.sub (by decide) (by decide)) g.2.1, RK_on (Nat.le_succ n) (h.sub (by decide) (by decide)) g.2.2.1, RT_on (h.sub (by decide) (by decide)) g.2.2.2.1, RLw_on (h.sub (by decide) (by decide)) g.2.2.2.2.1, RE_on (h.sub (by decide) (by decide)) g.2.2.2.2.2.1, hw⟩
theorem Rel_T {n : Nat} {σ τ : zSt} (hn : n < 512) (g : Rel n σ) (h : eqOn ((rowsC ++ rowsM) ++ (rowsKC ++ rowsKM) ++ rowsL ++ rowsE ++ rowsO) ((slotsC ++ slotsM) ++ (slotsKC ++ slotsKM) ++ slotsL ++ slotsE) σ τ) (hw : RT τ) : Rel (n + 1) τ :=
  ⟨hn, RW_on (Nat.le_succ n) (h.sub (by decide) (by decide)) g.2.1, RK_on (Nat.le_succ n) (h.sub (by decide) (by decide)) g.2.2.1, hw, RLw_on (h.sub (by decide) (by decide)) g.2.2.2.2.1, RE_on (h.sub (by decide) (by decide)) g.2.2.2.2.2.1, RO_on (h.sub (by decide) (by decide)) g.2.2.2.2.2.2⟩
theorem Rel_K {n : Nat} {σ τ : zSt} (hn : n < 512) (g : Rel n σ) (h : eqOn ((rowsC ++ rowsM) ++ rowsT ++ rowsL ++ rowsE ++ rowsO) ((slotsC ++ slotsM) ++ slotsT ++ slotsL ++ slotsE) σ τ) (hw : RK (n + 1) τ) : Rel (n + 1) τ :=
  ⟨hn, RW_on (Nat.le_succ n) (h.sub (by decide) (by decide)) g.2.1, hw, RT_on (h.sub (by decide) (by decide)) g.2.2.2.1, RLw_on (h.sub (by decide) (by decide)) g.2.2.2.2.1, RE_on (h.sub (by decide) (by decide)) g.2.2.2.2.2.1, RO_on (h.sub (by decide) (by decide)) g.2.2.2.2.2.2⟩
theorem wp_for {α S : Type} {body : (S → Option (α × zSt)) → S → Option (α × zSt)} {Q : α → zSt → Prop} (I : Nat → S → Prop) (N : Nat) (hN : N < 1000000) (step : ∀ k w s, k < N → I k s → (∀ s', I (k + 1) s' → wp (w s') Q) → wp (body w s) Q) (fin : ∀ w s, I N s → wp (body w s) Q) {s : S} (h0 : I 0 s) : wp (zfix body zlim s) Q := by
  have key : ∀ f k s, k ≤ N → N - k < f → I k s → wp (zfix body f s) Q := by
    intro f
    induction f with
    | zero => intro k _ _ h; omega
    | succ f ih =>
      intro k s hk h hI
      rcases Nat.lt_or_ge k N with q | q
      · exact step k _ s q hI (fun s' hs' => ih (k + 1) s' q (by omega) hs')
      · have e : k = N := by omega
        rw [e] at hI
        exact fin _ s hI
  exact key zlim 0 s (Nat.zero_le N) (by show N - 0 < 1000000; omega) h0
/-! PURE: frames -/
def fr (L : List Nat) (S : List (Nat × Nat)) (σ τ : zSt) : Prop := (∀ c j, c ∉ L → (c, j) ∉ S → τ.1 c j = σ.1 c j) ∧ ∀ c, c ∉ L → τ.2 c = σ.2 c
theorem fr.rf {L : List Nat} {S : List (Nat × Nat)} {σ : zSt} : fr L S σ σ := ⟨fun _ _ _ _ => rfl, fun _ _ => rfl⟩
theorem fr.tr {L : List Nat} {S : List (Nat × Nat)} {σ τ υ : zSt} (h : fr L S σ τ) (g : fr L S τ υ) : fr L S σ υ := ⟨fun c j h1 h2 => (g.1 c j h1 h2).trans (h.1 c j h1 h2), fun c h1 => (g.2 c h1).trans (h.2 c h1)⟩
theorem fr.mono {L L' : List Nat} {S S' : List (Nat × Nat)} {σ τ : zSt} (h : fr L S σ τ) (hh : (L.all (fun c => L'.contains c) && S.all (fun q => L'.contains q.1 || S'.contains q)) = true) : fr L' S' σ τ := by
  rw [Bool.and_eq_true] at hh
  refine ⟨fun c j h1 h2 => h.1 c j (fun q => h1 (List.contains_iff_mem.mp (List.all_eq_true.mp hh.1 c q))) (fun q => ?_), fun c h1 => h.2 c (fun q => h1 (List.contains_iff_mem.mp (List.all_eq_true.mp hh.1 c q)))⟩
  have := List.all_eq_true.mp hh.2 _ q
  rw [Bool.or_eq_true] at this
  rcases this with r | r
  · exact h1 (List.contains_iff_mem.mp r)
  · exact h2 (List.contains_iff_mem.mp r)
theorem fr_w {L : List Nat} {S : List (Nat × Nat)} {σ : zSt} {c j : Nat} {v : Int32} (h : c ∈ L ∨ (c, j) ∈ S) : fr L S σ (zwr σ c j v) := by
  refine ⟨fun d k h1 h2 => ?_, fun _ _ => rfl⟩
  by_cases q : d = c
  · by_cases r : k = j
    · subst q r
      exact absurd h (fun s => s.elim h1 h2)
    · rw [q, zwr_c, pk_un r]
  · rw [zwr_n q]
theorem fr_z {L : List Nat} {S : List (Nat × Nat)} {σ : zSt} {c : Nat} {f : Nat → Int32} (h : c ∈ L) : fr L S σ (zrow σ c f) := by
  refine ⟨fun d k h1 h2 => ?_, fun _ _ => rfl⟩
  by_cases q : d = c
  · subst q
    exact absurd h h1
  · rw [zrow_n q]
theorem fr_wL {L : List Nat} {S : List (Nat × Nat)} {σ : zSt} {c j : Nat} {v : Int64} (h : c ∈ L) : fr L S σ (zwrL σ c j v) := by
  refine ⟨fun d k h1 h2 => rfl, fun d h1 => ?_⟩
  by_cases q : d = c
  · subst q
    exact absurd h h1
  · exact zwrL_n q
theorem fr_zL {L : List Nat} {S : List (Nat × Nat)} {σ : zSt} {c : Nat} {f : Nat → Int64} (h : c ∈ L) : fr L S σ (zrowL σ c f) := by
  refine ⟨fun d k h1 h2 => rfl, fun d h1 => ?_⟩
  by_cases q : d = c
  · subst q
    exact absurd h h1
  · exact zrowL_n q
theorem fr.w {L : List Nat} {S : List (Nat × Nat)} {σ τ : zSt} {c j : Nat} {v : Int32} (g : fr L S σ τ) (h : c ∈ L ∨ (c, j) ∈ S) : fr L S σ (zwr τ c j v) := g.tr (fr_w h)
theorem fr.z {L : List Nat} {S : List (Nat × Nat)} {σ τ : zSt} {c : Nat} {f : Nat → Int32} (g : fr L S σ τ) (h : c ∈ L) : fr L S σ (zrow τ c f) := g.tr (fr_z h)
theorem fr.wL {L : List Nat} {S : List (Nat × Nat)} {σ τ : zSt} {c j : Nat} {v : Int64} (g : fr L S σ τ) (h : c ∈ L) : fr L S σ (zwrL τ c j v) := g.tr (fr_wL h)
theorem fr.zL {L : List Nat} {S : List (Nat × Nat)} {σ τ : zSt} {c : Nat} {f : Nat → Int64} (g : fr L S σ τ) (h : c ∈ L) : fr L S σ (zrowL τ c f) := g.tr (fr_zL h)
theorem fr.rd {L : List Nat} {S : List (Nat × Nat)} {σ τ : zSt} {c j : Nat} (h : fr L S σ τ) (hc : c ∉ L) (hs : (c, j) ∉ S) : τ.1 c j = σ.1 c j := h.1 c j hc hs
theorem fr.row {L : List Nat} {S : List (Nat × Nat)} {σ τ : zSt} {c : Nat} (h : fr L S σ τ) (hc : (!L.contains c && S.all (fun q => q.1 != c)) = true) : τ.1 c = σ.1 c := by
  rw [Bool.and_eq_true] at hc
  refine funext (fun j => h.1 c j (fun q => ?_) (fun q => ?_))
  · have := hc.1
    rw [List.contains_iff_mem.mpr q] at this
    cases this
  · have := List.all_eq_true.mp hc.2 _ q
    simp at this
theorem fr.rowL {L : List Nat} {S : List (Nat × Nat)} {σ τ : zSt} {c : Nat} (h : fr L S σ τ) (hc : c ∉ L) : τ.2 c = σ.2 c := h.2 c hc
theorem fr.eqOn {L : List Nat} {S : List (Nat × Nat)} {σ τ : zSt} {rows : List Nat} {slots : List (Nat × Nat)} (h : fr L S σ τ) (hr : (rows.all (fun c => !L.contains c && S.all (fun q => q.1 != c)) && slots.all (fun q => !L.contains q.1 && !S.contains q)) = true) : eqOn rows slots σ τ := by
  rw [Bool.and_eq_true] at hr
  refine ⟨fun c hc => h.row (List.all_eq_true.mp hr.1 c hc), fun q hq => ?_⟩
  have := List.all_eq_true.mp hr.2 q hq
  rw [Bool.and_eq_true] at this
  refine h.1 q.1 q.2 (fun r => ?_) (fun r => ?_)
  · have t := this.1
    rw [List.contains_iff_mem.mpr r] at t
    cases t
  · have t := this.2
    rw [List.contains_iff_mem.mpr r] at t
    cases t
theorem fr.EC {L : List Nat} {S : List (Nat × Nat)} {σ τ : zSt} {W : zWo} (h : fr L S σ τ) (hr : (rowsC.all (fun c => !L.contains c && S.all (fun q => q.1 != c)) && slotsC.all (fun q => !L.contains q.1 && !S.contains q)) = true) (g : EC 1 2 W σ) : EC 1 2 W τ := EC_on (h.eqOn hr) g
theorem fr.EM {L : List Nat} {S : List (Nat × Nat)} {σ τ : zSt} {W : zWo} (h : fr L S σ τ) (hr : (rowsM.all (fun c => !L.contains c && S.all (fun q => q.1 != c)) && slotsM.all (fun q => !L.contains q.1 && !S.contains q)) = true) (g : EM 70 0 W σ) : EM 70 0 W τ := EM_on (h.eqOn hr) g
/-- what only serves one call: class, reference -/
def LC : List Nat := [15, 16, 17, 18, 19, 20, 21, 22, 23, 24, 25, 35, 36, 37, 38, 39, 40, 41, 42, 43, 44, 45, 46, 47, 48, 49, 50, 51, 52, 53, 54, 55, 56, 57, 58, 59, 60, 61, 62, 63, 64]
def SC : List (Nat × Nat) := [(33, 2)]
def LM : List Nat := [77, 78, 79, 80, 81, 82, 88, 89, 90, 91, 92, 93, 94, 95, 96, 97, 98, 99, 100, 101, 102]
def SM : List (Nat × Nat) := [(69, 15), (69, 16), (69, 17), (69, 18), (69, 19), (69, 20), (69, 21), (69, 22), (69, 37), (69, 38), (69, 39), (69, 40), (69, 41), (69, 42), (69, 49), (69, 53), (69, 54)]
theorem fr.relC {n : Nat} {σ τ : zSt} (h : fr LC SC σ τ) (g : Rel n σ) : Rel n τ := Rel_on (h.eqOn (by decide)) g
theorem fr.relM {n : Nat} {σ τ : zSt} (h : fr LM SM σ τ) (g : Rel n σ) : Rel n τ := Rel_on (h.eqOn (by decide)) g
/-- class and reference answer alike, and change only what serves one call -/
theorem Both.fr {n : Nat} {f g : zSt → Option (Int32 × zSt)} {σ : zSt} (r : Int32) (hn : n < 512) (hR : Rel n σ) (h1 : wp (f σ) (fun a τ => a = r ∧ fr LC SC σ τ)) (h2 : ∀ τ, Rel n τ → fr LC SC σ τ → wp (g τ) (fun a υ => a = r ∧ fr LM SM τ υ)) : Both n f g σ := by
  obtain ⟨a, τ, e1, rfl, f1⟩ := h1
  have hτ := f1.relC hR
  obtain ⟨b, υ, e2, rfl, f2⟩ := h2 τ hτ f1
  exact Both.mk e1 e2 (Rel_up hn (f2.relM hτ))
/-! PURE: the calls that only tell something -/
theorem bit_clr1 {w p : Nat} (hw : w < 256) (hp : p < 8) : nI w &&& (nI (2 ^ p) ^^^ -1) = nI (w &&& (255 - 2 ^ p)) := by
  rw [← bit_1 p hp]
  exact bit_clr w hw p hp
def fset {α : Type} (g : Nat → α) (p : Nat) (v : α) : Nat → α := fun j => if j = p then v else g j
theorem fset_s {α : Type} {g : Nat → α} {p : Nat} {v : α} : fset g p v p = v := if_pos rfl
theorem fset_n {α : Type} {g : Nat → α} {p j : Nat} {v : α} (h : j ≠ p) : fset g p v j = g j := if_neg h
theorem upd_map {α : Type} {f : Nat → Int32} {g : Nat → α} {e : α → Int32} {p j : Nat} {v : α} (h : f j = e (g j)) : upd f p (e v) j = e (fset g p v j) := by
  unfold upd fset
  by_cases q : j = p
  · rw [if_pos q, if_pos q]
  · rw [if_neg q, if_neg q]
    exact h
theorem e12 {o : Option Nat} (h : ∀ k, o = some k → k < 16) : (if e1 o = -1 then (-2 : Int32) else e1 o) = e2 o := by
  cases o with
  | none => rfl
  | some k => exact if_neg (e1_n (by have := h k rfl; omega))
/-- none, or a number below n -/
theorem e1_of {x : Int32} {n : Nat} (h : x = -1 ∨ bel x n) : ∃ o : Option Nat, x = e1 o ∧ ∀ k, o = some k → k < n := by
  rcases h with rfl | h
  · exact ⟨none, rfl, fun k q => by cases q⟩
  · obtain ⟨j, hj, rfl⟩ := bel_of h
    exact ⟨some j, rfl, fun k q => by cases q; exact hj⟩
theorem WOK.told {W : zWo} (h : WOK W) : wTol W < 256 := h.2.2.2.2.2.2.2.1
theorem WOK.wet {W : zWo} (h : WOK W) : wWet W < 256 := h.2.2.2.2.2.2.2.2.1
theorem WOK.hea {W : zWo} (h : WOK W) : wHea W < 8 := h.2.2.2.2.2.2.2.2.2.1
theorem WOK.win {W : zWo} (h : WOK W) : ∀ j k, j < 8 → wWin W j = some k → k < j ∧ wIs W k = true := h.2.2.2.1
theorem WOK.lok {W : zWo} (h : WOK W) : ∀ j k, j < 8 → wLok W j = some k → k < 8 := h.2.2.2.2.1
theorem WOK.fli {W : zWo} (h : WOK W) : ∀ j k, j < 8 → wFli W j = some k → j < k ∧ wIs W k = true := h.2.2.2.2.2.1
theorem WOK.key {W : zWo} (h : WOK W) : ∀ j k, j < 8 → wKey W j = some k → wIs W k = true ∨ (8 ≤ k ∧ k ≤ 10) := h.2.2.2.2.2.2.1
theorem s_way {n : Nat} {σ : zSt} (hn : n < 512) (hR : Rel n σ) (x1 x2 x3 : Int32) : Both n (F_X11_way x1 x2 x3) (F_X12_way x1 x2 x3) σ := by
  by_cases h1 : bel x1 4
  rotate_left
  · exact Both.no 0 hn hR (by simp (disch := omega) only [F_X11_way, F_X11_way_0, F_X12_way, F_X12_way_0, T_isBelow_2, T_isBelow_3, T_isBelow_4, T_isBelow_6, T_isBelow_8, T_isBelow_9, T_isBelow_10, T_isBelow_12, T_isBelow_16, T_isBelow_17, T_isBelow_31, T_isBelow_64, T_isBelow_256, T_isBelow_65536, T_in_1, T_in_2, T_in_3, T_in_4, T_in_5, T_in_8, T_in_11, T_in_16, T_in_30, T_in_63, T_in_255, T_in_65535, T_isIsland, T_isEight, bd_s, nm_s, bI_0, gd_n, gd_01, nI_cl, nI_add, nI_1, m4, Bool.false_eq_true, not_true_eq_false, not_false_eq_true, ↓reduceIte, h1]) (by simp (disch := omega) only [F_X11_way, F_X11_way_0, F_X12_way, F_X12_way_0, T_isBelow_2, T_isBelow_3, T_isBelow_4, T_isBelow_6, T_isBelow_8, T_isBelow_9, T_isBelow_10, T_isBelow_12, T_isBelow_16, T_isBelow_17, T_isBelow_31, T_isBelow_64, T_isBelow_256, T_isBelow_65536, T_in_1, T_in_2, T_in_3, T_in_4, T_in_5, T_in_8, T_in_11, T_in_16, T_in_30, T_in_63, T_in_255, T_in_65535, T_isIsland, T_isEight, bd_s, nm_s, bI_0, gd_n, gd_01, nI_cl, nI_add, nI_1, m4, Bool.false_eq_true, not_true_eq_false, not_false_eq_true, ↓reduceIte, h1])
  by_cases h2 : bel x2 4
  rotate_left
  · exact Both.no 0 hn hR (by simp (disch := omega) only [F_X11_way, F_X11_way_0, F_X12_way, F_X12_way_0, T_isBelow_2, T_isBelow_3, T_isBelow_4, T_isBelow_6, T_isBelow_8, T_isBelow_9, T_isBelow_10, T_isBelow_12, T_isBelow_16, T_isBelow_17, T_isBelow_31, T_isBelow_64, T_isBelow_256, T_isBelow_65536, T_in_1, T_in_2, T_in_3, T_in_4, T_in_5, T_in_8, T_in_11, T_in_16, T_in_30, T_in_63, T_in_255, T_in_65535, T_isIsland, T_isEight, bd_s, nm_s, bI_0, gd_n, gd_01, nI_cl, nI_add, nI_1, m4, Bool.false_eq_true, not_true_eq_false, not_false_eq_true, ↓reduceIte, h1, h2]) (by simp (disch := omega) only [F_X11_way, F_X11_way_0, F_X12_way, F_X12_way_0, T_isBelow_2, T_isBelow_3, T_isBelow_4, T_isBelow_6, T_isBelow_8, T_isBelow_9, T_isBelow_10, T_isBelow_12, T_isBelow_16, T_isBelow_17, T_isBelow_31, T_isBelow_64, T_isBelow_256, T_isBelow_65536, T_in_1, T_in_2, T_in_3, T_in_4, T_in_5, T_in_8, T_in_11, T_in_16, T_in_30, T_in_63, T_in_255, T_in_65535, T_isIsland, T_isEight, bd_s, nm_s, bI_0, gd_n, gd_01, nI_cl, nI_add, nI_1, m4, Bool.false_eq_true, not_true_eq_false, not_false_eq_true, ↓reduceIte, h1, h2])
  by_cases h3 : x1 = x2
  · exact Both.no 0 hn hR (by simp (disch := omega) only [F_X11_way, F_X11_way_0, F_X12_way, F_X12_way_0, T_isBelow_2, T_isBelow_3, T_isBelow_4, T_isBelow_6, T_isBelow_8, T_isBelow_9, T_isBelow_10, T_isBelow_12, T_isBelow_16, T_isBelow_17, T_isBelow_31, T_isBelow_64, T_isBelow_256, T_isBelow_65536, T_in_1, T_in_2, T_in_3, T_in_4, T_in_5, T_in_8, T_in_11, T_in_16, T_in_30, T_in_63, T_in_255, T_in_65535, T_isIsland, T_isEight, bd_s, nm_s, bI_0, gd_n, gd_01, nI_cl, nI_add, nI_1, m4, Bool.false_eq_true, not_true_eq_false, not_false_eq_true, ↓reduceIte, h1, h2, if_pos h3]) (by simp (disch := omega) only [F_X11_way, F_X11_way_0, F_X12_way, F_X12_way_0, T_isBelow_2, T_isBelow_3, T_isBelow_4, T_isBelow_6, T_isBelow_8, T_isBelow_9, T_isBelow_10, T_isBelow_12, T_isBelow_16, T_isBelow_17, T_isBelow_31, T_isBelow_64, T_isBelow_256, T_isBelow_65536, T_in_1, T_in_2, T_in_3, T_in_4, T_in_5, T_in_8, T_in_11, T_in_16, T_in_30, T_in_63, T_in_255, T_in_65535, T_isIsland, T_isEight, bd_s, nm_s, bI_0, gd_n, gd_01, nI_cl, nI_add, nI_1, m4, Bool.false_eq_true, not_true_eq_false, not_false_eq_true, ↓reduceIte, h1, h2, if_pos h3])
  by_cases h4 : bel x3 31
  rotate_left
  · exact Both.no 0 hn hR (by simp (disch := omega) only [F_X11_way, F_X11_way_0, F_X12_way, F_X12_way_0, T_isBelow_2, T_isBelow_3, T_isBelow_4, T_isBelow_6, T_isBelow_8, T_isBelow_9, T_isBelow_10, T_isBelow_12, T_isBelow_16, T_isBelow_17, T_isBelow_31, T_isBelow_64, T_isBelow_256, T_isBelow_65536, T_in_1, T_in_2, T_in_3, T_in_4, T_in_5, T_in_8, T_in_11, T_in_16, T_in_30, T_in_63, T_in_255, T_in_65535, T_isIsland, T_isEight, bd_s, nm_s, bI_0, gd_n, gd_01, nI_cl, nI_add, nI_1, m4, Bool.false_eq_true, not_true_eq_false, not_false_eq_true, ↓reduceIte, h1, h2, h3, h4]) (by simp (disch := omega) only [F_X11_way, F_X11_way_0, F_X12_way, F_X12_way_0, T_isBelow_2, T_isBelow_3, T_isBelow_4, T_isBelow_6, T_isBelow_8, T_isBelow_9, T_isBelow_10, T_isBelow_12, T_isBelow_16, T_isBelow_17, T_isBelow_31, T_isBelow_64, T_isBelow_256, T_isBelow_65536, T_in_1, T_in_2, T_in_3, T_in_4, T_in_5, T_in_8, T_in_11, T_in_16, T_in_30, T_in_63, T_in_255, T_in_65535, T_isIsland, T_isEight, bd_s, nm_s, bI_0, gd_n, gd_01, nI_cl, nI_add, nI_1, m4, Bool.false_eq_true, not_true_eq_false, not_false_eq_true, ↓reduceIte, h1, h2, h3, h4])
  obtain ⟨a, ha, rfl⟩ := bel_of h1
  obtain ⟨b, hb, rfl⟩ := bel_of h2
  obtain ⟨d, hd, rfl⟩ := bel_of h4
  have hab : a ≠ b := fun q => h3 (by rw [q])
  obtain ⟨-, ⟨W, w0, w1, w2, w3⟩, -⟩ := id hR
  apply Both.mk (r := 1) (σ1 := zwr (zwr σ 2 (4 * a + b) (nI d)) 2 (4 * b + a) (nI d)) (σ2 := zwr (zwr (zwr (zwr σ 2 (4 * a + b) (nI d)) 2 (4 * b + a) (nI d)) 70 (4 * a + b) (nI d)) 70 (4 * b + a) (nI d))
  · simp (disch := omega) only [F_X11_way, F_X11_way_0, F_X12_way, F_X12_way_0, T_isBelow_2, T_isBelow_3, T_isBelow_4, T_isBelow_6, T_isBelow_8, T_isBelow_9, T_isBelow_10, T_isBelow_12, T_isBelow_16, T_isBelow_17, T_isBelow_31, T_isBelow_64, T_isBelow_256, T_isBelow_65536, T_in_1, T_in_2, T_in_3, T_in_4, T_in_5, T_in_8, T_in_11, T_in_16, T_in_30, T_in_63, T_in_255, T_in_65535, T_isIsland, T_isEight, bd_s, nm_s, bI_0, gd_n, gd_01, nI_cl, nI_add, nI_1, m4, Bool.false_eq_true, not_true_eq_false, not_false_eq_true, ↓reduceIte, h1, h2, h3, h4]
  · simp (disch := omega) only [F_X11_way, F_X11_way_0, F_X12_way, F_X12_way_0, T_isBelow_2, T_isBelow_3, T_isBelow_4, T_isBelow_6, T_isBelow_8, T_isBelow_9, T_isBelow_10, T_isBelow_12, T_isBelow_16, T_isBelow_17, T_isBelow_31, T_isBelow_64, T_isBelow_256, T_isBelow_65536, T_in_1, T_in_2, T_in_3, T_in_4, T_in_5, T_in_8, T_in_11, T_in_16, T_in_30, T_in_63, T_in_255, T_in_65535, T_isIsland, T_isEight, bd_s, nm_s, bI_0, gd_n, gd_01, nI_cl, nI_add, nI_1, m4, Bool.false_eq_true, not_true_eq_false, not_false_eq_true, ↓reduceIte, h1, h2, h3, h4]
  refine Rel_W hn hR ((((eqOn_wrR (by decide)).tr (eqOn_wrR (by decide))).tr (eqOn_wrR (by decide))).tr (eqOn_wrR (by decide))) ⟨((fset (fset (wWay W) (4 * a + b) d) (4 * b + a) d, wIsl W), W.2), ?_, Nat.le_succ_of_le w1, ?_, ?_⟩
  · obtain ⟨v1, v2, v3⟩ := w0
    refine ⟨fun j hj => ?_, fun j hj => ?_, v3⟩
    · show fset (fset (wWay W) (4 * a + b) d) (4 * b + a) d j ≤ 30
      have := v1 j hj
      unfold fset
      split <;> [omega; split <;> omega]
    · show fset (fset (wWay W) (4 * a + b) d) (4 * b + a) d (5 * j) = 0
      rw [fset_n (by omega), fset_n (by omega)]
      exact v2 j hj
  · obtain ⟨c1, c2, c3, c4, c5, c6, c7⟩ := w2
    exact ⟨fun j hj => upd_map (upd_map (c1 j hj)), c2, c3, c4, c5, c6, c7⟩
  · obtain ⟨c1, c2, c3, c4, c5, c6, c7⟩ := w3
    exact ⟨fun j hj => upd_map (upd_map (c1 j hj)), c2, c3, c4, c5, c6, c7⟩
theorem t_place61 {p t w i : Nat} {x2 : Int32} {o l : Option Nat} {σ : zSt} (hp : p < 8) (ht : t < 256) (hw : w < 256) (et : σ.1 1 6 = nI t) (ew : σ.1 1 7 = nI w) (hi : (if e1 o = -1 then x2 else (0 : Int32)) = nI i) : F_X11_place_61 (nI p) x2 (e1 o) (e1 l) σ = some (1, zwr (zwr (zwr (zwr (zwr (zwr σ 1 6 (nI (t ||| 2 ^ p))) 1 7 (nI (w &&& (255 - 2 ^ p)))) 3 p (nI i)) 4 p (e1 o)) 5 p (e1 l)) 6 p (-1)) := by
  have hb : bel (nI p) 8 := bel_t (by omega)
  simp (disch := omega) only [F_X11_place_61, F_X10_tell, F_X10_tell_0, T_isBelow_2, T_isBelow_3, T_isBelow_4, T_isBelow_6, T_isBelow_8, T_isBelow_9, T_isBelow_10, T_isBelow_12, T_isBelow_16, T_isBelow_17, T_isBelow_31, T_isBelow_64, T_isBelow_256, T_isBelow_65536, T_in_1, T_in_2, T_in_3, T_in_4, T_in_5, T_in_8, T_in_11, T_in_16, T_in_30, T_in_63, T_in_255, T_in_65535, T_isIsland, T_isEight, bd_s, nm_s, bI_0, gd_n, gd_01, nI_cl, nI_add, nI_1, m4, Bool.false_eq_true, not_true_eq_false, not_false_eq_true, ↓reduceIte, hi, hb, zwr_r, upd_r, Nat.reduceEqDiff, et, ew, bit_clr1 hw hp, bit_1 p hp, bit_or t ht _ (pow_lt8 hp)]
theorem t_place53 {p t w i : Nat} {x2 : Int32} {o l : Option Nat} {σ : zSt} (hp : p < 8) (ht : t < 256) (hw : w < 256) (et : σ.1 69 0 = nI t) (ew : σ.1 69 1 = nI w) (hi : (if e1 o = -1 then x2 else (0 : Int32)) = nI i) (ho : ∀ k, o = some k → k < 16) (hl : ∀ k, l = some k → k < 16) : F_X12_place_53 (nI p) x2 (e1 o) (e1 l) σ = some (1, zwr (zwr (zwr (zwr (zwr (zwr σ 69 0 (nI (t ||| 2 ^ p))) 69 1 (nI (w &&& (255 - 2 ^ p)))) 71 p (nI i)) 72 p (e2 o)) 73 p (e2 l)) 74 p (-2)) := by
  simp (disch := omega) only [F_X12_place_53, T_isBelow_2, T_isBelow_3, T_isBelow_4, T_isBelow_6, T_isBelow_8, T_isBelow_9, T_isBelow_10, T_isBelow_12, T_isBelow_16, T_isBelow_17, T_isBelow_31, T_isBelow_64, T_isBelow_256, T_isBelow_65536, T_in_1, T_in_2, T_in_3, T_in_4, T_in_5, T_in_8, T_in_11, T_in_16, T_in_30, T_in_63, T_in_255, T_in_65535, T_isIsland, T_isEight, bd_s, nm_s, bI_0, gd_n, gd_01, nI_cl, nI_add, nI_1, m4, Bool.false_eq_true, not_true_eq_false, not_false_eq_true, ↓reduceIte, hi, e12 ho, e12 hl, zwr_r, upd_r, Nat.reduceEqDiff, et, ew, bit_clr1 hw hp, bit_1 p hp, bit_or t ht _ (pow_lt8 hp)]
theorem wet_lt {w p : Nat} (hw : w < 256) : w &&& (255 - 2 ^ p) < 256 := Nat.lt_of_le_of_lt Nat.and_le_left hw
theorem s_place {n : Nat} {σ : zSt} (hn : n < 512) (hR : Rel n σ) (x1 x2 x3 x4 : Int32) : Both n (F_X11_place x1 x2 x3 x4) (F_X12_place x1 x2 x3 x4) σ := by
  obtain ⟨-, ⟨W, w0, w1, w2, w3⟩, -⟩ := id hR
  by_cases h1 : bel x1 8
  rotate_left
  · exact Both.no 0 hn hR (by simp (disch := omega) only [F_X11_place, F_X11_place_0, F_X11_place_27, F_X12_place, F_X12_place_0, F_X12_place_23, T_isBelow_2, T_isBelow_3, T_isBelow_4, T_isBelow_6, T_isBelow_8, T_isBelow_9, T_isBelow_10, T_isBelow_12, T_isBelow_16, T_isBelow_17, T_isBelow_31, T_isBelow_64, T_isBelow_256, T_isBelow_65536, T_in_1, T_in_2, T_in_3, T_in_4, T_in_5, T_in_8, T_in_11, T_in_16, T_in_30, T_in_63, T_in_255, T_in_65535, T_isIsland, T_isEight, bd_s, nm_s, bI_0, gd_n, gd_01, nI_cl, nI_add, nI_1, m4, Bool.false_eq_true, not_true_eq_false, not_false_eq_true, ↓reduceIte, h1]) (by simp (disch := omega) only [F_X11_place, F_X11_place_0, F_X11_place_27, F_X12_place, F_X12_place_0, F_X12_place_23, T_isBelow_2, T_isBelow_3, T_isBelow_4, T_isBelow_6, T_isBelow_8, T_isBelow_9, T_isBelow_10, T_isBelow_12, T_isBelow_16, T_isBelow_17, T_isBelow_31, T_isBelow_64, T_isBelow_256, T_isBelow_65536, T_in_1, T_in_2, T_in_3, T_in_4, T_in_5, T_in_8, T_in_11, T_in_16, T_in_30, T_in_63, T_in_255, T_in_65535, T_isIsland, T_isEight, bd_s, nm_s, bI_0, gd_n, gd_01, nI_cl, nI_add, nI_1, m4, Bool.false_eq_true, not_true_eq_false, not_false_eq_true, ↓reduceIte, h1])
  by_cases h2 : x4 = -1 ∨ bel x4 8
  rotate_left
  · have g1 : ¬ x4 = -1 := fun q => h2 (Or.inl q)
    have g2 : ¬ bel x4 8 := fun q => h2 (Or.inr q)
    exact Both.no 0 hn hR (by simp (disch := omega) only [F_X11_place, F_X11_place_0, F_X11_place_27, F_X12_place, F_X12_place_0, F_X12_place_23, T_isBelow_2, T_isBelow_3, T_isBelow_4, T_isBelow_6, T_isBelow_8, T_isBelow_9, T_isBelow_10, T_isBelow_12, T_isBelow_16, T_isBelow_17, T_isBelow_31, T_isBelow_64, T_isBelow_256, T_isBelow_65536, T_in_1, T_in_2, T_in_3, T_in_4, T_in_5, T_in_8, T_in_11, T_in_16, T_in_30, T_in_63, T_in_255, T_in_65535, T_isIsland, T_isEight, bd_s, nm_s, bI_0, gd_n, gd_01, nI_cl, nI_add, nI_1, m4, Bool.false_eq_true, not_true_eq_false, not_false_eq_true, ↓reduceIte, h1, g1, g2]) (by simp (disch := omega) only [F_X11_place, F_X11_place_0, F_X11_place_27, F_X12_place, F_X12_place_0, F_X12_place_23, T_isBelow_2, T_isBelow_3, T_isBelow_4, T_isBelow_6, T_isBelow_8, T_isBelow_9, T_isBelow_10, T_isBelow_12, T_isBelow_16, T_isBelow_17, T_isBelow_31, T_isBelow_64, T_isBelow_256, T_isBelow_65536, T_in_1, T_in_2, T_in_3, T_in_4, T_in_5, T_in_8, T_in_11, T_in_16, T_in_30, T_in_63, T_in_255, T_in_65535, T_isIsland, T_isEight, bd_s, nm_s, bI_0, gd_n, gd_01, nI_cl, nI_add, nI_1, m4, Bool.false_eq_true, not_true_eq_false, not_false_eq_true, ↓reduceIte, h1, g1, g2])
  have E1 : F_X11_place x1 x2 x3 x4 σ = F_X11_place_27 x1 x2 x3 x4 σ := by
    by_cases g : x4 = -1
    · simp (disch := omega) only [F_X11_place, F_X11_place_0, T_isBelow_2, T_isBelow_3, T_isBelow_4, T_isBelow_6, T_isBelow_8, T_isBelow_9, T_isBelow_10, T_isBelow_12, T_isBelow_16, T_isBelow_17, T_isBelow_31, T_isBelow_64, T_isBelow_256, T_isBelow_65536, T_in_1, T_in_2, T_in_3, T_in_4, T_in_5, T_in_8, T_in_11, T_in_16, T_in_30, T_in_63, T_in_255, T_in_65535, T_isIsland, T_isEight, bd_s, nm_s, bI_0, gd_n, gd_01, nI_cl, nI_add, nI_1, m4, Bool.false_eq_true, not_true_eq_false, not_false_eq_true, ↓reduceIte, h1, if_pos g]
    · have g2 := h2.resolve_left g
      simp (disch := omega) only [F_X11_place, F_X11_place_0, T_isBelow_2, T_isBelow_3, T_isBelow_4, T_isBelow_6, T_isBelow_8, T_isBelow_9, T_isBelow_10, T_isBelow_12, T_isBelow_16, T_isBelow_17, T_isBelow_31, T_isBelow_64, T_isBelow_256, T_isBelow_65536, T_in_1, T_in_2, T_in_3, T_in_4, T_in_5, T_in_8, T_in_11, T_in_16, T_in_30, T_in_63, T_in_255, T_in_65535, T_isIsland, T_isEight, bd_s, nm_s, bI_0, gd_n, gd_01, nI_cl, nI_add, nI_1, m4, Bool.false_eq_true, not_true_eq_false, not_false_eq_true, ↓reduceIte, h1, g, g2]
  have E2 : ∀ τ, F_X12_place x1 x2 x3 x4 τ = F_X12_place_23 x1 x2 x3 x4 τ := by
    intro τ
    by_cases g : x4 = -1
    · simp (disch := omega) only [F_X12_place, F_X12_place_0, T_isBelow_2, T_isBelow_3, T_isBelow_4, T_isBelow_6, T_isBelow_8, T_isBelow_9, T_isBelow_10, T_isBelow_12, T_isBelow_16, T_isBelow_17, T_isBelow_31, T_isBelow_64, T_isBelow_256, T_isBelow_65536, T_in_1, T_in_2, T_in_3, T_in_4, T_in_5, T_in_8, T_in_11, T_in_16, T_in_30, T_in_63, T_in_255, T_in_65535, T_isIsland, T_isEight, bd_s, nm_s, bI_0, gd_n, gd_01, nI_cl, nI_add, nI_1, m4, Bool.false_eq_true, not_true_eq_false, not_false_eq_true, ↓reduceIte, h1, if_pos g]
    · have g2 := h2.resolve_left g
      simp (disch := omega) only [F_X12_place, F_X12_place_0, T_isBelow_2, T_isBelow_3, T_isBelow_4, T_isBelow_6, T_isBelow_8, T_isBelow_9, T_isBelow_10, T_isBelow_12, T_isBelow_16, T_isBelow_17, T_isBelow_31, T_isBelow_64, T_isBelow_256, T_isBelow_65536, T_in_1, T_in_2, T_in_3, T_in_4, T_in_5, T_in_8, T_in_11, T_in_16, T_in_30, T_in_63, T_in_255, T_in_65535, T_isIsland, T_isEight, bd_s, nm_s, bI_0, gd_n, gd_01, nI_cl, nI_add, nI_1, m4, Bool.false_eq_true, not_true_eq_false, not_false_eq_true, ↓reduceIte, h1, g, g2]
  have T1 := @T_isTold W σ w0 w2 x3
  have T2 := @T_isPlace W σ w0 w3 x3
  have hc : (x3 = -1 ∧ bel x2 4) ∨ (¬ x3 = -1 ∧ isT W x3 ∧ x3 < x1) ∨ (¬ (x3 = -1 ∧ bel x2 4) ∧ ¬ (¬ x3 = -1 ∧ isT W x3 ∧ x3 < x1)) := by
    by_cases a : (x3 = -1 ∧ bel x2 4)
    · exact Or.inl a
    · by_cases b : (¬ x3 = -1 ∧ isT W x3 ∧ x3 < x1)
      · exact Or.inr (Or.inl b)
      · exact Or.inr (Or.inr ⟨a, b⟩)
  by_cases hx : ¬ (x3 = -1 ∧ bel x2 4) ∧ ¬ (¬ x3 = -1 ∧ isT W x3 ∧ x3 < x1)
  · by_cases g : x3 = -1
    · have g2 : ¬ bel x2 4 := fun q => hx.1 ⟨g, q⟩
      exact Both.no 0 hn hR (by rw [E1]; simp (disch := omega) only [F_X11_place_27, T_isBelow_2, T_isBelow_3, T_isBelow_4, T_isBelow_6, T_isBelow_8, T_isBelow_9, T_isBelow_10, T_isBelow_12, T_isBelow_16, T_isBelow_17, T_isBelow_31, T_isBelow_64, T_isBelow_256, T_isBelow_65536, T_in_1, T_in_2, T_in_3, T_in_4, T_in_5, T_in_8, T_in_11, T_in_16, T_in_30, T_in_63, T_in_255, T_in_65535, T_isIsland, T_isEight, bd_s, nm_s, bI_0, gd_n, gd_01, nI_cl, nI_add, nI_1, m4, Bool.false_eq_true, not_true_eq_false, not_false_eq_true, ↓reduceIte, if_pos g, g2]) (by rw [E2]; simp (disch := omega) only [F_X12_place_23, T_isBelow_2, T_isBelow_3, T_isBelow_4, T_isBelow_6, T_isBelow_8, T_isBelow_9, T_isBelow_10, T_isBelow_12, T_isBelow_16, T_isBelow_17, T_isBelow_31, T_isBelow_64, T_isBelow_256, T_isBelow_65536, T_in_1, T_in_2, T_in_3, T_in_4, T_in_5, T_in_8, T_in_11, T_in_16, T_in_30, T_in_63, T_in_255, T_in_65535, T_isIsland, T_isEight, bd_s, nm_s, bI_0, gd_n, gd_01, nI_cl, nI_add, nI_1, m4, Bool.false_eq_true, not_true_eq_false, not_false_eq_true, ↓reduceIte, if_pos g, g2])
    · by_cases g2 : isT W x3
      · have g3 : ¬ x3 < x1 := fun q => hx.2 ⟨g, g2, q⟩
        exact Both.no 0 hn hR (by rw [E1]; simp (disch := omega) only [F_X11_place_27, T_isBelow_2, T_isBelow_3, T_isBelow_4, T_isBelow_6, T_isBelow_8, T_isBelow_9, T_isBelow_10, T_isBelow_12, T_isBelow_16, T_isBelow_17, T_isBelow_31, T_isBelow_64, T_isBelow_256, T_isBelow_65536, T_in_1, T_in_2, T_in_3, T_in_4, T_in_5, T_in_8, T_in_11, T_in_16, T_in_30, T_in_63, T_in_255, T_in_65535, T_isIsland, T_isEight, bd_s, nm_s, bI_0, gd_n, gd_01, nI_cl, nI_add, nI_1, m4, Bool.false_eq_true, not_true_eq_false, not_false_eq_true, ↓reduceIte, g, g2, g3, T1]) (by rw [E2]; simp (disch := omega) only [F_X12_place_23, T_isBelow_2, T_isBelow_3, T_isBelow_4, T_isBelow_6, T_isBelow_8, T_isBelow_9, T_isBelow_10, T_isBelow_12, T_isBelow_16, T_isBelow_17, T_isBelow_31, T_isBelow_64, T_isBelow_256, T_isBelow_65536, T_in_1, T_in_2, T_in_3, T_in_4, T_in_5, T_in_8, T_in_11, T_in_16, T_in_30, T_in_63, T_in_255, T_in_65535, T_isIsland, T_isEight, bd_s, nm_s, bI_0, gd_n, gd_01, nI_cl, nI_add, nI_1, m4, Bool.false_eq_true, not_true_eq_false, not_false_eq_true, ↓reduceIte, g, g2, g3, T2])
      · exact Both.no 0 hn hR (by rw [E1]; simp (disch := omega) only [F_X11_place_27, T_isBelow_2, T_isBelow_3, T_isBelow_4, T_isBelow_6, T_isBelow_8, T_isBelow_9, T_isBelow_10, T_isBelow_12, T_isBelow_16, T_isBelow_17, T_isBelow_31, T_isBelow_64, T_isBelow_256, T_isBelow_65536, T_in_1, T_in_2, T_in_3, T_in_4, T_in_5, T_in_8, T_in_11, T_in_16, T_in_30, T_in_63, T_in_255, T_in_65535, T_isIsland, T_isEight, bd_s, nm_s, bI_0, gd_n, gd_01, nI_cl, nI_add, nI_1, m4, Bool.false_eq_true, not_true_eq_false, not_false_eq_true, ↓reduceIte, g, g2, T1]) (by rw [E2]; simp (disch := omega) only [F_X12_place_23, T_isBelow_2, T_isBelow_3, T_isBelow_4, T_isBelow_6, T_isBelow_8, T_isBelow_9, T_isBelow_10, T_isBelow_12, T_isBelow_16, T_isBelow_17, T_isBelow_31, T_isBelow_64, T_isBelow_256, T_isBelow_65536, T_in_1, T_in_2, T_in_3, T_in_4, T_in_5, T_in_8, T_in_11, T_in_16, T_in_30, T_in_63, T_in_255, T_in_65535, T_isIsland, T_isEight, bd_s, nm_s, bI_0, gd_n, gd_01, nI_cl, nI_add, nI_1, m4, Bool.false_eq_true, not_true_eq_false, not_false_eq_true, ↓reduceIte, g, g2, T2])
  obtain ⟨p, hp, rfl⟩ := bel_of h1
  obtain ⟨l, rfl, hl⟩ := e1_of h2
  have ht := w0.told
  have hw := w0.wet
  have key : ∃ (o : Option Nat) (i : Nat), x3 = e1 o ∧ (∀ k, o = some k → k < p ∧ wIs W k = true) ∧ i < 4 ∧ (if e1 o = -1 then x2 else (0 : Int32)) = nI i ∧ F_X11_place_27 (nI p) x2 x3 (e1 l) σ = F_X11_place_61 (nI p) x2 x3 (e1 l) σ ∧ ∀ τ, EM 70 0 W τ → F_X12_place_23 (nI p) x2 x3 (e1 l) τ = F_X12_place_53 (nI p) x2 x3 (e1 l) τ := by
    by_cases g : x3 = -1
    · have g2 : bel x2 4 := by
        refine Classical.byContradiction (fun q => hx ⟨fun r => q r.2, fun r => r.1 g⟩)
      obtain ⟨i, hi, rfl⟩ := bel_of g2
      subst g
      refine ⟨none, i, rfl, fun k q => (by cases q), hi, rfl, ?_, fun τ _ => ?_⟩
      · simp (disch := omega) only [F_X11_place_27, T_isBelow_2, T_isBelow_3, T_isBelow_4, T_isBelow_6, T_isBelow_8, T_isBelow_9, T_isBelow_10, T_isBelow_12, T_isBelow_16, T_isBelow_17, T_isBelow_31, T_isBelow_64, T_isBelow_256, T_isBelow_65536, T_in_1, T_in_2, T_in_3, T_in_4, T_in_5, T_in_8, T_in_11, T_in_16, T_in_30, T_in_63, T_in_255, T_in_65535, T_isIsland, T_isEight, bd_s, nm_s, bI_0, gd_n, gd_01, nI_cl, nI_add, nI_1, m4, Bool.false_eq_true, not_true_eq_false, not_false_eq_true, ↓reduceIte, g2]
      · simp (disch := omega) only [F_X12_place_23, T_isBelow_2, T_isBelow_3, T_isBelow_4, T_isBelow_6, T_isBelow_8, T_isBelow_9, T_isBelow_10, T_isBelow_12, T_isBelow_16, T_isBelow_17, T_isBelow_31, T_isBelow_64, T_isBelow_256, T_isBelow_65536, T_in_1, T_in_2, T_in_3, T_in_4, T_in_5, T_in_8, T_in_11, T_in_16, T_in_30, T_in_63, T_in_255, T_in_65535, T_isIsland, T_isEight, bd_s, nm_s, bI_0, gd_n, gd_01, nI_cl, nI_add, nI_1, m4, Bool.false_eq_true, not_true_eq_false, not_false_eq_true, ↓reduceIte, g2]
    · have g2 : isT W x3 ∧ x3 < nI p := by
        refine Classical.byContradiction (fun q => hx ⟨fun r => g r.1, fun r => q r.2⟩)
      obtain ⟨g3, g4⟩ := g2
      obtain ⟨q, hq, hq2, rfl⟩ := isT_of g3
      have g5 : q < p := (nI_ltI (by omega) (by omega)).mp g4
      refine ⟨some q, 0, rfl, fun k r => (by cases r; exact ⟨g5, hq2⟩), by decide, if_neg (show ¬ e1 (some q) = -1 from g), ?_, fun τ hτ => ?_⟩
      · simp (disch := omega) only [F_X11_place_27, T_isBelow_2, T_isBelow_3, T_isBelow_4, T_isBelow_6, T_isBelow_8, T_isBelow_9, T_isBelow_10, T_isBelow_12, T_isBelow_16, T_isBelow_17, T_isBelow_31, T_isBelow_64, T_isBelow_256, T_isBelow_65536, T_in_1, T_in_2, T_in_3, T_in_4, T_in_5, T_in_8, T_in_11, T_in_16, T_in_30, T_in_63, T_in_255, T_in_65535, T_isIsland, T_isEight, bd_s, nm_s, bI_0, gd_n, gd_01, nI_cl, nI_add, nI_1, m4, Bool.false_eq_true, not_true_eq_false, not_false_eq_true, ↓reduceIte, g, g3, g4, T1]
      · have T2 := @T_isPlace W τ w0 hτ (nI q)
        simp (disch := omega) only [F_X12_place_23, T_isBelow_2, T_isBelow_3, T_isBelow_4, T_isBelow_6, T_isBelow_8, T_isBelow_9, T_isBelow_10, T_isBelow_12, T_isBelow_16, T_isBelow_17, T_isBelow_31, T_isBelow_64, T_isBelow_256, T_isBelow_65536, T_in_1, T_in_2, T_in_3, T_in_4, T_in_5, T_in_8, T_in_11, T_in_16, T_in_30, T_in_63, T_in_255, T_in_65535, T_isIsland, T_isEight, bd_s, nm_s, bI_0, gd_n, gd_01, nI_cl, nI_add, nI_1, m4, Bool.false_eq_true, not_true_eq_false, not_false_eq_true, ↓reduceIte, g, g3, g4, T2]
  obtain ⟨o, i, rfl, ho, hi4, hi, K1, K2⟩ := key
  have eT : σ.1 1 6 = nI (wTol W) := w2.2.2.2.2.2.2.1
  have eWt : σ.1 1 7 = nI (wWet W) := w2.2.2.2.2.2.2.2.1
  have mT : σ.1 69 0 = nI (wTol W) := w3.2.2.2.2.2.2.1
  have mWt : σ.1 69 1 = nI (wWet W) := w3.2.2.2.2.2.2.2.1
  have ho16 : ∀ k, o = some k → k < 16 := fun k q => by have := (ho k q).1; omega
  have hl16 : ∀ k, l = some k → k < 16 := fun k q => by have := hl k q; omega
  refine Both.mk (E1.trans (K1.trans (t_place61 hp ht hw eT eWt hi))) ((E2 _).trans ((K2 _ (EM_on ((((((eqOn_wr (by decide)).tr (eqOn_wr (by decide))).tr (eqOn_wrR (by decide))).tr (eqOn_wrR (by decide))).tr (eqOn_wrR (by decide))).tr (eqOn_wrR (by decide))) w3)).trans (t_place53 hp ht hw mT mWt hi ho16 hl16))) ?_
  have told' : ∀ k, wIs W k = true → (decide (k < 8) && (wTol W ||| 2 ^ p).testBit k) = true := by
    intro k hk
    have h8 := wIs_lt hk
    rw [wIs_bit h8] at hk
    rw [Nat.testBit_or, hk]
    simp [h8]
  refine Rel_W hn hR ((((((((((((eqOn_wr (by decide)).tr (eqOn_wr (by decide))).tr (eqOn_wrR (by decide))).tr (eqOn_wrR (by decide))).tr (eqOn_wrR (by decide))).tr (eqOn_wrR (by decide))).tr (eqOn_wr (by decide))).tr (eqOn_wr (by decide))).tr (eqOn_wrR (by decide))).tr (eqOn_wrR (by decide))).tr (eqOn_wrR (by decide))).tr (eqOn_wrR (by decide))) ⟨((wWay W, fset (wIsl W) p i), (fset (wWin W) p o, fset (wLok W) p l, fset (wFli W) p none, wKey W), (wTol W ||| 2 ^ p, wWet W &&& (255 - 2 ^ p), wHea W), W.2.2.2), ?_, Nat.le_succ_of_le w1, ?_, ?_⟩
  · obtain ⟨v1, v2, v3, v4, v5, v6, v7, v8, v9, v10⟩ := w0
    refine ⟨v1, v2, fun j hj => ?_, fun j k hj hk => ?_, fun j k hj hk => ?_, fun j k hj hk => ?_, fun j k hj hk => ?_, or_lt v8 (pow_lt8 hp), wet_lt v9, v10⟩
    · show fset (wIsl W) p i j < 4
      unfold fset
      split
      · exact hi4
      · exact v3 j hj
    · replace hk : fset (wWin W) p o j = some k := hk
      by_cases q : j = p
      · rw [q, fset_s] at hk
        rw [q]
        exact ⟨(ho k hk).1, told' k (ho k hk).2⟩
      · rw [fset_n q] at hk
        exact ⟨(v4 j k hj hk).1, told' k (v4 j k hj hk).2⟩
    · replace hk : fset (wLok W) p l j = some k := hk
      by_cases q : j = p
      · rw [q, fset_s] at hk
        exact hl k hk
      · rw [fset_n q] at hk
        exact v5 j k hj hk
    · replace hk : fset (wFli W) p none j = some k := hk
      by_cases q : j = p
      · rw [q, fset_s] at hk
        cases hk
      · rw [fset_n q] at hk
        exact ⟨(v6 j k hj hk).1, told' k (v6 j k hj hk).2⟩
    · exact (v7 j k hj hk).imp (told' k) id
  · obtain ⟨c1, c2, c3, c4, c5, c6, c7, c8, c9⟩ := w2
    exact ⟨c1, fun j hj => upd_map (c2 j hj), fun j hj => upd_map (c3 j hj), fun j hj => upd_map (c4 j hj), fun j hj => upd_map (e := e1) (v := none) (c5 j hj), c6, rfl, rfl, c9⟩
  · obtain ⟨c1, c2, c3, c4, c5, c6, c7, c8, c9⟩ := w3
    exact ⟨c1, fun j hj => upd_map (c2 j hj), fun j hj => upd_map (c3 j hj), fun j hj => upd_map (c4 j hj), fun j hj => upd_map (e := e2) (v := none) (c5 j hj), c6, rfl, rfl, c9⟩
theorem t_wet {w p : Nat} (x2 : Int32) (hw : w < 256) (hp : p < 8) : ∃ v, v < 256 ∧ (if x2 = 0 then (nI w &&& (((1 : Int32) <<< (nI p &&& 31)) ^^^ (-1 : Int32))) else (nI w ||| ((1 : Int32) <<< (nI p &&& 31)))) = nI v := by
  by_cases h : x2 = 0
  · exact ⟨_, wet_lt hw, by rw [if_pos h, bit_clr w hw p hp]⟩
  · exact ⟨w ||| 2 ^ p, or_lt hw (pow_lt8 hp), by rw [if_neg h, bit_1 p hp, bit_or w hw _ (pow_lt8 hp)]⟩
theorem s_more {n : Nat} {σ : zSt} (hn : n < 512) (hR : Rel n σ) (x1 x2 x3 : Int32) : Both n (F_X11_more x1 x2 x3) (F_X12_more x1 x2 x3) σ := by
  obtain ⟨-, ⟨W, w0, w1, w2, w3⟩, -⟩ := id hR
  have T1 := fun x => @T_isTold W σ w0 w2 x
  have T2 := fun x => @T_isPlace W σ w0 w3 x
  by_cases h1 : isT W x1
  rotate_left
  · exact Both.no 0 hn hR (by simp (disch := omega) only [F_X11_more, F_X11_more_0, F_X12_more, F_X12_more_0, T_isBelow_2, T_isBelow_3, T_isBelow_4, T_isBelow_6, T_isBelow_8, T_isBelow_9, T_isBelow_10, T_isBelow_12, T_isBelow_16, T_isBelow_17, T_isBelow_31, T_isBelow_64, T_isBelow_256, T_isBelow_65536, T_in_1, T_in_2, T_in_3, T_in_4, T_in_5, T_in_8, T_in_11, T_in_16, T_in_30, T_in_63, T_in_255, T_in_65535, T_isIsland, T_isEight, bd_s, nm_s, bI_0, gd_n, gd_01, nI_cl, nI_add, nI_1, m4, Bool.false_eq_true, not_true_eq_false, not_false_eq_true, ↓reduceIte, h1, T1, T2]) (by simp (disch := omega) only [F_X11_more, F_X11_more_0, F_X12_more, F_X12_more_0, T_isBelow_2, T_isBelow_3, T_isBelow_4, T_isBelow_6, T_isBelow_8, T_isBelow_9, T_isBelow_10, T_isBelow_12, T_isBelow_16, T_isBelow_17, T_isBelow_31, T_isBelow_64, T_isBelow_256, T_isBelow_65536, T_in_1, T_in_2, T_in_3, T_in_4, T_in_5, T_in_8, T_in_11, T_in_16, T_in_30, T_in_63, T_in_255, T_in_65535, T_isIsland, T_isEight, bd_s, nm_s, bI_0, gd_n, gd_01, nI_cl, nI_add, nI_1, m4, Bool.false_eq_true, not_true_eq_false, not_false_eq_true, ↓reduceIte, h1, T1, T2])
  by_cases hx : x3 = -1 ∨ (isT W x3 ∧ x1 < x3)
  rotate_left
  · have g1 : ¬ x3 = -1 := fun q => hx (Or.inl q)
    by_cases g2 : isT W x3
    · have g3 : ¬ x1 < x3 := fun q => hx (Or.inr ⟨g2, q⟩)
      exact Both.no 0 hn hR (by simp (disch := omega) only [F_X11_more, F_X11_more_0, F_X12_more, F_X12_more_0, T_isBelow_2, T_isBelow_3, T_isBelow_4, T_isBelow_6, T_isBelow_8, T_isBelow_9, T_isBelow_10, T_isBelow_12, T_isBelow_16, T_isBelow_17, T_isBelow_31, T_isBelow_64, T_isBelow_256, T_isBelow_65536, T_in_1, T_in_2, T_in_3, T_in_4, T_in_5, T_in_8, T_in_11, T_in_16, T_in_30, T_in_63, T_in_255, T_in_65535, T_isIsland, T_isEight, bd_s, nm_s, bI_0, gd_n, gd_01, nI_cl, nI_add, nI_1, m4, Bool.false_eq_true, not_true_eq_false, not_false_eq_true, ↓reduceIte, h1, g1, g2, g3, T1, T2]) (by simp (disch := omega) only [F_X11_more, F_X11_more_0, F_X12_more, F_X12_more_0, T_isBelow_2, T_isBelow_3, T_isBelow_4, T_isBelow_6, T_isBelow_8, T_isBelow_9, T_isBelow_10, T_isBelow_12, T_isBelow_16, T_isBelow_17, T_isBelow_31, T_isBelow_64, T_isBelow_256, T_isBelow_65536, T_in_1, T_in_2, T_in_3, T_in_4, T_in_5, T_in_8, T_in_11, T_in_16, T_in_30, T_in_63, T_in_255, T_in_65535, T_isIsland, T_isEight, bd_s, nm_s, bI_0, gd_n, gd_01, nI_cl, nI_add, nI_1, m4, Bool.false_eq_true, not_true_eq_false, not_false_eq_true, ↓reduceIte, h1, g1, g2, g3, T1, T2])
    · exact Both.no 0 hn hR (by simp (disch := omega) only [F_X11_more, F_X11_more_0, F_X12_more, F_X12_more_0, T_isBelow_2, T_isBelow_3, T_isBelow_4, T_isBelow_6, T_isBelow_8, T_isBelow_9, T_isBelow_10, T_isBelow_12, T_isBelow_16, T_isBelow_17, T_isBelow_31, T_isBelow_64, T_isBelow_256, T_isBelow_65536, T_in_1, T_in_2, T_in_3, T_in_4, T_in_5, T_in_8, T_in_11, T_in_16, T_in_30, T_in_63, T_in_255, T_in_65535, T_isIsland, T_isEight, bd_s, nm_s, bI_0, gd_n, gd_01, nI_cl, nI_add, nI_1, m4, Bool.false_eq_true, not_true_eq_false, not_false_eq_true, ↓reduceIte, h1, g1, g2, T1, T2]) (by simp (disch := omega) only [F_X11_more, F_X11_more_0, F_X12_more, F_X12_more_0, T_isBelow_2, T_isBelow_3, T_isBelow_4, T_isBelow_6, T_isBelow_8, T_isBelow_9, T_isBelow_10, T_isBelow_12, T_isBelow_16, T_isBelow_17, T_isBelow_31, T_isBelow_64, T_isBelow_256, T_isBelow_65536, T_in_1, T_in_2, T_in_3, T_in_4, T_in_5, T_in_8, T_in_11, T_in_16, T_in_30, T_in_63, T_in_255, T_in_65535, T_isIsland, T_isEight, bd_s, nm_s, bI_0, gd_n, gd_01, nI_cl, nI_add, nI_1, m4, Bool.false_eq_true, not_true_eq_false, not_false_eq_true, ↓reduceIte, h1, g1, g2, T1, T2])
  have E1 : F_X11_more x1 x2 x3 σ = F_X11_more_34 x1 x2 x3 σ := by
    by_cases g : x3 = -1
    · simp (disch := omega) only [F_X11_more, F_X11_more_0, T_isBelow_2, T_isBelow_3, T_isBelow_4, T_isBelow_6, T_isBelow_8, T_isBelow_9, T_isBelow_10, T_isBelow_12, T_isBelow_16, T_isBelow_17, T_isBelow_31, T_isBelow_64, T_isBelow_256, T_isBelow_65536, T_in_1, T_in_2, T_in_3, T_in_4, T_in_5, T_in_8, T_in_11, T_in_16, T_in_30, T_in_63, T_in_255, T_in_65535, T_isIsland, T_isEight, bd_s, nm_s, bI_0, gd_n, gd_01, nI_cl, nI_add, nI_1, m4, Bool.false_eq_true, not_true_eq_false, not_false_eq_true, ↓reduceIte, h1, T1, if_pos g]
    · obtain ⟨g2, g3⟩ := hx.resolve_left g
      simp (disch := omega) only [F_X11_more, F_X11_more_0, T_isBelow_2, T_isBelow_3, T_isBelow_4, T_isBelow_6, T_isBelow_8, T_isBelow_9, T_isBelow_10, T_isBelow_12, T_isBelow_16, T_isBelow_17, T_isBelow_31, T_isBelow_64, T_isBelow_256, T_isBelow_65536, T_in_1, T_in_2, T_in_3, T_in_4, T_in_5, T_in_8, T_in_11, T_in_16, T_in_30, T_in_63, T_in_255, T_in_65535, T_isIsland, T_isEight, bd_s, nm_s, bI_0, gd_n, gd_01, nI_cl, nI_add, nI_1, m4, Bool.false_eq_true, not_true_eq_false, not_false_eq_true, ↓reduceIte, h1, T1, g, g2, g3]
  have E2 : ∀ τ, EM 70 0 W τ → F_X12_more x1 x2 x3 τ = F_X12_more_28 x1 x2 x3 τ := by
    intro τ hτ
    have T2 := fun x => @T_isPlace W τ w0 hτ x
    by_cases g : x3 = -1
    · simp (disch := omega) only [F_X12_more, F_X12_more_0, T_isBelow_2, T_isBelow_3, T_isBelow_4, T_isBelow_6, T_isBelow_8, T_isBelow_9, T_isBelow_10, T_isBelow_12, T_isBelow_16, T_isBelow_17, T_isBelow_31, T_isBelow_64, T_isBelow_256, T_isBelow_65536, T_in_1, T_in_2, T_in_3, T_in_4, T_in_5, T_in_8, T_in_11, T_in_16, T_in_30, T_in_63, T_in_255, T_in_65535, T_isIsland, T_isEight, bd_s, nm_s, bI_0, gd_n, gd_01, nI_cl, nI_add, nI_1, m4, Bool.false_eq_true, not_true_eq_false, not_false_eq_true, ↓reduceIte, h1, T2, if_pos g]
    · obtain ⟨g2, g3⟩ := hx.resolve_left g
      simp (disch := omega) only [F_X12_more, F_X12_more_0, T_isBelow_2, T_isBelow_3, T_isBelow_4, T_isBelow_6, T_isBelow_8, T_isBelow_9, T_isBelow_10, T_isBelow_12, T_isBelow_16, T_isBelow_17, T_isBelow_31, T_isBelow_64, T_isBelow_256, T_isBelow_65536, T_in_1, T_in_2, T_in_3, T_in_4, T_in_5, T_in_8, T_in_11, T_in_16, T_in_30, T_in_63, T_in_255, T_in_65535, T_isIsland, T_isEight, bd_s, nm_s, bI_0, gd_n, gd_01, nI_cl, nI_add, nI_1, m4, Bool.false_eq_true, not_true_eq_false, not_false_eq_true, ↓reduceIte, h1, T2, g, g2, g3]
  obtain ⟨p, hp, hp2, rfl⟩ := isT_of h1
  have key : ∃ o : Option Nat, x3 = e1 o ∧ ∀ k, o = some k → p < k ∧ wIs W k = true := by
    rcases hx with rfl | ⟨g2, g3⟩
    · exact ⟨none, rfl, fun k q => (by cases q)⟩
    · obtain ⟨q, hq, hq2, rfl⟩ := isT_of g2
      exact ⟨some q, rfl, fun k r => (by cases r; exact ⟨(nI_ltI (by omega) (by omega)).mp g3, hq2⟩)⟩
  obtain ⟨o, rfl, ho⟩ := key
  have ho16 : ∀ k, o = some k → k < 16 := fun k q => by have := wIs_lt (ho k q).2; omega
  obtain ⟨v, hv, ev⟩ := t_wet (p := p) x2 w0.wet hp
  have eWt : σ.1 1 7 = nI (wWet W) := w2.2.2.2.2.2.2.2.1
  have mWt : σ.1 69 1 = nI (wWet W) := w3.2.2.2.2.2.2.2.1
  apply Both.mk (r := 1) (σ1 := zwr (zwr σ 1 7 (nI v)) 6 p (e1 o)) (σ2 := zwr (zwr (zwr (zwr σ 1 7 (nI v)) 6 p (e1 o)) 69 1 (nI v)) 74 p (e2 o))
  · rw [E1]
    simp (disch := omega) only [F_X11_more_34, T_isBelow_2, T_isBelow_3, T_isBelow_4, T_isBelow_6, T_isBelow_8, T_isBelow_9, T_isBelow_10, T_isBelow_12, T_isBelow_16, T_isBelow_17, T_isBelow_31, T_isBelow_64, T_isBelow_256, T_isBelow_65536, T_in_1, T_in_2, T_in_3, T_in_4, T_in_5, T_in_8, T_in_11, T_in_16, T_in_30, T_in_63, T_in_255, T_in_65535, T_isIsland, T_isEight, bd_s, nm_s, bI_0, gd_n, gd_01, nI_cl, nI_add, nI_1, m4, Bool.false_eq_true, not_true_eq_false, not_false_eq_true, ↓reduceIte, eWt, ev]
  · rw [E2 _ (EM_on ((eqOn_wr (by decide)).tr (eqOn_wrR (by decide))) w3)]
    simp (disch := omega) only [F_X12_more_28, T_isBelow_2, T_isBelow_3, T_isBelow_4, T_isBelow_6, T_isBelow_8, T_isBelow_9, T_isBelow_10, T_isBelow_12, T_isBelow_16, T_isBelow_17, T_isBelow_31, T_isBelow_64, T_isBelow_256, T_isBelow_65536, T_in_1, T_in_2, T_in_3, T_in_4, T_in_5, T_in_8, T_in_11, T_in_16, T_in_30, T_in_63, T_in_255, T_in_65535, T_isIsland, T_isEight, bd_s, nm_s, bI_0, gd_n, gd_01, nI_cl, nI_add, nI_1, m4, Bool.false_eq_true, not_true_eq_false, not_false_eq_true, ↓reduceIte, zwr_r, Nat.reduceEqDiff, mWt, ev, e12 ho16]
  refine Rel_W hn hR ((((eqOn_wr (by decide)).tr (eqOn_wrR (by decide))).tr (eqOn_wr (by decide))).tr (eqOn_wrR (by decide))) ⟨(W.1, (wWin W, wLok W, fset (wFli W) p o, wKey W), (wTol W, v, wHea W), W.2.2.2), ?_, Nat.le_succ_of_le w1, ?_, ?_⟩
  · obtain ⟨v1, v2, v3, v4, v5, v6, v7, v8, v9, v10⟩ := w0
    refine ⟨v1, v2, v3, v4, v5, fun j k hj hk => ?_, v7, v8, hv, v10⟩
    replace hk : fset (wFli W) p o j = some k := hk
    by_cases q : j = p
    · rw [q, fset_s] at hk
      rw [q]
      exact ho k hk
    · rw [fset_n q] at hk
      exact v6 j k hj hk
  · obtain ⟨c1, c2, c3, c4, c5, c6, c7, c8, c9⟩ := w2
    exact ⟨c1, c2, c3, c4, fun j hj => upd_map (c5 j hj), c6, c7, rfl, c9⟩
  · obtain ⟨c1, c2, c3, c4, c5, c6, c7, c8, c9⟩ := w3
    exact ⟨c1, c2, c3, c4, fun j hj => upd_map (c5 j hj), c6, c7, rfl, c9⟩
theorem beast_i {x : Int32} : (if x < (8 : Int32) then (0 : Int32) else (if (11 : Int32) ≤ x then (0 : Int32) else (1 : Int32))) = bI (8 ≤ x.toInt ∧ x.toInt ≤ 10) := by
  have a : (8 : Int32).toInt = 8 := rfl
  have b : (11 : Int32).toInt = 11 := rfl
  simp only [i_lt, i_le, a, b]
  by_cases h1 : x.toInt < 8
  · rw [if_pos h1, bI_f (by omega)]
  · by_cases h2 : 11 ≤ x.toInt
    · rw [if_neg h1, if_pos h2, bI_f (by omega)]
    · rw [if_neg h1, if_neg h2, bI_t (by omega)]
theorem T_in_b {x : Int32} {σ : zSt} : F_X12_in x 8 10 σ = some (bI (8 ≤ x.toInt ∧ x.toInt ≤ 10), σ) := T_in
theorem s_key {n : Nat} {σ : zSt} (hn : n < 512) (hR : Rel n σ) (x1 x2 : Int32) : Both n (F_X11_key x1 x2) (F_X12_key x1 x2) σ := by
  obtain ⟨-, ⟨W, w0, w1, w2, w3⟩, -⟩ := id hR
  have T1 := fun x => @T_isTold W σ w0 w2 x
  have T2 := fun x => @T_isPlace W σ w0 w3 x
  by_cases h1 : bel x1 8
  rotate_left
  · exact Both.no 0 hn hR (by simp (disch := omega) only [F_X11_key, F_X11_key_0, F_X12_key, F_X12_key_0, T_isBelow_2, T_isBelow_3, T_isBelow_4, T_isBelow_6, T_isBelow_8, T_isBelow_9, T_isBelow_10, T_isBelow_12, T_isBelow_16, T_isBelow_17, T_isBelow_31, T_isBelow_64, T_isBelow_256, T_isBelow_65536, T_in_1, T_in_2, T_in_3, T_in_4, T_in_5, T_in_8, T_in_11, T_in_16, T_in_30, T_in_63, T_in_255, T_in_65535, T_isIsland, T_isEight, bd_s, nm_s, bI_0, gd_n, gd_01, nI_cl, nI_add, nI_1, m4, Bool.false_eq_true, not_true_eq_false, not_false_eq_true, ↓reduceIte, h1, T1, T2, beast_i, T_in_b]) (by simp (disch := omega) only [F_X11_key, F_X11_key_0, F_X12_key, F_X12_key_0, T_isBelow_2, T_isBelow_3, T_isBelow_4, T_isBelow_6, T_isBelow_8, T_isBelow_9, T_isBelow_10, T_isBelow_12, T_isBelow_16, T_isBelow_17, T_isBelow_31, T_isBelow_64, T_isBelow_256, T_isBelow_65536, T_in_1, T_in_2, T_in_3, T_in_4, T_in_5, T_in_8, T_in_11, T_in_16, T_in_30, T_in_63, T_in_255, T_in_65535, T_isIsland, T_isEight, bd_s, nm_s, bI_0, gd_n, gd_01, nI_cl, nI_add, nI_1, m4, Bool.false_eq_true, not_true_eq_false, not_false_eq_true, ↓reduceIte, h1, T1, T2, beast_i, T_in_b])
  by_cases hx : x2 = -1 ∨ (8 ≤ x2.toInt ∧ x2.toInt ≤ 10) ∨ isT W x2
  rotate_left
  · have g1 : ¬ x2 = -1 := fun q => hx (Or.inl q)
    have g2 : ¬ (8 ≤ x2.toInt ∧ x2.toInt ≤ 10) := fun q => hx (Or.inr (Or.inl q))
    have g3 : ¬ isT W x2 := fun q => hx (Or.inr (Or.inr q))
    exact Both.no 0 hn hR (by simp (disch := omega) only [F_X11_key, F_X11_key_0, F_X12_key, F_X12_key_0, T_isBelow_2, T_isBelow_3, T_isBelow_4, T_isBelow_6, T_isBelow_8, T_isBelow_9, T_isBelow_10, T_isBelow_12, T_isBelow_16, T_isBelow_17, T_isBelow_31, T_isBelow_64, T_isBelow_256, T_isBelow_65536, T_in_1, T_in_2, T_in_3, T_in_4, T_in_5, T_in_8, T_in_11, T_in_16, T_in_30, T_in_63, T_in_255, T_in_65535, T_isIsland, T_isEight, bd_s, nm_s, bI_0, gd_n, gd_01, nI_cl, nI_add, nI_1, m4, Bool.false_eq_true, not_true_eq_false, not_false_eq_true, ↓reduceIte, h1, T1, T2, beast_i, T_in_b, g1, g2, g3]) (by simp (disch := omega) only [F_X11_key, F_X11_key_0, F_X12_key, F_X12_key_0, T_isBelow_2, T_isBelow_3, T_isBelow_4, T_isBelow_6, T_isBelow_8, T_isBelow_9, T_isBelow_10, T_isBelow_12, T_isBelow_16, T_isBelow_17, T_isBelow_31, T_isBelow_64, T_isBelow_256, T_isBelow_65536, T_in_1, T_in_2, T_in_3, T_in_4, T_in_5, T_in_8, T_in_11, T_in_16, T_in_30, T_in_63, T_in_255, T_in_65535, T_isIsland, T_isEight, bd_s, nm_s, bI_0, gd_n, gd_01, nI_cl, nI_add, nI_1, m4, Bool.false_eq_true, not_true_eq_false, not_false_eq_true, ↓reduceIte, h1, T1, T2, beast_i, T_in_b, g1, g2, g3])
  have E1 : F_X11_key x1 x2 σ = F_X11_key_49 x1 x2 σ := by
    by_cases g : x2 = -1
    · simp (disch := omega) only [F_X11_key, F_X11_key_0, T_isBelow_2, T_isBelow_3, T_isBelow_4, T_isBelow_6, T_isBelow_8, T_isBelow_9, T_isBelow_10, T_isBelow_12, T_isBelow_16, T_isBelow_17, T_isBelow_31, T_isBelow_64, T_isBelow_256, T_isBelow_65536, T_in_1, T_in_2, T_in_3, T_in_4, T_in_5, T_in_8, T_in_11, T_in_16, T_in_30, T_in_63, T_in_255, T_in_65535, T_isIsland, T_isEight, bd_s, nm_s, bI_0, gd_n, gd_01, nI_cl, nI_add, nI_1, m4, Bool.false_eq_true, not_true_eq_false, not_false_eq_true, ↓reduceIte, h1, T1, beast_i, if_pos g]
    · by_cases g2 : 8 ≤ x2.toInt ∧ x2.toInt ≤ 10
      · simp (disch := omega) only [F_X11_key, F_X11_key_0, T_isBelow_2, T_isBelow_3, T_isBelow_4, T_isBelow_6, T_isBelow_8, T_isBelow_9, T_isBelow_10, T_isBelow_12, T_isBelow_16, T_isBelow_17, T_isBelow_31, T_isBelow_64, T_isBelow_256, T_isBelow_65536, T_in_1, T_in_2, T_in_3, T_in_4, T_in_5, T_in_8, T_in_11, T_in_16, T_in_30, T_in_63, T_in_255, T_in_65535, T_isIsland, T_isEight, bd_s, nm_s, bI_0, gd_n, gd_01, nI_cl, nI_add, nI_1, m4, Bool.false_eq_true, not_true_eq_false, not_false_eq_true, ↓reduceIte, h1, T1, beast_i, g, g2]
      · have g3 := (hx.resolve_left g).resolve_left g2
        simp (disch := omega) only [F_X11_key, F_X11_key_0, T_isBelow_2, T_isBelow_3, T_isBelow_4, T_isBelow_6, T_isBelow_8, T_isBelow_9, T_isBelow_10, T_isBelow_12, T_isBelow_16, T_isBelow_17, T_isBelow_31, T_isBelow_64, T_isBelow_256, T_isBelow_65536, T_in_1, T_in_2, T_in_3, T_in_4, T_in_5, T_in_8, T_in_11, T_in_16, T_in_30, T_in_63, T_in_255, T_in_65535, T_isIsland, T_isEight, bd_s, nm_s, bI_0, gd_n, gd_01, nI_cl, nI_add, nI_1, m4, Bool.false_eq_true, not_true_eq_false, not_false_eq_true, ↓reduceIte, h1, T1, beast_i, g, g2, g3]
  have E2 : ∀ τ, EM 70 0 W τ → F_X12_key x1 x2 τ = F_X12_key_33 x1 x2 τ := by
    intro τ hτ
    have T2 := fun x => @T_isPlace W τ w0 hτ x
    by_cases g : x2 = -1
    · simp (disch := omega) only [F_X12_key, F_X12_key_0, T_isBelow_2, T_isBelow_3, T_isBelow_4, T_isBelow_6, T_isBelow_8, T_isBelow_9, T_isBelow_10, T_isBelow_12, T_isBelow_16, T_isBelow_17, T_isBelow_31, T_isBelow_64, T_isBelow_256, T_isBelow_65536, T_in_1, T_in_2, T_in_3, T_in_4, T_in_5, T_in_8, T_in_11, T_in_16, T_in_30, T_in_63, T_in_255, T_in_65535, T_isIsland, T_isEight, bd_s, nm_s, bI_0, gd_n, gd_01, nI_cl, nI_add, nI_1, m4, Bool.false_eq_true, not_true_eq_false, not_false_eq_true, ↓reduceIte, h1, T2, T_in_b, if_pos g]
    · by_cases g3 : isT W x2
      · simp (disch := omega) only [F_X12_key, F_X12_key_0, T_isBelow_2, T_isBelow_3, T_isBelow_4, T_isBelow_6, T_isBelow_8, T_isBelow_9, T_isBelow_10, T_isBelow_12, T_isBelow_16, T_isBelow_17, T_isBelow_31, T_isBelow_64, T_isBelow_256, T_isBelow_65536, T_in_1, T_in_2, T_in_3, T_in_4, T_in_5, T_in_8, T_in_11, T_in_16, T_in_30, T_in_63, T_in_255, T_in_65535, T_isIsland, T_isEight, bd_s, nm_s, bI_0, gd_n, gd_01, nI_cl, nI_add, nI_1, m4, Bool.false_eq_true, not_true_eq_false, not_false_eq_true, ↓reduceIte, h1, T2, T_in_b, g, g3]
      · have g2 := (hx.resolve_left g).resolve_right g3
        simp (disch := omega) only [F_X12_key, F_X12_key_0, T_isBelow_2, T_isBelow_3, T_isBelow_4, T_isBelow_6, T_isBelow_8, T_isBelow_9, T_isBelow_10, T_isBelow_12, T_isBelow_16, T_isBelow_17, T_isBelow_31, T_isBelow_64, T_isBelow_256, T_isBelow_65536, T_in_1, T_in_2, T_in_3, T_in_4, T_in_5, T_in_8, T_in_11, T_in_16, T_in_30, T_in_63, T_in_255, T_in_65535, T_isIsland, T_isEight, bd_s, nm_s, bI_0, gd_n, gd_01, nI_cl, nI_add, nI_1, m4, Bool.false_eq_true, not_true_eq_false, not_false_eq_true, ↓reduceIte, h1, T2, T_in_b, g, g2, g3]
  obtain ⟨p, hp, rfl⟩ := bel_of h1
  have key : ∃ o : Option Nat, x2 = e1 o ∧ ∀ k, o = some k → wIs W k = true ∨ (8 ≤ k ∧ k ≤ 10) := by
    rcases hx with rfl | g2 | g2
    · exact ⟨none, rfl, fun k q => (by cases q)⟩
    · obtain ⟨q, hq, rfl⟩ := i_of (n := 11) (x := x2) (by omega) (by omega)
      rw [i_nI (by omega)] at g2
      exact ⟨some q, rfl, fun k r => (by cases r; exact Or.inr (by omega))⟩
    · obtain ⟨q, hq, hq2, rfl⟩ := isT_of g2
      exact ⟨some q, rfl, fun k r => (by cases r; exact Or.inl hq2)⟩
  obtain ⟨o, rfl, ho⟩ := key
  have ho16 : ∀ k, o = some k → k < 16 := fun k q => by
    rcases ho k q with h | h
    · have := wIs_lt h
      omega
    · omega
  apply Both.mk (r := 1) (σ1 := zwr σ 7 p (e1 o)) (σ2 := zwr (zwr σ 7 p (e1 o)) 75 p (e2 o))
  · rw [E1]
    simp (disch := omega) only [F_X11_key_49, T_isBelow_2, T_isBelow_3, T_isBelow_4, T_isBelow_6, T_isBelow_8, T_isBelow_9, T_isBelow_10, T_isBelow_12, T_isBelow_16, T_isBelow_17, T_isBelow_31, T_isBelow_64, T_isBelow_256, T_isBelow_65536, T_in_1, T_in_2, T_in_3, T_in_4, T_in_5, T_in_8, T_in_11, T_in_16, T_in_30, T_in_63, T_in_255, T_in_65535, T_isIsland, T_isEight, bd_s, nm_s, bI_0, gd_n, gd_01, nI_cl, nI_add, nI_1, m4, Bool.false_eq_true, not_true_eq_false, not_false_eq_true, ↓reduceIte]
  · rw [E2 _ (EM_on (eqOn_wrR (by decide)) w3)]
    simp (disch := omega) only [F_X12_key_33, T_isBelow_2, T_isBelow_3, T_isBelow_4, T_isBelow_6, T_isBelow_8, T_isBelow_9, T_isBelow_10, T_isBelow_12, T_isBelow_16, T_isBelow_17, T_isBelow_31, T_isBelow_64, T_isBelow_256, T_isBelow_65536, T_in_1, T_in_2, T_in_3, T_in_4, T_in_5, T_in_8, T_in_11, T_in_16, T_in_30, T_in_63, T_in_255, T_in_65535, T_isIsland, T_isEight, bd_s, nm_s, bI_0, gd_n, gd_01, nI_cl, nI_add, nI_1, m4, Bool.false_eq_true, not_true_eq_false, not_false_eq_true, ↓reduceIte, e12 ho16]
  refine Rel_W hn hR ((eqOn_wrR (by decide)).tr (eqOn_wrR (by decide))) ⟨(W.1, (wWin W, wLok W, wFli W, fset (wKey W) p o), W.2.2), ?_, Nat.le_succ_of_le w1, ?_, ?_⟩
  · obtain ⟨v1, v2, v3, v4, v5, v6, v7, v8⟩ := w0
    refine ⟨v1, v2, v3, v4, v5, v6, fun j k hj hk => ?_, v8⟩
    replace hk : fset (wKey W) p o j = some k := hk
    by_cases q : j = p
    · rw [q, fset_s] at hk
      exact ho k hk
    · rw [fset_n q] at hk
      exact v7 j k hj hk
  · obtain ⟨c1, c2, c3, c4, c5, c6, c7⟩ := w2
    exact ⟨c1, c2, c3, c4, c5, fun j hj => upd_map (c6 j hj), c7⟩
  · obtain ⟨c1, c2, c3, c4, c5, c6, c7⟩ := w3
    exact ⟨c1, c2, c3, c4, c5, fun j hj => upd_map (c6 j hj), c7⟩
theorem s_heart {n : Nat} {σ : zSt} (hn : n < 512) (hR : Rel n σ) (x1 : Int32) : Both n (F_X11_heart x1) (F_X12_heart x1) σ := by
  obtain ⟨-, ⟨W, w0, w1, w2, w3⟩, -⟩ := id hR
  by_cases h1 : isT W x1
  rotate_left
  · exact Both.no 0 hn hR (by simp (disch := omega) only [F_X11_heart, F_X11_heart_0, F_X12_heart, F_X12_heart_0, T_isBelow_2, T_isBelow_3, T_isBelow_4, T_isBelow_6, T_isBelow_8, T_isBelow_9, T_isBelow_10, T_isBelow_12, T_isBelow_16, T_isBelow_17, T_isBelow_31, T_isBelow_64, T_isBelow_256, T_isBelow_65536, T_in_1, T_in_2, T_in_3, T_in_4, T_in_5, T_in_8, T_in_11, T_in_16, T_in_30, T_in_63, T_in_255, T_in_65535, T_isIsland, T_isEight, bd_s, nm_s, bI_0, gd_n, gd_01, nI_cl, nI_add, nI_1, m4, Bool.false_eq_true, not_true_eq_false, not_false_eq_true, ↓reduceIte, h1, T_isTold w0 w2]) (by simp (disch := omega) only [F_X11_heart, F_X11_heart_0, F_X12_heart, F_X12_heart_0, T_isBelow_2, T_isBelow_3, T_isBelow_4, T_isBelow_6, T_isBelow_8, T_isBelow_9, T_isBelow_10, T_isBelow_12, T_isBelow_16, T_isBelow_17, T_isBelow_31, T_isBelow_64, T_isBelow_256, T_isBelow_65536, T_in_1, T_in_2, T_in_3, T_in_4, T_in_5, T_in_8, T_in_11, T_in_16, T_in_30, T_in_63, T_in_255, T_in_65535, T_isIsland, T_isEight, bd_s, nm_s, bI_0, gd_n, gd_01, nI_cl, nI_add, nI_1, m4, Bool.false_eq_true, not_true_eq_false, not_false_eq_true, ↓reduceIte, h1, T_isPlace w0 w3])
  obtain ⟨p, hp, hp2, rfl⟩ := isT_of h1
  apply Both.mk (r := 1) (σ1 := zwr σ 1 8 (nI p)) (σ2 := zwr (zwr σ 1 8 (nI p)) 69 2 (nI p))
  · simp (disch := omega) only [F_X11_heart, F_X11_heart_0, F_X12_heart, F_X12_heart_0, T_isBelow_2, T_isBelow_3, T_isBelow_4, T_isBelow_6, T_isBelow_8, T_isBelow_9, T_isBelow_10, T_isBelow_12, T_isBelow_16, T_isBelow_17, T_isBelow_31, T_isBelow_64, T_isBelow_256, T_isBelow_65536, T_in_1, T_in_2, T_in_3, T_in_4, T_in_5, T_in_8, T_in_11, T_in_16, T_in_30, T_in_63, T_in_255, T_in_65535, T_isIsland, T_isEight, bd_s, nm_s, bI_0, gd_n, gd_01, nI_cl, nI_add, nI_1, m4, Bool.false_eq_true, not_true_eq_false, not_false_eq_true, ↓reduceIte, h1, T_isTold w0 w2]
  · simp (disch := omega) only [F_X11_heart, F_X11_heart_0, F_X12_heart, F_X12_heart_0, T_isBelow_2, T_isBelow_3, T_isBelow_4, T_isBelow_6, T_isBelow_8, T_isBelow_9, T_isBelow_10, T_isBelow_12, T_isBelow_16, T_isBelow_17, T_isBelow_31, T_isBelow_64, T_isBelow_256, T_isBelow_65536, T_in_1, T_in_2, T_in_3, T_in_4, T_in_5, T_in_8, T_in_11, T_in_16, T_in_30, T_in_63, T_in_255, T_in_65535, T_isIsland, T_isEight, bd_s, nm_s, bI_0, gd_n, gd_01, nI_cl, nI_add, nI_1, m4, Bool.false_eq_true, not_true_eq_false, not_false_eq_true, ↓reduceIte, h1, T_isPlace w0 (EM_on (eqOn_wr (by decide)) w3)]
  refine Rel_W hn hR ((eqOn_wr (by decide)).tr (eqOn_wr (by decide))) ⟨(W.1, W.2.1, (wTol W, wWet W, p), W.2.2.2), ?_, Nat.le_succ_of_le w1, ?_, ?_⟩
  · obtain ⟨v1, v2, v3, v4, v5, v6, v7, v8, v9, v10, v11⟩ := w0
    exact ⟨v1, v2, v3, v4, v5, v6, v7, v8, v9, hp, v11⟩
  · obtain ⟨c1, c2, c3, c4, c5, c6, c7, c8, c9, c10⟩ := w2
    exact ⟨c1, c2, c3, c4, c5, c6, c7, c8, rfl, c10⟩
  · obtain ⟨c1, c2, c3, c4, c5, c6, c7, c8, c9, c10⟩ := w3
    exact ⟨c1, c2, c3, c4, c5, c6, c7, c8, rfl, c10⟩
theorem s_seed {n : Nat} {σ : zSt} (hn : n < 512) (hR : Rel n σ) (x1 : Int32) : Both n (F_X11_seed x1) (F_X12_seed x1) σ := by
  obtain ⟨-, ⟨W, w0, w1, w2, w3⟩, -⟩ := id hR
  by_cases h1 : bel x1 65536
  rotate_left
  · exact Both.no 0 hn hR (by simp (disch := omega) only [F_X11_seed, F_X11_seed_0, F_X12_seed, F_X12_seed_0, T_isBelow_2, T_isBelow_3, T_isBelow_4, T_isBelow_6, T_isBelow_8, T_isBelow_9, T_isBelow_10, T_isBelow_12, T_isBelow_16, T_isBelow_17, T_isBelow_31, T_isBelow_64, T_isBelow_256, T_isBelow_65536, T_in_1, T_in_2, T_in_3, T_in_4, T_in_5, T_in_8, T_in_11, T_in_16, T_in_30, T_in_63, T_in_255, T_in_65535, T_isIsland, T_isEight, bd_s, nm_s, bI_0, gd_n, gd_01, nI_cl, nI_add, nI_1, m4, Bool.false_eq_true, not_true_eq_false, not_false_eq_true, ↓reduceIte, h1]) (by simp (disch := omega) only [F_X11_seed, F_X11_seed_0, F_X12_seed, F_X12_seed_0, T_isBelow_2, T_isBelow_3, T_isBelow_4, T_isBelow_6, T_isBelow_8, T_isBelow_9, T_isBelow_10, T_isBelow_12, T_isBelow_16, T_isBelow_17, T_isBelow_31, T_isBelow_64, T_isBelow_256, T_isBelow_65536, T_in_1, T_in_2, T_in_3, T_in_4, T_in_5, T_in_8, T_in_11, T_in_16, T_in_30, T_in_63, T_in_255, T_in_65535, T_isIsland, T_isEight, bd_s, nm_s, bI_0, gd_n, gd_01, nI_cl, nI_add, nI_1, m4, Bool.false_eq_true, not_true_eq_false, not_false_eq_true, ↓reduceIte, h1])
  obtain ⟨p, hp, rfl⟩ := bel_of h1
  apply Both.mk (r := 1) (σ1 := zwr σ 1 12 (nI p)) (σ2 := zwr (zwr σ 1 12 (nI p)) 69 3 (nI p))
  · simp (disch := omega) only [F_X11_seed, F_X11_seed_0, F_X12_seed, F_X12_seed_0, T_isBelow_2, T_isBelow_3, T_isBelow_4, T_isBelow_6, T_isBelow_8, T_isBelow_9, T_isBelow_10, T_isBelow_12, T_isBelow_16, T_isBelow_17, T_isBelow_31, T_isBelow_64, T_isBelow_256, T_isBelow_65536, T_in_1, T_in_2, T_in_3, T_in_4, T_in_5, T_in_8, T_in_11, T_in_16, T_in_30, T_in_63, T_in_255, T_in_65535, T_isIsland, T_isEight, bd_s, nm_s, bI_0, gd_n, gd_01, nI_cl, nI_add, nI_1, m4, Bool.false_eq_true, not_true_eq_false, not_false_eq_true, ↓reduceIte, h1]
  · simp (disch := omega) only [F_X11_seed, F_X11_seed_0, F_X12_seed, F_X12_seed_0, T_isBelow_2, T_isBelow_3, T_isBelow_4, T_isBelow_6, T_isBelow_8, T_isBelow_9, T_isBelow_10, T_isBelow_12, T_isBelow_16, T_isBelow_17, T_isBelow_31, T_isBelow_64, T_isBelow_256, T_isBelow_65536, T_in_1, T_in_2, T_in_3, T_in_4, T_in_5, T_in_8, T_in_11, T_in_16, T_in_30, T_in_63, T_in_255, T_in_65535, T_isIsland, T_isEight, bd_s, nm_s, bI_0, gd_n, gd_01, nI_cl, nI_add, nI_1, m4, Bool.false_eq_true, not_true_eq_false, not_false_eq_true, ↓reduceIte, h1]
  refine Rel_W hn hR ((eqOn_wr (by decide)).tr (eqOn_wr (by decide))) ⟨(W.1, W.2.1, W.2.2.1, (p, W.2.2.2.2)), ?_, Nat.le_succ_of_le w1, ?_, ?_⟩
  · obtain ⟨v1, v2, v3, v4, v5, v6, v7, v8, v9, v10, v11, v12, v13, v14⟩ := w0
    exact ⟨v1, v2, v3, v4, v5, v6, v7, v8, v9, v10, v11, v12, v13, hp⟩
  · obtain ⟨c1, c2, c3, c4, c5, c6, c7, c8, c9, c10, c11, c12, c13⟩ := w2
    exact ⟨c1, c2, c3, c4, c5, c6, c7, c8, c9, c10, c11, c12, rfl⟩
  · obtain ⟨c1, c2, c3, c4, c5, c6, c7, c8, c9, c10, c11, c12, c13⟩ := w3
    exact ⟨c1, c2, c3, c4, c5, c6, c7, c8, c9, c10, c11, c12, rfl⟩
theorem s_test {n : Nat} {σ : zSt} (hn : n < 512) (hR : Rel n σ) (x1 x2 : Int32) : Both n (F_X11_test x1 x2) (F_X12_test x1 x2) σ := by
  by_cases h1 : bel x1 6
  rotate_left
  · exact Both.no 0 hn hR (by simp (disch := omega) only [F_X11_test, F_X11_test_0, F_X0_show, F_X0_show_0, F_X12_test, F_X12_test_0, T_isBelow_2, T_isBelow_3, T_isBelow_4, T_isBelow_6, T_isBelow_8, T_isBelow_9, T_isBelow_10, T_isBelow_12, T_isBelow_16, T_isBelow_17, T_isBelow_31, T_isBelow_64, T_isBelow_256, T_isBelow_65536, T_in_1, T_in_2, T_in_3, T_in_4, T_in_5, T_in_8, T_in_11, T_in_16, T_in_30, T_in_63, T_in_255, T_in_65535, T_isIsland, T_isEight, bd_s, nm_s, bI_0, gd_n, gd_01, nI_cl, nI_add, nI_1, m4, Bool.false_eq_true, not_true_eq_false, not_false_eq_true, ↓reduceIte, h1, gd_t (show (0 : Int32) = 0 ∨ (0 : Int32) = 1 from Or.inl rfl), gd_t (show (1 : Int32) = 0 ∨ (1 : Int32) = 1 from Or.inr rfl)]) (by simp (disch := omega) only [F_X11_test, F_X11_test_0, F_X0_show, F_X0_show_0, F_X12_test, F_X12_test_0, T_isBelow_2, T_isBelow_3, T_isBelow_4, T_isBelow_6, T_isBelow_8, T_isBelow_9, T_isBelow_10, T_isBelow_12, T_isBelow_16, T_isBelow_17, T_isBelow_31, T_isBelow_64, T_isBelow_256, T_isBelow_65536, T_in_1, T_in_2, T_in_3, T_in_4, T_in_5, T_in_8, T_in_11, T_in_16, T_in_30, T_in_63, T_in_255, T_in_65535, T_isIsland, T_isEight, bd_s, nm_s, bI_0, gd_n, gd_01, nI_cl, nI_add, nI_1, m4, Bool.false_eq_true, not_true_eq_false, not_false_eq_true, ↓reduceIte, h1, gd_t (show (0 : Int32) = 0 ∨ (0 : Int32) = 1 from Or.inl rfl), gd_t (show (1 : Int32) = 0 ∨ (1 : Int32) = 1 from Or.inr rfl)])
  by_cases h2 : bel x2 256
  rotate_left
  · exact Both.no 0 hn hR (by simp (disch := omega) only [F_X11_test, F_X11_test_0, F_X0_show, F_X0_show_0, F_X12_test, F_X12_test_0, T_isBelow_2, T_isBelow_3, T_isBelow_4, T_isBelow_6, T_isBelow_8, T_isBelow_9, T_isBelow_10, T_isBelow_12, T_isBelow_16, T_isBelow_17, T_isBelow_31, T_isBelow_64, T_isBelow_256, T_isBelow_65536, T_in_1, T_in_2, T_in_3, T_in_4, T_in_5, T_in_8, T_in_11, T_in_16, T_in_30, T_in_63, T_in_255, T_in_65535, T_isIsland, T_isEight, bd_s, nm_s, bI_0, gd_n, gd_01, nI_cl, nI_add, nI_1, m4, Bool.false_eq_true, not_true_eq_false, not_false_eq_true, ↓reduceIte, h1, h2, gd_t (show (0 : Int32) = 0 ∨ (0 : Int32) = 1 from Or.inl rfl), gd_t (show (1 : Int32) = 0 ∨ (1 : Int32) = 1 from Or.inr rfl)]) (by simp (disch := omega) only [F_X11_test, F_X11_test_0, F_X0_show, F_X0_show_0, F_X12_test, F_X12_test_0, T_isBelow_2, T_isBelow_3, T_isBelow_4, T_isBelow_6, T_isBelow_8, T_isBelow_9, T_isBelow_10, T_isBelow_12, T_isBelow_16, T_isBelow_17, T_isBelow_31, T_isBelow_64, T_isBelow_256, T_isBelow_65536, T_in_1, T_in_2, T_in_3, T_in_4, T_in_5, T_in_8, T_in_11, T_in_16, T_in_30, T_in_63, T_in_255, T_in_65535, T_isIsland, T_isEight, bd_s, nm_s, bI_0, gd_n, gd_01, nI_cl, nI_add, nI_1, m4, Bool.false_eq_true, not_true_eq_false, not_false_eq_true, ↓reduceIte, h1, h2, gd_t (show (0 : Int32) = 0 ∨ (0 : Int32) = 1 from Or.inl rfl), gd_t (show (1 : Int32) = 0 ∨ (1 : Int32) = 1 from Or.inr rfl)])
  obtain ⟨t, ht, rfl⟩ := bel_of h1
  obtain ⟨m, hm, rfl⟩ := bel_of h2
  apply Both.mk (r := 1) (σ1 := zwr σ 66 t (nI m)) (σ2 := zwr (zwr σ 66 t (nI m)) 103 t (nI m))
  · simp (disch := omega) only [F_X11_test, F_X11_test_0, F_X0_show, F_X0_show_0, F_X12_test, F_X12_test_0, T_isBelow_2, T_isBelow_3, T_isBelow_4, T_isBelow_6, T_isBelow_8, T_isBelow_9, T_isBelow_10, T_isBelow_12, T_isBelow_16, T_isBelow_17, T_isBelow_31, T_isBelow_64, T_isBelow_256, T_isBelow_65536, T_in_1, T_in_2, T_in_3, T_in_4, T_in_5, T_in_8, T_in_11, T_in_16, T_in_30, T_in_63, T_in_255, T_in_65535, T_isIsland, T_isEight, bd_s, nm_s, bI_0, gd_n, gd_01, nI_cl, nI_add, nI_1, m4, Bool.false_eq_true, not_true_eq_false, not_false_eq_true, ↓reduceIte, h1, h2, gd_t (show (0 : Int32) = 0 ∨ (0 : Int32) = 1 from Or.inl rfl), gd_t (show (1 : Int32) = 0 ∨ (1 : Int32) = 1 from Or.inr rfl)]
  · simp (disch := omega) only [F_X11_test, F_X11_test_0, F_X0_show, F_X0_show_0, F_X12_test, F_X12_test_0, T_isBelow_2, T_isBelow_3, T_isBelow_4, T_isBelow_6, T_isBelow_8, T_isBelow_9, T_isBelow_10, T_isBelow_12, T_isBelow_16, T_isBelow_17, T_isBelow_31, T_isBelow_64, T_isBelow_256, T_isBelow_65536, T_in_1, T_in_2, T_in_3, T_in_4, T_in_5, T_in_8, T_in_11, T_in_16, T_in_30, T_in_63, T_in_255, T_in_65535, T_isIsland, T_isEight, bd_s, nm_s, bI_0, gd_n, gd_01, nI_cl, nI_add, nI_1, m4, Bool.false_eq_true, not_true_eq_false, not_false_eq_true, ↓reduceIte, h1, h2]
  obtain ⟨E, te, e1, e2, e3, e4⟩ := hR.2.2.2.2.2.1
  refine Rel_E hn hR ((eqOn_wrR (by decide)).tr (eqOn_wrR (by decide))) ⟨E, fset te t m, e1, e2, e3, fun j hj => ?_⟩
  obtain ⟨a1, a2, a3⟩ := e4 j hj
  refine ⟨?_, upd_map a2, upd_map a3⟩
  unfold fset
  split
  · exact hm
  · exact a1
theorem T_in_m1 {x : Int32} {σ : zSt} : F_X12_in x (-1) 11 σ = some (bI (x = -1 ∨ bel x 12), σ) := by
  rw [T_in, bI_c]
  have a : (-1 : Int32).toInt = -1 := rfl
  have b : (11 : Int32).toInt = 11 := rfl
  rw [i_eq, a, b]
  unfold bel
  omega
theorem s_owes {n : Nat} {σ : zSt} (hn : n < 512) (hR : Rel n σ) (x1 x2 : Int32) : Both n (F_X11_owes x1 x2) (F_X12_owes x1 x2) σ := by
  by_cases h1 : bel x1 12
  rotate_left
  · exact Both.no 0 hn hR (by simp (disch := omega) only [F_X11_owes, F_X11_owes_0, F_X9_owe, F_X9_owe_0, F_X9_owe_30, F_X12_owes, F_X12_owes_0, T_isBelow_2, T_isBelow_3, T_isBelow_4, T_isBelow_6, T_isBelow_8, T_isBelow_9, T_isBelow_10, T_isBelow_12, T_isBelow_16, T_isBelow_17, T_isBelow_31, T_isBelow_64, T_isBelow_256, T_isBelow_65536, T_in_1, T_in_2, T_in_3, T_in_4, T_in_5, T_in_8, T_in_11, T_in_16, T_in_30, T_in_63, T_in_255, T_in_65535, T_isIsland, T_isEight, bd_s, nm_s, bI_0, gd_n, gd_01, nI_cl, nI_add, nI_1, m4, Bool.false_eq_true, not_true_eq_false, not_false_eq_true, ↓reduceIte, h1, gd_t (show (0 : Int32) = 0 ∨ (0 : Int32) = 1 from Or.inl rfl), gd_t (show (1 : Int32) = 0 ∨ (1 : Int32) = 1 from Or.inr rfl)]) (by simp (disch := omega) only [F_X11_owes, F_X11_owes_0, F_X9_owe, F_X9_owe_0, F_X9_owe_30, F_X12_owes, F_X12_owes_0, T_isBelow_2, T_isBelow_3, T_isBelow_4, T_isBelow_6, T_isBelow_8, T_isBelow_9, T_isBelow_10, T_isBelow_12, T_isBelow_16, T_isBelow_17, T_isBelow_31, T_isBelow_64, T_isBelow_256, T_isBelow_65536, T_in_1, T_in_2, T_in_3, T_in_4, T_in_5, T_in_8, T_in_11, T_in_16, T_in_30, T_in_63, T_in_255, T_in_65535, T_isIsland, T_isEight, bd_s, nm_s, bI_0, gd_n, gd_01, nI_cl, nI_add, nI_1, m4, Bool.false_eq_true, not_true_eq_false, not_false_eq_true, ↓reduceIte, h1, gd_t (show (0 : Int32) = 0 ∨ (0 : Int32) = 1 from Or.inl rfl), gd_t (show (1 : Int32) = 0 ∨ (1 : Int32) = 1 from Or.inr rfl)])
  by_cases h3 : x1 = x2
  · subst h3
    have h4 : x1 = -1 ∨ bel x1 12 := Or.inr h1
    exact Both.no 0 hn hR (by simp (disch := omega) only [F_X11_owes, F_X11_owes_0, F_X9_owe, F_X9_owe_0, F_X9_owe_30, F_X12_owes, F_X12_owes_0, T_isBelow_2, T_isBelow_3, T_isBelow_4, T_isBelow_6, T_isBelow_8, T_isBelow_9, T_isBelow_10, T_isBelow_12, T_isBelow_16, T_isBelow_17, T_isBelow_31, T_isBelow_64, T_isBelow_256, T_isBelow_65536, T_in_1, T_in_2, T_in_3, T_in_4, T_in_5, T_in_8, T_in_11, T_in_16, T_in_30, T_in_63, T_in_255, T_in_65535, T_isIsland, T_isEight, bd_s, nm_s, bI_0, gd_n, gd_01, nI_cl, nI_add, nI_1, m4, Bool.false_eq_true, not_true_eq_false, not_false_eq_true, ↓reduceIte, h1, h4, T_in_m1, gd_t (show (0 : Int32) = 0 ∨ (0 : Int32) = 1 from Or.inl rfl), gd_t (show (1 : Int32) = 0 ∨ (1 : Int32) = 1 from Or.inr rfl)]) (by simp (disch := omega) only [F_X11_owes, F_X11_owes_0, F_X9_owe, F_X9_owe_0, F_X9_owe_30, F_X12_owes, F_X12_owes_0, T_isBelow_2, T_isBelow_3, T_isBelow_4, T_isBelow_6, T_isBelow_8, T_isBelow_9, T_isBelow_10, T_isBelow_12, T_isBelow_16, T_isBelow_17, T_isBelow_31, T_isBelow_64, T_isBelow_256, T_isBelow_65536, T_in_1, T_in_2, T_in_3, T_in_4, T_in_5, T_in_8, T_in_11, T_in_16, T_in_30, T_in_63, T_in_255, T_in_65535, T_isIsland, T_isEight, bd_s, nm_s, bI_0, gd_n, gd_01, nI_cl, nI_add, nI_1, m4, Bool.false_eq_true, not_true_eq_false, not_false_eq_true, ↓reduceIte, h1, h4, T_in_m1, gd_t (show (0 : Int32) = 0 ∨ (0 : Int32) = 1 from Or.inl rfl), gd_t (show (1 : Int32) = 0 ∨ (1 : Int32) = 1 from Or.inr rfl)])
  by_cases h2 : x2 = -1 ∨ bel x2 12
  rotate_left
  · have g1 : ¬ x2 = -1 := fun q => h2 (Or.inl q)
    have g2 : ¬ bel x2 12 := fun q => h2 (Or.inr q)
    exact Both.no 0 hn hR (by simp (disch := omega) only [F_X11_owes, F_X11_owes_0, F_X9_owe, F_X9_owe_0, F_X9_owe_30, F_X12_owes, F_X12_owes_0, T_isBelow_2, T_isBelow_3, T_isBelow_4, T_isBelow_6, T_isBelow_8, T_isBelow_9, T_isBelow_10, T_isBelow_12, T_isBelow_16, T_isBelow_17, T_isBelow_31, T_isBelow_64, T_isBelow_256, T_isBelow_65536, T_in_1, T_in_2, T_in_3, T_in_4, T_in_5, T_in_8, T_in_11, T_in_16, T_in_30, T_in_63, T_in_255, T_in_65535, T_isIsland, T_isEight, bd_s, nm_s, bI_0, gd_n, gd_01, nI_cl, nI_add, nI_1, m4, Bool.false_eq_true, not_true_eq_false, not_false_eq_true, ↓reduceIte, h1, h3, h2, g1, g2, T_in_m1, gd_t (show (0 : Int32) = 0 ∨ (0 : Int32) = 1 from Or.inl rfl), gd_t (show (1 : Int32) = 0 ∨ (1 : Int32) = 1 from Or.inr rfl)]) (by simp (disch := omega) only [F_X11_owes, F_X11_owes_0, F_X9_owe, F_X9_owe_0, F_X9_owe_30, F_X12_owes, F_X12_owes_0, T_isBelow_2, T_isBelow_3, T_isBelow_4, T_isBelow_6, T_isBelow_8, T_isBelow_9, T_isBelow_10, T_isBelow_12, T_isBelow_16, T_isBelow_17, T_isBelow_31, T_isBelow_64, T_isBelow_256, T_isBelow_65536, T_in_1, T_in_2, T_in_3, T_in_4, T_in_5, T_in_8, T_in_11, T_in_16, T_in_30, T_in_63, T_in_255, T_in_65535, T_isIsland, T_isEight, bd_s, nm_s, bI_0, gd_n, gd_01, nI_cl, nI_add, nI_1, m4, Bool.false_eq_true, not_true_eq_false, not_false_eq_true, ↓reduceIte, h1, h3, h2, g1, g2, T_in_m1, gd_t (show (0 : Int32) = 0 ∨ (0 : Int32) = 1 from Or.inl rfl), gd_t (show (1 : Int32) = 0 ∨ (1 : Int32) = 1 from Or.inr rfl)])
  have E1 : F_X11_owes x1 x2 σ = bd (F_X9_owe_30 x1 x2 σ) (fun q2 s1 => gd (q2 = 0 ∨ q2 = 1) (some (q2, s1))) := by
    by_cases g : x2 = -1
    · simp (disch := omega) only [F_X11_owes, F_X11_owes_0, F_X9_owe, F_X9_owe_0, T_isBelow_2, T_isBelow_3, T_isBelow_4, T_isBelow_6, T_isBelow_8, T_isBelow_9, T_isBelow_10, T_isBelow_12, T_isBelow_16, T_isBelow_17, T_isBelow_31, T_isBelow_64, T_isBelow_256, T_isBelow_65536, T_in_1, T_in_2, T_in_3, T_in_4, T_in_5, T_in_8, T_in_11, T_in_16, T_in_30, T_in_63, T_in_255, T_in_65535, T_isIsland, T_isEight, bd_s, nm_s, bI_0, gd_n, gd_01, nI_cl, nI_add, nI_1, m4, Bool.false_eq_true, not_true_eq_false, not_false_eq_true, ↓reduceIte, h1, h3, if_pos g]
    · have g2 := h2.resolve_left g
      simp (disch := omega) only [F_X11_owes, F_X11_owes_0, F_X9_owe, F_X9_owe_0, T_isBelow_2, T_isBelow_3, T_isBelow_4, T_isBelow_6, T_isBelow_8, T_isBelow_9, T_isBelow_10, T_isBelow_12, T_isBelow_16, T_isBelow_17, T_isBelow_31, T_isBelow_64, T_isBelow_256, T_isBelow_65536, T_in_1, T_in_2, T_in_3, T_in_4, T_in_5, T_in_8, T_in_11, T_in_16, T_in_30, T_in_63, T_in_255, T_in_65535, T_isIsland, T_isEight, bd_s, nm_s, bI_0, gd_n, gd_01, nI_cl, nI_add, nI_1, m4, Bool.false_eq_true, not_true_eq_false, not_false_eq_true, ↓reduceIte, h1, h3, g, g2]
  obtain ⟨i, hi, rfl⟩ := bel_of h1
  have E2 : ∀ τ, F_X12_owes (nI i) x2 τ = some (1, zwr τ 104 i x2) := by
    intro τ
    simp (disch := omega) only [F_X12_owes, F_X12_owes_0, T_isBelow_2, T_isBelow_3, T_isBelow_4, T_isBelow_6, T_isBelow_8, T_isBelow_9, T_isBelow_10, T_isBelow_12, T_isBelow_16, T_isBelow_17, T_isBelow_31, T_isBelow_64, T_isBelow_256, T_isBelow_65536, T_in_1, T_in_2, T_in_3, T_in_4, T_in_5, T_in_8, T_in_11, T_in_16, T_in_30, T_in_63, T_in_255, T_in_65535, T_isIsland, T_isEight, bd_s, nm_s, bI_0, gd_n, gd_01, nI_cl, nI_add, nI_1, m4, Bool.false_eq_true, not_true_eq_false, not_false_eq_true, ↓reduceIte, h1, h2, h3, T_in_m1]
  obtain ⟨o, rfl, ho⟩ := e1_of h2
  apply Both.mk (r := 1) (σ1 := zwr σ 68 i (e1 o)) (σ2 := zwr (zwr σ 68 i (e1 o)) 104 i (e1 o))
  · rw [E1]
    simp (disch := omega) only [F_X9_owe_30, T_isBelow_2, T_isBelow_3, T_isBelow_4, T_isBelow_6, T_isBelow_8, T_isBelow_9, T_isBelow_10, T_isBelow_12, T_isBelow_16, T_isBelow_17, T_isBelow_31, T_isBelow_64, T_isBelow_256, T_isBelow_65536, T_in_1, T_in_2, T_in_3, T_in_4, T_in_5, T_in_8, T_in_11, T_in_16, T_in_30, T_in_63, T_in_255, T_in_65535, T_isIsland, T_isEight, bd_s, nm_s, bI_0, gd_n, gd_01, nI_cl, nI_add, nI_1, m4, Bool.false_eq_true, not_true_eq_false, not_false_eq_true, ↓reduceIte, gd_t (show (0 : Int32) = 0 ∨ (0 : Int32) = 1 from Or.inl rfl), gd_t (show (1 : Int32) = 0 ∨ (1 : Int32) = 1 from Or.inr rfl)]
  · exact E2 _
  obtain ⟨ow, e4⟩ := hR.2.2.2.2.2.2
  refine Rel_O hn hR ((eqOn_wrR (by decide)).tr (eqOn_wrR (by decide))) ⟨fset ow i o, fun j hj => ?_⟩
  obtain ⟨a1, a2, a3⟩ := e4 j hj
  refine ⟨fun k hk => ?_, upd_map a2, upd_map a3⟩
  by_cases q : j = i
  · rw [q, fset_s] at hk
    refine ⟨ho k hk, fun r => h3 ?_⟩
    rw [hk, r, q]
    rfl
  · rw [fset_n q] at hk
    exact a1 k hk
/-! PURE: literals, bits -/
theorem lt_lit {a k : Nat} (h : a < 2147483648 ∧ (OfNat.ofNat k : Nat) < 2147483648) : (nI a < no_index (OfNat.ofNat k : Int32)) = (a < (OfNat.ofNat k : Nat)) := propext (nI_ltI (b := k) h.1 h.2)
theorem le_lit {a k : Nat} (h : a < 2147483648 ∧ (OfNat.ofNat k : Nat) < 2147483648) : (nI a ≤ no_index (OfNat.ofNat k : Int32)) = (a ≤ (OfNat.ofNat k : Nat)) := propext (nI_leI (b := k) h.1 h.2)
theorem lit_lt {a k : Nat} (h : a < 2147483648 ∧ (OfNat.ofNat k : Nat) < 2147483648) : (no_index (OfNat.ofNat k : Int32) < nI a) = ((OfNat.ofNat k : Nat) < a) := propext (nI_ltI (a := k) h.2 h.1)
theorem lit_le {a k : Nat} (h : a < 2147483648 ∧ (OfNat.ofNat k : Nat) < 2147483648) : (no_index (OfNat.ofNat k : Int32) ≤ nI a) = ((OfNat.ofNat k : Nat) ≤ a) := propext (nI_leI (a := k) h.2 h.1)
theorem eq_lit {a k : Nat} (h : a < 2147483648 ∧ (OfNat.ofNat k : Nat) < 2147483648) : (nI a = no_index (OfNat.ofNat k : Int32)) = (a = (OfNat.ofNat k : Nat)) := propext (nI_eq (b := k) h.1 h.2)
theorem lit_eq {a k : Nat} (h : a < 2147483648 ∧ (OfNat.ofNat k : Nat) < 2147483648) : (no_index (OfNat.ofNat k : Int32) = nI a) = ((OfNat.ofNat k : Nat) = a) := propext (nI_eq (a := k) h.2 h.1)
theorem nI_ltp {a b : Nat} (h : a < 2147483648 ∧ b < 2147483648) : (nI a < nI b) = (a < b) := propext (nI_ltI h.1 h.2)
theorem nI_lep {a b : Nat} (h : a < 2147483648 ∧ b < 2147483648) : (nI a ≤ nI b) = (a ≤ b) := propext (nI_leI h.1 h.2)
theorem nI_eqp {a b : Nat} (h : a < 2147483648 ∧ b < 2147483648) : (nI a = nI b) = (a = b) := propext (nI_eq h.1 h.2)
theorem lit_sub {a k : Nat} (h : (OfNat.ofNat k : Nat) ≤ a) : nI a - no_index (OfNat.ofNat k : Int32) = nI (a - (OfNat.ofNat k : Nat)) := pk_sub (b := k) h
theorem lit_add {a k : Nat} : nI a + no_index (OfNat.ofNat k : Int32) = nI (a + (OfNat.ofNat k : Nat)) := nI_add a k
theorem add_lit {a k : Nat} : no_index (OfNat.ofNat k : Int32) + nI a = nI ((OfNat.ofNat k : Nat) + a) := nI_add k a
theorem lit_mul {a k : Nat} : no_index (OfNat.ofNat k : Int32) * nI a = nI ((OfNat.ofNat k : Nat) * a) := pk_mul k a
theorem lit_div {a k : Nat} (h : a < 2147483648 ∧ 0 < (OfNat.ofNat k : Nat) ∧ (OfNat.ofNat k : Nat) < 2147483648) : nI a / no_index (OfNat.ofNat k : Int32) = nI (a / (OfNat.ofNat k : Nat)) := pk_div (d := k) h.1 h.2.1 h.2.2
theorem nI_ne_m1 {a : Nat} (h : a < 2147483648) : (nI a = -1) = False := eq_false (e1_n h)
theorem nI_ne_m2 {a : Nat} (h : a < 2147483648) : (nI a = -2) = False := eq_false (fun q => by
  rw [i_eq, i_nI h] at q
  have : (-2 : Int32).toInt = -2 := rfl
  omega)
theorem m1_lt0 : ((-1 : Int32) < 0) = True := eq_true (by decide)
theorem nI_lt0 {a : Nat} (h : a < 2147483648) : (nI a < 0) = False := eq_false (nI_pos h)
theorem nI_or (a b : Nat) : nI a ||| nI b = nI (a ||| b) := by
  apply Int32.toBitVec_inj.1
  show BitVec.ofNat 32 a ||| BitVec.ofNat 32 b = BitVec.ofNat 32 (a ||| b)
  apply BitVec.eq_of_getLsbD_eq
  intro i hi
  simp [hi]
theorem nI_and (a b : Nat) : nI a &&& nI b = nI (a &&& b) := by
  apply Int32.toBitVec_inj.1
  show BitVec.ofNat 32 a &&& BitVec.ofNat 32 b = BitVec.ofNat 32 (a &&& b)
  apply BitVec.eq_of_getLsbD_eq
  intro i hi
  simp [hi]
theorem d10 : ((1 : Int32) = 0) = False := by decide
theorem d01 : ((0 : Int32) = 1) = False := by decide
theorem lit_test (a : Nat) (h : a < 18) (h2 : 10 ≤ a) : (if nI a < (10 : Int32) then (0 : Nat) else if (18 : Int32) ≤ nI a then 1 else if (0 : Int32) ≤ nI a then (if nI a = (1 : Int32) then 3 else 4) else 5) = 4 := by
  simp (disch := omega) only [lt_lit, lit_le, eq_lit, if_pos, if_neg]
theorem bit_xor8 : ∀ m, m < 256 → ∀ k, k < 8 → nI m ^^^ ((1 : Int32) <<< (nI k &&& 31)) = if m.testBit k then nI (m &&& (255 - 2 ^ k)) else nI (m ||| 2 ^ k) := by decide +kernel
theorem bit_01 : ∀ m, m < 256 → ∀ k, k < 8 → (nI m >>> (nI k &&& 31)) &&& (1 : Int32) = nI (m.testBit k).toNat := by decide +kernel
def popn (m : Nat) : Nat → Nat
  | 0 => 0
  | k + 1 => popn m k + (m.testBit k).toNat
def pop8 (m : Nat) : Nat := popn m 8
theorem popn_le (m : Nat) : ∀ k, popn m k ≤ k
  | 0 => Nat.le_refl 0
  | k + 1 => by
    have := popn_le m k
    have h2 : (m.testBit k).toNat ≤ 1 := Bool.toNat_le _
    unfold popn
    omega
theorem pop8_add : ∀ m, m < 256 → ∀ q, q < 8 → m.testBit q = false → pop8 (2 ^ q ||| m) = pop8 m + 1 := by decide +kernel
def bce (x : Int32) : Int32 :=
  let v1 := x - ((zushr x (1 : Int32)) &&& (1431655765 : Int32))
  let v2 := (v1 &&& (858993459 : Int32)) + ((zushr v1 (2 : Int32)) &&& (858993459 : Int32))
  let v3 := (v2 + (zushr v2 (4 : Int32))) &&& (252645135 : Int32)
  let v4 := v3 + (zushr v3 (8 : Int32))
  let v5 := v4 + (zushr v4 (16 : Int32))
  v5 &&& (63 : Int32)
theorem bc_n : ∀ m, m < 256 → bce (nI m) = nI (pop8 m) := by decide +kernel
theorem T_bitCount {m : Nat} {σ : zSt} (hm : m < 256) : F_J6_bitCount_0f7a4 (nI m) σ = some (nI (pop8 m), σ) := congrArg (fun x => some (x, σ)) (bc_n m hm)
theorem T_bitCountX (x : Int32) (σ : zSt) : ∃ v, F_J6_bitCount_0f7a4 x σ = some (v, σ) := ⟨_, rfl⟩
theorem T_bits {m : Nat} {σ : zSt} (hm : m < 256) : F_X12_bits (nI m) σ = some (nI (pop8 m), σ) := by
  unfold F_X12_bits F_X12_bits_0
  refine zfix_run (fun i => (nI (popn m i), nI i, σ)) 8 (by decide) (fun i w hi => ?_) (fun w => ?_)
  · show F_X12_bits_4 (nI m) w (nI (popn m i)) (nI i) σ = _
    unfold F_X12_bits_4
    have := popn_le m i
    simp (disch := omega) only [lit_le, if_neg, nm_s, bit_01 m hm i hi, nI_add, nI_1, popn]
  · show F_X12_bits_4 (nI m) w (nI (popn m 8)) (nI 8) σ = _
    unfold F_X12_bits_4
    simp (disch := omega) only [lit_le, if_pos]
    rfl
theorem pop_lev {W : zWo} (hW : WOK W) : ∀ p, p < 8 → pop8 (ancs W p) = levW W 8 p := by
  intro p
  induction p using Nat.strongRecOn with
  | ind p ih =>
    intro hp
    cases hw : wWin W p with
    | none =>
      rw [ancs_0 hw]
      simp [levW, hw]
      decide
    | some q =>
      have hq := (hW.win p q hp hw).1
      have hl : levW W 8 p = levW W 8 q + 1 := by
        rw [show levW W 8 p = levW W 7 q + 1 by simp [levW, hw], (ancW_n hW q (by omega) 7 8 (by omega) (by omega)).2]
      rw [ancs_s hW hp hw, hl, ← ih q hq (by omega)]
      refine pop8_add _ (ancs_lt hW (by omega)) q (by omega) ?_
      cases h : (ancs W q).testBit q with
      | false => rfl
      | true => exact absurd (ancs_bit hW q (by omega) q h) (Nat.lt_irrefl q)
/-- the KEYS that are at x, as bits -/
def keyb (W : zWo) (x : Nat) : Nat → Nat
  | 0 => 0
  | n + 1 => keyb W x n ||| (if wKey W n = some x then 2 ^ n else 0)
def keysW (W : zWo) (x : Nat) : Nat := keyb W x 8
theorem keyb_lt (W : zWo) (x : Nat) : ∀ n, n ≤ 8 → keyb W x n < 256 := by
  intro n
  induction n with
  | zero => intro _; exact Nat.zero_lt_succ 255
  | succ n ih =>
    intro h
    unfold keyb
    refine or_lt (ih (by omega)) ?_
    split
    · exact pow_lt8 (by omega)
    · decide
theorem keyb_bit (W : zWo) (x : Nat) : ∀ n, ∀ k, (keyb W x n).testBit k = (decide (k < n) && decide (wKey W k = some x)) := by
  intro n
  induction n with
  | zero => intro k; simp [keyb]
  | succ n ih =>
    intro k
    unfold keyb
    rw [Nat.testBit_or, ih k]
    by_cases h : wKey W n = some x
    · rw [if_pos h, Nat.testBit_two_pow]
      by_cases q : n = k
      · subst q
        simp [h]
      · have e : decide (k < n + 1) = decide (k < n) := by
          by_cases r : k < n
          · rw [decide_eq_true r, decide_eq_true (by omega)]
          · rw [decide_eq_false r, decide_eq_false (by omega)]
        rw [e]
        simp [q]
    · rw [if_neg h, Nat.zero_testBit, Bool.or_false]
      by_cases q : k = n
      · subst q
        simp [h]
      · have e : decide (k < n + 1) = decide (k < n) := by
          by_cases r : k < n
          · rw [decide_eq_true r, decide_eq_true (by omega)]
          · rw [decide_eq_false r, decide_eq_false (by omega)]
        rw [e]
theorem keysW_bit (W : zWo) (x : Nat) {k : Nat} (hk : k < 8) : (keysW W x).testBit k = true ↔ wKey W k = some x := by
  unfold keysW
  rw [keyb_bit]
  simp [hk]
theorem keysW_lt (W : zWo) (x : Nat) : keysW W x < 256 := keyb_lt W x 8 (Nat.le_refl 8)
theorem key16 {W : zWo} (hW : WOK W) {j : Nat} (hj : j < 8) : ∀ k, wKey W j = some k → k < 16 := fun k h => by
  rcases hW.key j k hj h with q | q
  · have := wIs_lt q
    omega
  · omega
theorem keysUp_e {W : zWo} (row : Nat → Int32) {x : Nat} (h : ∀ j, j < 8 → (row j = nI x ↔ wKey W j = some x)) : ∀ n, n ≤ 8 → keysUp row (nI x) n = nI (keyb W x n) := by
  intro n
  induction n with
  | zero => intro _; rfl
  | succ n ih =>
    intro hn
    unfold keysUp keyb
    rw [ih (by omega)]
    by_cases q : wKey W n = some x
    · rw [if_pos q, if_pos ((h n (by omega)).mpr q), bit_1 n (by omega), nI_or]
    · rw [if_neg q, if_neg (fun r => q ((h n (by omega)).mp r)), ← nI_0, nI_or]
theorem T_keysIn {W : zWo} {σ : zSt} (hW : WOK W) (hE : EC 1 2 W σ) {x : Nat} (hx : x < 16) : F_X10_keysIn (nI x) σ = some (nI (keysW W x), σ) := by
  rw [t_keysIn, keysUp_e (W := W) _ (fun j hj => ?_) 8 (Nat.le_refl 8)]
  · rfl
  · rw [show σ.1 7 j = e1 (wKey W j) from hE.2.2.2.2.2.1 j hj]
    exact e1_eq hx (key16 hW hj)
theorem T_keysAt {W : zWo} {σ : zSt} (hW : WOK W) (hE : EM 70 0 W σ) {x : Nat} (hx : x < 16) : F_X12_keysAt (nI x) σ = some (nI (keysW W x), σ) := by
  rw [t_keysAt, keysUp_e (W := W) _ (fun j hj => ?_) 8 (Nat.le_refl 8)]
  · rfl
  · rw [show σ.1 75 j = e2 (wKey W j) from hE.2.2.2.2.2.1 j hj]
    exact e2_eq hx (key16 hW hj)
theorem e12s {o : Option Nat} {σ : zSt} (h : ∀ k, o = some k → k < 16) : (if e1 o = -1 then some ((-2 : Int32), σ) else some (e1 o, σ)) = some (e2 o, σ) := by
  cases o with
  | none => rfl
  | some k => exact if_neg (e1_n (by have := h k rfl; omega))
theorem s_placeIs {n : Nat} {σ : zSt} (hn : n < 512) (hR : Rel n σ) (x1 x2 : Int32) : Both n (F_X11_placeIs x1 x2) (F_X12_placeIs x1 x2) σ := by
  obtain ⟨-, ⟨W, w0, w1, w2, w3⟩, -⟩ := id hR
  by_cases h1 : isT W x1
  rotate_left
  · exact Both.no (-1) hn hR (by simp (disch := omega) only [F_X11_placeIs, F_X11_placeIs_0, T_isBelow_2, T_isBelow_3, T_isBelow_4, T_isBelow_6, T_isBelow_8, T_isBelow_9, T_isBelow_10, T_isBelow_12, T_isBelow_16, T_isBelow_17, T_isBelow_31, T_isBelow_64, T_isBelow_256, T_isBelow_65536, T_in_1, T_in_2, T_in_3, T_in_4, T_in_5, T_in_8, T_in_11, T_in_16, T_in_30, T_in_63, T_in_255, T_in_65535, T_isIsland, T_isEight, bd_s, nm_s, bI_0, gd_n, gd_01, nI_cl, nI_add, nI_1, m4, Bool.false_eq_true, not_true_eq_false, not_false_eq_true, ↓reduceIte, h1, T_isTold w0 w2]) (by simp (disch := omega) only [F_X12_placeIs, F_X12_placeIs_0, T_isBelow_2, T_isBelow_3, T_isBelow_4, T_isBelow_6, T_isBelow_8, T_isBelow_9, T_isBelow_10, T_isBelow_12, T_isBelow_16, T_isBelow_17, T_isBelow_31, T_isBelow_64, T_isBelow_256, T_isBelow_65536, T_in_1, T_in_2, T_in_3, T_in_4, T_in_5, T_in_8, T_in_11, T_in_16, T_in_30, T_in_63, T_in_255, T_in_65535, T_isIsland, T_isEight, bd_s, nm_s, bI_0, gd_n, gd_01, nI_cl, nI_add, nI_1, m4, Bool.false_eq_true, not_true_eq_false, not_false_eq_true, ↓reduceIte, h1, T_isPlace w0 w3])
  have g1 := h1
  obtain ⟨p, hp, hp2, rfl⟩ := isT_of h1
  have hb : bel (nI p) 8 := bel_t (by omega)
  have E1 : F_X11_placeIs (nI p) x2 σ = bd (F_X10_ofPlace (nI p) x2 σ) (fun q6 s5 => some (q6, s5)) := by
    simp (disch := omega) only [F_X11_placeIs, F_X11_placeIs_0, T_isBelow_2, T_isBelow_3, T_isBelow_4, T_isBelow_6, T_isBelow_8, T_isBelow_9, T_isBelow_10, T_isBelow_12, T_isBelow_16, T_isBelow_17, T_isBelow_31, T_isBelow_64, T_isBelow_256, T_isBelow_65536, T_in_1, T_in_2, T_in_3, T_in_4, T_in_5, T_in_8, T_in_11, T_in_16, T_in_30, T_in_63, T_in_255, T_in_65535, T_isIsland, T_isEight, bd_s, nm_s, bI_0, gd_n, gd_01, nI_cl, nI_add, nI_1, m4, Bool.false_eq_true, not_true_eq_false, not_false_eq_true, ↓reduceIte, g1, T_isTold w0 w2]
  have win := w2.2.2.1 p hp
  have lok := w2.2.2.2.1 p hp
  have fli := w2.2.2.2.2.1 p hp
  have mwin : σ.1 72 p = _ := w3.2.2.1 p hp
  have mlok : σ.1 73 p = _ := w3.2.2.2.1 p hp
  have mfli : σ.1 74 p = _ := w3.2.2.2.2.1 p hp
  have cwin : σ.1 4 p = _ := win
  have clok : σ.1 5 p = _ := lok
  have cfli : σ.1 6 p = _ := fli
  have cwet : σ.1 1 7 = nI (wWet W) := w2.2.2.2.2.2.2.2.1
  have mwet : σ.1 69 1 = nI (wWet W) := w3.2.2.2.2.2.2.2.1
  have hwin := win16 w0 hp
  have hlok : ∀ k, wLok W p = some k → k < 16 := fun k q => by have := w0.lok p k hp q; omega
  have hfli : ∀ k, wFli W p = some k → k < 16 := fun k q => by have := wIs_lt (w0.fli p k hp q).2; omega
  by_cases a0 : x2 = 0
  · exact Both.no (nI (islW W p)) hn hR (by rw [E1]; simp (disch := omega) only [F_X10_ofPlace, F_X10_ofPlace_0, T_isBelow_2, T_isBelow_3, T_isBelow_4, T_isBelow_6, T_isBelow_8, T_isBelow_9, T_isBelow_10, T_isBelow_12, T_isBelow_16, T_isBelow_17, T_isBelow_31, T_isBelow_64, T_isBelow_256, T_isBelow_65536, T_in_1, T_in_2, T_in_3, T_in_4, T_in_5, T_in_8, T_in_11, T_in_16, T_in_30, T_in_63, T_in_255, T_in_65535, T_isIsland, T_isEight, bd_s, nm_s, bI_0, gd_n, gd_01, nI_cl, nI_add, nI_1, m4, Bool.false_eq_true, not_true_eq_false, not_false_eq_true, ↓reduceIte, if_pos a0, hb, t_islandOf w0 w2 hp]) (by simp (disch := omega) only [F_X12_placeIs, F_X12_placeIs_0, T_isBelow_2, T_isBelow_3, T_isBelow_4, T_isBelow_6, T_isBelow_8, T_isBelow_9, T_isBelow_10, T_isBelow_12, T_isBelow_16, T_isBelow_17, T_isBelow_31, T_isBelow_64, T_isBelow_256, T_isBelow_65536, T_in_1, T_in_2, T_in_3, T_in_4, T_in_5, T_in_8, T_in_11, T_in_16, T_in_30, T_in_63, T_in_255, T_in_65535, T_isIsland, T_isEight, bd_s, nm_s, bI_0, gd_n, gd_01, nI_cl, nI_add, nI_1, m4, Bool.false_eq_true, not_true_eq_false, not_false_eq_true, ↓reduceIte, g1, if_pos a0, T_isPlace w0 w3, t_islandBy w0 w3 hp])
  by_cases a1 : x2 = 1
  · exact Both.no (e2 (wWin W p)) hn hR (by rw [E1]; simp (disch := omega) only [F_X10_ofPlace, F_X10_ofPlace_0, T_isBelow_2, T_isBelow_3, T_isBelow_4, T_isBelow_6, T_isBelow_8, T_isBelow_9, T_isBelow_10, T_isBelow_12, T_isBelow_16, T_isBelow_17, T_isBelow_31, T_isBelow_64, T_isBelow_256, T_isBelow_65536, T_in_1, T_in_2, T_in_3, T_in_4, T_in_5, T_in_8, T_in_11, T_in_16, T_in_30, T_in_63, T_in_255, T_in_65535, T_isIsland, T_isEight, bd_s, nm_s, bI_0, gd_n, gd_01, nI_cl, nI_add, nI_1, m4, Bool.false_eq_true, not_true_eq_false, not_false_eq_true, ↓reduceIte, a0, if_pos a1, hb, cwin, e12s hwin]) (by simp (disch := omega) only [F_X12_placeIs, F_X12_placeIs_0, T_isBelow_2, T_isBelow_3, T_isBelow_4, T_isBelow_6, T_isBelow_8, T_isBelow_9, T_isBelow_10, T_isBelow_12, T_isBelow_16, T_isBelow_17, T_isBelow_31, T_isBelow_64, T_isBelow_256, T_isBelow_65536, T_in_1, T_in_2, T_in_3, T_in_4, T_in_5, T_in_8, T_in_11, T_in_16, T_in_30, T_in_63, T_in_255, T_in_65535, T_isIsland, T_isEight, bd_s, nm_s, bI_0, gd_n, gd_01, nI_cl, nI_add, nI_1, m4, Bool.false_eq_true, not_true_eq_false, not_false_eq_true, ↓reduceIte, g1, a0, if_pos a1, T_isPlace w0 w3, mwin])
  by_cases a2 : x2 = 2
  · exact Both.no (e2 (wLok W p)) hn hR (by rw [E1]; simp (disch := omega) only [F_X10_ofPlace, F_X10_ofPlace_0, T_isBelow_2, T_isBelow_3, T_isBelow_4, T_isBelow_6, T_isBelow_8, T_isBelow_9, T_isBelow_10, T_isBelow_12, T_isBelow_16, T_isBelow_17, T_isBelow_31, T_isBelow_64, T_isBelow_256, T_isBelow_65536, T_in_1, T_in_2, T_in_3, T_in_4, T_in_5, T_in_8, T_in_11, T_in_16, T_in_30, T_in_63, T_in_255, T_in_65535, T_isIsland, T_isEight, bd_s, nm_s, bI_0, gd_n, gd_01, nI_cl, nI_add, nI_1, m4, Bool.false_eq_true, not_true_eq_false, not_false_eq_true, ↓reduceIte, a0, a1, if_pos a2, hb, clok, e12s hlok]) (by simp (disch := omega) only [F_X12_placeIs, F_X12_placeIs_0, T_isBelow_2, T_isBelow_3, T_isBelow_4, T_isBelow_6, T_isBelow_8, T_isBelow_9, T_isBelow_10, T_isBelow_12, T_isBelow_16, T_isBelow_17, T_isBelow_31, T_isBelow_64, T_isBelow_256, T_isBelow_65536, T_in_1, T_in_2, T_in_3, T_in_4, T_in_5, T_in_8, T_in_11, T_in_16, T_in_30, T_in_63, T_in_255, T_in_65535, T_isIsland, T_isEight, bd_s, nm_s, bI_0, gd_n, gd_01, nI_cl, nI_add, nI_1, m4, Bool.false_eq_true, not_true_eq_false, not_false_eq_true, ↓reduceIte, g1, a0, a1, if_pos a2, T_isPlace w0 w3, mlok])
  by_cases a3 : x2 = 3
  · by_cases b : (wWet W).testBit p = true
    · exact Both.no 1 hn hR (by rw [E1]; simp (disch := omega) only [F_X10_ofPlace, F_X10_ofPlace_0, F_X10_isWet, F_X10_isWet_0, T_isBelow_2, T_isBelow_3, T_isBelow_4, T_isBelow_6, T_isBelow_8, T_isBelow_9, T_isBelow_10, T_isBelow_12, T_isBelow_16, T_isBelow_17, T_isBelow_31, T_isBelow_64, T_isBelow_256, T_isBelow_65536, T_in_1, T_in_2, T_in_3, T_in_4, T_in_5, T_in_8, T_in_11, T_in_16, T_in_30, T_in_63, T_in_255, T_in_65535, T_isIsland, T_isEight, bd_s, nm_s, bI_0, gd_n, gd_01, nI_cl, nI_add, nI_1, m4, Bool.false_eq_true, not_true_eq_false, not_false_eq_true, ↓reduceIte, a0, a1, a2, if_pos a3, hb, cwet, bit_is w0.wet hp, b, d10]) (by simp (disch := omega) only [F_X12_placeIs, F_X12_placeIs_0, T_isBelow_2, T_isBelow_3, T_isBelow_4, T_isBelow_6, T_isBelow_8, T_isBelow_9, T_isBelow_10, T_isBelow_12, T_isBelow_16, T_isBelow_17, T_isBelow_31, T_isBelow_64, T_isBelow_256, T_isBelow_65536, T_in_1, T_in_2, T_in_3, T_in_4, T_in_5, T_in_8, T_in_11, T_in_16, T_in_30, T_in_63, T_in_255, T_in_65535, T_isIsland, T_isEight, bd_s, nm_s, bI_0, gd_n, gd_01, nI_cl, nI_add, nI_1, m4, Bool.false_eq_true, not_true_eq_false, not_false_eq_true, ↓reduceIte, g1, a0, a1, a2, if_pos a3, T_isPlace w0 w3, mwet, T_has (And.intro w0.wet hp), b])
    · exact Both.no 0 hn hR (by rw [E1]; simp (disch := omega) only [F_X10_ofPlace, F_X10_ofPlace_0, F_X10_isWet, F_X10_isWet_0, T_isBelow_2, T_isBelow_3, T_isBelow_4, T_isBelow_6, T_isBelow_8, T_isBelow_9, T_isBelow_10, T_isBelow_12, T_isBelow_16, T_isBelow_17, T_isBelow_31, T_isBelow_64, T_isBelow_256, T_isBelow_65536, T_in_1, T_in_2, T_in_3, T_in_4, T_in_5, T_in_8, T_in_11, T_in_16, T_in_30, T_in_63, T_in_255, T_in_65535, T_isIsland, T_isEight, bd_s, nm_s, bI_0, gd_n, gd_01, nI_cl, nI_add, nI_1, m4, Bool.false_eq_true, not_true_eq_false, not_false_eq_true, ↓reduceIte, a0, a1, a2, if_pos a3, hb, cwet, bit_is w0.wet hp, b]) (by simp (disch := omega) only [F_X12_placeIs, F_X12_placeIs_0, T_isBelow_2, T_isBelow_3, T_isBelow_4, T_isBelow_6, T_isBelow_8, T_isBelow_9, T_isBelow_10, T_isBelow_12, T_isBelow_16, T_isBelow_17, T_isBelow_31, T_isBelow_64, T_isBelow_256, T_isBelow_65536, T_in_1, T_in_2, T_in_3, T_in_4, T_in_5, T_in_8, T_in_11, T_in_16, T_in_30, T_in_63, T_in_255, T_in_65535, T_isIsland, T_isEight, bd_s, nm_s, bI_0, gd_n, gd_01, nI_cl, nI_add, nI_1, m4, Bool.false_eq_true, not_true_eq_false, not_false_eq_true, ↓reduceIte, g1, a0, a1, a2, if_pos a3, T_isPlace w0 w3, mwet, T_has (And.intro w0.wet hp), b])
  by_cases a4 : x2 = 4
  · exact Both.no (e2 (wFli W p)) hn hR (by rw [E1]; simp (disch := omega) only [F_X10_ofPlace, F_X10_ofPlace_0, T_isBelow_2, T_isBelow_3, T_isBelow_4, T_isBelow_6, T_isBelow_8, T_isBelow_9, T_isBelow_10, T_isBelow_12, T_isBelow_16, T_isBelow_17, T_isBelow_31, T_isBelow_64, T_isBelow_256, T_isBelow_65536, T_in_1, T_in_2, T_in_3, T_in_4, T_in_5, T_in_8, T_in_11, T_in_16, T_in_30, T_in_63, T_in_255, T_in_65535, T_isIsland, T_isEight, bd_s, nm_s, bI_0, gd_n, gd_01, nI_cl, nI_add, nI_1, m4, Bool.false_eq_true, not_true_eq_false, not_false_eq_true, ↓reduceIte, a0, a1, a2, a3, if_pos a4, hb, cfli, e12s hfli]) (by simp (disch := omega) only [F_X12_placeIs, F_X12_placeIs_0, T_isBelow_2, T_isBelow_3, T_isBelow_4, T_isBelow_6, T_isBelow_8, T_isBelow_9, T_isBelow_10, T_isBelow_12, T_isBelow_16, T_isBelow_17, T_isBelow_31, T_isBelow_64, T_isBelow_256, T_isBelow_65536, T_in_1, T_in_2, T_in_3, T_in_4, T_in_5, T_in_8, T_in_11, T_in_16, T_in_30, T_in_63, T_in_255, T_in_65535, T_isIsland, T_isEight, bd_s, nm_s, bI_0, gd_n, gd_01, nI_cl, nI_add, nI_1, m4, Bool.false_eq_true, not_true_eq_false, not_false_eq_true, ↓reduceIte, g1, a0, a1, a2, a3, if_pos a4, T_isPlace w0 w3, mfli])
  by_cases a5 : x2 = 5
  · exact Both.no (nI (keysW W p)) hn hR (by rw [E1]; simp (disch := omega) only [F_X10_ofPlace, F_X10_ofPlace_0, T_isBelow_2, T_isBelow_3, T_isBelow_4, T_isBelow_6, T_isBelow_8, T_isBelow_9, T_isBelow_10, T_isBelow_12, T_isBelow_16, T_isBelow_17, T_isBelow_31, T_isBelow_64, T_isBelow_256, T_isBelow_65536, T_in_1, T_in_2, T_in_3, T_in_4, T_in_5, T_in_8, T_in_11, T_in_16, T_in_30, T_in_63, T_in_255, T_in_65535, T_isIsland, T_isEight, bd_s, nm_s, bI_0, gd_n, gd_01, nI_cl, nI_add, nI_1, m4, Bool.false_eq_true, not_true_eq_false, not_false_eq_true, ↓reduceIte, a0, a1, a2, a3, a4, if_pos a5, hb, T_keysIn w0 w2 (show p < 16 by omega)]) (by simp (disch := omega) only [F_X12_placeIs, F_X12_placeIs_0, T_isBelow_2, T_isBelow_3, T_isBelow_4, T_isBelow_6, T_isBelow_8, T_isBelow_9, T_isBelow_10, T_isBelow_12, T_isBelow_16, T_isBelow_17, T_isBelow_31, T_isBelow_64, T_isBelow_256, T_isBelow_65536, T_in_1, T_in_2, T_in_3, T_in_4, T_in_5, T_in_8, T_in_11, T_in_16, T_in_30, T_in_63, T_in_255, T_in_65535, T_isIsland, T_isEight, bd_s, nm_s, bI_0, gd_n, gd_01, nI_cl, nI_add, nI_1, m4, Bool.false_eq_true, not_true_eq_false, not_false_eq_true, ↓reduceIte, g1, a0, a1, a2, a3, a4, if_pos a5, T_isPlace w0 w3, T_keysAt w0 w3 (show p < 16 by omega)])
  by_cases a6 : x2 = 6
  · exact Both.no (nI (levW W 8 p)) hn hR (by rw [E1]; simp (disch := omega) only [F_X10_ofPlace, F_X10_ofPlace_0, T_isBelow_2, T_isBelow_3, T_isBelow_4, T_isBelow_6, T_isBelow_8, T_isBelow_9, T_isBelow_10, T_isBelow_12, T_isBelow_16, T_isBelow_17, T_isBelow_31, T_isBelow_64, T_isBelow_256, T_isBelow_65536, T_in_1, T_in_2, T_in_3, T_in_4, T_in_5, T_in_8, T_in_11, T_in_16, T_in_30, T_in_63, T_in_255, T_in_65535, T_isIsland, T_isEight, bd_s, nm_s, bI_0, gd_n, gd_01, nI_cl, nI_add, nI_1, m4, Bool.false_eq_true, not_true_eq_false, not_false_eq_true, ↓reduceIte, a0, a1, a2, a3, a4, a5, if_pos a6, hb, t_around w0 w2 hp, T_bitCount (ancs_lt w0 hp), pop_lev w0 p hp]) (by simp (disch := omega) only [F_X12_placeIs, F_X12_placeIs_0, T_isBelow_2, T_isBelow_3, T_isBelow_4, T_isBelow_6, T_isBelow_8, T_isBelow_9, T_isBelow_10, T_isBelow_12, T_isBelow_16, T_isBelow_17, T_isBelow_31, T_isBelow_64, T_isBelow_256, T_isBelow_65536, T_in_1, T_in_2, T_in_3, T_in_4, T_in_5, T_in_8, T_in_11, T_in_16, T_in_30, T_in_63, T_in_255, T_in_65535, T_isIsland, T_isEight, bd_s, nm_s, bI_0, gd_n, gd_01, nI_cl, nI_add, nI_1, m4, Bool.false_eq_true, not_true_eq_false, not_false_eq_true, ↓reduceIte, g1, a0, a1, a2, a3, a4, a5, if_pos a6, T_isPlace w0 w3, t_levels w0 w3 hp])
  exact Both.no (-1) hn hR (by rw [E1]; simp (disch := omega) only [F_X10_ofPlace, F_X10_ofPlace_0, T_isBelow_2, T_isBelow_3, T_isBelow_4, T_isBelow_6, T_isBelow_8, T_isBelow_9, T_isBelow_10, T_isBelow_12, T_isBelow_16, T_isBelow_17, T_isBelow_31, T_isBelow_64, T_isBelow_256, T_isBelow_65536, T_in_1, T_in_2, T_in_3, T_in_4, T_in_5, T_in_8, T_in_11, T_in_16, T_in_30, T_in_63, T_in_255, T_in_65535, T_isIsland, T_isEight, bd_s, nm_s, bI_0, gd_n, gd_01, nI_cl, nI_add, nI_1, m4, Bool.false_eq_true, not_true_eq_false, not_false_eq_true, ↓reduceIte, a0, a1, a2, a3, a4, a5, a6, hb]) (by simp (disch := omega) only [F_X12_placeIs, F_X12_placeIs_0, T_isBelow_2, T_isBelow_3, T_isBelow_4, T_isBelow_6, T_isBelow_8, T_isBelow_9, T_isBelow_10, T_isBelow_12, T_isBelow_16, T_isBelow_17, T_isBelow_31, T_isBelow_64, T_isBelow_256, T_isBelow_65536, T_in_1, T_in_2, T_in_3, T_in_4, T_in_5, T_in_8, T_in_11, T_in_16, T_in_30, T_in_63, T_in_255, T_in_65535, T_isIsland, T_isEight, bd_s, nm_s, bI_0, gd_n, gd_01, nI_cl, nI_add, nI_1, m4, Bool.false_eq_true, not_true_eq_false, not_false_eq_true, ↓reduceIte, g1, a0, a1, a2, a3, a4, a5, a6, T_isPlace w0 w3])
theorem T_isToldE {E i : Nat} {σ : zSt} (hE : E < 256) (hi : i < 8) (e : σ.1 65 0 = nI E) : F_X0_isTold (nI i) σ = some (bI (E.testBit i = true), σ) := by
  have hb : bel (nI i) 8 := bel_t (by omega)
  unfold F_X0_isTold F_X0_isTold_0
  rw [T_isBelow_8, bd_s, bI_t hb, if_neg (by decide), e]
  by_cases h : E.testBit i = true
  · rw [if_pos ((bit_is hE hi).mpr h), bI_t h]
  · rw [if_neg (fun q => h ((bit_is hE hi).mp q)), bI_f h]
theorem s_egg {n : Nat} {σ : zSt} (hn : n < 512) (hR : Rel n σ) (x1 x2 : Int32) (hx : x2 = 0 ∨ x2 = 1) : Both n (F_X11_egg x1 x2) (F_X12_egg x1 x2) σ := by
  by_cases h1 : bel x1 8
  rotate_left
  · exact Both.no 0 hn hR (by simp (disch := omega) only [F_X11_egg, F_X11_egg_0, F_X0_tell, F_X0_tell_0, F_X12_egg, F_X12_egg_0, T_isBelow_2, T_isBelow_3, T_isBelow_4, T_isBelow_6, T_isBelow_8, T_isBelow_9, T_isBelow_10, T_isBelow_12, T_isBelow_16, T_isBelow_17, T_isBelow_31, T_isBelow_64, T_isBelow_256, T_isBelow_65536, T_in_1, T_in_2, T_in_3, T_in_4, T_in_5, T_in_8, T_in_11, T_in_16, T_in_30, T_in_63, T_in_255, T_in_65535, T_isIsland, T_isEight, bd_s, nm_s, bI_0, gd_n, gd_01, nI_cl, nI_add, nI_1, m4, Bool.false_eq_true, not_true_eq_false, not_false_eq_true, ↓reduceIte, h1, gd_t (show (0 : Int32) = 0 ∨ (0 : Int32) = 1 from Or.inl rfl), gd_t (show (1 : Int32) = 0 ∨ (1 : Int32) = 1 from Or.inr rfl)]) (by simp (disch := omega) only [F_X11_egg, F_X11_egg_0, F_X0_tell, F_X0_tell_0, F_X12_egg, F_X12_egg_0, T_isBelow_2, T_isBelow_3, T_isBelow_4, T_isBelow_6, T_isBelow_8, T_isBelow_9, T_isBelow_10, T_isBelow_12, T_isBelow_16, T_isBelow_17, T_isBelow_31, T_isBelow_64, T_isBelow_256, T_isBelow_65536, T_in_1, T_in_2, T_in_3, T_in_4, T_in_5, T_in_8, T_in_11, T_in_16, T_in_30, T_in_63, T_in_255, T_in_65535, T_isIsland, T_isEight, bd_s, nm_s, bI_0, gd_n, gd_01, nI_cl, nI_add, nI_1, m4, Bool.false_eq_true, not_true_eq_false, not_false_eq_true, ↓reduceIte, h1, gd_t (show (0 : Int32) = 0 ∨ (0 : Int32) = 1 from Or.inl rfl), gd_t (show (1 : Int32) = 0 ∨ (1 : Int32) = 1 from Or.inr rfl)])
  obtain ⟨i, hi, rfl⟩ := bel_of h1
  obtain ⟨E, te, hE, e1, e2, e3⟩ := hR.2.2.2.2.2.1
  have hb : bel (nI i) 8 := h1
  by_cases hb2 : bI (E.testBit i = true) = x2
  · exact Both.no 0 hn hR (by simp (disch := omega) only [F_X11_egg, F_X11_egg_0, F_X0_tell, F_X0_tell_0, T_isBelow_2, T_isBelow_3, T_isBelow_4, T_isBelow_6, T_isBelow_8, T_isBelow_9, T_isBelow_10, T_isBelow_12, T_isBelow_16, T_isBelow_17, T_isBelow_31, T_isBelow_64, T_isBelow_256, T_isBelow_65536, T_in_1, T_in_2, T_in_3, T_in_4, T_in_5, T_in_8, T_in_11, T_in_16, T_in_30, T_in_63, T_in_255, T_in_65535, T_isIsland, T_isEight, bd_s, nm_s, bI_0, gd_n, gd_01, nI_cl, nI_add, nI_1, m4, Bool.false_eq_true, not_true_eq_false, not_false_eq_true, ↓reduceIte, hb, T_isToldE hE hi e1, if_pos hb2, gd_t (show (0 : Int32) = 0 ∨ (0 : Int32) = 1 from Or.inl rfl), gd_t (show (1 : Int32) = 0 ∨ (1 : Int32) = 1 from Or.inr rfl)]) (by simp (disch := omega) only [F_X12_egg, F_X12_egg_0, T_isBelow_2, T_isBelow_3, T_isBelow_4, T_isBelow_6, T_isBelow_8, T_isBelow_9, T_isBelow_10, T_isBelow_12, T_isBelow_16, T_isBelow_17, T_isBelow_31, T_isBelow_64, T_isBelow_256, T_isBelow_65536, T_in_1, T_in_2, T_in_3, T_in_4, T_in_5, T_in_8, T_in_11, T_in_16, T_in_30, T_in_63, T_in_255, T_in_65535, T_isIsland, T_isEight, bd_s, nm_s, bI_0, gd_n, gd_01, nI_cl, nI_add, nI_1, m4, Bool.false_eq_true, not_true_eq_false, not_false_eq_true, ↓reduceIte, hb, e2, T_has (And.intro hE hi), if_pos hb2])
  have key : ∃ v, v < 256 ∧ nI E ^^^ ((1 : Int32) <<< (nI i &&& 31)) = nI v ∧ (if x2 = 0 then (nI E &&& (((1 : Int32) <<< (nI i &&& 31)) ^^^ (-1 : Int32))) else (nI E ||| ((1 : Int32) <<< (nI i &&& 31)))) = nI v := by
    by_cases t : E.testBit i = true
    · have q : x2 = 0 := hx.resolve_right (fun r => hb2 (by rw [bI_t t, r]))
      refine ⟨_, wet_lt hE, (bit_xor8 E hE i hi).trans (if_pos t), ?_⟩
      rw [if_pos q, bit_clr E hE i hi]
    · have q : ¬ x2 = 0 := fun r => hb2 (by rw [bI_f t, r])
      refine ⟨E ||| 2 ^ i, or_lt hE (pow_lt8 hi), (bit_xor8 E hE i hi).trans (if_neg t), ?_⟩
      rw [if_neg q, bit_1 i hi, nI_or]
  obtain ⟨v, hv, k1, k2⟩ := key
  apply Both.mk (r := 1) (σ1 := zwr σ 65 0 (nI v)) (σ2 := zwr (zwr σ 65 0 (nI v)) 69 59 (nI v))
  · simp (disch := omega) only [F_X11_egg, F_X11_egg_0, F_X0_tell, F_X0_tell_0, T_isBelow_2, T_isBelow_3, T_isBelow_4, T_isBelow_6, T_isBelow_8, T_isBelow_9, T_isBelow_10, T_isBelow_12, T_isBelow_16, T_isBelow_17, T_isBelow_31, T_isBelow_64, T_isBelow_256, T_isBelow_65536, T_in_1, T_in_2, T_in_3, T_in_4, T_in_5, T_in_8, T_in_11, T_in_16, T_in_30, T_in_63, T_in_255, T_in_65535, T_isIsland, T_isEight, bd_s, nm_s, bI_0, gd_n, gd_01, nI_cl, nI_add, nI_1, m4, Bool.false_eq_true, not_true_eq_false, not_false_eq_true, ↓reduceIte, hb, T_isToldE hE hi e1, hb2, e1, k1, gd_t (show (0 : Int32) = 0 ∨ (0 : Int32) = 1 from Or.inl rfl), gd_t (show (1 : Int32) = 0 ∨ (1 : Int32) = 1 from Or.inr rfl)]
  · simp (disch := omega) only [F_X12_egg, F_X12_egg_0, T_isBelow_2, T_isBelow_3, T_isBelow_4, T_isBelow_6, T_isBelow_8, T_isBelow_9, T_isBelow_10, T_isBelow_12, T_isBelow_16, T_isBelow_17, T_isBelow_31, T_isBelow_64, T_isBelow_256, T_isBelow_65536, T_in_1, T_in_2, T_in_3, T_in_4, T_in_5, T_in_8, T_in_11, T_in_16, T_in_30, T_in_63, T_in_255, T_in_65535, T_isIsland, T_isEight, bd_s, nm_s, bI_0, gd_n, gd_01, nI_cl, nI_add, nI_1, m4, Bool.false_eq_true, not_true_eq_false, not_false_eq_true, ↓reduceIte, hb, zwr_r, Nat.reduceEqDiff, e2, T_has (And.intro hE hi), hb2, k2]
  exact Rel_E hn hR ((eqOn_wr (by decide)).tr (eqOn_wr (by decide))) ⟨v, te, hv, rfl, rfl, e3⟩
theorem T_in_10 {x : Int32} {σ : zSt} : F_X12_in x 10 17 σ = some (bI (10 ≤ x.toInt ∧ x.toInt ≤ 17), σ) := T_in
theorem T_in_100 {x : Int32} {σ : zSt} : F_X12_in x 100 115 σ = some (bI (100 ≤ x.toInt ∧ x.toInt ≤ 115), σ) := T_in
theorem s_count {n : Nat} {σ : zSt} (hn : n < 512) (hR : Rel n σ) (x1 : Int32) : Both n (F_X11_count x1) (F_X12_count x1) σ := by
  obtain ⟨-, ⟨W, w0, w1, w2, w3⟩, -, ⟨m, tp, t0, t1, t2, t3⟩, ⟨k, l0, l1, l2, l3⟩, ⟨E, te, g0, g1, g2, g3⟩, -⟩ := id hR
  obtain ⟨c1, c2, c3, c4, c5, c6, c7, c8, c9, c10, c11, c12, c13⟩ := w2
  obtain ⟨d1, d2, d3, d4, d5, d6, d7, d8, d9, d10, d11, d12, d13⟩ := w3
  simp only [Nat.reduceAdd] at c2 c3 c4 c5 c6 d2 d3 d4 d5 d6 d7 d8 d9 d10 d11 d12 d13
  by_cases a : 10 ≤ x1.toInt ∧ x1.toInt ≤ 17
  · obtain ⟨j, hj, rfl⟩ := i_of (n := 18) (x := x1) (by omega) (by omega)
    rw [i_nI (by omega)] at a
    have hj2 : 10 ≤ j := by omega
    have e16 := key16 w0 (show j - 10 < 8 by omega)
    refine Both.no (e2 (wKey W (j - 10))) hn hR ?_ ?_
    · simp (disch := omega) only [F_X11_count, F_X11_count_0, T_isBelow_2, T_isBelow_3, T_isBelow_4, T_isBelow_6, T_isBelow_8, T_isBelow_9, T_isBelow_10, T_isBelow_12, T_isBelow_16, T_isBelow_17, T_isBelow_31, T_isBelow_64, T_isBelow_256, T_isBelow_65536, T_in_1, T_in_2, T_in_3, T_in_4, T_in_5, T_in_8, T_in_11, T_in_16, T_in_30, T_in_63, T_in_255, T_in_65535, T_isIsland, T_isEight, bd_s, nm_s, bI_0, gd_n, gd_01, nI_cl, nI_add, nI_1, m4, Bool.false_eq_true, not_true_eq_false, not_false_eq_true, ↓reduceIte, lt_lit, lit_le, lit_sub, if_pos, if_neg, c6, e12s e16]
    · have A : (10 : Int) ≤ (nI j).toInt ∧ (nI j).toInt ≤ 17 := by rw [i_nI (by omega)]; omega
      simp (disch := omega) only [F_X12_count, F_X12_count_0, T_isBelow_2, T_isBelow_3, T_isBelow_4, T_isBelow_6, T_isBelow_8, T_isBelow_9, T_isBelow_10, T_isBelow_12, T_isBelow_16, T_isBelow_17, T_isBelow_31, T_isBelow_64, T_isBelow_256, T_isBelow_65536, T_in_1, T_in_2, T_in_3, T_in_4, T_in_5, T_in_8, T_in_11, T_in_16, T_in_30, T_in_63, T_in_255, T_in_65535, T_isIsland, T_isEight, bd_s, nm_s, bI_0, gd_n, gd_01, nI_cl, nI_add, nI_1, m4, Bool.false_eq_true, not_true_eq_false, not_false_eq_true, ↓reduceIte, eq_lit, lit_sub, if_pos, if_neg, T_in_10, A, d6]
  by_cases b : 100 ≤ x1.toInt ∧ x1.toInt ≤ 115
  · obtain ⟨j, hj, rfl⟩ := i_of (n := 116) (x := x1) (by omega) (by omega)
    have b' := b
    rw [i_nI (by omega)] at b'
    have hj2 : 100 ≤ j := by omega
    refine Both.no (nI (wWay W (j - 100))) hn hR ?_ ?_
    · simp (disch := omega) only [F_X11_count, F_X11_count_0, F_X11_count_37, T_isBelow_2, T_isBelow_3, T_isBelow_4, T_isBelow_6, T_isBelow_8, T_isBelow_9, T_isBelow_10, T_isBelow_12, T_isBelow_16, T_isBelow_17, T_isBelow_31, T_isBelow_64, T_isBelow_256, T_isBelow_65536, T_in_1, T_in_2, T_in_3, T_in_4, T_in_5, T_in_8, T_in_11, T_in_16, T_in_30, T_in_63, T_in_255, T_in_65535, T_isIsland, T_isEight, bd_s, nm_s, bI_0, gd_n, gd_01, nI_cl, nI_add, nI_1, m4, Bool.false_eq_true, not_true_eq_false, not_false_eq_true, ↓reduceIte, lt_lit, lit_le, lit_sub, if_pos, if_neg, c1]
    · simp (disch := omega) only [F_X12_count, F_X12_count_0, T_isBelow_2, T_isBelow_3, T_isBelow_4, T_isBelow_6, T_isBelow_8, T_isBelow_9, T_isBelow_10, T_isBelow_12, T_isBelow_16, T_isBelow_17, T_isBelow_31, T_isBelow_64, T_isBelow_256, T_isBelow_65536, T_in_1, T_in_2, T_in_3, T_in_4, T_in_5, T_in_8, T_in_11, T_in_16, T_in_30, T_in_63, T_in_255, T_in_65535, T_isIsland, T_isEight, bd_s, nm_s, bI_0, gd_n, gd_01, nI_cl, nI_add, nI_1, m4, Bool.false_eq_true, not_true_eq_false, not_false_eq_true, ↓reduceIte, eq_lit, lit_sub, if_pos, if_neg, T_in_10, T_in_100, a, b, d1]
  have E1 : F_X11_count x1 σ = F_X11_count_62 x1 σ := by
    have a' : x1 < 10 ∨ (18 : Int32) ≤ x1 := by
      rw [i_lt, i_le]
      have q1 : (10 : Int32).toInt = 10 := rfl
      have q2 : (18 : Int32).toInt = 18 := rfl
      omega
    have b' : x1 < 100 ∨ (116 : Int32) ≤ x1 := by
      rw [i_lt, i_le]
      have q1 : (100 : Int32).toInt = 100 := rfl
      have q2 : (116 : Int32).toInt = 116 := rfl
      omega
    have E0 : F_X11_count x1 σ = F_X11_count_37 x1 σ := by
      unfold F_X11_count F_X11_count_0
      by_cases q : x1 < 10
      · rw [if_pos q]
      · rw [if_neg q, if_pos (a'.resolve_left q)]
    rw [E0]
    unfold F_X11_count_37
    by_cases q : x1 < 100
    · rw [if_pos q]
    · rw [if_neg q, if_pos (b'.resolve_left q)]
  by_cases z0 : x1 = 0
  · exact Both.no (nI (wTol W)) hn hR (by rw [E1]; simp only [F_X11_count_62, if_pos z0, ↓reduceIte, c7]) (by simp only [F_X12_count, F_X12_count_0, if_pos z0, ↓reduceIte, d7])
  by_cases z1 : x1 = 1
  · exact Both.no (nI (wHea W)) hn hR (by rw [E1]; simp only [F_X11_count_62, z0, if_pos z1, ↓reduceIte, c9]) (by simp only [F_X12_count, F_X12_count_0, z0, if_pos z1, ↓reduceIte, d9])
  by_cases z2 : x1 = 2
  · exact Both.no (nI k) hn hR (by rw [E1]; simp only [F_X11_count_62, z0, z1, if_pos z2, ↓reduceIte, l1]) (by simp only [F_X12_count, F_X12_count_0, z0, z1, if_pos z2, ↓reduceIte, l2])
  by_cases z3 : x1 = 3
  · exact Both.no (nI m) hn hR (by rw [E1]; simp only [F_X11_count_62, z0, z1, z2, if_pos z3, ↓reduceIte, t1]) (by simp only [F_X12_count, F_X12_count_0, z0, z1, z2, if_pos z3, ↓reduceIte, t2])
  by_cases z4 : x1 = 4
  · exact Both.no (nI (wX W)) hn hR (by rw [E1]; simp only [F_X11_count_62, z0, z1, z2, z3, if_pos z4, ↓reduceIte, c13]) (by simp only [F_X12_count, F_X12_count_0, z0, z1, z2, z3, if_pos z4, ↓reduceIte, d13])
  by_cases z5 : x1 = 5
  · exact Both.no (nI (wNig W)) hn hR (by rw [E1]; simp only [F_X11_count_62, z0, z1, z2, z3, z4, if_pos z5, ↓reduceIte, c10]) (by simp only [F_X12_count, F_X12_count_0, z0, z1, z2, z3, z4, if_pos z5, ↓reduceIte, d10])
  by_cases z6 : x1 = 6
  · exact Both.no (nI (wDus W)) hn hR (by rw [E1]; simp only [F_X11_count_62, z0, z1, z2, z3, z4, z5, if_pos z6, ↓reduceIte, c11]) (by simp only [F_X12_count, F_X12_count_0, z0, z1, z2, z3, z4, z5, if_pos z6, ↓reduceIte, d11])
  by_cases z7 : x1 = 7
  · exact Both.no (nI (wSai W)) hn hR (by rw [E1]; simp only [F_X11_count_62, z0, z1, z2, z3, z4, z5, z6, if_pos z7, ↓reduceIte, c12]) (by simp only [F_X12_count, F_X12_count_0, z0, z1, z2, z3, z4, z5, z6, if_pos z7, ↓reduceIte, d12])
  by_cases z8 : x1 = 8
  · exact Both.no (nI E) hn hR (by rw [E1]; simp only [F_X11_count_62, z0, z1, z2, z3, z4, z5, z6, z7, if_pos z8, ↓reduceIte, g1]) (by simp only [F_X12_count, F_X12_count_0, z0, z1, z2, z3, z4, z5, z6, z7, if_pos z8, ↓reduceIte, g2])
  exact Both.no (-1) hn hR (by rw [E1]; simp only [F_X11_count_62, z0, z1, z2, z3, z4, z5, z6, z7, z8, ↓reduceIte]) (by simp (disch := omega) only [F_X12_count, F_X12_count_0, T_isBelow_2, T_isBelow_3, T_isBelow_4, T_isBelow_6, T_isBelow_8, T_isBelow_9, T_isBelow_10, T_isBelow_12, T_isBelow_16, T_isBelow_17, T_isBelow_31, T_isBelow_64, T_isBelow_256, T_isBelow_65536, T_in_1, T_in_2, T_in_3, T_in_4, T_in_5, T_in_8, T_in_11, T_in_16, T_in_30, T_in_63, T_in_255, T_in_65535, T_isIsland, T_isEight, bd_s, nm_s, bI_0, gd_n, gd_01, nI_cl, nI_add, nI_1, m4, Bool.false_eq_true, not_true_eq_false, not_false_eq_true, ↓reduceIte, z0, z1, z2, z3, z4, z5, z6, z7, z8, T_in_10, T_in_100, a, b])
/-! PURE: keep, undo -/
def cpn (f g : Nat → Int32) (n : Nat) : Nat → Int32 := fun k => if k < n then f k else g k
theorem cpn_in {f g : Nat → Int32} {n k : Nat} (h : k < n) : cpn f g n k = f k := if_pos h
theorem cpn_0 {f g : Nat → Int32} : cpn f g 0 = g := funext (fun k => if_neg (Nat.not_lt_zero k))
theorem cpn_s {f g : Nat → Int32} {n : Nat} : upd (cpn f g n) n (f n) = cpn f g (n + 1) := by
  refine funext (fun k => ?_)
  unfold upd cpn
  by_cases h : k = n
  · subst h
    rw [if_pos rfl, if_pos (Nat.lt_succ_self k)]
  · rw [if_neg h]
    by_cases q : k < n
    · rw [if_pos q, if_pos (by omega)]
    · rw [if_neg q, if_neg (by omega)]
theorem va_cpn {f g : Nat → Int32} {n : Nat} : va_cpy f g 0 0 n = cpn f g n := by
  refine funext (fun k => ?_)
  unfold va_cpy cpn
  by_cases q : k < n
  · rw [if_pos q, if_pos ⟨Nat.zero_le k, by omega⟩, Nat.zero_add, Nat.sub_zero]
  · rw [if_neg q, if_neg (fun r => q (by omega))]
theorem zrow_zrow {σ : zSt} {c : Nat} {f g : Nat → Int32} : zrow (zrow σ c f) c g = zrow σ c g := by
  refine Prod.ext (funext (fun a => ?_)) rfl
  unfold zrow
  by_cases h : a = c
  · simp only [if_pos h]
  · simp only [if_neg h]
theorem zrow_same {σ : zSt} {c : Nat} : zrow σ c (σ.1 c) = σ := by
  refine Prod.ext (funext (fun a => ?_)) rfl
  unfold zrow
  by_cases h : a = c
  · subst h
    simp only [if_pos]
  · simp only [if_neg h]
theorem zwr_zrow {σ : zSt} {c j : Nat} {f : Nat → Int32} {v : Int32} : zwr (zrow σ c f) c j v = zrow σ c (upd f j v) := by
  unfold zwr
  rw [zrow_zrow, zrow_c]
theorem T_cp_70_105 (σ : zSt) : F_X12_copies_70_105 16 σ = some ((), zrow σ 105 (cpn (σ.1 70) (σ.1 105) 16)) := by
  unfold F_X12_copies_70_105 F_X12_copies_70_105_0
  have h := zfix_run (body := F_X12_copies_70_105_2L 16) (out := some ((), zrow σ 105 (cpn (σ.1 70) (σ.1 105) 16))) (fun i => (nI i, zrow σ 105 (cpn (σ.1 70) (σ.1 105) i))) 16 (by decide) (fun i w hi => ?_) (fun w => ?_)
  · simp only [cpn_0, zrow_same] at h
    exact h
  · show F_X12_copies_70_105_2 16 w (nI i) _ = _
    unfold F_X12_copies_70_105_2
    have e : (zrow σ 105 (cpn (σ.1 70) (σ.1 105) i)).1 70 = σ.1 70 := zrow_n (by decide)
    simp (disch := omega) only [lit_le, if_neg, gd_n, nm_s, nI_cl, e, zwr_zrow, cpn_s, nI_1]
  · show F_X12_copies_70_105_2 16 w (nI 16) _ = _
    unfold F_X12_copies_70_105_2
    simp (disch := omega) only [lit_le, if_pos]
theorem T_cp_71_106 (σ : zSt) : F_X12_copies_71_106 8 σ = some ((), zrow σ 106 (cpn (σ.1 71) (σ.1 106) 8)) := by
  unfold F_X12_copies_71_106 F_X12_copies_71_106_0
  have h := zfix_run (body := F_X12_copies_71_106_2L 8) (out := some ((), zrow σ 106 (cpn (σ.1 71) (σ.1 106) 8))) (fun i => (nI i, zrow σ 106 (cpn (σ.1 71) (σ.1 106) i))) 8 (by decide) (fun i w hi => ?_) (fun w => ?_)
  · simp only [cpn_0, zrow_same] at h
    exact h
  · show F_X12_copies_71_106_2 8 w (nI i) _ = _
    unfold F_X12_copies_71_106_2
    have e : (zrow σ 106 (cpn (σ.1 71) (σ.1 106) i)).1 71 = σ.1 71 := zrow_n (by decide)
    simp (disch := omega) only [lit_le, if_neg, gd_n, nm_s, nI_cl, e, zwr_zrow, cpn_s, nI_1]
  · show F_X12_copies_71_106_2 8 w (nI 8) _ = _
    unfold F_X12_copies_71_106_2
    simp (disch := omega) only [lit_le, if_pos]
theorem T_cp_72_107 (σ : zSt) : F_X12_copies_72_107 8 σ = some ((), zrow σ 107 (cpn (σ.1 72) (σ.1 107) 8)) := by
  unfold F_X12_copies_72_107 F_X12_copies_72_107_0
  have h := zfix_run (body := F_X12_copies_72_107_2L 8) (out := some ((), zrow σ 107 (cpn (σ.1 72) (σ.1 107) 8))) (fun i => (nI i, zrow σ 107 (cpn (σ.1 72) (σ.1 107) i))) 8 (by decide) (fun i w hi => ?_) (fun w => ?_)
  · simp only [cpn_0, zrow_same] at h
    exact h
  · show F_X12_copies_72_107_2 8 w (nI i) _ = _
    unfold F_X12_copies_72_107_2
    have e : (zrow σ 107 (cpn (σ.1 72) (σ.1 107) i)).1 72 = σ.1 72 := zrow_n (by decide)
    simp (disch := omega) only [lit_le, if_neg, gd_n, nm_s, nI_cl, e, zwr_zrow, cpn_s, nI_1]
  · show F_X12_copies_72_107_2 8 w (nI 8) _ = _
    unfold F_X12_copies_72_107_2
    simp (disch := omega) only [lit_le, if_pos]
theorem T_cp_73_108 (σ : zSt) : F_X12_copies_73_108 8 σ = some ((), zrow σ 108 (cpn (σ.1 73) (σ.1 108) 8)) := by
  unfold F_X12_copies_73_108 F_X12_copies_73_108_0
  have h := zfix_run (body := F_X12_copies_73_108_2L 8) (out := some ((), zrow σ 108 (cpn (σ.1 73) (σ.1 108) 8))) (fun i => (nI i, zrow σ 108 (cpn (σ.1 73) (σ.1 108) i))) 8 (by decide) (fun i w hi => ?_) (fun w => ?_)
  · simp only [cpn_0, zrow_same] at h
    exact h
  · show F_X12_copies_73_108_2 8 w (nI i) _ = _
    unfold F_X12_copies_73_108_2
    have e : (zrow σ 108 (cpn (σ.1 73) (σ.1 108) i)).1 73 = σ.1 73 := zrow_n (by decide)
    simp (disch := omega) only [lit_le, if_neg, gd_n, nm_s, nI_cl, e, zwr_zrow, cpn_s, nI_1]
  · show F_X12_copies_73_108_2 8 w (nI 8) _ = _
    unfold F_X12_copies_73_108_2
    simp (disch := omega) only [lit_le, if_pos]
theorem T_cp_74_109 (σ : zSt) : F_X12_copies_74_109 8 σ = some ((), zrow σ 109 (cpn (σ.1 74) (σ.1 109) 8)) := by
  unfold F_X12_copies_74_109 F_X12_copies_74_109_0
  have h := zfix_run (body := F_X12_copies_74_109_2L 8) (out := some ((), zrow σ 109 (cpn (σ.1 74) (σ.1 109) 8))) (fun i => (nI i, zrow σ 109 (cpn (σ.1 74) (σ.1 109) i))) 8 (by decide) (fun i w hi => ?_) (fun w => ?_)
  · simp only [cpn_0, zrow_same] at h
    exact h
  · show F_X12_copies_74_109_2 8 w (nI i) _ = _
    unfold F_X12_copies_74_109_2
    have e : (zrow σ 109 (cpn (σ.1 74) (σ.1 109) i)).1 74 = σ.1 74 := zrow_n (by decide)
    simp (disch := omega) only [lit_le, if_neg, gd_n, nm_s, nI_cl, e, zwr_zrow, cpn_s, nI_1]
  · show F_X12_copies_74_109_2 8 w (nI 8) _ = _
    unfold F_X12_copies_74_109_2
    simp (disch := omega) only [lit_le, if_pos]
theorem T_cp_75_110 (σ : zSt) : F_X12_copies_75_110 8 σ = some ((), zrow σ 110 (cpn (σ.1 75) (σ.1 110) 8)) := by
  unfold F_X12_copies_75_110 F_X12_copies_75_110_0
  have h := zfix_run (body := F_X12_copies_75_110_2L 8) (out := some ((), zrow σ 110 (cpn (σ.1 75) (σ.1 110) 8))) (fun i => (nI i, zrow σ 110 (cpn (σ.1 75) (σ.1 110) i))) 8 (by decide) (fun i w hi => ?_) (fun w => ?_)
  · simp only [cpn_0, zrow_same] at h
    exact h
  · show F_X12_copies_75_110_2 8 w (nI i) _ = _
    unfold F_X12_copies_75_110_2
    have e : (zrow σ 110 (cpn (σ.1 75) (σ.1 110) i)).1 75 = σ.1 75 := zrow_n (by decide)
    simp (disch := omega) only [lit_le, if_neg, gd_n, nm_s, nI_cl, e, zwr_zrow, cpn_s, nI_1]
  · show F_X12_copies_75_110_2 8 w (nI 8) _ = _
    unfold F_X12_copies_75_110_2
    simp (disch := omega) only [lit_le, if_pos]
theorem T_cp_105_70 (σ : zSt) : F_X12_copies_105_70 16 σ = some ((), zrow σ 70 (cpn (σ.1 105) (σ.1 70) 16)) := by
  unfold F_X12_copies_105_70 F_X12_copies_105_70_0
  have h := zfix_run (body := F_X12_copies_105_70_2L 16) (out := some ((), zrow σ 70 (cpn (σ.1 105) (σ.1 70) 16))) (fun i => (nI i, zrow σ 70 (cpn (σ.1 105) (σ.1 70) i))) 16 (by decide) (fun i w hi => ?_) (fun w => ?_)
  · simp only [cpn_0, zrow_same] at h
    exact h
  · show F_X12_copies_105_70_2 16 w (nI i) _ = _
    unfold F_X12_copies_105_70_2
    have e : (zrow σ 70 (cpn (σ.1 105) (σ.1 70) i)).1 105 = σ.1 105 := zrow_n (by decide)
    simp (disch := omega) only [lit_le, if_neg, gd_n, nm_s, nI_cl, e, zwr_zrow, cpn_s, nI_1]
  · show F_X12_copies_105_70_2 16 w (nI 16) _ = _
    unfold F_X12_copies_105_70_2
    simp (disch := omega) only [lit_le, if_pos]
theorem T_cp_106_71 (σ : zSt) : F_X12_copies_106_71 8 σ = some ((), zrow σ 71 (cpn (σ.1 106) (σ.1 71) 8)) := by
  unfold F_X12_copies_106_71 F_X12_copies_106_71_0
  have h := zfix_run (body := F_X12_copies_106_71_2L 8) (out := some ((), zrow σ 71 (cpn (σ.1 106) (σ.1 71) 8))) (fun i => (nI i, zrow σ 71 (cpn (σ.1 106) (σ.1 71) i))) 8 (by decide) (fun i w hi => ?_) (fun w => ?_)
  · simp only [cpn_0, zrow_same] at h
    exact h
  · show F_X12_copies_106_71_2 8 w (nI i) _ = _
    unfold F_X12_copies_106_71_2
    have e : (zrow σ 71 (cpn (σ.1 106) (σ.1 71) i)).1 106 = σ.1 106 := zrow_n (by decide)
    simp (disch := omega) only [lit_le, if_neg, gd_n, nm_s, nI_cl, e, zwr_zrow, cpn_s, nI_1]
  · show F_X12_copies_106_71_2 8 w (nI 8) _ = _
    unfold F_X12_copies_106_71_2
    simp (disch := omega) only [lit_le, if_pos]
theorem T_cp_107_72 (σ : zSt) : F_X12_copies_107_72 8 σ = some ((), zrow σ 72 (cpn (σ.1 107) (σ.1 72) 8)) := by
  unfold F_X12_copies_107_72 F_X12_copies_107_72_0
  have h := zfix_run (body := F_X12_copies_107_72_2L 8) (out := some ((), zrow σ 72 (cpn (σ.1 107) (σ.1 72) 8))) (fun i => (nI i, zrow σ 72 (cpn (σ.1 107) (σ.1 72) i))) 8 (by decide) (fun i w hi => ?_) (fun w => ?_)
  · simp only [cpn_0, zrow_same] at h
    exact h
  · show F_X12_copies_107_72_2 8 w (nI i) _ = _
    unfold F_X12_copies_107_72_2
    have e : (zrow σ 72 (cpn (σ.1 107) (σ.1 72) i)).1 107 = σ.1 107 := zrow_n (by decide)
    simp (disch := omega) only [lit_le, if_neg, gd_n, nm_s, nI_cl, e, zwr_zrow, cpn_s, nI_1]
  · show F_X12_copies_107_72_2 8 w (nI 8) _ = _
    unfold F_X12_copies_107_72_2
    simp (disch := omega) only [lit_le, if_pos]
theorem T_cp_108_73 (σ : zSt) : F_X12_copies_108_73 8 σ = some ((), zrow σ 73 (cpn (σ.1 108) (σ.1 73) 8)) := by
  unfold F_X12_copies_108_73 F_X12_copies_108_73_0
  have h := zfix_run (body := F_X12_copies_108_73_2L 8) (out := some ((), zrow σ 73 (cpn (σ.1 108) (σ.1 73) 8))) (fun i => (nI i, zrow σ 73 (cpn (σ.1 108) (σ.1 73) i))) 8 (by decide) (fun i w hi => ?_) (fun w => ?_)
  · simp only [cpn_0, zrow_same] at h
    exact h
  · show F_X12_copies_108_73_2 8 w (nI i) _ = _
    unfold F_X12_copies_108_73_2
    have e : (zrow σ 73 (cpn (σ.1 108) (σ.1 73) i)).1 108 = σ.1 108 := zrow_n (by decide)
    simp (disch := omega) only [lit_le, if_neg, gd_n, nm_s, nI_cl, e, zwr_zrow, cpn_s, nI_1]
  · show F_X12_copies_108_73_2 8 w (nI 8) _ = _
    unfold F_X12_copies_108_73_2
    simp (disch := omega) only [lit_le, if_pos]
theorem T_cp_109_74 (σ : zSt) : F_X12_copies_109_74 8 σ = some ((), zrow σ 74 (cpn (σ.1 109) (σ.1 74) 8)) := by
  unfold F_X12_copies_109_74 F_X12_copies_109_74_0
  have h := zfix_run (body := F_X12_copies_109_74_2L 8) (out := some ((), zrow σ 74 (cpn (σ.1 109) (σ.1 74) 8))) (fun i => (nI i, zrow σ 74 (cpn (σ.1 109) (σ.1 74) i))) 8 (by decide) (fun i w hi => ?_) (fun w => ?_)
  · simp only [cpn_0, zrow_same] at h
    exact h
  · show F_X12_copies_109_74_2 8 w (nI i) _ = _
    unfold F_X12_copies_109_74_2
    have e : (zrow σ 74 (cpn (σ.1 109) (σ.1 74) i)).1 109 = σ.1 109 := zrow_n (by decide)
    simp (disch := omega) only [lit_le, if_neg, gd_n, nm_s, nI_cl, e, zwr_zrow, cpn_s, nI_1]
  · show F_X12_copies_109_74_2 8 w (nI 8) _ = _
    unfold F_X12_copies_109_74_2
    simp (disch := omega) only [lit_le, if_pos]
theorem T_cp_110_75 (σ : zSt) : F_X12_copies_110_75 8 σ = some ((), zrow σ 75 (cpn (σ.1 110) (σ.1 75) 8)) := by
  unfold F_X12_copies_110_75 F_X12_copies_110_75_0
  have h := zfix_run (body := F_X12_copies_110_75_2L 8) (out := some ((), zrow σ 75 (cpn (σ.1 110) (σ.1 75) 8))) (fun i => (nI i, zrow σ 75 (cpn (σ.1 110) (σ.1 75) i))) 8 (by decide) (fun i w hi => ?_) (fun w => ?_)
  · simp only [cpn_0, zrow_same] at h
    exact h
  · show F_X12_copies_110_75_2 8 w (nI i) _ = _
    unfold F_X12_copies_110_75_2
    have e : (zrow σ 75 (cpn (σ.1 110) (σ.1 75) i)).1 110 = σ.1 110 := zrow_n (by decide)
    simp (disch := omega) only [lit_le, if_neg, gd_n, nm_s, nI_cl, e, zwr_zrow, cpn_s, nI_1]
  · show F_X12_copies_110_75_2 8 w (nI 8) _ = _
    unfold F_X12_copies_110_75_2
    simp (disch := omega) only [lit_le, if_pos]
/-- the world kept in other cells -/
theorem EC_k {c r c' r' : Nat} {W : zWo} {σ τ : zSt} (h : EC c r W σ) (a0 : ∀ j, j < 16 → τ.1 r' j = σ.1 r j) (a1 : ∀ j, j < 8 → τ.1 (r' + 1) j = σ.1 (r + 1) j) (a2 : ∀ j, j < 8 → τ.1 (r' + 2) j = σ.1 (r + 2) j) (a3 : ∀ j, j < 8 → τ.1 (r' + 3) j = σ.1 (r + 3) j) (a4 : ∀ j, j < 8 → τ.1 (r' + 4) j = σ.1 (r + 4) j) (a5 : ∀ j, j < 8 → τ.1 (r' + 5) j = σ.1 (r + 5) j) (b : ∀ i, 6 ≤ i → i < 13 → τ.1 c' i = σ.1 c i) : EC c' r' W τ := by
  obtain ⟨c1, c2, c3, c4, c5, c6, c7, c8, c9, c10, c11, c12, c13⟩ := h
  exact ⟨fun j hj => (a0 j hj).trans (c1 j hj), fun j hj => (a1 j hj).trans (c2 j hj), fun j hj => (a2 j hj).trans (c3 j hj), fun j hj => (a3 j hj).trans (c4 j hj), fun j hj => (a4 j hj).trans (c5 j hj), fun j hj => (a5 j hj).trans (c6 j hj), (b 6 (by decide) (by decide)).trans c7, (b 7 (by decide) (by decide)).trans c8, (b 8 (by decide) (by decide)).trans c9, (b 9 (by decide) (by decide)).trans c10, (b 10 (by decide) (by decide)).trans c11, (b 11 (by decide) (by decide)).trans c12, (b 12 (by decide) (by decide)).trans c13⟩
theorem EM_k {r b r' b' : Nat} {W : zWo} {σ τ : zSt} (h : EM r b W σ) (a0 : ∀ j, j < 16 → τ.1 r' j = σ.1 r j) (a1 : ∀ j, j < 8 → τ.1 (r' + 1) j = σ.1 (r + 1) j) (a2 : ∀ j, j < 8 → τ.1 (r' + 2) j = σ.1 (r + 2) j) (a3 : ∀ j, j < 8 → τ.1 (r' + 3) j = σ.1 (r + 3) j) (a4 : ∀ j, j < 8 → τ.1 (r' + 4) j = σ.1 (r + 4) j) (a5 : ∀ j, j < 8 → τ.1 (r' + 5) j = σ.1 (r + 5) j) (q : ∀ i, i < 7 → τ.1 69 (b' + i) = σ.1 69 (b + i)) : EM r' b' W τ := by
  obtain ⟨c1, c2, c3, c4, c5, c6, c7, c8, c9, c10, c11, c12, c13⟩ := h
  exact ⟨fun j hj => (a0 j hj).trans (c1 j hj), fun j hj => (a1 j hj).trans (c2 j hj), fun j hj => (a2 j hj).trans (c3 j hj), fun j hj => (a3 j hj).trans (c4 j hj), fun j hj => (a4 j hj).trans (c5 j hj), fun j hj => (a5 j hj).trans (c6 j hj), (q 0 (by decide)).trans c7, (q 1 (by decide)).trans c8, (q 2 (by decide)).trans c9, (q 4 (by decide)).trans c10, (q 5 (by decide)).trans c11, (q 6 (by decide)).trans c12, (q 3 (by decide)).trans c13⟩
theorem cases7 {P : Nat → Prop} (h6 : P 6) (h7 : P 7) (h8 : P 8) (h9 : P 9) (h10 : P 10) (h11 : P 11) (h12 : P 12) : ∀ i, 6 ≤ i → i < 13 → P i := by
  intro i h1 h2
  have e : i = 6 ∨ i = 7 ∨ i = 8 ∨ i = 9 ∨ i = 10 ∨ i = 11 ∨ i = 12 := by omega
  rcases e with rfl | rfl | rfl | rfl | rfl | rfl | rfl <;> assumption
theorem cases7' {P : Nat → Prop} (h6 : P 0) (h7 : P 1) (h8 : P 2) (h9 : P 3) (h10 : P 4) (h11 : P 5) (h12 : P 6) : ∀ i, i < 7 → P i := by
  intro i h2
  have e : i = 0 ∨ i = 1 ∨ i = 2 ∨ i = 3 ∨ i = 4 ∨ i = 5 ∨ i = 6 := by omega
  rcases e with rfl | rfl | rfl | rfl | rfl | rfl | rfl <;> assumption
theorem T_take_26_1 (σ : zSt) : wp (F_X10_takeOver_26_1 σ) (fun _ τ => (∀ j, j < 16 → τ.1 27 j = σ.1 2 j) ∧ (∀ j, j < 8 → τ.1 28 j = σ.1 3 j) ∧ (∀ j, j < 8 → τ.1 29 j = σ.1 4 j) ∧ (∀ j, j < 8 → τ.1 30 j = σ.1 5 j) ∧ (∀ j, j < 8 → τ.1 31 j = σ.1 6 j) ∧ (∀ j, j < 8 → τ.1 32 j = σ.1 7 j) ∧ (∀ i, 6 ≤ i → i < 13 → τ.1 26 i = σ.1 1 i) ∧ (∀ d, d ≠ 26 → (d < 27 ∨ 32 < d) → τ.1 d = σ.1 d)) := by
  unfold F_X10_takeOver_26_1 F_X10_takeOver_26_1_0
  simp only [nm_s, va_cpn]
  refine wp_some ⟨fun j hj => ?_, fun j hj => ?_, fun j hj => ?_, fun j hj => ?_, fun j hj => ?_, fun j hj => ?_, cases7 ?_ ?_ ?_ ?_ ?_ ?_ ?_, fun d h1 h2 => ?_⟩
  case refine_14 =>
    have e1 : d ≠ 27 := by omega
    have e2 : d ≠ 28 := by omega
    have e3 : d ≠ 29 := by omega
    have e4 : d ≠ 30 := by omega
    have e5 : d ≠ 31 := by omega
    have e6 : d ≠ 32 := by omega
    simp only [zwr_r, zrow_r, if_neg h1, if_neg e1, if_neg e2, if_neg e3, if_neg e4, if_neg e5, if_neg e6]
  all_goals simp (disch := omega) only [zwr_r, zrow_r, Nat.reduceEqDiff, ↓reduceIte, upd_r, cpn_in]
theorem T_take_1_26 (σ : zSt) : wp (F_X10_takeOver_1_26 σ) (fun _ τ => (∀ j, j < 16 → τ.1 2 j = σ.1 27 j) ∧ (∀ j, j < 8 → τ.1 3 j = σ.1 28 j) ∧ (∀ j, j < 8 → τ.1 4 j = σ.1 29 j) ∧ (∀ j, j < 8 → τ.1 5 j = σ.1 30 j) ∧ (∀ j, j < 8 → τ.1 6 j = σ.1 31 j) ∧ (∀ j, j < 8 → τ.1 7 j = σ.1 32 j) ∧ (∀ i, 6 ≤ i → i < 13 → τ.1 1 i = σ.1 26 i) ∧ (∀ d, d ≠ 1 → (d < 2 ∨ 7 < d) → τ.1 d = σ.1 d)) := by
  unfold F_X10_takeOver_1_26 F_X10_takeOver_1_26_0
  simp only [nm_s, va_cpn]
  refine wp_some ⟨fun j hj => ?_, fun j hj => ?_, fun j hj => ?_, fun j hj => ?_, fun j hj => ?_, fun j hj => ?_, cases7 ?_ ?_ ?_ ?_ ?_ ?_ ?_, fun d h1 h2 => ?_⟩
  case refine_14 =>
    have e1 : d ≠ 2 := by omega
    have e2 : d ≠ 3 := by omega
    have e3 : d ≠ 4 := by omega
    have e4 : d ≠ 5 := by omega
    have e5 : d ≠ 6 := by omega
    have e6 : d ≠ 7 := by omega
    simp only [zwr_r, zrow_r, if_neg h1, if_neg e1, if_neg e2, if_neg e3, if_neg e4, if_neg e5, if_neg e6]
  all_goals simp (disch := omega) only [zwr_r, zrow_r, Nat.reduceEqDiff, ↓reduceIte, upd_r, cpn_in]
theorem s_keep {n : Nat} {σ : zSt} (hn : n < 512) (hR : Rel n σ) : Both n F_X11_keep F_X12_keep σ := by
  obtain ⟨-, ⟨W, w0, w1, w2, w3⟩, -⟩ := id hR
  obtain ⟨_, τ, e, k0, k1, k2, k3, k4, k5, k6, k7⟩ := T_take_26_1 σ
  have eT : (zwr τ 0 2 1).1 1 6 = nI (wTol W) := (congrFun (k7 1 (by decide) (by decide)) 6).trans w2.2.2.2.2.2.2.1
  have E1 : F_X11_keep σ = some (nI (pop8 (wTol W)), zwr τ 0 2 1) := by
    unfold F_X11_keep F_X11_keep_0
    rw [e, bd_s, nm_s, eT, T_bitCount w0.told, bd_s]
  have E2 : wp (F_X12_keep (zwr τ 0 2 1)) (fun r υ => r = nI (pop8 (wTol W)) ∧ (∀ j, j < 16 → υ.1 105 j = τ.1 70 j) ∧ (∀ j, j < 8 → υ.1 106 j = τ.1 71 j) ∧ (∀ j, j < 8 → υ.1 107 j = τ.1 72 j) ∧ (∀ j, j < 8 → υ.1 108 j = τ.1 73 j) ∧ (∀ j, j < 8 → υ.1 109 j = τ.1 74 j) ∧ (∀ j, j < 8 → υ.1 110 j = τ.1 75 j) ∧ (∀ i, i < 7 → υ.1 69 (63 + i) = τ.1 69 (0 + i)) ∧ υ.1 69 62 = 1 ∧ υ.1 0 2 = 1 ∧ (∀ d, d ≠ 69 → d ≠ 0 → d < 105 → υ.1 d = τ.1 d) ∧ (∀ i, i < 62 → υ.1 69 i = τ.1 69 i)) := by
    unfold F_X12_keep F_X12_keep_0
    have mT : τ.1 69 0 = nI (wTol W) := (congrFun (k7 69 (by decide) (by decide)) 0).trans w3.2.2.2.2.2.2.1
    simp only [nm_s, T_cp_70_105, T_cp_71_106, T_cp_72_107, T_cp_73_108, T_cp_74_109, T_cp_75_110, bd_s, zwr_r, zrow_r, Nat.reduceEqDiff, ↓reduceIte, upd_r, mT, T_bits w0.told]
    refine wp_some ⟨rfl, fun j hj => ?_, fun j hj => ?_, fun j hj => ?_, fun j hj => ?_, fun j hj => ?_, fun j hj => ?_, cases7' ?_ ?_ ?_ ?_ ?_ ?_ ?_, ?_, ?_, fun d h1 h2 h3 => ?_, fun i hi => ?_⟩
    case refine_16 =>
      have e1 : d ≠ 105 := by omega
      have e2 : d ≠ 106 := by omega
      have e3 : d ≠ 107 := by omega
      have e4 : d ≠ 108 := by omega
      have e5 : d ≠ 109 := by omega
      have e6 : d ≠ 110 := by omega
      simp only [zwr_r, zrow_r, if_neg h1, if_neg h2, if_neg e1, if_neg e2, if_neg e3, if_neg e4, if_neg e5, if_neg e6]
    case refine_17 =>
      simp (disch := omega) only [zwr_r, zrow_r, Nat.reduceEqDiff, ↓reduceIte, upd_r, if_neg]
    all_goals simp (disch := omega) only [zwr_r, zrow_r, Nat.reduceEqDiff, ↓reduceIte, upd_r, cpn_in, Nat.zero_add, Nat.add_zero, Nat.reduceAdd, mT]
  obtain ⟨r, υ, e2, rfl, m0, m1, m2, m3, m4, m5, m6, m7, m8, m9, m10⟩ := E2
  refine Both.mk E1 e2 ?_
  have fr : ∀ d, d ≠ 69 → d ≠ 0 → d ≠ 26 → (d < 27 ∨ 32 < d) → d < 105 → υ.1 d = σ.1 d := fun d h1 h2 h3 h4 h5 => (m9 d h1 h2 h5).trans (k7 d h3 h4)
  have f69 : ∀ i, i < 62 → υ.1 69 i = σ.1 69 i := fun i hi => (m10 i hi).trans (congrFun (k7 69 (by decide) (by decide)) i)
  refine Rel_K hn hR ⟨fun c hc => ?_, fun q hq => ?_⟩ (Or.inr ⟨m8, m7, W, w0, Nat.le_succ_of_le w1, ?_, ?_⟩)
  · have h := List.all_eq_true.mp (show (((rowsC ++ rowsM) ++ rowsT ++ rowsL ++ rowsE ++ rowsO).filter (fun c => c != 104)).all (fun d => d != 69 && d != 0 && d != 26 && (decide (d < 27) || decide (32 < d)) && decide (d < 105)) = true by decide)
    by_cases c104 : c = 104
    · rw [c104]
      exact fr 104 (by decide) (by decide) (by decide) (by decide) (by decide)
    have h2 := h c (List.mem_filter.mpr ⟨hc, by simpa using c104⟩)
    simp only [Bool.and_eq_true, Bool.or_eq_true, decide_eq_true_eq, bne_iff_ne] at h2
    exact fr c h2.1.1.1.1 h2.1.1.1.2 h2.1.1.2 h2.1.2 h2.2
  · have h := List.all_eq_true.mp (show ((slotsC ++ slotsM) ++ slotsT ++ slotsL ++ slotsE).all (fun d => (d.1 == 69 && decide (d.2 < 62)) || (d.1 != 69 && d.1 != 0 && d.1 != 26 && (decide (d.1 < 27) || decide (32 < d.1)) && decide (d.1 < 105))) = true by decide) q hq
    simp only [Bool.and_eq_true, Bool.or_eq_true, decide_eq_true_eq, bne_iff_ne, beq_iff_eq] at h
    rcases h with h | h
    · rw [h.1]
      exact f69 q.2 h.2
    · rw [fr q.1 h.1.1.1.1 h.1.1.1.2 h.1.1.2 h.1.2 h.2]
  · refine EC_k (c := 1) (r := 2) w2 (fun j hj => ?_) (fun j hj => ?_) (fun j hj => ?_) (fun j hj => ?_) (fun j hj => ?_) (fun j hj => ?_) (fun i h1 h2 => ?_)
    · exact (congrFun (m9 27 (by decide) (by decide) (by decide)) j).trans (k0 j hj)
    · exact (congrFun (m9 28 (by decide) (by decide) (by decide)) j).trans (k1 j hj)
    · exact (congrFun (m9 29 (by decide) (by decide) (by decide)) j).trans (k2 j hj)
    · exact (congrFun (m9 30 (by decide) (by decide) (by decide)) j).trans (k3 j hj)
    · exact (congrFun (m9 31 (by decide) (by decide) (by decide)) j).trans (k4 j hj)
    · exact (congrFun (m9 32 (by decide) (by decide) (by decide)) j).trans (k5 j hj)
    · exact (congrFun (m9 26 (by decide) (by decide) (by decide)) i).trans (k6 i h1 h2)
  · have g : ∀ d, 33 < d → τ.1 d = σ.1 d := fun d hd => k7 d (by omega) (by omega)
    refine EM_k (r := 70) (b := 0) w3 (fun j hj => ?_) (fun j hj => ?_) (fun j hj => ?_) (fun j hj => ?_) (fun j hj => ?_) (fun j hj => ?_) (fun i h1 => ?_)
    · exact (m0 j hj).trans (congrFun (g 70 (by decide)) j)
    · exact (m1 j hj).trans (congrFun (g 71 (by decide)) j)
    · exact (m2 j hj).trans (congrFun (g 72 (by decide)) j)
    · exact (m3 j hj).trans (congrFun (g 73 (by decide)) j)
    · exact (m4 j hj).trans (congrFun (g 74 (by decide)) j)
    · exact (m5 j hj).trans (congrFun (g 75 (by decide)) j)
    · exact (m6 i h1).trans (congrFun (g 69 (by decide)) (0 + i))
theorem s_undo {n : Nat} {σ : zSt} (hn : n < 512) (hR : Rel n σ) : Both n F_X11_undo F_X12_undo σ := by
  obtain ⟨-, -, hK, -⟩ := id hR
  rcases hK with ⟨a1, a2⟩ | ⟨a1, a2, W, w0, w1, w2, w3⟩
  · refine Both.no 0 hn hR ?_ ?_
    · unfold F_X11_undo F_X11_undo_0
      rw [a1, if_pos rfl, gd_t (Or.inl rfl)]
    · unfold F_X12_undo F_X12_undo_0
      rw [a2, if_pos rfl]
  obtain ⟨_, τ, e, k0, k1, k2, k3, k4, k5, k6, k7⟩ := T_take_1_26 σ
  have t02 : τ.1 0 2 = 1 := (congrFun (k7 0 (by decide) (by decide)) 2).trans a1
  have E1 : F_X11_undo σ = some (1, τ) := by
    unfold F_X11_undo F_X11_undo_0
    rw [a1, if_neg (by decide), e, bd_s, t02, gd_t (Or.inr rfl)]
  have t69 : τ.1 69 62 = 1 := (congrFun (k7 69 (by decide) (by decide)) 62).trans a2
  have E2 : wp (F_X12_undo τ) (fun r υ => r = 1 ∧ (∀ j, j < 16 → υ.1 70 j = τ.1 105 j) ∧ (∀ j, j < 8 → υ.1 71 j = τ.1 106 j) ∧ (∀ j, j < 8 → υ.1 72 j = τ.1 107 j) ∧ (∀ j, j < 8 → υ.1 73 j = τ.1 108 j) ∧ (∀ j, j < 8 → υ.1 74 j = τ.1 109 j) ∧ (∀ j, j < 8 → υ.1 75 j = τ.1 110 j) ∧ (∀ i, i < 7 → υ.1 69 (0 + i) = τ.1 69 (63 + i)) ∧ (∀ d, d ≠ 69 → (d < 70 ∨ 75 < d) → υ.1 d = τ.1 d) ∧ (∀ i, 7 ≤ i → υ.1 69 i = τ.1 69 i)) := by
    unfold F_X12_undo F_X12_undo_0
    rw [t69, if_neg (by decide)]
    simp only [nm_s, T_cp_105_70, T_cp_106_71, T_cp_107_72, T_cp_108_73, T_cp_109_74, T_cp_110_75, bd_s]
    refine wp_some ⟨rfl, fun j hj => ?_, fun j hj => ?_, fun j hj => ?_, fun j hj => ?_, fun j hj => ?_, fun j hj => ?_, cases7' ?_ ?_ ?_ ?_ ?_ ?_ ?_, fun d h1 h2 => ?_, fun i hi => ?_⟩
    case refine_14 =>
      have e1 : d ≠ 70 := by omega
      have e2 : d ≠ 71 := by omega
      have e3 : d ≠ 72 := by omega
      have e4 : d ≠ 73 := by omega
      have e5 : d ≠ 74 := by omega
      have e6 : d ≠ 75 := by omega
      simp only [zwr_r, zrow_r, if_neg h1, if_neg e1, if_neg e2, if_neg e3, if_neg e4, if_neg e5, if_neg e6]
    case refine_15 =>
      simp (disch := omega) only [zwr_r, zrow_r, Nat.reduceEqDiff, ↓reduceIte, upd_r, if_neg]
    all_goals simp (disch := omega) only [zwr_r, zrow_r, Nat.reduceEqDiff, ↓reduceIte, upd_r, cpn_in, Nat.zero_add, Nat.add_zero, Nat.reduceAdd]
  obtain ⟨r, υ, e2, rfl, m0, m1, m2, m3, m4, m5, m6, m7, m8⟩ := E2
  refine Both.mk E1 e2 ?_
  have fr : ∀ d, d ≠ 69 → (d < 70 ∨ 75 < d) → d ≠ 1 → (d < 2 ∨ 7 < d) → υ.1 d = σ.1 d := fun d h1 h2 h3 h4 => (m7 d h1 h2).trans (k7 d h3 h4)
  have f69 : ∀ i, 7 ≤ i → υ.1 69 i = σ.1 69 i := fun i hi => (m8 i hi).trans (congrFun (k7 69 (by decide) (by decide)) i)
  have g : ∀ d, 7 < d → τ.1 d = σ.1 d := fun d hd => k7 d (by omega) (by omega)
  refine Rel_W hn hR ⟨fun c hc => ?_, fun q hq => ?_⟩ ⟨W, w0, Nat.le_succ_of_le w1, ?_, ?_⟩
  · have h2 := List.all_eq_true.mp (show ((rowsKC ++ rowsKM) ++ rowsT ++ rowsL ++ rowsE ++ rowsO).all (fun d => d != 69 && (decide (d < 70) || decide (75 < d)) && d != 1 && (decide (d < 2) || decide (7 < d))) = true by decide) c hc
    simp only [Bool.and_eq_true, Bool.or_eq_true, decide_eq_true_eq, bne_iff_ne] at h2
    exact fr c h2.1.1.1 h2.1.1.2 h2.1.2 h2.2
  · have h := List.all_eq_true.mp (show ((slotsKC ++ slotsKM) ++ slotsT ++ slotsL ++ slotsE).all (fun d => (d.1 == 69 && decide (7 ≤ d.2)) || (d.1 != 69 && (decide (d.1 < 70) || decide (75 < d.1)) && d.1 != 1 && (decide (d.1 < 2) || decide (7 < d.1)))) = true by decide) q hq
    simp only [Bool.and_eq_true, Bool.or_eq_true, decide_eq_true_eq, bne_iff_ne, beq_iff_eq] at h
    rcases h with h | h
    · rw [h.1]
      exact f69 q.2 h.2
    · rw [fr q.1 h.1.1.1 h.1.1.2 h.1.2 h.2]
  · refine EC_k (c := 26) (r := 27) w2 (fun j hj => ?_) (fun j hj => ?_) (fun j hj => ?_) (fun j hj => ?_) (fun j hj => ?_) (fun j hj => ?_) (fun i h1 h2 => ?_)
    · exact (congrFun (m7 2 (by decide) (by decide)) j).trans (k0 j hj)
    · exact (congrFun (m7 3 (by decide) (by decide)) j).trans (k1 j hj)
    · exact (congrFun (m7 4 (by decide) (by decide)) j).trans (k2 j hj)
    · exact (congrFun (m7 5 (by decide) (by decide)) j).trans (k3 j hj)
    · exact (congrFun (m7 6 (by decide) (by decide)) j).trans (k4 j hj)
    · exact (congrFun (m7 7 (by decide) (by decide)) j).trans (k5 j hj)
    · exact (congrFun (m7 1 (by decide) (by decide)) i).trans (k6 i h1 h2)
  · refine EM_k (r := 105) (b := 63) w3 (fun j hj => ?_) (fun j hj => ?_) (fun j hj => ?_) (fun j hj => ?_) (fun j hj => ?_) (fun j hj => ?_) (fun i h1 => ?_)
    · exact (m0 j hj).trans (congrFun (g 105 (by decide)) j)
    · exact (m1 j hj).trans (congrFun (g 106 (by decide)) j)
    · exact (m2 j hj).trans (congrFun (g 107 (by decide)) j)
    · exact (m3 j hj).trans (congrFun (g 108 (by decide)) j)
    · exact (m4 j hj).trans (congrFun (g 109 (by decide)) j)
    · exact (m5 j hj).trans (congrFun (g 110 (by decide)) j)
    · exact (m6 i h1).trans (congrFun (g 69 (by decide)) (63 + i))
/-! PURE: eggs and tests -/
theorem bI_eq {p q : Prop} : (bI p = bI q) = (p ↔ q) := by
  by_cases a : p
  · by_cases b : q
    · rw [bI_t a, bI_t b]
      exact (eq_true rfl).trans (eq_true ⟨fun _ => b, fun _ => a⟩).symm
    · rw [bI_t a, bI_f b]
      exact (eq_false (by decide)).trans (eq_false (fun r => b (r.mp a))).symm
  · by_cases b : q
    · rw [bI_f a, bI_t b]
      exact (eq_false (by decide)).trans (eq_false (fun r => a (r.mpr b))).symm
    · rw [bI_f a, bI_f b]
      exact (eq_true rfl).trans (eq_true ⟨fun r => absurd r a, fun r => absurd r b⟩).symm
def alkF (te : Nat → Nat) (i j T t : Nat) : Prop := ∀ s, t ≤ s → s < 6 → T.testBit s = true → (te s).testBit i = (te s).testBit j
theorem alkF_6 {te : Nat → Nat} {i j T : Nat} : alkF te i j T 6 := fun s h1 h2 => by omega
theorem alkF_s {te : Nat → Nat} {i j T t : Nat} (ht : t < 6) : alkF te i j T t ↔ (T.testBit t = true → (te t).testBit i = (te t).testBit j) ∧ alkF te i j T (t + 1) := by
  constructor
  · intro h
    exact ⟨fun q => h t (Nat.le_refl t) ht q, fun s h1 h2 => h s (by omega) h2⟩
  · intro ⟨h1, h2⟩ s a b c
    by_cases e : s = t
    · rw [e] at c ⊢
      exact h1 c
    · exact h2 s (by omega) b c
theorem b01_eq {m m' : Nat} {i j : Nat} (hm : m < 256) (hm' : m' < 256) (hi : i < 8) (hj : j < 8) : (((nI m >>> (nI i &&& 31)) &&& (1 : Int32)) = ((nI m' >>> (nI j &&& 31)) &&& (1 : Int32))) = (m.testBit i = m'.testBit j) := by
  rw [bit_01 m hm i hi, bit_01 m' hm' j hj]
  cases m.testBit i <;> cases m'.testBit j <;> decide
def TE (te : Nat → Nat) (σ : zSt) : Prop := ∀ t, t < 6 → te t < 256 ∧ σ.1 66 t = nI (te t) ∧ σ.1 103 t = nI (te t)
theorem T_alkC {te : Nat → Nat} {σ : zSt} (h : TE te σ) {i j T : Nat} (hi : i < 8) (hj : j < 8) (hT : T < 64) : F_X0_isShownAlike (nI i) (nI j) (nI T) σ = some (bI (alkF te i j T 0), σ) := by
  unfold F_X0_isShownAlike F_X0_isShownAlike_0
  refine zfix_out (fun t => (nI t, σ)) (fun t => some (bI (alkF te i j T t), σ)) 6 (by decide) (fun t w ht ih => ?_) (fun w => ?_) 0 (by decide)
  · show F_X0_isShownAlike_3 (nI i) (nI j) (nI T) w (nI t) σ = _
    obtain ⟨a1, a2, a3⟩ := h t ht
    unfold F_X0_isShownAlike_3 F_X0_isShownAlike_47
    simp (disch := omega) only [lit_le, if_neg, nm_s, nI_1, gd_n, nI_cl, a2, bit_is, b01_eq a1 a1 hi hj]
    rw [ih]
    by_cases q : T.testBit t = true
    · rw [if_pos q]
      by_cases r : (te t).testBit i = (te t).testBit j
      · rw [if_pos r, bI_c (alkF_s ht)]
        exact congrArg (fun x => some (x, σ)) (bI_c ⟨fun g => ⟨fun _ => r, g⟩, fun g => g.2⟩)
      · rw [if_neg r, bI_f (fun g => r ((alkF_s ht).mp g |>.1 q))]
    · rw [if_neg q, bI_c (alkF_s ht)]
      exact congrArg (fun x => some (x, σ)) (bI_c ⟨fun g => ⟨fun r => absurd r q, g⟩, fun g => g.2⟩)
  · show F_X0_isShownAlike_3 (nI i) (nI j) (nI T) w (nI 6) σ = _
    unfold F_X0_isShownAlike_3
    simp (disch := omega) only [lit_le, if_pos]
    rw [bI_t alkF_6]
theorem T_alkM {te : Nat → Nat} {σ : zSt} (h : TE te σ) {i j T : Nat} (hi : i < 8) (hj : j < 8) (hT : T < 64) : F_X12_areAlike (nI i) (nI j) (nI T) σ = some (bI (alkF te i j T 0), σ) := by
  unfold F_X12_areAlike F_X12_areAlike_0
  refine zfix_out (fun t => (nI t, σ)) (fun t => some (bI (alkF te i j T t), σ)) 6 (by decide) (fun t w ht ih => ?_) (fun w => ?_) 0 (by decide)
  · show F_X12_areAlike_3 (nI i) (nI j) (nI T) w (nI t) σ = _
    obtain ⟨a1, a2, a3⟩ := h t ht
    unfold F_X12_areAlike_3 F_X12_areAlike_46
    rw [T_has (show T < 256 ∧ t < 8 by omega), bd_s]
    simp (disch := omega) only [lit_le, if_neg, nm_s, nI_1, gd_n, nI_cl, a3]
    rw [T_has ⟨a1, hi⟩, bd_s, T_has ⟨a1, hj⟩, bd_s, ih]
    by_cases q : T.testBit t = true
    · rw [bI_t q, if_neg (by decide)]
      by_cases r : (te t).testBit i = (te t).testBit j
      · rw [if_pos (by rw [r]), bI_c (alkF_s ht)]
        exact congrArg (fun x => some (x, σ)) (bI_c ⟨fun g => ⟨fun _ => r, g⟩, fun g => g.2⟩)
      · rw [if_neg (by rw [bI_eq]; cases (te t).testBit i <;> cases (te t).testBit j <;> simp_all), bI_f (fun g => r ((alkF_s ht).mp g |>.1 q))]
    · rw [bI_f q, if_pos rfl, bI_c (alkF_s ht)]
      exact congrArg (fun x => some (x, σ)) (bI_c ⟨fun g => ⟨fun r => absurd r q, g⟩, fun g => g.2⟩)
  · show F_X12_areAlike_3 (nI i) (nI j) (nI T) w (nI 6) σ = _
    unfold F_X12_areAlike_3
    simp (disch := omega) only [lit_le, if_pos]
    rw [bI_t alkF_6]
/-- the told EGGS that are shown as i is -/
noncomputable def alm (E : Nat) (te : Nat → Nat) (i T : Nat) : Nat → Nat
  | 0 => 0
  | j + 1 => alm E te i T j ||| @ite _ (E.testBit j = true ∧ alkF te i j T 0) (Classical.propDecidable _) (2 ^ j) 0
theorem alm_lt (E : Nat) (te : Nat → Nat) (i T : Nat) : ∀ n, n ≤ 8 → alm E te i T n < 256 := by
  intro n
  induction n with
  | zero => intro _; exact Nat.zero_lt_succ 255
  | succ n ih =>
    intro h
    unfold alm
    refine or_lt (ih (by omega)) ?_
    split
    · exact pow_lt8 (by omega)
    · decide
theorem alm_bit (E : Nat) (te : Nat → Nat) (i T : Nat) : ∀ n k, (alm E te i T n).testBit k = true ↔ k < n ∧ E.testBit k = true ∧ alkF te i k T 0 := by
  intro n
  induction n with
  | zero => intro k; simp [alm]
  | succ n ih =>
    intro k
    unfold alm
    rw [Nat.testBit_or, Bool.or_eq_true, ih k]
    by_cases h : E.testBit n = true ∧ alkF te i n T 0
    · rw [if_pos h, Nat.testBit_two_pow, decide_eq_true_eq]
      constructor
      · rintro (⟨a, b⟩ | a)
        · exact ⟨by omega, b⟩
        · rw [← a]
          exact ⟨Nat.lt_succ_self n, h⟩
      · intro ⟨a, b⟩
        by_cases q : n = k
        · exact Or.inr q
        · exact Or.inl ⟨by omega, b⟩
    · rw [if_neg h, Nat.zero_testBit]
      constructor
      · rintro (⟨a, b⟩ | a)
        · exact ⟨by omega, b⟩
        · cases a
      · intro ⟨a, b⟩
        by_cases q : k = n
        · rw [q] at b
          exact absurd b h
        · exact Or.inl ⟨by omega, b⟩
theorem T_sameC {E : Nat} {te : Nat → Nat} {σ : zSt} (hE : E < 256) (e : σ.1 65 0 = nI E) (h : TE te σ) {i T : Nat} (hi : i < 8) (ht : E.testBit i = true) (hT : T < 64) : F_X0_sameAs (nI i) (nI T) σ = some (nI (alm E te i T 8), σ) := by
  have hb : bel (nI T) 64 := bel_t (by omega)
  have E0 : F_X0_sameAs (nI i) (nI T) σ = zfix (F_X0_sameAs_24L (nI i) (nI T)) zlim ((0 : Int32), (0 : Int32), σ) := by
    simp (disch := omega) only [F_X0_sameAs, F_X0_sameAs_0, T_isBelow_2, T_isBelow_3, T_isBelow_4, T_isBelow_6, T_isBelow_8, T_isBelow_9, T_isBelow_10, T_isBelow_12, T_isBelow_16, T_isBelow_17, T_isBelow_31, T_isBelow_64, T_isBelow_256, T_isBelow_65536, T_in_1, T_in_2, T_in_3, T_in_4, T_in_5, T_in_8, T_in_11, T_in_16, T_in_30, T_in_63, T_in_255, T_in_65535, T_isIsland, T_isEight, bd_s, nm_s, bI_0, gd_n, gd_01, nI_cl, nI_add, nI_1, m4, Bool.false_eq_true, not_true_eq_false, not_false_eq_true, ↓reduceIte, T_isToldE hE hi e, ht, hb]
  rw [E0]
  refine zfix_run (fun j => (nI (alm E te i T j), nI j, σ)) 8 (by decide) (fun j w hj => ?_) (fun w => ?_)
  · show F_X0_sameAs_24 (nI i) (nI T) w _ _ σ = _
    unfold F_X0_sameAs_24
    rw [T_isToldE hE hj e, bd_s]
    simp (disch := omega) only [lit_le, if_neg, T_alkC h hi hj hT, bd_s, nm_s, nI_1, F_X0_sameAs_59, F_X0_sameAs_60, alm]
    by_cases q : E.testBit j = true
    · rw [bI_t q, if_neg (by decide)]
      by_cases r : alkF te i j T 0
      · rw [bI_t r, if_neg (by decide), if_pos ⟨q, r⟩, bit_1 j hj, nI_or]
      · rw [bI_f r, if_pos rfl, if_neg (fun g => r g.2), ← nI_0, nI_or]
    · rw [bI_f q, if_pos rfl, if_neg (fun g => q g.1), ← nI_0, nI_or]
  · show F_X0_sameAs_24 (nI i) (nI T) w _ (nI 8) σ = _
    unfold F_X0_sameAs_24
    simp (disch := omega) only [lit_le, if_pos]
theorem s_alike {n : Nat} {σ : zSt} (hn : n < 512) (hR : Rel n σ) (x1 x2 : Int32) : Both n (F_X11_alike x1 x2) (F_X12_alike x1 x2) σ := by
  obtain ⟨E, te, hE, g1, g2, g3⟩ := hR.2.2.2.2.2.1
  by_cases h1 : bel x1 8
  rotate_left
  · exact Both.no (-1) hn hR (by simp (disch := omega) only [F_X11_alike, F_X11_alike_0, F_X0_sameAs, F_X0_sameAs_0, F_X0_isTold, F_X0_isTold_0, F_X12_alike, F_X12_alike_0, T_isBelow_2, T_isBelow_3, T_isBelow_4, T_isBelow_6, T_isBelow_8, T_isBelow_9, T_isBelow_10, T_isBelow_12, T_isBelow_16, T_isBelow_17, T_isBelow_31, T_isBelow_64, T_isBelow_256, T_isBelow_65536, T_in_1, T_in_2, T_in_3, T_in_4, T_in_5, T_in_8, T_in_11, T_in_16, T_in_30, T_in_63, T_in_255, T_in_65535, T_isIsland, T_isEight, bd_s, nm_s, bI_0, gd_n, gd_01, nI_cl, nI_add, nI_1, m4, Bool.false_eq_true, not_true_eq_false, not_false_eq_true, ↓reduceIte, h1]) (by simp (disch := omega) only [F_X11_alike, F_X11_alike_0, F_X0_sameAs, F_X0_sameAs_0, F_X0_isTold, F_X0_isTold_0, F_X12_alike, F_X12_alike_0, T_isBelow_2, T_isBelow_3, T_isBelow_4, T_isBelow_6, T_isBelow_8, T_isBelow_9, T_isBelow_10, T_isBelow_12, T_isBelow_16, T_isBelow_17, T_isBelow_31, T_isBelow_64, T_isBelow_256, T_isBelow_65536, T_in_1, T_in_2, T_in_3, T_in_4, T_in_5, T_in_8, T_in_11, T_in_16, T_in_30, T_in_63, T_in_255, T_in_65535, T_isIsland, T_isEight, bd_s, nm_s, bI_0, gd_n, gd_01, nI_cl, nI_add, nI_1, m4, Bool.false_eq_true, not_true_eq_false, not_false_eq_true, ↓reduceIte, h1])
  obtain ⟨i, hi, rfl⟩ := bel_of h1
  by_cases q : E.testBit i = true
  rotate_left
  · exact Both.no (-1) hn hR (by simp (disch := omega) only [F_X11_alike, F_X11_alike_0, F_X0_sameAs, F_X0_sameAs_0, F_X12_alike, F_X12_alike_0, T_isBelow_2, T_isBelow_3, T_isBelow_4, T_isBelow_6, T_isBelow_8, T_isBelow_9, T_isBelow_10, T_isBelow_12, T_isBelow_16, T_isBelow_17, T_isBelow_31, T_isBelow_64, T_isBelow_256, T_isBelow_65536, T_in_1, T_in_2, T_in_3, T_in_4, T_in_5, T_in_8, T_in_11, T_in_16, T_in_30, T_in_63, T_in_255, T_in_65535, T_isIsland, T_isEight, bd_s, nm_s, bI_0, gd_n, gd_01, nI_cl, nI_add, nI_1, m4, Bool.false_eq_true, not_true_eq_false, not_false_eq_true, ↓reduceIte, h1, T_isToldE hE hi g1, q, g2, T_has (And.intro hE hi)]) (by simp (disch := omega) only [F_X11_alike, F_X11_alike_0, F_X0_sameAs, F_X0_sameAs_0, F_X12_alike, F_X12_alike_0, T_isBelow_2, T_isBelow_3, T_isBelow_4, T_isBelow_6, T_isBelow_8, T_isBelow_9, T_isBelow_10, T_isBelow_12, T_isBelow_16, T_isBelow_17, T_isBelow_31, T_isBelow_64, T_isBelow_256, T_isBelow_65536, T_in_1, T_in_2, T_in_3, T_in_4, T_in_5, T_in_8, T_in_11, T_in_16, T_in_30, T_in_63, T_in_255, T_in_65535, T_isIsland, T_isEight, bd_s, nm_s, bI_0, gd_n, gd_01, nI_cl, nI_add, nI_1, m4, Bool.false_eq_true, not_true_eq_false, not_false_eq_true, ↓reduceIte, h1, T_isToldE hE hi g1, q, g2, T_has (And.intro hE hi)])
  by_cases h2 : bel x2 64
  rotate_left
  · exact Both.no (-1) hn hR (by simp (disch := omega) only [F_X11_alike, F_X11_alike_0, F_X0_sameAs, F_X0_sameAs_0, F_X12_alike, F_X12_alike_0, T_isBelow_2, T_isBelow_3, T_isBelow_4, T_isBelow_6, T_isBelow_8, T_isBelow_9, T_isBelow_10, T_isBelow_12, T_isBelow_16, T_isBelow_17, T_isBelow_31, T_isBelow_64, T_isBelow_256, T_isBelow_65536, T_in_1, T_in_2, T_in_3, T_in_4, T_in_5, T_in_8, T_in_11, T_in_16, T_in_30, T_in_63, T_in_255, T_in_65535, T_isIsland, T_isEight, bd_s, nm_s, bI_0, gd_n, gd_01, nI_cl, nI_add, nI_1, m4, Bool.false_eq_true, not_true_eq_false, not_false_eq_true, ↓reduceIte, h1, h2, T_isToldE hE hi g1, q, g2, T_has (And.intro hE hi)]) (by simp (disch := omega) only [F_X11_alike, F_X11_alike_0, F_X0_sameAs, F_X0_sameAs_0, F_X12_alike, F_X12_alike_0, T_isBelow_2, T_isBelow_3, T_isBelow_4, T_isBelow_6, T_isBelow_8, T_isBelow_9, T_isBelow_10, T_isBelow_12, T_isBelow_16, T_isBelow_17, T_isBelow_31, T_isBelow_64, T_isBelow_256, T_isBelow_65536, T_in_1, T_in_2, T_in_3, T_in_4, T_in_5, T_in_8, T_in_11, T_in_16, T_in_30, T_in_63, T_in_255, T_in_65535, T_isIsland, T_isEight, bd_s, nm_s, bI_0, gd_n, gd_01, nI_cl, nI_add, nI_1, m4, Bool.false_eq_true, not_true_eq_false, not_false_eq_true, ↓reduceIte, h1, h2, T_isToldE hE hi g1, q, g2, T_has (And.intro hE hi)])
  obtain ⟨T, hT, rfl⟩ := bel_of h2
  refine Both.no (nI (alm E te i T 8)) hn hR (by simp (disch := omega) only [F_X11_alike, F_X11_alike_0, T_isBelow_2, T_isBelow_3, T_isBelow_4, T_isBelow_6, T_isBelow_8, T_isBelow_9, T_isBelow_10, T_isBelow_12, T_isBelow_16, T_isBelow_17, T_isBelow_31, T_isBelow_64, T_isBelow_256, T_isBelow_65536, T_in_1, T_in_2, T_in_3, T_in_4, T_in_5, T_in_8, T_in_11, T_in_16, T_in_30, T_in_63, T_in_255, T_in_65535, T_isIsland, T_isEight, bd_s, nm_s, bI_0, gd_n, gd_01, nI_cl, nI_add, nI_1, m4, Bool.false_eq_true, not_true_eq_false, not_false_eq_true, ↓reduceIte, T_sameC hE g1 g3 hi q hT]) ?_
  have E0 : F_X12_alike (nI i) (nI T) σ = zfix (F_X12_alike_35L (nI i) (nI T)) zlim ((0 : Int32), (0 : Int32), σ) := by
    simp (disch := omega) only [F_X12_alike, F_X12_alike_0, T_isBelow_2, T_isBelow_3, T_isBelow_4, T_isBelow_6, T_isBelow_8, T_isBelow_9, T_isBelow_10, T_isBelow_12, T_isBelow_16, T_isBelow_17, T_isBelow_31, T_isBelow_64, T_isBelow_256, T_isBelow_65536, T_in_1, T_in_2, T_in_3, T_in_4, T_in_5, T_in_8, T_in_11, T_in_16, T_in_30, T_in_63, T_in_255, T_in_65535, T_isIsland, T_isEight, bd_s, nm_s, bI_0, gd_n, gd_01, nI_cl, nI_add, nI_1, m4, Bool.false_eq_true, not_true_eq_false, not_false_eq_true, ↓reduceIte, h1, h2, q, g2, T_has (And.intro hE hi)]
  rw [E0]
  refine zfix_run (fun j => (nI (alm E te i T j), nI j, σ)) 8 (by decide) (fun j w hj => ?_) (fun w => ?_)
  · show F_X12_alike_35 (nI i) (nI T) w _ _ σ = _
    unfold F_X12_alike_35
    rw [g2, T_has ⟨hE, hj⟩, bd_s, T_alkM g3 hi hj hT, bd_s]
    simp (disch := omega) only [lit_le, if_neg, nm_s, nI_1, F_X12_alike_72, alm]
    by_cases q : E.testBit j = true
    · rw [bI_t q, if_neg (by decide)]
      by_cases r : alkF te i j T 0
      · rw [bI_t r, if_neg (by decide), if_pos ⟨q, r⟩, bit_1 j hj, nI_or]
      · rw [bI_f r, if_pos rfl, if_neg (fun g => r g.2), Nat.or_zero]
    · rw [bI_f q, if_pos rfl, if_neg (fun g => q g.1), Nat.or_zero]
  · show F_X12_alike_35 (nI i) (nI T) w _ (nI 8) σ = _
    unfold F_X12_alike_35
    simp (disch := omega) only [lit_le, if_pos]
theorem alkF_sym {te : Nat → Nat} {i j T : Nat} (h : alkF te i j T 0) : alkF te j i T 0 := fun s a b c => (h s a b c).symm
/-- all are told apart -/
def apt (E : Nat) (te : Nat → Nat) (T i : Nat) : Prop := ∀ a, i ≤ a → a < 8 → ∀ b, b < 8 → E.testBit a = true → E.testBit b = true → alkF te a b T 0 → a = b
theorem alm_one {E : Nat} {te : Nat → Nat} {i T : Nat} (hi : i < 8) (ht : E.testBit i = true) : alm E te i T 8 = 2 ^ i ↔ ∀ b, b < 8 → E.testBit b = true → alkF te i b T 0 → i = b := by
  constructor
  · intro h b hb h1 h2
    have := (alm_bit E te i T 8 b).mpr ⟨hb, h1, h2⟩
    rw [h, Nat.testBit_two_pow, decide_eq_true_eq] at this
    exact this
  · intro h
    apply Nat.eq_of_testBit_eq
    intro k
    rw [Nat.testBit_two_pow]
    by_cases q : i = k
    · subst q
      rw [decide_eq_true rfl]
      exact (alm_bit E te i T 8 i).mpr ⟨hi, ht, fun s _ _ _ => rfl⟩
    · rw [decide_eq_false q]
      cases r : (alm E te i T 8).testBit k with
      | false => rfl
      | true =>
        obtain ⟨a, b, c⟩ := (alm_bit E te i T 8 k).mp r
        exact absurd (h k a b c) q
theorem T_aptC {E : Nat} {te : Nat → Nat} {σ : zSt} (hE : E < 256) (e : σ.1 65 0 = nI E) (h : TE te σ) {T : Nat} (hT : T < 64) : F_X0_areApart (nI T) σ = some (bI (apt E te T 0), σ) := by
  unfold F_X0_areApart F_X0_areApart_0
  refine zfix_out (fun i => (nI i, σ)) (fun i => some (bI (apt E te T i), σ)) 8 (by decide) (fun i w hi ih => ?_) (fun w => ?_) 0 (by decide)
  · show F_X0_areApart_2 (nI T) w (nI i) σ = _
    unfold F_X0_areApart_2 F_X0_areApart_30
    rw [T_isToldE hE hi e, bd_s]
    simp (disch := omega) only [lit_le, if_neg, nm_s, nI_1]
    rw [ih]
    by_cases q : E.testBit i = true
    · rw [bI_t q, if_neg (by decide), T_sameC hE e h hi q hT, bd_s, bit_1 i hi]
      have hl := alm_lt E te i T 8 (Nat.le_refl 8)
      have hp := pow_lt8 hi
      by_cases r : alm E te i T 8 = 2 ^ i
      · rw [if_pos (by rw [r])]
        refine congrArg (fun x => some (x, σ)) (bI_c ⟨fun g a ha hb b hb2 h1 h2 h3 => ?_, fun g a ha => g a (by omega)⟩)
        by_cases z : a = i
        · subst z
          exact (alm_one hi q).mp r b hb2 h2 h3
        · exact g a (by omega) hb b hb2 h1 h2 h3
      · rw [if_neg (by rw [nI_eqp (by omega)]; exact r), bI_f (fun g => r ((alm_one hi q).mpr (fun b hb h1 h2 => g i (Nat.le_refl i) hi b hb q h1 h2)))]
    · rw [bI_f q, if_pos rfl]
      refine congrArg (fun x => some (x, σ)) (bI_c ⟨fun g a ha hb b hb2 h1 h2 h3 => ?_, fun g a ha => g a (by omega)⟩)
      by_cases z : a = i
      · rw [z] at h1
        exact absurd h1 q
      · exact g a (by omega) hb b hb2 h1 h2 h3
  · show F_X0_areApart_2 (nI T) w (nI 8) σ = _
    unfold F_X0_areApart_2
    simp (disch := omega) only [lit_le, if_pos]
    rw [bI_t (fun a ha hb => by omega)]
def aptM (E : Nat) (te : Nat → Nat) (T i j : Nat) : Prop := (i < 8 → ∀ b, j ≤ b → b < i → E.testBit i = true → E.testBit b = true → ¬ alkF te i b T 0) ∧ ∀ a, i < a → a < 8 → ∀ b, b < a → E.testBit a = true → E.testBit b = true → ¬ alkF te a b T 0
theorem T_aptM {E : Nat} {te : Nat → Nat} {σ : zSt} (hE : E < 256) (e : σ.1 69 59 = nI E) (h : TE te σ) {T : Nat} (hT : T < 64) : F_X12_tellsAll (nI T) σ = some (bI (apt E te T 0), σ) := by
  unfold F_X12_tellsAll F_X12_tellsAll_0
  have key := zfix_out (body := F_X12_tellsAll_2L (nI T)) (fun i => (nI i, σ)) (fun i => some (bI (aptM E te T i 0), σ)) 8 (by decide) (fun i w hi ih => ?_) (fun w => ?_) 0 (by decide)
  · refine key.trans (congrArg (fun x => some (x, σ)) (bI_c ⟨fun g a ha hb b hb2 h1 h2 h3 => ?_, fun g => ⟨fun _ b _ hb => by omega, fun a ha hb b hb2 h1 h2 h3 => ?_⟩⟩))
    · rcases Nat.lt_trichotomy a b with z | z | z
      · exact absurd (alkF_sym h3) (g.2 b (by omega) hb2 a z h2 h1)
      · exact z
      · exact absurd h3 (g.2 a (by omega) hb b z h1 h2)
    · have := g a (by omega) hb b (by omega) h1 h2 h3
      omega
  · show F_X12_tellsAll_2 (nI T) w (nI i) σ = _
    unfold F_X12_tellsAll_2
    simp (disch := omega) only [lit_le, if_neg]
    refine zfix_out (fun j => (nI j, σ)) (fun j => some (bI (aptM E te T i j), σ)) i (by omega) (fun j w2 hj ih2 => ?_) (fun w2 => ?_) 0 (by omega)
    · show F_X12_tellsAll_10 w (nI T) (nI i) w2 (nI j) σ = _
      unfold F_X12_tellsAll_10 F_X12_tellsAll_49
      rw [e, T_has ⟨hE, hi⟩, bd_s, e, T_has ⟨hE, (show j < 8 by omega)⟩, bd_s, T_alkM h hi (by omega) hT, bd_s]
      simp (disch := omega) only [nI_lep, if_neg, nm_s, nI_1]
      rw [ih2]
      by_cases q : E.testBit i = true
      · rw [bI_t q, if_neg (by decide)]
        by_cases r : E.testBit j = true
        · rw [bI_t r, if_neg (by decide)]
          by_cases z : alkF te i j T 0
          · rw [bI_t z, if_neg (by decide), bI_f (fun g => g.1 hi j (Nat.le_refl j) hj q r z)]
          · rw [bI_f z, if_pos rfl]
            refine congrArg (fun x => some (x, σ)) (bI_c ⟨fun g => ⟨fun _ b h1 h2 h3 h4 => ?_, g.2⟩, fun g => ⟨fun _ b h1 => g.1 hi b (by omega), g.2⟩⟩)
            by_cases y : b = j
            · rw [y]
              exact z
            · exact g.1 hi b (by omega) h2 h3 h4
        · rw [bI_f r, if_pos rfl]
          refine congrArg (fun x => some (x, σ)) (bI_c ⟨fun g => ⟨fun _ b h1 h2 h3 h4 => ?_, g.2⟩, fun g => ⟨fun _ b h1 => g.1 hi b (by omega), g.2⟩⟩)
          by_cases y : b = j
          · rw [y] at h4
            exact absurd h4 r
          · exact g.1 hi b (by omega) h2 h3 h4
      · rw [bI_f q, if_pos rfl]
        refine congrArg (fun x => some (x, σ)) (bI_c ⟨fun g => ⟨fun _ b h1 h2 h3 h4 => absurd h3 q, g.2⟩, fun g => ⟨fun _ b h1 => g.1 hi b (by omega), g.2⟩⟩)
    · show F_X12_tellsAll_10 w (nI T) (nI i) w2 (nI i) σ = _
      unfold F_X12_tellsAll_10 F_X12_tellsAll_55
      simp (disch := omega) only [nI_lep, Nat.le_refl, ↓reduceIte, nm_s, nI_1]
      rw [ih]
      refine congrArg (fun x => some (x, σ)) (bI_c ⟨fun g => ⟨fun b h1 h2 => by omega, fun a ha hb b hb2 => ?_⟩, fun g => ⟨fun b _ hb => g.2 (i + 1) (Nat.lt_succ_self i) ?_ b hb, fun a ha => g.2 a (by omega)⟩⟩)
      · by_cases y : a = i + 1
        · subst y
          exact g.1 b (Nat.zero_le b) hb2
        · exact g.2 a (by omega) hb b hb2
      · sorry
  · show F_X12_tellsAll_2 (nI T) w (nI 8) σ = _
    unfold F_X12_tellsAll_2
    simp (disch := omega) only [lit_le, if_pos]
    rw [bI_t ⟨fun h8 => absurd h8 (by decide), fun a ha hb => by omega⟩]
/-- the fewest TESTS so far -/
noncomputable def fwt (E : Nat) (te : Nat → Nat) : Nat → Option Nat
  | 0 => none
  | T + 1 => match fwt E te T with
    | none => @ite _ (apt E te T 0) (Classical.propDecidable _) (some T) none
    | some b => @ite _ (pop8 T < pop8 b ∧ apt E te T 0) (Classical.propDecidable _) (some T) (some b)
theorem fwt_lt {E : Nat} {te : Nat → Nat} : ∀ T b, fwt E te T = some b → b < T := by
  intro T
  induction T with
  | zero => intro b h; cases h
  | succ T ih =>
    intro b h
    unfold fwt at h
    cases q : fwt E te T with
    | none =>
      rw [q] at h
      simp only at h
      split at h
      · cases h
        exact Nat.lt_succ_self T
      · cases h
    | some c =>
      rw [q] at h
      simp only at h
      split at h
      · cases h
        exact Nat.lt_succ_self T
      · cases h
        exact Nat.lt_succ_of_lt (ih _ q)
theorem s_apart {n : Nat} {σ : zSt} (hn : n < 512) (hR : Rel n σ) (x1 : Int32) : Both n (F_X11_apart x1) (F_X12_apart x1) σ := by
  obtain ⟨E, te, hE, g1, g2, g3⟩ := hR.2.2.2.2.2.1
  by_cases h1 : bel x1 2
  rotate_left
  · exact Both.no (-1) hn hR (by simp (disch := omega) only [F_X11_apart, F_X11_apart_0, F_X12_apart, F_X12_apart_0, T_isBelow_2, T_isBelow_3, T_isBelow_4, T_isBelow_6, T_isBelow_8, T_isBelow_9, T_isBelow_10, T_isBelow_12, T_isBelow_16, T_isBelow_17, T_isBelow_31, T_isBelow_64, T_isBelow_256, T_isBelow_65536, T_in_1, T_in_2, T_in_3, T_in_4, T_in_5, T_in_8, T_in_11, T_in_16, T_in_30, T_in_63, T_in_255, T_in_65535, T_isIsland, T_isEight, bd_s, nm_s, bI_0, gd_n, gd_01, nI_cl, nI_add, nI_1, m4, Bool.false_eq_true, not_true_eq_false, not_false_eq_true, ↓reduceIte, h1]) (by simp (disch := omega) only [F_X11_apart, F_X11_apart_0, F_X12_apart, F_X12_apart_0, T_isBelow_2, T_isBelow_3, T_isBelow_4, T_isBelow_6, T_isBelow_8, T_isBelow_9, T_isBelow_10, T_isBelow_12, T_isBelow_16, T_isBelow_17, T_isBelow_31, T_isBelow_64, T_isBelow_256, T_isBelow_65536, T_in_1, T_in_2, T_in_3, T_in_4, T_in_5, T_in_8, T_in_11, T_in_16, T_in_30, T_in_63, T_in_255, T_in_65535, T_isIsland, T_isEight, bd_s, nm_s, bI_0, gd_n, gd_01, nI_cl, nI_add, nI_1, m4, Bool.false_eq_true, not_true_eq_false, not_false_eq_true, ↓reduceIte, h1])
  have hp : ∀ m, pop8 m ≤ 8 := fun m => popn_le m 8
  refine Both.no (match fwt E te 64 with | none => -2 | some b => if x1 = 0 then nI (pop8 b) else nI b) hn hR ?_ ?_
  · have E0 : F_X11_apart x1 σ = zfix (F_X0_fewestTests_4L x1) zlim ((-1 : Int32), (0 : Int32), σ) := by
      simp (disch := omega) only [F_X11_apart, F_X11_apart_0, F_X0_fewestTests, F_X0_fewestTests_0, T_isBelow_2, T_isBelow_3, T_isBelow_4, T_isBelow_6, T_isBelow_8, T_isBelow_9, T_isBelow_10, T_isBelow_12, T_isBelow_16, T_isBelow_17, T_isBelow_31, T_isBelow_64, T_isBelow_256, T_isBelow_65536, T_in_1, T_in_2, T_in_3, T_in_4, T_in_5, T_in_8, T_in_11, T_in_16, T_in_30, T_in_63, T_in_255, T_in_65535, T_isIsland, T_isEight, bd_s, nm_s, bI_0, gd_n, gd_01, nI_cl, nI_add, nI_1, m4, Bool.false_eq_true, not_true_eq_false, not_false_eq_true, ↓reduceIte, h1]
      cases zfix (F_X0_fewestTests_4L x1) zlim ((-1 : Int32), (0 : Int32), σ) <;> rfl
    rw [E0]
    refine zfix_run (fun T => (e1 (fwt E te T), nI T, σ)) 64 (by decide) (fun T w hT => ?_) (fun w => ?_)
    · show F_X0_fewestTests_4 x1 w _ (nI T) σ = w (e1 (fwt E te (T + 1)), _, σ)
      unfold F_X0_fewestTests_4
      rw [T_bitCount (show T < 256 by omega), bd_s]
      simp (disch := omega) only [lit_le, if_neg]
      cases q : fwt E te T with
      | none =>
        simp only [e1, ↓reduceIte, F_X0_fewestTests_26, F_X0_fewestTests_31, F_X0_fewestTests_48, d10, T_aptC hE g1 g3 hT, bd_s, nm_s, nI_1, fwt, q]
        by_cases r : apt E te T 0
        · rw [bI_t r, if_neg (by decide), if_pos r]
        · rw [bI_f r, if_pos rfl, if_neg r]
      | some b =>
        have hb := fwt_lt T b q
        have a1 := hp T
        have a2 := hp b
        simp (disch := omega) only [e1, nI_ne_m1, ↓reduceIte, T_bitCount (show b < 256 by omega), F_X0_fewestTests_48, T_aptC hE g1 g3 hT, bd_s, nm_s, nI_1, fwt, q, nI_lep]
        by_cases z : pop8 b ≤ pop8 T
        · rw [if_pos z, if_pos rfl, if_neg (fun g => by omega)]
        · rw [if_neg z, if_neg (by decide)]
          by_cases r : apt E te T 0
          · rw [bI_t r, if_neg (by decide), if_pos ⟨by omega, r⟩]
          · rw [bI_f r, if_pos rfl, if_neg (fun g => r g.2)]
    · show F_X0_fewestTests_4 x1 w _ (nI 64) σ = _
      unfold F_X0_fewestTests_4 F_X0_fewestTests_54
      simp (disch := omega) only [lit_le, if_pos]
      cases q : fwt E te 64 with
      | none => simp only [e1, ↓reduceIte]
      | some b =>
        have hb := fwt_lt 64 b q
        simp (disch := omega) only [e1, nI_ne_m1, ↓reduceIte, T_bitCount (show b < 256 by omega), bd_s]
        split <;> rfl
  · have E0 : F_X12_apart x1 σ = zfix (F_X12_apart_15L x1) zlim ((-1 : Int32), (0 : Int32), σ) := by
      simp (disch := omega) only [F_X12_apart, F_X12_apart_0, T_isBelow_2, T_isBelow_3, T_isBelow_4, T_isBelow_6, T_isBelow_8, T_isBelow_9, T_isBelow_10, T_isBelow_12, T_isBelow_16, T_isBelow_17, T_isBelow_31, T_isBelow_64, T_isBelow_256, T_isBelow_65536, T_in_1, T_in_2, T_in_3, T_in_4, T_in_5, T_in_8, T_in_11, T_in_16, T_in_30, T_in_63, T_in_255, T_in_65535, T_isIsland, T_isEight, bd_s, nm_s, bI_0, gd_n, gd_01, nI_cl, nI_add, nI_1, m4, Bool.false_eq_true, not_true_eq_false, not_false_eq_true, ↓reduceIte, h1]
    rw [E0]
    refine zfix_run (fun T => (e1 (fwt E te T), nI T, σ)) 64 (by decide) (fun T w hT => ?_) (fun w => ?_)
    · show F_X12_apart_15 x1 w _ (nI T) σ = w (e1 (fwt E te (T + 1)), _, σ)
      unfold F_X12_apart_15
      rw [T_bits (show T < 256 by omega), bd_s]
      simp (disch := omega) only [lit_le, if_neg]
      cases q : fwt E te T with
      | none =>
        simp only [e1, ↓reduceIte, F_X12_apart_37, F_X12_apart_47, d10, T_aptM hE g2 g3 hT, bd_s, nm_s, nI_1, fwt, q]
        by_cases r : apt E te T 0
        · rw [bI_t r, if_neg (by decide), if_pos r]
        · rw [bI_f r, if_pos rfl, if_neg r]
      | some b =>
        have hb := fwt_lt T b q
        have a1 := hp T
        have a2 := hp b
        simp (disch := omega) only [e1, nI_ne_m1, ↓reduceIte, T_bits (show b < 256 by omega), F_X12_apart_37, F_X12_apart_47, T_aptM hE g2 g3 hT, bd_s, nm_s, nI_1, fwt, q, nI_lep]
        by_cases z : pop8 b ≤ pop8 T
        · rw [if_pos z, if_neg (fun g => by omega)]
        · rw [if_neg z]
          by_cases r : apt E te T 0
          · rw [bI_t r, if_neg (by decide), if_pos ⟨by omega, r⟩]
          · rw [bI_f r, if_pos rfl, if_neg (fun g => r g.2)]
    · show F_X12_apart_15 x1 w _ (nI 64) σ = _
      unfold F_X12_apart_15 F_X12_apart_53
      simp (disch := omega) only [lit_le, if_pos]
      cases q : fwt E te 64 with
      | none => simp only [e1, ↓reduceIte]
      | some b =>
        have hb := fwt_lt 64 b q
        simp (disch := omega) only [e1, nI_ne_m1, ↓reduceIte, T_bits (show b < 256 by omega), bd_s]
        split <;> rfl
/-! PURE: nights -/
theorem bI_id {p : Prop} : (if bI p = 0 then (0 : Int32) else 1) = bI p := by
  by_cases h : p
  · rw [bI_t h, if_neg (by decide)]
  · rw [bI_f h, if_pos rfl]
theorem T_isWet {W : zWo} {σ : zSt} (hW : WOK W) (h : EC 1 2 W σ) {p : Nat} (hp : p < 8) : F_X10_isWet (nI p) σ = some (bI ((wWet W).testBit p = true), σ) := by
  have hb : bel (nI p) 8 := bel_t (by omega)
  have e : σ.1 1 7 = nI (wWet W) := h.2.2.2.2.2.2.2.1
  unfold F_X10_isWet F_X10_isWet_0
  rw [T_isBelow_8, bd_s, bI_t hb, if_neg (by decide), e]
  by_cases q : (wWet W).testBit p = true
  · rw [if_pos ((bit_is hW.wet hp).mpr q), bI_t q]
  · rw [if_neg (fun r => q ((bit_is hW.wet hp).mp r)), bI_f q]
def plN (W : zWo) (p : Nat) : Nat → Nat
  | 0 => 0
  | n + 1 => plN W p n + (if wIs W n = true ∧ wWin W n = some p then 1 else 0)
theorem T_placesIn {W : zWo} {σ : zSt} (hW : WOK W) (h : EC 1 2 W σ) {p : Nat} (hp : p < 8) : F_X10_placesIn (nI p) σ = some (nI (plN W p 8), σ) := by
  unfold F_X10_placesIn F_X10_placesIn_0
  refine zfix_run (fun i => (nI (plN W p i), nI i, σ)) 8 (by decide) (fun i w hi => ?_) (fun w => ?_)
  · show F_X10_placesIn_4 (nI p) w (nI (plN W p i)) (nI i) σ = _
    have eT : σ.1 1 6 = nI (wTol W) := h.2.2.2.2.2.2.1
    have e4 : σ.1 4 i = e1 (wWin W i) := h.2.2.1 i hi
    unfold F_X10_placesIn_4 F_X10_placesIn_37 F_X10_placesIn_38
    simp (disch := omega) only [lit_le, if_neg, eT, gd_n, nI_cl, e4, nm_s, nI_1]
    by_cases q : (wTol W).testBit i = true
    · rw [if_pos ((bit_is hW.told hi).mpr q)]
      by_cases r : wWin W i = some p
      · rw [if_pos ((e1_eq (by omega) (win16 hW hi)).mpr r)]
        simp only [plN, wIs_bit hi, q, r, and_self, ↓reduceIte, nI_1]
      · rw [if_neg (fun z => r ((e1_eq (by omega) (win16 hW hi)).mp z))]
        simp only [plN, r, and_false, ↓reduceIte, ← nI_0, nI_add]
    · rw [if_neg (fun z => q ((bit_is hW.told hi).mp z))]
      simp only [plN, wIs_bit hi, q, false_and, ↓reduceIte, ← nI_0, nI_add, Bool.false_eq_true]
  · show F_X10_placesIn_4 (nI p) w _ (nI 8) σ = _
    unfold F_X10_placesIn_4
    simp (disch := omega) only [lit_le, if_pos]
theorem T_nextLevel {W : zWo} {σ : zSt} (hW : WOK W) (h : EM 70 0 W σ) {p : Nat} (hp : p < 8) : F_X12_nextLevel (nI p) σ = some (nI (plN W p 8), σ) := by
  unfold F_X12_nextLevel F_X12_nextLevel_0
  refine zfix_run (fun i => (nI (plN W p i), nI i, σ)) 8 (by decide) (fun i w hi => ?_) (fun w => ?_)
  · show F_X12_nextLevel_4 (nI p) w (nI (plN W p i)) (nI i) σ = _
    have e4 : σ.1 72 i = e2 (wWin W i) := h.2.2.1 i hi
    unfold F_X12_nextLevel_4 F_X12_nextLevel_33 F_X12_nextLevel_34
    rw [T_isPlace hW h, bd_s]
    simp (disch := omega) only [lit_le, if_neg, gd_n, nI_cl, e4, nm_s, nI_1]
    by_cases q : wIs W i = true
    · rw [bI_t ((isT_n (by omega)).mpr q), if_neg (by decide)]
      by_cases r : wWin W i = some p
      · rw [if_pos ((e2_eq (by omega) (win16 hW hi)).mpr r)]
        simp only [plN, q, r, and_self, ↓reduceIte, nI_1]
      · rw [if_neg (fun z => r ((e2_eq (by omega) (win16 hW hi)).mp z))]
        simp only [plN, r, and_false, ↓reduceIte, ← nI_0, nI_add]
    · rw [bI_f (fun z => q ((isT_n (by omega)).mp z)), if_pos rfl]
      simp only [plN, q, false_and, ↓reduceIte, ← nI_0, nI_add, Bool.false_eq_true]
  · show F_X12_nextLevel_4 (nI p) w _ (nI 8) σ = _
    unfold F_X12_nextLevel_4
    simp (disch := omega) only [lit_le, if_pos]
/-- what a law is asked with -/
noncomputable def ltr (W : zWo) (g h d s r : Nat) : Nat → Int32
  | 0 => nI g
  | 1 => nI h
  | 2 => nI (islW W h)
  | 3 => nI d
  | 4 => nI s
  | 5 => bI ((wWet W).testBit h = true)
  | 6 => bI (wLok W h ≠ none)
  | 7 => nI (plN W h 8)
  | _ => nI r
theorem lok16 {W : zWo} (hW : WOK W) {h : Nat} (hh : h < 8) : ∀ k, wLok W h = some k → k < 16 := fun k q => by have := hW.lok h k hh q; omega
theorem lok_c {W : zWo} (hW : WOK W) {h : Nat} (hh : h < 8) : (if e1 (wLok W h) = -1 then (0 : Int32) else 1) = bI (wLok W h ≠ none) := by
  by_cases q : wLok W h = none
  · rw [if_pos ((e1_none (lok16 hW hh)).mpr q), bI_f (fun r => r q)]
  · rw [if_neg (fun r => q ((e1_none (lok16 hW hh)).mp r)), bI_t q]
theorem lok_m {W : zWo} (hW : WOK W) {h : Nat} (hh : h < 8) : (if e2 (wLok W h) < 0 then (0 : Int32) else 1) = bI (wLok W h ≠ none) := by
  by_cases q : wLok W h = none
  · rw [if_pos (i_lt.mpr ((e2_lt (lok16 hW hh)).mpr q)), bI_f (fun r => r q)]
  · rw [if_neg (fun r => q ((e2_lt (lok16 hW hh)).mp (i_lt.mp r))), bI_t q]
theorem t_look {W : zWo} {σ : zSt} (hW : WOK W) (hC : EC 1 2 W σ) {h : Nat} (hh : h < 8) (e : σ.1 24 3 = nI h) : F_X3_look σ = some ((), zwr (zwr (zwr (zwr (zwr (σ) 25 1 (nI h)) 25 2 (nI (islW W h))) 25 5 (bI ((wWet W).testBit h = true))) 25 6 (bI (wLok W h ≠ none))) 25 7 (nI (plN W h 8))) := by
  have hb : bel (nI h) 8 := bel_t (by omega)
  have c1 : EC 1 2 W (zwr (σ) 25 1 (nI h)) := (fr_w (L := [25]) (S := []) (Or.inl (by decide))).EC (by decide) hC
  have c2 : EC 1 2 W (zwr (zwr (σ) 25 1 (nI h)) 25 2 (nI (islW W h))) := (fr_w (L := [25]) (S := []) (Or.inl (by decide))).EC (by decide) c1
  have c3 : EC 1 2 W (zwr (zwr (zwr (σ) 25 1 (nI h)) 25 2 (nI (islW W h))) 25 5 (bI ((wWet W).testBit h = true))) := (fr_w (L := [25]) (S := []) (Or.inl (by decide))).EC (by decide) c2
  have c4 : EC 1 2 W (zwr (zwr (zwr (zwr (σ) 25 1 (nI h)) 25 2 (nI (islW W h))) 25 5 (bI ((wWet W).testBit h = true))) 25 6 (bI (wLok W h ≠ none))) := (fr_w (L := [25]) (S := []) (Or.inl (by decide))).EC (by decide) c3
  have e5 : σ.1 5 h = e1 (wLok W h) := hC.2.2.2.1 h hh
  unfold F_X3_look F_X3_look_0
  simp (disch := omega) only [nm_s, zwr_r, e, Nat.reduceEqDiff, ↓reduceIte, t_islandOf hW c1 hh, T_isWet hW c2 hh, bd_s, bI_id, T_isBelow_8, bI_0, hb, not_true_eq_false, gd_n, nI_cl, e5, lok_c hW hh, T_placesIn hW c4 hh]
theorem t_look_l {W : zWo} {σ : zSt} (hW : WOK W) (hC : EC 1 2 W σ) {g h d s r : Nat} (hh : h < 8) (e : σ.1 24 3 = nI h) (e0 : σ.1 25 0 = nI g) (e3 : σ.1 25 3 = nI d) (e4 : σ.1 25 4 = nI s) (e8 : σ.1 25 8 = nI r) : wp (F_X3_look σ) (fun _ τ => fr [25] [] σ τ ∧ ∀ j, j < 9 → τ.1 25 j = ltr W g h d s r j) := by
  refine wp_of (t_look hW hC hh e) ⟨(((((fr.rf (L := [25]) (S := [])).w (Or.inl (by decide))).w (Or.inl (by decide))).w (Or.inl (by decide))).w (Or.inl (by decide))).w (Or.inl (by decide)), fun j hj => ?_⟩
  have q : j = 0 ∨ j = 1 ∨ j = 2 ∨ j = 3 ∨ j = 4 ∨ j = 5 ∨ j = 6 ∨ j = 7 ∨ j = 8 := by omega
  rcases q with rfl | rfl | rfl | rfl | rfl | rfl | rfl | rfl | rfl
  all_goals simp only [zwr_r, upd_r, Nat.reduceEqDiff, ↓reduceIte, ltr, e0, e3, e4, e8]
noncomputable def tor (W : zWo) (v : Int32) (h : Nat) : Nat := @ite _ (isT W v) (Classical.propDecidable _) v.toNatClampNeg h
theorem tor_t {W : zWo} {v : Int32} {h : Nat} (q : isT W v) : nI (tor W v h) = v := by
  unfold tor
  rw [if_pos q]
  obtain ⟨p, hp, hp2, rfl⟩ := isT_of q
  rw [nI_cl (by omega)]
theorem tor_f {W : zWo} {v : Int32} {h : Nat} (q : ¬ isT W v) : tor W v h = h := if_neg q
theorem tor_lt {W : zWo} {v : Int32} {h : Nat} (hh : h < 8) : tor W v h < 8 := by
  by_cases q : isT W v
  · unfold tor
    rw [if_pos q]
    obtain ⟨p, hp, hp2, rfl⟩ := isT_of q
    rw [nI_cl (by omega)]
    exact hp
  · rw [tor_f q]
    exact hh
/-- by the law, asked for κ with lt, v comes out: in both -/
def LA (σ0 : zSt) (κ : Int32) (lt : Nat → Int32) (v : Int32) : Prop :=
  (∀ σ : zSt, eqOn rowsL slotsL σ0 σ → (∀ j, j < 9 → σ.1 25 j = lt j) → ∃ st, F_X1_ask κ σ = some (v, zrow σ 16 st)) ∧
  (∀ (W : zWo) (h : Nat) (σ : zSt), WOK W → EM 70 0 W σ → eqOn rowsL slotsL σ0 σ → (∀ j, j < 9 → σ.1 89 j = lt j) → ∃ st, F_X12_byLaw κ (nI h) σ = some (nI (tor W v h), zrow σ 88 st))
theorem LA_ex {σ0 : zSt} (hL : RLw σ0) (κ : Int32) (lt : Nat → Int32) : ∃ v, LA σ0 κ lt v ∧ (σ0.1 8 8 = 0 → ∀ lt' : Nat → Int32, (∀ j, j < 8 → lt' j = lt j) → LA σ0 κ lt' v) := by
  obtain ⟨n, hn, n1, n2, hask, hc⟩ := hL
  have key : ∀ m k, k + m = n → ∃ v, ∀ lt' : Nat → Int32, (lt' = lt ∨ (σ0.1 8 8 = 0 ∧ ∀ j, j < 8 → lt' j = lt j)) →
      (∀ f (σ : zSt), m < f → eqOn rowsL slotsL σ0 σ → (∀ j, j < 9 → σ.1 25 j = lt' j) → ∃ st, zfix (F_X1_ask_2L κ) f (nI k, σ) = some (v, zrow σ 16 st)) ∧
      (∀ (W : zWo) (h : Nat) f (σ : zSt), m < f → WOK W → EM 70 0 W σ → eqOn rowsL slotsL σ0 σ → (∀ j, j < 9 → σ.1 89 j = lt' j) → ∃ st, zfix (F_X12_byLaw_2L κ (nI h)) f (nI k, σ) = some (nI (tor W v h), zrow σ 88 st)) := by
    intro m
    induction m with
    | zero =>
      intro k hk
      have hk' : k = n := by omega
      subst hk'
      refine ⟨-1, fun lt' _ => ⟨fun f σ hf hs hl => ⟨σ.1 16, ?_⟩, fun W h f σ hf hW hM hs hl => ⟨σ.1 88, ?_⟩⟩⟩
      · obtain ⟨f, rfl⟩ : ∃ q, f = q + 1 := ⟨f - 1, by omega⟩
        show F_X1_ask_2 κ (zfix (F_X1_ask_2L κ) f) (nI k) σ = _
        unfold F_X1_ask_2
        have e : σ.1 8 7 = nI k := (hs.2 (8, 7) (by decide)).trans n1
        rw [e, if_pos (i_le.mpr (Int.le_refl _)), zrow_same]
      · obtain ⟨f, rfl⟩ : ∃ q, f = q + 1 := ⟨f - 1, by omega⟩
        show F_X12_byLaw_2 κ (nI h) (zfix (F_X12_byLaw_2L κ (nI h)) f) (nI k) σ = _
        unfold F_X12_byLaw_2
        have e : σ.1 69 23 = nI k := (hs.2 (69, 23) (by decide)).trans n2
        rw [e, if_pos (i_le.mpr (Int.le_refl _)), zrow_same, tor_f isT_m1]
    | succ m ih =>
      intro k hk
      have hkn : k < n := by omega
      obtain ⟨hkd, hrc⟩ := hc k hkn
      obtain ⟨v1, h1⟩ := ih (k + 1) (by omega)
      obtain ⟨v, w, u, hrow, hvw, hu, hind⟩ := hrc lt
      have R : ∀ lt' : Nat → Int32, (lt' = lt ∨ (σ0.1 8 8 = 0 ∧ ∀ j, j < 8 → lt' j = lt j)) → LRow (σ0.1 9) (σ0.1 10) (σ0.1 83) (σ0.1 13 k) (σ0.1 14 k) (σ0.1 86 k) (σ0.1 87 k) lt' v w ∧ (w = 1 → LRow (σ0.1 9) (σ0.1 10) (σ0.1 83) (σ0.1 12 k) (σ0.1 13 k) (σ0.1 85 k) (σ0.1 86 k) lt' u u) := by
        rintro lt' (rfl | ⟨a, b⟩)
        · exact ⟨hrow, hu⟩
        · exact hind a lt' b
      by_cases hk2 : σ0.1 11 k = κ
      · -- the letter is the one that is asked for
        refine ⟨@ite _ (w = 1) (Classical.propDecidable _) u v1, fun lt' hlt => ⟨fun f σ hf hs hl => ?_, fun W h f σ hf hW hM hs hl => ?_⟩⟩
        · obtain ⟨f, rfl⟩ : ∃ q, f = q + 1 := ⟨f - 1, by omega⟩
          show ∃ st, F_X1_ask_2 κ (zfix (F_X1_ask_2L κ) f) (nI k) σ = _
          obtain ⟨st, hr⟩ := (R lt' hlt).1.1 σ (hs.1 9 (by decide)) (hs.1 10 (by decide)) hl
          have e : σ.1 8 7 = nI n := (hs.2 (8, 7) (by decide)).trans n1
          have e11 : σ.1 11 k = κ := (congrFun (hs.1 11 (by decide)) k).trans hk2
          have e13 : σ.1 13 = σ0.1 13 := hs.1 13 (by decide)
          have e14 : σ.1 14 = σ0.1 14 := hs.1 14 (by decide)
          have e12 : σ.1 12 = σ0.1 12 := hs.1 12 (by decide)
          unfold F_X1_ask_2 F_X1_ask_64 F_X1_ask_46
          simp (disch := omega) only [e, nI_lep, lit_le, if_neg, gd_n, nI_cl, e11, ↓reduceIte, e13, e14, hr, bd_s, nm_s, nI_1, zrow_r, Nat.reduceEqDiff, e12]
          have hs' : eqOn rowsL slotsL σ0 (zrow σ 16 st) := hs.tr (eqOn_row (by decide))
          have hl' : ∀ j, j < 9 → (zrow σ 16 st).1 25 j = lt' j := hl
          by_cases z : w = 1
          · rw [if_neg (hvw.mpr z), if_pos z]
            obtain ⟨st2, hr2⟩ := ((R lt' hlt).2 z).1 (zrow σ 16 st) (hs'.1 9 (by decide)) (hs'.1 10 (by decide)) hl'
            rw [hr2, bd_s, zrow_zrow]
            exact ⟨_, rfl⟩
          · rw [if_pos (Classical.byContradiction (fun q => z (hvw.mp q))), if_neg z]
            obtain ⟨st2, hr2⟩ := (h1 lt' hlt).1 f (zrow σ 16 st) (by omega) hs' hl'
            rw [hr2, zrow_zrow]
            exact ⟨_, rfl⟩
        · obtain ⟨f, rfl⟩ : ∃ q, f = q + 1 := ⟨f - 1, by omega⟩
          show ∃ st, F_X12_byLaw_2 κ (nI h) (zfix (F_X12_byLaw_2L κ (nI h)) f) (nI k) σ = _
          obtain ⟨st, hr⟩ := (R lt' hlt).1.2 σ (hs.1 83 (by decide)) hl
          have e : σ.1 69 23 = nI n := (hs.2 (69, 23) (by decide)).trans n2
          have e11 : σ.1 84 k = κ := (congrFun (hs.1 84 (by decide)) k).trans (hkd.symm.trans hk2)
          have e13 : σ.1 86 = σ0.1 86 := hs.1 86 (by decide)
          have e14 : σ.1 87 = σ0.1 87 := hs.1 87 (by decide)
          have e12 : σ.1 85 = σ0.1 85 := hs.1 85 (by decide)
          unfold F_X12_byLaw_2 F_X12_byLaw_77 F_X12_byLaw_43
          simp (disch := omega) only [e, nI_lep, lit_le, if_neg, gd_n, nI_cl, e11, ↓reduceIte, e13, e14, hr, bd_s, nm_s, nI_1, zrow_r, Nat.reduceEqDiff, e12]
          have hs' : eqOn rowsL slotsL σ0 (zrow σ 88 st) := hs.tr (eqOn_row (by decide))
          have hl' : ∀ j, j < 9 → (zrow σ 88 st).1 89 j = lt' j := hl
          have hM' : EM 70 0 W (zrow σ 88 st) := EM_on (eqOn_row (by decide)) hM
          by_cases z : w = 1
          · rw [if_pos z, if_pos z]
            obtain ⟨st2, hr2⟩ := ((R lt' hlt).2 z).2 (zrow σ 88 st) (hs'.1 83 (by decide)) hl'
            have hM2 : EM 70 0 W (zrow (zrow σ 88 st) 88 st2) := EM_on (eqOn_row (by decide)) hM'
            rw [hr2, bd_s, T_isPlace hW hM2, bd_s, zrow_zrow]
            by_cases y : isT W u
            · rw [bI_t y, if_neg (by decide), tor_t y]
              exact ⟨_, rfl⟩
            · rw [bI_f y, if_pos rfl, tor_f y]
              exact ⟨_, rfl⟩
          · rw [if_neg z, if_neg z]
            obtain ⟨st2, hr2⟩ := (h1 lt' hlt).2 W h f (zrow σ 88 st) (by omega) hW hM' hs' hl'
            rw [hr2, zrow_zrow]
            exact ⟨_, rfl⟩
      · refine ⟨v1, fun lt' hlt => ⟨fun f σ hf hs hl => ?_, fun W h f σ hf hW hM hs hl => ?_⟩⟩
        · obtain ⟨f, rfl⟩ : ∃ q, f = q + 1 := ⟨f - 1, by omega⟩
          show ∃ st, F_X1_ask_2 κ (zfix (F_X1_ask_2L κ) f) (nI k) σ = _
          have e : σ.1 8 7 = nI n := (hs.2 (8, 7) (by decide)).trans n1
          have e11 : σ.1 11 k = σ0.1 11 k := congrFun (hs.1 11 (by decide)) k
          unfold F_X1_ask_2 F_X1_ask_64
          simp (disch := omega) only [e, nI_lep, lit_le, if_neg, gd_n, nI_cl, e11, hk2, ↓reduceIte, nm_s, nI_1]
          exact (h1 lt' hlt).1 f σ (by omega) hs hl
        · obtain ⟨f, rfl⟩ : ∃ q, f = q + 1 := ⟨f - 1, by omega⟩
          show ∃ st, F_X12_byLaw_2 κ (nI h) (zfix (F_X12_byLaw_2L κ (nI h)) f) (nI k) σ = _
          have e : σ.1 69 23 = nI n := (hs.2 (69, 23) (by decide)).trans n2
          have e11 : σ.1 84 k = σ0.1 11 k := (congrFun (hs.1 84 (by decide)) k).trans hkd.symm
          unfold F_X12_byLaw_2 F_X12_byLaw_77
          simp (disch := omega) only [e, nI_lep, lit_le, if_neg, gd_n, nI_cl, e11, hk2, ↓reduceIte, nm_s, nI_1]
          exact (h1 lt' hlt).2 W h f σ (by omega) hW hM hs hl
  obtain ⟨v, hv⟩ := key n 0 (by omega)
  have fin : ∀ lt' : Nat → Int32, (lt' = lt ∨ (σ0.1 8 8 = 0 ∧ ∀ j, j < 8 → lt' j = lt j)) → LA σ0 κ lt' v := fun lt' hlt => ⟨fun σ hs hl => (hv lt' hlt).1 zlim σ (by show n < 1000000; omega) hs hl, fun W h σ hW hM hs hl => (hv lt' hlt).2 W h zlim σ (by show n < 1000000; omega) hW hM hs hl⟩
  exact ⟨v, fin lt (Or.inl rfl), fun a lt' b => fin lt' (Or.inr ⟨a, b⟩)⟩
theorem LA_u {σ0 : zSt} {κ : Int32} {lt : Nat → Int32} {v w : Int32} (h : LA σ0 κ lt v) (g : LA σ0 κ lt w) : v = w := by
  obtain ⟨a, ha⟩ := h.1 (zrow σ0 25 lt) (eqOn_row (by decide)) (fun j _ => congrFun zrow_c j)
  obtain ⟨b, hb⟩ := g.1 (zrow σ0 25 lt) (eqOn_row (by decide)) (fun j _ => congrFun zrow_c j)
  rw [ha] at hb
  exact congrArg Prod.fst (Option.some.inj hb)
noncomputable def lawv (σ0 : zSt) (κ : Int32) (lt : Nat → Int32) : Int32 := @dite _ (RLw σ0) (Classical.propDecidable _) (fun h => Classical.choose (LA_ex h κ lt)) (fun _ => 0)
theorem lawv_ok {σ0 : zSt} (h : RLw σ0) (κ : Int32) (lt : Nat → Int32) : LA σ0 κ lt (lawv σ0 κ lt) ∧ (σ0.1 8 8 = 0 → ∀ lt' : Nat → Int32, (∀ j, j < 8 → lt' j = lt j) → LA σ0 κ lt' (lawv σ0 κ lt)) := by
  unfold lawv
  rw [dif_pos h]
  exact Classical.choose_spec (LA_ex h κ lt)
theorem lawv_draw {σ0 : zSt} (h : RLw σ0) (ha : σ0.1 8 8 = 0) {κ : Int32} {lt lt' : Nat → Int32} (e : ∀ j, j < 8 → lt' j = lt j) : lawv σ0 κ lt' = lawv σ0 κ lt := LA_u (lawv_ok h κ lt').1 ((lawv_ok h κ lt).2 ha lt' e)
/-- a night: where he moves it, what he says -/
noncomputable def mvN (σ0 : zSt) (W : zWo) (g h d s r : Nat) : Nat := tor W (lawv σ0 109 (ltr W g h d s r)) h
noncomputable def syN (σ0 : zSt) (W : zWo) (g h d s r : Nat) : Nat := tor W (lawv σ0 108 (ltr W g h d s r)) h
theorem ltr_r {W : zWo} {g h d s r r' : Nat} : ∀ j, j < 8 → ltr W g h d s r' j = ltr W g h d s r j := by
  intro j hj
  have q : j = 0 ∨ j = 1 ∨ j = 2 ∨ j = 3 ∨ j = 4 ∨ j = 5 ∨ j = 6 ∨ j = 7 := by omega
  rcases q with rfl | rfl | rfl | rfl | rfl | rfl | rfl | rfl <;> rfl
theorem mvN_draw {σ0 : zSt} (hL : RLw σ0) (ha : σ0.1 8 8 = 0) {W : zWo} {g h d s r r' : Nat} : mvN σ0 W g h d s r' = mvN σ0 W g h d s r := by
  unfold mvN
  rw [lawv_draw hL ha ltr_r]
theorem syN_draw {σ0 : zSt} (hL : RLw σ0) (ha : σ0.1 8 8 = 0) {W : zWo} {g h d s r r' : Nat} : syN σ0 W g h d s r' = syN σ0 W g h d s r := by
  unfold syN
  rw [lawv_draw hL ha ltr_r]
theorem mvN_lt {σ0 : zSt} {W : zWo} {g h d s r : Nat} (hh : h < 8) : mvN σ0 W g h d s r < 8 := tor_lt hh
theorem syN_lt {σ0 : zSt} {W : zWo} {g h d s r : Nat} (hh : h < 8) : syN σ0 W g h d s r < 8 := tor_lt hh
theorem t_feels {W : zWo} {σ : zSt} (hW : WOK W) (hM : EM 70 0 W σ) {g h d s r : Nat} (hh : h < 8) : wp (F_X12_feels (nI g) (nI h) (nI d) (nI s) (nI r) σ) (fun _ τ => fr [89] [] σ τ ∧ ∀ j, j < 9 → τ.1 89 j = ltr W g h d s r j) := by
  have c2 : EM 70 0 W (zwr (zwr (σ) 89 0 (nI g)) 89 1 (nI h)) := (((fr.rf (L := [89]) (S := [])).w (Or.inl (by decide))).w (Or.inl (by decide))).EM (by decide) hM
  have c7 : EM 70 0 W (zwr (zwr (zwr (zwr (zwr (zwr (zwr (σ) 89 0 (nI g)) 89 1 (nI h)) 89 2 (nI (islW W h))) 89 3 (nI d)) 89 4 (nI s)) 89 5 (bI ((wWet W).testBit h = true))) 89 6 (bI (wLok W h ≠ none))) := ((((((((fr.rf (L := [89]) (S := [])).w (Or.inl (by decide))).w (Or.inl (by decide))).w (Or.inl (by decide))).w (Or.inl (by decide))).w (Or.inl (by decide))).w (Or.inl (by decide))).w (Or.inl (by decide))).EM (by decide) hM
  have e5 : σ.1 73 h = e2 (wLok W h) := hM.2.2.2.1 h hh
  have e1 : σ.1 69 1 = nI (wWet W) := hM.2.2.2.2.2.2.2.1
  have E : F_X12_feels (nI g) (nI h) (nI d) (nI s) (nI r) σ = some ((), zwr (zwr (zwr (zwr (zwr (zwr (zwr (zwr (zwr (σ) 89 0 (nI g)) 89 1 (nI h)) 89 2 (nI (islW W h))) 89 3 (nI d)) 89 4 (nI s)) 89 5 (bI ((wWet W).testBit h = true))) 89 6 (bI (wLok W h ≠ none))) 89 7 (nI (plN W h 8))) 89 8 (nI r)) := by
    unfold F_X12_feels F_X12_feels_0
    simp (disch := omega) only [nm_s, t_islandBy hW c2 hh, bd_s, zwr_r, Nat.reduceEqDiff, ↓reduceIte, e1, T_has (And.intro hW.wet hh), bI_id, gd_n, nI_cl, e5, lok_m hW hh, T_nextLevel hW c7 hh]
  refine wp_of E ⟨(((((((((fr.rf (L := [89]) (S := [])).w (Or.inl (by decide))).w (Or.inl (by decide))).w (Or.inl (by decide))).w (Or.inl (by decide))).w (Or.inl (by decide))).w (Or.inl (by decide))).w (Or.inl (by decide))).w (Or.inl (by decide))).w (Or.inl (by decide)), fun j hj => ?_⟩
  have q : j = 0 ∨ j = 1 ∨ j = 2 ∨ j = 3 ∨ j = 4 ∨ j = 5 ∨ j = 6 ∨ j = 7 ∨ j = 8 := by omega
  rcases q with rfl | rfl | rfl | rfl | rfl | rfl | rfl | rfl | rfl
  all_goals simp only [zwr_r, upd_r, Nat.reduceEqDiff, ↓reduceIte, ltr]
theorem T_movesTo {W : zWo} {σ0 σ : zSt} (hL : RLw σ0) (hs : eqOn rowsL slotsL σ0 σ) (hW : WOK W) (hM : EM 70 0 W σ) {g h d s r : Nat} (hh : h < 8) : wp (F_X12_movesTo (nI g) (nI h) (nI d) (nI s) (nI r) σ) (fun a τ => a = nI (mvN σ0 W g h d s r) ∧ fr [88, 89] [] σ τ) := by
  unfold F_X12_movesTo F_X12_movesTo_0
  refine wp_bd2 (t_feels hW hM hh) (fun _ τ hτ => ?_)
  obtain ⟨st, e⟩ := (lawv_ok hL 109 (ltr W g h d s r)).1.2 W h τ hW (hτ.1.EM (by decide) hM) (hs.tr (hτ.1.eqOn (by decide))) hτ.2
  rw [e, bd_s]
  exact wp_some ⟨rfl, (hτ.1.mono (by decide)).z (by decide)⟩
theorem T_saysOf {W : zWo} {σ0 σ : zSt} (hL : RLw σ0) (hs : eqOn rowsL slotsL σ0 σ) (hW : WOK W) (hM : EM 70 0 W σ) {g h d s r : Nat} (hh : h < 8) : wp (F_X12_saysOf (nI g) (nI h) (nI d) (nI s) (nI r) σ) (fun a τ => a = nI (syN σ0 W g h d s r) ∧ fr [88, 89] [] σ τ) := by
  unfold F_X12_saysOf F_X12_saysOf_0
  refine wp_bd2 (t_feels hW hM hh) (fun _ τ hτ => ?_)
  obtain ⟨st, e⟩ := (lawv_ok hL 108 (ltr W g h d s r)).1.2 W h τ hW (hτ.1.EM (by decide) hM) (hs.tr (hτ.1.eqOn (by decide))) hτ.2
  rw [e, bd_s]
  exact wp_some ⟨rfl, (hτ.1.mono (by decide)).z (by decide)⟩
theorem t_pass81 {W : zWo} {σ0 σ : zSt} (hL : RLw σ0) (hs : eqOn rowsL slotsL σ0 σ) (hW : WOK W) (hC : EC 1 2 W σ) {g h d s r : Nat} (hh : h < 8) (e3 : σ.1 24 3 = nI h) (e4 : σ.1 24 4 = nI g) (hl : ∀ j, j < 9 → σ.1 25 j = ltr W g h d s r j) : wp (F_X3_passFrom_81 σ) (fun _ τ => fr [16, 24, 25] [] σ τ ∧ τ.1 24 3 = nI h ∧ τ.1 24 4 = nI (g + 1) ∧ τ.1 24 5 = nI (syN σ0 W g h d s r) ∧ τ.1 24 6 = σ.1 24 6) := by
  unfold F_X3_passFrom_81
  obtain ⟨st, e⟩ := (lawv_ok hL 108 (ltr W g h d s r)).1.1 σ hs hl
  have hC' : EC 1 2 W (zrow σ 16 st) := EC_on (eqOn_row (by decide)) hC
  rw [e, bd_s, T_isTold hW hC', bd_s]
  have v : (if bI (isT W (lawv σ0 108 (ltr W g h d s r))) = 0 then (zrow σ 16 st).1 24 3 else lawv σ0 108 (ltr W g h d s r)) = nI (syN σ0 W g h d s r) := by
    unfold syN
    by_cases q : isT W (lawv σ0 108 (ltr W g h d s r))
    · rw [bI_t q, if_neg (by decide), tor_t q]
    · rw [bI_f q, if_pos rfl, tor_f q]
      exact e3
  simp only [nm_s, v]
  refine wp_some ⟨((fr_z (by decide)).w (Or.inl (by decide))).w (Or.inl (by decide)), ?_, ?_, ?_, ?_⟩
  all_goals simp only [zwr_r, zrow_r, upd_r, Nat.reduceEqDiff, ↓reduceIte, e3, e4, nI_1]
theorem T_passFrom {W : zWo} {σ0 σ : zSt} (hL : RLw σ0) (hs : eqOn rowsL slotsL σ0 σ) (hW : WOK W) (hC : EC 1 2 W σ) {g h d s r : Nat} (hh : h < 8) (e4 : σ.1 24 4 = nI g) (e5 : σ.1 24 5 = nI s) : wp (F_X3_passFrom (nI h) (nI d) (nI r) σ) (fun _ τ => fr [16, 24, 25] [] σ τ ∧ τ.1 24 3 = nI (mvN σ0 W g h d s r) ∧ τ.1 24 4 = nI (g + 1) ∧ τ.1 24 5 = nI (syN σ0 W g (mvN σ0 W g h d s r) d s r) ∧ τ.1 24 6 = σ.1 24 6) := by
  unfold F_X3_passFrom F_X3_passFrom_0
  simp only [nm_s, zwr_r, upd_r, Nat.reduceEqDiff, ↓reduceIte, e4, e5]
  have f1 : fr [16, 24, 25] [] σ (zwr (zwr (zwr (zwr (zwr σ 24 3 (nI h)) 25 0 (nI g)) 25 3 (nI d)) 25 4 (nI s)) 25 8 (nI r)) := (((((fr.rf.w (Or.inl (by decide))).w (Or.inl (by decide))).w (Or.inl (by decide))).w (Or.inl (by decide))).w (Or.inl (by decide)))
  have c1 := f1.EC (by decide) hC
  refine wp_bd2 (t_look_l (g := g) (h := h) (d := d) (s := s) (r := r) hW c1 hh ?_ ?_ ?_ ?_ ?_) (fun _ τ hτ => ?_)
  · simp only [zwr_r, upd_r, Nat.reduceEqDiff, ↓reduceIte]
  · simp only [zwr_r, upd_r, Nat.reduceEqDiff, ↓reduceIte]
  · simp only [zwr_r, upd_r, Nat.reduceEqDiff, ↓reduceIte]
  · simp only [zwr_r, upd_r, Nat.reduceEqDiff, ↓reduceIte]
  · simp only [zwr_r, upd_r, Nat.reduceEqDiff, ↓reduceIte]
  obtain ⟨g1, g2⟩ := hτ
  have f2 : fr [16, 24, 25] [] σ τ := f1.tr (g1.mono (by decide))
  obtain ⟨st, e⟩ := (lawv_ok hL 109 (ltr W g h d s r)).1.1 τ (hs.tr (f2.eqOn (by decide))) g2
  have f3 : fr [16, 24, 25] [] σ (zrow τ 16 st) := f2.z (by decide)
  have c3 := f3.EC (by decide) hC
  have t3 : τ.1 24 3 = nI h := by
    rw [g1.rd (by decide) (by decide)]
    simp only [zwr_r, upd_r, Nat.reduceEqDiff, ↓reduceIte]
  have t4 : τ.1 24 4 = nI g := by
    rw [g1.rd (by decide) (by decide)]
    simp only [zwr_r, upd_r, Nat.reduceEqDiff, ↓reduceIte, e4]
  have t6 : τ.1 24 6 = σ.1 24 6 := by
    rw [g1.rd (by decide) (by decide)]
    simp only [zwr_r, upd_r, Nat.reduceEqDiff, ↓reduceIte]
  rw [e, bd_s, T_isTold hW c3, bd_s]
  by_cases q : isT W (lawv σ0 109 (ltr W g h d s r))
  · rw [bI_t q, if_neg (by decide)]
    have hm : nI (mvN σ0 W g h d s r) = lawv σ0 109 (ltr W g h d s r) := tor_t q
    have hm8 : mvN σ0 W g h d s r < 8 := tor_lt hh
    simp only [nm_s]
    rw [← hm]
    have f4 : fr [16, 24, 25] [] σ (zwr (zrow τ 16 st) 24 3 (nI (mvN σ0 W g h d s r))) := f3.w (Or.inl (by decide))
    refine wp_bd2 (t_look_l (g := g) (h := mvN σ0 W g h d s r) (d := d) (s := s) (r := r) hW (f4.EC (by decide) hC) hm8 ?_ ?_ ?_ ?_ ?_) (fun _ υ hυ => ?_)
    · simp only [zwr_r, upd_r, Nat.reduceEqDiff, ↓reduceIte]
    · exact g2 0 (by decide)
    · exact g2 3 (by decide)
    · exact g2 4 (by decide)
    · exact g2 8 (by decide)
    obtain ⟨k1, k2⟩ := hυ
    have f5 : fr [16, 24, 25] [] σ υ := f4.tr (k1.mono (by decide))
    have u3 : υ.1 24 3 = nI (mvN σ0 W g h d s r) := by
      rw [k1.rd (by decide) (by decide)]
      simp only [zwr_r, upd_r, Nat.reduceEqDiff, ↓reduceIte]
    have u4 : υ.1 24 4 = nI g := by
      rw [k1.rd (by decide) (by decide)]
      exact t4
    have u6 : υ.1 24 6 = σ.1 24 6 := by
      rw [k1.rd (by decide) (by decide)]
      exact t6
    refine wp_mono (t_pass81 hL (hs.tr (f5.eqOn (by decide))) hW (f5.EC (by decide) hC) hm8 u3 u4 k2) (fun _ ω h => ?_)
    obtain ⟨a1, a2, a3, a4, a5⟩ := h
    exact ⟨f5.tr a1, a2, a3, a4, a5.trans u6⟩
  · rw [bI_f q, if_pos rfl]
    have hm : mvN σ0 W g h d s r = h := tor_f q
    rw [hm]
    refine wp_mono (t_pass81 (g := g) (h := h) (d := d) (s := s) (r := r) hL (hs.tr (f3.eqOn (by decide))) hW c3 hh t3 t4 g2) (fun _ ω h => ?_)
    obtain ⟨a1, a2, a3, a4, a5⟩ := h
    exact ⟨f3.tr a1, a2, a3, a4, a5.trans t6⟩
/-! PURE: night, tried -/
def setW (W : zWo) (h x g d s : Nat) : zWo := (W.1, W.2.1, (wTol W, wWet W, h), (x, g, d, s))
theorem topW_set {W : zWo} {h x g d s : Nat} : ∀ n p, topW (setW W h x g d s) n p = topW W n p := by
  intro n
  induction n with
  | zero => intro p; rfl
  | succ n ih =>
    intro p
    unfold topW
    rw [show wWin (setW W h x g d s) p = wWin W p from rfl]
    cases wWin W p with
    | none => rfl
    | some q => exact ih q
theorem plN_set {W : zWo} {h x g d s : Nat} {p : Nat} : ∀ n, plN (setW W h x g d s) p n = plN W p n := by
  intro n
  induction n with
  | zero => rfl
  | succ n ih =>
    unfold plN
    rw [ih]
    rfl
theorem ltr_set {W : zWo} {h x g d s : Nat} {g' h' d' s' r' : Nat} : ltr (setW W h x g d s) g' h' d' s' r' = ltr W g' h' d' s' r' := by
  refine funext (fun j => ?_)
  have e : islW (setW W h x g d s) h' = islW W h' := congrArg (wIsl W) (topW_set 8 h')
  unfold ltr
  split
  all_goals first | rfl | rw [e] | rw [plN_set]
theorem mvN_set {σ0 : zSt} {W : zWo} {h x g d s : Nat} {g' h' d' s' r' : Nat} : mvN σ0 (setW W h x g d s) g' h' d' s' r' = mvN σ0 W g' h' d' s' r' := by
  unfold mvN
  rw [ltr_set]
  rfl
theorem syN_set {σ0 : zSt} {W : zWo} {h x g d s : Nat} {g' h' d' s' r' : Nat} : syN σ0 (setW W h x g d s) g' h' d' s' r' = syN σ0 W g' h' d' s' r' := by
  unfold syN
  rw [ltr_set]
  rfl
theorem WOK_set {W : zWo} {h x g d s : Nat} (hW : WOK W) (h1 : h < 8) (h2 : x < 65536) (h3 : g ≤ 600) (h4 : d ≤ 8) (h5 : s ≤ 8) : WOK (setW W h x g d s) := by
  obtain ⟨v1, v2, v3, v4, v5, v6, v7, v8, v9, v10⟩ := hW
  exact ⟨v1, v2, v3, v4, v5, v6, v7, v8, v9, h1, h3, h4, h5, h2⟩
def SN : List (Nat × Nat) := [(69, 2), (69, 3), (69, 4), (69, 5), (69, 6)]
theorem EM_set {W : zWo} {σ τ : zSt} {h x g d s : Nat} {L : List Nat} (hM : EM 70 0 W σ) (hf : fr L SN σ τ) (hL : (rowsM.all (fun c => !L.contains c) && !L.contains 69) = true) (a2 : τ.1 69 2 = nI h) (a3 : τ.1 69 3 = nI x) (a4 : τ.1 69 4 = nI g) (a5 : τ.1 69 5 = nI d) (a6 : τ.1 69 6 = nI s) : EM 70 0 (setW W h x g d s) τ := by
  rw [Bool.and_eq_true] at hL
  have r : ∀ c, c ∈ rowsM → τ.1 c = σ.1 c := by
    intro c hc
    refine hf.row ?_
    rw [Bool.and_eq_true]
    refine ⟨List.all_eq_true.mp hL.1 c hc, ?_⟩
    have : c ≠ 69 := by
      intro q
      rw [q] at hc
      revert hc
      decide
    simp [SN, Ne.symm this]
  have h69 : 69 ∉ L := by
    intro q
    have := hL.2
    rw [List.contains_iff_mem.mpr q] at this
    cases this
  obtain ⟨c1, c2, c3, c4, c5, c6, c7, c8, c9⟩ := hM
  exact ⟨fun j hj => (congrFun (r 70 (by decide)) j).trans (c1 j hj), fun j hj => (congrFun (r 71 (by decide)) j).trans (c2 j hj), fun j hj => (congrFun (r 72 (by decide)) j).trans (c3 j hj), fun j hj => (congrFun (r 73 (by decide)) j).trans (c4 j hj), fun j hj => (congrFun (r 74 (by decide)) j).trans (c5 j hj), fun j hj => (congrFun (r 75 (by decide)) j).trans (c6 j hj), (hf.rd h69 (by decide)).trans c7, (hf.rd h69 (by decide)).trans c8, a2, a4, a5, a6, a3⟩
theorem EM_get {W : zWo} {h x g d s : Nat} {τ : zSt} (hM : EM 70 0 (setW W h x g d s) τ) : τ.1 69 2 = nI h ∧ τ.1 69 3 = nI x ∧ τ.1 69 4 = nI g ∧ τ.1 69 5 = nI d ∧ τ.1 69 6 = nI s := by
  obtain ⟨c1, c2, c3, c4, c5, c6, c7, c8, c9, c10, c11, c12, c13⟩ := hM
  exact ⟨c9, c13, c10, c11, c12⟩
theorem EM_self {W : zWo} {σ : zSt} (hM : EM 70 0 W σ) : EM 70 0 (setW W (wHea W) (wX W) (wNig W) (wDus W) (wSai W)) σ := hM
/-- the next X -/
def nxX (x : Nat) : Nat := (25173 * x + 13849) % 65536
theorem nxX_lt {x : Nat} : nxX x < 65536 := Nat.mod_lt _ (by decide)
theorem nI_mod {a b : Nat} (h : a < 2147483648 ∧ 0 < b ∧ b < 2147483648) : nI a % nI b = nI (a % b) := by
  have h2 : a % b < b := Nat.mod_lt _ h.2.1
  rw [i_eq, Int32.toInt_mod, i_nI h.1, i_nI h.2.2, i_nI (by omega)]
  rfl
theorem nxX_e {x : Nat} (hx : x < 65536) : ((25173 : Int32) * nI x + (13849 : Int32)) % (65536 : Int32) = nI (nxX x) := by
  have e : (25173 : Int32) * nI x + (13849 : Int32) = nI (25173 * x + 13849) := by
    rw [show (25173 : Int32) = nI 25173 from rfl, show (13849 : Int32) = nI 13849 from rfl, pk_mul, nI_add]
  rw [e, show (65536 : Int32) = nI 65536 from rfl, nI_mod (by omega)]
  rfl
theorem mod10_e {x : Nat} (hx : x < 65536) : nI x % (10 : Int32) = nI (x % 10) := by
  rw [show (10 : Int32) = nI 10 from rfl, nI_mod (by omega)]
theorem T_pass {W : zWo} {σ0 σ : zSt} (hL : RLw σ0) (hs : eqOn rowsL slotsL σ0 σ) (hW : WOK W) (hC : EC 1 2 W σ) {g h d s x : Nat} (hh : h < 8) (hx : x < 65536) (e3 : σ.1 24 3 = nI h) (e4 : σ.1 24 4 = nI g) (e5 : σ.1 24 5 = nI s) (e6 : σ.1 24 6 = nI x) : wp (F_X3_pass (nI d) σ) (fun _ τ => fr [16, 24, 25] [] σ τ ∧ τ.1 24 3 = nI (mvN σ0 W g h d s (nxX x % 10)) ∧ τ.1 24 4 = nI (g + 1) ∧ τ.1 24 5 = nI (syN σ0 W g (mvN σ0 W g h d s (nxX x % 10)) d s (nxX x % 10)) ∧ τ.1 24 6 = nI (nxX x)) := by
  unfold F_X3_pass F_X3_pass_0
  simp only [nm_s, e6, nxX_e hx, zwr_r, upd_r, Nat.reduceEqDiff, ↓reduceIte, e3, mod10_e nxX_lt]
  have f1 : fr [16, 24, 25] [] σ (zwr σ 24 6 (nI (nxX x))) := fr_w (Or.inl (by decide))
  refine wp_bd2 (T_passFrom (g := g) (s := s) hL (hs.tr (f1.eqOn (by decide))) hW (f1.EC (by decide) hC) hh ?_ ?_) (fun _ τ hτ => ?_)
  · simp only [zwr_r, upd_r, Nat.reduceEqDiff, ↓reduceIte, e4]
  · simp only [zwr_r, upd_r, Nat.reduceEqDiff, ↓reduceIte, e5]
  · obtain ⟨a1, a2, a3, a4, a5⟩ := hτ
    refine wp_some ⟨f1.tr a1, a2, a3, a4, a5.trans ?_⟩
    simp only [zwr_r, upd_r, ↓reduceIte]
theorem T_nightGoes {W : zWo} {σ0 σ : zSt} (hL : RLw σ0) (hs : eqOn rowsL slotsL σ0 σ) (hW : WOK W) {g h d s x d' : Nat} (hh : h < 8) (hx : x < 65536) (hg : g ≤ 600) (hd : d ≤ 8) (hs8 : s ≤ 8) (hM : EM 70 0 (setW W h x g d s) σ) : wp (F_X12_nightGoes (nI d') σ) (fun a τ => a = nI (syN σ0 W g (mvN σ0 W g h d' s (nxX x % 10)) d' s (nxX x % 10)) ∧ fr [88, 89] SN σ τ ∧ EM 70 0 (setW W (mvN σ0 W g h d' s (nxX x % 10)) (nxX x) (g + 1) d' (syN σ0 W g (mvN σ0 W g h d' s (nxX x % 10)) d' s (nxX x % 10))) τ) := by
  obtain ⟨e2, e3, e4, e5, e6⟩ := EM_get hM
  have hW1 : WOK (setW W h (nxX x) g d s) := WOK_set hW hh nxX_lt hg hd hs8
  unfold F_X12_nightGoes F_X12_nightGoes_0 F_X12_draws F_X12_draws_0
  simp only [nm_s, e3, nxX_e hx, zwr_r, upd_r, Nat.reduceEqDiff, ↓reduceIte, mod10_e nxX_lt, bd_s, e4, e2, e6]
  have f1 : fr [88, 89] SN σ (zwr σ 69 3 (nI (nxX x))) := fr_w (Or.inr (by decide))
  have m1 : EM 70 0 (setW W h (nxX x) g d s) (zwr σ 69 3 (nI (nxX x))) := EM_set (W := setW W h x g d s) hM f1 (by decide) (by simp only [zwr_r, upd_r, Nat.reduceEqDiff, ↓reduceIte, e2]) (by simp only [zwr_r, upd_r, ↓reduceIte]) (by simp only [zwr_r, upd_r, Nat.reduceEqDiff, ↓reduceIte, e4]) (by simp only [zwr_r, upd_r, Nat.reduceEqDiff, ↓reduceIte, e5]) (by simp only [zwr_r, upd_r, Nat.reduceEqDiff, ↓reduceIte, e6])
  refine wp_bd2 (T_movesTo hL (hs.tr (f1.eqOn (by decide))) hW1 m1 hh) (fun a τ hτ => ?_)
  obtain ⟨rfl, g1⟩ := hτ
  rw [mvN_set]
  have hm8 : mvN σ0 W g h d' s (nxX x % 10) < 8 := mvN_lt hh
  have hW2 : WOK (setW W (mvN σ0 W g h d' s (nxX x % 10)) (nxX x) g d s) := WOK_set hW hm8 nxX_lt hg hd hs8
  obtain ⟨b2, b3, b4, b5, b6⟩ := EM_get (g1.EM (by decide) m1)
  have f2 : fr [88, 89] SN σ (zwr τ 69 2 (nI (mvN σ0 W g h d' s (nxX x % 10)))) := (f1.tr (g1.mono (by decide))).w (Or.inr (by decide))
  have m2 : EM 70 0 (setW W (mvN σ0 W g h d' s (nxX x % 10)) (nxX x) g d s) (zwr τ 69 2 (nI (mvN σ0 W g h d' s (nxX x % 10)))) := EM_set (W := setW W h x g d s) hM f2 (by decide) (by simp only [zwr_r, upd_r, ↓reduceIte]) (by simp only [zwr_r, upd_r, Nat.reduceEqDiff, ↓reduceIte, b3]) (by simp only [zwr_r, upd_r, Nat.reduceEqDiff, ↓reduceIte, b4]) (by simp only [zwr_r, upd_r, Nat.reduceEqDiff, ↓reduceIte, b5]) (by simp only [zwr_r, upd_r, Nat.reduceEqDiff, ↓reduceIte, b6])
  simp only [nm_s, zwr_r, upd_r, Nat.reduceEqDiff, ↓reduceIte, b4, b6]
  refine wp_bd2 (T_saysOf hL (hs.tr (f2.eqOn (by decide))) hW2 m2 hm8) (fun a υ hυ => ?_)
  obtain ⟨rfl, g2⟩ := hυ
  rw [syN_set]
  obtain ⟨c2, c3, c4, c5, c6⟩ := EM_get (g2.EM (by decide) m2)
  simp only [nm_s, zwr_r, upd_r, Nat.reduceEqDiff, ↓reduceIte, c4, nI_1]
  have f3 := (((f2.tr (g2.mono (L' := [88, 89]) (S' := SN) (by decide))).w (c := 69) (j := 6) (v := nI (syN σ0 W g (mvN σ0 W g h d' s (nxX x % 10)) d' s (nxX x % 10))) (Or.inr (by decide))).w (c := 69) (j := 5) (v := nI d') (Or.inr (by decide))).w (c := 69) (j := 4) (v := nI (g + 1)) (Or.inr (by decide))
  exact wp_some ⟨rfl, f3, EM_set (W := setW W h x g d s) hM f3 (by decide) (by simp only [zwr_r, upd_r, Nat.reduceEqDiff, ↓reduceIte, c2]) (by simp only [zwr_r, upd_r, Nat.reduceEqDiff, ↓reduceIte, c3]) (by simp only [zwr_r, upd_r, ↓reduceIte]) (by simp only [zwr_r, upd_r, Nat.reduceEqDiff, ↓reduceIte]) (by simp only [zwr_r, upd_r, Nat.reduceEqDiff, ↓reduceIte])⟩
theorem T_heart {W : zWo} {σ : zSt} (hW : WOK W) (hC : EC 1 2 W σ) : F_X11_heartIsTold σ = some (bI (isT W (nI (wHea W))), σ) := by
  have e : σ.1 1 8 = nI (wHea W) := hC.2.2.2.2.2.2.2.2.1
  unfold F_X11_heartIsTold F_X11_heartIsTold_0
  rw [e, T_isTold hW hC, bd_s, gd_01]
theorem T_begin {W : zWo} {σ : zSt} (hC : EC 1 2 W σ) : F_X3_begin σ = some ((), zwr (zwr (zwr (zwr σ 24 3 (nI (wHea W))) 24 4 (nI (wNig W))) 24 5 (nI (wSai W))) 24 6 (nI (wX W))) := by
  obtain ⟨c1, c2, c3, c4, c5, c6, c7, c8, c9, c10, c11, c12, c13⟩ := hC
  unfold F_X3_begin F_X3_begin_0
  simp only [nm_s, zwr_r, Nat.reduceEqDiff, ↓reduceIte, c9, c10, c12, c13]
theorem T_in_9 {x : Int32} {σ : zSt} : F_X12_in x 0 8 σ = some (bI (bel x 9), σ) := T_inN 8 rfl
theorem s_night {n : Nat} {σ : zSt} (hn : n < 512) (hR : Rel n σ) (x1 : Int32) : Both n (F_X11_night x1) (F_X12_night x1) σ := by
  obtain ⟨-, ⟨W, w0, w1, w2, w3⟩, -, -, hL, -⟩ := id hR
  have m2 : σ.1 69 2 = nI (wHea W) := w3.2.2.2.2.2.2.2.2.1
  have m4 : σ.1 69 4 = nI (wNig W) := w3.2.2.2.2.2.2.2.2.2.1
  have c9 : σ.1 1 9 = nI (wNig W) := w2.2.2.2.2.2.2.2.2.2.1
  by_cases h1 : bel x1 9
  rotate_left
  · exact Both.no (-1) hn hR (by simp (disch := omega) only [F_X11_night, F_X11_night_0, T_isBelow_2, T_isBelow_3, T_isBelow_4, T_isBelow_6, T_isBelow_8, T_isBelow_9, T_isBelow_10, T_isBelow_12, T_isBelow_16, T_isBelow_17, T_isBelow_31, T_isBelow_64, T_isBelow_256, T_isBelow_65536, T_in_1, T_in_2, T_in_3, T_in_4, T_in_5, T_in_8, T_in_11, T_in_16, T_in_30, T_in_63, T_in_255, T_in_65535, T_isIsland, T_isEight, bd_s, nm_s, bI_0, gd_n, gd_01, nI_cl, nI_add, nI_1, m4, Bool.false_eq_true, not_true_eq_false, not_false_eq_true, ↓reduceIte, h1]) (by simp (disch := omega) only [F_X12_night, F_X12_night_0, T_isBelow_2, T_isBelow_3, T_isBelow_4, T_isBelow_6, T_isBelow_8, T_isBelow_9, T_isBelow_10, T_isBelow_12, T_isBelow_16, T_isBelow_17, T_isBelow_31, T_isBelow_64, T_isBelow_256, T_isBelow_65536, T_in_1, T_in_2, T_in_3, T_in_4, T_in_5, T_in_8, T_in_11, T_in_16, T_in_30, T_in_63, T_in_255, T_in_65535, T_isIsland, T_isEight, bd_s, nm_s, bI_0, gd_n, gd_01, nI_cl, nI_add, nI_1, m4, Bool.false_eq_true, not_true_eq_false, not_false_eq_true, ↓reduceIte, h1])
  by_cases h2 : isT W (nI (wHea W))
  rotate_left
  · exact Both.no (-1) hn hR (by simp (disch := omega) only [F_X11_night, F_X11_night_0, T_isBelow_2, T_isBelow_3, T_isBelow_4, T_isBelow_6, T_isBelow_8, T_isBelow_9, T_isBelow_10, T_isBelow_12, T_isBelow_16, T_isBelow_17, T_isBelow_31, T_isBelow_64, T_isBelow_256, T_isBelow_65536, T_in_1, T_in_2, T_in_3, T_in_4, T_in_5, T_in_8, T_in_11, T_in_16, T_in_30, T_in_63, T_in_255, T_in_65535, T_isIsland, T_isEight, bd_s, nm_s, bI_0, gd_n, gd_01, nI_cl, nI_add, nI_1, m4, Bool.false_eq_true, not_true_eq_false, not_false_eq_true, ↓reduceIte, h1, T_heart w0 w2, h2]) (by simp (disch := omega) only [F_X12_night, F_X12_night_0, T_isBelow_2, T_isBelow_3, T_isBelow_4, T_isBelow_6, T_isBelow_8, T_isBelow_9, T_isBelow_10, T_isBelow_12, T_isBelow_16, T_isBelow_17, T_isBelow_31, T_isBelow_64, T_isBelow_256, T_isBelow_65536, T_in_1, T_in_2, T_in_3, T_in_4, T_in_5, T_in_8, T_in_11, T_in_16, T_in_30, T_in_63, T_in_255, T_in_65535, T_isIsland, T_isEight, bd_s, nm_s, bI_0, gd_n, gd_01, nI_cl, nI_add, nI_1, m4, Bool.false_eq_true, not_true_eq_false, not_false_eq_true, ↓reduceIte, h1, m2, T_isPlace w0 w3, h2])
  obtain ⟨d, hd, rfl⟩ := bel_of h1
  have hh : wHea W < 8 := w0.hea
  have hx : wX W < 65536 := w0.2.2.2.2.2.2.2.2.2.2.2.2.2
  have hg : wNig W ≤ 600 := w0.2.2.2.2.2.2.2.2.2.2.1
  have hd8 : wDus W ≤ 8 := w0.2.2.2.2.2.2.2.2.2.2.2.1
  have hs8 : wSai W ≤ 8 := w0.2.2.2.2.2.2.2.2.2.2.2.2.1
  have E1 : wp (F_X11_night (nI d) σ) (fun a τ => ∃ h' s', h' = mvN σ W (wNig W) (wHea W) d (wSai W) (nxX (wX W) % 10) ∧ s' = syN σ W (wNig W) h' d (wSai W) (nxX (wX W) % 10) ∧ a = nI s' ∧ fr [16, 24, 25] [(1, 8), (1, 9), (1, 10), (1, 11), (1, 12)] σ τ ∧ EC 1 2 (setW W h' (nxX (wX W)) (wNig W + 1) d s') τ) := by
    have E0 : F_X11_night (nI d) σ = bd (F_X3_begin σ) (fun _ s10 => bd (F_X3_pass (nI d) s10) (fun _ s13 => nm (zwr s13 1 8 (s13.1 24 3)) (fun s16 => nm (zwr s16 1 9 (s16.1 24 4)) (fun s17 => nm (zwr s17 1 10 (nI d)) (fun s18 => nm (zwr s18 1 11 (s18.1 24 5)) (fun s19 => nm (zwr s19 1 12 (s19.1 24 6)) (fun s20 => some ((s20.1 1 11), s20)))))))) := by
      simp (disch := omega) only [F_X11_night, F_X11_night_0, T_isBelow_2, T_isBelow_3, T_isBelow_4, T_isBelow_6, T_isBelow_8, T_isBelow_9, T_isBelow_10, T_isBelow_12, T_isBelow_16, T_isBelow_17, T_isBelow_31, T_isBelow_64, T_isBelow_256, T_isBelow_65536, T_in_1, T_in_2, T_in_3, T_in_4, T_in_5, T_in_8, T_in_11, T_in_16, T_in_30, T_in_63, T_in_255, T_in_65535, T_isIsland, T_isEight, bd_s, nm_s, bI_0, gd_n, gd_01, nI_cl, nI_add, nI_1, m4, Bool.false_eq_true, not_true_eq_false, not_false_eq_true, ↓reduceIte, h1, T_heart w0 w2, h2, c9, lt_lit, if_pos]
    rw [E0, T_begin w2, bd_s]
    have f1 : fr [16, 24, 25] [] σ (zwr (zwr (zwr (zwr σ 24 3 (nI (wHea W))) 24 4 (nI (wNig W))) 24 5 (nI (wSai W))) 24 6 (nI (wX W))) := (((fr_w (Or.inl (by decide))).w (Or.inl (by decide))).w (Or.inl (by decide))).w (Or.inl (by decide))
    refine wp_bd2 (T_pass (g := wNig W) (h := wHea W) (s := wSai W) (x := wX W) hL (f1.eqOn (by decide)) w0 (f1.EC (by decide) w2) hh hx ?_ ?_ ?_ ?_) (fun _ τ hτ => ?_)
    · simp only [zwr_r, upd_r, Nat.reduceEqDiff, ↓reduceIte]
    · simp only [zwr_r, upd_r, Nat.reduceEqDiff, ↓reduceIte]
    · simp only [zwr_r, upd_r, Nat.reduceEqDiff, ↓reduceIte]
    · simp only [zwr_r, upd_r, Nat.reduceEqDiff, ↓reduceIte]
    obtain ⟨a1, a2, a3, a4, a5⟩ := hτ
    have f2 := f1.tr a1
    obtain ⟨c1, c2, c3, c4, c5, c6, c7, c8, -⟩ := f2.EC (by decide) w2
    simp only [nm_s, zwr_r, upd_r, Nat.reduceEqDiff, ↓reduceIte, a2, a3, a4, a5]
    exact wp_some ⟨_, _, rfl, rfl, rfl, (((((f2.mono (by decide)).w (Or.inr (by decide))).w (Or.inr (by decide))).w (Or.inr (by decide))).w (Or.inr (by decide))).w (Or.inr (by decide)), c1, c2, c3, c4, c5, c6, c7, c8, rfl, rfl, rfl, rfl, rfl⟩
  obtain ⟨a, τ, e1, h', s', rfl, rfl, rfl, f1, k1⟩ := E1
  have E2 : F_X12_night (nI d) τ = bd (F_X12_nightGoes (nI d) τ) (fun q11 s10 => some (q11, s10)) := by
    have w3p := f1.EM (by decide) w3
    have m2p : τ.1 69 2 = nI (wHea W) := w3p.2.2.2.2.2.2.2.2.1
    have m4p : τ.1 69 4 = nI (wNig W) := w3p.2.2.2.2.2.2.2.2.2.1
    simp (disch := omega) only [F_X12_night, F_X12_night_0, T_isBelow_2, T_isBelow_3, T_isBelow_4, T_isBelow_6, T_isBelow_8, T_isBelow_9, T_isBelow_10, T_isBelow_12, T_isBelow_16, T_isBelow_17, T_isBelow_31, T_isBelow_64, T_isBelow_256, T_isBelow_65536, T_in_1, T_in_2, T_in_3, T_in_4, T_in_5, T_in_8, T_in_11, T_in_16, T_in_30, T_in_63, T_in_255, T_in_65535, T_isIsland, T_isEight, bd_s, nm_s, bI_0, gd_n, gd_01, nI_cl, nI_add, nI_1, m4, Bool.false_eq_true, not_true_eq_false, not_false_eq_true, ↓reduceIte, h1, m2p, T_isPlace w0 w3p, h2, m4p, eq_lit, if_neg]
  have E3 := T_nightGoes (d' := d) hL (f1.eqOn (by decide)) w0 hh hx hg hd8 hs8 (EM_self (f1.EM (by decide) w3))
  obtain ⟨a, υ, e3, rfl, f2, k2⟩ := E3
  refine Both.mk e1 (E2.trans (by rw [e3, bd_s])) ?_
  refine Rel_W hn hR ((f1.eqOn (by decide)).tr (f2.eqOn (by decide))) ⟨_, WOK_set w0 (mvN_lt hh) nxX_lt (show wNig W + 1 ≤ 600 by omega) (show d ≤ 8 by omega) (Nat.le_of_lt (syN_lt (mvN_lt hh))), Nat.succ_le_succ w1, ?_, k2⟩
  exact f2.EC (by decide) k1
/-- nights tried: h, x, said, truths, moves -/
noncomputable def trN (σ0 : zSt) (W : zWo) : Nat → Nat × Nat × Nat × Nat × Nat
  | 0 => (wHea W, wX W, wSai W, 0, 0)
  | k + 1 =>
    (mvN σ0 W (wNig W + k) (trN σ0 W k).1 (trN σ0 W k).2.2.1 (trN σ0 W k).2.2.1 (nxX (trN σ0 W k).2.1 % 10), nxX (trN σ0 W k).2.1,
      syN σ0 W (wNig W + k) (mvN σ0 W (wNig W + k) (trN σ0 W k).1 (trN σ0 W k).2.2.1 (trN σ0 W k).2.2.1 (nxX (trN σ0 W k).2.1 % 10)) (trN σ0 W k).2.2.1 (trN σ0 W k).2.2.1 (nxX (trN σ0 W k).2.1 % 10),
      (trN σ0 W k).2.2.2.1 + (if syN σ0 W (wNig W + k) (mvN σ0 W (wNig W + k) (trN σ0 W k).1 (trN σ0 W k).2.2.1 (trN σ0 W k).2.2.1 (nxX (trN σ0 W k).2.1 % 10)) (trN σ0 W k).2.2.1 (trN σ0 W k).2.2.1 (nxX (trN σ0 W k).2.1 % 10) = mvN σ0 W (wNig W + k) (trN σ0 W k).1 (trN σ0 W k).2.2.1 (trN σ0 W k).2.2.1 (nxX (trN σ0 W k).2.1 % 10) then 1 else 0),
      (trN σ0 W k).2.2.2.2 + (if (trN σ0 W k).1 = mvN σ0 W (wNig W + k) (trN σ0 W k).1 (trN σ0 W k).2.2.1 (trN σ0 W k).2.2.1 (nxX (trN σ0 W k).2.1 % 10) then 0 else 1))
theorem trN_b {σ0 : zSt} {W : zWo} (hW : WOK W) : ∀ k, (trN σ0 W k).1 < 8 ∧ (trN σ0 W k).2.1 < 65536 ∧ (trN σ0 W k).2.2.1 ≤ 8 := by
  intro k
  induction k with
  | zero => exact ⟨hW.hea, hW.2.2.2.2.2.2.2.2.2.2.2.2.2, hW.2.2.2.2.2.2.2.2.2.2.2.2.1⟩
  | succ k ih => exact ⟨mvN_lt ih.1, nxX_lt, Nat.le_of_lt (syN_lt (mvN_lt ih.1))⟩
theorem nI_ite {a b : Nat} (ha : a < 2147483648) (hb : b < 2147483648) {u v : Nat} : (if nI a = nI b then nI u else nI v) = nI (if a = b then u else v) := by
  by_cases h : a = b
  · rw [if_pos h, if_pos (by rw [h])]
  · rw [if_neg h, if_neg (fun q => h ((nI_eq ha hb).mp q))]
theorem fr_fix {L : List Nat} {σ τ : zSt} (h : fr L (SM ++ SN) σ τ) (a2 : τ.1 69 2 = σ.1 69 2) (a3 : τ.1 69 3 = σ.1 69 3) (a4 : τ.1 69 4 = σ.1 69 4) (a5 : τ.1 69 5 = σ.1 69 5) (a6 : τ.1 69 6 = σ.1 69 6) : fr L SM σ τ := by
  refine ⟨fun c j h1 h2 => ?_, h.2⟩
  by_cases q : (c, j) ∈ SN
  · simp only [SN, List.mem_cons, List.not_mem_nil, or_false, Prod.mk.injEq] at q
    rcases q with ⟨rfl, rfl⟩ | ⟨rfl, rfl⟩ | ⟨rfl, rfl⟩ | ⟨rfl, rfl⟩ | ⟨rfl, rfl⟩ <;> assumption
  · exact h.1 c j h1 (fun r => (List.mem_append.mp r).elim h2 q)
noncomputable def trA (σ0 : zSt) (W : zWo) (N : Nat) (x2 : Int32) : Int32 := if x2 = 0 then nI (trN σ0 W N).1 else (if x2 = 1 then nI (trN σ0 W N).2.2.1 else (if x2 = 2 then nI (trN σ0 W N).2.2.2.1 else nI (trN σ0 W N).2.2.2.2))
theorem T_trial {W : zWo} {σ0 σ : zSt} (hL : RLw σ0) (hs : eqOn rowsL slotsL σ0 σ) (hW : WOK W) (hC : EC 1 2 W σ) {N : Nat} (hN : N ≤ 20) (x2 : Int32) : wp (F_X3_trial (nI N) x2 σ) (fun a τ => a = trA σ0 W N x2 ∧ fr [16, 24, 25] [] σ τ) := by
  unfold F_X3_trial F_X3_trial_0
  rw [T_begin hC, bd_s]
  have f1 : fr [16, 24, 25] [] σ (zwr (zwr (zwr (zwr σ 24 3 (nI (wHea W))) 24 4 (nI (wNig W))) 24 5 (nI (wSai W))) 24 6 (nI (wX W))) := (((fr_w (Or.inl (by decide))).w (Or.inl (by decide))).w (Or.inl (by decide))).w (Or.inl (by decide))
  refine wp_for (fun k s => s.1 = nI (trN σ0 W k).2.2.2.1 ∧ s.2.1 = nI (trN σ0 W k).2.2.2.2 ∧ s.2.2.1 = nI k ∧ fr [16, 24, 25] [] σ s.2.2.2 ∧ s.2.2.2.1 24 3 = nI (trN σ0 W k).1 ∧ s.2.2.2.1 24 4 = nI (wNig W + k) ∧ s.2.2.2.1 24 5 = nI (trN σ0 W k).2.2.1 ∧ s.2.2.2.1 24 6 = nI (trN σ0 W k).2.1) N (by omega) (fun k w s hk hI hw => ?_) (fun w s hI => ?_) ⟨rfl, rfl, rfl, f1, ?_, ?_, ?_, ?_⟩
  · obtain ⟨x3, x4, x5, τ⟩ := s
    obtain ⟨i1, i2, i3, i4, i5, i6, i7, i8⟩ := hI
    simp only at i1 i2 i3 i4 i5 i6 i7 i8
    subst i1 i2 i3
    show wp (F_X3_trial_12 (nI N) x2 w _ _ (nI k) τ) _
    obtain ⟨b1, b2, b3⟩ := trN_b (σ0 := σ0) hW k
    unfold F_X3_trial_12
    rw [if_neg (by rw [nI_lep (by omega)]; omega), i7]
    refine wp_bd2 (T_pass hL (hs.tr (i4.eqOn (by decide))) hW (i4.EC (by decide) hC) b1 b2 i5 i6 i7 i8) (fun _ υ hυ => ?_)
    obtain ⟨a1, a2, a3, a4, a5⟩ := hυ
    have m8 : mvN σ0 W (wNig W + k) (trN σ0 W k).1 (trN σ0 W k).2.2.1 (trN σ0 W k).2.2.1 (nxX (trN σ0 W k).2.1 % 10) < 8 := mvN_lt b1
    have s8 : syN σ0 W (wNig W + k) (mvN σ0 W (wNig W + k) (trN σ0 W k).1 (trN σ0 W k).2.2.1 (trN σ0 W k).2.2.1 (nxX (trN σ0 W k).2.1 % 10)) (trN σ0 W k).2.2.1 (trN σ0 W k).2.2.1 (nxX (trN σ0 W k).2.1 % 10) < 8 := syN_lt m8
    simp only [nm_s, a2, a4, i5, show (1 : Int32) = nI 1 from rfl, show (0 : Int32) = nI 0 from rfl]
    rw [nI_ite (by omega) (by omega), nI_ite (by omega) (by omega), nI_add, nI_add, nI_add]
    exact hw _ ⟨rfl, rfl, rfl, i4.tr a1, a2, a3, a4, a5⟩
  · obtain ⟨x3, x4, x5, τ⟩ := s
    obtain ⟨i1, i2, i3, i4, i5, i6, i7, i8⟩ := hI
    simp only at i1 i2 i3 i4 i5 i6 i7 i8
    subst i1 i2 i3
    show wp (F_X3_trial_12 (nI N) x2 w _ _ (nI N) τ) _
    unfold F_X3_trial_12 F_X3_trial_76 trA
    rw [if_pos (by rw [nI_lep (by omega)]; omega), i5, i7]
    split
    · exact wp_some ⟨rfl, i4⟩
    · split
      · exact wp_some ⟨rfl, i4⟩
      · split <;> exact wp_some ⟨rfl, i4⟩
  · simp only [zwr_r, upd_r, Nat.reduceEqDiff, ↓reduceIte]
    rfl
  · simp only [zwr_r, upd_r, Nat.reduceEqDiff, ↓reduceIte, Nat.add_zero]
  · simp only [zwr_r, upd_r, Nat.reduceEqDiff, ↓reduceIte]
    rfl
  · simp only [zwr_r, upd_r, Nat.reduceEqDiff, ↓reduceIte]
    rfl
theorem T_triedM {W : zWo} {σ0 σ : zSt} (hL : RLw σ0) (hs : eqOn rowsL slotsL σ0 σ) (hW : WOK W) (hM : EM 70 0 W σ) (hg : wNig W ≤ 512) {N : Nat} (hN : N ≤ 20) (x2 : Int32) : wp (zfix (F_X12_tried_82L (nI N) x2 (σ.1 69 2) (σ.1 69 3) (σ.1 69 4) (σ.1 69 5) (σ.1 69 6)) zlim ((0 : Int32), (0 : Int32), (0 : Int32), σ)) (fun a τ => a = trA σ0 W N x2 ∧ fr [88, 89] SM σ τ) := by
  refine wp_for (fun k s => s.1 = nI (trN σ0 W k).2.2.2.1 ∧ s.2.1 = nI (trN σ0 W k).2.2.2.2 ∧ s.2.2.1 = nI k ∧ fr [88, 89] (SM ++ SN) σ s.2.2.2 ∧ ∃ d, d ≤ 8 ∧ EM 70 0 (setW W (trN σ0 W k).1 (trN σ0 W k).2.1 (wNig W + k) d (trN σ0 W k).2.2.1) s.2.2.2) N (by omega) (fun k w s hk hI hw => ?_) (fun w s hI => ?_) ⟨rfl, rfl, rfl, fr.rf, wDus W, hW.2.2.2.2.2.2.2.2.2.2.2.1, EM_self hM⟩
  · obtain ⟨x8, x9, x10, τ⟩ := s
    obtain ⟨i1, i2, i3, i4, d, hd, i5⟩ := hI
    simp only at i1 i2 i3 i4 i5
    subst i1 i2 i3
    show wp (F_X12_tried_82 (nI N) x2 _ _ _ _ _ w _ _ (nI k) τ) _
    obtain ⟨b1, b2, b3⟩ := trN_b (σ0 := σ0) hW k
    obtain ⟨e2, e3, e4, e5, e6⟩ := EM_get i5
    unfold F_X12_tried_82
    rw [if_neg (by rw [nI_lep (by omega)]; omega), e6, e2]
    refine wp_bd2 (T_nightGoes (d' := (trN σ0 W k).2.2.1) hL (hs.tr (i4.eqOn (by decide))) hW b1 b2 (by omega) hd b3 i5) (fun a υ hυ => ?_)
    obtain ⟨-, a1, a2⟩ := hυ
    obtain ⟨g2, g3, g4, g5, g6⟩ := EM_get a2
    have m8 : mvN σ0 W (wNig W + k) (trN σ0 W k).1 (trN σ0 W k).2.2.1 (trN σ0 W k).2.2.1 (nxX (trN σ0 W k).2.1 % 10) < 8 := mvN_lt b1
    have s8 : syN σ0 W (wNig W + k) (mvN σ0 W (wNig W + k) (trN σ0 W k).1 (trN σ0 W k).2.2.1 (trN σ0 W k).2.2.1 (nxX (trN σ0 W k).2.1 % 10)) (trN σ0 W k).2.2.1 (trN σ0 W k).2.2.1 (nxX (trN σ0 W k).2.1 % 10) < 8 := syN_lt m8
    simp only [nm_s, g2, g6, show (1 : Int32) = nI 1 from rfl, show (0 : Int32) = nI 0 from rfl]
    rw [nI_ite (by omega) (by omega), nI_ite (by omega) (by omega), nI_add, nI_add, nI_add]
    refine hw _ ⟨rfl, ?_, rfl, i4.tr (a1.mono (by decide)), (trN σ0 W k).2.2.1, b3, a2⟩
    show nI _ = nI ((trN σ0 W k).2.2.2.2 + _)
    simp only [eq_comm]
  · obtain ⟨x8, x9, x10, τ⟩ := s
    obtain ⟨i1, i2, i3, i4, d, hd, i5⟩ := hI
    simp only at i1 i2 i3 i4 i5
    subst i1 i2 i3
    show wp (F_X12_tried_82 (nI N) x2 _ _ _ _ _ w _ _ (nI N) τ) _
    obtain ⟨e2, e3, e4, e5, e6⟩ := EM_get i5
    unfold F_X12_tried_82 F_X12_tried_149
    rw [if_pos (by rw [nI_lep (by omega)]; omega)]
    simp only [nm_s, e2, e6]
    refine wp_some ⟨rfl, fr_fix (((((i4.w (Or.inr (by decide))).w (Or.inr (by decide))).w (Or.inr (by decide))).w (Or.inr (by decide))).w (Or.inr (by decide))) ?_ ?_ ?_ ?_ ?_⟩
    all_goals simp only [zwr_r, upd_r, Nat.reduceEqDiff, ↓reduceIte]
theorem T_in_20 {x : Int32} {σ : zSt} : F_X12_in x 1 20 σ = some (bI (1 ≤ x.toInt ∧ x.toInt ≤ 20), σ) := T_in
theorem s_tried {n : Nat} {σ : zSt} (hn : n < 512) (hR : Rel n σ) (x1 x2 : Int32) : Both n (F_X11_tried x1 x2) (F_X12_tried x1 x2) σ := by
  obtain ⟨-, ⟨W, w0, w1, w2, w3⟩, -, -, hL, -⟩ := id hR
  have m2 : σ.1 69 2 = nI (wHea W) := w3.2.2.2.2.2.2.2.2.1
  have m4 : σ.1 69 4 = nI (wNig W) := w3.2.2.2.2.2.2.2.2.2.1
  have c9 : σ.1 1 9 = nI (wNig W) := w2.2.2.2.2.2.2.2.2.2.1
  by_cases h1 : 1 ≤ x1.toInt ∧ x1.toInt ≤ 20
  rotate_left
  · refine Both.no (-1) hn hR ?_ (by simp (disch := omega) only [F_X12_tried, F_X12_tried_0, T_isBelow_2, T_isBelow_3, T_isBelow_4, T_isBelow_6, T_isBelow_8, T_isBelow_9, T_isBelow_10, T_isBelow_12, T_isBelow_16, T_isBelow_17, T_isBelow_31, T_isBelow_64, T_isBelow_256, T_isBelow_65536, T_in_1, T_in_2, T_in_3, T_in_4, T_in_5, T_in_8, T_in_11, T_in_16, T_in_30, T_in_63, T_in_255, T_in_65535, T_isIsland, T_isEight, bd_s, nm_s, bI_0, gd_n, gd_01, nI_cl, nI_add, nI_1, m4, Bool.false_eq_true, not_true_eq_false, not_false_eq_true, ↓reduceIte, h1, T_in_20])
    unfold F_X11_tried F_X11_tried_0
    have a : (1 : Int32).toInt = 1 := rfl
    have b : (20 : Int32).toInt = 20 := rfl
    by_cases q : x1 < 1
    · rw [if_pos q]
    · rw [if_neg q, if_pos (by rw [i_lt] at q ⊢; omega)]
  obtain ⟨N, hN, rfl⟩ := i_of (n := 21) (x := x1) (by omega) (by omega)
  have h1' := h1
  rw [i_nI (by omega)] at h1'
  have hN1 : 1 ≤ N := by omega
  by_cases h2 : bel x2 4
  rotate_left
  · exact Both.no (-1) hn hR (by simp (disch := omega) only [F_X11_tried, F_X11_tried_0, T_isBelow_2, T_isBelow_3, T_isBelow_4, T_isBelow_6, T_isBelow_8, T_isBelow_9, T_isBelow_10, T_isBelow_12, T_isBelow_16, T_isBelow_17, T_isBelow_31, T_isBelow_64, T_isBelow_256, T_isBelow_65536, T_in_1, T_in_2, T_in_3, T_in_4, T_in_5, T_in_8, T_in_11, T_in_16, T_in_30, T_in_63, T_in_255, T_in_65535, T_isIsland, T_isEight, bd_s, nm_s, bI_0, gd_n, gd_01, nI_cl, nI_add, nI_1, m4, Bool.false_eq_true, not_true_eq_false, not_false_eq_true, ↓reduceIte, h2, lt_lit, lit_lt, if_neg]) (by simp (disch := omega) only [F_X12_tried, F_X12_tried_0, T_isBelow_2, T_isBelow_3, T_isBelow_4, T_isBelow_6, T_isBelow_8, T_isBelow_9, T_isBelow_10, T_isBelow_12, T_isBelow_16, T_isBelow_17, T_isBelow_31, T_isBelow_64, T_isBelow_256, T_isBelow_65536, T_in_1, T_in_2, T_in_3, T_in_4, T_in_5, T_in_8, T_in_11, T_in_16, T_in_30, T_in_63, T_in_255, T_in_65535, T_isIsland, T_isEight, bd_s, nm_s, bI_0, gd_n, gd_01, nI_cl, nI_add, nI_1, m4, Bool.false_eq_true, not_true_eq_false, not_false_eq_true, ↓reduceIte, h1, h2, T_in_20])
  by_cases h3 : isT W (nI (wHea W))
  rotate_left
  · exact Both.no (-1) hn hR (by simp (disch := omega) only [F_X11_tried, F_X11_tried_0, T_isBelow_2, T_isBelow_3, T_isBelow_4, T_isBelow_6, T_isBelow_8, T_isBelow_9, T_isBelow_10, T_isBelow_12, T_isBelow_16, T_isBelow_17, T_isBelow_31, T_isBelow_64, T_isBelow_256, T_isBelow_65536, T_in_1, T_in_2, T_in_3, T_in_4, T_in_5, T_in_8, T_in_11, T_in_16, T_in_30, T_in_63, T_in_255, T_in_65535, T_isIsland, T_isEight, bd_s, nm_s, bI_0, gd_n, gd_01, nI_cl, nI_add, nI_1, m4, Bool.false_eq_true, not_true_eq_false, not_false_eq_true, ↓reduceIte, h2, lt_lit, lit_lt, if_neg, T_heart w0 w2, h3]) (by simp (disch := omega) only [F_X12_tried, F_X12_tried_0, T_isBelow_2, T_isBelow_3, T_isBelow_4, T_isBelow_6, T_isBelow_8, T_isBelow_9, T_isBelow_10, T_isBelow_12, T_isBelow_16, T_isBelow_17, T_isBelow_31, T_isBelow_64, T_isBelow_256, T_isBelow_65536, T_in_1, T_in_2, T_in_3, T_in_4, T_in_5, T_in_8, T_in_11, T_in_16, T_in_30, T_in_63, T_in_255, T_in_65535, T_isIsland, T_isEight, bd_s, nm_s, bI_0, gd_n, gd_01, nI_cl, nI_add, nI_1, m4, Bool.false_eq_true, not_true_eq_false, not_false_eq_true, ↓reduceIte, h1, h2, T_in_20, m2, T_isPlace w0 w3, h3])
  have hsub : (9999 : Int32) - nI N = nI (9999 - N) := pk_sub (a := 9999) (by omega)
  have E1 : F_X11_tried (nI N) x2 σ = bd (F_X3_trial (nI N) x2 σ) (fun q13 s12 => some (q13, s12)) := by
    simp (disch := omega) only [F_X11_tried, F_X11_tried_0, T_isBelow_2, T_isBelow_3, T_isBelow_4, T_isBelow_6, T_isBelow_8, T_isBelow_9, T_isBelow_10, T_isBelow_12, T_isBelow_16, T_isBelow_17, T_isBelow_31, T_isBelow_64, T_isBelow_256, T_isBelow_65536, T_in_1, T_in_2, T_in_3, T_in_4, T_in_5, T_in_8, T_in_11, T_in_16, T_in_30, T_in_63, T_in_255, T_in_65535, T_isIsland, T_isEight, bd_s, nm_s, bI_0, gd_n, gd_01, nI_cl, nI_add, nI_1, m4, Bool.false_eq_true, not_true_eq_false, not_false_eq_true, ↓reduceIte, h2, lt_lit, lit_lt, if_neg, T_heart w0 w2, h3, hsub, c9, nI_lep, if_pos]
  refine Both.fr (trA σ W N x2) hn hR ?_ (fun τ hτ f1 => ?_)
  · rw [E1]
    refine wp_bd2 (T_trial hL eqOn.rf w0 w2 (by omega) x2) (fun a τ h => ?_)
    exact wp_some ⟨h.1, h.2.mono (by decide)⟩
  · have w3' : EM 70 0 W τ := f1.EM (by decide) w3
    have m2' : τ.1 69 2 = nI (wHea W) := w3'.2.2.2.2.2.2.2.2.1
    have m4' : τ.1 69 4 = nI (wNig W) := w3'.2.2.2.2.2.2.2.2.2.1
    have E2 : F_X12_tried (nI N) x2 τ = zfix (F_X12_tried_82L (nI N) x2 (τ.1 69 2) (τ.1 69 3) (τ.1 69 4) (τ.1 69 5) (τ.1 69 6)) zlim ((0 : Int32), (0 : Int32), (0 : Int32), τ) := by
      unfold F_X12_tried F_X12_tried_0
      rw [T_in_20, bd_s, bI_t h1, if_neg (by decide), T_in_3, bd_s, bI_t h2, if_neg (by decide), m2', T_isPlace w0 w3', bd_s, bI_t h3, if_neg (by decide), m4', nI_add, if_pos (by rw [le_lit (by omega)]; omega)]
    rw [E2]
    refine wp_mono (T_triedM hL (f1.eqOn (by decide)) w0 w3' (by omega) (by omega) x2) (fun a υ h => ⟨h.1, h.2.mono (by decide)⟩)
