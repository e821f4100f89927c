/-! PURE: rules of the store functions, and what the small ones are -/
def wp {α : Type} (x : Option (α × zSt)) (Q : α → zSt → Prop) : Prop := ∃ r τ, x = some (r, τ) ∧ Q r τ
theorem wp_some {α : Type} {r : α} {τ : zSt} {Q : α → zSt → Prop} (h : Q r τ) : wp (some (r, τ)) Q := ⟨r, τ, rfl, h⟩
theorem wp_of {α : Type} {x : Option (α × zSt)} {r : α} {τ : zSt} {Q : α → zSt → Prop} (e : x = some (r, τ)) (h : Q r τ) : wp x Q := ⟨r, τ, e, h⟩
theorem wp_bd {α β : Type} {x : Option (α × zSt)} {f : α → zSt → Option (β × zSt)} {Q : β → zSt → Prop} (h : wp x (fun r τ => wp (f r τ) Q)) : wp (bd x f) Q := by
  obtain ⟨r, τ, e, h⟩ := h
  rw [e]
  exact h
theorem wp_bd2 {α β : Type} {x : Option (α × zSt)} {f : α → zSt → Option (β × zSt)} {P : α → zSt → Prop} {Q : β → zSt → Prop} (h : wp x P) (g : ∀ r τ, P r τ → wp (f r τ) Q) : wp (bd x f) Q := by
  obtain ⟨r, τ, e, h⟩ := h
  rw [e]
  exact g r τ h
theorem wp_mono {α : Type} {x : Option (α × zSt)} {P Q : α → zSt → Prop} (h : wp x P) (g : ∀ r τ, P r τ → Q r τ) : wp x Q := by
  obtain ⟨r, τ, e, h⟩ := h
  exact ⟨r, τ, e, g r τ h⟩
theorem wp_nm {α β : Type} {a : α} {f : α → Option (β × zSt)} {Q : β → zSt → Prop} (h : wp (f a) Q) : wp (nm a f) Q := h
theorem wp_gd {α : Type} {p : Prop} {x : Option (α × zSt)} {Q : α → zSt → Prop} (hp : p) (h : wp x Q) : wp (gd p x) Q := by
  rw [gd_t hp]
  exact h
theorem wp_if {α : Type} {c : Prop} {i : Decidable c} {x y : Option (α × zSt)} {Q : α → zSt → Prop} (h : c → wp x Q) (g : ¬ c → wp y Q) : wp (@ite _ c i x y) Q := by
  by_cases q : c
  · rw [if_pos q]
    exact h q
  · rw [if_neg q]
    exact g q
/-- a loop: an invariant and a measure -/
theorem wp_fixn {α S : Type} {body : (S → Option (α × zSt)) → S → Option (α × zSt)} {Q : α → zSt → Prop} (I : S → Prop) (μ : S → Nat) (h : ∀ w s, I s → (∀ s', I s' → μ s' < μ s → wp (w s') Q) → wp (body w s) Q) : ∀ f s, I s → μ s < f → wp (zfix body f s) Q := by
  intro f
  induction f with
  | zero => intro s _ q; omega
  | succ f ih =>
    intro s hs q
    exact h _ s hs (fun s' h1 h2 => ih s' h1 (by omega))
theorem wp_fix {α S : Type} {body : (S → Option (α × zSt)) → S → Option (α × zSt)} {Q : α → zSt → Prop} {s : S} (I : S → Prop) (μ : S → Nat) (h : ∀ w s, I s → (∀ s', I s' → μ s' < μ s → wp (w s') Q) → wp (body w s) Q) (hs : I s) (hm : μ s < 1000000) : wp (zfix body zlim s) Q := wp_fixn I μ h zlim s hs hm
/-- a loop: what it comes to from each state -/
theorem zfix_mu {S T : Type} {body : (S → Option T) → S → Option T} (I : S → Prop) (μ : S → Nat) (out : S → Option T) (h : ∀ w s, I s → (∀ s', I s' → μ s' < μ s → w s' = out s') → body w s = out s) {s : S} (hs : I s) (hm : μ s < 1000000) : zfix body zlim s = out s := by
  have key : ∀ f s, I s → μ s < f → zfix body f s = out s := by
    intro f
    induction f with
    | zero => intro s _ q; omega
    | succ f ih =>
      intro s hs q
      exact h _ s hs (fun s' h1 h2 => ih s' h1 (by omega))
  exact key zlim s hs hm
/-- a loop over places i below N that may end early -/
theorem zfix_out {S T : Type} {body : (S → Option T) → S → Option T} (st : Nat → S) (out : Nat → Option T) (N : Nat) (hN : N < 1000000) (hs : ∀ i w, i < N → w (st (i + 1)) = out (i + 1) → body w (st i) = out i) (he : ∀ w, body w (st N) = out N) : ∀ k, k ≤ N → zfix body zlim (st k) = out k := by
  have key : ∀ f k, k ≤ N → N - k < f → zfix body f (st k) = out k := by
    intro f
    induction f with
    | zero => intro k _ h; omega
    | succ f ih =>
      intro k hk h
      rcases Nat.lt_or_ge k N with q | q
      · exact hs k _ q (ih (k + 1) q (by omega))
      · have e : k = N := by omega
        rw [e]
        exact he _
  intro k hk
  exact key zlim k hk (by show N - k < 1000000; omega)
/-! answers that are so or not -/
noncomputable def bI (p : Prop) : Int32 := @ite _ p (Classical.propDecidable p) 1 0
theorem bI_0 {p : Prop} : (bI p = 0) = ¬ p := by
  unfold bI
  by_cases h : p
  · rw [if_pos h]
    exact eq_false (fun q => absurd q (by decide)) |>.trans (eq_false (fun q => q h)).symm
  · rw [if_neg h]
    exact (eq_true rfl).trans (eq_true h).symm
theorem bI_t {p : Prop} (h : p) : bI p = 1 := if_pos h
theorem bI_f {p : Prop} (h : ¬ p) : bI p = 0 := if_neg h
theorem bI_01 {p : Prop} : bI p = 0 ∨ bI p = 1 := by
  by_cases h : p
  · exact Or.inr (bI_t h)
  · exact Or.inl (bI_f h)
theorem bI_c {p q : Prop} (h : p ↔ q) : bI p = bI q := by rw [propext h]
theorem bI_id {p : Prop} : (if bI p = 0 then (0 : Int32) else 1) = bI p := by
  by_cases h : p
  · rw [bI_t h, if_neg (by decide)]
  · rw [bI_f h, if_pos rfl]
/-- x is below n, not below 0 -/
def bel (x : Int32) (n : Nat) : Prop := 0 ≤ x.toInt ∧ x.toInt < n
theorem bel_of {x : Int32} {n : Nat} (h : bel x n) : ∃ j : Nat, j < n ∧ x = nI j := i_of h.1 h.2
theorem bel_nI {a n : Nat} (ha : a < 2147483648) : bel (nI a) n ↔ a < n := by
  unfold bel
  rw [i_nI ha]
  omega
theorem bel_t {a n : Nat} (h : a < n ∧ n < 2147483648) : bel (nI a) n := (bel_nI (by omega)).mpr h.1
theorem bel_m1 {n : Nat} : ¬ bel (-1) n := by
  intro h
  exact absurd h.1 (by decide)
theorem bel_m2 {n : Nat} : ¬ bel (-2) n := by
  intro h
  exact absurd h.1 (by decide)
theorem T_isBelow {x c : Int32} {σ : zSt} (n : Nat) (hc : c.toInt = n) : F_X11_isBelow x c σ = some (bI (bel x n), σ) := by
  rw [t_isBelow, hc]
  by_cases h : 0 ≤ x.toInt ∧ x.toInt < (n : Int)
  · rw [if_pos h, bI_t (p := bel x n) h]
  · rw [if_neg h, bI_f (p := bel x n) h]
theorem T_isBelow_2 {x : Int32} {σ : zSt} : F_X11_isBelow x 2 σ = some (bI (bel x 2), σ) := T_isBelow 2 rfl
theorem T_isBelow_3 {x : Int32} {σ : zSt} : F_X11_isBelow x 3 σ = some (bI (bel x 3), σ) := T_isBelow 3 rfl
theorem T_isBelow_4 {x : Int32} {σ : zSt} : F_X11_isBelow x 4 σ = some (bI (bel x 4), σ) := T_isBelow 4 rfl
theorem T_isBelow_6 {x : Int32} {σ : zSt} : F_X11_isBelow x 6 σ = some (bI (bel x 6), σ) := T_isBelow 6 rfl
theorem T_isBelow_8 {x : Int32} {σ : zSt} : F_X11_isBelow x 8 σ = some (bI (bel x 8), σ) := T_isBelow 8 rfl
theorem T_isBelow_9 {x : Int32} {σ : zSt} : F_X11_isBelow x 9 σ = some (bI (bel x 9), σ) := T_isBelow 9 rfl
theorem T_isBelow_10 {x : Int32} {σ : zSt} : F_X11_isBelow x 10 σ = some (bI (bel x 10), σ) := T_isBelow 10 rfl
theorem T_isBelow_12 {x : Int32} {σ : zSt} : F_X11_isBelow x 12 σ = some (bI (bel x 12), σ) := T_isBelow 12 rfl
theorem T_isBelow_16 {x : Int32} {σ : zSt} : F_X11_isBelow x 16 σ = some (bI (bel x 16), σ) := T_isBelow 16 rfl
theorem T_isBelow_17 {x : Int32} {σ : zSt} : F_X11_isBelow x 17 σ = some (bI (bel x 17), σ) := T_isBelow 17 rfl
theorem T_isBelow_31 {x : Int32} {σ : zSt} : F_X11_isBelow x 31 σ = some (bI (bel x 31), σ) := T_isBelow 31 rfl
theorem T_isBelow_64 {x : Int32} {σ : zSt} : F_X11_isBelow x 64 σ = some (bI (bel x 64), σ) := T_isBelow 64 rfl
theorem T_isBelow_256 {x : Int32} {σ : zSt} : F_X11_isBelow x 256 σ = some (bI (bel x 256), σ) := T_isBelow 256 rfl
theorem T_isBelow_65536 {x : Int32} {σ : zSt} : F_X11_isBelow x 65536 σ = some (bI (bel x 65536), σ) := T_isBelow 65536 rfl
theorem T_in {x a b : Int32} {σ : zSt} : F_X12_in x a b σ = some (bI (a.toInt ≤ x.toInt ∧ x.toInt ≤ b.toInt), σ) := by
  unfold F_X12_in F_X12_in_0
  simp only [i_lt]
  by_cases h1 : x.toInt < a.toInt
  · rw [if_pos h1, bI_f (by omega)]
  · by_cases h2 : b.toInt < x.toInt
    · rw [if_neg h1, if_pos h2, bI_f (by omega)]
    · rw [if_neg h1, if_neg h2, bI_t (by omega)]
theorem T_inN {x c : Int32} {σ : zSt} (n : Nat) (hc : c.toInt = (n : Int)) : F_X12_in x 0 c σ = some (bI (bel x (n + 1)), σ) := by
  rw [T_in, bI_c]
  show (0 ≤ x.toInt ∧ x.toInt ≤ c.toInt) ↔ (0 ≤ x.toInt ∧ x.toInt < ((n + 1 : Nat) : Int))
  omega
theorem T_in_1 {x : Int32} {σ : zSt} : F_X12_in x 0 1 σ = some (bI (bel x 2), σ) := T_inN 1 rfl
theorem T_in_2 {x : Int32} {σ : zSt} : F_X12_in x 0 2 σ = some (bI (bel x 3), σ) := T_inN 2 rfl
theorem T_in_3 {x : Int32} {σ : zSt} : F_X12_in x 0 3 σ = some (bI (bel x 4), σ) := T_inN 3 rfl
theorem T_in_4 {x : Int32} {σ : zSt} : F_X12_in x 0 4 σ = some (bI (bel x 5), σ) := T_inN 4 rfl
theorem T_in_5 {x : Int32} {σ : zSt} : F_X12_in x 0 5 σ = some (bI (bel x 6), σ) := T_inN 5 rfl
theorem T_in_8 {x : Int32} {σ : zSt} : F_X12_in x 0 8 σ = some (bI (bel x 9), σ) := T_inN 8 rfl
theorem T_in_11 {x : Int32} {σ : zSt} : F_X12_in x 0 11 σ = some (bI (bel x 12), σ) := T_inN 11 rfl
theorem T_in_16 {x : Int32} {σ : zSt} : F_X12_in x 0 16 σ = some (bI (bel x 17), σ) := T_inN 16 rfl
theorem T_in_30 {x : Int32} {σ : zSt} : F_X12_in x 0 30 σ = some (bI (bel x 31), σ) := T_inN 30 rfl
theorem T_in_63 {x : Int32} {σ : zSt} : F_X12_in x 0 63 σ = some (bI (bel x 64), σ) := T_inN 63 rfl
theorem T_in_255 {x : Int32} {σ : zSt} : F_X12_in x 0 255 σ = some (bI (bel x 256), σ) := T_inN 255 rfl
theorem T_in_65535 {x : Int32} {σ : zSt} : F_X12_in x 0 65535 σ = some (bI (bel x 65536), σ) := T_inN 65535 rfl
theorem bel_lt {x c : Int32} {n : Nat} (hc : c.toInt = (n : Int)) : bel x n ↔ ¬ x < 0 ∧ ¬ c ≤ x := by
  rw [i_lt, i_le, hc]
  have e : (0 : Int32).toInt = 0 := rfl
  rw [e]
  unfold bel
  omega
theorem T_isIsland {x : Int32} {σ : zSt} : F_X12_isIsland x σ = some (bI (bel x 4), σ) := by
  unfold F_X12_isIsland F_X12_isIsland_0
  by_cases h : bel x 4
  · have g := (bel_lt (c := 4) rfl).mp h
    rw [bI_t h, if_neg g.1, if_neg g.2]
  · rw [bI_f h]
    by_cases h1 : x < 0
    · rw [if_pos h1]
    · by_cases h2 : (4 : Int32) ≤ x
      · rw [if_neg h1, if_pos h2]
      · exact absurd ((bel_lt (c := 4) rfl).mpr ⟨h1, h2⟩) h
theorem T_isEight {x : Int32} {σ : zSt} : F_X12_isEight x σ = some (bI (bel x 8), σ) := by
  unfold F_X12_isEight F_X12_isEight_0
  by_cases h : bel x 8
  · have g := (bel_lt (c := 8) rfl).mp h
    rw [bI_t h, if_neg g.1, if_neg g.2]
  · rw [bI_f h]
    by_cases h1 : x < 0
    · rw [if_pos h1]
    · by_cases h2 : (8 : Int32) ≤ x
      · rw [if_neg h1, if_pos h2]
      · exact absurd ((bel_lt (c := 8) rfl).mpr ⟨h1, h2⟩) h
theorem T_has {m k : Nat} {σ : zSt} (hm : m < 256 ∧ k < 8) : F_X12_has (nI m) (nI k) σ = some (bI (m.testBit k = true), σ) := by
  unfold F_X12_has F_X12_has_0
  by_cases h : m.testBit k = true
  · rw [if_pos ((bit_is hm.1 hm.2).mpr h), bI_t h]
  · rw [if_neg (fun q => h ((bit_is hm.1 hm.2).mp q)), bI_f h]
theorem T_isTold {W : zWo} {σ : zSt} (hW : WOK W) (h : EC 1 2 W σ) {x : Int32} : F_X10_isTold x σ = some (bI (isT W x), σ) := t_isTold hW h x
theorem T_isPlace {W : zWo} {σ : zSt} (hW : WOK W) (h : EM 70 0 W σ) {x : Int32} : F_X12_isPlace x σ = some (bI (isT W x), σ) := t_isPlace hW h x
theorem isT_of {W : zWo} {x : Int32} (h : isT W x) : ∃ p, p < 8 ∧ wIs W p = true ∧ x = nI p := by
  obtain ⟨p, h1, h2⟩ := h
  exact ⟨p, wIs_lt h1, h1, h2⟩
theorem isT_m1 {W : zWo} : ¬ isT W (-1) := by
  intro ⟨p, h1, h2⟩
  have := wIs_lt h1
  exact e1_n (k := p) (by omega) h2.symm
theorem gd_n {α : Type} {i n : Nat} {x : Option α} (h : i < n ∧ n < 2147483648) : gd (vp_in (nI i) n) x = x := gd_t (vp_in_nI h.1 h.2)
theorem gd_T {α : Type} {x : Option α} : gd True x = x := gd_t trivial
theorem gd_01 {α : Type} {p : Prop} {x : Option α} : gd (bI p = 0 ∨ bI p = 1) x = x := gd_t bI_01
theorem nI_cl {n : Nat} (h : n < 2147483648) : (nI n).toNatClampNeg = n := nI_clamp h
theorem zwr_r {σ : zSt} {c j d : Nat} {v : Int32} : (zwr σ c j v).1 d = if d = c then upd (σ.1 c) j v else σ.1 d := rfl
theorem zrow_r {σ : zSt} {c d : Nat} {f : Nat → Int32} : (zrow σ c f).1 d = if d = c then f else σ.1 d := rfl
theorem upd_r {f : Nat → Int32} {j k : Nat} {v : Int32} : upd f j v k = if k = j then v else f k := rfl
theorem m4 {a : Nat} : (4 : Int32) * nI a = nI (4 * a) := pk_mul 4 a
/-- class, then reference: like answers, all alike behind -/
def Both {α : Type} (n : Nat) (f g : zSt → Option (α × zSt)) (σ : zSt) : Prop := ∃ r σ1 σ2, f σ = some (r, σ1) ∧ g σ1 = some (r, σ2) ∧ Rel (n + 1) σ2
theorem Both.mk {α : Type} {n : Nat} {f g : zSt → Option (α × zSt)} {σ σ1 σ2 : zSt} {r : α} (h1 : f σ = some (r, σ1)) (h2 : g σ1 = some (r, σ2)) (h3 : Rel (n + 1) σ2) : Both n f g σ := ⟨r, σ1, σ2, h1, h2, h3⟩
theorem Both.same {α : Type} {n : Nat} {f g : zSt → Option (α × zSt)} {σ σ1 σ2 : zSt} (r : α) (hn : n < 512) (hR : Rel n σ) (e1 : eqOn rowsP slotsP σ σ1) (e2 : eqOn rowsP slotsP σ1 σ2) (h1 : f σ = some (r, σ1)) (h2 : g σ1 = some (r, σ2)) : Both n f g σ := ⟨r, σ1, σ2, h1, h2, Rel_up hn (Rel_on (e1.tr e2) hR)⟩
theorem Both.no {α : Type} {n : Nat} {f g : zSt → Option (α × zSt)} {σ : zSt} (r : α) (hn : n < 512) (hR : Rel n σ) (h1 : f σ = some (r, σ)) (h2 : g σ = some (r, σ)) : Both n f g σ := Both.same r hn hR eqOn.rf eqOn.rf h1 h2
theorem Rel_W {n : Nat} {σ τ : zSt} (hn : n < 512) (g : Rel n σ) (h : eqOn ((rowsKC ++ rowsKM) ++ rowsT ++ rowsL ++ rowsE ++ rowsO) ((slotsKC ++ slotsKM) ++ slotsT ++ slotsL ++ slotsE) σ τ) (hw : RW (n + 1) τ) : Rel (n + 1) τ :=
  ⟨hn, hw, RK_on (Nat.le_succ n) (h.sub (by decide) (by decide)) g.2.2.1, RT_on (h.sub (by decide) (by decide)) g.2.2.2.1, RLw_on (h.sub (by decide) (by decide)) g.2.2.2.2.1, RE_on (h.sub (by decide) (by decide)) g.2.2.2.2.2.1, RO_on (h.sub (by decide) (by decide)) g.2.2.2.2.2.2⟩
theorem Rel_E {n : Nat} {σ τ : zSt} (hn : n < 512) (g : Rel n σ) (h : eqOn ((rowsC ++ rowsM) ++ (rowsKC ++ rowsKM) ++ rowsT ++ rowsL ++ rowsO) ((slotsC ++ slotsM) ++ (slotsKC ++ slotsKM) ++ slotsT ++ slotsL) σ τ) (hw : RE τ) : Rel (n + 1) τ :=
  ⟨hn, RW_on (Nat.le_succ n) (h.sub (by decide) (by decide)) g.2.1, RK_on (Nat.le_succ n) (h.sub (by decide) (by decide)) g.2.2.1, RT_on (h.sub (by decide) (by decide)) g.2.2.2.1, RLw_on (h.sub (by decide) (by decide)) g.2.2.2.2.1, hw, RO_on (h.sub (by decide) (by decide)) g.2.2.2.2.2.2⟩
theorem Rel_O {n : Nat} {σ τ : zSt} (hn : n < 512) (g : Rel n σ) (h : eqOn ((rowsC ++ rowsM) ++ (rowsKC ++ rowsKM) ++ rowsT ++ rowsL ++ rowsE) ((slotsC ++ slotsM) ++ (slotsKC ++ slotsKM) ++ slotsT ++ slotsL ++ slotsE) σ τ) (hw : RO τ) : Rel (n + 1) τ :=
  ⟨hn, RW_on (Nat.le_succ n) (h.sub (by decide) (by decide)) g.2.1, RK_on (Nat.le_succ n) (h.sub (by decide) (by decide)) g.2.2.1, RT_on (h.sub (by decide) (by decide)) g.2.2.2.1, RLw_on (h.sub (by decide) (by decide)) g.2.2.2.2.1, RE_on (h.sub (by decide) (by decide)) g.2.2.2.2.2.1, hw⟩
theorem Rel_T {n : Nat} {σ τ : zSt} (hn : n < 512) (g : Rel n σ) (h : eqOn ((rowsC ++ rowsM) ++ (rowsKC ++ rowsKM) ++ rowsL ++ rowsE ++ rowsO) ((slotsC ++ slotsM) ++ (slotsKC ++ slotsKM) ++ slotsL ++ slotsE) σ τ) (hw : RT τ) : Rel (n + 1) τ :=
  ⟨hn, RW_on (Nat.le_succ n) (h.sub (by decide) (by decide)) g.2.1, RK_on (Nat.le_succ n) (h.sub (by decide) (by decide)) g.2.2.1, hw, RLw_on (h.sub (by decide) (by decide)) g.2.2.2.2.1, RE_on (h.sub (by decide) (by decide)) g.2.2.2.2.2.1, RO_on (h.sub (by decide) (by decide)) g.2.2.2.2.2.2⟩
theorem Rel_K {n : Nat} {σ τ : zSt} (hn : n < 512) (g : Rel n σ) (h : eqOn ((rowsC ++ rowsM) ++ rowsT ++ rowsL ++ rowsE ++ rowsO) ((slotsC ++ slotsM) ++ slotsT ++ slotsL ++ slotsE) σ τ) (hw : RK (n + 1) τ) : Rel (n + 1) τ :=
  ⟨hn, RW_on (Nat.le_succ n) (h.sub (by decide) (by decide)) g.2.1, hw, RT_on (h.sub (by decide) (by decide)) g.2.2.2.1, RLw_on (h.sub (by decide) (by decide)) g.2.2.2.2.1, RE_on (h.sub (by decide) (by decide)) g.2.2.2.2.2.1, RO_on (h.sub (by decide) (by decide)) g.2.2.2.2.2.2⟩
theorem wp_for {α S : Type} {body : (S → Option (α × zSt)) → S → Option (α × zSt)} {Q : α → zSt → Prop} (I : Nat → S → Prop) (N : Nat) (hN : N < 1000000) (step : ∀ k w s, k < N → I k s → (∀ s', I (k + 1) s' → wp (w s') Q) → wp (body w s) Q) (fin : ∀ w s, I N s → wp (body w s) Q) {s : S} (h0 : I 0 s) : wp (zfix body zlim s) Q := by
  have key : ∀ f k s, k ≤ N → N - k < f → I k s → wp (zfix body f s) Q := by
    intro f
    induction f with
    | zero => intro k _ _ h; omega
    | succ f ih =>
      intro k s hk h hI
      rcases Nat.lt_or_ge k N with q | q
      · exact step k _ s q hI (fun s' hs' => ih (k + 1) s' q (by omega) hs')
      · have e : k = N := by omega
        rw [e] at hI
        exact fin _ s hI
  exact key zlim 0 s (Nat.zero_le N) (by show N - 0 < 1000000; omega) h0
