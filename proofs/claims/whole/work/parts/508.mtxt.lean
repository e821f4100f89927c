/-! PURE: the law, the reference's place in text, code and what waits -/
def MPs (tp : Nat → Nat) (N p s w o : Nat) (σ : zSt) : Prop := TXm tp N σ ∧ N ≤ 240 ∧ σ.1 69 15 = nI p ∧ σ.1 69 20 = nI s ∧ σ.1 69 21 = nI w ∧ σ.1 69 19 = nI o ∧ p ≤ N ∧ s ≤ p ∧ w ≤ p
def mSl : List (Nat × Nat) := [(69, 15), (69, 17), (69, 18), (69, 19), (69, 20), (69, 21)]
def mfr (s w : Nat) (σ τ : zSt) : Prop := fr [77, 78] mSl σ τ ∧ (∀ j, j < s → τ.1 77 j = σ.1 77 j) ∧ ∀ j, j < w → τ.1 78 j = σ.1 78 j
theorem mfr.rf {s w : Nat} {σ : zSt} : mfr s w σ σ := ⟨fr.rf, fun _ _ => rfl, fun _ _ => rfl⟩
theorem mfr.tr {s w : Nat} {σ τ υ : zSt} (h : mfr s w σ τ) (g : mfr s w τ υ) : mfr s w σ υ := ⟨h.1.tr g.1, fun j hj => (g.2.1 j hj).trans (h.2.1 j hj), fun j hj => (g.2.2 j hj).trans (h.2.2 j hj)⟩
theorem mfr.dn {s w s' w' : Nat} {σ τ : zSt} (h : mfr s w σ τ) (g : s' ≤ s ∧ w' ≤ w) : mfr s' w' σ τ := ⟨h.1, fun j hj => h.2.1 j (by omega), fun j hj => h.2.2 j (by omega)⟩
theorem mfr_w {s w j : Nat} {v : Int32} {σ : zSt} (h : (69, j) ∈ mSl) : mfr s w σ (zwr σ 69 j v) := ⟨fr_w (Or.inr h), fun _ _ => by rw [zwr_n (by decide)], fun _ _ => by rw [zwr_n (by decide)]⟩
theorem mfr_c {s w j : Nat} {v : Int32} {σ : zSt} (h : s ≤ j) : mfr s w σ (zwr σ 77 j v) := ⟨fr_w (Or.inl (by decide)), fun i hi => by rw [zwr_c, pk_un (by omega)], fun _ _ => by rw [zwr_n (by decide)]⟩
theorem mfr_k {s w j : Nat} {v : Int32} {σ : zSt} (h : w ≤ j) : mfr s w σ (zwr σ 78 j v) := ⟨fr_w (Or.inl (by decide)), fun _ _ => by rw [zwr_n (by decide)], fun i hi => by rw [zwr_c, pk_un (by omega)]⟩
theorem TXm_mf {tp : Nat → Nat} {N s w : Nat} {σ τ : zSt} (h : TXm tp N σ) (f : mfr s w σ τ) : TXm tp N τ := TXm_fr h f.1 (by decide)
theorem MPs.here {tp : Nat → Nat} {N p s w o : Nat} {σ : zSt} (h : MPs tp N p s w o σ) : F_X12_here σ = some (e1 (chN tp N p), σ) := T_here h.1 h.2.2.1 (by have := h.2.1; have := h.2.2.2.2.2.2.1; omega)
theorem MPs.b {tp : Nat → Nat} {N p s w o i : Nat} {σ : zSt} (h : MPs tp N p s w o σ) : ∀ b, chN tp N i = some b → b < 256 := TXm_b h.1
theorem MPs.eq {tp : Nat → Nat} {N p s w o i c : Nat} {σ : zSt} (h : MPs tp N p s w o σ) (hc : c < 256) : (e1 (chN tp N i) = nI c) = (chN tp N i = some c) := e1_lit h.b hc
theorem T_notes {op v s : Nat} {σ : zSt} (e : σ.1 69 20 = nI s) (hs : s < 260) : F_X12_notes (nI op) (nI v) σ = some ((), zwr (zwr σ 77 s (oI op v)) 69 20 (nI (s + 1))) := by
  unfold F_X12_notes F_X12_notes_0 oI
  rw [e, gd_n (by omega), nI_cl (by omega), show (1048576 : Int32) * nI op = nI (1048576 * op) from pk_mul 1048576 op, nI_add, nm_s, zwr_n (by decide), e, nI_1, nm_s]
theorem T_mNote {tp : Nat → Nat} {N q t w o op v : Nat} {σ : zSt} (h : MPs tp N q t w o σ) (ht : t + 1 ≤ q) : ∃ τ, F_X12_notes (nI op) (nI v) σ = some ((), τ) ∧ MPs tp N q (t + 1) w o τ ∧ mfr t w σ τ ∧ τ.1 77 t = oI op v ∧ τ.1 78 = σ.1 78 := by
  obtain ⟨h1, h2, h3, h4, h5, h6, h7, h8, h9⟩ := h
  have f : mfr t w σ (zwr (zwr σ 77 t (oI op v)) 69 20 (nI (t + 1))) := (mfr_c (Nat.le_refl t)).tr (mfr_w (by decide))
  refine ⟨_, T_notes h4 (by omega), ⟨TXm_mf h1 f, h2, ?_, zwr_at, ?_, ?_, h7, ht, h9⟩, f, ?_, ?_⟩
  · rw [zwr_ne (by decide), zwr_n (by decide)]
    exact h3
  · rw [zwr_ne (by decide), zwr_n (by decide)]
    exact h5
  · rw [zwr_ne (by decide), zwr_n (by decide)]
    exact h6
  · rw [zwr_n (by decide), zwr_c, pk_us]
  · rw [zwr_n (by decide), zwr_n (by decide)]
/-- one that waits is taken off -/
theorem MPs.pop {tp : Nat → Nat} {N q t w o : Nat} {σ : zSt} (h : MPs tp N q t (w + 1) o σ) : σ.1 69 21 - 1 = nI w ∧ MPs tp N q t w o (zwr σ 69 21 (nI w)) ∧ mfr t w σ (zwr σ 69 21 (nI w)) := by
  obtain ⟨h1, h2, h3, h4, h5, h6, h7, h8, h9⟩ := h
  have f : mfr t w σ (zwr σ 69 21 (nI w)) := mfr_w (by decide)
  refine ⟨?_, ⟨TXm_mf h1 f, h2, ?_, ?_, zwr_at, ?_, h7, h8, by omega⟩, f⟩
  · rw [h5]
    exact pk_sub (a := w + 1) (b := 1) (by omega)
  · rw [zwr_ne (by decide)]
    exact h3
  · rw [zwr_ne (by decide)]
    exact h4
  · rw [zwr_ne (by decide)]
    exact h6
theorem MPs.deep {tp : Nat → Nat} {N q t w o : Nat} {σ : zSt} (h : MPs tp N q t w (o + 1) σ) (ho : o < 100) : σ.1 69 19 - 1 = nI o ∧ MPs tp N q t w o (zwr σ 69 19 (nI o)) ∧ mfr t w σ (zwr σ 69 19 (nI o)) := by
  obtain ⟨h1, h2, h3, h4, h5, h6, h7, h8, h9⟩ := h
  have f : mfr t w σ (zwr σ 69 19 (nI o)) := mfr_w (by decide)
  refine ⟨?_, ⟨TXm_mf h1 f, h2, ?_, ?_, ?_, zwr_at, h7, h8, h9⟩, f⟩
  · rw [h6]
    exact pk_sub (a := o + 1) (b := 1) (by omega)
  · rw [zwr_ne (by decide)]
    exact h3
  · rw [zwr_ne (by decide)]
    exact h4
  · rw [zwr_ne (by decide)]
    exact h5
theorem MPs.step {tp : Nat → Nat} {N p s w o b : Nat} {σ : zSt} (h : MPs tp N p s w o σ) (hb : chN tp N p = some b) : σ.1 69 15 + 1 = nI (p + 1) ∧ MPs tp N (p + 1) s w o (zwr σ 69 15 (nI (p + 1))) ∧ mfr s w σ (zwr σ 69 15 (nI (p + 1))) := by
  obtain ⟨h1, h2, h3, h4, h5, h6, h7, h8, h9⟩ := h
  have hp := chN_in hb
  have f : mfr s w σ (zwr σ 69 15 (nI (p + 1))) := mfr_w (by decide)
  refine ⟨?_, ⟨TXm_mf h1 f, h2, zwr_at, ?_, ?_, ?_, by omega, by omega, by omega⟩, f⟩
  · rw [h3, nI_1]
  · rw [zwr_ne (by decide)]
    exact h4
  · rw [zwr_ne (by decide)]
    exact h5
  · rw [zwr_ne (by decide)]
    exact h6
theorem T_top0 {tp : Nat → Nat} {N q t o : Nat} {σ : zSt} (h : MPs tp N q t 0 o σ) : F_X12_waitTop σ = some (-1, σ) := by
  unfold F_X12_waitTop F_X12_waitTop_0
  rw [h.2.2.2.2.1, if_pos (show nI 0 = 0 from rfl)]
theorem T_top {tp : Nat → Nat} {N q t w o op v : Nat} {σ : zSt} (h : MPs tp N q t (w + 1) o σ) (ho : op < 20 ∧ v < 1048576) (e : σ.1 78 w = oI op v) : F_X12_waitTop σ = some (nI op, σ) := by
  have := h.2.1
  have := h.2.2.2.2.2.2.1
  have := h.2.2.2.2.2.2.2.2
  unfold F_X12_waitTop F_X12_waitTop_0
  rw [h.2.2.2.2.1, if_neg (by rw [show (0 : Int32) = nI 0 from rfl, nI_eqp (by omega)]; omega), show nI (w + 1) - (1 : Int32) = nI w from pk_sub (a := w + 1) (b := 1) (by omega), gd_n (by omega), nI_cl (by omega), e, oI_div ho]
/-- what lies below keeps its place -/
def topOK (w : Nat) (σ : zSt) : Prop := w = 0 ∨ ∃ op v, 10 ≤ op ∧ op < 20 ∧ v < 1048576 ∧ σ.1 78 (w - 1) = oI op v
theorem topOK_f {w s : Nat} {σ τ : zSt} (h : topOK w σ) (f : mfr s w σ τ) : topOK w τ := by
  by_cases q : w = 0
  · exact Or.inl q
  rcases h with h | ⟨op, v, h1, h2, h3, h4⟩
  · exact Or.inl h
  · exact Or.inr ⟨op, v, h1, h2, h3, (f.2.2 (w - 1) (by omega)).trans h4⟩
/-- a sum opened further down -/
theorem T_open1 {b j W : Nat} {σ : zSt} (e : σ.1 69 21 = nI W) (hW : W ≤ 240) (hb : b ≤ j) (hj : j < W) (h : σ.1 78 j / (1048576 : Int32) = 14) : F_X12_hasOpenSum (nI b) σ = some (1, σ) := by
  have key : ∀ k f i, k + i = j → k < f → zfix F_X12_hasOpenSum_2L f (nI i, σ) = some (1, σ) := by
    intro k
    induction k with
    | zero =>
      intro f i h1 h2
      obtain ⟨f, rfl⟩ : ∃ g, f = g + 1 := ⟨f - 1, by omega⟩
      have : i = j := by omega
      subst this
      show F_X12_hasOpenSum_2 (zfix F_X12_hasOpenSum_2L f) (nI i) σ = _
      unfold F_X12_hasOpenSum_2
      rw [e, if_neg (by rw [nI_lep (by omega)]; omega), gd_n (by omega), nI_cl (by omega), if_pos h]
    | succ k ih =>
      intro f i h1 h2
      obtain ⟨f, rfl⟩ : ∃ g, f = g + 1 := ⟨f - 1, by omega⟩
      show F_X12_hasOpenSum_2 (zfix F_X12_hasOpenSum_2L f) (nI i) σ = _
      unfold F_X12_hasOpenSum_2
      rw [e, if_neg (by rw [nI_lep (by omega)]; omega), gd_n (by omega), nI_cl (by omega)]
      by_cases q : σ.1 78 i / (1048576 : Int32) = 14
      · rw [if_pos q]
      · rw [if_neg q, nI_1, nm_s]
        exact ih f (i + 1) (by omega) (by omega)
  exact key (j - b) zlim b (by omega) (by show j - b < 1000000; omega)
theorem T_open0 {b W : Nat} {σ : zSt} (e : σ.1 69 21 = nI W) (hW : W ≤ 240) (hb : b ≤ W) (h : ∀ j, b ≤ j → j < W → ¬ σ.1 78 j / (1048576 : Int32) = 14) : F_X12_hasOpenSum (nI b) σ = some (0, σ) := by
  have key : ∀ k f i, k + i = W → b ≤ i → k < f → zfix F_X12_hasOpenSum_2L f (nI i, σ) = some (0, σ) := by
    intro k
    induction k with
    | zero =>
      intro f i h1 h3 h2
      obtain ⟨f, rfl⟩ : ∃ g, f = g + 1 := ⟨f - 1, by omega⟩
      show F_X12_hasOpenSum_2 (zfix F_X12_hasOpenSum_2L f) (nI i) σ = _
      unfold F_X12_hasOpenSum_2
      rw [e, if_pos (by rw [nI_lep (by omega)]; omega)]
    | succ k ih =>
      intro f i h1 h3 h2
      obtain ⟨f, rfl⟩ : ∃ g, f = g + 1 := ⟨f - 1, by omega⟩
      show F_X12_hasOpenSum_2 (zfix F_X12_hasOpenSum_2L f) (nI i) σ = _
      unfold F_X12_hasOpenSum_2
      rw [e, if_neg (by rw [nI_lep (by omega)]; omega), gd_n (by omega), nI_cl (by omega), if_neg (h i h3 (by omega)), nI_1, nm_s]
      exact ih f (i + 1) (by omega) (by omega) (by omega)
  exact key (W - b) zlim b (by omega) (Nat.le_refl b) (by show W - b < 1000000; omega)
theorem T_sumSign {o : Option Nat} {σ : zSt} (ho : ∀ b, o = some b → b < 256) : F_X12_sumSign (e1 o) σ = some ((if isMul o = true ∨ isAdd o = true then nI (opM (o.getD 0)) else -1), σ) := by
  unfold F_X12_sumSign F_X12_sumSign_0
  have k : ∀ c, c < 256 → (e1 o = nI c) = (o = some c) := fun c hc => e1_lit ho hc
  have k43 : (e1 o = 43) = (o = some 43) := k 43 (by omega)
  have k45 : (e1 o = 45) = (o = some 45) := k 45 (by omega)
  have k42 : (e1 o = 42) = (o = some 42) := k 42 (by omega)
  have k47 : (e1 o = 47) = (o = some 47) := k 47 (by omega)
  have k37 : (e1 o = 37) = (o = some 37) := k 37 (by omega)
  by_cases q1 : o = some 43
  · rw [if_pos (by rw [k43]; exact q1), q1]
    rfl
  by_cases q2 : o = some 45
  · rw [if_neg (by rw [k43]; exact q1), if_pos (by rw [k45]; exact q2), q2]
    rfl
  by_cases q3 : o = some 42
  · rw [if_neg (by rw [k43]; exact q1), if_neg (by rw [k45]; exact q2), if_pos (by rw [k42]; exact q3), q3]
    rfl
  by_cases q4 : o = some 47
  · rw [if_neg (by rw [k43]; exact q1), if_neg (by rw [k45]; exact q2), if_neg (by rw [k42]; exact q3), if_pos (by rw [k47]; exact q4), q4]
    rfl
  by_cases q5 : o = some 37
  · rw [if_neg (by rw [k43]; exact q1), if_neg (by rw [k45]; exact q2), if_neg (by rw [k42]; exact q3), if_neg (by rw [k47]; exact q4), if_pos (by rw [k37]; exact q5), q5]
    rfl
  have nm : ¬ (isMul o = true ∨ isAdd o = true) := by
    intro z
    rcases z with z | z
    · rcases of_decide_eq_true z with y | y | y
      · exact q3 y
      · exact q4 y
      · exact q5 y
    · rcases of_decide_eq_true z with y | y
      · exact q1 y
      · exact q2 y
  rw [if_neg (by rw [k43]; exact q1), if_neg (by rw [k45]; exact q2), if_neg (by rw [k42]; exact q3), if_neg (by rw [k47]; exact q4), if_neg (by rw [k37]; exact q5), if_neg nm]
theorem T_factOf {o : Option Nat} {σ : zSt} (ho : ∀ b, o = some b → b < 256) : F_X12_factOf (e1 o) σ = some (e1 (o.bind letB), σ) := by
  cases o with
  | none => rfl
  | some b =>
    have hb := ho b rfl
    have key : ∀ b, b < 256 → (if nI b = 100 then (3 : Int32) else if nI b = 104 then 1 else if nI b = 105 then 2 else if nI b = 107 then 6 else if nI b = 110 then 0 else if nI b = 111 then 7 else if nI b = 114 then 8 else if nI b = 115 then 4 else if nI b = 119 then 5 else -1) = e1 (letB b) := by decide +kernel
    show F_X12_factOf (nI b) σ = some (e1 (letB b), σ)
    rw [← key b hb]
    unfold F_X12_factOf F_X12_factOf_0
    repeat' split
    all_goals rfl
