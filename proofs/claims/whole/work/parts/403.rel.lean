/-! what class and reference hold alike, by components; which cells each looks at -/
def eqOn (rows : List Nat) (slots : List (Nat × Nat)) (σ τ : zSt) : Prop := (∀ c ∈ rows, τ.1 c = σ.1 c) ∧ ∀ q ∈ slots, τ.1 q.1 q.2 = σ.1 q.1 q.2
theorem eqOn.rf {rows : List Nat} {slots : List (Nat × Nat)} {σ : zSt} : eqOn rows slots σ σ := ⟨fun _ _ => rfl, fun _ _ => rfl⟩
theorem eqOn.tr {rows : List Nat} {slots : List (Nat × Nat)} {σ τ υ : zSt} (h : eqOn rows slots σ τ) (g : eqOn rows slots τ υ) : eqOn rows slots σ υ := ⟨fun c hc => (g.1 c hc).trans (h.1 c hc), fun q hq => (g.2 q hq).trans (h.2 q hq)⟩
theorem eqOn.sub {rows rows' : List Nat} {slots slots' : List (Nat × Nat)} {σ τ : zSt} (h : eqOn rows slots σ τ) (hr : rows'.all (fun c => rows.contains c) = true) (hs : slots'.all (fun q => slots.contains q) = true) : eqOn rows' slots' σ τ :=
  ⟨fun c hc => h.1 c (List.contains_iff_mem.mp (List.all_eq_true.mp hr c hc)), fun q hq => h.2 q (List.contains_iff_mem.mp (List.all_eq_true.mp hs q hq))⟩
theorem eqOn_row {rows : List Nat} {slots : List (Nat × Nat)} {σ : zSt} {c : Nat} {f : Nat → Int32} (h : (rows.all (fun d => d != c) && slots.all (fun q => q.1 != c)) = true) : eqOn rows slots σ (zrow σ c f) := by
  rw [Bool.and_eq_true] at h
  refine ⟨fun d hd => ?_, fun q hq => ?_⟩
  · have := List.all_eq_true.mp h.1 d hd
    exact zrow_n (by simpa using this)
  · have := List.all_eq_true.mp h.2 q hq
    rw [zrow_n (by simpa using this)]
theorem eqOn_rowL {rows : List Nat} {slots : List (Nat × Nat)} {σ : zSt} {c : Nat} {f : Nat → Int64} : eqOn rows slots σ (zrowL σ c f) := ⟨fun _ _ => rfl, fun _ _ => rfl⟩
theorem eqOn_wrL {rows : List Nat} {slots : List (Nat × Nat)} {σ : zSt} {c j : Nat} {f : Int64} : eqOn rows slots σ (zwrL σ c j f) := ⟨fun _ _ => rfl, fun _ _ => rfl⟩
theorem eqOn_wr {rows : List Nat} {slots : List (Nat × Nat)} {σ : zSt} {c j : Nat} {v : Int32} (h : (rows.all (fun d => d != c) && slots.all (fun q => !(q.1 == c && q.2 == j))) = true) : eqOn rows slots σ (zwr σ c j v) := by
  rw [Bool.and_eq_true] at h
  refine ⟨fun d hd => ?_, fun q hq => ?_⟩
  · have := List.all_eq_true.mp h.1 d hd
    exact zwr_n (by simpa using this)
  · have := List.all_eq_true.mp h.2 q hq
    simp only [Bool.not_eq_true', Bool.and_eq_false_iff, beq_eq_false_iff_ne] at this
    by_cases hc : q.1 = c
    · rw [hc, zwr_c]
      exact pk_un (by
        rcases this with h1 | h1
        · exact absurd hc h1
        · exact h1)
    · rw [zwr_n hc]
/-- a write by a row: not looked at -/
theorem eqOn_wrR {rows : List Nat} {slots : List (Nat × Nat)} {σ : zSt} {c j : Nat} {v : Int32} (h : (rows.all (fun d => d != c) && slots.all (fun q => q.1 != c)) = true) : eqOn rows slots σ (zwr σ c j v) := eqOn_row h
def rowsC : List Nat := [2, 3, 4, 5, 6, 7]
def slotsC : List (Nat × Nat) := [(1, 6), (1, 7), (1, 8), (1, 9), (1, 10), (1, 11), (1, 12)]
def rowsM : List Nat := [70, 71, 72, 73, 74, 75]
def slotsM : List (Nat × Nat) := [(69, 0), (69, 1), (69, 2), (69, 3), (69, 4), (69, 5), (69, 6)]
def rowsKC : List Nat := [27, 28, 29, 30, 31, 32]
def slotsKC : List (Nat × Nat) := [(26, 6), (26, 7), (26, 8), (26, 9), (26, 10), (26, 11), (26, 12), (0, 2)]
def rowsKM : List Nat := [105, 106, 107, 108, 109, 110]
def slotsKM : List (Nat × Nat) := [(69, 62), (69, 63), (69, 64), (69, 65), (69, 66), (69, 67), (69, 68), (69, 69)]
theorem EC_on {W : zWo} {σ τ : zSt} (h : eqOn rowsC slotsC σ τ) (hE : EC 1 2 W σ) : EC 1 2 W τ := by
  obtain ⟨h1, h2, h3, h4, h5, h6, h7, h8, h9, h10, h11, h12, h13⟩ := hE
  have r : ∀ c, c ∈ rowsC → τ.1 c = σ.1 c := h.1
  have s : ∀ q, q ∈ slotsC → τ.1 q.1 q.2 = σ.1 q.1 q.2 := h.2
  refine ⟨fun j hj => (congrFun (r 2 (by decide)) j).trans (h1 j hj), fun j hj => (congrFun (r 3 (by decide)) j).trans (h2 j hj), fun j hj => (congrFun (r 4 (by decide)) j).trans (h3 j hj), fun j hj => (congrFun (r 5 (by decide)) j).trans (h4 j hj), fun j hj => (congrFun (r 6 (by decide)) j).trans (h5 j hj), fun j hj => (congrFun (r 7 (by decide)) j).trans (h6 j hj), ?_⟩
  exact ⟨(s (1, 6) (by decide)).trans h7, (s (1, 7) (by decide)).trans h8, (s (1, 8) (by decide)).trans h9, (s (1, 9) (by decide)).trans h10, (s (1, 10) (by decide)).trans h11, (s (1, 11) (by decide)).trans h12, (s (1, 12) (by decide)).trans h13⟩
theorem EM_on {W : zWo} {σ τ : zSt} (h : eqOn rowsM slotsM σ τ) (hE : EM 70 0 W σ) : EM 70 0 W τ := by
  obtain ⟨h1, h2, h3, h4, h5, h6, h7, h8, h9, h10, h11, h12, h13⟩ := hE
  have r : ∀ c, c ∈ rowsM → τ.1 c = σ.1 c := h.1
  have s : ∀ q, q ∈ slotsM → τ.1 q.1 q.2 = σ.1 q.1 q.2 := h.2
  refine ⟨fun j hj => (congrFun (r 70 (by decide)) j).trans (h1 j hj), fun j hj => (congrFun (r 71 (by decide)) j).trans (h2 j hj), fun j hj => (congrFun (r 72 (by decide)) j).trans (h3 j hj), fun j hj => (congrFun (r 73 (by decide)) j).trans (h4 j hj), fun j hj => (congrFun (r 74 (by decide)) j).trans (h5 j hj), fun j hj => (congrFun (r 75 (by decide)) j).trans (h6 j hj), ?_⟩
  exact ⟨(s (69, 0) (by decide)).trans h7, (s (69, 1) (by decide)).trans h8, (s (69, 2) (by decide)).trans h9, (s (69, 4) (by decide)).trans h10, (s (69, 5) (by decide)).trans h11, (s (69, 6) (by decide)).trans h12, (s (69, 3) (by decide)).trans h13⟩
theorem ECk_on {W : zWo} {σ τ : zSt} (h : eqOn rowsKC slotsKC σ τ) (hE : EC 26 27 W σ) : EC 26 27 W τ := by
  obtain ⟨h1, h2, h3, h4, h5, h6, h7, h8, h9, h10, h11, h12, h13⟩ := hE
  have r : ∀ c, c ∈ rowsKC → τ.1 c = σ.1 c := h.1
  have s : ∀ q, q ∈ slotsKC → τ.1 q.1 q.2 = σ.1 q.1 q.2 := h.2
  refine ⟨fun j hj => (congrFun (r 27 (by decide)) j).trans (h1 j hj), fun j hj => (congrFun (r 28 (by decide)) j).trans (h2 j hj), fun j hj => (congrFun (r 29 (by decide)) j).trans (h3 j hj), fun j hj => (congrFun (r 30 (by decide)) j).trans (h4 j hj), fun j hj => (congrFun (r 31 (by decide)) j).trans (h5 j hj), fun j hj => (congrFun (r 32 (by decide)) j).trans (h6 j hj), ?_⟩
  exact ⟨(s (26, 6) (by decide)).trans h7, (s (26, 7) (by decide)).trans h8, (s (26, 8) (by decide)).trans h9, (s (26, 9) (by decide)).trans h10, (s (26, 10) (by decide)).trans h11, (s (26, 11) (by decide)).trans h12, (s (26, 12) (by decide)).trans h13⟩
theorem EMk_on {W : zWo} {σ τ : zSt} (h : eqOn rowsKM slotsKM σ τ) (hE : EM 105 63 W σ) : EM 105 63 W τ := by
  obtain ⟨h1, h2, h3, h4, h5, h6, h7, h8, h9, h10, h11, h12, h13⟩ := hE
  have r : ∀ c, c ∈ rowsKM → τ.1 c = σ.1 c := h.1
  have s : ∀ q, q ∈ slotsKM → τ.1 q.1 q.2 = σ.1 q.1 q.2 := h.2
  refine ⟨fun j hj => (congrFun (r 105 (by decide)) j).trans (h1 j hj), fun j hj => (congrFun (r 106 (by decide)) j).trans (h2 j hj), fun j hj => (congrFun (r 107 (by decide)) j).trans (h3 j hj), fun j hj => (congrFun (r 108 (by decide)) j).trans (h4 j hj), fun j hj => (congrFun (r 109 (by decide)) j).trans (h5 j hj), fun j hj => (congrFun (r 110 (by decide)) j).trans (h6 j hj), ?_⟩
  exact ⟨(s (69, 63) (by decide)).trans h7, (s (69, 64) (by decide)).trans h8, (s (69, 65) (by decide)).trans h9, (s (69, 67) (by decide)).trans h10, (s (69, 68) (by decide)).trans h11, (s (69, 69) (by decide)).trans h12, (s (69, 66) (by decide)).trans h13⟩
/-- the world -/
def RW (n : Nat) (σ : zSt) : Prop := ∃ W, WOK W ∧ wNig W ≤ n ∧ EC 1 2 W σ ∧ EM 70 0 W σ
/-- what is kept -/
def RK (n : Nat) (σ : zSt) : Prop := (σ.1 0 2 = 0 ∧ σ.1 69 62 = 0) ∨ (σ.1 0 2 = 1 ∧ σ.1 69 62 = 1 ∧ ∃ W, WOK W ∧ wNig W ≤ n ∧ EC 26 27 W σ ∧ EM 105 63 W σ)
/-- the tape -/
def sb (b : Nat) : Int32 := (nI b).toInt8.toInt32
def TP (n : Nat) (tp : Nat → Nat) (σ : zSt) : Prop := n ≤ 260 ∧ σ.1 33 1 = nI n ∧ σ.1 69 14 = nI n ∧ ∀ j, j < n → tp j < 256 ∧ σ.1 34 j = nI (tp j) ∧ σ.1 76 j = sb (tp j)
def RT (σ : zSt) : Prop := ∃ n tp, TP n tp σ
/-- the law: what one condition or one worth comes to by both machines -/
def LRow (sg vl cd : Nat → Int32) (fc tc fm tm : Int32) (lt : Nat → Int32) (v w : Int32) : Prop :=
  (∀ σ : zSt, σ.1 9 = sg → σ.1 10 = vl → (∀ j, j < 9 → σ.1 25 j = lt j) → ∃ st, F_X1_run fc tc σ = some (v, zrow σ 16 st)) ∧
  (∀ σ : zSt, σ.1 83 = cd → (∀ j, j < 9 → σ.1 89 j = lt j) → ∃ st, F_X12_comesTo fm tm σ = some (w, zrow σ 88 st))
def LRc (ask : Int32) (sg vl cd : Nat → Int32) (sr co en cf ch ct : Int32) : Prop := ∀ lt : Nat → Int32, ∃ v w u : Int32, LRow sg vl cd co en ch ct lt v w ∧ (v ≠ 0 ↔ w = 1) ∧ (w = 1 → LRow sg vl cd sr co cf ch lt u u) ∧
  (ask = 0 → ∀ lt' : Nat → Int32, (∀ j, j < 8 → lt' j = lt j) → LRow sg vl cd co en ch ct lt' v w ∧ (w = 1 → LRow sg vl cd sr co cf ch lt' u u))
def LRp (n : Nat) (n1 ask : Int32) (sg vl kd sr co en : Nat → Int32) (n2 : Int32) (cd ck cf ch ct : Nat → Int32) : Prop :=
  n ≤ 16 ∧ n1 = nI n ∧ n2 = nI n ∧ (ask = 0 ∨ ask = 1) ∧ ∀ c, c < n → kd c = ck c ∧ LRc ask sg vl cd (sr c) (co c) (en c) (cf c) (ch c) (ct c)
def RLw (σ : zSt) : Prop := ∃ n, LRp n (σ.1 8 7) (σ.1 8 8) (σ.1 9) (σ.1 10) (σ.1 11) (σ.1 12) (σ.1 13) (σ.1 14) (σ.1 69 23) (σ.1 83) (σ.1 84) (σ.1 85) (σ.1 86) (σ.1 87)
/-- eggs and tests; the wood -/
def RE (σ : zSt) : Prop := ∃ (E : Nat) (te : Nat → Nat), E < 256 ∧ σ.1 65 0 = nI E ∧ σ.1 69 59 = nI E ∧ ∀ t, t < 6 → te t < 256 ∧ σ.1 66 t = nI (te t) ∧ σ.1 103 t = nI (te t)
def RO (σ : zSt) : Prop := ∃ ow : Nat → Option Nat, ∀ i, i < 12 → (∀ j, ow i = some j → j < 12 ∧ j ≠ i) ∧ σ.1 68 i = e1 (ow i) ∧ σ.1 104 i = e1 (ow i)
def Rel (n : Nat) (σ : zSt) : Prop := n ≤ 512 ∧ RW n σ ∧ RK n σ ∧ RT σ ∧ RLw σ ∧ RE σ ∧ RO σ
def rowsT : List Nat := [34, 76]
def slotsT : List (Nat × Nat) := [(33, 1), (69, 14)]
def rowsL : List Nat := [9, 10, 11, 12, 13, 14, 83, 84, 85, 86, 87]
def slotsL : List (Nat × Nat) := [(8, 7), (8, 8), (69, 23)]
def rowsE : List Nat := [66, 103]
def slotsE : List (Nat × Nat) := [(65, 0), (69, 59)]
def rowsO : List Nat := [68, 104]
theorem RW_on {n m : Nat} {σ τ : zSt} (hn : n ≤ m) (h : eqOn (rowsC ++ rowsM) (slotsC ++ slotsM) σ τ) (g : RW n σ) : RW m τ := by
  obtain ⟨W, h1, h2, h3, h4⟩ := g
  exact ⟨W, h1, Nat.le_trans h2 hn, EC_on (h.sub (by decide) (by decide)) h3, EM_on (h.sub (by decide) (by decide)) h4⟩
theorem RK_on {n m : Nat} {σ τ : zSt} (hn : n ≤ m) (h : eqOn (rowsKC ++ rowsKM) (slotsKC ++ slotsKM) σ τ) (g : RK n σ) : RK m τ := by
  have e1 : τ.1 0 2 = σ.1 0 2 := h.2 (0, 2) (by decide)
  have e2 : τ.1 69 62 = σ.1 69 62 := h.2 (69, 62) (by decide)
  rcases g with ⟨g1, g2⟩ | ⟨g1, g2, W, h1, h2, h3, h4⟩
  · exact Or.inl ⟨e1.trans g1, e2.trans g2⟩
  · exact Or.inr ⟨e1.trans g1, e2.trans g2, W, h1, Nat.le_trans h2 hn, ECk_on (h.sub (by decide) (by decide)) h3, EMk_on (h.sub (by decide) (by decide)) h4⟩
theorem TP_on {n : Nat} {tp : Nat → Nat} {σ τ : zSt} (h : eqOn rowsT slotsT σ τ) (g : TP n tp σ) : TP n tp τ := by
  obtain ⟨h1, h2, h3, h4⟩ := g
  refine ⟨h1, (h.2 (33, 1) (by decide)).trans h2, (h.2 (69, 14) (by decide)).trans h3, fun j hj => ?_⟩
  rw [h.1 34 (by decide), h.1 76 (by decide)]
  exact h4 j hj
theorem RT_on {σ τ : zSt} (h : eqOn rowsT slotsT σ τ) (g : RT σ) : RT τ := by
  obtain ⟨n, tp, g⟩ := g
  exact ⟨n, tp, TP_on h g⟩
theorem RLw_on {σ τ : zSt} (h : eqOn rowsL slotsL σ τ) (g : RLw σ) : RLw τ := by
  obtain ⟨n, g⟩ := g
  refine ⟨n, ?_⟩
  have s1 : τ.1 8 7 = σ.1 8 7 := h.2 (8, 7) (by decide)
  have s2 : τ.1 8 8 = σ.1 8 8 := h.2 (8, 8) (by decide)
  have s3 : τ.1 69 23 = σ.1 69 23 := h.2 (69, 23) (by decide)
  rw [s1, s2, s3, h.1 9 (by decide), h.1 10 (by decide), h.1 11 (by decide), h.1 12 (by decide), h.1 13 (by decide), h.1 14 (by decide), h.1 83 (by decide), h.1 84 (by decide), h.1 85 (by decide), h.1 86 (by decide), h.1 87 (by decide)]
  exact g
theorem RE_on {σ τ : zSt} (h : eqOn rowsE slotsE σ τ) (g : RE σ) : RE τ := by
  obtain ⟨E, te, h1, h2, h3, h4⟩ := g
  refine ⟨E, te, h1, (h.2 (65, 0) (by decide)).trans h2, (h.2 (69, 59) (by decide)).trans h3, fun j hj => ?_⟩
  rw [h.1 66 (by decide), h.1 103 (by decide)]
  exact h4 j hj
theorem RO_on {σ τ : zSt} (h : eqOn rowsO [] σ τ) (g : RO σ) : RO τ := by
  obtain ⟨ow, h1⟩ := g
  refine ⟨ow, fun j hj => ?_⟩
  rw [h.1 68 (by decide), h.1 104 (by decide)]
  exact h1 j hj
def rowsP : List Nat := (rowsC ++ rowsM) ++ (rowsKC ++ rowsKM) ++ rowsT ++ rowsL ++ rowsE ++ rowsO
def slotsP : List (Nat × Nat) := (slotsC ++ slotsM) ++ (slotsKC ++ slotsKM) ++ slotsT ++ slotsL ++ slotsE
/-- nothing of all that is changed -/
theorem Rel_on {n : Nat} {σ τ : zSt} (h : eqOn rowsP slotsP σ τ) (g : Rel n σ) : Rel n τ :=
  ⟨g.1, RW_on (Nat.le_refl n) (h.sub (by decide) (by decide)) g.2.1, RK_on (Nat.le_refl n) (h.sub (by decide) (by decide)) g.2.2.1, RT_on (h.sub (by decide) (by decide)) g.2.2.2.1, RLw_on (h.sub (by decide) (by decide)) g.2.2.2.2.1, RE_on (h.sub (by decide) (by decide)) g.2.2.2.2.2.1, RO_on (h.sub (by decide) (by decide)) g.2.2.2.2.2.2⟩
theorem Rel_up {n : Nat} {σ : zSt} (hn : n < 512) (g : Rel n σ) : Rel (n + 1) σ :=
  ⟨hn, RW_on (Nat.le_succ n) eqOn.rf g.2.1, RK_on (Nat.le_succ n) eqOn.rf g.2.2.1, g.2.2.2⟩
