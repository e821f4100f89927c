/-! PURE: the law, the class's leaps -/
theorem lifc {α : Type} {p q : Prop} {i : Decidable p} {k : Decidable q} {x y : α} (h : p ↔ q) : @ite α p i x y = @ite α q k x y := by
  by_cases z : p
  · rw [if_pos z, if_pos (h.mp z)]
  · rw [if_neg z, if_neg (fun w => z (h.mpr w))]
def sgJ (J : Bool) : Int32 := if J = true then 124 else 38
/-- joined by a leap: & (no), | (yes) -/
def lJ (J : Bool) (a b : lDen) : lDen := fun lt => match a lt with
  | none => none
  | some x => if decide (x = 1) = J then some x else b lt
def lU (J : Bool) : lDen := fun _ => some (if J = true then 0 else 1)
theorem lJ_and {a b : lDen} : lJ false a b = lAnd a b := by
  funext lt
  unfold lJ lAnd
  cases a lt with
  | none => rfl
  | some x =>
    show (if decide (x = 1) = false then some x else b lt) = if x = 1 then b lt else some x
    by_cases q : x = 1
    · rw [if_neg (by rw [decide_eq_true q]; exact Bool.noConfusion), if_pos q]
    · rw [if_pos (decide_eq_false q), if_neg q]
theorem lJ_or {a b : lDen} : lJ true a b = lOr a b := by
  funext lt
  unfold lJ lOr
  cases a lt with
  | none => rfl
  | some x =>
    show (if decide (x = 1) = true then some x else b lt) = if x = 1 then some x else b lt
    by_cases q : x = 1
    · rw [if_pos (decide_eq_true q), if_pos q]
    · rw [if_neg (by rw [decide_eq_false q]; exact Bool.noConfusion), if_neg q]
/-- steps s to e; a leap leads to X with its worth on top, else behind e without -/
def PJ (J : Bool) (sg vl : Nat → Int32) (s e : Nat) (ch : List Nat) (d : Nat) (A : lDen) : Prop := (s ≤ e ∧ ∀ j, j ∈ ch → s ≤ j ∧ j < e) ∧ ∀ (sg' vl' : Nat → Int32) (X : Nat), (∀ j, s ≤ j → j < e → sg' j = sg j ∧ vl' j = if j ∈ ch then nI X else vl j) → e ≤ X → ∀ (lt : Nat → Int32) (to n : Nat) (st : Nat → Int32) (r : Int32), n + d ≤ 64 → X ≤ to → to ≤ 240 → lK (A lt) (fun x => ∀ st', (∀ j, j < n → st' j = st j) → if decide (x = 1) = J then (st' n = x → WC sg' vl' lt to (n + 1) X st' r) else WC sg' vl' lt to n e st' r) (r = 0) → WC sg' vl' lt to n s st r
theorem PJ_on {J : Bool} {sg vl sg' vl' : Nat → Int32} {s e d : Nat} {ch : List Nat} {A : lDen} (h : PJ J sg vl s e ch d A) (g : ∀ j, s ≤ j → j < e → sg' j = sg j ∧ vl' j = vl j) : PJ J sg' vl' s e ch d A :=
  ⟨h.1, fun s1 v1 X h1 => h.2 s1 v1 X (fun j a b => ⟨(h1 j a b).1.trans (g j a b).1, by rw [(h1 j a b).2, (g j a b).2]⟩)⟩
theorem PJ_0 {J : Bool} {sg vl : Nat → Int32} {s d : Nat} : PJ J sg vl s s [] d (lU J) := by
  refine ⟨⟨Nat.le_refl s, fun j hj => by cases hj⟩, fun sg' vl' X h1 hX lt to n st r hn ht h2 h => ?_⟩
  have z : ¬ decide ((if J = true then (0 : Int32) else 1) = 1) = J := by
    cases J
    · exact fun q => Bool.noConfusion q
    · exact fun q => Bool.noConfusion q
  have h' := h st (fun _ _ => rfl)
  rw [if_neg z] at h'
  exact h'
theorem WC_J {J : Bool} {sg vl lt : Nat → Int32} {to n e X : Nat} {st : Nat → Int32} {r y : Int32} (h1 : sg e = sgJ J) (h2 : vl e = nI X) (hX : e < X) (ht : X ≤ to) (h24 : to ≤ 240) (hn : n + 1 ≤ 64) (hy : st n = y) (h : if decide (y = 1) = J then WC sg vl lt to (n + 1) X st r else WC sg vl lt to n (e + 1) st r) : WC sg vl lt to (n + 1) e st r := by
  refine WC_in (by omega) h24 (fun f i σ e9 e10 e25 e16 hf hi => ?_)
  rw [run_hd (by omega) h24 hi, e9, e10, h1, h2]
  have g : nI (n + 1) + (-1 : Int32) = nI n := nI_m1
  have es : zrow σ 16 st = σ := by
    rw [← e16]
    exact zrow_id
  cases J
  · rw [if_neg (show ¬ sgJ false = 35 by decide), if_neg (show ¬ sgJ false = 63 by decide), if_neg (show ¬ sgJ false = 33 by decide), if_pos (show sgJ false = 38 from rfl), nm_s, if_neg (show ¬ (1 : Int32) = 0 by decide), nm_s, if_pos (by rw [show (1 : Int32) = nI 1 from rfl, nI_lep (by omega)]; omega), show nI (n + 1) - (1 : Int32) = nI n from pk_sub (a := n + 1) (b := 1) (by omega), gd_n (by omega), nI_cl (by omega), e16, hy, nm_s, if_neg (show ¬ sgJ false = 33 by decide), if_neg (show ¬ (1 : Int32) = 0 by decide), nm_s, if_neg (show ¬ sgJ false = 124 by decide), nm_s]
    by_cases q : y = 1
    · rw [if_neg (by rw [decide_eq_true q]; exact Bool.noConfusion)] at h
      rw [if_pos q, if_neg (show ¬ (1 : Int32) = 0 by decide)]
      unfold F_X1_run_245 F_X1_run_305
      rw [if_neg (show ¬ (1 : Int32) = 0 by decide), nm_s, nm_s, nI_1, g]
      exact h f (i + 1) σ e9 e10 e25 e16 (by omega) (by omega)
    · rw [if_pos (decide_eq_false q)] at h
      rw [if_neg q, if_pos rfl]
      unfold F_X1_run_305
      rw [nm_s, nI_1]
      exact h f (i + 1) σ e9 e10 e25 e16 (by omega) (by omega)
  · rw [if_neg (show ¬ sgJ true = 35 by decide), if_neg (show ¬ sgJ true = 63 by decide), if_neg (show ¬ sgJ true = 33 by decide), if_neg (show ¬ sgJ true = 38 by decide), if_pos (show sgJ true = 124 from rfl), nm_s, if_neg (show ¬ (1 : Int32) = 0 by decide), nm_s, if_pos (by rw [show (1 : Int32) = nI 1 from rfl, nI_lep (by omega)]; omega), show nI (n + 1) - (1 : Int32) = nI n from pk_sub (a := n + 1) (b := 1) (by omega), gd_n (by omega), nI_cl (by omega), e16, hy, nm_s, if_neg (show ¬ sgJ true = 33 by decide), if_neg (show ¬ (1 : Int32) = 0 by decide), nm_s, nm_s]
    by_cases q : y = 1
    · rw [if_pos (decide_eq_true q)] at h
      rw [if_pos q, if_pos rfl]
      unfold F_X1_run_305
      rw [nm_s, nI_1]
      exact h f (i + 1) σ e9 e10 e25 e16 (by omega) (by omega)
    · rw [if_neg (by rw [decide_eq_false q]; exact Bool.noConfusion)] at h
      rw [if_neg q, if_neg (show ¬ (0 : Int32) = 1 by decide)]
      unfold F_X1_run_245 F_X1_run_305
      rw [if_neg (show ¬ (1 : Int32) = 0 by decide), nm_s, nm_s, nI_1, g]
      exact h f (i + 1) σ e9 e10 e25 e16 (by omega) (by omega)
/-- another piece and its leap -/
theorem PJ_s {J : Bool} {sg vl : Nat → Int32} {s k e d : Nat} {ch : List Nat} {A P : lDen} (hA : PJ J sg vl s k ch d A) (hP : CS sg vl k e d P) (hd : 1 ≤ d) (h1 : sg e = sgJ J) : PJ J sg vl s (e + 1) (e :: ch) d (lJ J A P) := by
  have ke := hP.1
  have sk := hA.1.1
  refine ⟨⟨by omega, fun j hj => ?_⟩, fun sg' vl' X hL hX lt to n st r hn ht h24 h => ?_⟩
  · rcases List.mem_cons.mp hj with q | q
    · omega
    · have := hA.1.2 j q
      omega
  have out : ∀ j, k ≤ j → j ∉ ch := fun j hj q => by
    have := hA.1.2 j q
    omega
  have inn : ∀ j, j ≠ e → (j ∈ e :: ch ↔ j ∈ ch) := fun j hj => by
    rw [List.mem_cons]
    exact ⟨fun q => q.elim (fun z => absurd z hj) id, Or.inr⟩
  refine hA.2 sg' vl' X (fun j a b => ⟨(hL j a (by omega)).1, by rw [(hL j a (by omega)).2]; exact lifc (inn j (by omega))⟩) (by omega) lt to n st r hn ht h24 ?_
  unfold lJ at h
  cases q1 : A lt with
  | none =>
    rw [q1] at h
    exact h
  | some x =>
    rw [q1] at h
    show ∀ st', (∀ j, j < n → st' j = st j) → if decide (x = 1) = J then (st' n = x → WC sg' vl' lt to (n + 1) X st' r) else WC sg' vl' lt to n k st' r
    replace h : lK (if decide (x = 1) = J then some x else P lt) (fun x => ∀ st', (∀ j, j < n → st' j = st j) → if decide (x = 1) = J then (st' n = x → WC sg' vl' lt to (n + 1) X st' r) else WC sg' vl' lt to n (e + 1) st' r) (r = 0) := h
    intro st1 s1
    by_cases q : decide (x = 1) = J
    · rw [if_pos q] at h
      have h' := h st1 s1
      rw [if_pos q] at h'
      rw [if_pos q]
      exact h'
    · rw [if_neg q] at h
      rw [if_neg q]
      refine hP.2 sg' vl' (fun j a b => ⟨(hL j (by omega) (by omega)).1, by rw [(hL j (by omega) (by omega)).2, if_neg (fun z => out j a ((inn j (by omega)).mp z))]⟩) lt to n st1 r hn (by omega) h24 ?_
      cases q2 : P lt with
      | none =>
        rw [q2] at h
        exact h
      | some y =>
        rw [q2] at h
        show ∀ st', (∀ j, j < n → st' j = st1 j) → st' n = y → WC sg' vl' lt to (n + 1) e st' r
        intro st2 t1 t2
        have h' := h st2 (fun j hj => (t1 j hj).trans (s1 j hj))
        refine WC_J (J := J) (y := y) (X := X) ((hL e (by omega) (by omega)).1.trans h1) (by rw [(hL e (by omega) (by omega)).2]; exact if_pos (List.mem_cons.mpr (Or.inl rfl))) (by omega) ht h24 (by omega) t2 ?_
        by_cases q3 : decide (y = 1) = J
        · rw [if_pos q3] at h'
          rw [if_pos q3]
          exact h' t2
        · rw [if_neg q3] at h'
          rw [if_neg q3]
          exact h'
/-- the last piece: the leaps lead behind it -/
theorem PJ_e {J : Bool} {sg vl sg' vl' : Nat → Int32} {s k e d : Nat} {ch : List Nat} {A P : lDen} (hA : PJ J sg vl s k ch d A) (hP : CS sg vl k e d P) (hL : ∀ j, s ≤ j → j < e → sg' j = sg j ∧ vl' j = if j ∈ ch then nI e else vl j) : CS sg' vl' s e d (lJ J A P) := by
  have ke := hP.1
  have sk := hA.1.1
  have out : ∀ j, k ≤ j → j ∉ ch := fun j hj q => by
    have := hA.1.2 j q
    omega
  refine ⟨by omega, fun s1 v1 e1' lt to n st r hn ht h24 h => ?_⟩
  refine hA.2 s1 v1 e (fun j a b => ⟨(e1' j a (by omega)).1.trans (hL j a (by omega)).1, (e1' j a (by omega)).2.trans (hL j a (by omega)).2⟩) (by omega) lt to n st r hn ht h24 ?_
  unfold lJ at h
  cases q1 : A lt with
  | none =>
    rw [q1] at h
    exact h
  | some x =>
    rw [q1] at h
    show ∀ st', (∀ j, j < n → st' j = st j) → if decide (x = 1) = J then (st' n = x → WC s1 v1 lt to (n + 1) e st' r) else WC s1 v1 lt to n k st' r
    replace h : lK (if decide (x = 1) = J then some x else P lt) (fun x => ∀ st', (∀ j, j < n → st' j = st j) → st' n = x → WC s1 v1 lt to (n + 1) e st' r) (r = 0) := h
    intro st1 a1
    by_cases q : decide (x = 1) = J
    · rw [if_pos q] at h
      rw [if_pos q]
      exact h st1 a1
    · rw [if_neg q] at h
      rw [if_neg q]
      refine hP.2 s1 v1 (fun j a b => ⟨(e1' j (by omega) b).1.trans (hL j (by omega) b).1, by rw [(e1' j (by omega) b).2, (hL j (by omega) b).2, if_neg (out j a)]⟩) lt to n st1 r hn ht h24 ?_
      cases q2 : P lt with
      | none =>
        rw [q2] at h
        exact h
      | some y =>
        rw [q2] at h
        show ∀ st', (∀ j, j < n → st' j = st1 j) → st' n = y → WC s1 v1 lt to (n + 1) e st' r
        intro st2 t1 t2
        exact h st2 (fun j hj => (t1 j hj).trans (a1 j hj)) t2
/-- a chain of leaps, the last first -/
def lkd (vl : Nat → Int32) : List Nat → Nat → Int32 → Prop
  | [], _, h => h = -1
  | j :: t, b, h => h = nI j ∧ j < b ∧ lkd vl t j (vl j)
theorem lkd_on {vl vl' : Nat → Int32} {s : Nat} : ∀ (ch : List Nat) b h, lkd vl ch b h → (∀ j, j ∈ ch → s ≤ j) → (∀ j, s ≤ j → j < b → vl' j = vl j) → lkd vl' ch b h
  | [], _, _, e, _, _ => e
  | j :: t, b, h, e, g, v => by
    have gj := g j (List.mem_cons.mpr (Or.inl rfl))
    refine ⟨e.1, e.2.1, ?_⟩
    rw [v j gj e.2.1]
    exact lkd_on t j (vl j) e.2.2 (fun i hi => g i (List.mem_cons.mpr (Or.inr hi))) (fun i h1 h2 => v i h1 (Nat.lt_trans h2 e.2.1))
theorem lkd_up {vl : Nat → Int32} {ch : List Nat} {b b' : Nat} {h : Int32} (e : lkd vl ch b h) (hb : b ≤ b') : lkd vl ch b' h := by
  cases ch with
  | nil => exact e
  | cons j t => exact ⟨e.1, Nat.lt_of_lt_of_le e.2.1 hb, e.2.2⟩
theorem lkd_lt {vl : Nat → Int32} : ∀ (ch : List Nat) b h, lkd vl ch b h → ∀ j, j ∈ ch → j < b
  | [], _, _, _ => fun j hj => by cases hj
  | k :: t, b, h, e => fun j hj => by
    rcases List.mem_cons.mp hj with q | q
    · rw [q]
      exact e.2.1
    · exact Nat.lt_trans (lkd_lt t k (vl k) e.2.2 j q) e.2.1
theorem T_leadL : ∀ (ch : List Nat) b h f i (σ : zSt), lkd (σ.1 37) ch b h → b + i ≤ 240 → b < f → ∃ v, zfix F_X1_leadHere_4L f (h, nI i, σ) = some ((), zrow σ 37 v) ∧ ∀ j, v j = if j ∈ ch then σ.1 35 2 else σ.1 37 j
  | [], b, h, f, i, σ, e, hb, hf => by
    obtain ⟨f, rfl⟩ : ∃ g, f = g + 1 := ⟨f - 1, by omega⟩
    replace e : h = -1 := e
    refine ⟨σ.1 37, ?_, fun j => (if_neg (fun q => by cases q)).symm⟩
    rw [zrow_id, e]
    show F_X1_leadHere_4 (zfix F_X1_leadHere_4L f) (-1) (nI i) σ = _
    unfold F_X1_leadHere_4
    by_cases q : (240 : Int32) ≤ nI i
    · rw [if_pos q]
    · rw [if_neg q, if_pos (by decide)]
  | j :: t, b, h, f, i, σ, e, hb, hf => by
    obtain ⟨f, rfl⟩ : ∃ g, f = g + 1 := ⟨f - 1, by omega⟩
    obtain ⟨e1', e2', e3'⟩ := e
    have e3 : lkd ((zwr σ 37 j (σ.1 35 2)).1 37) t j (σ.1 37 j) := by
      rw [zwr_c]
      exact lkd_on (s := 0) t j _ e3' (fun i _ => Nat.zero_le i) (fun i _ hi => pk_un (by omega))
    obtain ⟨v, ev, hv⟩ := T_leadL t j (σ.1 37 j) f (i + 1) (zwr σ 37 j (σ.1 35 2)) e3 (by omega) (by omega)
    refine ⟨v, ?_, fun k => ?_⟩
    · rw [e1']
      show F_X1_leadHere_4 (zfix F_X1_leadHere_4L f) (nI j) (nI i) σ = _
      unfold F_X1_leadHere_4
      rw [if_neg (by rw [show (240 : Int32) = nI 240 from rfl, nI_lep (by omega)]; omega), if_neg (nI_pos (by omega)), if_neg (by rw [show (240 : Int32) = nI 240 from rfl, nI_lep (by omega)]; omega), gd_n (by omega), nI_cl (by omega), nm_s, gd_n (by omega), nm_s, nm_s, nI_1, ev]
      congr 2
      exact zrow2
    · rw [hv k, zwr_n (by decide), zwr_c]
      by_cases q : k ∈ t
      · rw [if_pos q, if_pos (List.mem_cons.mpr (Or.inr q))]
      · rw [if_neg q]
        by_cases q2 : k = j
        · rw [q2, pk_us, if_pos (List.mem_cons.mpr (Or.inl rfl))]
        · rw [pk_un q2, if_neg (fun z => (List.mem_cons.mp z).elim q2 q)]
theorem T_leadHere {ch : List Nat} {b : Nat} {h : Int32} {σ : zSt} (e : lkd (σ.1 37) ch b h) (hb : b ≤ 240) : ∃ v, F_X1_leadHere h σ = some ((), zrow σ 37 v) ∧ ∀ j, v j = if j ∈ ch then σ.1 35 2 else σ.1 37 j :=
  T_leadL ch b h zlim 0 σ e (by omega) (by show b < 1000000; omega)
