/-! PURE: the law, what its texts mean -/
abbrev lDen : Type := (Nat → Int32) → Option Int32
abbrev lRes : Type := Sum Int32 (Nat × lDen)
/-- two worths joined by a sign of the text; none: refused -/
def lRk (c : Nat) (x y : Int32) : Option Int32 :=
  if c = 43 then some (x + y) else if c = 45 then some (x - y) else if c = 42 then some (x * y) else if c = 47 then (if y = 0 then none else some (x / y)) else if c = 37 then (if y = 0 then none else some (x % y)) else if c = 60 then some (if x < y then 1 else 0) else if c = 62 then some (if y < x then 1 else 0) else some (if x = y then 1 else 0)
def lBin (c : Nat) (a b : lDen) : lDen := fun lt => match a lt with
  | none => none
  | some x => match b lt with
    | none => none
    | some y => lRk c x y
def lNot (a : lDen) : lDen := fun lt => match a lt with
  | none => none
  | some x => some (1 - x)
def lAnd (a b : lDen) : lDen := fun lt => match a lt with
  | none => none
  | some x => if x = 1 then b lt else some x
def lOr (a b : lDen) : lDen := fun lt => match a lt with
  | none => none
  | some x => if x = 1 then some x else b lt
def lOne : lDen := fun _ => some 1
def lZer : lDen := fun _ => some 0
/-- only 0 and 1 -/
def lBo (a : lDen) : Prop := ∀ lt x, a lt = some x → x = 0 ∨ x = 1
/-- the draw is not asked for -/
def lIn (a : lDen) : Prop := ∀ lt lt' : Nat → Int32, (∀ j, j < 8 → lt' j = lt j) → a lt' = a lt
theorem lBo_not {a : lDen} (h : lBo a) : lBo (lNot a) := by
  intro lt x e
  unfold lNot at e
  cases q : a lt with
  | none => rw [q] at e; cases e
  | some y =>
    rw [q] at e
    cases e
    rcases h lt y q with rfl | rfl
    · exact Or.inr rfl
    · exact Or.inl rfl
theorem lBo_and {a b : lDen} (h : lBo a) (g : lBo b) : lBo (lAnd a b) := by
  intro lt x e
  unfold lAnd at e
  cases q : a lt with
  | none => rw [q] at e; cases e
  | some y =>
    rw [q] at e
    replace e : (if y = 1 then b lt else some y) = some x := e
    by_cases z : y = 1
    · rw [if_pos z] at e
      exact g lt x e
    · rw [if_neg z] at e
      cases e
      exact h lt _ q
theorem lBo_or {a b : lDen} (h : lBo a) (g : lBo b) : lBo (lOr a b) := by
  intro lt x e
  unfold lOr at e
  cases q : a lt with
  | none => rw [q] at e; cases e
  | some y =>
    rw [q] at e
    replace e : (if y = 1 then some y else b lt) = some x := e
    by_cases z : y = 1
    · rw [if_pos z] at e
      cases e
      exact h lt _ q
    · rw [if_neg z] at e
      exact g lt x e
theorem lBo_one : lBo lOne := fun _ x e => by cases e; exact Or.inr rfl
theorem lBo_zer : lBo lZer := fun _ x e => by cases e; exact Or.inl rfl
theorem lBo_cmp {c : Nat} {a b : lDen} (hc : c = 60 ∨ c = 61 ∨ c = 62) : lBo (lBin c a b) := by
  intro lt x e
  have k : ∀ (p : Prop) (i : Decidable p) (x : Int32), some (if p then (1 : Int32) else 0) = some x → x = 0 ∨ x = 1 := by
    intro p i x e
    split at e
    · cases e; exact Or.inr rfl
    · cases e; exact Or.inl rfl
  unfold lBin at e
  cases q : a lt with
  | none => rw [q] at e; cases e
  | some y =>
    cases r : b lt with
    | none => rw [q, r] at e; cases e
    | some z =>
      rw [q, r] at e
      rcases hc with rfl | rfl | rfl
      · exact k _ _ x e
      · exact k _ _ x e
      · exact k _ _ x e
theorem lIn_bin {c : Nat} {a b : lDen} (h : lIn a) (g : lIn b) : lIn (lBin c a b) := by
  intro lt lt' e
  unfold lBin
  rw [h lt lt' e, g lt lt' e]
theorem lIn_not {a : lDen} (h : lIn a) : lIn (lNot a) := by
  intro lt lt' e
  unfold lNot
  rw [h lt lt' e]
theorem lIn_and {a b : lDen} (h : lIn a) (g : lIn b) : lIn (lAnd a b) := by
  intro lt lt' e
  unfold lAnd
  rw [h lt lt' e, g lt lt' e]
theorem lIn_or {a b : lDen} (h : lIn a) (g : lIn b) : lIn (lOr a b) := by
  intro lt lt' e
  unfold lOr
  rw [h lt lt' e, g lt lt' e]
theorem lAnd_one {a : lDen} : lAnd lOne a = a := rfl
theorem lOr_zer {a : lDen} : lOr lZer a = a := rfl
/-! the texts read -/
def letB (b : Nat) : Option Nat := if b = 110 then some 0 else if b = 104 then some 1 else if b = 105 then some 2 else if b = 100 then some 3 else if b = 115 then some 4 else if b = 119 then some 5 else if b = 107 then some 6 else if b = 111 then some 7 else if b = 114 then some 8 else none
def numS (tp : Nat → Nat) (N : Nat) : Nat → Nat → Nat → Nat → lRes
  | 0, _, _, _ => Sum.inl 0
  | F + 1, p, k, v => match (chN tp N p).bind dgB with
    | none => if k = 0 then Sum.inl (flt 1 p) else Sum.inr (p, fun _ => some (nI v))
    | some d => if k = 5 then Sum.inl (flt 2 p) else numS tp N F (p + 1) (k + 1) (10 * v + d)
def facS (tp : Nat → Nat) (N : Nat) (sub : Nat → lRes) (g p : Nat) : lRes :=
  if chN tp N p = some 91 then (if g = 0 then Sum.inl (flt 5 p) else match sub (p + 1) with
    | Sum.inl f => Sum.inl f
    | Sum.inr (q, v) => if chN tp N q = some 93 then Sum.inr (q + 1, v) else Sum.inl (flt 1 q))
  else match (chN tp N p).bind letB with
    | some k => Sum.inr (p + 1, fun lt => some (lt k))
    | none => numS tp N 7 p 0 0
def isMul (o : Option Nat) : Bool := decide (o = some 42 ∨ o = some 47 ∨ o = some 37)
def isAdd (o : Option Nat) : Bool := decide (o = some 43 ∨ o = some 45)
/-- with what waits -/
def lJn (j : Option (Nat × lDen)) (f : lDen) : lDen := match j with
  | none => f
  | some (c, t) => lBin c t f
def sumL (tp : Nat → Nat) (N : Nat) (fac : Nat → lRes) : Nat → Nat → Option (Nat × lDen) → Option (Nat × lDen) → lRes
  | 0, _, _, _ => Sum.inl 0
  | F + 1, p, w, j => match fac p with
    | Sum.inl f => Sum.inl f
    | Sum.inr (q, f) => if isMul (chN tp N q) = true then sumL tp N fac F (q + 1) w (some ((chN tp N q).getD 0, lJn j f)) else
      if isAdd (chN tp N q) = true then sumL tp N fac F (q + 1) (some ((chN tp N q).getD 0, lJn w (lJn j f))) none else Sum.inr (q, lJn w (lJn j f))
def sumS (tp : Nat → Nat) (N : Nat) : Nat → Nat → lRes
  | 0, p => sumL tp N (facS tp N (fun _ => Sum.inl 0) 0) 300 p none none
  | g + 1, p => sumL tp N (facS tp N (sumS tp N g) (g + 1)) 300 p none none
def facG (tp : Nat → Nat) (N g : Nat) : Nat → lRes := facS tp N (match g with | 0 => fun _ => Sum.inl 0 | g + 1 => sumS tp N g) g
theorem sumS_e {tp : Nat → Nat} {N g p : Nat} : sumS tp N g p = sumL tp N (facG tp N g) 300 p none none := by
  cases g <;> rfl
def isCmp (o : Option Nat) : Bool := decide (o = some 60 ∨ o = some 61 ∨ o = some 62)
def cmpS (tp : Nat → Nat) (N g p : Nat) : lRes := match sumS tp N g p with
  | Sum.inl f => Sum.inl f
  | Sum.inr (q, a) => if isCmp (chN tp N q) = true then (match sumS tp N g (q + 1) with
    | Sum.inl f => Sum.inl f
    | Sum.inr (r, b) => Sum.inr (r, lBin ((chN tp N q).getD 0) a b)) else Sum.inl (flt 1 q)
def conL (tp : Nat → Nat) (N : Nat) (pie : Nat → lRes) : Nat → Nat → lDen → lDen → lRes
  | 0, _, _, _ => Sum.inl 0
  | F + 1, p, D, A => match pie p with
    | Sum.inl f => Sum.inl f
    | Sum.inr (q, P) => if chN tp N q = some 38 then conL tp N pie F (q + 1) D (lAnd A P) else
      if chN tp N q = some 124 then conL tp N pie F (q + 1) (lOr D (lAnd A P)) lOne else Sum.inr (q, lOr D (lAnd A P))
def pieS (tp : Nat → Nat) (N : Nat) : Nat → Nat → lRes
  | 0, p => if chN tp N p = some 33 ∨ chN tp N p = some 40 then Sum.inl (flt 5 p) else cmpS tp N 0 p
  | g + 1, p => if chN tp N p = some 33 then (match pieS tp N g (p + 1) with
      | Sum.inl f => Sum.inl f
      | Sum.inr (q, v) => Sum.inr (q, lNot v))
    else if chN tp N p = some 40 then (match conL tp N (pieS tp N g) 300 (p + 1) lZer lOne with
      | Sum.inl f => Sum.inl f
      | Sum.inr (q, v) => if chN tp N q = some 41 then Sum.inr (q + 1, v) else Sum.inl (flt 1 q))
    else cmpS tp N (g + 1) p
/-- a clause: its letter, its worth, its condition -/
def claS (tp : Nat → Nat) (N m p : Nat) : Sum Int32 (Nat × Nat × lDen × lDen) :=
  if chN tp N p = some 109 ∨ chN tp N p = some 108 then (if 16 ≤ m then Sum.inl (flt 4 p) else match sumS tp N 6 (p + 1) with
    | Sum.inl f => Sum.inl f
    | Sum.inr (q, e) => if chN tp N q = some 40 then (match conL tp N (pieS tp N 5) 300 (q + 1) lZer lOne with
      | Sum.inl f => Sum.inl f
      | Sum.inr (r, c) => if chN tp N r = some 41 then Sum.inr (r + 1, (chN tp N p).getD 0, e, c) else Sum.inl (flt 1 r)) else Sum.inl (flt 1 q))
  else Sum.inl (flt 1 p)
/-- the clauses so far: letters, worths, conditions -/
abbrev lCl : Type := Nat → Nat × lDen × lDen
def lawS (tp : Nat → Nat) (N : Nat) : Nat → Nat → Nat → lCl → Sum Int32 (Nat × lCl)
  | 0, _, _, _ => Sum.inl 0
  | F + 1, m, p, cl => match claS tp N m p with
    | Sum.inl f => Sum.inl f
    | Sum.inr (q, k) => if q = N then Sum.inr (m + 1, fset cl m k) else
      if chN tp N q = some 59 then lawS tp N F (m + 1) (q + 1) (fset cl m k) else Sum.inl (flt 1 q)
