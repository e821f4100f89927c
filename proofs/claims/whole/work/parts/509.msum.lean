/-! PURE: the law, the reference reads a sum -/
noncomputable def lawLS (b f : Nat) (σ : zSt) : Option (Int32 × zSt) := zfix (F_X12_readsSum_14L (nI b)) f σ
noncomputable def FSf (b ff f : Nat) (σ : zSt) : Option (Int32 × zSt) := bd (zfix F_X12_readsFactor_0L ff σ) (fun q s => if q = 0 then some ((0 : Int32), s) else lawLS b f s)
def PDm (cd : Nat → Int32) (a b d : Nat) (o : Option (Nat × lDen)) : Prop := match o with
  | none => a = b
  | some (c, v) => isOp c ∧ CM cd a b d v
theorem PDm_on {cd cd' : Nat → Int32} {a b d : Nat} {o : Option (Nat × lDen)} (h : PDm cd a b d o) (e : ∀ j, a ≤ j → j < b → cd' j = cd j) : PDm cd' a b d o := by
  cases o with
  | none => exact h
  | some cv =>
    obtain ⟨c, v⟩ := cv
    exact ⟨h.1, CM_on h.2 e⟩
theorem PDm_le {cd : Nat → Int32} {a b d : Nat} {o : Option (Nat × lDen)} (h : PDm cd a b d o) : a ≤ b := by
  cases o with
  | none => exact Nat.le_of_eq h
  | some cv =>
    obtain ⟨c, v⟩ := cv
    exact Nat.le_of_lt h.2.1
/-- the step that waits -/
def KO (σ : zSt) (w : Nat) (o : Option (Nat × lDen)) : Prop := match o with
  | none => True
  | some (c, _) => σ.1 78 w = oI (opM c) 0
theorem KO_on {σ τ : zSt} {w : Nat} {o : Option (Nat × lDen)} (h : KO σ w o) (e : τ.1 78 w = σ.1 78 w) : KO τ w o := by
  cases o with
  | none => trivial
  | some cv =>
    obtain ⟨c, v⟩ := cv
    exact e.trans h
/-- the highest of what waits is put -/
theorem T_mClose {tp : Nat → Nat} {N q t w o a m d : Nat} {j : Option (Nat × lDen)} {f : lDen} {x1 : Int32} {σ : zSt} (h : MPs tp N q t (w + cn j) o σ) (h1 : PDm (σ.1 77) a m (d + 1) j) (h2 : CM (σ.1 77) m t d f) (hK : KO σ w j) (hj : ∀ c v, j = some (c, v) → opM c ≤ 6 ∧ (4 ≤ opM c ∨ x1 = 1)) (ht : t + cn j ≤ q) (fu : Nat) : ∃ τ, zfix (F_X12_closesSums_0L x1) (fu + cn j) σ = zfix (F_X12_closesSums_0L x1) fu τ ∧ MPs tp N q (t + cn j) w o τ ∧ mfr t w σ τ ∧ CM (τ.1 77) a (t + cn j) (d + 1) (lJn j f) := by
  cases j with
  | none =>
    replace h1 : a = m := h1
    subst h1
    exact ⟨σ, rfl, h, mfr.rf, CM_up h2 (by omega)⟩
  | some cv =>
    obtain ⟨c, v⟩ := cv
    obtain ⟨c6, c4⟩ := hj c v rfl
    have hop := @opM_lt c
    replace h : MPs tp N q t (w + 1) o σ := h
    replace ht : t + 1 ≤ q := ht
    replace hK : σ.1 78 w = oI (opM c) 0 := hK
    have hT := T_top h (by omega) hK
    obtain ⟨τ1, b1, b2, b3, b4, b5⟩ := T_mNote (op := opM c) (v := 0) h ht
    obtain ⟨p1, p2, p3⟩ := b2.pop
    have k37 : F_X12_closesSums_37 (zfix (F_X12_closesSums_0L x1) fu) x1 σ = zfix (F_X12_closesSums_0L x1) fu (zwr τ1 69 21 (nI w)) := by
      unfold F_X12_closesSums_37
      rw [hT, bd_s]
      show bd (F_X12_notes (nI (opM c)) (nI 0) σ) _ = _
      rw [b1, bd_s, p1, nm_s]
    refine ⟨zwr τ1 69 21 (nI w), ?_, p2, (b3.dn (by omega)).tr (p3.dn (by omega)), ?_⟩
    · show F_X12_closesSums_0 x1 (zfix (F_X12_closesSums_0L x1) fu) σ = _
      unfold F_X12_closesSums_0
      rw [hT, bd_s]
      by_cases q : opM c < 4
      · have x : x1 = 1 := by
          rcases c4 with z | z
          · omega
          · exact z
        subst x
        rw [if_pos (by rw [show (4 : Int32) = nI 4 from rfl, nI_ltp (by omega)]; exact q)]
        unfold F_X12_closesSums_17
        rw [if_neg (show ¬ (1 : Int32) = 0 by decide), hT, bd_s]
        by_cases q2 : opM c = 2
        · rw [if_pos (by rw [q2]; rfl)]
          exact k37
        · rw [if_neg (by rw [show (2 : Int32) = nI 2 from rfl, nI_eqp (by omega)]; exact q2), hT, bd_s, if_pos (by rw [show (3 : Int32) = nI 3 from rfl, nI_eqp (by omega)]; omega)]
          exact k37
      · rw [if_neg (by rw [show (4 : Int32) = nI 4 from rfl, nI_ltp (by omega)]; exact q), hT, bd_s, if_pos (by rw [show (6 : Int32) = nI 6 from rfl, nI_lep (by omega)]; exact c6)]
        exact k37
    · rw [zwr_n (by decide)]
      show CM (τ1.1 77) a (t + 1) (d + 1) (lBin c v f)
      exact CM_bin (CM_on h1.2 (fun j j1 j2 => b3.2.1 j (by have := h2.1; omega))) (CM_on h2 (fun j j1 j2 => b3.2.1 j j2)) h1.1 b4
/-- nothing more is put -/
theorem T_mStop {tp : Nat → Nat} {N q t w o : Nat} {x1 : Int32} {σ : zSt} (h : MPs tp N q t w o σ) (ht : topOK w σ ∨ (x1 = 0 ∧ ∃ op, 2 ≤ op ∧ op < 4 ∧ 0 < w ∧ σ.1 78 (w - 1) = oI op 0)) (fu : Nat) : zfix (F_X12_closesSums_0L x1) (fu + 1) σ = some ((), σ) := by
  show F_X12_closesSums_0 x1 (zfix (F_X12_closesSums_0L x1) fu) σ = _
  unfold F_X12_closesSums_0
  by_cases q : w = 0
  · subst q
    rw [T_top0 h, bd_s, if_pos (by decide)]
    unfold F_X12_closesSums_17
    by_cases x : x1 = 0
    · rw [if_pos x]
    · rw [if_neg x, T_top0 h, bd_s, if_neg (by decide), T_top0 h, bd_s, if_neg (by decide)]
  obtain ⟨w, rfl⟩ : ∃ k, w = k + 1 := ⟨w - 1, by omega⟩
  rcases ht with (ht | ⟨op, v, h1, h2, h3, h4⟩) | ⟨x, op, h1, h2, h3, h4⟩
  · exact absurd ht q
  · replace h4 : σ.1 78 w = oI op v := h4
    rw [T_top h (by omega) h4, bd_s, if_neg (by rw [show (4 : Int32) = nI 4 from rfl, nI_ltp (by omega)]; omega), T_top h (by omega) h4, bd_s, if_neg (by rw [show (6 : Int32) = nI 6 from rfl, nI_lep (by omega)]; omega)]
    unfold F_X12_closesSums_17
    by_cases x : x1 = 0
    · rw [if_pos x]
    · rw [if_neg x, T_top h (by omega) h4, bd_s, if_neg (by rw [show (2 : Int32) = nI 2 from rfl, nI_eqp (by omega)]; omega), T_top h (by omega) h4, bd_s, if_neg (by rw [show (3 : Int32) = nI 3 from rfl, nI_eqp (by omega)]; omega)]
  · replace h4 : σ.1 78 w = oI op 0 := h4
    rw [T_top h (by omega) h4, bd_s, if_pos (by rw [show (4 : Int32) = nI 4 from rfl, nI_ltp (by omega)]; omega)]
    unfold F_X12_closesSums_17
    rw [if_pos x]
/-- the sums that wait: of one level -/
def AF (tp : Nat → Nat) (N s0 p0 w0 o d m k t q : Nat) (wv jv : Option (Nat × lDen)) (σ : zSt) : Prop := MPs tp N q t (w0 + cn wv + cn jv) o σ ∧ PDm (σ.1 77) s0 m (d + 2) wv ∧ PDm (σ.1 77) m k (d + 1) jv ∧ KO σ w0 wv ∧ KO σ (w0 + cn wv) jv ∧ (∀ c v, wv = some (c, v) → c = 43 ∨ c = 45) ∧ (∀ c v, jv = some (c, v) → c = 42 ∨ c = 47 ∨ c = 37) ∧ topOK w0 σ ∧ t + cn wv + cn jv + p0 ≤ s0 + q ∧ s0 ≤ p0
theorem AF.st {tp : Nat → Nat} {N s0 p0 w0 o d m k t q : Nat} {wv jv : Option (Nat × lDen)} {σ : zSt} (h : AF tp N s0 p0 w0 o d m k t q wv jv σ) : MPs tp N q t (w0 + cn wv + cn jv) o σ := h.1
theorem AF.wp {tp : Nat → Nat} {N s0 p0 w0 o d m k t q : Nat} {wv jv : Option (Nat × lDen)} {σ : zSt} (h : AF tp N s0 p0 w0 o d m k t q wv jv σ) : PDm (σ.1 77) s0 m (d + 2) wv := h.2.1
theorem AF.jp {tp : Nat → Nat} {N s0 p0 w0 o d m k t q : Nat} {wv jv : Option (Nat × lDen)} {σ : zSt} (h : AF tp N s0 p0 w0 o d m k t q wv jv σ) : PDm (σ.1 77) m k (d + 1) jv := h.2.2.1
theorem AF.wk {tp : Nat → Nat} {N s0 p0 w0 o d m k t q : Nat} {wv jv : Option (Nat × lDen)} {σ : zSt} (h : AF tp N s0 p0 w0 o d m k t q wv jv σ) : KO σ w0 wv := h.2.2.2.1
theorem AF.jk {tp : Nat → Nat} {N s0 p0 w0 o d m k t q : Nat} {wv jv : Option (Nat × lDen)} {σ : zSt} (h : AF tp N s0 p0 w0 o d m k t q wv jv σ) : KO σ (w0 + cn wv) jv := h.2.2.2.2.1
theorem AF.wc {tp : Nat → Nat} {N s0 p0 w0 o d m k t q : Nat} {wv jv : Option (Nat × lDen)} {σ : zSt} (h : AF tp N s0 p0 w0 o d m k t q wv jv σ) : ∀ c v, wv = some (c, v) → c = 43 ∨ c = 45 := h.2.2.2.2.2.1
theorem AF.jc {tp : Nat → Nat} {N s0 p0 w0 o d m k t q : Nat} {wv jv : Option (Nat × lDen)} {σ : zSt} (h : AF tp N s0 p0 w0 o d m k t q wv jv σ) : ∀ c v, jv = some (c, v) → c = 42 ∨ c = 47 ∨ c = 37 := h.2.2.2.2.2.2.1
theorem AF.tk {tp : Nat → Nat} {N s0 p0 w0 o d m k t q : Nat} {wv jv : Option (Nat × lDen)} {σ : zSt} (h : AF tp N s0 p0 w0 o d m k t q wv jv σ) : topOK w0 σ := h.2.2.2.2.2.2.2.1
theorem AF.nb {tp : Nat → Nat} {N s0 p0 w0 o d m k t q : Nat} {wv jv : Option (Nat × lDen)} {σ : zSt} (h : AF tp N s0 p0 w0 o d m k t q wv jv σ) : t + cn wv + cn jv + p0 ≤ s0 + q := h.2.2.2.2.2.2.2.2.1
theorem AF.sp {tp : Nat → Nat} {N s0 p0 w0 o d m k t q : Nat} {wv jv : Option (Nat × lDen)} {σ : zSt} (h : AF tp N s0 p0 w0 o d m k t q wv jv σ) : s0 ≤ p0 := h.2.2.2.2.2.2.2.2.2
theorem opM_mul {c : Nat} (h : c = 42 ∨ c = 47 ∨ c = 37) : opM c ≤ 6 ∧ 4 ≤ opM c := by
  rcases h with rfl | rfl | rfl <;> decide
theorem opM_add {c : Nat} (h : c = 43 ∨ c = 45) : opM c < 4 ∧ 2 ≤ opM c := by
  rcases h with rfl | rfl <;> decide
theorem cn_le {o : Option (Nat × lDen)} : cn o ≤ 1 := by
  cases o with
  | none => exact Nat.zero_le 1
  | some cv => exact Nat.le_refl 1
/-- products alone are put -/
theorem T_close0 {tp : Nat → Nat} {N s0 p0 w0 o d m k t q : Nat} {wv jv : Option (Nat × lDen)} {f : lDen} {σ : zSt} (h : AF tp N s0 p0 w0 o d m k t q wv jv σ) (hf : CM (σ.1 77) k t d f) : ∃ τ, F_X12_closesSums 0 σ = some ((), τ) ∧ MPs tp N q (t + cn jv) (w0 + cn wv) o τ ∧ mfr t (w0 + cn wv) σ τ ∧ CM (τ.1 77) m (t + cn jv) (d + 1) (lJn jv f) := by
  have hnb := h.nb
  have hsp := h.sp
  have hj1 := @cn_le jv
  obtain ⟨τ, a1, a2, a3, a4⟩ := T_mClose (x1 := 0) h.st h.jp hf h.jk (fun c v e => ⟨(opM_mul (h.jc c v e)).1, Or.inl (opM_mul (h.jc c v e)).2⟩) (by omega) (999998 + (1 - cn jv) + 1)
  refine ⟨τ, ?_, a2, a3, a4⟩
  have e : zlim = 999998 + (1 - cn jv) + 1 + cn jv := by
    show 1000000 = _
    omega
  unfold F_X12_closesSums
  rw [e, a1]
  refine T_mStop a2 ?_ _
  cases wv with
  | none => exact Or.inl (topOK_f h.tk a3)
  | some cv =>
    obtain ⟨c, v⟩ := cv
    have := opM_add (h.wc c v rfl)
    refine Or.inr ⟨rfl, opM c, by omega, by omega, Nat.succ_pos w0, ?_⟩
    exact (a3.2.2 w0 (Nat.lt_succ_self w0)).trans h.wk
/-- products and sums are put -/
theorem T_close1 {tp : Nat → Nat} {N s0 p0 w0 o d m k t q : Nat} {wv jv : Option (Nat × lDen)} {f : lDen} {σ : zSt} (h : AF tp N s0 p0 w0 o d m k t q wv jv σ) (hf : CM (σ.1 77) k t d f) : ∃ τ, F_X12_closesSums 1 σ = some ((), τ) ∧ MPs tp N q (t + cn jv + cn wv) w0 o τ ∧ mfr t w0 σ τ ∧ CM (τ.1 77) s0 (t + cn jv + cn wv) (d + 2) (lJn wv (lJn jv f)) := by
  have hnb := h.nb
  have hsp := h.sp
  have hj1 := @cn_le jv
  have hw1 := @cn_le wv
  obtain ⟨τ, a1, a2, a3, a4⟩ := T_mClose (x1 := 1) h.st h.jp hf h.jk (fun c v e => ⟨(opM_mul (h.jc c v e)).1, Or.inl (opM_mul (h.jc c v e)).2⟩) (by omega) (999997 + (1 - cn jv) + (1 - cn wv) + 1 + cn wv)
  have mk := PDm_le h.jp
  obtain ⟨τ2, b1, b2, b3, b4⟩ := T_mClose (x1 := 1) (w := w0) (j := wv) a2 (PDm_on h.wp (fun j j1 j2 => a3.2.1 j (by have := hf.1; omega))) a4 (by
    cases wv with
    | none => trivial
    | some cv => exact KO_on h.wk (a3.2.2 w0 (Nat.lt_succ_self w0))) (fun c v e => ⟨by have := (opM_add (h.wc c v e)).1; omega, Or.inr rfl⟩) (by omega) (999997 + (1 - cn jv) + (1 - cn wv) + 1)
  refine ⟨τ2, ?_, b2, (a3.dn (by omega)).tr (b3.dn (by omega)), b4⟩
  have e : zlim = 999997 + (1 - cn jv) + (1 - cn wv) + 1 + cn wv + cn jv := by
    show 1000000 = _
    omega
  unfold F_X12_closesSums
  rw [e, a1, b1]
  exact T_mStop b2 (Or.inl (topOK_f (topOK_f h.tk (a3.dn (s' := 0) (w' := w0) (by omega))) (b3.dn (s' := 0) (w' := w0) (by omega)))) _
