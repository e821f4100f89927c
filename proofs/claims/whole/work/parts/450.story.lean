/-! PURE: a story read -/
def dsB (b : Nat) : Option Nat := if b = 46 then some 8 else if 48 ≤ b ∧ b ≤ 55 then some (b - 48) else none
def sdB (b : Nat) : Option Nat := if 48 ≤ b ∧ b ≤ 55 then some (b - 48) else none
theorem dsB_le {b d : Nat} (h : dsB b = some d) : d ≤ 8 := by
  unfold dsB at h
  repeat' split at h
  all_goals first | (cases h; done) | (cases h; omega)
theorem sdB_lt {b d : Nat} (h : sdB b = some d) : d < 8 ∧ b = d + 48 := by
  unfold sdB at h
  split at h
  · cases h
    omega
  · cases h
def spr (tp : Nat → Nat) (N : Nat) : Nat → Nat → Nat → (Nat → Nat) → (Nat → Nat) → Int32 × Nat × (Nat → Nat) × (Nat → Nat)
  | 0, p, m, ds, sd => (flt 4 p, m, ds, sd)
  | f + 1, p, m, ds, sd => match (chN tp N p).bind dsB with
    | none => (flt 1 p, m, ds, sd)
    | some u => if 12 ≤ m then (flt 4 p, m, ds, sd) else match (chN tp N (p + 1)).bind sdB with
      | none => (flt 1 (p + 1), m, ds, sd)
      | some a => if p + 2 = N then (0, m + 1, fset ds m u, fset sd m a) else
        if chN tp N (p + 2) = some 44 then spr tp N f (p + 3) (m + 1) (fset ds m u) (fset sd m a) else (flt 1 (p + 2), m + 1, fset ds m u, fset sd m a)
def NGT (r1 r2 m : Nat) (ds sd : Nat → Nat) (σ : zSt) : Prop := ∀ j, j < m → σ.1 r1 j = nI (ds j) ∧ σ.1 r2 j = nI (sd j) ∧ ds j ≤ 8 ∧ sd j < 8
theorem NGT_s {r1 r2 m k d : Nat} {ds sd : Nat → Nat} {σ τ : zSt} (h : NGT r1 r2 m ds sd σ) (hk : k ≤ 8) (hd : d < 8) (a : τ.1 r1 = upd (σ.1 r1) m (nI k)) (b : τ.1 r2 = upd (σ.1 r2) m (nI d)) : NGT r1 r2 (m + 1) (fset ds m k) (fset sd m d) τ := by
  intro j hj
  rw [a, b]
  by_cases q : j = m
  · subst q
    rw [pk_us, pk_us, fset_s, fset_s]
    exact ⟨rfl, rfl, hk, hd⟩
  · rw [pk_un q, pk_un q, fset_n q, fset_n q]
    exact h j (by omega)
theorem NGT_fr {r1 r2 m : Nat} {kd dg : Nat → Nat} {σ τ : zSt} {L : List Nat} {S : List (Nat × Nat)} (h : NGT r1 r2 m kd dg σ) (f : fr L S σ τ) (h1 : (!L.contains r1 && S.all (fun q => q.1 != r1)) = true) (h2 : (!L.contains r2 && S.all (fun q => q.1 != r2)) = true) : NGT r1 r2 m kd dg τ := by
  intro j hj
  rw [f.row h1, f.row h2]
  exact h j hj
theorem T_sign {o : Option Nat} {σ : zSt} (ho : ∀ b, o = some b → b < 256) : F_X6_isPlaceSign (e1 o) σ = some (bI (o.bind sdB ≠ none), σ) := by
  unfold F_X6_isPlaceSign F_X6_isPlaceSign_0
  cases o with
  | none => rw [if_pos (show e1 none < 48 by decide), bI_f (fun r => r rfl)]
  | some b =>
    have hb := ho b rfl
    show (if nI b < (48 : Int32) then some ((0 : Int32), σ) else if (55 : Int32) < nI b then some ((0 : Int32), σ) else some ((1 : Int32), σ)) = some (bI (sdB b ≠ none), σ)
    rw [show (48 : Int32) = nI 48 from rfl, show (55 : Int32) = nI 55 from rfl, if_lt (by omega), if_lt (by omega)]
    unfold sdB
    by_cases q1 : b < 48
    · rw [if_pos q1, if_neg (show ¬ (48 ≤ b ∧ b ≤ 55) by omega), bI_f (fun r => r rfl)]
    · rw [if_neg q1]
      by_cases q2 : 55 < b
      · rw [if_pos q2, if_neg (show ¬ (48 ≤ b ∧ b ≤ 55) by omega), bI_f (fun r => r rfl)]
      · rw [if_neg q2, if_pos (show 48 ≤ b ∧ b ≤ 55 by omega), bI_t (fun r => by cases r)]
theorem T_inS {o : Option Nat} {σ : zSt} (ho : ∀ b, o = some b → b < 256) : F_X12_in (e1 o) 48 55 σ = some (bI (o.bind sdB ≠ none), σ) := by
  rw [T_in]
  refine congrArg (fun x => some (x, σ)) (bI_c ?_)
  have a : (48 : Int32).toInt = 48 := rfl
  have b : (55 : Int32).toInt = 55 := rfl
  rw [a, b]
  cases o with
  | none =>
    refine ⟨fun h => ?_, fun h => absurd rfl h⟩
    have : (e1 none).toInt = -1 := rfl
    omega
  | some c =>
    have hc := ho c rfl
    show (48 ≤ (nI c).toInt ∧ (nI c).toInt ≤ 55) ↔ sdB c ≠ none
    rw [i_nI (by omega)]
    unfold sdB
    by_cases q : 48 ≤ c ∧ c ≤ 55
    · rw [if_pos q]
      exact ⟨fun _ r => (by cases r), fun _ => (by omega)⟩
    · rw [if_neg q]
      exact ⟨fun r => absurd (by omega) q, fun r => absurd rfl r⟩
theorem sgn_v {o : Option Nat} {a : Nat} (h : o.bind sdB = some a) : e1 o - 48 = nI a ∧ a < 8 := by
  obtain ⟨b, rfl, h2⟩ := Option.bind_eq_some_iff.mp h
  obtain ⟨h3, h4⟩ := sdB_lt h2
  refine ⟨?_, h3⟩
  rw [h4, show e1 (some (a + 48)) = nI (a + 48) from rfl]
  exact pk_sub (b := 48) (by omega)
/-- what she dusted, by its sign -/
theorem dus_v {o : Option Nat} {u : Nat} (ho : ∀ b, o = some b → b < 256) (h : o.bind dsB = some u) : (if e1 o = 46 then (8 : Int32) else e1 o - 48) = nI u ∧ u ≤ 8 ∧ (o = some 46 ∨ o.bind sdB = some u) := by
  obtain ⟨b, rfl, h2⟩ := Option.bind_eq_some_iff.mp h
  have hb := ho b rfl
  refine ⟨?_, dsB_le h2, ?_⟩
  · rw [show (46 : Int32) = nI 46 from rfl, if_e1 (fun c hc => by have := ho c hc; omega) (by decide)]
    unfold dsB at h2
    by_cases q : b = 46
    · rw [if_pos (by rw [q])]
      rw [if_pos q] at h2
      cases h2
      rfl
    · rw [if_neg (fun r => q (Option.some.inj r))]
      rw [if_neg q] at h2
      exact (sgn_v (o := some b) (show sdB b = some u from h2)).1
  · unfold dsB at h2
    by_cases q : b = 46
    · exact Or.inl (by rw [q])
    · rw [if_neg q] at h2
      exact Or.inr h2
theorem dus_n {o : Option Nat} (h : o.bind dsB = none) : ¬ o = some 46 ∧ o.bind sdB = none := by
  cases o with
  | none => exact ⟨fun q => (by cases q), rfl⟩
  | some b =>
    replace h : dsB b = none := h
    unfold dsB at h
    by_cases q : b = 46
    · rw [if_pos q] at h
      cases h
    · rw [if_neg q] at h
      exact ⟨fun r => q (Option.some.inj r), h⟩
theorem T_readSC {tp : Nat → Nat} {N : Nat} : ∀ f fu p m ds sd (σ : zSt), m + f = 13 → f < fu → p ≤ 3 * m → m ≤ 12 → TX tp N σ → σ.1 57 5 = nI m → NGT 58 59 m ds sd σ → wp (zfix F_X6_read_9L fu (nI p, nI m, σ)) (fun a τ => a = (spr tp N f p m ds sd).1 ∧ fr [58, 59] [(57, 5)] σ τ ∧ τ.1 57 5 = nI (spr tp N f p m ds sd).2.1 ∧ (spr tp N f p m ds sd).2.1 ≤ 12 ∧ NGT 58 59 (spr tp N f p m ds sd).2.1 (spr tp N f p m ds sd).2.2.1 (spr tp N f p m ds sd).2.2.2 τ ∧ ((spr tp N f p m ds sd).1 = 0 → 1 ≤ (spr tp N f p m ds sd).2.1)) := by
  intro f
  induction f with
  | zero => intro fu p m ds sd σ hm hf hp h12; omega
  | succ f ih =>
    intro fu p m ds sd σ hm hf hp h12 hT e hA
    obtain ⟨fu, rfl⟩ : ∃ q, fu = q + 1 := ⟨fu - 1, by omega⟩
    show wp (F_X6_read_9 (zfix F_X6_read_9L fu) (nI p) (nI m) σ) _
    have hN := hT.1
    have bd1 := TX_b hT (i := p)
    have no0 : ∀ {k q : Nat}, k ≠ 0 → k < 6 → q < 300 → (flt k q = 0 → 1 ≤ m) := fun h1 h2 h3 h => absurd h (flt_n h1 h2 h3)
    have no1 : ∀ {k q : Nat}, k ≠ 0 → k < 6 → q < 300 → (flt k q = 0 → 1 ≤ m + 1) := fun h1 h2 h3 h => absurd h (flt_n h1 h2 h3)
    unfold F_X6_read_9 F_X6_read_37
    rw [if_neg (by rw [show (12 : Int32) = nI 12 from rfl, nI_ltp (by omega)]; omega), T_chr hT (by omega), bd_s, T_sign bd1, bd_s, show (46 : Int32) = nI 46 from rfl, if_e1 (fun b hb => by have := bd1 b hb; omega) (by decide)]
    unfold spr
    cases hk : (chN tp N p).bind dsB with
    | none =>
      obtain ⟨n1, n2⟩ := dus_n hk
      rw [if_neg n1, bI_f (fun r => r n2), if_pos (show (0 : Int32) = 0 from rfl), T_flt1, bd_s]
      exact wp_some ⟨rfl, fr.rf, e, h12, hA, no0 (by decide) (by decide) (by omega)⟩
    | some u =>
      obtain ⟨v1, v2, v3⟩ := dus_v bd1 hk
      have E : (if chN tp N p = some 46 then F_X6_read_43 (zfix F_X6_read_9L fu) (nI p) (nI m) (e1 (chN tp N p)) σ else if bI ((chN tp N p).bind sdB ≠ none) = 0 then bd (F_X11_fault 1 (nI p) σ) (fun q45 s44 => some (q45, s44)) else F_X6_read_43 (zfix F_X6_read_9L fu) (nI p) (nI m) (e1 (chN tp N p)) σ) = F_X6_read_43 (zfix F_X6_read_9L fu) (nI p) (nI m) (e1 (chN tp N p)) σ := by
        by_cases q : chN tp N p = some 46
        · rw [if_pos q]
        · rw [if_neg q, bI_t (show (chN tp N p).bind sdB ≠ none from fun r => by rw [v3.resolve_left q] at r; cases r), if_neg (show ¬ (1 : Int32) = 0 by decide)]
      rw [E]
      unfold F_X6_read_43 F_X6_read_52 F_X6_read_75 F_X6_read_156
      rw [e, show (12 : Int32) = nI 12 from rfl, if_lt (by omega)]
      by_cases q12 : 12 ≤ m
      · rw [if_neg (by omega), T_flt4, bd_s]
        simp only [q12, ↓reduceIte]
        exact wp_some ⟨rfl, fr.rf, e, h12, hA, no0 (by decide) (by decide) (by omega)⟩
      rw [if_pos (by omega), show nI p + (1 : Int32) = nI (p + 1) from nI_add p 1, T_chr hT (by omega), bd_s, T_sign (TX_b hT), bd_s, v1]
      simp only [q12, ↓reduceIte]
      cases hd : (chN tp N (p + 1)).bind sdB with
      | none =>
        rw [bI_f (fun r => r rfl), if_pos (show (0 : Int32) = 0 from rfl), T_flt1, bd_s]
        exact wp_some ⟨rfl, fr.rf, e, h12, hA, no0 (by decide) (by decide) (by omega)⟩
      | some a =>
        obtain ⟨s1, s2⟩ := sgn_v hd
        have hp1 : p + 1 < N := by
          obtain ⟨b, hb, hb2⟩ := Option.bind_eq_some_iff.mp hd
          exact (chN_lt (fun j hj => (hT.2.2 j hj).1) hb).2
        rw [bI_t (fun r => by cases r), if_neg (show ¬ (1 : Int32) = 0 by decide), s1]
        simp (disch := omega) only [e, gd_n, nI_cl, nm_s, zwr_r, upd_r, Nat.reduceEqDiff, ↓reduceIte, nI_1, show ∀ x : Nat, nI x + (2 : Int32) = nI (x + 2) from fun x => nI_add x 2, hT.2.1]
        have f1 : fr [58, 59] [(57, 5)] σ (zwr (zwr (zwr σ 58 m (nI u)) 59 m (nI a)) 57 5 (nI (m + 1))) := (((fr_w (Or.inl (by decide))).w (Or.inl (by decide))).w (Or.inr (by decide)))
        have A1 : NGT 58 59 (m + 1) (fset ds m u) (fset sd m a) (zwr (zwr (zwr σ 58 m (nI u)) 59 m (nI a)) 57 5 (nI (m + 1))) := NGT_s hA v2 s2 rfl rfl
        rw [if_eqI (by omega)]
        by_cases qN : p + 2 = N
        · rw [if_pos qN, if_pos qN]
          exact wp_some ⟨rfl, f1, zwr_at, by show m + 1 ≤ 12; omega, A1, fun _ => Nat.succ_le_succ (Nat.zero_le m)⟩
        rw [if_neg qN, if_neg qN, T_chr (TX_fr hT f1 (by decide)) (by omega), bd_s, show (44 : Int32) = nI 44 from rfl, if_e1 (fun b hb => by have := TX_b hT b hb; omega) (by decide)]
        by_cases qc : chN tp N (p + 2) = some 44
        · rw [if_pos qc, if_pos qc]
          refine wp_mono (ih fu (p + 2 + 1) (m + 1) (fset ds m u) (fset sd m a) _ (by omega) (by omega) (by omega) (by omega) (TX_fr hT f1 (by decide)) zwr_at A1) (fun a τ h => ?_)
          obtain ⟨a1, a2, a3⟩ := h
          exact ⟨a1, f1.tr a2, a3⟩
        · rw [if_neg qc, if_neg qc, T_flt1, bd_s]
          exact wp_some ⟨rfl, f1, zwr_at, by show m + 1 ≤ 12; omega, A1, no1 (by decide) (by decide) (by omega)⟩
theorem T_readsNight {tp : Nat → Nat} {N p m : Nat} {σ : zSt} (h : TXm tp N σ) (e15 : σ.1 69 15 = nI p) (hp : p < 1000) (e54 : σ.1 69 54 = nI m) (hm : m ≤ 12) : F_X12_readsNight σ = match (chN tp N p).bind dsB with
    | none => some (0, zwr σ 69 17 (flt 1 p))
    | some u => if 12 ≤ m then some (0, zwr σ 69 17 (flt 4 p)) else match (chN tp N (p + 1)).bind sdB with
      | none => some (0, zwr (zwr (zwr σ 99 m (nI u)) 69 15 (nI (p + 1))) 69 17 (flt 1 (p + 1)))
      | some a => some (1, zwr (zwr (zwr (zwr (zwr σ 99 m (nI u)) 69 15 (nI (p + 1))) 100 m (nI a)) 69 15 (nI (p + 2))) 69 54 (nI (m + 1))) := by
  have bd1 := TXm_b h (i := p)
  unfold F_X12_readsNight F_X12_readsNight_0
  rw [T_here h e15 (by omega), bd_s, T_inS bd1, bd_s, e15]
  cases hk : (chN tp N p).bind dsB with
  | none =>
    obtain ⟨n1, n2⟩ := dus_n hk
    rw [bI_f (fun r => r n2), if_pos (show (0 : Int32) = 0 from rfl), show (46 : Int32) = nI 46 from rfl, if_e1 (fun b hb => by have := bd1 b hb; omega) (by decide), if_neg n1, T_wrong1, bd_s, g01_0]
  | some u =>
    obtain ⟨v1, v2, v3⟩ := dus_v bd1 hk
    have E : ∀ y : Option (Int32 × zSt), (if bI ((chN tp N p).bind sdB ≠ none) = 0 then (if e1 (chN tp N p) = 46 then F_X12_readsNight_32 (e1 (chN tp N p)) σ else y) else F_X12_readsNight_32 (e1 (chN tp N p)) σ) = F_X12_readsNight_32 (e1 (chN tp N p)) σ := by
      intro y
      by_cases q : (chN tp N p).bind sdB = none
      · have q2 : chN tp N p = some 46 := by
          rcases v3 with z | z
          · exact z
          · rw [z] at q
            cases q
        rw [bI_f (fun r => r q), if_pos (show (0 : Int32) = 0 from rfl), show (46 : Int32) = nI 46 from rfl, if_e1 (fun b hb => by have := bd1 b hb; omega) (by decide), if_pos q2]
      · rw [bI_t q, if_neg (show ¬ (1 : Int32) = 0 by decide)]
    rw [E]
    unfold F_X12_readsNight_32
    rw [e54, show (12 : Int32) = nI 12 from rfl, if_eqI (by omega)]
    by_cases q12 : 12 ≤ m
    · rw [if_pos (by omega), e15, T_wrong4, bd_s, g01_0]
      simp only [q12, ↓reduceIte]
    rw [if_neg (by omega), v1, nm_s, gd_n (by omega), nI_cl (by omega), nm_s, zwr_ne (c := 99) (d := 69) (Or.inl (by decide)), e15, nI_1, nm_s]
    simp only [q12, ↓reduceIte]
    have f1 : fr [99] [(69, 15)] σ (zwr (zwr σ 99 m (nI u)) 69 15 (nI (p + 1))) := (fr_w (Or.inl (by decide))).w (Or.inr (by decide))
    have h1 := TXm_fr h f1 (by decide)
    have s15 : (zwr (zwr σ 99 m (nI u)) 69 15 (nI (p + 1))).1 69 15 = nI (p + 1) := zwr_at
    rw [T_here h1 s15 (by omega), bd_s, T_inS (TXm_b h1), bd_s]
    cases hd : (chN tp N (p + 1)).bind sdB with
    | none =>
      rw [bI_f (fun r => r rfl), if_pos (show (0 : Int32) = 0 from rfl), s15, T_wrong1, bd_s, g01_0]
    | some a =>
      obtain ⟨s1, s2⟩ := sgn_v hd
      rw [bI_t (fun r => by cases r), if_neg (show ¬ (1 : Int32) = 0 by decide), T_here h1 s15 (by omega), bd_s, s1]
      simp (disch := omega) only [zwr_r, upd_r, Nat.reduceEqDiff, ↓reduceIte, nm_s, e54, gd_n, nI_cl, nI_1]
/-- the rest of the reading, behind the first night -/
def RSM (cs : Nat) (res : Int32 × Nat × (Nat → Nat) × (Nat → Nat)) (g : Int32) (σ τ : zSt) : Prop := fr [99, 100] [(69, 15), (69, 17), (69, cs)] σ τ ∧ ((res.1 = 0 ∧ g = 1 ∧ τ.1 69 cs = nI res.2.1 ∧ NGT 99 100 res.2.1 res.2.2.1 res.2.2.2 τ) ∨ (¬ res.1 = 0 ∧ g = 0 ∧ τ.1 69 17 = res.1))
theorem RSM_no {m : Nat} {v : Int32} {ds sd : Nat → Nat} {σ τ : zSt} (hv : ¬ v = 0) (f : fr [99, 100] [(69, 15), (69, 17), (69, 54)] σ τ) : RSM 54 (v, m, ds, sd) 0 σ (zwr τ 69 17 v) := ⟨f.w (Or.inr (by decide)), Or.inr ⟨hv, rfl, zwr_at⟩⟩
theorem RSM_yes {m : Nat} {ds sd : Nat → Nat} {σ τ : zSt} (f : fr [99, 100] [(69, 15), (69, 17), (69, 54)] σ τ) (e : τ.1 69 54 = nI m) (hA : NGT 99 100 m ds sd τ) : RSM 54 (0, m, ds, sd) 1 σ τ := ⟨f, Or.inl ⟨rfl, rfl, e, hA⟩⟩
theorem RSM_tr {cs : Nat} {res : Int32 × Nat × (Nat → Nat) × (Nat → Nat)} {g : Int32} {σ τ υ : zSt} (f : fr [99, 100] [(69, 15), (69, 17), (69, cs)] σ τ) (h : RSM cs res g τ υ) : RSM cs res g σ υ := ⟨f.tr h.1, h.2⟩
theorem T_readSM {tp : Nat → Nat} {N : Nat} : ∀ f fu p m ds sd (σ : zSt), m + f = 13 → f < fu → p ≤ 3 * m → m ≤ 12 → TXm tp N σ → σ.1 69 15 = nI p → σ.1 69 54 = nI m → NGT 99 100 m ds sd σ → ∃ g τ, bd (F_X12_readsNight σ) (fun q s => zfix F_X12_readsStory_20L fu (q, s)) = F_X12_readsStory_60 g τ ∧ RSM 54 (spr tp N f p m ds sd) g σ τ := by
  intro f
  induction f with
  | zero => intro fu p m ds sd σ hm hf hp hm32; omega
  | succ f ih =>
    intro fu p m ds sd σ hm hf hp hm32 hT e15 e54 hA
    obtain ⟨fu, rfl⟩ : ∃ q, fu = q + 1 := ⟨fu - 1, by omega⟩
    have hN := hT.1
    have stop : ∀ (v : Int32) (τ : zSt), bd (some ((0 : Int32), zwr τ 69 17 v)) (fun q s => zfix F_X12_readsStory_20L (fu + 1) (q, s)) = F_X12_readsStory_60 0 (zwr τ 69 17 v) := by
      intro v τ
      rw [bd_s]
      show F_X12_readsStory_20 (zfix F_X12_readsStory_20L fu) 0 (zwr τ 69 17 v) = _
      unfold F_X12_readsStory_20
      rw [if_pos rfl]
    rw [T_readsNight hT e15 (by omega) e54 hm32]
    unfold spr
    cases hk : (chN tp N p).bind dsB with
    | none =>
      exact ⟨0, _, stop _ _, RSM_no (flt_n (by decide) (by decide) (by omega)) fr.rf⟩
    | some u =>
      have hu : u ≤ 8 := by
        obtain ⟨b, hb, hb2⟩ := Option.bind_eq_some_iff.mp hk
        exact dsB_le hb2
      by_cases q12 : 12 ≤ m
      · simp only [q12, ↓reduceIte]
        exact ⟨0, _, stop _ _, RSM_no (flt_n (by decide) (by decide) (by omega)) fr.rf⟩
      simp only [q12, ↓reduceIte]
      cases hd : (chN tp N (p + 1)).bind sdB with
      | none =>
        exact ⟨0, _, stop _ _, RSM_no (flt_n (by decide) (by decide) (by omega)) ((fr_w (Or.inl (by decide))).w (Or.inr (by decide)))⟩
      | some a =>
        have ha : a < 8 := (sgn_v hd).2
        have hp1 : p + 1 < N := by
          obtain ⟨b, hb, hb2⟩ := Option.bind_eq_some_iff.mp hd
          exact (chN_lt (fun j hj => (hT.2.2 j hj).1) hb).2
        have f1 : fr [99, 100] [(69, 15), (69, 17), (69, 54)] σ (zwr (zwr (zwr (zwr (zwr σ 99 m (nI u)) 69 15 (nI (p + 1))) 100 m (nI a)) 69 15 (nI (p + 2))) 69 54 (nI (m + 1))) := ((((fr_w (Or.inl (by decide))).w (Or.inr (by decide))).w (Or.inl (by decide))).w (Or.inr (by decide))).w (Or.inr (by decide))
        have A1 : NGT 99 100 (m + 1) (fset ds m u) (fset sd m a) (zwr (zwr (zwr (zwr (zwr σ 99 m (nI u)) 69 15 (nI (p + 1))) 100 m (nI a)) 69 15 (nI (p + 2))) 69 54 (nI (m + 1))) := NGT_s hA hu ha rfl rfl
        have t15 : (zwr (zwr (zwr (zwr (zwr σ 99 m (nI u)) 69 15 (nI (p + 1))) 100 m (nI a)) 69 15 (nI (p + 2))) 69 54 (nI (m + 1))).1 69 15 = nI (p + 2) := by rw [zwr_ne (Or.inr (by decide)), zwr_at]
        have t54 : (zwr (zwr (zwr (zwr (zwr σ 99 m (nI u)) 69 15 (nI (p + 1))) 100 m (nI a)) 69 15 (nI (p + 2))) 69 54 (nI (m + 1))).1 69 54 = nI (m + 1) := zwr_at
        show ∃ g τ, bd (some (1, zwr (zwr (zwr (zwr (zwr σ 99 m (nI u)) 69 15 (nI (p + 1))) 100 m (nI a)) 69 15 (nI (p + 2))) 69 54 (nI (m + 1)))) _ = _ ∧ _
        generalize zwr (zwr (zwr (zwr (zwr σ 99 m (nI u)) 69 15 (nI (p + 1))) 100 m (nI a)) 69 15 (nI (p + 2))) 69 54 (nI (m + 1)) = τ at f1 A1 t15 t54 ⊢
        have hT1 := TXm_fr hT f1 (by decide)
        rw [bd_s]
        show ∃ g υ, F_X12_readsStory_20 (zfix F_X12_readsStory_20L fu) 1 τ = _ ∧ _
        unfold F_X12_readsStory_20 F_X12_readsStory_55 F_X12_readsStory_56
        rw [if_neg (show ¬ (1 : Int32) = 0 by decide), t15, hT1.2.1, if_le (by omega)]
        by_cases qN : p + 2 = N
        · rw [if_pos (by omega)]
          simp only [qN, ↓reduceIte]
          exact ⟨1, τ, rfl, RSM_yes f1 t54 A1⟩
        rw [if_neg (by omega), show (44 : Int32) = nI 44 from rfl, T_takes hT1 t15 (by omega) (by decide)]
        simp only [qN, ↓reduceIte]
        by_cases qc : chN tp N (p + 2) = some 44
        · simp only [qc, ↓reduceIte]
          rw [bd_s, if_neg (show ¬ (1 : Int32) = 0 by decide)]
          have f2 : fr [99, 100] [(69, 15), (69, 17), (69, 54)] τ (zwr τ 69 15 (nI (p + 2 + 1))) := fr_w (Or.inr (by decide))
          have A2 : NGT 99 100 (m + 1) (fset ds m u) (fset sd m a) (zwr τ 69 15 (nI (p + 2 + 1))) := by
            intro j hj
            rw [zwr_n (by decide), zwr_n (by decide)]
            exact A1 j hj
          have hA3 : (zwr τ 69 15 (nI (p + 2 + 1))).1 69 54 = nI (m + 1) := (zwr_ne (Or.inr (by decide))).trans t54
          have hT2 := TXm_fr hT1 f2 (by decide)
          have h15 : (zwr τ 69 15 (nI (p + 2 + 1))).1 69 15 = nI (p + 3) := zwr_at
          obtain ⟨g, υ, u1, u2⟩ := ih fu (p + 3) (m + 1) (fset ds m u) (fset sd m a) _ (by omega) (by omega) (by omega) (by omega) hT2 h15 hA3 A2
          refine ⟨g, υ, ?_, RSM_tr (f1.tr f2) u2⟩
          rw [← u1]
          obtain ⟨r, s, e, hr⟩ : ∃ r s, F_X12_readsNight (zwr τ 69 15 (nI (p + 2 + 1))) = some (r, s) ∧ (r = 0 ∨ r = 1) := by
            rw [T_readsNight hT2 h15 (by omega) hA3 (by omega)]
            cases (chN tp N (p + 3)).bind dsB with
            | none => exact ⟨_, _, rfl, Or.inl rfl⟩
            | some k2 =>
              simp only
              split
              · exact ⟨_, _, rfl, Or.inl rfl⟩
              · cases (chN tp N (p + 3 + 1)).bind sdB with
                | none => exact ⟨_, _, rfl, Or.inl rfl⟩
                | some d2 => exact ⟨_, _, rfl, Or.inr rfl⟩
          rw [e, bd_s, bd_s, q01 hr, nm_s]
        · simp only [qc, ↓reduceIte]
          rw [bd_s, if_pos (show (0 : Int32) = 0 from rfl)]
          obtain ⟨fu, rfl⟩ : ∃ q, fu = q + 1 := ⟨fu - 1, by omega⟩
          refine ⟨0, zwr τ 69 17 (flt 1 (p + 2)), ?_, RSM_no (flt_n (by decide) (by decide) (by omega)) f1⟩
          show F_X12_readsStory_20 (zfix F_X12_readsStory_20L fu) 0 (zwr τ 69 17 (flt 1 (p + 2))) = _
          unfold F_X12_readsStory_20
          rw [if_pos (show (0 : Int32) = 0 from rfl)]
theorem T_readsStory {tp : Nat → Nat} {N : Nat} {σ : zSt} (hN : N ≤ 60) (hT : ∀ j, j < N → tp j < 256 ∧ σ.1 76 j = sb (tp j)) {res : Int32 × Nat × (Nat → Nat) × (Nat → Nat)} (hres : spr tp N 13 0 0 (fun _ => 0) (fun _ => 0) = res) : wp (F_X12_readsStory (nI N) σ) (fun a τ => fr [99, 100] [(69, 14), (69, 15), (69, 16), (69, 17), (69, 54)] σ τ ∧ τ.1 69 14 = 0 ∧ ((res.1 = 0 ∧ a = 1 ∧ τ.1 69 54 = nI res.2.1 ∧ NGT 99 100 res.2.1 res.2.2.1 res.2.2.2 τ) ∨ (¬ res.1 = 0 ∧ a = 0 ∧ τ.1 69 17 = res.1))) := by
  unfold F_X12_readsStory F_X12_readsStory_0
  refine wp_let (fun a ha => ?_)
  refine wp_let (fun b hb => ?_)
  refine wp_let (fun c hc => ?_)
  have fc : fr [99, 100] [(69, 14), (69, 15), (69, 16), (69, 17), (69, 54)] σ c := by
    rw [hc, hb, ha]
    exact ((fr_w (Or.inr (by decide))).w (Or.inr (by decide))).w (Or.inr (by decide))
  have T1 : TXm tp N c := by
    refine ⟨by omega, ?_, fun j hj => ⟨(hT j hj).1, ?_⟩⟩
    · rw [hc, zwr_ne (Or.inr (by decide)), hb, zwr_at]
    · rw [fc.row (c := 76) (by decide)]
      exact (hT j hj).2
  have c15 : c.1 69 15 = nI 0 := by
    rw [hc, zwr_ne (Or.inr (by decide)), hb, zwr_ne (Or.inr (by decide)), ha, zwr_at]
    rfl
  have c54 : c.1 69 54 = nI 0 := by
    rw [hc, zwr_at]
    rfl
  obtain ⟨g, υ, u1, u2⟩ := T_readSM (tp := tp) (N := N) 13 zlim 0 0 (fun _ => 0) (fun _ => 0) c rfl (by show 13 < 1000000; decide) (by decide) (by decide) T1 c15 c54 (fun j hj => absurd hj (Nat.not_lt_zero j))
  rw [u1]
  rw [hres] at u2
  obtain ⟨v1, v5⟩ := u2
  unfold F_X12_readsStory_60
  refine wp_let (fun d hd => ?_)
  have fd : fr [99, 100] [(69, 14), (69, 15), (69, 16), (69, 17), (69, 54)] σ d := by
    rw [hd]
    exact (fc.tr (v1.mono (by decide))).w (Or.inr (by decide))
  have d14 : d.1 69 14 = 0 := by rw [hd, zwr_at]
  rcases v5 with ⟨q, rfl, v2, v4⟩ | ⟨q, rfl, v6⟩
  · rw [gd_t (Or.inr rfl)]
    refine wp_some ⟨fd, d14, Or.inl ⟨q, rfl, ?_, ?_⟩⟩
    · rw [hd, zwr_ne (Or.inr (by decide)), v2]
    · intro j hj
      rw [hd, zwr_n (by decide), zwr_n (by decide)]
      exact v4 j hj
  · rw [gd_t (Or.inl rfl)]
    refine wp_some ⟨fd, d14, Or.inr ⟨q, rfl, ?_⟩⟩
    rw [hd, zwr_ne (Or.inr (by decide)), v6]
