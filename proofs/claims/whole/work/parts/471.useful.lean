/-! PURE: the planner finds what is useful -/
theorem T_lockOf {W : zWo} {σ : zSt} (h : SK W σ) {p : Nat} (hp : p < 8) : F_X5_lockOf (nI p) σ = some (e1 (wLok W p), σ) := by
  unfold F_X5_lockOf F_X5_lockOf_0
  rw [T_isBelow_8, bd_s, bI_t (p := bel (nI p) 8) (bel_t (by omega)), if_neg (show ¬ (1 : Int32) = 0 by decide), gd_n (by omega), nI_cl (by omega), h.2.2.2.2.2.2.1 p hp]
theorem T_aroundOf {W : zWo} {σ : zSt} (h : SK W σ) {p : Nat} (hp : p < 8) : F_X5_aroundOf (nI p) σ = some (nI (ancs W p), σ) := by
  unfold F_X5_aroundOf F_X5_aroundOf_0
  rw [T_isBelow_8, bd_s, bI_t (p := bel (nI p) 8) (bel_t (by omega)), if_neg (show ¬ (1 : Int32) = 0 by decide), gd_n (by omega), nI_cl (by omega), h.2.2.1 p hp]
theorem bel_neg1 {n : Nat} : ¬ bel (-1) n := fun h => absurd h.1 (by decide)
theorem T_whereIs {W : zWo} {σ : zSt} (h : SK W σ) {o : Option Nat} (ho : ∀ k, o = some k → k < 8) : F_X5_whereIs (e1 o) σ = some (e1 (o.bind (wKey W)), σ) := by
  unfold F_X5_whereIs F_X5_whereIs_0
  cases o with
  | none =>
    rw [T_isBelow_8, bd_s, bI_f (p := bel (e1 none) 8) bel_neg1, if_pos rfl]
    rfl
  | some k =>
    have hk := ho k rfl
    rw [T_isBelow_8, bd_s, show e1 (some k) = nI k from rfl, bI_t (p := bel (nI k) 8) (bel_t (by omega)), if_neg (show ¬ (1 : Int32) = 0 by decide), gd_n (by omega), nI_cl (by omega), h.2.2.2.1 k hk]
    rfl
theorem oB_v {o : Option Nat} (ho : ∀ k, o = some k → k < 8) : (if e1 o = -1 then (0 : Int32) else (1 : Int32) <<< (e1 o &&& 31)) = nI (oB o) := by
  cases o with
  | none => rfl
  | some k =>
    have hk := ho k rfl
    rw [show e1 (some k) = nI k from rfl, if_neg (e1_n (by omega)), bit_1 k hk]
    rfl
theorem oB8_v {o : Option Nat} (ho : ∀ k, o = some k → k < 16) : (if bI (bel (e1 o) 8) = 0 then (0 : Int32) else (1 : Int32) <<< (e1 o &&& 31)) = nI (oB8 o) := by
  cases o with
  | none =>
    rw [bI_f (p := bel (e1 none) 8) bel_neg1, if_pos rfl]
    rfl
  | some k =>
    have hk := ho k rfl
    show (if bI (bel (nI k) 8) = 0 then (0 : Int32) else (1 : Int32) <<< (nI k &&& 31)) = nI (if k < 8 then 2 ^ k else 0)
    by_cases q : k < 8
    · rw [bI_t (p := bel (nI k) 8) (bel_t (by omega)), if_neg (show ¬ (1 : Int32) = 0 by decide), bit_1 k q, if_pos q]
    · rw [bI_f (p := bel (nI k) 8) (fun z => q ((bel_nI (by omega)).mp z)), if_pos rfl, if_neg q]
      rfl
theorem T_use23 {W : zWo} (hW : WOK W) {σ : zSt} (hS : SK W σ) {u : Nat × Nat} {p : Nat} (hp : p < 8) (hu : u.1 < 256 ∧ u.2 < 256) (e6 : σ.1 47 6 = nI u.1) {w1 w2 : (Int32 × Int32 × zSt) → Option (Unit × zSt)} {x2 : Int32} {Q : Unit → zSt → Prop} (g : ∀ τ, fr [52] [(47, 6)] σ τ → τ.1 47 6 = nI (us1 W u p).1 → wp (w2 (nI (us1 W u p).2, nI (p + 1), τ)) Q) : wp (F_X4_findUseful_23 w1 x2 w2 (nI u.2) (nI p) σ) Q := by
  have lk8 : ∀ k, lkP W u.1 p = some k → k < 8 := fun k e => lk_8 hW hp e
  have k16 : ∀ k, (lkP W u.1 p).bind (wKey W) = some k → k < 16 := by
    intro k e
    cases l : lkP W u.1 p with
    | none => rw [l] at e; cases e
    | some j =>
      rw [l, Option.bind_some] at e
      rcases key11 hW (lk8 j l) e with z | z <;> omega
  have A : usA W u.1 p < 256 := or_lt hu.1 oB8_lt
  have core : wp (F_X4_findUseful_53 w1 w2 (nI u.2) x2 (nI p) (e1 (lkP W u.1 p)) σ) Q := by
    unfold F_X4_findUseful_53 F_X4_findUseful_139
    rw [T_whereIs hS lk8, bd_s, oB_v lk8, nm_s, nI_or, nm_s, T_isBelow_8, bd_s, oB8_v k16, nm_s, e6, nI_or, nm_s, zwr_at]
    have f1 : fr [52] [(47, 6)] σ (zwr σ 47 6 (nI (u.1 ||| oB8 ((lkP W u.1 p).bind (wKey W))))) := fr_w (Or.inr (by decide))
    have hS1 := SK_fr hS f1 (by decide)
    have e1' : (zwr σ 47 6 (nI (u.1 ||| oB8 ((lkP W u.1 p).bind (wKey W))))).1 47 6 = nI (usA W u.1 p) := zwr_at
    rw [show u.1 ||| oB8 ((lkP W u.1 p).bind (wKey W)) = usA W u.1 p from rfl] at f1 hS1 e1' ⊢
    generalize zwr σ 47 6 (nI (usA W u.1 p)) = τ at f1 hS1 e1' ⊢
    by_cases c : (usA W u.1 p).testBit p = true
    · rw [if_pos ((bit_is A hp).mpr c), T_aroundOf hS1 hp, bd_s, nI_or, nm_s, nm_s, nI_1]
      refine g _ (f1.w (Or.inr (by decide))) ?_
      rw [zwr_at]
      show _ = nI (usA W u.1 p ||| (if (usA W u.1 p).testBit p = true then ancs W p else 0))
      rw [if_pos c]
    · rw [if_neg (fun z => c ((bit_is A hp).mp z)), show (0 : Int32) = nI 0 from rfl, nI_or, nm_s, nm_s, nI_1]
      refine g _ (f1.w (Or.inr (by decide))) ?_
      rw [zwr_at]
      show _ = nI (usA W u.1 p ||| (if (usA W u.1 p).testBit p = true then ancs W p else 0))
      rw [if_neg c]
  unfold F_X4_findUseful_23
  rw [if_neg (by rw [show (8 : Int32) = nI 8 from rfl, nI_lep (by omega)]; omega), e6]
  by_cases c : u.1.testBit p = true
  · rw [if_pos ((bit_is hu.1 hp).mpr c), T_lockOf hS hp, bd_s, ← lkP_t (W := W) c]
    exact core
  · rw [if_neg (fun z => c ((bit_is hu.1 hp).mp z)), show (-1 : Int32) = e1 (lkP W u.1 p) by rw [show lkP W u.1 p = none from if_neg c]; rfl]
    exact core
/-- what the planner knows before it goes -/
def PU (W : zWo) (σ : zSt) : Prop := σ.1 47 6 = nI (useW W) ∧ ∀ l, l < 6 → σ.1 52 l = nI (hlpW W l)
theorem T_useful {W : zWo} (hW : WOK W) {σ : zSt} (hS : SK W σ) : wp (F_X4_findUseful σ) (fun _ τ => fr [52] [(47, 6)] σ τ ∧ PU W τ) := by
  obtain ⟨uU, uL⟩ := use_lt hW
  have lt := usn_lt hW (u := (golW W, 0)) ⟨golW_lt hW, (by decide : (0 : Nat) < 256)⟩
  unfold F_X4_findUseful F_X4_findUseful_0
  rw [show F_X5_goalPlaces σ = some (σ.1 17 6, σ) from rfl, bd_s, hS.2.2.2.2.2.1, nm_s]
  refine wp_for (fun r s => s.1 = nI (usn W (golW W, 0) r).2 ∧ s.2.1 = nI r ∧ fr [52] [(47, 6)] σ s.2.2 ∧ s.2.2.1 47 6 = nI (usn W (golW W, 0) r).1) 8 (by decide) (fun r w s hr hI hw => ?_) (fun w s hI => ?_) ⟨rfl, rfl, fr_w (Or.inr (by decide)), zwr_at⟩
  · obtain ⟨x1, x2, τ⟩ := s
    obtain ⟨i1, i2, i3, i4⟩ := hI
    simp only at i1 i2 i3 i4
    subst i1 i2
    show wp (F_X4_findUseful_15 w _ (nI r) τ) _
    unfold F_X4_findUseful_15
    rw [if_neg (by rw [show (8 : Int32) = nI 8 from rfl, nI_lep (by omega)]; omega)]
    refine wp_for (fun p s => s.1 = nI (usr W (usn W (golW W, 0) r) p).2 ∧ s.2.1 = nI p ∧ fr [52] [(47, 6)] σ s.2.2 ∧ s.2.2.1 47 6 = nI (usr W (usn W (golW W, 0) r) p).1) 8 (by decide) (fun p w2 s hp hI hw2 => ?_) (fun w2 s hI => ?_) ⟨rfl, rfl, i3, i4⟩
    · obtain ⟨y1, y2, υ⟩ := s
      obtain ⟨j1, j2, j3, j4⟩ := hI
      simp only at j1 j2 j3 j4
      subst j1 j2
      exact T_use23 hW (SK_fr hS j3 (by decide)) hp (usr_lt hW (lt r) p (by omega)) j4 (fun τ' f e => hw2 _ ⟨rfl, rfl, j3.tr f, e⟩)
    · obtain ⟨y1, y2, υ⟩ := s
      obtain ⟨j1, j2, j3, j4⟩ := hI
      simp only at j1 j2 j3 j4
      subst j1 j2
      show wp (F_X4_findUseful_23 w _ w2 _ (nI 8) υ) _
      unfold F_X4_findUseful_23 F_X4_findUseful_149
      rw [if_pos (show (8 : Int32) ≤ nI 8 by decide), nm_s, nI_1]
      exact hw _ ⟨rfl, rfl, j3, j4⟩
  · obtain ⟨x1, x2, τ⟩ := s
    obtain ⟨i1, i2, i3, i4⟩ := hI
    simp only at i1 i2 i3 i4
    subst i1 i2
    show wp (F_X4_findUseful_15 w (nI (lksW W)) (nI 8) τ) _
    replace i4 : τ.1 47 6 = nI (useW W) := i4
    unfold F_X4_findUseful_15 F_X4_findUseful_155
    rw [if_pos (show (8 : Int32) ≤ nI 8 by decide)]
    refine wp_let (fun a ha => ?_)
    refine wp_let (fun b hb => ?_)
    refine wp_let (fun c hc => ?_)
    refine wp_let (fun d hd => ?_)
    refine wp_let (fun e he => ?_)
    refine wp_let (fun f hf => ?_)
    have b6 : b.1 47 6 = nI (useW W) := by rw [hb, zwr_n (by decide), ha, zwr_n (by decide), i4]
    have c6 : c.1 47 6 = nI (useW W) := by rw [hc, zwr_n (by decide), b6]
    have d6 : d.1 47 6 = nI (useW W) := by rw [hd, zwr_n (by decide), c6]
    have f6 : f.1 47 6 = nI (useW W) := by rw [hf, zwr_n (by decide), he, zwr_n (by decide), d6]
    have q5 : f.1 52 5 = nI (bset (fun b => decide (keysW W (8 + b) &&& lksW W ≠ 0)) 0) := by
      rw [hf, zwr_at]
      rfl
    have q4 : f.1 52 4 = nI (useW W) := by rw [hf, zwr_ne (Or.inr (by decide)), he, zwr_at, d6]
    have q3 : f.1 52 3 = nI (useW W) := by rw [hf, zwr_ne (Or.inr (by decide)), he, zwr_ne (Or.inr (by decide)), hd, zwr_at, c6]
    have q2 : f.1 52 2 = nI (useW W) := by rw [hf, zwr_ne (Or.inr (by decide)), he, zwr_ne (Or.inr (by decide)), hd, zwr_ne (Or.inr (by decide)), hc, zwr_at, b6]
    have q1 : f.1 52 1 = 15 := by rw [hf, zwr_ne (Or.inr (by decide)), he, zwr_ne (Or.inr (by decide)), hd, zwr_ne (Or.inr (by decide)), hc, zwr_ne (Or.inr (by decide)), hb, zwr_at]
    have q0 : f.1 52 0 = 15 := by rw [hf, zwr_ne (Or.inr (by decide)), he, zwr_ne (Or.inr (by decide)), hd, zwr_ne (Or.inr (by decide)), hc, zwr_ne (Or.inr (by decide)), hb, zwr_ne (Or.inr (by decide)), ha, zwr_at]
    have ff : fr [52] [(47, 6)] σ f := by
      rw [hf, he, hd, hc, hb, ha]
      exact (((((i3.w (Or.inl (by decide))).w (Or.inl (by decide))).w (Or.inl (by decide))).w (Or.inl (by decide))).w (Or.inl (by decide))).w (Or.inl (by decide))
    refine wp_for (fun k s => s.1 = nI k ∧ fr [52] [(47, 6)] σ s.2 ∧ s.2.1 47 6 = nI (useW W) ∧ s.2.1 52 5 = nI (bset (fun b => decide (keysW W (8 + b) &&& lksW W ≠ 0)) k) ∧ s.2.1 52 4 = nI (useW W) ∧ s.2.1 52 3 = nI (useW W) ∧ s.2.1 52 2 = nI (useW W) ∧ s.2.1 52 1 = 15 ∧ s.2.1 52 0 = 15) 3 (by decide) (fun k w s hk hI hw => ?_) (fun w s hI => ?_) ⟨rfl, ff, f6, q5, q4, q3, q2, q1, q0⟩
    · obtain ⟨x, υ⟩ := s
      obtain ⟨j1, j2, j3, j4, j5, j6, j7, j8, j9⟩ := hI
      simp only at j1 j2 j3 j4 j5 j6 j7 j8 j9
      subst j1
      have hSυ := SK_fr hS j2 (by decide)
      have hb3 : bel (nI k) 3 := bel_t (by omega)
      have EM3 : F_X5_mouthOf (nI k) υ = some (nI (keysW W (8 + k)), υ) := by
        unfold F_X5_mouthOf F_X5_mouthOf_0
        rw [T_isBelow_3, bd_s, bI_t hb3, if_neg (show ¬ (1 : Int32) = 0 by decide), gd_n (by omega), nI_cl (by omega), hSυ.2.2.2.2.1 k hk]
      have lt2 : keysW W (8 + k) &&& lksW W < 256 := and_lt (keysW_lt W _)
      show wp (F_X4_findUseful_210 (nI (lksW W)) w (nI k) υ) _
      unfold F_X4_findUseful_210
      rw [if_neg (by rw [show (3 : Int32) = nI 3 from rfl, nI_lep (by omega)]; omega), EM3, bd_s, nI_and, nm_s, j4, bset_s (by omega) (v := if nI (keysW W (8 + k) &&& lksW W) = 0 then (0 : Int32) else (1 : Int32) <<< (nI k &&& 31)) ?_, nm_s, nm_s, nI_1]
      · refine hw _ ⟨rfl, j2.w (Or.inl (by decide)), ?_, zwr_at, ?_, ?_, ?_, ?_, ?_⟩
        · rw [zwr_n (by decide)]
          exact j3
        · rw [zwr_ne (Or.inr (by decide))]
          exact j5
        · rw [zwr_ne (Or.inr (by decide))]
          exact j6
        · rw [zwr_ne (Or.inr (by decide))]
          exact j7
        · rw [zwr_ne (Or.inr (by decide))]
          exact j8
        · rw [zwr_ne (Or.inr (by decide))]
          exact j9
      · by_cases q : keysW W (8 + k) &&& lksW W = 0
        · rw [if_pos (by rw [q]; rfl), if_neg (by rw [decide_eq_true_eq]; exact fun z => z q)]
        · rw [if_neg (by rw [nI_e0 (by omega)]; exact q), if_pos (decide_eq_true q)]
    · obtain ⟨x, υ⟩ := s
      obtain ⟨j1, j2, j3, j4, j5, j6, j7, j8, j9⟩ := hI
      simp only at j1 j2 j3 j4 j5 j6 j7 j8 j9
      subst j1
      show wp (F_X4_findUseful_210 (nI (lksW W)) w (nI 3) υ) _
      unfold F_X4_findUseful_210
      rw [if_pos (show (3 : Int32) ≤ nI 3 by decide)]
      exact wp_some ⟨j2, j3, fun l hl => case6 (P := fun l => υ.1 52 l = nI (hlpW W l)) j9 j8 j7 j6 j5 j4 l hl⟩

