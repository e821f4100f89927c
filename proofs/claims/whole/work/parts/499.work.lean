/-! PURE: the planner advances -/
def LA4 : List Nat := [23, 48, 50]
def SA4 : List (Nat × Nat) := [(17, 7), (17, 8), (17, 9), (17, 10), (17, 11), (17, 12), (17, 13), (17, 14), (47, 8)]
/-- what the search stands on -/
def AD (W : zWo) (m : Nat) (σ : zSt) : Prop := SK W σ ∧ PU W σ ∧ σ.1 47 5 = nI (1 - m) ∧ PR σ (pth W m)
theorem AD_fr {W : zWo} {m : Nat} {σ τ : zSt} (h : AD W m σ) (f : fr LA4 SA4 σ τ) : AD W m τ := by
  obtain ⟨h1, h2, h3, h4⟩ := h
  refine ⟨SK_fr h1 f (by decide), ⟨(f.rd (by decide) (by decide)).trans h2.1, fun l hl => ?_⟩, (f.rd (by decide) (by decide)).trans h3, fun i hi => ?_⟩
  · rw [f.row (c := 52) (by decide)]
    exact h2.2 l hl
  · rw [f.row (c := 49) (by decide)]
    exact h4 i hi
/-- the search's table, its best, and what holds -/
def AS (W : zWo) (m : Nat) (T : Nat → Nat) (L S : Nat) (σ : zSt) : Prop := ∃ f bst, FT W σ f ∧ σ.1 47 8 = nI bst ∧ SI W m T f bst L S
theorem EN_fr4 {W : zWo} {O B : Nat} {σ τ : zSt} (h : EN W O B σ) (f : fr [48] [(47, 8)] σ τ) : EN W O B τ := by
  obtain ⟨a1, a2, a3, a4, a5, a6, a7, a8⟩ := h
  have g : ∀ j, τ.1 17 j = σ.1 17 j := fun j => by rw [f.row (c := 17) (by decide)]
  have g2 : ∀ j, τ.1 23 j = σ.1 23 j := fun j => by rw [f.row (c := 23) (by decide)]
  exact ⟨(g 8).trans a1, (g 9).trans a2, (g 10).trans a3, (g 11).trans a4, (g 12).trans a5, (g 13).trans a6, (g 14).trans a7, (g2 5).trans a8⟩
theorem T_step {W : zWo} {m : Nat} (hW : WOK W) (hh : wIs W (wHea W) = true) (hm : m < 2) {T : Nat → Nat} (hT : OKT W m T 0) {σ : zSt} {O B i : Nat} (hO : O < 256) (hB' : B < 27) (hi : i < 4) (hU : subB O (useW W) = true) (hA : AD W m σ) (hE : EN W O B σ) (hS : AS W m T (27 * O + B + 1) (cod O B i) σ) {w1 w2 : (Int32 × zSt) → Option (Unit × zSt)} {x1 x3 : Int32} {Q : Unit → zSt → Prop} (g : ∀ τ, fr LA4 SA4 σ τ → EN W O B τ → AS W m T (27 * O + B + 1) (cod O B i + 1) τ → wp (w2 (nI (cod O B i + 1), τ)) Q) : wp (F_X4_advance_60 w1 x1 (bI (subB (golW W) O = true)) x3 (nI (27 * O + B)) w2 (nI (cod O B i)) σ) Q := by
  obtain ⟨f, bst, hF, hb, hI⟩ := hS
  have m4 : ∀ a : Nat, (4 : Int32) * nI a = nI (4 * a) := fun a => pk_mul 4 a
  have cb : cod O B i < 4 * (27 * O + B + 1) := by unfold cod; omega
  have ci : cod O B i / 108 = O := by unfold cod; omega
  obtain ⟨t1, t2⟩ := hF (cod O B i) (by omega) (by rw [ci]; exact hU)
  have bb := hI.1
  unfold F_X4_advance_60
  rw [nI_1, m4, if_neg (by rw [nI_lep (by omega)]; omega), gd_n (by omega), nI_cl (by omega), hb, t1]
  have c103 : (bst ≤ f (cod O B i) ∨ subB (golW W) O = false) → wp (F_X4_advance_103 w1 w2 x1 (bI (subB (golW W) O = true)) x3 (nI (27 * O + B)) (nI (cod O B i)) σ) Q := by
    intro cs
    unfold F_X4_advance_103 F_X4_advance_123
    rw [gd_n (by omega), nI_cl (by omega), hb, t1]
    by_cases q : bst ≤ f (cod O B i)
    · rw [if_pos (by rw [nI_lep (by omega)]; exact q), nm_s, nI_1]
      exact g σ fr.rf hE ⟨f, bst, hF, hb, SI_skip hB' hi hI q⟩
    · rw [if_neg (by rw [nI_lep (by omega)]; exact q)]
      have hg := cs.resolve_left q
      refine wp_bd2 (T_leave hW hm hO hB' hi hU hA.1 hE hA.2.1 hA.2.2.1 hF) (fun _ τ hτ => ?_)
      obtain ⟨f1, e1', f', f2, f3⟩ := hτ
      rw [nm_s, nI_1]
      exact g τ (f1.mono (by decide)) e1' ⟨f', bst, f2, (f1.rd (by decide) (by decide)).trans hb, SI_leave hW hh hT hO hB' hi hU hg hI (by omega) f3⟩
  by_cases q : bst ≤ f (cod O B i)
  · rw [if_pos (by rw [nI_lep (by omega)]; exact q)]
    exact c103 (Or.inl q)
  rw [if_neg (by rw [nI_lep (by omega)]; exact q)]
  cases hg : subB (golW W) O with
  | false =>
    rw [hg] at c103
    rw [bI_f (p := false = true) (by decide)] at c103 ⊢
    rw [if_pos rfl]
    exact c103 (Or.inr rfl)
  | true =>
    rw [bI_t (p := true = true) rfl, if_neg (show ¬ (1 : Int32) = 0 by decide), gd_n (by omega), nm_s]
    unfold F_X4_advance_123
    rw [nm_s, nI_1]
    refine g _ (fr_w (Or.inr (by decide))) (EN_fr4 hE (fr_w (Or.inr (by decide)))) ⟨f, _, fun s h1 h2 => ?_, zwr_at, SI_best hO hB' hi hU hg hI (by omega)⟩
    rw [zwr_n (by decide)]
    exact hF s h1 h2
theorem stT_e {W : zWo} {m L : Nat} {f : Nat → Nat} (h : ∀ i, i < 4 → f (4 * L + i) = 134217728) : stT W m f L = f := by
  funext s
  by_cases q : 4 * L ≤ s ∧ s < 4 * L + 4
  · obtain ⟨i, hi, rfl⟩ : ∃ i, i < 4 ∧ s = 4 * L + i := ⟨s - 4 * L, by omega, by omega⟩
    rw [stT_i hi]
    obtain ⟨a, ha, e⟩ := stl_ex (P := pth W m) (V := fun i => f (4 * L + i)) hi (pth_0 hi)
    have v := stl_v (P := pth W m) (V := fun i => f (4 * L + i)) (b := i)
    rw [e] at v ⊢
    have va : f (4 * L + a) = 134217728 := h a ha
    have vi := h i hi
    show f (4 * L + a) + pth W m (4 * a + i) = f (4 * L + i)
    replace v : f (4 * L + a) + pth W m (4 * a + i) ≤ f (4 * L + i) := v
    omega
  · exact stT_n (by omega)
theorem T_advance {W : zWo} {m : Nat} (hW : WOK W) (hh : wIs W (wHea W) = true) (hm : m < 2) {T : Nat → Nat} (hT : OKT W m T 0) {σ : zSt} {O : Nat} (hO : O < 256) (hU : subB O (useW W) = true) (hA : AD W m σ) (hS : AS W m T (27 * O) (4 * (27 * O)) σ) : wp (F_X4_advance (nI O) σ) (fun _ τ => fr LA4 SA4 σ τ ∧ AS W m T (27 * (O + 1)) (4 * (27 * (O + 1))) τ) := by
  have pb : ∀ i, i < 16 → pth W m i ≤ 134217728 := fun i hi => by
    have := pth_le hW (m := m) (a := i / 4) (b := i % 4) (by omega) (by omega)
    rw [show 4 * (i / 4) + i % 4 = i by omega] at this
    exact this
  unfold F_X4_advance F_X4_advance_0
  rw [T_isHadC hW hA.1 hO, bd_s]
  refine wp_for (fun B s => s.1 = nI B ∧ fr LA4 SA4 σ s.2 ∧ AS W m T (27 * O + B) (4 * (27 * O + B)) s.2) 27 (by decide) (fun B w s hB' hI hw => ?_) (fun w s hI => ?_) ⟨rfl, fr.rf, hS⟩
  · obtain ⟨x, τ⟩ := s
    obtain ⟨i1, i2, f, bst, i3, i4, i5⟩ := hI
    simp only at i1 i2 i3 i4
    subst i1
    have hAτ := AD_fr hA i2
    have FLτ : FL τ (27 * O + B) (fun i => f (4 * (27 * O + B) + i)) := fun i hi => i3 _ (by omega) (by rw [show (4 * (27 * O + B) + i) / 108 = O by omega]; exact hU)
    show wp (F_X4_advance_11 (nI O) _ w (nI B) τ) _
    unfold F_X4_advance_11 F_X4_advance_129
    rw [if_neg (by rw [show (27 : Int32) = nI 27 from rfl, nI_lep (by omega)]; omega), show nI O * (27 : Int32) = nI (O * 27) from pk_mul O 27, nI_add, show O * 27 + B = 27 * O + B by omega, nm_s, if_neg (by rw [show (6912 : Int32) = nI 6912 from rfl, nI_lep (by omega)]; omega)]
    refine wp_bd2 (T_settle (by omega) hAτ.2.2.2 pb FLτ) (fun a υ hυ => ?_)
    obtain ⟨f1, u1, u2⟩ := hυ
    have st := SI_settle hW hh hT hO hB' hU i5
    have f1' : fr LA4 SA4 τ υ := f1.mono (by decide)
    have b8 : υ.1 47 8 = nI bst := (f1.rd (by decide) (by decide)).trans i4
    rcases u2 with ⟨rfl, v1, v2⟩ | ⟨rfl, v1, v2⟩
    · rw [if_pos rfl, nm_s, nI_1]
      have ef : stT W m f (27 * O + B) = f := stT_e v1
      rw [ef] at st
      have up : ∀ i, i ≤ 4 → SI W m T f bst (27 * O + B + 1) (4 * (27 * O + B) + i) := by
        intro i
        induction i with
        | zero => intro _; exact st
        | succ i ih =>
          intro hi
          have e : f (cod O B i) = 134217728 := v1 i (by omega)
          have b1 := i5.1
          exact SI_skip (O := O) (B := B) (i := i) hB' (by omega) (ih (by omega)) (by omega)
      refine hw _ ⟨rfl, i2.tr f1', f, bst, fun s h1 h2 => ?_, b8, up 4 (Nat.le_refl 4)⟩
      by_cases q : 4 * (27 * O + B) ≤ s ∧ s < 4 * (27 * O + B) + 4
      · obtain ⟨i, hi, rfl⟩ : ∃ i, i < 4 ∧ s = 4 * (27 * O + B) + i := ⟨s - 4 * (27 * O + B), by omega, by omega⟩
        exact v2 i hi
      · rw [u1 s (by omega)]
        exact i3 s h1 h2
    · rw [if_neg (show ¬ (1 : Int32) = 0 by decide)]
      have hAυ := AD_fr hAτ f1'
      have hFυ : FT W υ (stT W m f (27 * O + B)) := by
        intro s h1 h2
        by_cases q : 4 * (27 * O + B) ≤ s ∧ s < 4 * (27 * O + B) + 4
        · obtain ⟨i, hi, rfl⟩ : ∃ i, i < 4 ∧ s = 4 * (27 * O + B) + i := ⟨s - 4 * (27 * O + B), by omega, by omega⟩
          rw [stT_i hi]
          exact v2 i hi
        · rw [stT_n (by omega), u1 s (by omega)]
          exact i3 s h1 h2
      refine wp_bd2 (T_enter hW hAυ.1 hO hB') (fun _ ω hω => ?_)
      obtain ⟨f2, hE⟩ := hω
      have f2' : fr LA4 SA4 υ ω := f2.mono (by decide)
      have hFω : FT W ω (stT W m f (27 * O + B)) := fun s h1 h2 => by rw [f2.row (c := 48) (by decide)]; exact hFυ s h1 h2
      have b8ω : ω.1 47 8 = nI bst := (f2.rd (by decide) (by decide)).trans b8
      rw [show (4 : Int32) * nI (27 * O + B) = nI (4 * (27 * O + B)) from pk_mul 4 _, nm_s]
      refine wp_for (fun i s => s.1 = nI (4 * (27 * O + B) + i) ∧ fr LA4 SA4 σ s.2 ∧ EN W O B s.2 ∧ AS W m T (27 * O + B + 1) (4 * (27 * O + B) + i) s.2) 4 (by decide) (fun i w2 s hi hI hw2 => ?_) (fun w2 s hI => ?_) ⟨rfl, (i2.tr f1').tr f2', hE, _, bst, hFω, b8ω, st⟩
      · obtain ⟨x, κ⟩ := s
        obtain ⟨j1, j2, j3, j4⟩ := hI
        simp only at j1 j2 j3 j4
        subst j1
        exact T_step hW hh hm hT hO hB' hi hU (AD_fr hA j2) j3 j4 (fun τ' a b c => hw2 _ ⟨rfl, j2.tr a, b, c⟩)
      · obtain ⟨x, κ⟩ := s
        obtain ⟨j1, j2, j3, j4⟩ := hI
        simp only at j1 j2 j3 j4
        subst j1
        show wp (F_X4_advance_60 w _ _ _ (nI (27 * O + B)) w2 (nI (4 * (27 * O + B) + 4)) κ) _
        unfold F_X4_advance_60 F_X4_advance_129
        rw [nI_1, show (4 : Int32) * nI (27 * O + B + 1) = nI (4 * (27 * O + B + 1)) from pk_mul 4 _, if_pos (by rw [nI_lep (by omega)]; omega), nm_s, nI_1]
        exact hw _ ⟨rfl, j2, j4⟩
  · obtain ⟨x, τ⟩ := s
    obtain ⟨i1, i2, i3⟩ := hI
    simp only at i1 i2 i3
    subst i1
    show wp (F_X4_advance_11 (nI O) _ w (nI 27) τ) _
    unfold F_X4_advance_11
    rw [if_pos (show (27 : Int32) ≤ nI 27 by decide)]
    exact wp_some ⟨i2, i3⟩

