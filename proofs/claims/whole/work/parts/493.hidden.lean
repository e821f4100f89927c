/-! PURE: hidden -/
/-- a KEY in a told place -/
def tkW (W : zWo) (k : Nat) : Prop := ∃ p, wKey W k = some p ∧ wIs W p = true
theorem isT_e1 {W : zWo} {o : Option Nat} (h : ∀ k, o = some k → k < 16) : isT W (e1 o) ↔ ∃ p, o = some p ∧ wIs W p = true := by
  cases o with
  | none =>
    constructor
    · intro q
      exact absurd q isT_m1
    · rintro ⟨p, q, -⟩
      cases q
  | some p =>
    have := h p rfl
    show isT W (nI p) ↔ _
    rw [isT_n (by omega)]
    constructor
    · intro q
      exact ⟨p, rfl, q⟩
    · rintro ⟨q, e, z⟩
      cases e
      exact z
theorem isT_e2 {W : zWo} {o : Option Nat} (h : ∀ k, o = some k → k < 16) : isT W (e2 o) ↔ ∃ p, o = some p ∧ wIs W p = true := by
  cases o with
  | none =>
    constructor
    · rintro ⟨p, h1, h2⟩
      have := wIs_lt h1
      replace h2 : (-2 : Int32) = nI p := h2
      have z := congrArg Int32.toInt h2
      rw [i_nI (by omega), show (-2 : Int32).toInt = -2 from rfl] at z
      omega
    · rintro ⟨p, q, -⟩
      cases q
  | some p =>
    have := h p rfl
    show isT W (nI p) ↔ _
    rw [isT_n (by omega)]
    constructor
    · intro q
      exact ⟨p, rfl, q⟩
    · rintro ⟨q, e, z⟩
      cases e
      exact z
def allT (W : zWo) (K : Nat) : Prop := ∀ k, k < 8 → K.testBit k = true → tkW W k
def hrng (K : Nat) : Prop := 2 ≤ pop8 K ∧ pop8 K ≤ 4
theorem T_aip {W : zWo} {K : Nat} {σ : zSt} (hW : WOK W) (hC : EC 1 2 W σ) (hK : K < 256) : F_X10_areInPlaces (nI K) σ = some (bI (hrng K ∧ allT W K), σ) := by
  have p8 : pop8 K ≤ 8 := popn_le K 8
  unfold F_X10_areInPlaces F_X10_areInPlaces_0
  have b1 : bel (nI K) 256 := bel_t (by omega)
  rw [T_bitCount hK, bd_s, T_isBelow_256, bd_s, bI_t b1, if_neg (show ¬ (1 : Int32) = 0 by decide)]
  by_cases q2 : pop8 K < 2
  · rw [if_pos (by rw [show (2 : Int32) = nI 2 from rfl, nI_ltp (by omega)]; exact q2), bI_f (fun z => absurd z.1.1 (by omega))]
  rw [if_neg (by rw [show (2 : Int32) = nI 2 from rfl, nI_ltp (by omega)]; exact q2)]
  by_cases q4 : pop8 K ≤ 4
  rotate_left
  · rw [if_neg (by rw [show (4 : Int32) = nI 4 from rfl, nI_lep (by omega)]; exact q4), bI_f (fun z => absurd z.1.2 (by omega))]
  rw [if_pos (by rw [show (4 : Int32) = nI 4 from rfl, nI_lep (by omega)]; exact q4)]
  refine wp_eq (wp_for (fun k s => s = (nI k, σ) ∧ ∀ j, j < k → K.testBit j = true → tkW W j) 8 (by decide) (fun k w s hk hI hw => ?_) (fun w s hI => ?_) ⟨rfl, fun j hj => absurd hj (Nat.not_lt_zero j)⟩)
  · obtain ⟨rfl, i2⟩ := hI
    show wp (F_X10_areInPlaces_29 (nI K) w (nI k) σ) _
    unfold F_X10_areInPlaces_29 F_X10_areInPlaces_59
    rw [if_neg (by rw [show (8 : Int32) = nI 8 from rfl, nI_lep (by omega)]; omega)]
    by_cases b : K.testBit k = true
    · have ek : σ.1 7 k = e1 (wKey W k) := hC.2.2.2.2.2.1 k hk
      rw [if_pos ((bit_is hK hk).mpr b), gd_n (by omega), nI_cl (by omega), ek, T_isTold hW hC, bd_s]
      have it := isT_e1 (W := W) (key16 hW hk)
      by_cases t : tkW W k
      · rw [bI_t (it.mpr t), if_neg (show ¬ (1 : Int32) = 0 by decide), nm_s, nI_1]
        refine hw _ ⟨rfl, fun j hj hb => ?_⟩
        by_cases z : j = k
        · rw [z]
          exact t
        · exact i2 j (by omega) hb
      · rw [bI_f (fun z => t (it.mp z)), if_pos rfl, bI_f (fun z => t (z.2 k hk b))]
        exact wp_some ⟨rfl, rfl⟩
    · rw [if_neg (fun z => b ((bit_is hK hk).mp z)), nm_s, nI_1]
      refine hw _ ⟨rfl, fun j hj hb => ?_⟩
      by_cases z : j = k
      · rw [z] at hb
        exact absurd hb b
      · exact i2 j (by omega) hb
  · obtain ⟨rfl, i2⟩ := hI
    show wp (F_X10_areInPlaces_29 (nI K) w (nI 8) σ) _
    unfold F_X10_areInPlaces_29
    rw [if_pos (show (8 : Int32) ≤ nI 8 by decide), bI_t ⟨⟨by omega, q4⟩, fun j hj hb => i2 j hj hb⟩]
    exact wp_some ⟨rfl, rfl⟩
/-- what is asked for is known -/
def hknow (x1 x2 : Int32) : Prop := (x2 = 10 ∨ x2 = 11) ∨ (bel x2 8 ∧ ((x1 >>> (x2 &&& 31)) &&& (1 : Int32)) = 1)
theorem in_1011 {x : Int32} {σ : zSt} : F_X12_in x 10 11 σ = some (bI (x = 10 ∨ x = 11), σ) := by
  rw [T_in, bI_c]
  rw [i_eq, i_eq]
  have a : (10 : Int32).toInt = 10 := rfl
  have b : (11 : Int32).toInt = 11 := rfl
  rw [a, b]
  omega
theorem T_hidOpen {x1 x2 : Int32} {σ : zSt} : F_X12_hidden x1 x2 σ = F_X12_hidden_31 x1 x2 (bI (hknow x1 x2)) σ := by
  unfold F_X12_hidden F_X12_hidden_0 F_X12_hidden_26 F_X12_hidden_30
  rw [in_1011, bd_s]
  by_cases h1 : x2 = 10 ∨ x2 = 11
  · rw [bI_t h1, if_neg (show ¬ (1 : Int32) = 0 by decide), bI_t (p := hknow x1 x2) (Or.inl h1)]
  rw [bI_f h1, if_pos rfl, T_isEight, bd_s]
  by_cases h2 : bel x2 8
  rotate_left
  · rw [bI_f h2, if_pos rfl, bI_f (fun z => z.elim h1 (fun y => h2 y.1))]
  rw [bI_t h2, if_neg (show ¬ (1 : Int32) = 0 by decide)]
  unfold F_X12_has F_X12_has_0 F_X12_hidden_31
  by_cases h3 : ((x1 >>> (x2 &&& 31)) &&& (1 : Int32)) = 1
  · rw [if_pos h3, bd_s, if_neg (show ¬ (1 : Int32) = 0 by decide), nm_s, bI_t (p := hknow x1 x2) (Or.inr ⟨h2, h3⟩)]
  · rw [if_neg h3, bd_s, if_pos rfl, nm_s, bI_f (p := hknow x1 x2) (fun z => z.elim h1 (fun y => h3 y.2))]
theorem EM_put {W : zWo} {σ : zSt} (h : EM 70 0 W σ) {κ : Nat → Option Nat} : EM 70 0 (putW W κ) (zrow σ 75 (fun j => e2 (κ j))) := by
  have z : ∀ c, c ≠ 75 → (zrow σ 75 (fun j => e2 (κ j))).1 c = σ.1 c := fun c hc => zrow_n hc
  obtain ⟨h1, h2, h3, h4, h5, h6, h7, h8, h9, h10, h11, h12, h13⟩ := h
  have z69 := z 69 (by decide)
  refine ⟨fun j hj => by rw [z 70 (by decide)]; exact h1 j hj, fun j hj => by rw [z 71 (by decide)]; exact h2 j hj, fun j hj => by rw [z 72 (by decide)]; exact h3 j hj, fun j hj => by rw [z 73 (by decide)]; exact h4 j hj, fun j hj => by rw [z 74 (by decide)]; exact h5 j hj, fun j hj => ?_, by rw [z69]; exact h7, by rw [z69]; exact h8, by rw [z69]; exact h9, by rw [z69]; exact h10, by rw [z69]; exact h11, by rw [z69]; exact h12, by rw [z69]; exact h13⟩
  show (zrow σ 75 (fun j => e2 (κ j))).1 75 j = e2 (κ j)
  rw [zrow_c]
theorem EC_setK {W : zWo} {σ : zSt} (h : EC 1 2 W σ) {p : Nat} {o : Option Nat} : EC 1 2 (setK W p o) (zwr σ 7 p (e1 o)) := by
  have z : ∀ c, c ≠ 7 → (zwr σ 7 p (e1 o)).1 c = σ.1 c := fun c hc => zwr_n hc
  obtain ⟨h1, h2, h3, h4, h5, h6, h7, h8, h9, h10, h11, h12, h13⟩ := h
  have z1 := z 1 (by decide)
  refine ⟨fun j hj => by rw [z 2 (by decide)]; exact h1 j hj, fun j hj => by rw [z 3 (by decide)]; exact h2 j hj, fun j hj => by rw [z 4 (by decide)]; exact h3 j hj, fun j hj => by rw [z 5 (by decide)]; exact h4 j hj, fun j hj => by rw [z 6 (by decide)]; exact h5 j hj, fun j hj => ?_, by rw [z1]; exact h7, by rw [z1]; exact h8, by rw [z1]; exact h9, by rw [z1]; exact h10, by rw [z1]; exact h11, by rw [z1]; exact h12, by rw [z1]; exact h13⟩
  show (zwr σ 7 p (e1 o)).1 7 j = e1 (fset (wKey W) p o j)
  by_cases q : j = p
  · rw [q, zwr_at, fset_s]
  · rw [zwr_ne (Or.inr q), fset_n q]
    exact h6 j hj
theorem T_putSo {W : zWo} {m c : Nat} {H P : Nat → Nat} (hD : HD W m H P) (hr : ∀ i, i < m → rC m c i < m) {σ : zSt} (hC : EC 1 2 W σ) (hH : HC m H P σ) (h56 : ∀ i, i < m → σ.1 56 i = nI (rC m c i)) : wp (F_X4_putSo σ) (fun _ τ => fr [7] [] σ τ ∧ EC 1 2 (rowW W m H P c) τ) := by
  obtain ⟨d1, d2, d3⟩ := id hD
  unfold F_X4_putSo F_X4_putSo_0
  refine wp_for (fun i s => s.1 = nI i ∧ fr [7] [] σ s.2 ∧ EC 1 2 (putW W (kr H P (rC m c) (wKey W) i)) s.2) m (by omega) (fun i w s hi hI hw => ?_) (fun w s hI => ?_) ⟨rfl, fr.rf, by exact hC⟩
  · obtain ⟨x, τ⟩ := s
    obtain ⟨i1, i2, i3⟩ := hI
    simp only at i1 i2 i3
    subst i1
    have hHτ := HC_fr hH i2 (by decide)
    have e56 : τ.1 56 i = nI (rC m c i) := (i2.rd0 (by decide)).trans (h56 i hi)
    have hri := hr i hi
    obtain ⟨a1, a2⟩ := hHτ.2 i hi
    have hHi := (d3 i hi).1
    have an3 : nI (rC m c i) &&& 3 = nI (rC m c i) := (by decide +kernel : ∀ r, r < 4 → nI r &&& 3 = nI r) _ (Nat.mod_lt _ (by decide))
    have an7 : nI (H i) &&& 7 = nI (H i) := (by decide +kernel : ∀ r, r < 8 → nI r &&& 7 = nI r) _ hHi
    show wp (F_X4_putSo_2 w (nI i) τ) _
    unfold F_X4_putSo_2
    rw [hHτ.1, if_neg (by rw [nI_lep (by omega)]; omega), if_neg (by rw [show (4 : Int32) = nI 4 from rfl, nI_lep (by omega)]; omega), gd_n (by omega), gd_n (by omega), nI_cl (by omega), e56, an3, gd_n (by omega), a1, an7, gd_n (by omega), nI_cl (by omega), nI_cl (by omega), (hHτ.2 _ hri).2, nm_s, nm_s, nI_1]
    exact hw _ ⟨rfl, i2.w (Or.inl (by decide)), EC_setK (p := H i) (o := some (P (rC m c i))) i3⟩
  · obtain ⟨x, τ⟩ := s
    obtain ⟨i1, i2, i3⟩ := hI
    simp only at i1 i2 i3
    subst i1
    have hHτ := HC_fr hH i2 (by decide)
    show wp (F_X4_putSo_2 w (nI m) τ) _
    unfold F_X4_putSo_2
    rw [hHτ.1, if_pos (by rw [nI_lep (by omega)]; omega)]
    exact wp_some ⟨i2, i3⟩
/-- which of the hiders: class, reference -/
theorem T_which {W : zWo} {m c y : Nat} {H P : Nat → Nat} (hD : HD W m H P) (hr : ∀ i, i < m → rC m c i < m) {σ : zSt} (hH : HC m H P σ) (h56 : ∀ i, i < m → σ.1 56 i = nI (rC m c i)) (hy : y < m) (hi : ∀ i, i < m → H i = H y → i = y) : F_X4_placeOfWhich (nI (H y)) σ = some (nI (H (rC m c y)), σ) := by
  obtain ⟨d1, d2, d3⟩ := id hD
  have hHy := (d3 y hy).1
  unfold F_X4_placeOfWhich F_X4_placeOfWhich_0
  refine wp_eq (wp_for (fun i s => s = (nI i, σ)) y (by omega) (fun i w s hi' hI hw => ?_) (fun w s hI => ?_) rfl)
  · subst hI
    obtain ⟨a1, a2⟩ := hH.2 i (by omega)
    have hHi := (d3 i (by omega)).1
    show wp (F_X4_placeOfWhich_2 (nI (H y)) w (nI i) σ) _
    unfold F_X4_placeOfWhich_2
    rw [hH.1, if_neg (by rw [nI_lep (by omega)]; omega), if_neg (by rw [show (4 : Int32) = nI 4 from rfl, nI_lep (by omega)]; omega), gd_n (by omega), nI_cl (by omega), a1, if_neg (by rw [nI_eqp (by omega)]; intro z; have := hi i (by omega) z; omega), nm_s, nI_1]
    exact hw _ rfl
  · subst hI
    obtain ⟨a1, a2⟩ := hH.2 y hy
    have hry := hr y hy
    have an3 : nI (rC m c y) &&& 3 = nI (rC m c y) := (by decide +kernel : ∀ r, r < 4 → nI r &&& 3 = nI r) _ (Nat.mod_lt _ (by decide))
    show wp (F_X4_placeOfWhich_2 (nI (H y)) w (nI y) σ) _
    unfold F_X4_placeOfWhich_2 F_X4_placeOfWhich_25
    rw [hH.1, if_neg (by rw [nI_lep (by omega)]; omega), if_neg (by rw [show (4 : Int32) = nI 4 from rfl, nI_lep (by omega)]; omega), gd_n (by omega), nI_cl (by omega), a1, if_pos rfl, gd_n (by omega), h56 y hy, an3, gd_n (by omega), nI_cl (by omega), (hH.2 _ hry).1]
    exact wp_some ⟨rfl, rfl⟩
theorem T_whichM {W : zWo} {m y : Nat} {H P r : Nat → Nat} (hD : HD W m H P) (hr : ∀ i, i < m → r i < m) {σ : zSt} (hH : HM m H P σ) (h98 : ∀ i, i < m → σ.1 98 i = nI (r i)) (hy : y < m) (hi : ∀ i, i < m → H i = H y → i = y) : zfix (F_X12_hidden_309L (nI (H y))) zlim (0, σ) = some (nI (H (r y)), σ) := by
  obtain ⟨d1, d2, d3⟩ := id hD
  have hHy := (d3 y hy).1
  refine wp_eq (wp_for (fun i s => s = (nI i, σ)) y (by omega) (fun i w s hi' hI hw => ?_) (fun w s hI => ?_) rfl)
  · subst hI
    obtain ⟨a1, a2⟩ := hH.2 i (by omega)
    have hHi := (d3 i (by omega)).1
    show wp (F_X12_hidden_309 (nI (H y)) w (nI i) σ) _
    unfold F_X12_hidden_309
    rw [gd_n (by omega), nI_cl (by omega), a1, if_neg (by rw [nI_eqp (by omega)]; intro z; have := hi i (by omega) z; omega), nm_s, nI_1]
    exact hw _ rfl
  · subst hI
    obtain ⟨a1, a2⟩ := hH.2 y hy
    have hry := hr y hy
    show wp (F_X12_hidden_309 (nI (H y)) w (nI y) σ) _
    unfold F_X12_hidden_309 F_X12_hidden_329
    rw [gd_n (by omega), nI_cl (by omega), a1, if_pos rfl, gd_n (by omega), h98 y hy, gd_n (by omega), nI_cl (by omega), (hH.2 _ hry).1]
    exact wp_some ⟨rfl, rfl⟩
theorem T_hid80 {W : zWo} (hW : WOK W) {K : Nat} (hK : K < 256) (h4 : popn K 8 ≤ 4) {x2 : Int32} {σ : zSt} (hM : EM 70 0 W σ) (h0 : σ.1 69 53 = 0) {Q : Int32 → zSt → Prop} (no : ¬ allT W K → ∀ τ, fr [96, 97] [(69, 53)] σ τ → Q (-1) τ) (go : ∀ τ, fr [96, 97] [(69, 53)] σ τ → allT W K → τ.1 69 53 = nI (popn K 8) → (∀ i, i < popn K 8 → τ.1 96 i = nI (Hn K 8 i) ∧ τ.1 97 i = e2 (wKey W (Hn K 8 i))) → wp (F_X12_hidden_158 x2 τ) Q) : wp (zfix (F_X12_hidden_80L (nI K) x2) zlim (0, σ)) Q := by
  refine wp_for (fun k s => s.1 = nI k ∧ fr [96, 97] [(69, 53)] σ s.2 ∧ s.2.1 69 53 = nI (popn K k) ∧ (∀ j, j < k → K.testBit j = true → tkW W j) ∧ ∀ i, i < popn K k → s.2.1 96 i = nI (Hn K k i) ∧ s.2.1 97 i = e2 (wKey W (Hn K k i))) 8 (by decide) (fun k w s hk hI hw => ?_) (fun w s hI => ?_) ⟨rfl, fr.rf, h0, fun j hj => absurd hj (Nat.not_lt_zero j), fun i hi => absurd hi (Nat.not_lt_zero i)⟩
  · obtain ⟨x, τ⟩ := s
    obtain ⟨i1, i2, i3, i4, i5⟩ := hI
    simp only at i1 i2 i3 i5
    subst i1
    have hMτ : EM 70 0 W τ := i2.EM (by decide) hM
    show wp (F_X12_hidden_80 (nI K) x2 w (nI k) τ) Q
    unfold F_X12_hidden_80 F_X12_hidden_152
    rw [if_neg (by rw [show (8 : Int32) = nI 8 from rfl, nI_lep (by omega)]; omega), T_has (And.intro hK hk), bd_s]
    by_cases b : K.testBit k = true
    · obtain ⟨a1, a2⟩ := Hn_at K hK k hk b
      have ek : τ.1 75 k = e2 (wKey W k) := hMτ.2.2.2.2.2.1 k hk
      rw [bI_t b, if_neg (show ¬ (1 : Int32) = 0 by decide), gd_n (by omega), nI_cl (by omega), ek, T_isPlace hW hMτ, bd_s]
      have it := isT_e2 (W := W) (key16 hW hk)
      by_cases t : tkW W k
      rotate_left
      · rw [bI_f (fun z => t (it.mp z)), if_pos rfl]
        exact wp_some (no (fun z => t (z k hk b)) τ i2)
      rw [bI_t (it.mpr t), if_neg (show ¬ (1 : Int32) = 0 by decide), i3, gd_n (by omega), nI_cl (by omega), nm_s, gd_n (by omega), zwr_ne (c := 96) (d := 69) (Or.inl (by decide)), zwr_ne (c := 96) (d := 75) (Or.inl (by decide)), i3, gd_n (by omega), nI_cl (by omega), nm_s, zwr_ne (c := 97) (d := 69) (Or.inl (by decide)), zwr_ne (c := 96) (d := 69) (Or.inl (by decide)), i3, nI_1, nm_s, nm_s, nI_1, ek]
      have ep : popn K (k + 1) = popn K k + 1 := by rw [popn_s, b]; rfl
      have eh : Hn K (k + 1) = fset (Hn K k) (popn K k) k := by rw [Hn, if_pos b]
      refine hw _ ⟨rfl, ((i2.w (Or.inl (by decide))).w (Or.inl (by decide))).w (Or.inr (by decide)), ?_, fun j hj hb => ?_, fun i hi => ?_⟩
      · rw [ep]
        exact zwr_at
      · by_cases z : j = k
        · rw [z]
          exact t
        · exact i4 j (by omega) hb
      · rw [eh]
        have r96 : (zwr (zwr (zwr τ 96 (popn K k) (nI k)) 97 (popn K k) (e2 (wKey W k))) 69 53 (nI (popn K k + 1))).1 96 i = (zwr τ 96 (popn K k) (nI k)).1 96 i := by rw [zwr_ne (Or.inl (by decide)), zwr_ne (Or.inl (by decide))]
        have r97 : (zwr (zwr (zwr τ 96 (popn K k) (nI k)) 97 (popn K k) (e2 (wKey W k))) 69 53 (nI (popn K k + 1))).1 97 i = (zwr (zwr τ 96 (popn K k) (nI k)) 97 (popn K k) (e2 (wKey W k))).1 97 i := by rw [zwr_ne (Or.inl (by decide))]
        show (zwr (zwr (zwr τ 96 (popn K k) (nI k)) 97 (popn K k) (e2 (wKey W k))) 69 53 (nI (popn K k + 1))).1 96 i = _ ∧ (zwr (zwr (zwr τ 96 (popn K k) (nI k)) 97 (popn K k) (e2 (wKey W k))) 69 53 (nI (popn K k + 1))).1 97 i = _
        rw [r96, r97]
        by_cases z : i = popn K k
        · rw [z, zwr_at, zwr_at, fset_s]
          exact ⟨rfl, rfl⟩
        · rw [zwr_ne (Or.inr z), zwr_ne (Or.inr z), zwr_ne (Or.inl (by decide)), fset_n z]
          exact i5 i (by omega)
    · rw [bI_f b, if_pos rfl, nm_s, nI_1]
      have ep : popn K (k + 1) = popn K k := by rw [popn_s, Bool.eq_false_iff.mpr b]; rfl
      have eh : Hn K (k + 1) = Hn K k := by rw [Hn, if_neg b]
      refine hw _ ⟨rfl, i2, ?_, fun j hj hb => ?_, ?_⟩
      · rw [ep]
        exact i3
      · by_cases z : j = k
        · rw [z] at hb
          exact absurd hb b
        · exact i4 j (by omega) hb
      · rw [ep, eh]
        exact i5
  · obtain ⟨x, τ⟩ := s
    obtain ⟨i1, i2, i3, i4, i5⟩ := hI
    simp only at i1 i2 i3 i5
    subst i1
    show wp (F_X12_hidden_80 (nI K) x2 w (nI 8) τ) Q
    unfold F_X12_hidden_80
    rw [if_pos (show (8 : Int32) ≤ nI 8 by decide)]
    exact go τ i2 (fun k hk hb => i4 k hk hb) i3 i5
theorem T_hid158 {m : Nat} (hm : m < 5) {x2 : Int32} {σ : zSt} (h : σ.1 69 53 = nI m) {Q : Int32 → zSt → Prop} (go : wp (zfix (F_X12_hidden_197L x2 (nI (m ^ m))) zlim (-1, -1, 0, σ)) Q) : wp (F_X12_hidden_158 x2 σ) Q := by
  unfold F_X12_hidden_158
  refine wp_for (fun k s => s = (nI (m ^ k), nI k, σ)) m (by omega) (fun k w s hk hI hw => ?_) (fun w s hI => ?_) rfl
  · subst hI
    show wp (F_X12_hidden_164 x2 w (nI (m ^ k)) (nI k) σ) Q
    unfold F_X12_hidden_164
    rw [h, if_neg (by rw [nI_lep (by omega)]; omega), pk_mul, nm_s, nm_s, nI_1, ← Nat.pow_succ]
    exact hw _ rfl
  · subst hI
    show wp (F_X12_hidden_164 x2 w (nI (m ^ m)) (nI m) σ) Q
    unfold F_X12_hidden_164 F_X12_hidden_188
    rw [h, if_pos (by rw [nI_lep (by omega)]; omega)]
    exact go
