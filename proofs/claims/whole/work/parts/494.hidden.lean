/-! PURE: hidden, the call -/
def PhN (W : zWo) (K i : Nat) : Nat := (wKey W (Hn K 8 i)).getD 0
theorem HD_of {W : zWo} {K : Nat} (hK : K < 256) (hr : hrng K) (ha : allT W K) : HD W (popn K 8) (Hn K 8) (PhN W K) := by
  refine ⟨hr.1, by have : popn K 8 ≤ 4 := hr.2; omega, fun i hi => ?_⟩
  obtain ⟨h1, h2⟩ := Hn_ok K hK i hi
  obtain ⟨p, e, t⟩ := ha _ h1 h2
  have ep : PhN W K i = p := by
    unfold PhN
    rw [e]
    rfl
  rw [ep]
  exact ⟨h1, e, t⟩
theorem hkn_b {K y : Nat} (hK : K < 256) (hy : y < 8) : (((nI K >>> (nI y &&& 31)) &&& (1 : Int32)) = 1) = (K.testBit y = true) := propext (bit_is hK hy)
theorem s_hidden {n : Nat} {σ : zSt} (hn : n < 512) (hR : Rel n σ) (x1 x2 : Int32) : Both n (F_X11_hidden x1 x2) (F_X12_hidden x1 x2) σ := by
  obtain ⟨-, ⟨W, w0, w1, w2, w3⟩, -, -, -, -⟩ := id hR
  have m2 : σ.1 69 2 = nI (wHea W) := w3.2.2.2.2.2.2.2.2.1
  have h8 := w0.hea
  have N0 : ¬ (1 : Int32) = 0 := by decide
  by_cases ok : bel x1 256 ∧ isT W (nI (wHea W)) ∧ hknow x1 x2 ∧ ∃ K, K < 256 ∧ x1 = nI K ∧ hrng K ∧ allT W K
  rotate_left
  · refine Both.fr (-1) hn hR ?_ (fun τ hRτ f => ?_)
    · unfold F_X11_hidden F_X11_hidden_0
      rw [T_heart w0 w2, bd_s]
      by_cases h2 : isT W (nI (wHea W))
      rotate_left
      · rw [bI_f h2, if_pos rfl]
        exact wp_some ⟨rfl, fr.rf⟩
      rw [bI_t h2, if_neg N0]
      by_cases h1 : bel x1 256
      rotate_left
      · obtain ⟨v, ev⟩ := T_bitCountX x1 σ
        unfold F_X10_areInPlaces F_X10_areInPlaces_0
        rw [ev, bd_s, T_isBelow_256, bd_s, bI_f h1, if_pos rfl, bd_s, if_pos rfl]
        exact wp_some ⟨rfl, fr.rf⟩
      obtain ⟨K, hK, rfl⟩ := bel_of h1
      rw [T_aip w0 w2 hK, bd_s]
      by_cases h3 : hrng K ∧ allT W K
      rotate_left
      · rw [bI_f h3, if_pos rfl]
        exact wp_some ⟨rfl, fr.rf⟩
      rw [bI_t h3, if_neg N0, T_isBelow_8, bd_s, nm_s]
      have nk : ¬ hknow (nI K) x2 := fun z => ok ⟨h1, h2, z, K, hK, rfl, h3.1, h3.2⟩
      rw [if_neg (fun z => nk (Or.inl (Or.inl z))), if_neg (fun z => nk (Or.inl (Or.inr z)))]
      by_cases b8 : bel x2 8
      · rw [bI_t b8, if_neg N0, if_neg (fun z => nk (Or.inr ⟨b8, z⟩)), if_pos rfl]
        exact wp_some ⟨rfl, fr.rf⟩
      · rw [bI_f b8, if_pos (show (0 : Int32) = 0 from rfl), if_pos (show (0 : Int32) = 0 from rfl)]
        exact wp_some ⟨rfl, fr.rf⟩
    · have hMτ : EM 70 0 W τ := f.EM (by decide) w3
      have m2τ : τ.1 69 2 = nI (wHea W) := hMτ.2.2.2.2.2.2.2.2.1
      rw [T_hidOpen]
      unfold F_X12_hidden_31
      rw [T_in_255, bd_s]
      by_cases h1 : bel x1 256
      rotate_left
      · rw [bI_f h1, if_pos rfl]
        exact wp_some ⟨rfl, fr.rf⟩
      obtain ⟨K, hK, rfl⟩ := bel_of h1
      have p8 : pop8 K ≤ 8 := popn_le K 8
      have in24 : F_X12_in (nI (pop8 K)) 2 4 τ = some (bI (hrng K), τ) := by
        rw [T_in, bI_c]
        rw [i_nI (by omega)]
        show (2 : Int) ≤ _ ∧ _ ≤ (4 : Int) ↔ 2 ≤ pop8 K ∧ pop8 K ≤ 4
        omega
      rw [bI_t h1, if_neg N0, T_bits hK, bd_s, in24, bd_s]
      by_cases h3 : hrng K
      rotate_left
      · rw [bI_f h3, if_pos rfl]
        exact wp_some ⟨rfl, fr.rf⟩
      rw [bI_t h3, if_neg N0]
      by_cases h4 : hknow (nI K) x2
      rotate_left
      · rw [bI_f h4, if_pos rfl]
        exact wp_some ⟨rfl, fr.rf⟩
      rw [bI_t h4, if_neg N0, m2τ, T_isPlace w0 hMτ, bd_s]
      by_cases h2 : isT W (nI (wHea W))
      rotate_left
      · rw [bI_f h2, if_pos rfl]
        exact wp_some ⟨rfl, fr.rf⟩
      rw [bI_t h2, if_neg N0, nm_s]
      have f0 : fr LM SM τ (zwr τ 69 53 0) := fr_w (Or.inr (by decide))
      refine T_hid80 w0 hK h3.2 (f0.EM (by decide) hMτ) zwr_at (fun _ υ g => ⟨rfl, f0.tr (g.mono (by decide))⟩) (fun υ _ ha => ?_)
      exact absurd ⟨h1, h2, h4, K, hK, rfl, h3, ha⟩ ok
  obtain ⟨h1, h2, h4, K, hK, rfl, h3, ha⟩ := ok
  have hh : wIs W (wHea W) = true := (isT_n (by omega)).mp h2
  have hD := HD_of hK h3 ha
  obtain ⟨d1, d2, d3⟩ := id hD
  have p8 : pop8 K ≤ 8 := popn_le K 8
  have hT : ∀ κ, WOK (putW W κ) → ∃ T, OKT (putW W κ) 1 T 0 := by
    intro κ hκ
    obtain ⟨_, _, _, _, _, T, _, hT, _⟩ := T_solves (m := 1) hκ (by decide) (EM_put (κ := κ) w3)
    exact ⟨T, hT⟩
  have key : bel x2 8 → (x2 = 10 ∨ x2 = 11) → False := by
    rintro ⟨b1, b2⟩ (rfl | rfl)
    · exact absurd b2 (by decide)
    · exact absurd b2 (by decide)
  have which : ¬ (x2 = 10 ∨ x2 = 11) → ∃ y, y < popn K 8 ∧ x2 = nI (Hn K 8 y) ∧ Hn K 8 y < 8 ∧ K.testBit (Hn K 8 y) = true ∧ ∀ i, i < popn K 8 → Hn K 8 i = Hn K 8 y → i = y := by
    intro z
    obtain ⟨b8, bt⟩ := h4.resolve_left z
    obtain ⟨k, hk, rfl⟩ := bel_of b8
    rw [hkn_b hK hk] at bt
    obtain ⟨a1, a2⟩ := Hn_at K hK k hk bt
    refine ⟨popn K k, a1, by rw [a2], by rw [a2]; exact hk, by rw [a2]; exact bt, fun i hi e => Hn_inj K hK i hi _ a1 e⟩
  have fsame := f_same (dy := fun c => dyO (rowW W (popn K 8) (Hn K 8) (PhN W K) c)) (show popn K 8 < 5 ∧ 2 ≤ popn K 8 by omega)
  have CL := T_hide (P := PhN W K) w0 hh hK hD hT w2
  have isk : (if bI (bel x2 8) = 0 then (0 : Int32) else if ((nI K >>> (x2 &&& 31)) &&& (1 : Int32)) = 1 then 1 else 0) = if (x2 = 10 ∨ x2 = 11) then 0 else 1 := by
    by_cases z : x2 = 10 ∨ x2 = 11
    · rw [if_pos z, bI_f (fun b => key b z), if_pos rfl]
    · obtain ⟨b8, bt⟩ := h4.resolve_left z
      rw [if_neg z, bI_t b8, if_neg N0, if_pos bt]
  have C62 : F_X11_hidden (nI K) x2 σ = F_X11_hidden_62 (nI K) x2 (if (x2 = 10 ∨ x2 = 11) then 0 else 1) σ := by
    unfold F_X11_hidden F_X11_hidden_0
    rw [T_heart w0 w2, bd_s, bI_t h2, if_neg N0, T_aip w0 w2 hK, bd_s, bI_t ⟨h3, ha⟩, if_neg N0, T_isBelow_8, bd_s, nm_s, isk]
    by_cases z1 : x2 = 10
    · rw [if_pos z1]
    by_cases z2 : x2 = 11
    · rw [if_neg z1, if_pos z2]
    rw [if_neg z1, if_neg z2, if_neg (show ¬ (x2 = 10 ∨ x2 = 11) from fun z => z.elim z1 z2), if_neg N0]
  have REF : ∀ τ, fr (7 :: LC) SC σ τ → ∀ Q : Int32 → zSt → Prop, (∀ x5 x6 υ, fr (75 :: LM) SM τ υ → HM (popn K 8) (Hn K 8) (PhN W K) υ → EM 70 0 W υ → MR (popn K 8) (fC (fun c => dyO (rowW W (popn K 8) (Hn K 8) (PhN W K) c)) (popn K 8) (4 ^ popn K 8)) x5 x6 → wp (F_X12_hidden_271 x2 x5 x6 υ) Q) → wp (F_X12_hidden (nI K) x2 τ) Q := by
    intro τ f Q g
    have hMτ : EM 70 0 W τ := f.EM (by decide) w3
    have m2τ : τ.1 69 2 = nI (wHea W) := hMτ.2.2.2.2.2.2.2.2.1
    have in24 : F_X12_in (nI (pop8 K)) 2 4 τ = some (bI (hrng K), τ) := by
      rw [T_in, bI_c]
      rw [i_nI (by omega)]
      show (2 : Int) ≤ _ ∧ _ ≤ (4 : Int) ↔ 2 ≤ pop8 K ∧ pop8 K ≤ 4
      omega
    rw [T_hidOpen]
    unfold F_X12_hidden_31
    rw [T_in_255, bd_s, bI_t h1, if_neg N0, T_bits hK, bd_s, in24, bd_s, bI_t h3, if_neg N0, bI_t h4, if_neg N0, m2τ, T_isPlace w0 hMτ, bd_s, bI_t h2, if_neg N0, nm_s]
    have f0 : fr (75 :: LM) SM τ (zwr τ 69 53 0) := fr_w (Or.inr (by decide))
    have hM0 : EM 70 0 W (zwr τ 69 53 0) := (fr_w (L := []) (S := [(69, 53)]) (Or.inr (by decide))).EM (by decide) hMτ
    refine T_hid80 w0 hK h3.2 hM0 zwr_at (fun na => absurd ha na) (fun υ f1 _ e53 e97 => ?_)
    have f1' : fr (75 :: LM) SM τ υ := f0.tr (f1.mono (by decide))
    have hHυ : HM (popn K 8) (Hn K 8) (PhN W K) υ := ⟨e53, fun i hi => by
      obtain ⟨a1, a2⟩ := e97 i hi
      rw [(d3 i hi).2.1] at a2
      exact ⟨a1, a2⟩⟩
    refine T_hid158 d2 e53 (T_hidL w0 hD hT hHυ (f1.EM (by decide) hM0) (fun x5 x6 ω f2 hHω hMω hb => ?_))
    rw [← fsame] at hb
    exact g x5 x6 ω (f1'.tr (f2.mono (by decide))) hHω hMω hb
  have REL : ∀ σ1 σ2 W', fr (7 :: LC) SC σ σ1 → fr (75 :: LM) SM σ1 σ2 → WOK W' → wNig W' = wNig W → EC 1 2 W' σ1 → EM 70 0 W' σ2 → Rel (n + 1) σ2 := by
    intro σ1 σ2 W' f1 f2 hW' hN hC1 hM2
    refine Rel_W hn hR (eqOn.tr (f1.eqOn (by decide)) (f2.eqOn (by decide))) ⟨W', hW', ?_, f2.EC (by decide) hC1, hM2⟩
    rw [hN]
    omega
  have CF : ∀ τ, fr LH4 SH4 σ τ → fr (7 :: LC) SC σ τ := by
    intro τ f
    have f' : fr (7 :: LC) [(17, 6)] σ τ := f.mono (by decide)
    exact f'.mono (by decide)
  obtain ⟨a, σ1, ea, f1, hH1, hb⟩ := CL
  have f1' : fr (7 :: LC) SC σ σ1 := CF σ1 f1
  have hC1 : EC 1 2 W σ1 := f1.EC (by decide) w2
  cases b : fC (fun c => dyO (rowW W (popn K 8) (Hn K 8) (PhN W K) c)) (popn K 8) (4 ^ popn K 8) with
  | none =>
    rw [b] at hb REF
    replace hb : a = -1 := hb
    obtain ⟨r, σ2, e2', e3', e4'⟩ := REF σ1 f1' (fun r υ => r = -2 ∧ Rel (n + 1) υ) (fun x5 x6 υ g1 g2 g3 g4 => by
      unfold F_X12_hidden_271
      rw [if_pos g4.1]
      exact wp_some ⟨rfl, REL σ1 υ W f1' g1 w0 rfl hC1 g3⟩)
    subst e3'
    refine Both.mk (σ1 := σ1) (σ2 := σ2) (r := -2) ?_ e2' e4'
    rw [C62]
    unfold F_X11_hidden_62
    rw [ea, bd_s, if_pos hb]
  | some bb =>
    obtain ⟨d, c⟩ := bb
    rw [b] at hb REF
    obtain ⟨b1, b2, b3, b4, b5⟩ := hb
    subst b1
    have rl := rC_lt (popn K 8) d2 c b3 b4
    have nd : ¬ nI d = -1 := e1_n (by omega)
    have rd : ∀ x5 x6 υ, fr (75 :: LM) SM σ1 υ → HM (popn K 8) (Hn K 8) (PhN W K) υ → EM 70 0 W υ → MR (popn K 8) (some (d, c)) x5 x6 → ∀ Q : Int32 → zSt → Prop, (∀ ω, fr (75 :: LM) SM σ1 ω → HM (popn K 8) (Hn K 8) (PhN W K) ω → EM 70 0 W ω → (∀ i, i < popn K 8 → ω.1 98 i = nI (rC (popn K 8) c i)) → x6 = nI d → wp (if x2 = (11 : Int32) then bd (F_X12_hides ω) (fun _ s34 => F_X12_hidden_297 x2 x6 s34) else F_X12_hidden_297 x2 x6 ω) Q) → wp (F_X12_hidden_271 x2 x5 x6 υ) Q := by
      intro x5 x6 υ g1 g2 g3 g4 Q g
      obtain ⟨x, z1, z2, z3, z4, z5, z6⟩ := g4
      have m256 : popn K 8 ^ popn K 8 ≤ 256 := (by decide : ∀ m, m < 5 → m ^ m ≤ 256) _ d2
      unfold F_X12_hidden_271
      rw [z4, if_neg (e1_n (by omega))]
      refine wp_bd2 (T_readsRow (show 1 ≤ popn K 8 ∧ popn K 8 < 5 by omega) (by omega) g2.1) (fun q ω hω => ?_)
      obtain ⟨k1, -, k3⟩ := hω
      refine g ω (g1.tr (k1.mono (by decide))) (HM_fr g2 k1 (by decide)) (k1.EM (by decide) g3) (fun i hi => ?_) z5
      rw [k3 z2 i hi, z3, cv_row (popn K 8) d2 d1 x z1 i hi]
    by_cases z11 : x2 = 11
    · subst z11
      obtain ⟨u, σ3, ep, p1, p2⟩ := T_putSo (c := c) hD rl hC1 hH1 b5
      have f3 : fr (7 :: LC) SC σ σ3 := f1'.tr (p1.mono (by decide))
      have w0' : WOK (rowW W (popn K 8) (Hn K 8) (PhN W K) c) := rowW_ok w0 hD rl
      obtain ⟨r, σ2, e2', e3', e4'⟩ := REF σ3 f3 (fun r υ => r = nI d ∧ Rel (n + 1) υ) (fun x5 x6 υ g1 g2 g3 g4 => by
        have m256 : popn K 8 ^ popn K 8 ≤ 256 := (by decide : ∀ m, m < 5 → m ^ m ≤ 256) _ d2
        obtain ⟨x, z1, z2, z3, z4, z5, z6⟩ := g4
        unfold F_X12_hidden_271
        rw [z4, if_neg (e1_n (by omega))]
        refine wp_bd2 (T_readsRow (show 1 ≤ popn K 8 ∧ popn K 8 < 5 by omega) (by omega) g2.1) (fun q ω hω => ?_)
        obtain ⟨k1, -, k3⟩ := hω
        rw [if_pos rfl]
        have rr : ∀ i, i < popn K 8 → rM (popn K 8) x i < popn K 8 := fun i _ => rM_lt (by omega)
        refine wp_bd2 (T_hides (κ := wKey W) hD rr (k1.EM (by decide) g3) (HM_fr g2 k1 (by decide)) (k3 z2)) (fun _ ρ hρ => ?_)
        have ew : putW W (kr (Hn K 8) (PhN W K) (rM (popn K 8) x) (wKey W) (popn K 8)) = rowW W (popn K 8) (Hn K 8) (PhN W K) c := by
          unfold rowW
          rw [z3, kr_r (popn K 8) (fun j hj => (cv_row (popn K 8) d2 d1 x z1 j hj).symm)]
        rw [ew] at hρ
        unfold F_X12_hidden_297
        rw [if_neg (show ¬ (11 : Int32) ≤ 9 by decide)]
        refine wp_some ⟨z5, REL σ3 ρ _ f3 ((g1.tr (k1.mono (by decide))).tr (hρ.1.mono (by decide))) w0' rfl p2 hρ.2⟩)
      subst e3'
      refine Both.mk (σ1 := σ3) (σ2 := σ2) (r := nI d) ?_ e2' e4'
      rw [C62]
      unfold F_X11_hidden_62
      rw [ea, bd_s, if_neg nd, if_pos (Or.inr rfl), if_pos rfl, if_pos rfl, ep, bd_s]
    by_cases z10 : x2 = 10
    · subst z10
      obtain ⟨r, σ2, e2', e3', e4'⟩ := REF σ1 f1' (fun r υ => r = nI d ∧ Rel (n + 1) υ) (fun x5 x6 υ g1 g2 g3 g4 => rd x5 x6 υ g1 g2 g3 g4 _ (fun ω k1 k2 k3 k4 k5 => by
        rw [if_neg (show ¬ (10 : Int32) = 11 by decide)]
        unfold F_X12_hidden_297
        rw [if_neg (show ¬ (10 : Int32) ≤ 9 by decide)]
        exact wp_some ⟨k5, REL σ1 ω W f1' k1 w0 rfl hC1 k3⟩))
      subst e3'
      refine Both.mk (σ1 := σ1) (σ2 := σ2) (r := nI d) ?_ e2' e4'
      rw [C62]
      unfold F_X11_hidden_62
      rw [ea, bd_s, if_neg nd, if_pos (Or.inl rfl), if_pos rfl, if_neg (show ¬ (10 : Int32) = 11 by decide)]
    have nz : ¬ (x2 = 10 ∨ x2 = 11) := fun z => z.elim z10 z11
    obtain ⟨y, y1, rfl, y3, y4, y5⟩ := which nz
    obtain ⟨r, σ2, e2', e3', e4'⟩ := REF σ1 f1' (fun r υ => r = nI (Hn K 8 (rC (popn K 8) c y)) ∧ Rel (n + 1) υ) (fun x5 x6 υ g1 g2 g3 g4 => rd x5 x6 υ g1 g2 g3 g4 _ (fun ω k1 k2 k3 k4 k5 => by
      rw [if_neg z11]
      unfold F_X12_hidden_297
      rw [if_pos (by rw [show (9 : Int32) = nI 9 from rfl, nI_lep (by omega)]; omega), T_whichM hD rl k2 k4 y1 y5]
      exact wp_some ⟨rfl, REL σ1 ω W f1' k1 w0 rfl hC1 k3⟩))
    subst e3'
    refine Both.mk (σ1 := σ1) (σ2 := σ2) (r := nI (Hn K 8 (rC (popn K 8) c y))) ?_ e2' e4'
    rw [C62]
    unfold F_X11_hidden_62
    rw [ea, bd_s, if_neg nd, if_neg nz, if_neg N0, T_which hD rl hH1 b5 y1 y5, bd_s]
