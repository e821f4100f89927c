/-! PURE: the law's loop -/
theorem pu_I {n : Nat} {f g : zSt → Option (Int32 × zSt)} {σ : zSt} {K : zSt → Option (Int32 × zSt)} (hB : Both n f g σ) (hK : ∀ s, Rel (n + 1) s → ∃ τ : zSt, K s = some ((1 : Int32), τ)) : ∃ τ : zSt, bd (f σ) (fun q s => bd (g s) (fun q' s' => if q = q' then K s' else some ((0 : Int32), s'))) = some ((1 : Int32), τ) := by
  obtain ⟨r, σ1, σ2, h1, h2, h3⟩ := hB
  rw [h1, bd_s, h2, bd_s, if_pos rfl]
  exact hK σ2 h3
theorem lg_self {x : Int64} : lg_cmp x x = 0 := by
  unfold lg_cmp
  rw [if_neg (fun h => absurd (Int64.lt_iff_toInt_lt.mp h) (Int.lt_irrefl _)), if_pos rfl]
theorem pu_L {n : Nat} {f g : zSt → Option (Int64 × zSt)} {σ : zSt} {K : zSt → Option (Int32 × zSt)} (hB : Both n f g σ) (hK : ∀ s, Rel (n + 1) s → ∃ τ : zSt, K s = some ((1 : Int32), τ)) : ∃ τ : zSt, bd (f σ) (fun q s => bd (g s) (fun q' s' => if (lg_cmp q q') = 0 then K s' else some ((0 : Int32), s'))) = some ((1 : Int32), τ) := by
  obtain ⟨r, σ1, σ2, h1, h2, h3⟩ := hB
  rw [h1, bd_s, h2, bd_s, if_pos lg_self]
  exact hK σ2 h3
theorem if01 {x : Int32} : (if x = 0 then (0 : Int32) else 1) = 0 ∨ (if x = 0 then (0 : Int32) else 1) = 1 := by
  by_cases q : x = 0
  · rw [if_pos q]
    exact Or.inl rfl
  · rw [if_neg q]
    exact Or.inr rfl
theorem pu_step {L k : Nat} {xs : Nat → Int32} {w : (Int32 × zSt) → Option (Int32 × zSt)} {σ : zSt} (hL : L ≤ 3072) (hk : 6 * k + 6 ≤ L) (hR : Rel k σ) (hw : ∀ s, Rel (k + 1) s → ∃ τ : zSt, w (nI (6 * k + 6), s) = some ((1 : Int32), τ)) : ∃ τ : zSt, F_L_law_18 L xs w (nI (6 * k)) σ = some ((1 : Int32), τ) := by
  have hn : k < 512 := by omega
  have hK : ∀ s, Rel (k + 1) s → ∃ τ : zSt, F_L_law_1106 L xs w (nI (6 * k)) s = some ((1 : Int32), τ) := by
    intro s hs
    unfold F_L_law_1106
    rw [show nI (6 * k) + (6 : Int32) = nI (6 * k + 6) from nI_add (6 * k) 6, nm_s]
    exact hw s hs
  have g0 : ∀ (x : Option (Int32 × zSt)), gd (vp_in (nI (6 * k)) L) x = x := fun x => gd_n (by omega)
  have a1 : nI (6 * k) + (1 : Int32) = nI (6 * k + 1) := nI_add (6 * k) 1
  have a2 : nI (6 * k) + (2 : Int32) = nI (6 * k + 2) := nI_add (6 * k) 2
  have a3 : nI (6 * k) + (3 : Int32) = nI (6 * k + 3) := nI_add (6 * k) 3
  have a4 : nI (6 * k) + (4 : Int32) = nI (6 * k + 4) := nI_add (6 * k) 4
  have a5 : nI (6 * k) + (5 : Int32) = nI (6 * k + 5) := nI_add (6 * k) 5
  have g1 : ∀ (x : Option (Int32 × zSt)), gd (vp_in (nI (6 * k + 1)) L) x = x := fun x => gd_n (by omega)
  have g2 : ∀ (x : Option (Int32 × zSt)), gd (vp_in (nI (6 * k + 2)) L) x = x := fun x => gd_n (by omega)
  have g3 : ∀ (x : Option (Int32 × zSt)), gd (vp_in (nI (6 * k + 3)) L) x = x := fun x => gd_n (by omega)
  have g4 : ∀ (x : Option (Int32 × zSt)), gd (vp_in (nI (6 * k + 4)) L) x = x := fun x => gd_n (by omega)
  have g5 : ∀ (x : Option (Int32 × zSt)), gd (vp_in (nI (6 * k + 5)) L) x = x := fun x => gd_n (by omega)
  have e6 : ¬ ((Int32.ofNat L) - (6 : Int32)) < nI (6 * k) := by
    rw [show Int32.ofNat L - (6 : Int32) = nI (L - 6) from pk_sub (a := L) (b := 6) (by omega), nI_ltp (by omega)]
    omega
  unfold F_L_law_18
  rw [if_neg e6, g0, nm_s]
  generalize (xs (nI (6 * k)).toNatClampNeg) &&& (31 : Int32) = v2
  simp only [a1, a2, a3, a4, a5, g1, g2, g3, g4, g5, nm_s]
  by_cases c0 : v2 = (0 : Int32)
  · rw [if_pos c0]
    exact pu_I (s_way hn hR _ _ _) hK
  rw [if_neg c0]
  by_cases c1 : v2 = (1 : Int32)
  · rw [if_pos c1]
    exact pu_I (s_place hn hR _ _ _ _) hK
  rw [if_neg c1]
  by_cases c2 : v2 = (2 : Int32)
  · rw [if_pos c2]
    exact pu_I (s_more hn hR _ _ _) hK
  rw [if_neg c2]
  by_cases c3 : v2 = (3 : Int32)
  · rw [if_pos c3]
    exact pu_I (s_key hn hR _ _) hK
  rw [if_neg c3]
  by_cases c4 : v2 = (4 : Int32)
  · rw [if_pos c4]
    exact pu_I (s_heart hn hR _) hK
  rw [if_neg c4]
  by_cases c5 : v2 = (5 : Int32)
  · rw [if_pos c5]
    exact pu_I (s_feed hn hR _ _ _ _ _) hK
  rw [if_neg c5]
  by_cases c6 : v2 = (6 : Int32)
  · rw [if_pos c6]
    exact pu_I (s_law hn hR _) hK
  rw [if_neg c6]
  by_cases c7 : v2 = (7 : Int32)
  · rw [if_pos c7]
    exact pu_I (s_tale hn hR _ _) hK
  rw [if_neg c7]
  by_cases c8 : v2 = (8 : Int32)
  · rw [if_pos c8]
    exact pu_I (s_soonest hn hR _) hK
  rw [if_neg c8]
  by_cases c9 : v2 = (9 : Int32)
  · rw [if_pos c9]
    exact pu_I (s_plan hn hR _) hK
  rw [if_neg c9]
  by_cases c10 : v2 = (10 : Int32)
  · rw [if_pos c10]
    exact pu_I (s_missed hn hR _) hK
  rw [if_neg c10]
  by_cases c11 : v2 = (11 : Int32)
  · rw [if_pos c11]
    exact pu_I (s_hidden hn hR _ _) hK
  rw [if_neg c11]
  by_cases c12 : v2 = (12 : Int32)
  · rw [if_pos c12]
    exact pu_I (s_night hn hR _) hK
  rw [if_neg c12]
  by_cases c13 : v2 = (13 : Int32)
  · rw [if_pos c13]
    exact pu_I (s_tried hn hR _ _) hK
  rw [if_neg c13]
  by_cases c14 : v2 = (14 : Int32)
  · rw [if_pos c14]
    exact pu_L (s_story hn hR _ _ _) hK
  rw [if_neg c14]
  by_cases c15 : v2 = (15 : Int32)
  · rw [if_pos c15]
    exact pu_L (s_toDust hn hR _ _ _) hK
  rw [if_neg c15]
  by_cases c16 : v2 = (16 : Int32)
  · rw [if_pos c16]
    exact pu_L (s_lots hn hR _ _) hK
  rw [if_neg c16]
  by_cases c17 : v2 = (17 : Int32)
  · rw [if_pos c17]
    exact pu_I (s_egg hn hR _ _ if01) hK
  rw [if_neg c17]
  by_cases c18 : v2 = (18 : Int32)
  · rw [if_pos c18]
    exact pu_I (s_test hn hR _ _) hK
  rw [if_neg c18]
  by_cases c19 : v2 = (19 : Int32)
  · rw [if_pos c19]
    exact pu_I (s_apart hn hR _) hK
  rw [if_neg c19]
  by_cases c20 : v2 = (20 : Int32)
  · rw [if_pos c20]
    exact pu_I (s_alike hn hR _ _) hK
  rw [if_neg c20]
  by_cases c21 : v2 = (21 : Int32)
  · rw [if_pos c21]
    exact pu_I (s_owes hn hR _ _) hK
  rw [if_neg c21]
  by_cases c22 : v2 = (22 : Int32)
  · rw [if_pos c22]
    exact pu_I (s_rings hn hR _ _) hK
  rw [if_neg c22]
  by_cases c23 : v2 = (23 : Int32)
  · rw [if_pos c23]
    exact pu_I (s_placeIs hn hR _ _) hK
  rw [if_neg c23]
  by_cases c24 : v2 = (24 : Int32)
  · rw [if_pos c24]
    exact pu_I (s_seed hn hR _) hK
  rw [if_neg c24]
  by_cases c25 : v2 = (25 : Int32)
  · rw [if_pos c25]
    exact pu_I (s_keep hn hR) hK
  rw [if_neg c25]
  by_cases c26 : v2 = (26 : Int32)
  · rw [if_pos c26]
    exact pu_I (s_undo hn hR) hK
  rw [if_neg c26]
  by_cases c27 : v2 = (27 : Int32)
  · rw [if_pos c27]
    exact pu_I (s_check hn hR _) hK
  rw [if_neg c27]
  by_cases c28 : v2 = (28 : Int32)
  · rw [if_pos c28]
    exact pu_I (s_count hn hR _) hK
  rw [if_neg c28]
  exact hK σ (Rel_up hn hR)
theorem pu_loop {L : Nat} {xs : Nat → Int32} (hL : L ≤ 3072) : ∀ d k f (σ : zSt), k + d = L / 6 → d < f → Rel k σ → ∃ τ : zSt, zfix (F_L_law_18L L xs) f (nI (6 * k), σ) = some ((1 : Int32), τ) := by
  intro d
  induction d with
  | zero =>
    intro k f σ h1 h2 hR
    obtain ⟨f, rfl⟩ : ∃ x, f = x + 1 := ⟨f - 1, by omega⟩
    show ∃ τ : zSt, F_L_law_18 L xs (zfix (F_L_law_18L L xs) f) (nI (6 * k)) σ = _
    have e6 : ((Int32.ofNat L) - (6 : Int32)) < nI (6 * k) := by
      rw [i_lt, i_nI (by omega)]
      have e : (Int32.ofNat L - (6 : Int32)).toInt = (L : Int) - 6 := by
        exact pk_sub_toInt (a := L) (b := 6) (by omega) (by omega)
      rw [e]
      omega
    unfold F_L_law_18
    rw [if_pos e6]
    exact ⟨σ, rfl⟩
  | succ d ih =>
    intro k f σ h1 h2 hR
    obtain ⟨f, rfl⟩ : ∃ x, f = x + 1 := ⟨f - 1, by omega⟩
    show ∃ τ : zSt, F_L_law_18 L xs (zfix (F_L_law_18L L xs) f) (nI (6 * k)) σ = _
    refine pu_step hL (by omega) hR (fun s hs => ?_)
    have := ih (k + 1) f s (by omega) (by omega) hs
    rw [show 6 * (k + 1) = 6 * k + 6 by omega] at this
    exact this
def W00 : zWo := ((fun _ => 0, fun _ => 0), (fun _ => none, fun _ => none, fun _ => none, fun _ => none), (0, 0, 0), (1, 0, 8, 8))
theorem W00_ok : WOK W00 := ⟨fun _ _ => Nat.zero_le 30, fun _ _ => rfl, fun _ _ => (by decide : 0 < 4), fun _ _ _ h => (by cases h), fun _ _ _ h => (by cases h), fun _ _ _ h => (by cases h), fun _ _ _ h => (by cases h), (by decide : 0 < 256), (by decide : 0 < 256), (by decide : 0 < 8), (by decide : 0 ≤ 600), (by decide : 8 ≤ 8), (by decide : 8 ≤ 8), (by decide : 1 < 65536)⟩
theorem EC00 : EC 1 2 W00 zs_130 := ⟨by decide +kernel, by decide +kernel, by decide +kernel, by decide +kernel, by decide +kernel, by decide +kernel, by decide +kernel, by decide +kernel, by decide +kernel, by decide +kernel, by decide +kernel, by decide +kernel, by decide +kernel⟩
theorem EM00 : EM 70 0 W00 zs_130 := ⟨by decide +kernel, by decide +kernel, by decide +kernel, by decide +kernel, by decide +kernel, by decide +kernel, by decide +kernel, by decide +kernel, by decide +kernel, by decide +kernel, by decide +kernel, by decide +kernel, by decide +kernel⟩
theorem Rel00 : Rel 0 zs_130 := by
  refine ⟨by decide, ⟨W00, W00_ok, Nat.le_refl 0, EC00, EM00⟩, Or.inl ⟨by decide +kernel, by decide +kernel⟩, RT_0 (by decide +kernel) (by decide +kernel), ⟨0, by decide, by decide +kernel, by decide +kernel, Or.inl (by decide +kernel), fun c hc => absurd hc (Nat.not_lt_zero c)⟩, ⟨0, fun _ => 0, by decide, by decide +kernel, by decide +kernel, fun t ht => ⟨(by decide : 0 < 256), ?_, ?_⟩⟩, ⟨fun _ => none, fun i hi => ⟨fun j h => (by cases h), ?_, ?_⟩⟩⟩
  · have h : ∀ t, t < 6 → zs_130.1 66 t = nI 0 := by decide +kernel
    exact h t ht
  · have h : ∀ t, t < 6 → zs_130.1 103 t = nI 0 := by decide +kernel
    exact h t ht
  · have h : ∀ t, t < 12 → zs_130.1 68 t = -1 := by decide +kernel
    exact h i hi
  · have h : ∀ t, t < 12 → zs_130.1 104 t = -1 := by decide +kernel
    exact h i hi
theorem PURE : ∀ (L : Nat) (xs : Nat → Int32), L ≤ 3072 → ∃ τ : zSt, zfix (F_L_law_18L L xs) zlim ((0 : Int32), zs_130) = some ((1 : Int32), τ) := by
  intro L xs hL
  exact pu_loop hL (L / 6) 0 zlim zs_130 (Nat.zero_add _) (by show L / 6 < 1000000; omega) Rel00
