/-! PURE: the seeker enters, arrives, acts -/
theorem zPo_e : ∀ b, b < 3 → zPo b = nI (3 ^ b) ∧ ¬ zPo b = 0 := by decide +kernel
theorem T_done {σ : zSt} {B b : Nat} (e : σ.1 17 9 = nI B) (hB : B < 27) (hb : b < 3) : F_X5_done (nI b) σ = some (nI (dgt B b), σ) := by
  obtain ⟨p1, p2⟩ := zPo_e b hb
  have hp : 0 < 3 ^ b := Nat.pow_pos (by decide)
  have hp2 : 3 ^ b ≤ 3 ^ 2 := Nat.pow_le_pow_right (by decide) (by omega)
  have hq : B / 3 ^ b ≤ B := Nat.div_le_self _ _
  unfold F_X5_done F_X5_done_0 dgt
  rw [if_neg (nI_pos (by omega)), if_neg (by rw [show (3 : Int32) = nI 3 from rfl, nI_lep (by omega)]; omega), gd_n (by omega), nI_cl (by omega), gd_t p2, p1, e, pk_div (by omega) hp (by omega), show (3 : Int32) = nI 3 from rfl, nI_mod (by omega)]
theorem dgt_lt {B b : Nat} : dgt B b < 3 := Nat.mod_lt _ (by decide)
theorem T_gather {W : zWo} {σ : zSt} (hK : ∀ k, k < 8 → ∀ x, wKey W k = some x → x < 11) (hS : ∀ k, k < 8 → σ.1 21 k = e1 (wKey W k)) {O B : Nat} (hO : O < 256) (hB : B < 27) (e8 : σ.1 17 8 = nI O) (e9 : σ.1 17 9 = nI B) : wp (F_X5_gatherKeys σ) (fun _ τ => fr [] [(17, 10)] σ τ ∧ τ.1 17 10 = nI (hadW W O B)) := by
  unfold F_X5_gatherKeys F_X5_gatherKeys_0
  rw [nm_s]
  refine wp_for (fun k s => s.1 = nI k ∧ fr [] [(17, 10)] σ s.2 ∧ s.2.1 17 10 = nI (bset (hasK W O B) k)) 8 (by decide) (fun k w s hk hI hw => ?_) (fun w s hI => ?_) ⟨rfl, fr_w (Or.inr (by decide)), zwr_at⟩
  · obtain ⟨x, τ⟩ := s
    obtain ⟨i1, i2, i3⟩ := hI
    simp only at i1 i2 i3
    subst i1
    show wp (F_X5_gatherKeys_7 w (nI k) τ) _
    have e21 : τ.1 21 k = e1 (wKey W k) := (i2.rd (by simp) (by simp)).trans (hS k hk)
    have t8 : τ.1 17 8 = nI O := (i2.rd (by decide) (by decide)).trans e8
    have t9 : τ.1 17 9 = nI B := (i2.rd (by decide) (by decide)).trans e9
    have tail : ∀ v : Int32, (v = if hasK W O B k then (1 : Int32) <<< (nI k &&& 31) else 0) → wp (w (nI (k + 1), zwr τ 17 10 (nI (bset (hasK W O B) k) ||| v))) (fun _ τ => fr [] [(17, 10)] σ τ ∧ τ.1 17 10 = nI (hadW W O B)) := by
      intro v hv
      refine hw _ ⟨rfl, i2.w (Or.inr (by decide)), ?_⟩
      rw [zwr_at]
      exact bset_s hk hv
    unfold F_X5_gatherKeys_7 F_X5_gatherKeys_42 F_X5_gatherKeys_43
    rw [if_neg (by rw [show (8 : Int32) = nI 8 from rfl, nI_lep (by omega)]; omega), gd_n (by omega), nI_cl (by omega), e21, nm_s]
    cases hk0 : wKey W k with
    | none =>
      have hh : hasK W O B k = false := by unfold hasK; rw [hk0]
      rw [if_pos (show e1 none < 8 by decide), if_pos (show e1 none < 0 by decide), nm_s, if_pos (show (0 : Int32) = 0 from rfl), if_pos (show (0 : Int32) = 0 from rfl), nm_s, nm_s, nm_s, i3, nI_1]
      exact tail _ (by rw [hh]; rfl)
    | some x =>
      have hx := hK k hk x hk0
      by_cases q : x < 8
      · have hh : hasK W O B k = O.testBit x := by unfold hasK; rw [hk0]; exact if_pos q
        rw [if_pos (show e1 (some x) < 8 from by rw [show e1 (some x) = nI x from rfl, show (8 : Int32) = nI 8 from rfl, nI_ltp (by omega)]; exact q), if_neg (show ¬ e1 (some x) < 0 from nI_pos (by omega)), if_neg (show ¬ (8 : Int32) ≤ e1 (some x) from by rw [show e1 (some x) = nI x from rfl, show (8 : Int32) = nI 8 from rfl, nI_lep (by omega)]; omega), t8, i3, nI_1]
        by_cases r : O.testBit x = true
        · rw [if_pos (show ((nI O >>> (e1 (some x) &&& 31)) &&& (1 : Int32)) = 1 from (bit_is hO q).mpr r), nm_s, if_pos (show (0 : Int32) = 0 from rfl), if_neg (show ¬ (1 : Int32) = 0 by decide), nm_s, nm_s, nm_s]
          exact tail _ (by rw [hh, if_pos r])
        · rw [if_neg (show ¬ ((nI O >>> (e1 (some x) &&& 31)) &&& (1 : Int32)) = 1 from fun z => r ((bit_is hO q).mp z)), nm_s, if_pos (show (0 : Int32) = 0 from rfl), if_pos (show (0 : Int32) = 0 from rfl), nm_s, nm_s, nm_s]
          exact tail _ (by rw [hh, if_neg r])
      · have hh : hasK W O B k = decide (dgt B (x - 8) = 2) := by unfold hasK; rw [hk0]; exact if_neg q
        have d3 := dgt_lt (B := B) (b := x - 8)
        rw [if_neg (show ¬ e1 (some x) < 8 from by rw [show e1 (some x) = nI x from rfl, show (8 : Int32) = nI 8 from rfl, nI_ltp (by omega)]; exact q), show e1 (some x) - 8 = nI (x - 8) from pk_sub (b := 8) (by omega), T_done t9 hB (by omega), bd_s, if_neg (show ¬ e1 (some x) < 0 from nI_pos (by omega)), if_pos (show (8 : Int32) ≤ e1 (some x) from by rw [show e1 (some x) = nI x from rfl, show (8 : Int32) = nI 8 from rfl, nI_lep (by omega)]; omega), i3, nI_1, show (2 : Int32) = nI 2 from rfl, if_eqI (by omega)]
        by_cases r : dgt B (x - 8) = 2
        · rw [if_pos r, nm_s, nm_s, if_neg (show ¬ (1 : Int32) = 0 by decide), nm_s, nm_s, nm_s]
          exact tail _ (by rw [hh, if_pos (decide_eq_true r)])
        · rw [if_neg r, nm_s, nm_s, if_pos (show (0 : Int32) = 0 from rfl), if_pos (show (0 : Int32) = 0 from rfl), nm_s, nm_s, nm_s]
          exact tail _ (by rw [hh, if_neg (by simpa using r)])
  · obtain ⟨x, τ⟩ := s
    obtain ⟨i1, i2, i3⟩ := hI
    simp only at i1 i2 i3
    subst i1
    show wp (F_X5_gatherKeys_7 w (nI 8) τ) _
    unfold F_X5_gatherKeys_7
    rw [if_pos (show (8 : Int32) ≤ nI 8 by decide)]
    exact wp_some ⟨i2, i3⟩
theorem hadW_lt {W : zWo} {O B : Nat} : hadW W O B < 256 := bset_lt _ 8 (Nat.le_refl 8)
theorem hadW_bit {W : zWo} {O B k : Nat} (hk : k < 8) : (hadW W O B).testBit k = hasK W O B k := by
  unfold hadW
  rw [bset_bit, decide_eq_true hk, Bool.true_and]
theorem freeW_lt {W : zWo} {O : Nat} : freeW W O < 256 := bset_lt _ 8 (Nat.le_refl 8)
theorem unlW_lt {W : zWo} {O B : Nat} : unlW W O B < 256 := bset_lt _ 8 (Nat.le_refl 8)
theorem T_findOp {W : zWo} {σ : zSt} (hW : WOK W) (hS : SK W σ) {O B : Nat} (hO : O < 256) (hB : B < 27) (e8 : σ.1 17 8 = nI O) (e9 : σ.1 17 9 = nI B) (e10 : σ.1 17 10 = nI (hadW W O B)) : wp (F_X5_findOpenable σ) (fun _ τ => fr [] [(17, 12), (17, 13), (17, 14)] σ τ ∧ τ.1 17 12 = nI (bykW W O B) ∧ τ.1 17 13 = nI (bywW W O B) ∧ τ.1 17 14 = nI (bysW W O B)) := by
  obtain ⟨s1, s2, s3, s4, s5, s6, s7, s8, s9⟩ := hS
  unfold F_X5_findOpenable F_X5_findOpenable_0
  refine wp_for (fun p s => s.1 = nI (bset (fun p => subB (ancs W p) O) p) ∧ s.2.1 = nI (bset (lokB W O B) p) ∧ s.2.2.1 = nI p ∧ s.2.2.2 = σ) 8 (by decide) (fun p w s hp hI hw => ?_) (fun w s hI => ?_) ⟨rfl, rfl, rfl, rfl⟩
  · obtain ⟨x1, x2, x3, τ⟩ := s
    obtain ⟨i1, i2, i3, i4⟩ := hI
    simp only at i1 i2 i3 i4
    subst i1 i2 i3 i4
    show wp (F_X5_findOpenable_6 w _ _ (nI p) τ) _
    have a8 := ancs_lt hW hp
    have v1 : (if ((τ.1 20 p) &&& ((τ.1 17 8) ^^^ (-1 : Int32))) = 0 then ((1 : Int32) <<< (nI p &&& 31)) else (0 : Int32)) = if subB (ancs W p) O then (1 : Int32) <<< (nI p &&& 31) else 0 := by
      rw [s3 p hp, e8, nI_andn a8 hO]
      have lt : ancs W p &&& (O ^^^ 255) < 256 := and_lt a8
      by_cases q : ancs W p &&& (O ^^^ 255) = 0
      · rw [if_pos (by rw [q]; rfl), if_pos (show subB (ancs W p) O = true from decide_eq_true q)]
      · rw [if_neg (by rw [nI_e0 (by omega)]; exact q), if_neg (show ¬ subB (ancs W p) O = true by unfold subB; simpa using q)]
    have v2 : (if (τ.1 5 p) = (-1 : Int32) then ((1 : Int32) <<< (nI p &&& 31)) else (if (((τ.1 17 10) >>> ((τ.1 5 p) &&& 31)) &&& (1 : Int32)) = (1 : Int32) then ((1 : Int32) <<< (nI p &&& 31)) else (0 : Int32))) = if lokB W O B p then (1 : Int32) <<< (nI p &&& 31) else 0 := by
      rw [s7 p hp, e10]
      unfold lokB
      cases q : wLok W p with
      | none => rw [if_pos (show e1 none = -1 from rfl), if_pos rfl]
      | some k =>
        have hk := hW.lok p k hp q
        rw [if_neg (show ¬ e1 (some k) = -1 from e1_n (by omega))]
        show (if ((nI (hadW W O B) >>> (nI k &&& 31)) &&& (1 : Int32)) = 1 then _ else _) = if hasK W O B k = true then _ else _
        by_cases r : hasK W O B k = true
        · rw [if_pos ((bit_is hadW_lt hk).mpr (by rw [hadW_bit hk]; exact r)), if_pos r]
        · rw [if_neg (fun z => r (by rw [← hadW_bit hk]; exact (bit_is hadW_lt hk).mp z)), if_neg r]
    unfold F_X5_findOpenable_6
    rw [if_neg (by rw [show (8 : Int32) = nI 8 from rfl, nI_lep (by omega)]; omega), gd_n (by omega), nI_cl (by omega), nm_s, gd_n (by omega), v1, v2, nm_s, nm_s, nm_s, nm_s, nm_s, nI_1]
    exact hw _ ⟨bset_s hp rfl, bset_s hp rfl, rfl, rfl⟩
  · obtain ⟨x1, x2, x3, τ⟩ := s
    obtain ⟨i1, i2, i3, i4⟩ := hI
    simp only at i1 i2 i3 i4
    subst i1 i2 i3 i4
    show wp (F_X5_findOpenable_6 w _ _ (nI 8) τ) _
    unfold F_X5_findOpenable_6 F_X5_findOpenable_84
    rw [if_pos (show (8 : Int32) ≤ nI 8 by decide)]
    have hF : bset (fun p => subB (ancs W p) O) 8 = freeW W O := rfl
    have hU : bset (lokB W O B) 8 = unlW W O B := rfl
    rw [hF, hU, e8, nI_nand freeW_lt hO, nI_and]
    refine wp_let (fun a ha => ?_)
    have fa : fr [] [(17, 12), (17, 13), (17, 14)] τ a := ha ▸ fr_w (Or.inr (by decide))
    have a12 : a.1 17 12 = nI (bykW W O B) := by rw [ha, zwr_at]; rfl
    have D1 : F_X5_done 1 a = some (nI (dgt B 1), a) := T_done (b := 1) ((fa.rd (by decide) (by decide)).trans e9) hB (by decide)
    have V1 : (if nI (dgt B 1) = 0 then ((((a.1 17 8) ^^^ (-1 : Int32)) &&& nI (freeW W O)) &&& ((a.1 1 7) ^^^ (-1 : Int32))) else (0 : Int32)) = nI (bywW W O B) := by
      rw [fa.rd (c := 17) (j := 8) (by decide) (by decide), e8, fa.rd (c := 1) (j := 7) (by decide) (by decide), s8, nI_nand freeW_lt hO, nI_andn (and_lt freeW_lt) hW.wet]
      have d3 := dgt_lt (B := B) (b := 1)
      unfold bywW
      by_cases q : dgt B 1 = 0
      · rw [if_pos (by rw [q]; rfl), if_pos q]
      · rw [if_neg (by rw [nI_e0 (by omega)]; exact q), if_neg q]
        rfl
    rw [D1, bd_s, V1]
    refine wp_let (fun v hv => ?_)
    subst hv
    refine wp_let (fun c hc => ?_)
    have fc : fr [] [(17, 12), (17, 13), (17, 14)] τ c := hc ▸ fa.w (Or.inr (by decide))
    have D2 : F_X5_done 2 c = some (nI (dgt B 2), c) := T_done (b := 2) ((fc.rd (by decide) (by decide)).trans e9) hB (by decide)
    have V2 : (if nI (dgt B 2) = 0 then (((c.1 17 8) ^^^ (-1 : Int32)) &&& (c.1 1 7)) else (0 : Int32)) = nI (bysW W O B) := by
      rw [fc.rd (c := 17) (j := 8) (by decide) (by decide), e8, fc.rd (c := 1) (j := 7) (by decide) (by decide), s8, nI_nand hW.wet hO]
      have d3 := dgt_lt (B := B) (b := 2)
      unfold bysW
      by_cases q : dgt B 2 = 0
      · rw [if_pos (by rw [q]; rfl), if_pos q]
      · rw [if_neg (by rw [nI_e0 (by omega)]; exact q), if_neg q]
        rfl
    rw [D2, bd_s, V2]
    refine wp_let (fun v hv => ?_)
    subst hv
    refine wp_let (fun d hd => ?_)
    refine wp_some ⟨hd ▸ fc.w (Or.inr (by decide)), ?_, ?_, ?_⟩
    · rw [hd, zwr_ne (Or.inr (by decide)), hc, zwr_ne (Or.inr (by decide)), a12]
    · rw [hd, zwr_ne (Or.inr (by decide)), hc, zwr_at]
    · rw [hd, zwr_at]
def EN (W : zWo) (O B : Nat) (σ : zSt) : Prop := σ.1 17 8 = nI O ∧ σ.1 17 9 = nI B ∧ σ.1 17 10 = nI (hadW W O B) ∧ σ.1 17 11 = nI (ravW B) ∧ σ.1 17 12 = nI (bykW W O B) ∧ σ.1 17 13 = nI (bywW W O B) ∧ σ.1 17 14 = nI (bysW W O B) ∧ σ.1 23 5 = nI (givW W B)
def SE : List (Nat × Nat) := [(17, 8), (17, 9), (17, 10), (17, 11), (17, 12), (17, 13), (17, 14)]
theorem T_enter {W : zWo} {σ : zSt} (hW : WOK W) (hS : SK W σ) {O B : Nat} (hO : O < 256) (hB : B < 27) : wp (F_X5_enter (nI (27 * O + B)) σ) (fun _ τ => fr [23] SE σ τ ∧ EN W O B τ) := by
  have hK : ∀ k, k < 8 → ∀ x, wKey W k = some x → x < 11 := by
    intro k hk x hx
    rcases hW.key k x hk hx with h | h
    · have := wIs_lt h
      omega
    · omega
  have m27 : nI (27 * O + B) % (27 : Int32) = nI B := by
    rw [show (27 : Int32) = nI 27 from rfl, nI_mod (by omega), show (27 * O + B) % 27 = B by omega]
  have d27 : nI (27 * O + B) / (27 : Int32) = nI O := by
    rw [show (27 : Int32) = nI 27 from rfl, pk_div (by omega) (by decide) (by decide), show (27 * O + B) / 27 = O by omega]
  unfold F_X5_enter F_X5_enter_0
  rw [m27, d27]
  refine wp_let (fun a ha => ?_)
  refine wp_let (fun b hb => ?_)
  have fb : fr [23] SE σ b := by
    rw [hb, ha]
    exact (fr_w (Or.inr (by decide))).w (Or.inr (by decide))
  have b8 : b.1 17 8 = nI O := by rw [hb, zwr_at]
  have b9 : b.1 17 9 = nI B := by rw [hb, zwr_ne (Or.inr (by decide)), ha, zwr_at]
  have sb1 := SK_fr hS fb (by decide)
  refine wp_bd2 (T_gather hK sb1.2.2.2.1 hO hB b8 b9) (fun _ c hc => ?_)
  obtain ⟨c1, c2⟩ := hc
  have fc : fr [23] SE σ c := fb.tr (c1.mono (by decide))
  have c8 : c.1 17 8 = nI O := (c1.rd (by decide) (by decide)).trans b8
  have c9 : c.1 17 9 = nI B := (c1.rd (by decide) (by decide)).trans b9
  refine wp_bd2 (T_findOp hW (SK_fr hS fc (by decide)) hO hB c8 c9 c2) (fun _ d hd => ?_)
  obtain ⟨d1, d2, d3, d4⟩ := hd
  have fd : fr [23] SE σ d := fc.tr (d1.mono (by decide))
  have d8 : d.1 17 8 = nI O := (d1.rd (by decide) (by decide)).trans c8
  have d9 : d.1 17 9 = nI B := (d1.rd (by decide) (by decide)).trans c9
  have d10 : d.1 17 10 = nI (hadW W O B) := (d1.rd (by decide) (by decide)).trans c2
  have D0 : F_X5_done 0 d = some (nI (dgt B 0), d) := T_done (b := 0) d9 hB (by decide)
  have V0 : (if nI (dgt B 0) = 0 then (15 : Int32) else (0 : Int32)) = nI (ravW B) := by
    have l3 := dgt_lt (B := B) (b := 0)
    unfold ravW
    by_cases q : dgt B 0 = 0
    · rw [if_pos (by rw [q]; rfl), if_pos q]
      rfl
    · rw [if_neg (by rw [nI_e0 (by omega)]; exact q), if_neg q]
      rfl
  rw [D0, bd_s, V0]
  refine wp_let (fun v hv => ?_)
  subst hv
  refine wp_let (fun e he => ?_)
  refine wp_let (fun f hf => ?_)
  have ff : fr [23] SE σ f := by
    rw [hf, he]
    exact (fd.w (Or.inr (by decide))).w (Or.inl (by decide))
  have g : ∀ k, k ≠ 11 → f.1 17 k = d.1 17 k := by
    intro k hk
    rw [hf, zwr_ne (Or.inl (by decide)), he, zwr_ne (Or.inr hk)]
  have g11 : f.1 17 11 = nI (ravW B) := by rw [hf, zwr_ne (Or.inl (by decide)), he, zwr_at]
  refine wp_for (fun k s => s.1 = nI k ∧ fr [] [(23, 5)] f s.2 ∧ s.2.1 23 5 = nI (bset (fun b => decide (dgt B b = 0) && decide (keysW W (8 + b) ≠ 0)) k)) 3 (by decide) (fun k w s hk hI hw => ?_) (fun w s hI => ?_) ⟨rfl, fr.rf, by rw [hf, zwr_at]; rfl⟩
  · obtain ⟨x, τ⟩ := s
    obtain ⟨i1, i2, i3⟩ := hI
    simp only at i1 i2 i3
    subst i1
    show wp (F_X5_enter_51 w (nI k) τ) _
    have t9 : τ.1 17 9 = nI B := (i2.rd (by decide) (by decide)).trans ((g 9 (by decide)).trans d9)
    have t22 : τ.1 22 k = nI (keysW W (8 + k)) := (SK_fr hS (ff.tr (i2.mono (by decide))) (by decide)).2.2.2.2.1 k hk
    have kl := keysW_lt W (8 + k)
    have l3 := dgt_lt (B := B) (b := k)
    unfold F_X5_enter_51 F_X5_enter_86 F_X5_enter_87
    rw [if_neg (by rw [show (3 : Int32) = nI 3 from rfl, nI_lep (by omega)]; omega), T_done t9 hB hk, bd_s, i3, gd_n (by omega), nI_cl (by omega), t22]
    by_cases q : dgt B k = 0
    · rw [if_pos (by rw [q]; rfl)]
      have V : (if nI (keysW W (8 + k)) = 0 then (0 : Int32) else ((1 : Int32) <<< (nI k &&& 31))) = if (decide (dgt B k = 0) && decide (keysW W (8 + k) ≠ 0)) then (1 : Int32) <<< (nI k &&& 31) else 0 := by
        rw [decide_eq_true q, Bool.true_and]
        by_cases z : keysW W (8 + k) = 0
        · rw [if_pos (by rw [z]; rfl), if_neg (by simpa using z)]
        · rw [if_neg (by rw [nI_e0 (by omega)]; exact z), if_pos (decide_eq_true z)]
      rw [V, nm_s, nm_s, nm_s, nI_1]
      refine hw _ ⟨rfl, i2.w (Or.inr (by decide)), ?_⟩
      rw [zwr_at]
      exact bset_s (by omega) rfl
    · rw [if_neg (by rw [nI_e0 (by omega)]; exact q), show (5 : Int32) = nI 5 from rfl, gd_n (by decide), nI_cl (by decide), nm_s, nm_s, nI_1]
      refine hw _ ⟨rfl, i2.w (Or.inr (by decide)), ?_⟩
      rw [zwr_at]
      refine bset_s (by omega) ?_
      rw [decide_eq_false q, Bool.false_and]
      rfl
  · obtain ⟨x, τ⟩ := s
    obtain ⟨i1, i2, i3⟩ := hI
    simp only at i1 i2 i3
    subst i1
    show wp (F_X5_enter_51 w (nI 3) τ) _
    unfold F_X5_enter_51
    rw [if_pos (show (3 : Int32) ≤ nI 3 by decide)]
    have h : ∀ k, k ≠ 11 → τ.1 17 k = d.1 17 k := fun k hk => (i2.rd (by simp) (by simp)).trans (g k hk)
    exact wp_some ⟨ff.tr (i2.mono (by decide)), (h 8 (by decide)).trans d8, (h 9 (by decide)).trans d9, (h 10 (by decide)).trans d10, (i2.rd (by decide) (by decide)).trans g11, (h 12 (by decide)).trans d2, (h 13 (by decide)).trans d3, (h 14 (by decide)).trans d4, i3⟩
theorem ploW_lt {W : zWo} {i : Nat} : ploW W i < 256 := bset_lt _ 8 (Nat.le_refl 8)
theorem wfrW_lt {W : zWo} {i : Nat} : wfrW W i < 256 := bset_lt _ 4 (by decide)
theorem givW_lt {W : zWo} {B : Nat} : givW W B < 256 := bset_lt _ 3 (by decide)
theorem bykW_lt {W : zWo} {O B : Nat} : bykW W O B < 256 := and_lt (and_lt freeW_lt)
theorem bywW_lt {W : zWo} {O B : Nat} : bywW W O B < 256 := by
  unfold bywW
  split
  · exact and_lt (and_lt freeW_lt)
  · decide
theorem bysW_lt {W : zWo} (hW : WOK W) {O B : Nat} : bysW W O B < 256 := by
  unfold bysW
  split
  · exact and_lt hW.wet
  · decide
theorem ravW_lt {B : Nat} : ravW B < 256 := by
  unfold ravW
  split <;> decide
/-- the seeker stands there -/
def ST (W : zWo) (O B i : Nat) (σ : zSt) : Prop := EN W O B σ ∧ σ.1 17 7 = nI i ∧ ∀ l, l < 6 → σ.1 23 l = nI (canW W O B i l)
theorem T_arrive {W : zWo} {σ : zSt} (hW : WOK W) (hS : SK W σ) {O B i : Nat} (hi : i < 4) (hE : EN W O B σ) : wp (F_X5_arrive (nI i) σ) (fun _ τ => fr [23] [(17, 7)] σ τ ∧ ST W O B i τ) := by
  obtain ⟨s1, s2, s3, s4, s5, s6, s7, s8, s9⟩ := hS
  obtain ⟨e1, e2, e3, e4, e5, e6, e7, e8⟩ := hE
  have a18 := s1 i hi
  have a19 := s2 i hi
  have E : F_X5_arrive (nI i) σ = some ((), zwr (zwr (zwr (zwr (zwr (zwr σ 17 7 (nI i)) 23 0 (nI (wfrW W i))) 23 1 (nI (ravW B &&& (255 - 2 ^ i)))) 23 2 (nI (bykW W O B &&& ploW W i))) 23 3 (nI (bywW W O B &&& ploW W i))) 23 4 (nI (bysW W O B &&& ploW W i))) := by
    unfold F_X5_arrive F_X5_arrive_0
    rw [if_neg (nI_pos (by omega)), if_pos (by rw [show (4 : Int32) = nI 4 from rfl, nI_ltp (by omega)]; exact hi)]
    simp (disch := omega) only [nm_s, gd_n, nI_cl, zwr_r, upd_r, Nat.reduceEqDiff, ↓reduceIte, a18, a19, e4, e5, e6, e7, bit_clr _ ravW_lt i (show i < 8 by omega), nI_and]
  refine wp_of E ⟨(((((fr_w (Or.inr (by decide))).w (Or.inl (by decide))).w (Or.inl (by decide))).w (Or.inl (by decide))).w (Or.inl (by decide))).w (Or.inl (by decide)), ?_, ?_, ?_⟩
  · refine ⟨?_, ?_, ?_, ?_, ?_, ?_, ?_, ?_⟩
    all_goals simp only [zwr_r, upd_r, Nat.reduceEqDiff, ↓reduceIte, e1, e2, e3, e4, e5, e6, e7, e8]
  · simp only [zwr_r, upd_r, Nat.reduceEqDiff, ↓reduceIte]
  · refine case6 ?_ ?_ ?_ ?_ ?_ ?_
    all_goals simp only [zwr_r, upd_r, Nat.reduceEqDiff, ↓reduceIte, canW, e8]
def cod (O B i : Nat) : Nat := 4 * (27 * O + B) + i
theorem T_stand {W : zWo} {σ : zSt} (hW : WOK W) (hS : SK W σ) {O B i : Nat} (hO : O < 256) (hB : B < 27) (hi : i < 4) : wp (F_X5_stand (nI (cod O B i)) σ) (fun _ τ => fr [23] ((17, 7) :: SE) σ τ ∧ ST W O B i τ) := by
  have mx : jmax (nI (cod O B i)) 0 = nI (cod O B i) := if_neg (nI_pos (by unfold cod; omega))
  have d4 : nI (cod O B i) / (4 : Int32) = nI (27 * O + B) := by
    rw [show (4 : Int32) = nI 4 from rfl, pk_div (by unfold cod; omega) (by decide) (by decide), show cod O B i / 4 = 27 * O + B by unfold cod; omega]
  have r4 : nI (cod O B i) % (4 : Int32) = nI i := by
    rw [show (4 : Int32) = nI 4 from rfl, nI_mod (by unfold cod; omega), show cod O B i % 4 = i by unfold cod; omega]
  unfold F_X5_stand F_X5_stand_0
  rw [mx, d4, r4]
  refine wp_bd2 (T_enter hW hS hO hB) (fun _ τ hτ => ?_)
  refine wp_bd2 (T_arrive hW (SK_fr hS hτ.1 (by decide)) hi hτ.2) (fun _ υ hυ => ?_)
  exact wp_some ⟨(hτ.1.mono (by decide)).tr (hυ.1.mono (by decide)), hυ.2⟩
theorem T_canBits {W : zWo} {σ : zSt} {O B i l : Nat} (h : ST W O B i σ) (hl : l < 6) : F_X5_canBits (nI l) σ = some (nI (canW W O B i l), σ) := by
  have hb : bel (nI l) 6 := bel_t (by omega)
  unfold F_X5_canBits F_X5_canBits_0
  rw [T_isBelow_6, bd_s, bI_t hb, if_neg (show ¬ (1 : Int32) = 0 by decide), gd_n (by omega), nI_cl (by omega), h.2.2 l hl]
theorem T_isHadC {W : zWo} {σ : zSt} (hW : WOK W) (hS : SK W σ) {O : Nat} (hO : O < 256) : F_X5_isHad (nI O) σ = some (bI (subB (golW W) O = true), σ) := by
  unfold F_X5_isHad F_X5_isHad_0
  have lt : golW W &&& (O ^^^ 255) < 256 := and_lt (golW_lt hW)
  rw [hS.2.2.2.2.2.1, nI_andn (golW_lt hW) hO]
  by_cases q : golW W &&& (O ^^^ 255) = 0
  · rw [if_pos (by rw [q]; rfl), bI_t (show subB (golW W) O = true from decide_eq_true q)]
  · rw [if_neg (by rw [nI_e0 (by omega)]; exact q), bI_f (show ¬ subB (golW W) O = true by unfold subB; simpa using q)]
/-- DAYS of an ACT -/
def dyW (W : zWo) (i l d : Nat) : Nat := if l = 0 then wWay W (4 * i + d) else if l = 5 then 0 else 1
theorem T_daysOf {W : zWo} {σ : zSt} {O B i l d : Nat} (hS : SK W σ) (h : ST W O B i σ) (hi : i < 4) (hl : l < 6) (hd : l = 0 → d < 4) : F_X5_daysOf (nI l) (nI d) σ = some (nI (dyW W i l d), σ) := by
  unfold F_X5_daysOf F_X5_daysOf_0 dyW
  by_cases q : l = 0
  · subst q
    rw [if_pos (show nI 0 = 0 from rfl), h.2.1, T_daysTo hS.2.2.2.2.2.2.2.2 hi (hd rfl), bd_s, if_pos rfl]
  · rw [if_neg (nI_ne0 (by omega) (by omega)), if_neg q, show (5 : Int32) = nI 5 from rfl, if_eqI (by omega)]
    by_cases r : l = 5
    · rw [if_pos r, if_pos r]
      rfl
    · rw [if_neg r, if_neg r]
      rfl
def acO (O l d : Nat) : Nat := if 2 ≤ l ∧ l ≤ 4 then O ||| 2 ^ d else O
def acB (B l d : Nat) : Nat := if l = 1 then B + 1 else if l = 3 then B + 3 else if l = 4 then B + 9 else if l = 5 then B + 2 * 3 ^ d else B
def acI (i l d : Nat) : Nat := if l ≤ 1 then d else i
theorem st_e {O B c i : Nat} : (((nI O * (27 : Int32)) + nI B) + nI c) * (4 : Int32) + nI i = nI (cod O (B + c) i) := by
  rw [show (27 : Int32) = nI 27 from rfl, show (4 : Int32) = nI 4 from rfl, pk_mul, nI_add, nI_add, pk_mul, nI_add]
  congr 1
  unfold cod
  omega
theorem T_after {W : zWo} {σ : zSt} {O B i l d : Nat} (h : ST W O B i σ) (hl : l < 6) (hd : d < 8) (h5 : l = 5 → d < 3) : F_X5_after (nI l) (nI d) σ = some (nI (cod (acO O l d) (acB B l d) (acI i l d)), σ) := by
  obtain ⟨⟨e1, e2, -⟩, e7, -⟩ := h
  have st : ∀ x c y : Nat, F_X5_state (nI x) (nI c) (nI y) σ = some (nI (cod x (B + c) y), σ) := by
    intro x c y
    unfold F_X5_state F_X5_state_0
    rw [e2, st_e]
  have z0 : (0 : Int32) = nI 0 := rfl
  have z1 : (1 : Int32) = nI 1 := rfl
  have z3 : (3 : Int32) = nI 3 := rfl
  have z9 : (9 : Int32) = nI 9 := rfl
  unfold F_X5_after F_X5_after_0 F_X5_after_148
  have e : l = 0 ∨ l = 1 ∨ l = 2 ∨ l = 3 ∨ l = 4 ∨ l = 5 := by omega
  rcases e with rfl | rfl | rfl | rfl | rfl | rfl
  · rw [if_pos (show nI 0 = 0 from rfl), e1, z0, st, bd_s]
    rfl
  · rw [if_neg (show ¬ nI 1 = 0 by decide), if_pos (show nI 1 = 1 from rfl), e1, z1, st, bd_s]
    rfl
  · rw [if_neg (show ¬ nI 2 = 0 by decide), if_neg (show ¬ nI 2 = 1 by decide), if_pos (show nI 2 = 2 from rfl), e1, e7, bit_1 d hd, nI_or, z0, st, bd_s]
    rfl
  · rw [if_neg (show ¬ nI 3 = 0 by decide), if_neg (show ¬ nI 3 = 1 by decide), if_neg (show ¬ nI 3 = 2 by decide), if_pos (show nI 3 = 3 from rfl), e1, e7, bit_1 d hd, nI_or, z3, st, bd_s]
    rfl
  · rw [if_neg (show ¬ nI 4 = 0 by decide), if_neg (show ¬ nI 4 = 1 by decide), if_neg (show ¬ nI 4 = 2 by decide), if_neg (show ¬ nI 4 = 3 by decide), if_pos (show nI 4 = 4 from rfl), e1, e7, bit_1 d hd, nI_or, z9, st, bd_s]
    rfl
  · have h3 := h5 rfl
    have hb : bel (nI d) 3 := bel_t (by omega)
    rw [if_neg (show ¬ nI 5 = 0 by decide), if_neg (show ¬ nI 5 = 1 by decide), if_neg (show ¬ nI 5 = 2 by decide), if_neg (show ¬ nI 5 = 3 by decide), if_neg (show ¬ nI 5 = 4 by decide), T_isBelow_3, bd_s, bI_t hb, if_neg (show ¬ (1 : Int32) = 0 by decide), gd_n (by omega), nI_cl (by omega), (zPo_e d h3).1, show (2 : Int32) * nI (3 ^ d) = nI (2 * 3 ^ d) from pk_mul 2 _, e1, e7, st, bd_s]
    rfl
