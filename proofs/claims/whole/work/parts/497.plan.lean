/-! PURE: plan -/
theorem T_isBelow_40 {x : Int32} {σ : zSt} : F_X11_isBelow x 40 σ = some (bI (bel x 40), σ) := T_isBelow 40 rfl
theorem T_write {W : zWo} (hW : WOK W) (hh : wIs W (wHea W) = true) {T f : Nat → Nat} {bst : Nat} (hT : OKT W 0 T 0) {σ : zSt} (hS : SRS W 0 T f bst σ) (hb : bst = T 0) (hl : bst < 134217728) : wp (F_X4_write σ) (fun r τ => fr LF4 SF4 σ τ ∧ ∃ N a, PT W T N 0 0 0 a ∧ N ≤ 40 ∧ r = nI N ∧ ∀ k, k < N → τ.1 51 k = nI (a k)) := by
  obtain ⟨hA, hF, e8, hI⟩ := hS
  have c0 : cod 0 0 0 = 0 := rfl
  have u0 : subB 0 (useW W) = true := by
    unfold subB
    rw [Nat.zero_and]
    rfl
  unfold F_X4_write F_X4_write_0
  refine wp_for (fun k s => s.1 = nI k ∧ fr [51] [] σ s.2 ∧ ∀ j, j < k → s.2.1 51 j = -1) 40 (by decide) (fun k w s hk hI1 hw => ?_) (fun w s hI1 => ?_) ⟨rfl, fr.rf, fun j hj => absurd hj (Nat.not_lt_zero j)⟩
  · obtain ⟨x, τ⟩ := s
    obtain ⟨i1, i2, i3⟩ := hI1
    simp only at i1 i2 i3
    subst i1
    show wp (F_X4_write_2 w (nI k) τ) _
    unfold F_X4_write_2
    rw [if_neg (by rw [show (40 : Int32) = nI 40 from rfl, nI_lep (by omega)]; omega), gd_n (by omega), nI_cl (by omega), nm_s, nm_s, nI_1]
    refine hw _ ⟨rfl, i2.w (Or.inl (by decide)), fun j hj => ?_⟩
    show (zwr τ 51 k (-1)).1 51 j = -1
    by_cases q : j = k
    · rw [q, zwr_at]
    · rw [zwr_ne (Or.inr q)]
      exact i3 j (by omega)
  · obtain ⟨x, τ⟩ := s
    obtain ⟨i1, i2, i3⟩ := hI1
    simp only at i1 i2 i3
    subst i1
    show wp (F_X4_write_2 w (nI 40) τ) _
    unfold F_X4_write_2 F_X4_write_21
    rw [if_pos (show (40 : Int32) ≤ nI 40 by decide)]
    have hFS : FS W T f bst τ := by
      refine ⟨SK_fr hA.1 i2 (by decide), ⟨(i2.rd (by decide) (by decide)).trans hA.2.1.1, fun l hl => ?_⟩, (i2.rd (by decide) (by decide)).trans hA.2.2.1, (i2.rd (by decide) (by decide)).trans e8, fun s s1 s2 => ?_⟩
      · rw [i2.row (c := 52) (by decide)]
        exact hA.2.1.2 l hl
      · obtain ⟨a1, a2⟩ := hF s s1 s2
        refine ⟨a2, Or.inl ?_⟩
        rw [i2.row (c := 48) (by decide)]
        exact a1
    have f0 := hI.2.2.2.2.2.2
    have lim := T_lim hT (O := 0) (B := 0) (i := 0) (by decide) (by decide) (by decide)
    rw [c0] at lim
    have al : AL T f bst (cod 0 0 0) := by
      rw [c0]
      exact ⟨by omega, by omega⟩
    have q0 : τ.1 48 (cod 0 0 0) = nI (f (cod 0 0 0)) := by
      rcases (hFS.2.2.2.2 0 (by decide) u0).2 with z | z
      · exact z
      · exact absurd al z.2
    have F := T_follow hW hh hT hI hb hl 100 0 0 0 0 τ (by decide) (by decide) (by decide) (by decide) (by decide) u0 hFS q0 (by rw [c0, f0]; exact Nat.zero_le _) (fun _ => by have := ph_le (T := T) (O := 0) (B := 0) (i := 0) (by decide) (by decide); omega) (fun k _ hk => i3 k hk)
    refine wp_bd2 (show wp (F_X4_follow 0 0 τ) _ from F) (fun r ω hω => ?_)
    obtain ⟨o1, o2, o3, o4⟩ := hω
    rcases o4 with ⟨na, -⟩ | ⟨-, -, N, a, p1, p2, p3, p4⟩
    · exact absurd al na
    have acl : ∀ k, k < N → ∃ y, y < 100 ∧ a k = y := by
      have : ∀ N O B i a, PT W T N O B i a → ∀ k, k < N → a k < 100 := by
        intro N
        induction N with
        | zero => intro O B i a _ k hk; exact absurd hk (Nat.not_lt_zero k)
        | succ N ih =>
          intro O B i a h k hk
          obtain ⟨hg, l, d, ea, ⟨⟨g1, g2, -⟩, -⟩, hp⟩ := h
          cases k with
          | zero =>
            have := (dgs_le l g1).2
            omega
          | succ k => exact ih _ _ _ _ hp k (by omega)
      exact fun k hk => ⟨a k, this N 0 0 0 a p1 k hk, rfl⟩
    have ff : fr LF4 SF4 σ ω := (i2.mono (by decide)).tr o1
    refine wp_for (fun k s => s = (nI k, ω)) N (by omega) (fun k w2 s hk hI2 hw2 => ?_) (fun w2 s hI2 => ?_) rfl
    · subst hI2
      obtain ⟨y, y1, y2⟩ := acl k hk
      have e := p3 k hk
      rw [Nat.zero_add] at e
      show wp (F_X4_write_30 w2 (nI k) ω) _
      unfold F_X4_write_30
      rw [if_neg (by rw [show (40 : Int32) = nI 40 from rfl, nI_lep (by omega)]; omega), gd_n (by omega), nI_cl (by omega), e, if_neg (e1_n (by omega)), nm_s, nI_1]
      exact hw2 _ rfl
    · subst hI2
      have fin : wp (some (nI N, ω)) (fun r τ => fr LF4 SF4 σ τ ∧ ∃ N a, PT W T N 0 0 0 a ∧ N ≤ 40 ∧ r = nI N ∧ ∀ k, k < N → τ.1 51 k = nI (a k)) := wp_some ⟨ff, N, a, p1, by omega, rfl, fun k hk => by have e := p3 k hk; rw [Nat.zero_add] at e; exact e⟩
      show wp (F_X4_write_30 w2 (nI N) ω) _
      unfold F_X4_write_30
      by_cases z : N = 40
      · subst z
        rw [if_pos (show (40 : Int32) ≤ nI 40 by decide)]
        exact fin
      · rw [if_neg (by rw [show (40 : Int32) = nI 40 from rfl, nI_lep (by omega)]; omega), gd_n (by omega), nI_cl (by omega), p4 N (by omega) (by omega), if_pos rfl]
        exact fin
theorem T_firstAct {W : zWo} (hW : WOK W) {T : Nat → Nat} {σ : zSt} (h : PM W 0 σ) (hTB : TB σ T 0) {O B i l d : Nat} (hO : O < 256) (hB : B < 27) (hi : i < 4) (hF : Fs W T O B i l d) : F_X12_firstAct (nI (cod O B i)) σ = some (nI (10 * l + d), σ) := by
  obtain ⟨⟨g1, g2, g3, g4, g5⟩, g6⟩ := id hF
  have cb : cod O B i < 27648 := by unfold cod; omega
  have d8 : d < 8 := by have := (dgs_le l g1).2; omega
  have e1' : nI (cod O B i) / (108 : Int32) = nI O := by
    rw [show (108 : Int32) = nI 108 from rfl, pk_div (by omega) (by decide) (by decide), show cod O B i / 108 = O by unfold cod; omega]
  have e2' : (nI (cod O B i) / (4 : Int32)) % (27 : Int32) = nI B := by
    rw [show (4 : Int32) = nI 4 from rfl, show (27 : Int32) = nI 27 from rfl, pk_div (by omega) (by decide) (by decide), nI_mod (by omega), show cod O B i / 4 % 27 = B by unfold cod; omega]
  have e3' : nI (cod O B i) % (4 : Int32) = nI i := by
    rw [show (4 : Int32) = nI 4 from rfl, nI_mod (by omega), show cod O B i % 4 = i by unfold cod; omega]
  have tc := (hTB (cod O B i) (by omega) cb).1
  unfold F_X12_firstAct F_X12_firstAct_0
  rw [e1', e2', nm_s, nm_s, T_keysWith hW h hO hB, bd_s]
  have D : ∀ k, k < 60 → nI k / (10 : Int32) = nI (k / 10) ∧ nI k % (10 : Int32) = nI (k % 10) := by
    intro k hk
    rw [show (10 : Int32) = nI 10 from rfl, pk_div (by omega) (by decide) (by decide), nI_mod (by omega)]
    exact ⟨rfl, rfl⟩
  refine wp_eq (wp_for (fun k s => s = (nI k, σ)) (10 * l + d) (by omega) (fun k w s hk hI hw => ?_) (fun w s hI => ?_) rfl)
  · subst hI
    obtain ⟨q1, q2⟩ := D k (by omega)
    show wp (F_X12_firstAct_23 (nI (cod O B i)) (nI O) (nI B) (nI (hadW W O B)) w (nI k) σ) _
    have nx : wp (F_X12_firstAct_128 w (nI (cod O B i)) (nI O) (nI B) (nI (hadW W O B)) (nI k) σ) (fun a τ => a = nI (10 * l + d) ∧ τ = σ) := by
      unfold F_X12_firstAct_128
      rw [nm_s, nI_1]
      exact hw _ rfl
    unfold F_X12_firstAct_23
    rw [if_neg (by rw [show (60 : Int32) = nI 60 from rfl, nI_lep (by omega)]; omega), q1, q2, e3', T_digitsFor (k / 10) (by omega), bd_s]
    by_cases y1 : k % 10 < dgs (k / 10)
    rotate_left
    · rw [if_neg (by rw [nI_ltp (by have := (dgs_le (k / 10) (by omega)).2; omega)]; exact y1)]
      exact nx
    rw [if_pos (by rw [nI_ltp (by have := (dgs_le (k / 10) (by omega)).2; omega)]; exact y1), T_behind hW h hO hB hi (by omega) y1, bd_s]
    by_cases y2 : canB W O B i (k / 10) (k % 10) = true
    rotate_left
    · rw [if_neg y2, if_pos rfl]
      exact nx
    have k8 : k % 10 < 8 := by have := (dgs_le (k / 10) (by omega)).2; omega
    obtain ⟨a1, a2, a3, -⟩ := ac_ok hO hB hi (show k / 10 < 6 by omega) k8 y2
    have n2 : nxt O B i (k / 10) (k % 10) < 27648 := by unfold nxt cod; omega
    obtain ⟨t1, t2⟩ := hTB _ (by omega) n2
    rw [if_pos y2, if_neg (e1_n (by omega)), gd_n (by omega), nI_cl (by omega), t1]
    by_cases y3 : 1000000000 ≤ T (nxt O B i (k / 10) (k % 10))
    · rw [if_pos (by rw [show (1000000000 : Int32) = nI 1000000000 from rfl, nI_lep (by omega)]; exact y3)]
      exact nx
    have cl := cstW_le hW (m := 0) (l := k / 10) (d := k % 10) hi (fun z => by rw [z] at y1; exact y1)
    have t0 := (hTB (cod O B i) (by omega) cb).2
    rw [if_neg (by rw [show (1000000000 : Int32) = nI 1000000000 from rfl, nI_lep (by omega)]; exact y3), gd_n (by omega), T_costOf hW h (by decide) hi (by omega) y1, bd_s, gd_n (by omega), nI_cl (by omega), tc, nI_add, if_neg]
    · exact nx
    · rw [nI_eqp (by omega)]
      intro y4
      refine g6 (k / 10) (k % 10) (by omega) ⟨by omega, y1, y2, by omega, y4⟩
  · subst hI
    obtain ⟨q1, q2⟩ := D (10 * l + d) (by omega)
    rw [show (10 * l + d) / 10 = l by omega] at q1
    rw [show (10 * l + d) % 10 = d by omega] at q2
    obtain ⟨a1, a2, a3, -⟩ := ac_ok hO hB hi g1 d8 g3
    have n2 : nxt O B i l d < 27648 := by unfold nxt cod; omega
    obtain ⟨t1, t2⟩ := hTB _ (by omega) n2
    have cl := cstW_le hW (m := 0) (l := l) (d := d) hi (fun z => by rw [z] at g2; exact g2)
    show wp (F_X12_firstAct_23 (nI (cod O B i)) (nI O) (nI B) (nI (hadW W O B)) w (nI (10 * l + d)) σ) _
    unfold F_X12_firstAct_23
    rw [if_neg (by rw [show (60 : Int32) = nI 60 from rfl, nI_lep (by omega)]; omega), q1, q2, e3', T_digitsFor l g1, bd_s, if_pos (by rw [nI_ltp (by have := (dgs_le l g1).2; omega)]; exact g2), T_behind hW h hO hB hi g1 g2, bd_s, if_pos g3, if_neg (e1_n (by omega)), gd_n (by omega), nI_cl (by omega), t1, if_neg (by rw [show (1000000000 : Int32) = nI 1000000000 from rfl, nI_lep (by omega)]; omega), gd_n (by omega), T_costOf hW h (by decide) hi g1 g2, bd_s, gd_n (by omega), nI_cl (by omega), tc, nI_add, if_pos (by rw [g5])]
    exact wp_some ⟨rfl, rfl⟩
theorem T_planL {W : zWo} (hW : WOK W) {T : Nat → Nat} {σ : zSt} (h : PM W 0 σ) (hTB : TB σ T 0) {N k0 : Nat} {a : Nat → Nat} (hp : PT W T N 0 0 0 a) (hk : k0 < N) (hN : N ≤ 40) : zfix (F_X12_plan_71L (nI k0)) zlim (nI (cod 0 0 0), 0, 0, σ) = some (nI (a k0), σ) := by
  refine wp_eq (wp_for (fun j s => s.2.2.1 = nI j ∧ s.2.2.2 = σ ∧ (0 < j → s.2.1 = nI (a (j - 1))) ∧ ∃ O B i, O < 256 ∧ B < 27 ∧ i < 4 ∧ s.1 = nI (cod O B i) ∧ PT W T (N - j) O B i (fun k => a (k + j))) (k0 + 1) (by omega) (fun j w s hj hI hw => ?_) (fun w s hI => ?_) ⟨rfl, rfl, fun z => absurd z (Nat.lt_irrefl 0), 0, 0, 0, by decide, by decide, by decide, rfl, hp⟩)
  · obtain ⟨x3, x4, x5, τ⟩ := s
    obtain ⟨i1, i2, i3, O, B, i, hO, hB, hi, i4, i5⟩ := hI
    simp only at i1 i2 i3 i4
    subst i1 i2 i4
    rw [show N - j = (N - (j + 1)) + 1 by omega] at i5
    obtain ⟨hg, l, d, ea, hF, hp'⟩ := i5
    obtain ⟨⟨g1, g2, g3, g4, g5⟩, g6⟩ := id hF
    have cb : cod O B i < 27648 := by unfold cod; omega
    have d8 : d < 8 := by have := (dgs_le l g1).2; omega
    have e1' : nI (cod O B i) / (108 : Int32) = nI O := by
      rw [show (108 : Int32) = nI 108 from rfl, pk_div (by omega) (by decide) (by decide), show cod O B i / 108 = O by unfold cod; omega]
    have e2' : (nI (cod O B i) / (4 : Int32)) % (27 : Int32) = nI B := by
      rw [show (4 : Int32) = nI 4 from rfl, show (27 : Int32) = nI 27 from rfl, pk_div (by omega) (by decide) (by decide), nI_mod (by omega), show cod O B i / 4 % 27 = B by unfold cod; omega]
    have e3' : nI (cod O B i) % (4 : Int32) = nI i := by
      rw [show (4 : Int32) = nI 4 from rfl, nI_mod (by omega), show cod O B i % 4 = i by unfold cod; omega]
    have q1 : nI (10 * l + d) / (10 : Int32) = nI l := by
      rw [show (10 : Int32) = nI 10 from rfl, pk_div (by omega) (by decide) (by decide), show (10 * l + d) / 10 = l by omega]
    have q2 : nI (10 * l + d) % (10 : Int32) = nI d := by
      rw [show (10 : Int32) = nI 10 from rfl, nI_mod (by omega), show (10 * l + d) % 10 = d by omega]
    show wp (F_X12_plan_71 (nI k0) w (nI (cod O B i)) x4 (nI j) τ) _
    unfold F_X12_plan_71
    rw [if_neg (by rw [nI_ltp (by omega)]; omega), T_firstAct hW h hTB hO hB hi hF, bd_s, e1', e2', e3', T_keysWith hW h hO hB, bd_s, q1, q2, T_behind hW h hO hB hi g1 g2, bd_s, nm_s, nI_1, if_pos g3]
    obtain ⟨a1, a2, a3, -⟩ := ac_ok hO hB hi g1 d8 g3
    refine hw _ ⟨rfl, rfl, fun _ => ?_, _, _, _, a1, a2, a3, rfl, ?_⟩
    · show nI (10 * l + d) = nI (a (j + 1 - 1))
      rw [Nat.add_sub_cancel, ← ea]
      show nI (a (0 + j)) = nI (a j)
      rw [Nat.zero_add]
    · have e : (fun k => a (k + 1 + j)) = fun k => a (k + (j + 1)) := by
        funext k
        rw [Nat.add_assoc, Nat.add_comm 1 j]
      rw [← e]
      exact hp'
  · obtain ⟨x3, x4, x5, τ⟩ := s
    obtain ⟨i1, i2, i3, -⟩ := hI
    simp only at i1 i2 i3
    subst i1 i2
    show wp (F_X12_plan_71 (nI k0) w x3 x4 (nI (k0 + 1)) τ) _
    unfold F_X12_plan_71
    rw [if_pos (by rw [nI_ltp (by omega)]; omega), i3 (by omega), Nat.add_sub_cancel]
    exact wp_some ⟨rfl, rfl⟩
theorem PT_uniq {W : zWo} {T T' : Nat → Nat} (hT : OKT W 0 T 0) (hT' : OKT W 0 T' 0) : ∀ O B i, O < 256 → B < 27 → i < 4 → T (cod O B i) = T' (cod O B i) := by
  intro O B i hO hB hi
  have l1 := T_lim hT hO hB hi
  have l2 := T_lim hT' hO hB hi
  have a := OK_le hT hT' (16 * T' (cod O B i) + 12) O B i (by omega) hO hB hi
  have b := OK_le hT' hT (16 * T (cod O B i) + 12) O B i (by omega) hO hB hi
  rcases l1 with x | x
  · rcases l2 with y | y
    · omega
    · have := a (by omega)
      omega
  · have := b (by omega)
    rcases l2 with y | y
    · omega
    · have := a (by omega)
      omega
theorem Gd_eq {W : zWo} {T T' : Nat → Nat} (h : ∀ O B i, O < 256 → B < 27 → i < 4 → T (cod O B i) = T' (cod O B i)) {O B i l d : Nat} (hO : O < 256) (hB : B < 27) (hi : i < 4) (g : Gd W T O B i l d) : Gd W T' O B i l d := by
  obtain ⟨g1, g2, g3, g4, g5⟩ := g
  have d8 : d < 8 := by have := (dgs_le l g1).2; omega
  obtain ⟨a1, a2, a3, -⟩ := ac_ok hO hB hi g1 d8 g3
  have en : T (nxt O B i l d) = T' (nxt O B i l d) := h _ _ _ a1 a2 a3
  refine ⟨g1, g2, g3, ?_, ?_⟩
  · rw [← en]
    exact g4
  · rw [← en, ← h O B i hO hB hi]
    exact g5
theorem PT_eq {W : zWo} {T T' : Nat → Nat} (h : ∀ O B i, O < 256 → B < 27 → i < 4 → T (cod O B i) = T' (cod O B i)) : ∀ N O B i a, O < 256 → B < 27 → i < 4 → PT W T N O B i a → PT W T' N O B i a := by
  intro N
  induction N with
  | zero => intro O B i a _ _ _ hp; exact hp
  | succ N ih =>
    intro O B i a hO hB hi hp
    obtain ⟨hg, l, d, ea, ⟨g, g6⟩, hp'⟩ := hp
    have d8 : d < 8 := by have := (dgs_le l g.1).2; have := g.2.1; omega
    obtain ⟨a1, a2, a3, -⟩ := ac_ok hO hB hi g.1 d8 g.2.2.1
    exact ⟨hg, l, d, ea, ⟨Gd_eq h hO hB hi g, fun l' d' x g' => g6 l' d' x (Gd_eq (fun O B i q1 q2 q3 => (h O B i q1 q2 q3).symm) hO hB hi g')⟩, ih _ _ _ _ a1 a2 a3 hp'⟩
theorem s_plan {n : Nat} {σ : zSt} (hn : n < 512) (hR : Rel n σ) (x1 : Int32) : Both n (F_X11_plan x1) (F_X12_plan x1) σ := by
  obtain ⟨-, ⟨W, w0, w1, w2, w3⟩, -, -, -, -⟩ := id hR
  have m2 : σ.1 69 2 = nI (wHea W) := w3.2.2.2.2.2.2.2.2.1
  have h8 := w0.hea
  have N0 : ¬ (1 : Int32) = 0 := by decide
  by_cases h2 : isT W (nI (wHea W))
  rotate_left
  · refine Both.no (-1) hn hR ?_ ?_
    · unfold F_X11_plan F_X11_plan_0
      rw [T_heart w0 w2, bd_s, bI_f h2, if_pos rfl]
    · unfold F_X12_plan F_X12_plan_0
      rw [m2, T_isPlace w0 w3, bd_s, bI_f h2, if_pos rfl]
  have hh : wIs W (wHea W) = true := (isT_n (by omega)).mp h2
  have st0 : subB 0 (wTol W) = true := by
    unfold subB
    rw [Nat.zero_and]
    rfl
  obtain ⟨_, _, _, _, _, T, _, hT, _⟩ := T_solves (m := 0) w0 (by decide) w3
  have lim := T_lim hT (O := 0) (B := 0) (i := 0) (by decide) (by decide) (by decide)
  rw [show cod 0 0 0 = 0 from rfl] at lim
  have CL : wp (bd (F_X5_learn σ) (fun _ s5 => F_X4_search 1 s5)) (fun v b => fr LC SC σ b ∧ ∃ f bst, v = bI (bst < 134217728) ∧ SRS W 0 T f bst b) := by
    refine wp_bd2 (T_learn w0 w2) (fun _ a ha => ?_)
    obtain ⟨f1, hS⟩ := ha
    have S := T_search (m := 0) w0 hh (by decide) hT hS
    rw [show nI (1 - 0) = (1 : Int32) from rfl] at S
    refine wp_mono S (fun v b hb => ?_)
    obtain ⟨f2, f, bst, e1', e2'⟩ := hb
    exact ⟨(f1.mono (by decide)).tr (f2.mono (by decide)), f, bst, e1', e2'⟩
  have UN : ∀ K : Int32 → zSt → Option (Int32 × zSt), bd (F_X5_learn σ) (fun _ s5 => bd (F_X4_search 1 s5) K) = bd (bd (F_X5_learn σ) (fun _ s5 => F_X4_search 1 s5)) K := by
    intro K
    cases F_X5_learn σ with
    | none => rfl
    | some p => rfl
  obtain ⟨v, b, ev, fb, f, bst, rfl, hs⟩ := CL
  obtain ⟨y1, y2⟩ := best_is w0 hh hT hs.2.2.2
  by_cases q : bst < 134217728
  rotate_left
  · have e := y2 q
    refine Both.fr (-2) hn hR ?_ (fun τ hRτ g => ?_)
    · unfold F_X11_plan F_X11_plan_0
      rw [T_heart w0 w2, bd_s, bI_t h2, if_neg N0, UN, ev, bd_s, bI_f q, if_pos rfl]
      exact wp_some ⟨rfl, fb⟩
    · have hMτ : EM 70 0 W τ := g.EM (by decide) w3
      have m2τ : τ.1 69 2 = nI (wHea W) := hMτ.2.2.2.2.2.2.2.2.1
      unfold F_X12_plan F_X12_plan_0
      rw [m2τ, T_isPlace w0 hMτ, bd_s, bI_t h2, if_neg N0]
      have S := T_solves (m := 0) w0 (by decide) hMτ
      rw [show nI 0 = (0 : Int32) from rfl] at S
      refine wp_bd2 S (fun v c hc => ?_)
      obtain ⟨f2, -, T', -, hT', rfl⟩ := hc
      rw [OK_eq hT' hT, e, if_pos (show nI 1000000000 = 1000000000 from rfl)]
      exact wp_some ⟨rfl, f2.mono (by decide)⟩
  have e := y1 q
  obtain ⟨r, c, er, fc, N, a, p1, p2, rfl, p4⟩ := T_write w0 hh hT hs e q
  have ff : fr LC SC σ c := fb.tr (fc.mono (by decide))
  obtain ⟨D, eD⟩ := PT_T w0 hT N 0 0 0 a (by decide) (by decide) (by decide) st0 p1
  rw [show cod 0 0 0 = 0 from rfl] at eD
  have eN : T 0 % 1024 = N := by omega
  refine Both.fr (if x1 = -1 then nI N else @ite _ (bel x1 N) (Classical.propDecidable _) (nI (a x1.toInt.toNat)) (-3)) hn hR ?_ (fun τ hRτ g => ?_)
  · unfold F_X11_plan F_X11_plan_0
    rw [T_heart w0 w2, bd_s, bI_t h2, if_neg N0, UN, ev, bd_s, bI_t q, if_neg N0, er, bd_s]
    by_cases z : x1 = -1
    · rw [if_pos z, if_pos z]
      exact wp_some ⟨rfl, ff⟩
    rw [if_neg z, if_neg z, T_isBelow N (by rw [i_nI (by omega)]), bd_s]
    by_cases y : bel x1 N
    · rw [bI_t y, if_neg N0, if_pos y]
      obtain ⟨k, hk, rfl⟩ := bel_of y
      have b40 : bel (nI k) 40 := bel_t (by omega)
      unfold F_X4_actAt F_X4_actAt_0
      rw [T_isBelow_40, bd_s, bI_t b40, if_neg N0, gd_n (by omega), nI_cl (by omega), bd_s, p4 k hk, i_nI (by omega), Int.toNat_natCast]
      exact wp_some ⟨rfl, ff⟩
    · rw [bI_f y, if_pos rfl, if_neg y]
      exact wp_some ⟨rfl, ff⟩
  · have hMτ : EM 70 0 W τ := g.EM (by decide) w3
    have m2τ : τ.1 69 2 = nI (wHea W) := hMτ.2.2.2.2.2.2.2.2.1
    unfold F_X12_plan F_X12_plan_0
    rw [m2τ, T_isPlace w0 hMτ, bd_s, bI_t h2, if_neg N0]
    have S := T_solves (m := 0) w0 (by decide) hMτ
    rw [show nI 0 = (0 : Int32) from rfl] at S
    refine wp_bd2 S (fun v c hc => ?_)
    obtain ⟨f2, hP, T', hTB, hT', rfl⟩ := hc
    have f2' : fr LM SM τ c := f2.mono (by decide)
    have eT := OK_eq hT' hT
    have p1' := PT_eq (PT_uniq hT hT') N 0 0 0 a (by decide) (by decide) (by decide) p1
    rw [eT, if_neg (by rw [show (1000000000 : Int32) = nI 1000000000 from rfl, nI_eqp (by omega)]; omega), show (1024 : Int32) = nI 1024 from rfl, nI_mod (by omega), eN]
    by_cases z : x1 = -1
    · rw [if_pos z, if_pos z]
      exact wp_some ⟨rfl, f2'⟩
    have inN : F_X12_in x1 0 (nI N - 1) c = some (bI (bel x1 N), c) := by
      have e1' : (nI N - 1).toInt = (N : Int) - 1 := pk_sub_toInt (a := N) (b := 1) (by omega) (by decide)
      rw [T_in, bI_c]
      rw [e1']
      show 0 ≤ x1.toInt ∧ x1.toInt ≤ (N : Int) - 1 ↔ 0 ≤ x1.toInt ∧ x1.toInt < (N : Int)
      omega
    rw [if_neg z, if_neg z, inN, bd_s]
    by_cases y : bel x1 N
    · rw [bI_t y, if_neg N0, if_pos y]
      obtain ⟨k, hk, rfl⟩ := bel_of y
      rw [show F_X12_stateOf 0 0 0 c = some (nI (cod 0 0 0), c) from T_stateOf (O := 0) (B := 0) (i := 0), bd_s, T_planL w0 hP hTB p1' hk p2, i_nI (by omega), Int.toNat_natCast]
      exact wp_some ⟨rfl, f2'⟩
    · rw [bI_f y, if_pos rfl, if_neg y]
      exact wp_some ⟨rfl, f2'⟩
