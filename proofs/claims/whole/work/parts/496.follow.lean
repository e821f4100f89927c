/-! PURE: the planner follows the best ways -/
/-- the table while ways are followed: as it was, or closed -/
def FD (W : zWo) (T f : Nat → Nat) (bst : Nat) (σ : zSt) : Prop := ∀ s, s < 27648 → subB (s / 108) (useW W) = true → f s ≤ 134217728 ∧ (σ.1 48 s = nI (f s) ∨ (σ.1 48 s = nI 134217728 ∧ ¬ AL T f bst s))
def FS (W : zWo) (T f : Nat → Nat) (bst : Nat) (σ : zSt) : Prop := SK W σ ∧ PU W σ ∧ σ.1 47 5 = nI 1 ∧ σ.1 47 8 = nI bst ∧ FD W T f bst σ
theorem FS_fr {W : zWo} {T f : Nat → Nat} {bst : Nat} {σ τ : zSt} (h : FS W T f bst σ) (g : fr [23, 51] ((17, 7) :: SE) σ τ) : FS W T f bst τ := by
  obtain ⟨h1, h2, h3, h4, h5⟩ := h
  refine ⟨SK_fr h1 g (by decide), ⟨(g.rd (by decide) (by decide)).trans h2.1, fun l hl => ?_⟩, (g.rd (by decide) (by decide)).trans h3, (g.rd (by decide) (by decide)).trans h4, fun s s1 s2 => ?_⟩
  · rw [g.row (c := 52) (by decide)]
    exact h2.2 l hl
  · rw [g.row (c := 48) (by decide)]
    exact h5 s s1 s2
theorem ST_51 {W : zWo} {O B i : Nat} {σ τ : zSt} (h : ST W O B i σ) (f : fr [51] [] σ τ) : ST W O B i τ := by
  obtain ⟨⟨a1, a2, a3, a4, a5, a6, a7, a8⟩, h2, h3⟩ := h
  have g : ∀ j, τ.1 17 j = σ.1 17 j := fun j => by rw [f.row (c := 17) (by decide)]
  have g2 : ∀ j, τ.1 23 j = σ.1 23 j := fun j => by rw [f.row (c := 23) (by decide)]
  exact ⟨⟨(g 8).trans a1, (g 9).trans a2, (g 10).trans a3, (g 11).trans a4, (g 12).trans a5, (g 13).trans a6, (g 14).trans a7, (g2 5).trans a8⟩, (g 7).trans h2, fun l hl => (g2 l).trans (h3 l hl)⟩
def LF4 : List Nat := [23, 48, 51]
def SF4 : List (Nat × Nat) := [(17, 7), (17, 8), (17, 9), (17, 10), (17, 11), (17, 12), (17, 13), (17, 14)]
/-- what following from a state comes to -/
def FQ (W : zWo) (T f : Nat → Nat) (bst : Nat) (σ : zSt) (O B i dep : Nat) (r : Int32) (τ : zSt) : Prop :=
  fr LF4 SF4 σ τ ∧ FS W T f bst τ ∧ (∀ k, k < dep → τ.1 51 k = σ.1 51 k) ∧
  ((¬ AL T f bst (cod O B i) ∧ r = 0 ∧ ∀ k, dep ≤ k → k < 40 → τ.1 51 k = -1) ∨
   (AL T f bst (cod O B i) ∧ r = 1 ∧ ∃ N a, PT W T N O B i a ∧ dep + N ≤ 40 ∧ (∀ k, k < N → τ.1 51 (dep + k) = nI (a k)) ∧ ∀ k, dep + N ≤ k → k < 40 → τ.1 51 k = -1))
theorem T_helpful {W : zWo} {O B i l : Nat} {σ : zSt} (hW : WOK W) (hS : ST W O B i σ) (hP : PU W σ) (hl : l < 6) : F_X4_helpfulBits (nI l) σ = some (nI (canW W O B i l &&& hlpW W l), σ) := by
  unfold F_X4_helpfulBits F_X4_helpfulBits_0
  rw [if_neg (nI_pos (by omega)), if_neg (by rw [show (6 : Int32) = nI 6 from rfl, nI_lep (by omega)]; omega), T_canBits hS hl, bd_s, gd_n (by omega), nI_cl (by omega), hP.2 l hl, nI_and]
/-- while the acts of a state are tried: which are done, none of them good -/
def FI (W : zWo) (T f : Nat → Nat) (bst : Nat) (σ : zSt) (O B i dep : Nat) (dn : Nat → Nat → Prop) (τ : zSt) : Prop :=
  fr LF4 SF4 σ τ ∧ FS W T f bst τ ∧ ST W O B i τ ∧ (∀ k, k < dep → τ.1 51 k = σ.1 51 k) ∧ (∀ k, dep < k → k < 40 → τ.1 51 k = -1) ∧
  ∀ l d, dn l d → l < 6 → d < 8 → hB W O B i l d = true → f (nxt O B i l d) = f (cod O B i) + cstW W 0 i l d → ¬ AL T f bst (nxt O B i l d)
theorem FI_dn {W : zWo} {T f : Nat → Nat} {bst : Nat} {σ : zSt} {O B i dep : Nat} {dn dn' : Nat → Nat → Prop} {τ : zSt} (h : FI W T f bst σ O B i dep dn τ) (g : ∀ l d, dn' l d → d < 8 → hB W O B i l d = true → dn l d) : FI W T f bst σ O B i dep dn' τ := ⟨h.1, h.2.1, h.2.2.1, h.2.2.2.1, h.2.2.2.2.1, fun l d x hl hd hb => h.2.2.2.2.2 l d (g l d x hd hb) hl hd hb⟩
theorem T_follow {W : zWo} (hW : WOK W) (hh : wIs W (wHea W) = true) {T f : Nat → Nat} {bst : Nat} (hT : OKT W 0 T 0) (hI : SI W 0 T f bst 6912 27648) (hb : bst = T 0) (hl : bst < 134217728) : ∀ nf dep O B i (σ : zSt), 41 ≤ dep + nf → dep ≤ 40 → O < 256 → B < 27 → i < 4 → subB O (useW W) = true → FS W T f bst σ → σ.1 48 (cod O B i) = nI (f (cod O B i)) → f (cod O B i) ≤ bst → (AL T f bst (cod O B i) → dep + phW T O B i ≤ 39) → (∀ k, dep ≤ k → k < 40 → σ.1 51 k = -1) → wp (R_X4_follow nf (nI (cod O B i)) (nI dep) σ) (FQ W T f bst σ O B i dep) := by
  intro nf
  induction nf with
  | zero => intro dep O B i σ h; omega
  | succ nf ih =>
    intro dep O B i σ hnf hdep hO hB1 hi hU hS e48 fb hph h51
    have c' : cod O B i < 27648 := by unfold cod; omega
    show wp (F_X4_follow_0 (R_X4_follow nf) (nI (cod O B i)) (nI dep) σ) _
    unfold F_X4_follow_0
    rw [if_neg (nI_pos (by omega)), if_neg (by rw [show (27648 : Int32) = nI 27648 from rfl, nI_lep (by omega)]; omega)]
    by_cases q40 : dep = 40
    · have na : ¬ AL T f bst (cod O B i) := fun z => by have := hph z; omega
      rw [if_neg (by rw [show (40 : Int32) = nI 40 from rfl, nI_ltp (by omega)]; omega)]
      exact wp_some ⟨fr.rf, hS, fun k _ => rfl, Or.inl ⟨na, rfl, h51⟩⟩
    rw [if_pos (by rw [show (40 : Int32) = nI 40 from rfl, nI_ltp (by omega)]; omega), gd_n (by omega), nI_cl (by omega), e48, nm_s]
    refine wp_bd2 (T_stand hW hS.1 hO hB1 hi) (fun _ τ hτ => ?_)
    obtain ⟨f1, hSt⟩ := hτ
    have hSτ : FS W T f bst τ := FS_fr hS (f1.mono (by decide))
    have f1' : fr LF4 SF4 σ τ := f1.mono (by decide)
    have k51 : ∀ k, τ.1 51 k = σ.1 51 k := fun k => by rw [f1.row (c := 51) (by decide)]
    rw [hSt.1.1, T_isHadC hW hSτ.1 hO, bd_s, hSτ.2.2.2.1]
    have ok := hT O B i hO hB1 hi (Nat.zero_le _)
    have st := use_sub hW hh hO hU
    cases hg : subB (golW W) O with
    | true =>
      have t0 := ok.2.1 st hg
      rw [bI_t rfl, if_neg (show ¬ (1 : Int32) = 0 by decide)]
      by_cases z : f (cod O B i) = bst
      · rw [if_pos (by rw [z])]
        exact wp_some ⟨f1', hSτ, fun k _ => k51 k, Or.inr ⟨⟨by omega, by omega⟩, rfl, 0, fun _ => 0, hg, by omega, fun k hk => absurd hk (Nat.not_lt_zero k), fun k k1 k2 => (k51 k).trans (h51 k (by omega) k2)⟩⟩
      · rw [if_neg (by rw [nI_eqp (by omega)]; exact z)]
        exact wp_some ⟨f1', hSτ, fun k _ => k51 k, Or.inl ⟨fun a => z (by have := a.2; omega), rfl, fun k k1 k2 => (k51 k).trans (h51 k k1 k2)⟩⟩
    | false =>
      rw [bI_f (show ¬ (false = true) by decide), if_pos rfl]
      refine wp_for (fun l s => s.1 = nI l ∧ FI W T f bst σ O B i dep (fun l' _ => l' < l) s.2) 6 (by decide) (fun l w s hl6 hI1 hw => ?_) (fun w s hI1 => ?_) ⟨rfl, f1', hSτ, hSt, fun k _ => k51 k, fun k k1 k2 => (k51 k).trans (h51 k (by omega) k2), fun l d x => absurd x (Nat.not_lt_zero l)⟩
      · obtain ⟨x, υ⟩ := s
        obtain ⟨i1, i2⟩ := hI1
        simp only at i1 i2
        subst i1
        have Hlt : canW W O B i l &&& hlpW W l < 256 := by
          rw [Nat.and_comm]
          exact and_lt (hlp_lt hW)
        show wp (F_X4_follow_68 (R_X4_follow nf) (nI (cod O B i)) (nI dep) (nI (f (cod O B i))) w (nI l) υ) _
        unfold F_X4_follow_68
        rw [if_neg (by rw [show (6 : Int32) = nI 6 from rfl, nI_lep (by omega)]; omega), T_helpful hW i2.2.2.1 i2.2.1.2.1 hl6, bd_s]
        have out : ∀ (κ : zSt) (n : Nat), FI W T f bst σ O B i dep (fun l' d' => l' < l ∨ (l' = l ∧ d' < n)) κ → (∀ d, d < 8 → n ≤ d → hB W O B i l d = false) → wp (w (nI (l + 1), κ)) (FQ W T f bst σ O B i dep) := by
          intro κ n a1 a2
          refine hw _ ⟨rfl, FI_dn a1 (fun l' d x hd hb => ?_)⟩
          by_cases z : l' = l
          · subst z
            by_cases y : d < n
            · exact Or.inr ⟨rfl, y⟩
            · rw [a2 d hd (by omega)] at hb
              cases hb
          · exact Or.inl (by omega)
        refine wp_for (fun d s => s.1 = nI d ∧ FI W T f bst σ O B i dep (fun l' d' => l' < l ∨ (l' = l ∧ d' < d)) s.2) 8 (by decide) (fun d w2 s hd hI2 hw2 => ?_) (fun w2 s hI2 => ?_) ⟨rfl, FI_dn i2 (fun l' d' x _ _ => by rcases x with x | x <;> omega)⟩
        · obtain ⟨x, κ⟩ := s
          obtain ⟨j1, j2⟩ := hI2
          simp only at j1 j2
          subst j1
          show wp (F_X4_follow_86 (R_X4_follow nf) w (nI (cod O B i)) (nI dep) (nI (f (cod O B i))) (nI l) _ w2 (nI d) κ) _
          unfold F_X4_follow_86 F_X4_follow_229
          rw [if_neg (by rw [show (8 : Int32) = nI 8 from rfl, nI_lep (by omega)]; omega)]
          by_cases z : canW W O B i l &&& hlpW W l < 2 ^ d
          · rw [if_pos ((shr_0 _ Hlt d hd).mpr z), nm_s, nI_1]
            refine out κ d j2 (fun d' _ hn => ?_)
            exact Nat.testBit_lt_two_pow (Nat.lt_of_lt_of_le z (Nat.pow_le_pow_right (by decide) hn))
          rw [if_neg (fun y => z ((shr_0 _ Hlt d hd).mp y))]
          obtain ⟨j3, j4, j5, j6, j7, j8⟩ := id j2
          have pc := fun (t : Nat) => T_price (σ := κ) (m := 0) (l := l) (t := t) (by decide) j4.2.2.1 hl6
          -- on to the next digit
          have next : ∀ κ' : zSt, FI W T f bst σ O B i dep (fun l' d' => l' < l ∨ (l' = l ∧ d' < d)) κ' → (hB W O B i l d = true → f (nxt O B i l d) = f (cod O B i) + cstW W 0 i l d → ¬ AL T f bst (nxt O B i l d)) → wp (F_X4_follow_223 (R_X4_follow nf) w w2 (nI (cod O B i)) (nI dep) (nI (f (cod O B i))) (nI l) (nI (canW W O B i l &&& hlpW W l)) (nI d) κ') (FQ W T f bst σ O B i dep) := by
            intro κ' b1 b2
            unfold F_X4_follow_223
            rw [nm_s, nI_1]
            refine hw2 _ ⟨rfl, b1.1, b1.2.1, b1.2.2.1, b1.2.2.2.1, b1.2.2.2.2.1, fun l' d' x hl' hd' hb' => ?_⟩
            rcases x with x | ⟨x, y⟩
            · exact b1.2.2.2.2.2 l' d' (Or.inl x) hl' hd' hb'
            · by_cases e : d' = d
              · subst x e
                exact b2 hb'
              · exact b1.2.2.2.2.2 l' d' (Or.inr ⟨x, by omega⟩) hl' hd' hb'
          by_cases hbb : hB W O B i l d = true
          rotate_left
          · rw [if_neg (fun y => hbb ((bit_is Hlt hd).mp y))]
            unfold F_X4_follow_127
            have dd : ∃ t : Nat, F_X5_daysOf (nI l) (nI d) κ = some (nI t, κ) := by
              by_cases l0 : l = 0
              · subst l0
                by_cases d4 : d < 4
                · exact ⟨_, T_daysOf j4.1 j5 hi (by decide) (fun _ => d4)⟩
                · refine ⟨0, ?_⟩
                  have nb : ¬ bel (nI d) 4 := fun y => d4 ((bel_nI (by omega)).mp y)
                  have bi : bel (nI i) 4 := bel_t (by omega)
                  unfold F_X5_daysOf F_X5_daysOf_0 F_X5_daysTo F_X5_daysTo_0
                  rw [if_pos (show nI 0 = 0 from rfl), j5.2.1, T_isBelow_4, bd_s, bI_t bi, if_neg (show ¬ (1 : Int32) = 0 by decide), T_isBelow_4, bd_s, bI_f nb, if_pos rfl, bd_s]
                  rfl
              · exact ⟨_, T_daysOf j4.1 j5 hi hl6 (fun z => absurd z l0)⟩
            obtain ⟨t, et⟩ := dd
            rw [et, bd_s, pc, bd_s, nm_s, if_pos (show (-1 : Int32) < 0 by decide)]
            exact next κ j2 (fun y => absurd y hbb)
          obtain ⟨c1, c2⟩ := hB_c hbb
          have hd' := can_dg hi hl6 hd c1
          obtain ⟨a1, a2, a3, -⟩ := ac_ok hO hB1 hi hl6 hd c1
          have nU : subB (acO O l d) (useW W) = true := by
            by_cases l0 : l = 0
            · subst l0
              exact hU
            · have inn := (hB_in hO hB1 hi hl6 (by omega) hd hU hbb).2.2
              rw [show nxt O B i l d / 108 = acO O l d by unfold nxt cod; omega] at inn
              exact inn
          have n2 : nxt O B i l d < 27648 := by unfold nxt cod; omega
          have cle := cstW_le hW (m := 0) (l := l) (d := d) hi (fun z => by subst z; exact hd')
          rw [if_pos ((bit_is Hlt hd).mpr hbb), T_after j5 hl6 hd (fun e => by subst e; exact (can_5.mp c1).1), bd_s]
          show wp (F_X4_follow_127 (R_X4_follow nf) w w2 _ _ _ (nI l) _ (nI d) (nI (nxt O B i l d)) κ) _
          unfold F_X4_follow_127
          rw [T_daysOf j4.1 j5 hi hl6 (fun z => by subst z; exact hd'), bd_s, pc, bd_s, show 1024 * dyW W i l d + (if (0 : Nat) = 0 then 1 else if l = 2 ∨ l = 3 ∨ l = 4 then 1 else 0) = cstW W 0 i l d from rfl, nI_add, nm_s, if_neg (nI_pos (by omega)), if_neg (by rw [show (27648 : Int32) = nI 27648 from rfl, nI_lep (by omega)]; omega), j4.2.2.2.1]
          obtain ⟨fn, fo⟩ := j4.2.2.2.2 (nxt O B i l d) n2 (by rw [show nxt O B i l d / 108 = acO O l d by unfold nxt cod; omega]; exact nU)
          by_cases far : bst < f (cod O B i) + cstW W 0 i l d
          · rw [if_pos (by rw [nI_ltp (by omega)]; exact far)]
            exact next κ j2 (fun _ e a => by have := a.2; omega)
          rw [if_neg (by rw [nI_ltp (by omega)]; exact far), gd_n (by omega), nI_cl (by omega)]
          have tight : κ.1 48 (nxt O B i l d) = nI (f (cod O B i) + cstW W 0 i l d) ↔ (f (nxt O B i l d) = f (cod O B i) + cstW W 0 i l d ∧ κ.1 48 (nxt O B i l d) = nI (f (nxt O B i l d))) := by
            rcases fo with fo | fo
            · rw [fo, nI_eqp (by omega)]
              exact ⟨fun y => ⟨y, rfl⟩, fun y => y.1⟩
            · rw [fo.1, nI_eqp (by omega), nI_eqp (by omega)]
              constructor
              · intro y
                omega
              · intro y
                omega
          by_cases ti : κ.1 48 (nxt O B i l d) = nI (f (cod O B i) + cstW W 0 i l d)
          rotate_left
          · rw [if_neg ti]
            refine next κ j2 (fun _ e a => ti (tight.mpr ⟨e, ?_⟩))
            rcases fo with fo | fo
            · exact fo
            · exact absurd a fo.2
          obtain ⟨t1, t2⟩ := tight.mp ti
          rw [if_pos ti, gd_n (by omega), nI_cl (by omega), show (10 : Int32) * nI l = nI (10 * l) from pk_mul 10 l, nI_add, nm_s, nI_1]
          have fw : fr [51] [] κ (zwr κ 51 dep (nI (10 * l + d))) := fr_w (Or.inl (by decide))
          have hSw : FS W T f bst (zwr κ 51 dep (nI (10 * l + d))) := FS_fr j4 (fw.mono (by decide))
          have back := al_back hW hh hT hI hb hl hO hB1 hi hU hg hl6 hd' c1 t1
          have gd : AL T f bst (nxt O B i l d) → Gd W T O B i l d := fun a => ⟨hl6, hd', c1, a.1, (back a).2⟩
          refine wp_bd2 (ih (dep + 1) (acO O l d) (acB B l d) (acI i l d) (zwr κ 51 dep (nI (10 * l + d))) (by omega) (by omega) a1 a2 a3 nU hSw ?_ ?_ (fun a => ?_) (fun k k1 k2 => ?_)) (fun r ω hω => ?_)
          · rw [zwr_n (by decide)]
            exact t2
          · show f (nxt O B i l d) ≤ bst
            omega
          · have p1 := ph_s hT hO hB1 hi st hg (gd a)
            have p2 := hph (back a).1
            omega
          · rw [zwr_ne (Or.inr (by omega))]
            exact j7 k (by omega) k2
          · obtain ⟨o1, o2, o3, o4⟩ := hω
            have oo : fr LF4 SF4 σ ω := (j3.tr (fw.mono (by decide))).tr o1
            rcases o4 with ⟨na, rfl, o5⟩ | ⟨al, rfl, N, a, p1, p2, p3, p4⟩
            · rw [if_pos rfl]
              refine wp_bd2 (T_stand hW o2.1 hO hB1 hi) (fun _ ρ hρ => ?_)
              obtain ⟨r1, r2⟩ := hρ
              have r51 : ∀ k, ρ.1 51 k = ω.1 51 k := fun k => by rw [r1.row (c := 51) (by decide)]
              refine next ρ ⟨oo.tr (r1.mono (by decide)), FS_fr o2 (r1.mono (by decide)), r2, fun k hk => ?_, fun k k1 k2 => ?_, j8⟩ (fun _ _ => na)
              · rw [r51, o3 k (by omega), zwr_ne (Or.inr (by omega))]
                exact j6 k hk
              · rw [r51]
                exact o5 k (by omega) k2
            · rw [if_neg (show ¬ (1 : Int32) = 0 by decide)]
              have G := gd al
              refine wp_some ⟨oo, o2, fun k hk => ?_, Or.inr ⟨(back al).1, rfl, N + 1, fun k => if k = 0 then 10 * l + d else a (k - 1), ⟨hg, l, d, rfl, ⟨G, fun l' d' x g' => ?_⟩, ?_⟩, by omega, fun k hk => ?_, fun k k1 k2 => ?_⟩⟩
              · rw [o3 k (by omega), zwr_ne (Or.inr (by omega))]
                exact j6 k hk
              · have g8 : d' < 8 := by have := (dgs_le l' g'.1).2; have := g'.2.1; omega
                obtain ⟨v1, v2, v3⟩ := al_fwd hW hh hT hI hb hl hO hB1 hi hU hg g' (back al).1
                exact j8 l' d' x g'.1 g8 v1 v2 v3
              · exact p1
              · by_cases k0 : k = 0
                · subst k0
                  show ω.1 51 (dep + 0) = nI (if (0 : Nat) = 0 then 10 * l + d else a (0 - 1))
                  rw [if_pos rfl, Nat.add_zero, o3 dep (by omega), zwr_at]
                · show ω.1 51 (dep + k) = nI (if k = 0 then 10 * l + d else a (k - 1))
                  rw [if_neg k0, show dep + k = dep + 1 + (k - 1) by omega]
                  exact p3 (k - 1) (by omega)
              · exact p4 k (by omega) k2
        · obtain ⟨x, κ⟩ := s
          obtain ⟨j1, j2⟩ := hI2
          simp only at j1 j2
          subst j1
          show wp (F_X4_follow_86 (R_X4_follow nf) w (nI (cod O B i)) (nI dep) (nI (f (cod O B i))) (nI l) _ w2 (nI 8) κ) _
          unfold F_X4_follow_86 F_X4_follow_229
          rw [if_pos (show (8 : Int32) ≤ nI 8 by decide), nm_s, nI_1]
          exact out κ 8 j2 (fun d' h1 h2 => by omega)
      · obtain ⟨x, υ⟩ := s
        obtain ⟨i1, i2⟩ := hI1
        simp only at i1 i2
        subst i1
        obtain ⟨j3, j4, j5, j6, j7, j8⟩ := i2
        show wp (F_X4_follow_68 (R_X4_follow nf) (nI (cod O B i)) (nI dep) (nI (f (cod O B i))) w (nI 6) υ) _
        unfold F_X4_follow_68 F_X4_follow_235
        rw [if_pos (show (6 : Int32) ≤ nI 6 by decide), gd_n (by omega), nI_cl (by omega), nm_s, gd_n (by omega), nI_cl (by omega), nm_s]
        have na : ¬ AL T f bst (cod O B i) := by
          intro a
          rcases (ok.2.2.1 st hg).2 with z | ⟨l, d, hl', hd, hc, tn, te⟩
          · have := a.1
            omega
          have d8 : d < 8 := by have := (dgs_le l hl').2; omega
          obtain ⟨v1, v2, v3⟩ := al_fwd hW hh hT hI hb hl hO hB1 hi hU hg ⟨hl', hd, hc, tn, te.symm⟩ a
          exact j8 l d hl' hl' d8 v1 v2 v3
        refine wp_some ⟨(j3.w (Or.inl (by decide))).w (Or.inl (by decide)), ?_, fun k hk => ?_, Or.inl ⟨na, rfl, fun k k1 k2 => ?_⟩⟩
        · obtain ⟨s1, s2, s3, s4, s5⟩ := j4
          have fz : fr [48, 51] [] υ (zwr (zwr υ 48 (cod O B i) 134217728) 51 dep (-1)) := (fr_w (Or.inl (by decide))).w (Or.inl (by decide))
          refine ⟨SK_fr s1 fz (by decide), ⟨(fz.rd (by decide) (by decide)).trans s2.1, fun l hl => ?_⟩, (fz.rd (by decide) (by decide)).trans s3, (fz.rd (by decide) (by decide)).trans s4, fun s x1 x2 => ?_⟩
          · rw [fz.row (c := 52) (by decide)]
            exact s2.2 l hl
          · refine ⟨(s5 s x1 x2).1, ?_⟩
            rw [zwr_n (by decide)]
            by_cases e : s = cod O B i
            · rw [e, zwr_at]
              exact Or.inr ⟨rfl, na⟩
            · rw [zwr_ne (Or.inr e)]
              exact (s5 s x1 x2).2
        · rw [zwr_ne (Or.inr (by omega)), zwr_ne (Or.inl (by decide))]
          exact j6 k hk
        · by_cases e : k = dep
          · rw [e, zwr_at]
          · rw [zwr_ne (Or.inr e), zwr_ne (Or.inl (by decide))]
            exact j7 k (by omega) k2
