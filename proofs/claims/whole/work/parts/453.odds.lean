/-! PURE: stories -/
theorem fr_l {a b c : Nat} (hc : 0 < c) : (c * a) / Nat.gcd (c * a) (c * b) = a / Nat.gcd a b := by
  rw [Nat.gcd_mul_left, Nat.mul_div_mul_left _ _ hc]
theorem fr_r {a b c : Nat} (hc : 0 < c) : (c * b) / Nat.gcd (c * a) (c * b) = b / Nat.gcd a b := by
  rw [Nat.gcd_mul_left, Nat.mul_div_mul_left _ _ hc]
/-- told islands, at least one -/
def plP (W : zWo) (x : Int32) : Prop := ¬ x ≤ 0 ∧ x &&& (nI (wTol W) ^^^ (-1)) = 0
theorem plP_of {W : zWo} (hW : WOK W) {x : Int32} (h : plP W x) : ∃ P, P < 256 ∧ x = nI P := by
  obtain ⟨-, -, -, -, -, -, -, hT, -⟩ := hW
  obtain ⟨h0, h1⟩ := h
  have h0' : 0 < x.toInt := by
    rw [i_le] at h0
    have : (0 : Int32).toInt = 0 := rfl
    omega
  have hx := Int32.toInt_lt x
  obtain ⟨X, hX, rfl⟩ := i_of (n := 2147483648) (x := x) (by omega) (by omega)
  refine ⟨X, ?_, rfl⟩
  have b : ∀ i, i < 32 → (X.testBit i && !(wTol W).testBit i) = false := by
    intro i hi
    have g : bt (nI X &&& (nI (wTol W) ^^^ (-1))) i = bt 0 i := by rw [h1]
    rw [b_and, b_xor, b_m1 i hi, bt_nI hi, bt_nI hi, b_0] at g
    rw [← g, Bool.xor_true]
  have e : (2 : Nat) ^ 8 = 256 := rfl
  rw [← e]
  refine Nat.lt_pow_two_of_testBit X (fun i hi => ?_)
  by_cases q : i < 32
  · have g := b i q
    rw [tb_hi hT hi] at g
    simpa using g
  · refine Nat.testBit_lt_two_pow (Nat.lt_of_lt_of_le hX ?_)
    have e2 : (2 : Nat) ^ 31 = 2147483648 := rfl
    rw [← e2]
    exact Nat.pow_le_pow_right (by decide) (by omega)
theorem T_arePl {W : zWo} {σ : zSt} {x : Int32} (e : σ.1 69 0 = nI (wTol W)) : F_X12_arePlaces x σ = some (bI (plP W x), σ) := by
  unfold F_X12_arePlaces F_X12_arePlaces_0
  rw [e]
  by_cases q : x ≤ 0
  · rw [if_pos q, bI_f (fun z => z.1 q)]
  rw [if_neg q]
  by_cases r : x &&& (nI (wTol W) ^^^ (-1)) = 0
  · rw [if_pos r, bI_t (p := plP W x) ⟨q, r⟩]
  · rw [if_neg r, bI_f (fun z => r z.2)]
theorem plV {W : zWo} {x : Int32} : (if x ≤ 0 then (0 : Int32) else (if x &&& (nI (wTol W) ^^^ (-1)) = 0 then (1 : Int32) else (0 : Int32))) = bI (plP W x) := by
  by_cases q : x ≤ 0
  · rw [if_pos q, bI_f (fun z => z.1 q)]
  rw [if_neg q]
  by_cases r : x &&& (nI (wTol W) ^^^ (-1)) = 0
  · rw [if_pos r, bI_t (p := plP W x) ⟨q, r⟩]
  · rw [if_neg r, bI_f (fun z => r z.2)]
theorem T_refS {W : zWo} {m N : Nat} {tp : Nat → Nat} {x2 : Int32} {c : Prop} {σ : zSt} (w0 : WOK W) (w2 : EC 1 2 W σ) (t0 : m ≤ 260) (t1 : σ.1 33 1 = nI m) (t3 : ∀ j, j < N → tp j < 256 ∧ σ.1 34 j = nI (tp j)) (hN1 : 1 ≤ N) (hN : N ≤ 60) (hm : N ≤ m) {res : Int32 × Nat × (Nat → Nat) × (Nat → Nat)} (hres : spr tp N 13 0 0 (fun _ => 0) (fun _ => 0) = res) : wp (F_X11_refusedStory (nI N) x2 (bI c) σ) (fun a τ => ((res.1 = 0 ∧ (plP W x2 ∧ c) ∧ a = 0) ∨ (res.1 = 0 ∧ ¬ (plP W x2 ∧ c) ∧ a = -3) ∨ (¬ res.1 = 0 ∧ a = res.1)) ∧ fr LC [(33, 1), (33, 2)] σ τ ∧ τ.1 33 1 = 0 ∧ (res.1 = 0 → τ.1 57 5 = nI res.2.1 ∧ res.2.1 ≤ 12 ∧ 1 ≤ res.2.1 ∧ NGT 58 59 res.2.1 res.2.2.1 res.2.2.2 τ)) := by
  have c1 : ¬ nI N < 1 := by
    rw [show (1 : Int32) = nI 1 from rfl, nI_ltp (by omega)]
    omega
  have c2 : ¬ (60 : Int32) < nI N := by
    rw [show (60 : Int32) = nI 60 from rfl, nI_ltp (by omega)]
    omega
  have hg : wNig W ≤ 600 := w0.2.2.2.2.2.2.2.2.2.2.1
  unfold F_X11_refusedStory F_X11_refusedStory_0
  rw [if_neg c1, if_neg c2, take_yes t0 t1 hm, bd_s, if_neg (show ¬ (1 : Int32) = 0 by decide)]
  have f1 : fr LC [(33, 1), (33, 2)] σ (zwr (zwr σ 33 2 (nI N)) 33 1 0) := (fr_w (Or.inr (by decide))).w (Or.inr (by decide))
  have T1 : TX tp N (zwr (zwr σ 33 2 (nI N)) 33 1 0) := by
    refine ⟨by omega, ?_, fun j hj => ⟨(t3 j hj).1, ?_⟩⟩
    · rw [zwr_ne (Or.inr (by decide)), zwr_at]
    · rw [f1.row (c := 34) (by decide)]
      exact (t3 j hj).2
  have z33 : (zwr (zwr σ 33 2 (nI N)) 33 1 0).1 33 1 = 0 := zwr_at
  generalize zwr (zwr σ 33 2 (nI N)) 33 1 0 = s at f1 T1 z33
  have s9 : s.1 1 9 = nI (wNig W) := (f1.EC (by decide) w2).2.2.2.2.2.2.2.2.2.1
  rw [s9, if_pos (by rw [show (9987 : Int32) = nI 9987 from rfl, nI_lep (by omega)]; omega)]
  unfold F_X6_read F_X6_read_0
  refine wp_bd2 (P := fun a τ => a = res.1 ∧ fr [57, 58, 59] [] s τ ∧ τ.1 57 5 = nI res.2.1 ∧ res.2.1 ≤ 12 ∧ NGT 58 59 res.2.1 res.2.2.1 res.2.2.2 τ ∧ (res.1 = 0 → 1 ≤ res.2.1)) ?_ (fun a τ hτ => ?_)
  · rw [nm_s]
    have f2 : fr [57, 58, 59] [] s (zwr s 57 5 0) := fr_w (Or.inl (by decide))
    refine wp_mono (T_readSC (tp := tp) (N := N) 13 zlim 0 0 (fun _ => 0) (fun _ => 0) (zwr s 57 5 0) rfl (by show 13 < 1000000; decide) (by decide) (by decide) (TX_fr T1 f2 (by decide)) zwr_at (fun j hj => absurd hj (Nat.not_lt_zero j))) (fun a τ h => ?_)
    rw [hres] at h
    obtain ⟨a1, a2, a3, a4, a5, a6⟩ := h
    exact ⟨a1, f2.tr (a2.mono (by decide)), a3, a4, a5, a6⟩
  · obtain ⟨rfl, a2, a3, a4, a5, a6⟩ := hτ
    have f3 : fr LC [(33, 1), (33, 2)] σ τ := f1.tr (a2.mono (by decide))
    have zτ : τ.1 33 1 = 0 := (a2.rd (by decide) (by decide)).trans z33
    by_cases q : res.1 = 0
    rotate_left
    · rw [if_neg q]
      exact wp_some ⟨Or.inr (Or.inr ⟨q, rfl⟩), f3, zτ, fun z => absurd z q⟩
    have τ6 : τ.1 1 6 = nI (wTol W) := (f3.EC (by decide) w2).2.2.2.2.2.2.1
    rw [if_pos q, τ6, plV, nm_s]
    have K := And.intro f3 (And.intro zτ (fun _ : res.1 = 0 => And.intro a3 (And.intro a4 (And.intro (a6 q) a5))))
    by_cases k : c
    rotate_left
    · rw [bI_f k, if_pos rfl]
      exact wp_some ⟨Or.inr (Or.inl ⟨q, fun z => k z.2, rfl⟩), K⟩
    rw [bI_t k, if_neg (show ¬ (1 : Int32) = 0 by decide)]
    by_cases p : plP W x2
    rotate_left
    · rw [bI_f p, if_pos rfl]
      exact wp_some ⟨Or.inr (Or.inl ⟨q, fun z => p z.1, rfl⟩), K⟩
    rw [bI_t p, if_neg (show ¬ (1 : Int32) = 0 by decide)]
    exact wp_some ⟨Or.inl ⟨q, ⟨p, k⟩, rfl⟩, K⟩
/-- how many of the weights are not 0 -/
def cntN (f : Nat → Nat) (n : Nat) : Nat := sumN (fun k => if f k = 0 then 0 else 1) n
theorem cntN_le {f : Nat → Nat} (n : Nat) : cntN f n ≤ n := by
  have h : cntN f n ≤ sumN (fun _ => 1) n := sumN_le n (fun k _ => by show (if f k = 0 then 0 else 1) ≤ 1; split <;> omega)
  rw [sumN_const] at h
  omega
theorem cntN_mul {f : Nat → Nat} {c : Nat} (hc : 0 < c) (n : Nat) : cntN (fun k => c * f k) n = cntN f n := by
  refine sumN_c n (fun k _ => ?_)
  show (if c * f k = 0 then 0 else 1) = if f k = 0 then 0 else 1
  by_cases h : f k = 0
  · rw [h, Nat.mul_zero]
  · rw [if_neg h, if_neg (fun z => h ((Nat.mul_eq_zero.mp z).resolve_left (by omega)))]
theorem pos_v {a : Nat} (h : a < 9223372036854775808) : (if lg_cmp (lN a) (0 : Int64) ≤ 0 then (0 : Int32) else 1) = nI (if a = 0 then 0 else 1) := by
  by_cases q : a = 0
  · rw [q, if_pos (by rw [lg_cmp_le]; exact (show (0 : Int64) ≤ 0 by decide)), if_pos rfl]
    rfl
  · rw [if_neg (by rw [lg_cmp_le, show (0 : Int64) = lN 0 from rfl, lN_lep (by omega)]; omega), if_neg q]
    rfl
theorem T_possC {wt : Nat → Nat} {σ : zSt} (hb : ∀ p, p < 8 → wt p < 9223372036854775808) (h : WT 60 8 wt σ) : F_X6_possible σ = some (nI (cntN wt 8), σ) := by
  unfold F_X6_possible F_X6_possible_0
  refine zfix_run (fun p => (nI (cntN wt p), nI p, σ)) 8 (by decide) (fun p w hp => ?_) (fun w => ?_)
  · show F_X6_possible_4 w _ (nI p) σ = _
    unfold F_X6_possible_4
    rw [if_neg (by rw [show (8 : Int32) = nI 8 from rfl, nI_lep (by omega)]; omega), gd_n (by omega), nI_cl (by omega), h p hp, pos_v (hb p hp), nm_s, nI_add, nm_s, nm_s, nI_1]
    rfl
  · show F_X6_possible_4 w _ (nI 8) σ = _
    unfold F_X6_possible_4
    rw [if_pos (show (8 : Int32) ≤ nI 8 by decide)]
theorem T_possM {wt : Nat → Nat} {σ : zSt} (hb : ∀ p, p < 8 → wt p < 9223372036854775808) (h : WT 101 8 wt σ) : zfix F_X12_story_117L zlim (0, 0, σ) = some ((nI (cntN wt 8)).toInt64, σ) := by
  refine zfix_run (fun p => (nI (cntN wt p), nI p, σ)) 8 (by decide) (fun p w hp => ?_) (fun w => ?_)
  · show F_X12_story_117 w _ (nI p) σ = _
    unfold F_X12_story_117
    rw [if_neg (by rw [show (8 : Int32) = nI 8 from rfl, nI_lep (by omega)]; omega), gd_n (by omega), nI_cl (by omega), h p hp, pos_v (hb p hp), nm_s, nI_add, nm_s, nm_s, nI_1]
    rfl
  · show F_X12_story_117 w _ (nI 8) σ = _
    unfold F_X12_story_117
    rw [if_pos (show (8 : Int32) ≤ nI 8 by decide)]
/-- what story answers -/
def stA (wt : Nat → Nat) (X : Nat) : Int64 := if sumN wt 8 = 0 then -2 else if X = 16 then (nI (cntN wt 8)).toInt64 else if 8 ≤ X then lN (sumN wt 8 / Nat.gcd (wt (X % 8)) (sumN wt 8)) else lN (wt (X % 8) / Nat.gcd (wt (X % 8)) (sumN wt 8))
theorem stA_mul {wt wt' : Nat → Nat} {c X : Nat} (hc : 0 < c) (h : ∀ p, wt' p = c * wt p) : stA wt' X = stA wt X := by
  have hf : wt' = fun p => c * wt p := funext h
  subst hf
  have s : sumN (fun p => c * wt p) 8 = c * sumN wt 8 := sumN_mul 8
  unfold stA
  rw [s, cntN_mul hc, fr_l hc, fr_r hc]
  by_cases q : sumN wt 8 = 0
  · rw [q, Nat.mul_zero]
  · rw [if_neg q, if_neg (fun z => q ((Nat.mul_eq_zero.mp z).resolve_left (by omega)))]
theorem lg_0 {a : Nat} (h : a < 9223372036854775808) : (lg_cmp (lN a) (0 : Int64) = 0) = (a = 0) := by
  rw [lg_cmp_eq, show (0 : Int64) = lN 0 from rfl, lN_eqp (by omega)]
theorem T_in_s60 {x : Int32} {σ : zSt} : F_X12_in x 1 60 σ = some (bI (1 ≤ x.toInt ∧ x.toInt ≤ 60), σ) := T_in
theorem T_in_s16 {x : Int32} {σ : zSt} : F_X12_in x 0 16 σ = some (bI (bel x 17), σ) := T_inN 16 rfl
theorem T_in_s2 {x : Int32} {σ : zSt} : F_X12_in x 0 2 σ = some (bI (bel x 3), σ) := T_inN 2 rfl
theorem T_odds {σ0 : zSt} (hL : RLw σ0) {W : zWo} (hW : WOK W) {M : Nat} {ds sd : Nat → Nat} (hM : M ≤ 12) {D K : Nat} (hDR : DR σ0 D K) {P X : Nat} (hP : P < 256) (hX : X < 17) {σ : zSt} (hB : SB σ0 W M ds sd σ) : wp (F_X6_odds (nI P) (nI X) σ) (fun a τ => a = stA (wtS σ0 W ds sd P D M) X ∧ fr [16, 24, 25, 60, 61, 62] [] σ τ) := by
  obtain ⟨D1, D2, K1, K2, KD⟩ := DR_b hDR
  obtain ⟨b1, b2⟩ := wtS_12 (σ0 := σ0) (W := W) (ds := ds) (sd := sd) (P := P) (D := D) (k := M) D1 hM
  unfold F_X6_odds F_X6_odds_0
  refine wp_bd2 (T_weigh hL hW hM hDR hP hB) (fun a τ hτ => ?_)
  obtain ⟨rfl, f1, f2⟩ := hτ
  unfold stA
  by_cases q : sumN (wtS σ0 W ds sd P D M) 8 = 0
  · rw [if_pos (by rw [lg_0 (by omega)]; exact q), if_pos q]
    exact wp_some ⟨rfl, f1⟩
  rw [if_neg (by rw [lg_0 (by omega)]; exact q), if_neg q]
  by_cases r : X = 16
  · rw [r, if_pos rfl, if_pos (show nI 16 = 16 from rfl), T_possC (fun p hp => by have := b2 p hp; omega) f2, bd_s]
    exact wp_some ⟨rfl, f1⟩
  rw [if_neg r, if_neg (by rw [show (16 : Int32) = nI 16 from rfl, nI_eqp (by omega)]; exact r), T_isBelow_16, bd_s, bI_t (p := bel (nI X) 16) (bel_t (by omega)), if_neg (show ¬ (1 : Int32) = 0 by decide)]
  have hg : 0 < Nat.gcd (wtS σ0 W ds sd P D M (X % 8)) (sumN (wtS σ0 W ds sd P D M) 8) := gcd_pos_r (by omega)
  have hg2 := Nat.gcd_le_right (wtS σ0 W ds sd P D M (X % 8)) (show 0 < sumN (wtS σ0 W ds sd P D M) 8 by omega)
  have b3 := b2 (X % 8) (by omega)
  have hne : ¬ lN (Nat.gcd (wtS σ0 W ds sd P D M (X % 8)) (sumN (wtS σ0 W ds sd P D M) 8)) = 0 := by
    rw [show (0 : Int64) = lN 0 from rfl, lN_eqp (by omega)]
    omega
  rw [show (8 : Int32) = nI 8 from rfl, nI_mod (by omega), gd_n (by omega), nI_cl (by omega), f2 _ (by omega), nm_s, nm_s, T_cdiv (by omega) (by omega) hg, bd_s, gd_t hne]
  by_cases t : 8 ≤ X
  · rw [if_pos t, if_pos (by rw [nI_lep (by omega)]; exact t), pk_lDiv (by omega) hg (by omega)]
    exact wp_some ⟨rfl, f1⟩
  · rw [if_neg t, if_neg (by rw [nI_lep (by omega)]; exact t), pk_lDiv (by omega) hg (by omega)]
    exact wp_some ⟨rfl, f1⟩
/-- what a story is judged by -/
noncomputable def stR (W : zWo) (res : Int32 × Nat × (Nat → Nat) × (Nat → Nat)) (x2 : Int32) (c : Prop) (v : Int64) : Int64 := if res.1 = 0 then @ite _ (plP W x2 ∧ c) (Classical.propDecidable _) v (-3) else res.1.toInt64

theorem spr_b0 (tp : Nat → Nat) (N : Nat) : ∀ f p m ds sd, m ≤ 12 → p ≤ 3 * m → (spr tp N f p m ds sd).1 = 0 → (spr tp N f p m ds sd).2.1 ≤ 12 ∧ 1 ≤ (spr tp N f p m ds sd).2.1 := by
  intro f
  induction f with
  | zero =>
    intro p m ds sd hm hp h
    exact absurd h (flt_n (by decide) (by decide) (by omega))
  | succ f ih =>
    intro p m ds sd hm hp
    unfold spr
    cases (chN tp N p).bind dsB with
    | none => intro h; exact absurd h (flt_n (by decide) (by decide) (by omega))
    | some u =>
      simp only
      by_cases q : 12 ≤ m
      · rw [if_pos q]
        intro h
        exact absurd h (flt_n (by decide) (by decide) (by omega))
      rw [if_neg q]
      cases (chN tp N (p + 1)).bind sdB with
      | none => intro h; exact absurd h (flt_n (by decide) (by decide) (by omega))
      | some a =>
        simp only
        by_cases r : p + 2 = N
        · rw [if_pos r]
          intro _
          exact ⟨by show m + 1 ≤ 12; omega, by show 1 ≤ m + 1; omega⟩
        rw [if_neg r]
        by_cases t : chN tp N (p + 2) = some 44
        · rw [if_pos t]
          exact ih (p + 3) (m + 1) _ _ (by omega) (by omega)
        · rw [if_neg t]
          intro h
          exact absurd h (flt_n (by decide) (by decide) (by omega))
theorem spr_b (tp : Nat → Nat) (N : Nat) {res : Int32 × Nat × (Nat → Nat) × (Nat → Nat)} (hres : spr tp N 13 0 0 (fun _ => 0) (fun _ => 0) = res) (q : res.1 = 0) : res.2.1 ≤ 12 ∧ 1 ≤ res.2.1 := by
  subst hres
  exact spr_b0 tp N 13 0 0 _ _ (by decide) (by decide) q
theorem s_story {n : Nat} {σ : zSt} (hn : n < 512) (hR : Rel n σ) (x1 x2 x3 : Int32) : Both n (F_X11_story x1 x2 x3) (F_X12_story x1 x2 x3) σ := by
  obtain ⟨-, ⟨W, w0, w1, w2, w3⟩, -, ⟨m, tp, t0, t1, t2, t3⟩, hL, -⟩ := id hR
  by_cases h1 : 1 ≤ x1.toInt ∧ x1.toInt ≤ 60
  rotate_left
  · refine Both.no (-1) hn hR ?_ ?_
    · unfold F_X11_story F_X11_story_0 F_X11_refusedStory F_X11_refusedStory_0
      have a : (1 : Int32).toInt = 1 := rfl
      have b : (60 : Int32).toInt = 60 := rfl
      rw [T_isBelow_17, bd_s]
      by_cases q : x1 < 1
      · rw [if_pos q, bd_s, if_neg (show ¬ (-1 : Int32) = 0 by decide)]
        rfl
      · rw [if_neg q, if_pos (by rw [i_lt] at q ⊢; omega), bd_s, if_neg (show ¬ (-1 : Int32) = 0 by decide)]
        rfl
    · unfold F_X12_story F_X12_story_0 F_X12_story_28
      rw [T_in_s60, bd_s, bI_f h1, if_pos rfl]
  obtain ⟨N, hN, rfl⟩ := i_of (n := 61) (x := x1) (by omega) (by omega)
  have h1' := h1
  rw [i_nI (by omega)] at h1'
  have hN1 : 1 ≤ N := by omega
  have c1 : ¬ nI N < 1 := by
    rw [show (1 : Int32) = nI 1 from rfl, nI_ltp (by omega)]
    omega
  have c2 : ¬ (60 : Int32) < nI N := by
    rw [show (60 : Int32) = nI 60 from rfl, nI_ltp (by omega)]
    omega
  by_cases h3 : N ≤ m
  rotate_left
  · refine Both.no (-1) hn hR ?_ ?_
    · unfold F_X11_story F_X11_story_0 F_X11_refusedStory F_X11_refusedStory_0
      rw [T_isBelow_17, bd_s, if_neg c1, if_neg c2, take_no t1 (Or.inr (by rw [nI_lep (by omega)]; exact h3)), bd_s, if_pos rfl, bd_s, if_neg (show ¬ (-1 : Int32) = 0 by decide)]
      rfl
    · unfold F_X12_story F_X12_story_0 F_X12_story_28
      rw [T_in_s60, bd_s, bI_t h1, if_neg (show ¬ (1 : Int32) = 0 by decide), t2, if_pos (by rw [nI_ltp (by omega)]; omega)]
  generalize hres : spr tp N 13 0 0 (fun _ => 0) (fun _ => 0) = res
  obtain ⟨D, K, hDR⟩ := DR_ex (σ0 := σ)
  obtain ⟨D1, D2, K1, K2, KD⟩ := DR_b hDR
  have hg : wNig W ≤ 600 := w0.2.2.2.2.2.2.2.2.2.2.1
  have ans : ∃ v : Int64, (wp (F_X11_story (nI N) x2 x3 σ) (fun a τ => a = v ∧ fr LC [(33, 1), (33, 2)] σ τ ∧ τ.1 33 1 = 0)) ∧ ∀ τ, EM 70 0 W τ → eqOn rowsL slotsL σ τ → τ.1 69 14 = nI m → (∀ j, j < N → tp j < 256 ∧ τ.1 76 j = sb (tp j)) → wp (F_X12_story (nI N) x2 x3 τ) (fun a υ => a = v ∧ fr LM ((69, 14) :: SM) τ υ ∧ υ.1 69 14 = 0) := by
    refine ⟨stR W res x2 (bel x3 17) ((fun M ds sd P X => stA (wtS σ W ds sd P D M) X) res.2.1 res.2.2.1 res.2.2.2 x2.toInt.toNat x3.toInt.toNat), ?_, fun τ hM hE u14 uT => ?_⟩
    · unfold F_X11_story F_X11_story_0
      rw [T_isBelow_17, bd_s]
      refine wp_bd2 (T_refS w0 w2 t0 t1 (fun j hj => ⟨(t3 j (by omega)).1, (t3 j (by omega)).2.1⟩) hN1 (by omega) h3 hres) (fun a τ hτ => ?_)
      obtain ⟨a0, f1, z1, a2⟩ := hτ
      rcases a0 with ⟨q, p, rfl⟩ | ⟨q, p, rfl⟩ | ⟨q, rfl⟩
      rotate_left
      · rw [if_neg (show ¬ (-3 : Int32) = 0 by decide)]
        refine wp_some ⟨?_, f1, z1⟩
        unfold stR
        rw [if_pos q, if_neg p]
        rfl
      · rw [if_neg q]
        refine wp_some ⟨?_, f1, z1⟩
        unfold stR
        rw [if_neg q]
      rw [if_pos rfl]
      obtain ⟨a3, a4, a5, a6⟩ := a2 q
      obtain ⟨P, hP, rfl⟩ := plP_of w0 p.1
      obtain ⟨X, hX, rfl⟩ := bel_of p.2
      unfold stR
      rw [if_pos q, if_pos p, i_nI (by omega), i_nI (by omega), Int.toNat_natCast, Int.toNat_natCast]
      refine wp_bd2 (T_odds hL w0 a4 hDR hP hX ⟨f1.eqOn (by decide), f1.EC (by decide) w2, a6, a3⟩) (fun a υ hυ => ?_)
      exact wp_some ⟨hυ.1, f1.tr (hυ.2.mono (by decide)), (hυ.2.rd (by decide) (by decide)).trans z1⟩
    · have m4 : τ.1 69 4 = nI (wNig W) := hM.2.2.2.2.2.2.2.2.2.1
      unfold F_X12_story F_X12_story_0
      rw [T_in_s60, bd_s, bI_t h1, if_neg (show ¬ (1 : Int32) = 0 by decide), u14, if_neg (by rw [nI_ltp (by omega)]; omega), m4, if_pos (by rw [show (9987 : Int32) = nI 9987 from rfl, nI_lep (by omega)]; omega)]
      refine wp_bd2 (T_readsStory (by omega) uT hres) (fun a υ hυ => ?_)
      obtain ⟨f0, z0, a0⟩ := hυ
      have f1 : fr LM ((69, 14) :: SM) τ υ := f0.mono (by decide)
      rcases a0 with ⟨q, rfl, a3, a6⟩ | ⟨q, rfl, a3⟩
      rotate_left
      · rw [if_pos rfl, a3]
        refine wp_some ⟨?_, f1, z0⟩
        unfold stR
        rw [if_neg q]
      have hMυ : EM 70 0 W υ := f1.EM (by decide) hM
      have υ0 : υ.1 69 0 = nI (wTol W) := hMυ.2.2.2.2.2.2.1
      have a45 := spr_b tp N hres q
      rw [if_neg (show ¬ (1 : Int32) = 0 by decide), T_arePl υ0, bd_s]
      by_cases p : plP W x2
      rotate_left
      · rw [bI_f p, if_pos rfl]
        unfold F_X12_story_64 stR
        rw [if_pos q, if_neg (fun z => p z.1)]
        exact wp_some ⟨rfl, f1, z0⟩
      rw [bI_t p, if_neg (show ¬ (1 : Int32) = 0 by decide), T_in_s16, bd_s]
      by_cases k : bel x3 17
      rotate_left
      · rw [bI_f k, if_pos rfl]
        unfold F_X12_story_64 stR
        rw [if_pos q, if_neg (fun z => k z.2)]
        exact wp_some ⟨rfl, f1, z0⟩
      rw [bI_t k, if_neg (show ¬ (1 : Int32) = 0 by decide)]
      obtain ⟨P, hP, rfl⟩ := plP_of w0 p
      obtain ⟨X, hX, rfl⟩ := bel_of k
      unfold stR
      rw [if_pos q, if_pos (And.intro p k), i_nI (by omega), i_nI (by omega), Int.toNat_natCast, Int.toNat_natCast]
      have hB : SBM σ W res.2.1 res.2.2.1 res.2.2.2 υ := ⟨hE.tr (f1.eqOn (by decide)), hMυ, a6, a3⟩
      obtain ⟨b1, b2⟩ := wtS_12 (σ0 := σ) (W := W) (ds := res.2.2.1) (sd := res.2.2.2) (P := P) (D := 10) (k := res.2.1) (by decide) a45.1
      refine wp_bd2 (T_goes hL w0 a45.1 hP hB) (fun a ω hω => ?_)
      obtain ⟨rfl, f2, hw⟩ := hω
      have fω : fr LM ((69, 14) :: SM) τ ω := f1.tr (f2.mono (by decide))
      have zω : ω.1 69 14 = 0 := (f2.rd (by decide) (by decide)).trans z0
      show wp _ (fun a υ => a = stA (wtS σ W res.2.2.1 res.2.2.2 P D res.2.1) X ∧ fr LM ((69, 14) :: SM) τ υ ∧ υ.1 69 14 = 0)
      rw [← stA_mul (Nat.pow_pos K1) (wtS_DR hL hDR (W := W) (ds := res.2.2.1) (sd := res.2.2.2) (P := P) res.2.1)]
      unfold stA
      by_cases s0 : sumN (wtS σ W res.2.2.1 res.2.2.2 P 10 res.2.1) 8 = 0
      · rw [if_pos (by rw [lg_0 (by omega)]; exact s0), if_pos s0]
        exact wp_some ⟨rfl, fω, zω⟩
      rw [if_neg (by rw [lg_0 (by omega)]; exact s0), if_neg s0]
      by_cases r : X = 16
      · rw [r, if_pos rfl, if_pos (show (16 : Int32) ≤ nI 16 by decide), T_possM (fun p hp => by have := b2 p hp; omega) hw]
        exact wp_some ⟨rfl, fω, zω⟩
      have b3 := b2 (X % 8) (by omega)
      rw [if_neg r, if_neg (by rw [show (16 : Int32) = nI 16 from rfl, nI_lep (by omega)]; omega), show (8 : Int32) = nI 8 from rfl, nI_mod (by omega), pk_div (by omega) (by decide) (by decide), gd_n (by omega), nI_cl (by omega), hw _ (by omega), T_through (by omega) (by omega) (gcd_pos_r (by omega)), bd_s]
      by_cases t : 8 ≤ X
      · rw [if_pos t, if_neg (by rw [show (0 : Int32) = nI 0 from rfl, nI_eqp (by omega)]; omega)]
        exact wp_some ⟨rfl, fω, zω⟩
      · rw [if_neg t, if_pos (by rw [show (0 : Int32) = nI 0 from rfl, nI_eqp (by omega)]; omega)]
        exact wp_some ⟨rfl, fω, zω⟩
  obtain ⟨v, A1, A2⟩ := ans
  obtain ⟨a, τ, e1', rfl, f1, k1⟩ := A1
  obtain ⟨b, υ, e2', rfl, f2, k2⟩ := A2 τ (f1.EM (by decide) w3) (f1.eqOn (by decide)) ((f1.rd (by decide) (by decide)).trans t2) (fun j hj => ⟨(t3 j (by omega)).1, by rw [f1.row (c := 76) (by decide)]; exact (t3 j (by omega)).2.2⟩)
  exact Both.mk e1' e2' (Rel_T hn hR ((f1.eqOn (by decide)).tr (f2.eqOn (by decide))) (RT_0 ((f2.rd (by decide) (by decide)).trans k1) k2))
