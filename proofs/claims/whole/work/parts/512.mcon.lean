/-! PURE: the law, the reference's leaps -/
def opJ (J : Bool) : Nat := if J = true then 12 else 11
/-- a leap that waits in the steps s to m -/
def JPd (cd : Nat → Int32) (J : Bool) (s m d : Nat) (o : Option (Nat × lDen)) : Prop := match o with
  | none => s = m
  | some (j, D) => CM cd s j d D ∧ cd j = oI (opJ J) 0 ∧ m = j + 1 ∧ lBo D
def jv (J : Bool) (o : Option (Nat × lDen)) : lDen := match o with
  | none => lU J
  | some (_, D) => D
def KJ (σ : zSt) (J : Bool) (w : Nat) (o : Option (Nat × lDen)) : Prop := match o with
  | none => True
  | some (j, _) => σ.1 78 w = oI (opJ J) j
theorem JPd_on {cd cd' : Nat → Int32} {J : Bool} {s m d : Nat} {o : Option (Nat × lDen)} (h : JPd cd J s m d o) (e : ∀ j, s ≤ j → j < m → cd' j = cd j) : JPd cd' J s m d o := by
  cases o with
  | none => exact h
  | some jD =>
    obtain ⟨j, D⟩ := jD
    obtain ⟨h1, h2, h3, h4⟩ := h
    have := h1.1
    exact ⟨CM_on h1 (fun i i1 i2 => e i i1 (by omega)), (e j (by omega) (by omega)).trans h2, h3, h4⟩
theorem JPd_le {cd : Nat → Int32} {J : Bool} {s m d : Nat} {o : Option (Nat × lDen)} (h : JPd cd J s m d o) : s ≤ m := by
  cases o with
  | none => exact Nat.le_of_eq h
  | some jD =>
    obtain ⟨j, D⟩ := jD
    obtain ⟨h1, h2, h3, h4⟩ := h
    have := h1.1
    omega
theorem KJ_on {σ τ : zSt} {J : Bool} {w : Nat} {o : Option (Nat × lDen)} (h : KJ σ J w o) (e : ∀ j D, o = some (j, D) → τ.1 78 w = σ.1 78 w) : KJ τ J w o := by
  cases o with
  | none => trivial
  | some jD =>
    obtain ⟨j, D⟩ := jD
    exact (e j D rfl).trans h
theorem lJ_U {J : Bool} {P : lDen} : lJ J (lU J) P = P := by
  funext lt
  cases J
  · rfl
  · rfl
theorem lBo_J {J : Bool} {A P : lDen} (h : lBo A) (g : lBo P) : lBo (lJ J A P) := by
  cases J
  · rw [lJ_and]
    exact lBo_and h g
  · rw [lJ_or]
    exact lBo_or h g
theorem lBo_jv {cd : Nat → Int32} {J : Bool} {s m d : Nat} {o : Option (Nat × lDen)} (h : JPd cd J s m d o) : lBo (jv J o) := by
  cases o with
  | none =>
    intro lt x e
    cases e
    cases J
    · exact Or.inr rfl
    · exact Or.inl rfl
  | some jD =>
    obtain ⟨j, D⟩ := jD
    exact h.2.2.2
/-- the last leap lands -/
theorem T_mLand {tp : Nat → Nat} {N q t w o s m d : Nat} {J : Bool} {ov : Option (Nat × lDen)} {P : lDen} {x1 : Int32} {σ : zSt} (h : MPs tp N q t (w + cn ov) o σ) (h1 : JPd (σ.1 77) J s m d ov) (h2 : CM (σ.1 77) m t d P) (hd : 1 ≤ d) (hK : KJ σ J w ov) (hx : J = true → ¬ x1 = 0) (fu : Nat) : ∃ τ, zfix (F_X12_lands_0L x1) (fu + cn ov) σ = zfix (F_X12_lands_0L x1) fu τ ∧ MPs tp N q t w o τ ∧ mfr s w σ τ ∧ CM (τ.1 77) s t d (lJ J (jv J ov) P) := by
  cases ov with
  | none =>
    replace h1 : s = m := h1
    subst h1
    refine ⟨σ, rfl, h, mfr.rf, ?_⟩
    show CM (σ.1 77) s t d (lJ J (lU J) P)
    rw [lJ_U]
    exact h2
  | some jD =>
    obtain ⟨j, D⟩ := jD
    obtain ⟨g1, g2, g3, g4⟩ := h1
    subst g3
    replace h : MPs tp N q t (w + 1) o σ := h
    replace hK : σ.1 78 w = oI (opJ J) j := hK
    have ho : opJ J = 11 ∨ opJ J = 12 := by
      cases J
      · exact Or.inl rfl
      · exact Or.inr rfl
    have sj := g1.1
    have jt := h2.1
    have hqN := h.2.2.2.2.2.2.1
    have htq := h.2.2.2.2.2.2.2.1
    have hwq := h.2.2.2.2.2.2.2.2
    have h24 := h.2.1
    have hT := T_top h (by omega) hK
    have f1 : mfr s w σ (zwr σ 77 j (oI (opJ J) t)) := mfr_c (by omega)
    have hM : MPs tp N q t (w + 1) o (zwr σ 77 j (oI (opJ J) t)) := ⟨TXm_mf h.1 f1, h24, by rw [zwr_n (by decide)]; exact h.2.2.1, by rw [zwr_n (by decide)]; exact h.2.2.2.1, by rw [zwr_n (by decide)]; exact h.2.2.2.2.1, by rw [zwr_n (by decide)]; exact h.2.2.2.2.2.1, h.2.2.2.2.2.2⟩
    obtain ⟨p1, p2, p3⟩ := hM.pop
    have k22 : F_X12_lands_22 (zfix (F_X12_lands_0L x1) fu) x1 σ = zfix (F_X12_lands_0L x1) fu (zwr (zwr σ 77 j (oI (opJ J) t)) 69 21 (nI w)) := by
      unfold F_X12_lands_22
      rw [h.2.2.2.2.1, show nI (w + 1) - (1 : Int32) = nI w from pk_sub (a := w + 1) (b := 1) (by omega), gd_n (by omega), nI_cl (by omega), hK, oI_mod (by omega), nm_s, gd_n (by omega), gd_n (by omega), nI_cl (by omega), g2, oI_div (by omega), h.2.2.2.1, show (1048576 : Int32) * nI (opJ J) = nI (1048576 * opJ J) from pk_mul 1048576 _, nI_add, nm_s]
      show nm (zwr (zwr σ 77 j (oI (opJ J) t)) 69 21 ((zwr σ 77 j (oI (opJ J) t)).1 69 21 - 1)) _ = _
      rw [p1, nm_s]
    refine ⟨zwr (zwr σ 77 j (oI (opJ J) t)) 69 21 (nI w), ?_, p2, f1.tr (p3.dn (by omega)), ?_⟩
    · show F_X12_lands_0 x1 (zfix (F_X12_lands_0L x1) fu) σ = _
      unfold F_X12_lands_0
      rw [hT, bd_s]
      cases J
      · rw [if_pos (show nI (opJ false) = 11 from rfl)]
        exact k22
      · rw [if_neg (show ¬ nI (opJ true) = 11 by decide), if_neg (hx rfl), hT, bd_s, if_pos (show nI (opJ true) = 12 from rfl)]
        exact k22
    · rw [zwr_n (by decide)]
      have no : ∀ i, i ≠ j → (zwr σ 77 j (oI (opJ J) t)).1 77 i = σ.1 77 i := fun i hi => by
        rw [zwr_c, pk_un hi]
      show CM _ s t d (lJ J D P)
      refine CM_J (k := j) (CM_on g1 (fun i i1 i2 => no i (by omega))) (CM_on h2 (fun i i1 i2 => no i (by omega))) hd g4 ?_
      rw [zwr_c, pk_us]
      rfl
/-- no more lands -/
theorem T_mLandE {tp : Nat → Nat} {N q t w o op v : Nat} {x1 : Int32} {σ : zSt} (h : MPs tp N q t (w + 1) o σ) (e : σ.1 78 w = oI op v) (ho : op < 20 ∧ v < 1048576 ∧ ¬ op = 11 ∧ (op = 12 → x1 = 0)) (fu : Nat) : zfix (F_X12_lands_0L x1) (fu + 1) σ = some ((), σ) := by
  show F_X12_lands_0 x1 (zfix (F_X12_lands_0L x1) fu) σ = _
  have hT := T_top h (by omega) e
  unfold F_X12_lands_0
  rw [hT, bd_s, if_neg (by rw [show (11 : Int32) = nI 11 from rfl, nI_eqp (by omega)]; exact ho.2.2.1)]
  by_cases x : x1 = 0
  · rw [if_pos x]
  · rw [if_neg x, hT, bd_s, if_neg (by rw [show (12 : Int32) = nI 12 from rfl, nI_eqp (by omega)]; exact fun z => x (ho.2.2.2 z))]
/-- a leap is put -/
theorem T_mJumps {tp : Nat → Nat} {N q t w o c op : Nat} {σ : zSt} (h : MPs tp N q t w o σ) (hc : chN tp N q = some c) : ∃ τ, F_X12_jumps (nI op) σ = some ((), τ) ∧ MPs tp N (q + 1) (t + 1) (w + 1) o τ ∧ mfr t w σ τ ∧ τ.1 77 t = oI op 0 ∧ τ.1 78 w = oI op t := by
  obtain ⟨h1, h2, h3, h4, h5, h6, h7, h8, h9⟩ := h
  have hq := chN_in hc
  have f : mfr t w σ (zwr (zwr (zwr (zwr (zwr σ 78 w (oI op t)) 69 21 (nI (w + 1))) 77 t (oI op 0)) 69 20 (nI (t + 1))) 69 15 (nI (q + 1))) := ((((mfr_k (Nat.le_refl w)).tr (mfr_w (by decide))).tr (mfr_c (Nat.le_refl t))).tr (mfr_w (by decide))).tr (mfr_w (by decide))
  refine ⟨zwr (zwr (zwr (zwr (zwr σ 78 w (oI op t)) 69 21 (nI (w + 1))) 77 t (oI op 0)) 69 20 (nI (t + 1))) 69 15 (nI (q + 1)), ?_, ⟨TXm_mf h1 f, h2, zwr_at, ?_, ?_, ?_, by omega, by omega, by omega⟩, f, ?_, ?_⟩
  · unfold F_X12_jumps F_X12_jumps_0
    rw [h5, h4, gd_n (by omega), nI_cl (by omega), show (1048576 : Int32) * nI op = nI (1048576 * op) from pk_mul 1048576 op, nI_add, nm_s, zwr_n (by decide), h5, nI_1, nm_s]
    have hn := T_notes (op := op) (v := 0) (s := t) (σ := zwr (zwr σ 78 w (nI (1048576 * op + t))) 69 21 (nI (w + 1))) (by rw [zwr_ne (by decide), zwr_n (by decide)]; exact h4) (by omega)
    rw [show (0 : Int32) = nI 0 from rfl, hn, bd_s, zwr_ne (by decide), zwr_n (by decide), zwr_ne (by decide), zwr_n (by decide), h3, nI_1, nm_s]
    rfl
  · rw [zwr_ne (by decide)]
    exact zwr_at
  · rw [zwr_ne (by decide), zwr_ne (by decide), zwr_n (by decide)]
    exact zwr_at
  · rw [zwr_ne (by decide), zwr_ne (by decide), zwr_n (by decide), zwr_ne (by decide), zwr_n (by decide)]
    exact h6
  · rw [zwr_n (by decide), zwr_n (by decide), zwr_c, pk_us]
  · rw [zwr_n (by decide), zwr_n (by decide), zwr_n (by decide), zwr_n (by decide), zwr_c, pk_us]
/-! the reference reads a condition -/
noncomputable def lawP (f : Nat) (σ : zSt) : Option (Int32 × zSt) := zfix F_X12_readsCondition_40L f σ
noncomputable def lawM (f g : Nat) (σ : zSt) : Option (Int32 × zSt) := zfix (F_X12_readsCondition_92L (zfix F_X12_readsCondition_40L f)) g σ
noncomputable def lawK (f g h : Nat) (σ : zSt) : Option (Int32 × zSt) := bd (zfix F_X12_endsPiece_0L h σ) (fun _ s => lawM f g s)
def OutP (tp : Nat → Nat) (N s w o d p : Nat) (σ : zSt) (x : Option (Int32 × zSt)) (res : lRes) : Prop := match res with
  | Sum.inl E => ∃ τ, x = some ((0 : Int32), τ) ∧ τ.1 69 17 = E ∧ fr [77, 78] mSl σ τ
  | Sum.inr (q, v) => ∃ f g h τ t, x = lawK f g h τ ∧ (N < f + q ∧ N < g + q ∧ w < h) ∧ MPs tp N q t w o τ ∧ mfr s w σ τ ∧ CM (τ.1 77) s t d v ∧ s < t ∧ t + p ≤ s + q
def OutC (tp : Nat → Nat) (N s0 p0 w0 o d : Nat) (σ0 : zSt) (x : Option (Int32 × zSt)) (res : lRes) : Prop := match res with
  | Sum.inl E => ∃ τ, x = some ((0 : Int32), τ) ∧ τ.1 69 17 = E ∧ fr [77, 78] mSl σ0 τ
  | Sum.inr (q, v) => ∃ f g τ t W τ', x = lawM f g τ ∧ (N < f + q ∧ N < g + q) ∧ (¬ chN tp N q = some 38 ∧ ¬ chN tp N q = some 124) ∧ MPs tp N q t W o τ ∧ fr [77, 78] mSl σ0 τ ∧ F_X12_lands 1 τ = some ((), τ') ∧ MPs tp N q t w0 o τ' ∧ mfr s0 w0 σ0 τ' ∧ CM (τ'.1 77) s0 t d v ∧ s0 < t ∧ t + p0 ≤ s0 + q
theorem T_mEndsE {tp : Nat → Nat} {N q t w o op v : Nat} {σ : zSt} (h : MPs tp N q t (w + 1) o σ) (e : σ.1 78 w = oI op v) (ho : op < 20 ∧ v < 1048576 ∧ ¬ op = 10) (fu : Nat) : zfix F_X12_endsPiece_0L (fu + 1) σ = some ((), σ) := by
  show F_X12_endsPiece_0 (zfix F_X12_endsPiece_0L fu) σ = _
  unfold F_X12_endsPiece_0
  rw [T_top h (by omega) e, bd_s, if_neg (by rw [show (10 : Int32) = nI 10 from rfl, nI_eqp (by omega)]; exact ho.2.2)]
def CF (tp : Nat → Nat) (N s0 p0 w0 o d m k p : Nat) (ov av : Option (Nat × lDen)) (σ : zSt) : Prop := MPs tp N p k (w0 + cn ov + cn av) o σ ∧ JPd (σ.1 77) true s0 m d ov ∧ JPd (σ.1 77) false m k d av ∧ KJ σ true w0 ov ∧ KJ σ false (w0 + cn ov) av ∧ (∃ w1, w0 = w1 + 1 ∧ σ.1 78 w1 = oI 13 0) ∧ k + p0 ≤ s0 + p ∧ s0 ≤ p0
/-- what lies on top of those that wait -/
theorem CF_top {w0 N : Nat} {ov av : Option (Nat × lDen)} {σ : zSt} (h1 : KJ σ true w0 ov) (h2 : KJ σ false (w0 + cn ov) av) (h3 : ∃ w1, w0 = w1 + 1 ∧ σ.1 78 w1 = oI 13 0) (hj : ∀ j D, (ov = some (j, D) ∨ av = some (j, D)) → j < 1048576) : ∃ W op v, w0 + cn ov + cn av = W + 1 ∧ 11 ≤ op ∧ op < 14 ∧ v < 1048576 ∧ σ.1 78 W = oI op v := by
  obtain ⟨w1, e1', e2'⟩ := h3
  cases av with
  | some jD =>
    obtain ⟨j, D⟩ := jD
    exact ⟨w0 + cn ov, 11, j, rfl, by omega, by omega, hj j D (Or.inr rfl), h2⟩
  | none =>
    cases ov with
    | some jD =>
      obtain ⟨j, D⟩ := jD
      exact ⟨w0, 12, j, rfl, by omega, by omega, hj j D (Or.inl rfl), h1⟩
    | none => exact ⟨w1, 13, 0, by show w0 + 0 + 0 = w1 + 1; omega, by omega, by omega, by omega, e2'⟩
theorem T_mConL {tp : Nat → Nat} {N o d : Nat} {pie : Nat → lRes} (hd : 1 ≤ d) (hpie : ∀ f p s w (σ : zSt), MPs tp N p s w o σ → topOK w σ → 0 < w → N < f + p → OutP tp N s w o d p σ (lawP f σ) (pie p)) (hbo : ∀ p q v, pie p = Sum.inr (q, v) → lBo v) {s0 p0 w0 : Nat} {σ0 : zSt} : ∀ F f p k m ov av (σ : zSt), N < F + p → N < f + p → CF tp N s0 p0 w0 o d m k p ov av σ → mfr s0 w0 σ0 σ → OutC tp N s0 p0 w0 o d σ0 (lawP f σ) (conL tp N pie F p (jv true ov) (jv false av)) := by
  intro F
  induction F with
  | zero =>
    intro f p k m ov av σ h1 h2 h3
    have := h3.1.2.2.2.2.2.2.1
    omega
  | succ F ih =>
    intro f p k m ov av σ h1 h2 h3 h5
    obtain ⟨hM, hO, hA, kO, kA, hT, hnb, hsp⟩ := h3
    have sm := JPd_le hO
    have mk := JPd_le hA
    have h24 := hM.2.1
    have hpN := hM.2.2.2.2.2.2.1
    have hkp := hM.2.2.2.2.2.2.2.1
    have hj : ∀ j D, (ov = some (j, D) ∨ av = some (j, D)) → j < 1048576 := by
      intro j D e
      rcases e with e | e
      · rw [e] at hO
        have := hO.2.2.1
        omega
      · rw [e] at hA
        have := hA.2.2.1
        omega
    obtain ⟨W, op, v, w1, w2, w3, w4, w5⟩ := CF_top (N := N) kO kA hT hj
    have hF := hpie f p k (w0 + cn ov + cn av) σ hM (Or.inr ⟨op, v, by omega, by omega, w4, by rw [w1]; exact w5⟩) (by omega) h2
    unfold conL
    cases es : pie p with
    | inl E =>
      rw [es] at hF
      obtain ⟨τ, z1, z2, z3⟩ := hF
      exact ⟨τ, z1, z2, h5.1.tr z3⟩
    | inr qv =>
      obtain ⟨q, P⟩ := qv
      rw [es] at hF
      obtain ⟨f1, g1, e1', τ, t, a1, ⟨a2, a3, a4⟩, a5, a6, a7, a8, a9⟩ := hF
      have hqN := a5.2.2.2.2.2.2.1
      have htq := a5.2.2.2.2.2.2.2.1
      have hm0 : mfr s0 w0 σ0 τ := h5.tr (a6.dn (by omega))
      have hO1 : JPd (τ.1 77) true s0 m d ov := JPd_on hO (fun j j1 j2 => a6.2.1 j (by omega))
      have hA1 : JPd (τ.1 77) false m k d av := JPd_on hA (fun j j1 j2 => a6.2.1 j j2)
      have kO1 : KJ τ true w0 ov := KJ_on kO (fun j D e => a6.2.2 w0 (by rw [e]; show w0 < w0 + 1 + cn av; omega))
      have kA1 : KJ τ false (w0 + cn ov) av := KJ_on kA (fun j D e => a6.2.2 (w0 + cn ov) (by rw [e]; show w0 + cn ov < w0 + cn ov + 1; omega))
      have hT1 : ∃ w1, w0 = w1 + 1 ∧ τ.1 78 w1 = oI 13 0 := by
        obtain ⟨w1', z1, z2⟩ := hT
        exact ⟨w1', z1, (a6.2.2 w1' (by omega)).trans z2⟩
      have hbP := hbo p q P es
      have w5' : τ.1 78 W = oI op v := (a6.2.2 W (by omega)).trans w5
      obtain ⟨e2', rfl⟩ : ∃ x, e1' = x + 1 := ⟨e1' - 1, by omega⟩
      obtain ⟨g2, rfl⟩ : ∃ x, g1 = x + 1 := ⟨g1 - 1, by omega⟩
      have eK : lawP f σ = lawM f1 (g2 + 1) τ := by
        rw [a1]
        unfold lawK
        rw [T_mEndsE (w := W) (by rw [← w1]; exact a5) w5' (by omega) e2', bd_s]
      rw [eK]
      show OutC tp N s0 p0 w0 o d σ0 (lawM f1 (g2 + 1) τ) (if chN tp N q = some 38 then conL tp N pie F (q + 1) (jv true ov) (lAnd (jv false av) P) else if chN tp N q = some 124 then conL tp N pie F (q + 1) (lOr (jv true ov) (lAnd (jv false av) P)) lOne else Sum.inr (q, lOr (jv true ov) (lAnd (jv false av) P)))
      have e41 : (e1 (chN tp N q) = 41) = (chN tp N q = some 41) := a5.eq (c := 41) (by omega)
      have e38 : (e1 (chN tp N q) = 38) = (chN tp N q = some 38) := a5.eq (c := 38) (by omega)
      have e124 : (e1 (chN tp N q) = 124) = (chN tp N q = some 124) := a5.eq (c := 124) (by omega)
      have ci1 := @cn_le ov
      have ci2 := @cn_le av
      by_cases q1 : chN tp N q = some 38
      · rw [if_pos q1]
        obtain ⟨τ1, b1, b2, b3, b4⟩ := T_mLand (x1 := 0) (J := false) a5 hA1 a7 hd kA1 (fun z => by cases z) (999998 + (1 - cn av) + 1)
        have hland : F_X12_lands 0 τ = some ((), τ1) := by
          unfold F_X12_lands
          rw [show zlim = 999998 + (1 - cn av) + 1 + cn av by show 1000000 = _; omega, b1]
          cases ov with
          | none =>
            obtain ⟨w1', z1, z2⟩ := hT1
            subst z1
            exact T_mLandE b2 ((b3.2.2 w1' (by show w1' < w1' + 1 + 0; omega)).trans z2) (by omega) _
          | some jD =>
            obtain ⟨j, D⟩ := jD
            exact T_mLandE (w := w0) b2 ((b3.2.2 w0 (by show w0 < w0 + 1; omega)).trans kO1) ⟨by decide, hj j D (Or.inl rfl), by decide, fun _ => rfl⟩ _
        obtain ⟨τ2, c1, c2, c3, c4, c5⟩ := T_mJumps (op := 11) b2 q1
        have e : lawM f1 (g2 + 1) τ = lawP f1 τ2 := by
          show F_X12_readsCondition_92 (zfix F_X12_readsCondition_40L f1) (lawM f1 g2) τ = _
          unfold F_X12_readsCondition_92 F_X12_readsCondition_152 F_X12_readsCondition_180
          rw [a5.here, bd_s, if_neg (by rw [e41, q1]; exact fun z => absurd (Option.some.inj z) (by decide)), a5.here, bd_s, if_pos (by rw [e38]; exact q1), a5.here, bd_s, if_neg (by rw [e124, q1]; exact fun z => absurd (Option.some.inj z) (by decide)), nm_s, hland, bd_s, b2.here, bd_s, if_pos (by rw [e38]; exact q1), nm_s, show (11 : Int32) = nI 11 from rfl, c1, bd_s]
          rfl
        rw [e]
        rw [lJ_and] at b4
        have k1 : CF tp N s0 p0 w0 o d m (t + 1) (q + 1) ov (some (t, lAnd (jv false av) P)) τ2 := by
          refine ⟨c2, JPd_on (JPd_on hO1 (fun j j1 j2 => b3.2.1 j j2)) (fun j j1 j2 => c3.2.1 j (by omega)), ⟨CM_on b4 (fun j j1 j2 => c3.2.1 j j2), c4, rfl, lBo_and (lBo_jv hA1) hbP⟩, ?_, c5, ?_, by omega, hsp⟩
          · exact KJ_on kO1 (fun j D e => by
              have z : w0 < w0 + cn ov := by
                rw [e]
                show w0 < w0 + 1
                omega
              exact (c3.2.2 w0 z).trans (b3.2.2 w0 z))
          · obtain ⟨w1', z1, z2⟩ := hT1
            exact ⟨w1', z1, ((c3.2.2 w1' (by omega)).trans (b3.2.2 w1' (by omega))).trans z2⟩
        exact ih f1 (q + 1) (t + 1) m ov (some (t, lAnd (jv false av) P)) τ2 (by omega) (by omega) k1 ((hm0.tr (b3.dn (by omega))).tr (c3.dn (by omega)))
      rw [if_neg q1]
      obtain ⟨τ1, b1, b2, b3, b4⟩ := T_mLand (x1 := 1) (J := false) a5 hA1 a7 hd kA1 (fun z => by cases z) (999997 + (1 - cn av) + (1 - cn ov) + 1 + cn ov)
      rw [lJ_and] at b4
      have kO2 : KJ τ1 true w0 ov := KJ_on kO1 (fun j D e => b3.2.2 w0 (by rw [e]; show w0 < w0 + 1; omega))
      obtain ⟨τ2, c1, c2, c3, c4⟩ := T_mLand (x1 := 1) (J := true) b2 (JPd_on hO1 (fun j j1 j2 => b3.2.1 j j2)) b4 hd kO2 (fun _ => by decide) (999997 + (1 - cn av) + (1 - cn ov) + 1)
      rw [lJ_or] at c4
      have hT2 : ∃ w1, w0 = w1 + 1 ∧ τ2.1 78 w1 = oI 13 0 := by
        obtain ⟨w1', z1, z2⟩ := hT1
        exact ⟨w1', z1, ((c3.2.2 w1' (by omega)).trans (b3.2.2 w1' (by omega))).trans z2⟩
      have hland : F_X12_lands 1 τ = some ((), τ2) := by
        unfold F_X12_lands
        rw [show zlim = 999997 + (1 - cn av) + (1 - cn ov) + 1 + cn ov + cn av by show 1000000 = _; omega, b1, c1]
        obtain ⟨w1', z1, z2⟩ := hT2
        subst z1
        exact T_mLandE c2 z2 (by omega) _
      have fr2 : mfr s0 w0 τ τ2 := (b3.dn (by omega)).tr c3
      by_cases q2 : chN tp N q = some 124
      · rw [if_pos q2]
        obtain ⟨τ3, d1, d2, d3, d4, d5⟩ := T_mJumps (op := 12) c2 q2
        have e : lawM f1 (g2 + 1) τ = lawP f1 τ3 := by
          show F_X12_readsCondition_92 (zfix F_X12_readsCondition_40L f1) (lawM f1 g2) τ = _
          unfold F_X12_readsCondition_92 F_X12_readsCondition_152 F_X12_readsCondition_180
          rw [a5.here, bd_s, if_neg (by rw [e41, q2]; exact fun z => absurd (Option.some.inj z) (by decide)), a5.here, bd_s, if_neg (by rw [e38]; exact q1), a5.here, bd_s, if_pos (by rw [e124]; exact q2), a5.here, bd_s, if_pos (by rw [e124]; exact q2), nm_s, hland, bd_s, c2.here, bd_s, if_neg (by rw [e38]; exact q1), nm_s, show (12 : Int32) = nI 12 from rfl, d1, bd_s]
          rfl
        rw [e]
        have k1 : CF tp N s0 p0 w0 o d (t + 1) (t + 1) (q + 1) (some (t, lOr (jv true ov) (lAnd (jv false av) P))) none τ3 := by
          refine ⟨d2, ⟨CM_on c4 (fun j j1 j2 => d3.2.1 j j2), d4, rfl, lBo_or (lBo_jv hO1) (lBo_and (lBo_jv hA1) hbP)⟩, rfl, d5, trivial, ?_, by omega, hsp⟩
          obtain ⟨w1', z1, z2⟩ := hT2
          exact ⟨w1', z1, (d3.2.2 w1' (by omega)).trans z2⟩
        exact ih f1 (q + 1) (t + 1) (t + 1) (some (t, lOr (jv true ov) (lAnd (jv false av) P))) none τ3 (by omega) (by omega) k1 ((hm0.tr fr2).tr (d3.dn (by omega)))
      rw [if_neg q2]
      exact ⟨f1, g2 + 1, τ, t, w0 + cn ov + cn av, τ2, rfl, ⟨a2, a3⟩, ⟨q1, q2⟩, a5, hm0.1, hland, c2, hm0.tr fr2, c4, c4.1, by omega⟩
