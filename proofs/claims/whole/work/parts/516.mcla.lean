/-! PURE: the law, the reference reads clauses -/
def MQs (tp : Nat → Nat) (N p s : Nat) (σ : zSt) : Prop := TXm tp N σ ∧ N ≤ 240 ∧ σ.1 69 15 = nI p ∧ σ.1 69 20 = nI s ∧ p ≤ N ∧ s ≤ p
theorem MPs.q {tp : Nat → Nat} {N p s w o : Nat} {σ : zSt} (h : MPs tp N p s w o σ) : MQs tp N p s σ := ⟨h.1, h.2.1, h.2.2.1, h.2.2.2.1, h.2.2.2.2.2.2.1, h.2.2.2.2.2.2.2.1⟩
theorem MQs.here {tp : Nat → Nat} {N p s : Nat} {σ : zSt} (h : MQs tp N p s σ) : F_X12_here σ = some (e1 (chN tp N p), σ) := T_here h.1 h.2.2.1 (by have := h.2.1; have := h.2.2.2.2.1; omega)
theorem MQs.eq {tp : Nat → Nat} {N p s i c : Nat} {σ : zSt} (h : MQs tp N p s σ) (hc : c < 256) : (e1 (chN tp N i) = nI c) = (chN tp N i = some c) := e1_lit (TXm_b h.1) hc
/-- nothing open, nothing waits -/
theorem MQs.st {tp : Nat → Nat} {N p s : Nat} {σ : zSt} (h : MQs tp N p s σ) : MPs tp N p s 0 0 (zwr (zwr σ 69 19 0) 69 21 0) ∧ mfr s 0 σ (zwr (zwr σ 69 19 0) 69 21 0) := by
  obtain ⟨h1, h2, h3, h4, h5, h6⟩ := h
  have w1 : mfr s 0 σ (zwr (zwr σ 69 19 0) 69 21 0) := (mfr_w (by decide)).tr (mfr_w (by decide))
  refine ⟨⟨TXm_mf h1 w1, h2, ?_, ?_, zwr_at, ?_, h5, h6, Nat.zero_le p⟩, w1⟩
  · rw [zwr_ne (by decide), zwr_ne (by decide)]
    exact h3
  · rw [zwr_ne (by decide), zwr_ne (by decide)]
    exact h4
  · rw [zwr_ne (by decide)]
    exact zwr_at
/-- a condition in its brackets -/
theorem T_mConS {tp : Nat → Nat} {N s p : Nat} {σ : zSt} (hP : MPs tp N p s 0 0 σ) : match (motive := lRes → Prop) conS tp N p with
  | Sum.inl E => ∃ τ, F_X12_readsCondition σ = some ((0 : Int32), τ) ∧ τ.1 69 17 = E ∧ fr [77, 78] mSl σ τ
  | Sum.inr (q, v) => ∃ τ t, F_X12_readsCondition σ = some ((1 : Int32), τ) ∧ MPs tp N q t 0 0 τ ∧ mfr s 0 σ τ ∧ CM (τ.1 77) s t 15 v ∧ s < t ∧ t + p + 2 ≤ s + q := by
  have h24 := hP.2.1
  have hpN := hP.2.2.2.2.2.2.1
  unfold F_X12_readsCondition F_X12_readsCondition_0 conS
  rw [hP.here, bd_s]
  have e40 : (e1 (chN tp N p) = 40) = (chN tp N p = some 40) := hP.eq (c := 40) (by omega)
  by_cases q1 : chN tp N p = some 40
  rotate_left
  · rw [if_neg q1, if_neg (by rw [e40]; exact q1), hP.2.2.1, T_wrong1, bd_s, g01_0]
    exact ⟨_, rfl, zwr_at, fr_w (Or.inr (by decide))⟩
  obtain ⟨hP1, w1⟩ := hP.q.st
  rw [if_pos q1, if_pos (by rw [e40]; exact q1), nm_s, nm_s]
  generalize zwr (zwr σ 69 19 0) 69 21 0 = σ1 at hP1 w1
  obtain ⟨σ2, a1, a2, a3, a4⟩ := T_mOpens (op := 13) hP1 q1 (by omega)
  rw [show (13 : Int32) = nI 13 from rfl, a1, bd_s, if_neg (show ¬ (1 : Int32) = 0 by decide)]
  have hF := (T_mCon (tp := tp) (N := N) 5 (by decide)).2 zlim (p + 1) s 1 σ2 a2 ⟨0, rfl, a4⟩ (by show N < 1000000 + (p + 1); omega)
  cases es : conL tp N (pieS tp N 5) 300 (p + 1) lZer lOne with
  | inl E =>
    rw [es] at hF
    obtain ⟨τ, z1, z2, z3⟩ := hF
    exact ⟨τ, z1, z2, (w1.1.tr a3.1).tr z3⟩
  | inr qv =>
    obtain ⟨q, v⟩ := qv
    rw [es] at hF
    obtain ⟨f1, g1, τ, t, W, τ', b1, ⟨b2, b3⟩, ⟨b4, b5⟩, b6, bf, b7, b8, b9, c1, c2, c3⟩ := hF
    have hqN := b6.2.2.2.2.2.2.1
    obtain ⟨g2, rfl⟩ : ∃ x, g1 = x + 1 := ⟨g1 - 1, by omega⟩
    have e41 : (e1 (chN tp N q) = 41) = (chN tp N q = some 41) := b6.eq (c := 41) (by omega)
    have e38 : (e1 (chN tp N q) = 38) = (chN tp N q = some 38) := b6.eq (c := 38) (by omega)
    have e124 : (e1 (chN tp N q) = 124) = (chN tp N q = some 124) := b6.eq (c := 124) (by omega)
    have e : zfix F_X12_readsCondition_40L zlim σ2 = F_X12_readsCondition_92 (zfix F_X12_readsCondition_40L f1) (lawM f1 g2) τ := b1
    rw [e]
    show match (motive := lRes → Prop) (if chN tp N q = some 41 then Sum.inr (q + 1, v) else Sum.inl (flt 1 q)) with
      | Sum.inl E => ∃ υ, F_X12_readsCondition_92 (zfix F_X12_readsCondition_40L f1) (lawM f1 g2) τ = some ((0 : Int32), υ) ∧ υ.1 69 17 = E ∧ fr [77, 78] mSl σ υ
      | Sum.inr (q, v) => ∃ υ t, F_X12_readsCondition_92 (zfix F_X12_readsCondition_40L f1) (lawM f1 g2) τ = some ((1 : Int32), υ) ∧ MPs tp N q t 0 0 υ ∧ mfr s 0 σ υ ∧ CM (υ.1 77) s t 15 v ∧ s < t ∧ t + p + 2 ≤ s + q
    unfold F_X12_readsCondition_92
    rw [b6.here, bd_s]
    by_cases q3 : chN tp N q = some 41
    · rw [if_pos q3]
      show ∃ υ t', _ ∧ _
      rw [if_pos (by rw [e41]; exact q3), b7, bd_s]
      have b8' : MPs tp N q t (0 + 1) (0 + 1) τ' := b8
      obtain ⟨k1, k2, k3⟩ := b8'.pop
      obtain ⟨l1, l2, l3⟩ := k2.deep (by omega)
      obtain ⟨m1, m2, m3⟩ := l2.step q3
      rw [k1, nm_s, l1, nm_s, m1, nm_s, m2.2.2.2.2.1, if_pos (show nI 0 = 0 from rfl)]
      have f2 : mfr t 0 τ' (zwr (zwr (zwr τ' 69 21 (nI 0)) 69 19 (nI 0)) 69 15 (nI (q + 1))) := (k3.tr l3).tr m3
      refine ⟨_, t, rfl, m2, (w1.tr (a3.dn (by omega))).tr ((b9.dn (by omega)).tr (f2.dn (by omega))), ?_, c2, by omega⟩
      exact CM_up (CM_on c1 (fun j j1 j2 => f2.2.1 j j2)) (by omega)
    · rw [if_neg q3]
      show ∃ υ, _ ∧ _
      rw [if_neg (by rw [e41]; exact q3)]
      unfold F_X12_readsCondition_152 F_X12_readsCondition_170
      rw [b6.here, bd_s, if_neg (by rw [e38]; exact b4), b6.here, bd_s, if_neg (by rw [e124]; exact b5), b6.2.2.1, T_wrong1, bd_s, g01_0]
      exact ⟨_, rfl, zwr_at, ((w1.1.tr a3.1).tr bf).w (Or.inr (by decide))⟩
/-- what is known of a clause that is read -/
def KMl (σ : zSt) (s c : Nat) (k : Nat × lDen × lDen) : Prop := ∃ a b e, σ.1 79 c = nI k.1 ∧ σ.1 80 c = nI a ∧ σ.1 81 c = nI b ∧ σ.1 82 c = nI e ∧ CM (σ.1 77) a b 15 k.2.1 ∧ CM (σ.1 77) b e 15 k.2.2 ∧ e ≤ s
theorem KMl_on {σ τ : zSt} {s t c : Nat} {k : Nat × lDen × lDen} (h : KMl σ s c k) (hs : s ≤ t) (e : ∀ j, j < s → τ.1 77 j = σ.1 77 j) (g : τ.1 79 c = σ.1 79 c ∧ τ.1 80 c = σ.1 80 c ∧ τ.1 81 c = σ.1 81 c ∧ τ.1 82 c = σ.1 82 c) : KMl τ t c k := by
  obtain ⟨a, b, z, h1, h2, h3, h4, h5, h6, h7⟩ := h
  have := h6.1
  exact ⟨a, b, z, g.1.trans h1, g.2.1.trans h2, g.2.2.1.trans h3, g.2.2.2.trans h4, CM_on h5 (fun j _ j2 => e j (by omega)), CM_on h6 (fun j _ j2 => e j (by omega)), by omega⟩
def kSl : List (Nat × Nat) := [(69, 15), (69, 17), (69, 18), (69, 19), (69, 20), (69, 21), (69, 22)]
def ClM (tp : Nat → Nat) (N m p s : Nat) (σ : zSt) (res : Sum Int32 (Nat × Nat × lDen × lDen)) (r : Int32) (τ : zSt) : Prop := fr [77, 78, 79, 80, 81, 82] kSl σ τ ∧ match res with
  | Sum.inl E => r = 0 ∧ τ.1 69 17 = E
  | Sum.inr (q, k) => r = 1 ∧ ∃ t, MQs tp N q t τ ∧ τ.1 69 22 = nI (m + 1) ∧ KMl τ t m k ∧ s ≤ t ∧ p < q ∧ (∀ j, j < s → τ.1 77 j = σ.1 77 j) ∧ ∀ c, c < m → τ.1 79 c = σ.1 79 c ∧ τ.1 80 c = σ.1 80 c ∧ τ.1 81 c = σ.1 81 c ∧ τ.1 82 c = σ.1 82 c
theorem T_mClause {tp : Nat → Nat} {N m p s : Nat} {σ : zSt} (hP : MQs tp N p s σ) (h22 : σ.1 69 22 = nI m) (hm : m ≤ 16) : wp (F_X12_readsClause σ) (ClM tp N m p s σ (claT tp N m p)) := by
  have h24 := hP.2.1
  have hpN := hP.2.2.2.2.1
  have hsp := hP.2.2.2.2.2
  unfold F_X12_readsClause F_X12_readsClause_0 claT
  rw [hP.here, bd_s]
  have e109 : (e1 (chN tp N p) = 109) = (chN tp N p = some 109) := hP.eq (c := 109) (by omega)
  have e108 : (e1 (chN tp N p) = 108) = (chN tp N p = some 108) := hP.eq (c := 108) (by omega)
  by_cases q0 : chN tp N p = some 109 ∨ chN tp N p = some 108
  rotate_left
  · rw [if_neg (by rw [e109]; exact fun z => q0 (Or.inl z)), if_neg (by rw [e108]; exact fun z => q0 (Or.inr z)), if_neg q0, hP.2.2.1, T_wrong1, bd_s, g01_0]
    exact wp_some ⟨fr_w (Or.inr (by decide)), rfl, zwr_at⟩
  obtain ⟨b, eb⟩ : ∃ b, chN tp N p = some b := by
    rcases q0 with q0 | q0
    · exact ⟨_, q0⟩
    · exact ⟨_, q0⟩
  have hp1 := chN_in eb
  rw [if_pos q0]
  have main : wp (F_X12_readsClause_27 (e1 (chN tp N p)) σ) (ClM tp N m p s σ (if 16 ≤ m then Sum.inl (flt 4 p) else match sumS tp N 6 (p + 1) with
    | Sum.inl f => Sum.inl f
    | Sum.inr (q, e) => match conS tp N q with
      | Sum.inl f => Sum.inl f
      | Sum.inr (r, c) => Sum.inr (r, (chN tp N p).getD 0, e, c))) := by
    unfold F_X12_readsClause_27
    rw [h22]
    by_cases m16 : m = 16
    · rw [if_pos (by rw [m16]; rfl), if_pos (by omega), hP.2.2.1, T_wrong4, bd_s, g01_0]
      exact wp_some ⟨fr_w (Or.inr (by decide)), rfl, zwr_at⟩
    rw [if_neg (by rw [show (16 : Int32) = nI 16 from rfl, nI_eqp (by omega)]; exact m16), if_neg (by omega), gd_n (by omega), nI_cl (by omega)]
    refine wp_let (fun s10 h10 => ?_)
    have a15 : s10.1 69 15 = nI p := by
      rw [h10, zwr_n (by decide)]
      exact hP.2.2.1
    rw [a15, nI_1]
    refine wp_let (fun s11 h11 => ?_)
    have b22 : s11.1 69 22 = nI m := by
      rw [h11, zwr_ne (by decide), h10, zwr_n (by decide)]
      exact h22
    have b20 : s11.1 69 20 = nI s := by
      rw [h11, zwr_ne (by decide), h10, zwr_n (by decide)]
      exact hP.2.2.2.1
    rw [b22, gd_n (by omega), nI_cl (by omega), b20]
    refine wp_let (fun s12 h12 => ?_)
    have f12 : fr [77, 78, 79, 80, 81, 82] kSl σ s12 := by
      rw [h12, h11, h10]
      exact ((fr_w (Or.inl (by decide))).w (Or.inr (by decide))).w (Or.inl (by decide))
    have hP12 : MQs tp N (p + 1) s s12 := by
      refine ⟨TXm_fr hP.1 f12 (by decide), h24, ?_, ?_, by omega, by omega⟩
      · rw [h12, zwr_n (by decide), h11]
        exact zwr_at
      · rw [h12, zwr_n (by decide)]
        exact b20
    obtain ⟨hP14, w14⟩ := hP12.st
    rw [nm_s, nm_s]
    generalize zwr (zwr s12 69 19 0) 69 21 0 = s14 at hP14 w14
    have f14 : fr [77, 78, 79, 80, 81, 82] kSl σ s14 := f12.tr (w14.1.mono (by decide))
    have r79 : s14.1 79 m = e1 (chN tp N p) := by
      rw [w14.1.row (c := 79) (by decide), h12, zwr_n (by decide), h11, zwr_n (by decide), h10]
      exact zwr_at
    have r80 : s14.1 80 m = nI s := by
      rw [w14.1.row (c := 80) (by decide), h12]
      exact zwr_at
    have r22 : s14.1 69 22 = nI m := by
      rw [w14.1.rd (by decide) (by decide), h12, zwr_n (by decide)]
      exact b22
    have r77 : ∀ j, j < s → s14.1 77 j = σ.1 77 j := by
      intro j hj
      rw [w14.2.1 j hj, h12, zwr_n (by decide), h11, zwr_n (by decide), h10, zwr_n (by decide)]
    have rcl : ∀ c, c < m → s14.1 79 c = σ.1 79 c ∧ s14.1 80 c = σ.1 80 c ∧ s14.1 81 c = σ.1 81 c ∧ s14.1 82 c = σ.1 82 c := by
      intro c hc
      refine ⟨?_, ?_, ?_, ?_⟩
      · rw [w14.1.row (c := 79) (by decide), h12, zwr_n (by decide), h11, zwr_n (by decide), h10, zwr_c, pk_un (by omega)]
      · rw [w14.1.row (c := 80) (by decide), h12, zwr_c, pk_un (by omega), h11, zwr_n (by decide), h10, zwr_n (by decide)]
      · rw [w14.1.row (c := 81) (by decide), h12, zwr_n (by decide), h11, zwr_n (by decide), h10, zwr_n (by decide)]
      · rw [w14.1.row (c := 82) (by decide), h12, zwr_n (by decide), h11, zwr_n (by decide), h10, zwr_n (by decide)]
    have hS := T_mSum (tp := tp) (N := N) (g := 6) (p := p + 1) (s := s) (w := 0) (σ := s14) (by decide) hP14 (Or.inl rfl)
    cases es : sumS tp N 6 (p + 1) with
    | inl E =>
      rw [es] at hS
      obtain ⟨τ, z1, z2, z3⟩ := hS
      rw [z1, bd_s, if_pos rfl]
      exact wp_some ⟨f14.tr (z3.mono (by decide)), rfl, z2⟩
    | inr qv =>
      obtain ⟨q, ev⟩ := qv
      rw [es] at hS
      obtain ⟨τ, t, a1, a2, a3, a4, a5, a6⟩ := hS
      have hqN := a2.2.2.2.2.2.2.1
      have htq := a2.2.2.2.2.2.2.2.1
      have t22 : τ.1 69 22 = nI m := (a3.1.rd (by decide) (by decide)).trans r22
      rw [a1, bd_s, if_neg (show ¬ (1 : Int32) = 0 by decide), t22, gd_n (by omega), nI_cl (by omega), a2.2.2.2.1]
      refine wp_let (fun s19 h19 => ?_)
      have f19 : fr [77, 78, 79, 80, 81, 82] kSl τ s19 := by
        rw [h19]
        exact fr_w (Or.inl (by decide))
      have hP19 : MPs tp N q t 0 0 s19 := by
        refine ⟨TXm_fr a2.1 f19 (by decide), h24, ?_, ?_, ?_, ?_, hqN, htq, Nat.zero_le q⟩
        · rw [h19, zwr_n (by decide)]
          exact a2.2.2.1
        · rw [h19, zwr_n (by decide)]
          exact a2.2.2.2.1
        · rw [h19, zwr_n (by decide)]
          exact a2.2.2.2.2.1
        · rw [h19, zwr_n (by decide)]
          exact a2.2.2.2.2.2.1
      have hC := T_mConS hP19
      have f02 : fr [77, 78, 79, 80, 81, 82] kSl σ s19 := (f14.tr (a3.1.mono (by decide))).tr f19
      show wp _ (ClM tp N m p s σ (match conS tp N q with
        | Sum.inl f => Sum.inl f
        | Sum.inr (r, c) => Sum.inr (r, (chN tp N p).getD 0, ev, c)))
      cases ec : conS tp N q with
      | inl E =>
        rw [ec] at hC
        obtain ⟨υ, z1, z2, z3⟩ := hC
        rw [z1, bd_s, if_pos rfl]
        exact wp_some ⟨f02.tr (z3.mono (by decide)), rfl, z2⟩
      | inr rc =>
        obtain ⟨r, cv⟩ := rc
        rw [ec] at hC
        obtain ⟨υ, t2, c1, c2, c3, c4, c5, c6⟩ := hC
        have hrN := c2.2.2.2.2.2.2.1
        have u22 : υ.1 69 22 = nI m := by
          rw [c3.1.rd (by decide) (by decide), h19, zwr_n (by decide)]
          exact t22
        rw [c1, bd_s, if_neg (show ¬ (1 : Int32) = 0 by decide), u22, gd_n (by omega), nI_cl (by omega), c2.2.2.2.1]
        refine wp_let (fun s24 h24' => ?_)
        have d22 : s24.1 69 22 = nI m := by
          rw [h24', zwr_n (by decide)]
          exact u22
        rw [d22, nI_1]
        refine wp_let (fun s25 h25 => ?_)
        have f25 : fr [77, 78, 79, 80, 81, 82] kSl υ s25 := by
          rw [h25, h24']
          exact (fr_w (Or.inl (by decide))).w (Or.inr (by decide))
        have x77 : s25.1 77 = υ.1 77 := by
          rw [h25, zwr_n (by decide), h24', zwr_n (by decide)]
        have y77 : s19.1 77 = τ.1 77 := by
          rw [h19, zwr_n (by decide)]
        refine wp_some ⟨(f02.tr (c3.1.mono (by decide))).tr f25, rfl, t2, ⟨TXm_fr c2.1 f25 (by decide), h24, ?_, ?_, hrN, c2.2.2.2.2.2.2.2.1⟩, ?_, ⟨s, t, t2, ?_, ?_, ?_, ?_, ?_, ?_, Nat.le_refl t2⟩, by omega, by omega, fun j hj => ?_, fun c hc => ?_⟩
        · rw [h25, zwr_ne (by decide), h24', zwr_n (by decide)]
          exact c2.2.2.1
        · rw [h25, zwr_ne (by decide), h24', zwr_n (by decide)]
          exact c2.2.2.2.1
        · rw [h25]
          exact zwr_at
        · rw [h25, zwr_n (by decide), h24', zwr_n (by decide), c3.1.row (c := 79) (by decide), h19, zwr_n (by decide), a3.1.row (c := 79) (by decide), r79, eb]
          rfl
        · rw [h25, zwr_n (by decide), h24', zwr_n (by decide), c3.1.row (c := 80) (by decide), h19, zwr_n (by decide), a3.1.row (c := 80) (by decide), r80]
        · rw [h25, zwr_n (by decide), h24', zwr_n (by decide), c3.1.row (c := 81) (by decide), h19]
          exact zwr_at
        · rw [h25, zwr_n (by decide), h24']
          exact zwr_at
        · rw [x77]
          exact CM_on a4 (fun j _ j2 => by rw [c3.2.1 j j2, y77])
        · rw [x77]
          exact c4
        · rw [x77, c3.2.1 j (by omega), y77, a3.2.1 j hj, r77 j hj]
        · obtain ⟨z1, z2, z3, z4⟩ := rcl c hc
          refine ⟨?_, ?_, ?_, ?_⟩
          · rw [h25, zwr_n (by decide), h24', zwr_n (by decide), c3.1.row (c := 79) (by decide), h19, zwr_n (by decide), a3.1.row (c := 79) (by decide), z1]
          · rw [h25, zwr_n (by decide), h24', zwr_n (by decide), c3.1.row (c := 80) (by decide), h19, zwr_n (by decide), a3.1.row (c := 80) (by decide), z2]
          · rw [h25, zwr_n (by decide), h24', zwr_n (by decide), c3.1.row (c := 81) (by decide), h19, zwr_c, pk_un (by omega), a3.1.row (c := 81) (by decide), z3]
          · rw [h25, zwr_n (by decide), h24', zwr_c, pk_un (by omega), c3.1.row (c := 82) (by decide), h19, zwr_n (by decide), a3.1.row (c := 82) (by decide), z4]
  by_cases q1 : chN tp N p = some 109
  · rw [if_pos (by rw [e109]; exact q1)]
    exact main
  · rw [if_neg (by rw [e109]; exact q1), if_pos (by rw [e108]; exact q0.resolve_left q1)]
    exact main
