/-! PURE: the law, the reference's steps run -/
def WM (cd lt : Nat → Int32) (to n a : Nat) (st : Nat → Int32) (r : Int32) : Prop := ∀ f (σ : zSt), σ.1 83 = cd → (∀ j, j < 9 → σ.1 89 j = lt j) → σ.1 88 = st → 241 ≤ f + a → ∃ s, zfix (F_X12_comesTo_16L (nI to) (nI 0)) f (nI n, nI a, σ) = some (r, zrow σ 88 s)
def CM (cd : Nat → Int32) (a b d : Nat) (v : lDen) : Prop := a < b ∧ ∀ cd' : Nat → Int32, (∀ j, a ≤ j → j < b → cd' j = cd j) → ∀ (lt : Nat → Int32) (to n : Nat) (st : Nat → Int32) (r : Int32), n + d ≤ 64 → b ≤ to → to ≤ 240 → lK (v lt) (fun x => ∀ st', (∀ j, j < n → st' j = st j) → st' n = x → WM cd' lt to (n + 1) b st' r) (r = 0) → WM cd' lt to n a st r
/-- a step of the reference -/
def oI (op v : Nat) : Int32 := nI (1048576 * op + v)
theorem oI_div {op v : Nat} (h : op < 20 ∧ v < 1048576) : oI op v / (1048576 : Int32) = nI op := by
  unfold oI
  rw [show (1048576 : Int32) = nI 1048576 from rfl, pk_div (by omega) (by omega) (by omega)]
  rw [show (1048576 * op + v) / 1048576 = op by omega]
theorem oI_mod {op v : Nat} (h : op < 20 ∧ v < 1048576) : oI op v % (1048576 : Int32) = nI v := by
  unfold oI
  rw [show (1048576 : Int32) = nI 1048576 from rfl, nI_mod (by omega)]
  rw [show (1048576 * op + v) % 1048576 = v by omega]
theorem CM_on {cd cd' : Nat → Int32} {a b d : Nat} {v : lDen} (h : CM cd a b d v) (e : ∀ j, a ≤ j → j < b → cd' j = cd j) : CM cd' a b d v :=
  ⟨h.1, fun s1 e1' => h.2 s1 (fun j h1 h2 => (e1' j h1 h2).trans (e j h1 h2))⟩
theorem CM_up {cd : Nat → Int32} {a b d d' : Nat} {v : lDen} (h : CM cd a b d v) (e : d ≤ d') : CM cd a b d' v :=
  ⟨h.1, fun s1 e1' lt to n st r hn => h.2 s1 e1' lt to n st r (by omega)⟩
theorem WM_in {cd lt : Nat → Int32} {to n a : Nat} {st : Nat → Int32} {r : Int32} (ha : a < to) (ht : to ≤ 240) (h : ∀ f (σ : zSt), σ.1 83 = cd → (∀ j, j < 9 → σ.1 89 j = lt j) → σ.1 88 = st → 241 ≤ f + (a + 1) → ∃ s, F_X12_comesTo_16 (nI to) (nI 0) (zfix (F_X12_comesTo_16L (nI to) (nI 0)) f) (nI n) (nI a) σ = some (r, zrow σ 88 s)) : WM cd lt to n a st r := by
  intro f σ e1' e2' e3' hf
  obtain ⟨f, rfl⟩ : ∃ g, f = g + 1 := ⟨f - 1, by omega⟩
  exact h f σ e1' e2' e3' (by omega)
theorem com_hd {to a op v : Nat} {σ : zSt} {w : (Int32 × Int32 × zSt) → Option (Int32 × zSt)} {x3 : Int32} (ha : a < to) (ht : to ≤ 240) (ho : op < 20 ∧ v < 1048576) (e : σ.1 83 a = oI op v) : F_X12_comesTo_16 (nI to) (nI 0) w x3 (nI a) σ = (if nI op = 0 then F_X12_comesTo_63 w (nI to) x3 (nI 0) (nI (a + 1)) (nI op) (nI v) σ else (if nI op = (1 : Int32) then F_X12_comesTo_63 w (nI to) x3 (nI 0) (nI (a + 1)) (nI op) (nI v) σ else (if nI op = (10 : Int32) then (gd (vp_in (x3 - (1 : Int32)) 260) (gd (vp_in (x3 - (1 : Int32)) 260) (nm (zwr σ 88 (x3 - (1 : Int32)).toNatClampNeg ((1 : Int32) - (σ.1 88 (x3 - (1 : Int32)).toNatClampNeg))) (fun s12 => F_X12_comesTo_230 w (nI to) x3 (nI 0) (nI (a + 1)) s12)))) else (if nI op = (11 : Int32) then F_X12_comesTo_135 w (nI to) x3 (nI 0) (nI (a + 1)) (nI op) (nI v) σ else (if nI op = (12 : Int32) then F_X12_comesTo_135 w (nI to) x3 (nI 0) (nI (a + 1)) (nI op) (nI v) σ else (nm (x3 - (1 : Int32)) (fun v20 => if nI op = (5 : Int32) then F_X12_comesTo_192 w (nI to) v20 (nI 0) (nI (a + 1)) (nI op) σ else (if nI op = (6 : Int32) then F_X12_comesTo_192 w (nI to) v20 (nI 0) (nI (a + 1)) (nI op) σ else F_X12_comesTo_203 w (nI to) v20 (nI 0) (nI (a + 1)) (nI op) σ)))))))) := by
  unfold F_X12_comesTo_16
  rw [if_neg (by rw [nI_lep (by omega)]; omega), gd_n (by omega), nI_cl (by omega), e, oI_div ho, oI_mod ho, nm_s, gd_n (by omega), nm_s, nm_s, nI_1]
theorem WM_end {cd lt : Nat → Int32} {to n : Nat} {st : Nat → Int32} (ht : to ≤ 240) : WM cd lt to n to st (st 0) := by
  intro f σ e1' e2' e3' hf
  obtain ⟨f, rfl⟩ : ∃ g, f = g + 1 := ⟨f - 1, by omega⟩
  refine ⟨st, ?_⟩
  have es : zrow σ 88 st = σ := by
    rw [← e3']
    exact zrow_id
  rw [es]
  show F_X12_comesTo_16 (nI to) (nI 0) (zfix (F_X12_comesTo_16L (nI to) (nI 0)) f) (nI n) (nI to) σ = _
  unfold F_X12_comesTo_16 F_X12_comesTo_233
  rw [if_pos (by rw [nI_lep (by omega)]; omega), e3']
theorem CM_num {cd : Nat → Int32} {a k : Nat} (hk : k < 1048576) (h1 : cd a = oI 0 k) : CM cd a (a + 1) 1 (fun _ => some (nI k)) := by
  refine ⟨Nat.lt_succ_self a, fun cd' e lt to n st r hn hb ht h => WM_in (by omega) ht (fun f σ e1' e2' e3' hf => ?_)⟩
  have g1 := (e a (Nat.le_refl a) (Nat.lt_succ_self a)).trans h1
  rw [com_hd (op := 0) (v := k) (by omega) ht (by omega) (by rw [e1']; exact g1), if_pos (show nI 0 = 0 from rfl)]
  unfold F_X12_comesTo_63 F_X12_comesTo_85 F_X12_comesTo_230
  rw [if_pos (show nI 0 = 0 from rfl), gd_n (by omega), nI_cl (by omega), nm_s, nm_s, nI_1]
  obtain ⟨s, es⟩ := h (upd st n (nI k)) (fun j hj => pk_un (by omega)) pk_us f (zwr σ 88 n (nI k)) (by rw [zwr_n (by decide)]; exact e1') (by rw [zwr_n (by decide)]; exact e2') (by rw [zwr_c, e3']) hf
  exact ⟨s, by rw [es]; congr 2; exact zrow2⟩
theorem CM_let {cd : Nat → Int32} {a k : Nat} (hk : k < 9) (h1 : cd a = oI 1 k) : CM cd a (a + 1) 1 (fun lt => some (lt k)) := by
  refine ⟨Nat.lt_succ_self a, fun cd' e lt to n st r hn hb ht h => WM_in (by omega) ht (fun f σ e1' e2' e3' hf => ?_)⟩
  have g1 := (e a (Nat.le_refl a) (Nat.lt_succ_self a)).trans h1
  rw [com_hd (op := 1) (v := k) (by omega) ht (by omega) (by rw [e1']; exact g1), if_neg (show ¬ nI 1 = 0 by decide), if_pos (show nI 1 = 1 from rfl)]
  unfold F_X12_comesTo_63 F_X12_comesTo_85 F_X12_comesTo_230
  rw [if_neg (show ¬ nI 1 = 0 by decide), gd_n (by omega), nI_cl (by omega), gd_n (by omega), nI_cl (by omega), nm_s, nm_s, nI_1, e2' k hk]
  obtain ⟨s, es⟩ := h (upd st n (lt k)) (fun j hj => pk_un (by omega)) pk_us f (zwr σ 88 n (lt k)) (by rw [zwr_n (by decide)]; exact e1') (by rw [zwr_n (by decide)]; exact e2') (by rw [zwr_c, e3']) hf
  exact ⟨s, by rw [es]; congr 2; exact zrow2⟩
def opM (c : Nat) : Nat := if c = 43 then 2 else if c = 45 then 3 else if c = 42 then 4 else if c = 47 then 5 else if c = 37 then 6 else if c = 60 then 7 else if c = 62 then 8 else 9
theorem opM_lt {c : Nat} : 2 ≤ opM c ∧ opM c < 10 := by
  unfold opM
  repeat' split
  all_goals decide
theorem T_reckon {c : Nat} {x y v : Int32} {σ : zSt} (hc : isOp c) (h : lRk c x y = some v) : F_X12_reckon (nI (opM c)) x y σ = some (v, σ) := by
  unfold F_X12_reckon F_X12_reckon_0
  unfold lRk at h
  rcases hc with rfl | rfl | rfl | rfl | rfl | rfl | rfl | rfl
  · cases h; rfl
  · cases h; rfl
  · cases h; rfl
  · by_cases q : y = 0
    · rw [if_neg (show ¬ 47 = 43 by decide), if_neg (show ¬ 47 = 45 by decide), if_neg (show ¬ 47 = 42 by decide), if_pos rfl, if_pos q] at h
      cases h
    · rw [if_neg (show ¬ 47 = 43 by decide), if_neg (show ¬ 47 = 45 by decide), if_neg (show ¬ 47 = 42 by decide), if_pos rfl, if_neg q] at h
      cases h
      rw [if_neg (show ¬ nI (opM 47) = 2 by decide), if_neg (show ¬ nI (opM 47) = 3 by decide), if_neg (show ¬ nI (opM 47) = 4 by decide), if_pos (show nI (opM 47) = 5 from rfl), gd_t q]
  · by_cases q : y = 0
    · rw [if_neg (show ¬ 37 = 43 by decide), if_neg (show ¬ 37 = 45 by decide), if_neg (show ¬ 37 = 42 by decide), if_neg (show ¬ 37 = 47 by decide), if_pos rfl, if_pos q] at h
      cases h
    · rw [if_neg (show ¬ 37 = 43 by decide), if_neg (show ¬ 37 = 45 by decide), if_neg (show ¬ 37 = 42 by decide), if_neg (show ¬ 37 = 47 by decide), if_pos rfl, if_neg q] at h
      cases h
      rw [if_neg (show ¬ nI (opM 37) = 2 by decide), if_neg (show ¬ nI (opM 37) = 3 by decide), if_neg (show ¬ nI (opM 37) = 4 by decide), if_neg (show ¬ nI (opM 37) = 5 by decide), if_pos (show nI (opM 37) = 6 from rfl), gd_t q]
  · cases h
    rw [if_neg (show ¬ nI (opM 60) = 2 by decide), if_neg (show ¬ nI (opM 60) = 3 by decide), if_neg (show ¬ nI (opM 60) = 4 by decide), if_neg (show ¬ nI (opM 60) = 5 by decide), if_neg (show ¬ nI (opM 60) = 6 by decide), if_pos (show nI (opM 60) = 7 from rfl), if_some, ifnot]
  · cases h
    rw [if_neg (show ¬ nI (opM 61) = 2 by decide), if_neg (show ¬ nI (opM 61) = 3 by decide), if_neg (show ¬ nI (opM 61) = 4 by decide), if_neg (show ¬ nI (opM 61) = 5 by decide), if_neg (show ¬ nI (opM 61) = 6 by decide), if_neg (show ¬ nI (opM 61) = 7 by decide), if_neg (show ¬ nI (opM 61) = 8 by decide), if_some]
  · cases h
    rw [if_neg (show ¬ nI (opM 62) = 2 by decide), if_neg (show ¬ nI (opM 62) = 3 by decide), if_neg (show ¬ nI (opM 62) = 4 by decide), if_neg (show ¬ nI (opM 62) = 5 by decide), if_neg (show ¬ nI (opM 62) = 6 by decide), if_neg (show ¬ nI (opM 62) = 7 by decide), if_pos (show nI (opM 62) = 8 from rfl), if_some, ifnot]
theorem CM_bin {cd : Nat → Int32} {a m b d c : Nat} {v1 v2 : lDen} (h1 : CM cd a m (d + 1) v1) (h2 : CM cd m b d v2) (hc : isOp c) (e : cd b = oI (opM c) 0) : CM cd a (b + 1) (d + 1) (lBin c v1 v2) := by
  have am := h1.1
  have mb := h2.1
  have hop := @opM_lt c
  refine ⟨by omega, fun cd' ee lt to n st r hn hb ht h => ?_⟩
  refine h1.2 cd' (fun j q1 q2 => ee j q1 (by omega)) lt to n st r (by omega) (by omega) ht ?_
  unfold lBin at h
  cases q1 : v1 lt with
  | none =>
    rw [q1] at h
    exact h
  | some x =>
    rw [q1] at h
    show ∀ st', (∀ j, j < n → st' j = st j) → st' n = x → WM cd' lt to (n + 1) m st' r
    intro st1 s1 s2
    refine h2.2 cd' (fun j q1 q2 => ee j (by omega) (by omega)) lt to (n + 1) st1 r (by omega) (by omega) ht ?_
    cases q2 : v2 lt with
    | none =>
      rw [q2] at h
      exact h
    | some y =>
      rw [q2] at h
      replace h : lK (lRk c x y) (fun x => ∀ st', (∀ j, j < n → st' j = st j) → st' n = x → WM cd' lt to (n + 1) (b + 1) st' r) (r = 0) := h
      show ∀ st', (∀ j, j < n + 1 → st' j = st1 j) → st' (n + 1) = y → WM cd' lt to (n + 1 + 1) b st' r
      intro st2 t1 t2
      refine WM_in (by omega) ht (fun f σ e1' e2' e3' hf => ?_)
      have es := (ee b (by omega) (by omega)).trans e
      have tn : st2 n = x := (t1 n (by omega)).trans s2
      have g2 : nI (n + 1 + 1) - (1 : Int32) = nI (n + 1) := pk_sub (a := n + 2) (b := 1) (by omega)
      have g3 : nI (n + 1) - (1 : Int32) = nI n := pk_sub (a := n + 1) (b := 1) (by omega)
      rw [com_hd (op := opM c) (v := 0) (by omega) ht (by omega) (by rw [e1']; exact es), if_neg (by rw [show (0 : Int32) = nI 0 from rfl, nI_eqp (by omega)]; omega), if_neg (by rw [show (1 : Int32) = nI 1 from rfl, nI_eqp (by omega)]; omega), if_neg (by rw [show (10 : Int32) = nI 10 from rfl, nI_eqp (by omega)]; omega), if_neg (by rw [show (11 : Int32) = nI 11 from rfl, nI_eqp (by omega)]; omega), if_neg (by rw [show (12 : Int32) = nI 12 from rfl, nI_eqp (by omega)]; omega), g2, nm_s]
      have go : ∀ v, lRk c x y = some v → ∃ s, F_X12_comesTo_203 (zfix (F_X12_comesTo_16L (nI to) (nI 0)) f) (nI to) (nI (n + 1)) (nI 0) (nI (b + 1)) (nI (opM c)) σ = some (r, zrow σ 88 s) := by
        intro v ev
        rw [ev] at h
        unfold F_X12_comesTo_203 F_X12_comesTo_230
        rw [g3, gd_n (by omega), nI_cl (by omega), gd_n (by omega), nI_cl (by omega), e3', tn, t2, T_reckon hc ev, bd_s, gd_n (by omega), nm_s]
        obtain ⟨s, es⟩ := h (upd st2 n v) (fun j hj => by rw [pk_un (by omega), t1 j (by omega), s1 j hj]) pk_us f (zwr σ 88 n v) (by rw [zwr_n (by decide)]; exact e1') (by rw [zwr_n (by decide)]; exact e2') (by rw [zwr_c, e3']) hf
        exact ⟨s, by rw [es]; congr 2; exact zrow2⟩
      have go2 : (c = 47 ∨ c = 37) → ∃ s, F_X12_comesTo_192 (zfix (F_X12_comesTo_16L (nI to) (nI 0)) f) (nI to) (nI (n + 1)) (nI 0) (nI (b + 1)) (nI (opM c)) σ = some (r, zrow σ 88 s) := by
        intro hz
        unfold F_X12_comesTo_192
        rw [gd_n (by omega), nI_cl (by omega), e3', t2]
        by_cases y0 : y = 0
        · have hn : lRk c x y = none := by
            unfold lRk
            rcases hz with rfl | rfl
            · rw [if_neg (show ¬ 47 = 43 by decide), if_neg (show ¬ 47 = 45 by decide), if_neg (show ¬ 47 = 42 by decide), if_pos rfl, if_pos y0]
            · rw [if_neg (show ¬ 37 = 43 by decide), if_neg (show ¬ 37 = 45 by decide), if_neg (show ¬ 37 = 42 by decide), if_neg (show ¬ 37 = 47 by decide), if_pos rfl, if_pos y0]
          rw [hn] at h
          replace h : r = 0 := h
          rw [if_pos y0, h]
          exact ⟨σ.1 88, by rw [zrow_id]⟩
        · rw [if_neg y0]
          obtain ⟨v, ev⟩ : ∃ v, lRk c x y = some v := by
            unfold lRk
            rw [if_neg y0, if_neg y0]
            rcases hz with rfl | rfl <;> exact ⟨_, rfl⟩
          exact go v ev
      by_cases c47 : c = 47
      · have e5 : opM c = 5 := by rw [c47]; rfl
        have k := go2 (Or.inl c47)
        rw [e5] at k ⊢
        rw [if_pos (show nI 5 = 5 from rfl)]
        exact k
      by_cases c37 : c = 37
      · have e6 : opM c = 6 := by rw [c37]; rfl
        have k := go2 (Or.inr c37)
        rw [e6] at k ⊢
        rw [if_neg (show ¬ nI 6 = 5 by decide), if_pos (show nI 6 = 6 from rfl)]
        exact k
      have n5 : ¬ opM c = 5 ∧ ¬ opM c = 6 := by
        unfold isOp at hc
        rcases hc with rfl | rfl | rfl | rfl | rfl | rfl | rfl | rfl <;> first | exact absurd rfl c47 | exact absurd rfl c37 | decide
      rw [if_neg (by rw [show (5 : Int32) = nI 5 from rfl, nI_eqp (by omega)]; exact n5.1), if_neg (by rw [show (6 : Int32) = nI 6 from rfl, nI_eqp (by omega)]; exact n5.2)]
      obtain ⟨v, ev⟩ : ∃ v, lRk c x y = some v := by
        unfold lRk
        unfold isOp at hc
        rcases hc with rfl | rfl | rfl | rfl | rfl | rfl | rfl | rfl <;> first | exact absurd rfl c47 | exact absurd rfl c37 | exact ⟨_, rfl⟩
      exact go v ev
theorem CM_not {cd : Nat → Int32} {a b d : Nat} {v : lDen} (h1 : CM cd a b d v) (hd : 1 ≤ d) (e : cd b = oI 10 0) : CM cd a (b + 1) d (lNot v) := by
  have ab := h1.1
  refine ⟨by omega, fun cd' ee lt to n st r hn hb ht h => ?_⟩
  refine h1.2 cd' (fun j q1 q2 => ee j q1 (by omega)) lt to n st r (by omega) (by omega) ht ?_
  unfold lNot at h
  cases q1 : v lt with
  | none =>
    rw [q1] at h
    exact h
  | some x =>
    rw [q1] at h
    replace h : ∀ st', (∀ j, j < n → st' j = st j) → st' n = 1 - x → WM cd' lt to (n + 1) (b + 1) st' r := h
    show ∀ st', (∀ j, j < n → st' j = st j) → st' n = x → WM cd' lt to (n + 1) b st' r
    intro st1 s1 s2
    refine WM_in (by omega) ht (fun f σ e1' e2' e3' hf => ?_)
    have es := (ee b (by omega) (by omega)).trans e
    rw [com_hd (op := 10) (v := 0) (by omega) ht (by omega) (by rw [e1']; exact es), if_neg (show ¬ nI 10 = 0 by decide), if_neg (show ¬ nI 10 = 1 by decide), if_pos (show nI 10 = 10 from rfl), show nI (n + 1) - (1 : Int32) = nI n from pk_sub (a := n + 1) (b := 1) (by omega), gd_n (by omega), gd_n (by omega), nI_cl (by omega), e3', s2, nm_s]
    unfold F_X12_comesTo_230
    obtain ⟨s, es⟩ := h (upd st1 n (1 - x)) (fun j hj => by rw [pk_un (by omega), s1 j hj]) pk_us f (zwr σ 88 n (1 - x)) (by rw [zwr_n (by decide)]; exact e1') (by rw [zwr_n (by decide)]; exact e2') (by rw [zwr_c, e3']) hf
    exact ⟨s, by rw [es]; congr 2; exact zrow2⟩
/-- a leap: 11 where the top is 0, 12 where it is 1 -/
theorem WM_J {J : Bool} {cd lt : Nat → Int32} {to n e X : Nat} {st : Nat → Int32} {r y : Int32} (h1 : cd e = oI (if J = true then 12 else 11) X) (hX : e < X) (ht : X ≤ to) (h24 : to ≤ 240) (hn : n + 1 ≤ 64) (hy : st n = y) (hb : y = 0 ∨ y = 1) (h : if decide (y = 1) = J then WM cd lt to (n + 1) X st r else WM cd lt to n (e + 1) st r) : WM cd lt to (n + 1) e st r := by
  refine WM_in (by omega) h24 (fun f σ e1' e2' e3' hf => ?_)
  have g3 : nI (n + 1) - (1 : Int32) = nI n := pk_sub (a := n + 1) (b := 1) (by omega)
  have go : ∀ (op : Nat) (v14 : Int32), (v14 = y ↔ decide (y = 1) = J) → ∃ s, nm v14 (fun v14 => if (σ.1 88 n) = v14 then (nm (nI 0 + nI X) (fun v16 => F_X12_comesTo_230 (zfix (F_X12_comesTo_16L (nI to) (nI 0)) f) (nI to) (nI (n + 1)) (nI 0) v16 σ)) else (nm (nI n) (fun v17 => F_X12_comesTo_230 (zfix (F_X12_comesTo_16L (nI to) (nI 0)) f) (nI to) v17 (nI 0) (nI (e + 1)) σ))) = some (r, zrow σ 88 s) := by
    intro op v14 hv
    unfold F_X12_comesTo_230
    rw [nm_s, e3', hy]
    by_cases q : decide (y = 1) = J
    · rw [if_pos q] at h
      rw [if_pos (hv.mpr q).symm, nI_add, Nat.zero_add, nm_s]
      exact h f σ e1' e2' e3' (by omega)
    · rw [if_neg q] at h
      rw [if_neg (fun z => q (hv.mp z.symm)), nm_s]
      exact h f σ e1' e2' e3' hf
  cases J
  · rw [com_hd (op := 11) (v := X) (by omega) h24 (by omega) (by rw [e1']; exact h1), if_neg (show ¬ nI 11 = 0 by decide), if_neg (show ¬ nI 11 = 1 by decide), if_neg (show ¬ nI 11 = 10 by decide), if_pos (show nI 11 = 11 from rfl)]
    unfold F_X12_comesTo_135
    rw [g3, gd_n (by omega), nI_cl (by omega), if_neg (show ¬ nI 11 = 12 by decide)]
    refine go 11 0 ?_
    rcases hb with z | z <;> rw [z] <;> decide
  · rw [com_hd (op := 12) (v := X) (by omega) h24 (by omega) (by rw [e1']; exact h1), if_neg (show ¬ nI 12 = 0 by decide), if_neg (show ¬ nI 12 = 1 by decide), if_neg (show ¬ nI 12 = 10 by decide), if_neg (show ¬ nI 12 = 11 by decide), if_pos (show nI 12 = 12 from rfl)]
    unfold F_X12_comesTo_135
    rw [g3, gd_n (by omega), nI_cl (by omega), if_pos (show nI 12 = 12 from rfl)]
    refine go 12 1 ?_
    rcases hb with z | z <;> rw [z] <;> decide
theorem CM_J {J : Bool} {cd : Nat → Int32} {s k e d : Nat} {A P : lDen} (hA : CM cd s k d A) (hP : CM cd (k + 1) e d P) (hd : 1 ≤ d) (hb : lBo A) (h1 : cd k = oI (if J = true then 12 else 11) e) : CM cd s e d (lJ J A P) := by
  have sk := hA.1
  have ke := hP.1
  refine ⟨by omega, fun cd' ee lt to n st r hn ht h24 h => ?_⟩
  refine hA.2 cd' (fun j q1 q2 => ee j q1 (by omega)) lt to n st r (by omega) (by omega) h24 ?_
  unfold lJ at h
  cases q1 : A lt with
  | none =>
    rw [q1] at h
    exact h
  | some x =>
    rw [q1] at h
    replace h : lK (if decide (x = 1) = J then some x else P lt) (fun x => ∀ st', (∀ j, j < n → st' j = st j) → st' n = x → WM cd' lt to (n + 1) e st' r) (r = 0) := h
    show ∀ st', (∀ j, j < n → st' j = st j) → st' n = x → WM cd' lt to (n + 1) k st' r
    intro st1 s1 s2
    refine WM_J (J := J) (y := x) (X := e) ((ee k (by omega) (by omega)).trans h1) (by omega) ht h24 (by omega) s2 (hb lt x q1) ?_
    by_cases q : decide (x = 1) = J
    · rw [if_pos q] at h
      rw [if_pos q]
      exact h st1 s1 s2
    · rw [if_neg q] at h
      rw [if_neg q]
      refine hP.2 cd' (fun j a b => ee j (by omega) b) lt to n st1 r hn ht h24 ?_
      cases q2 : P lt with
      | none =>
        rw [q2] at h
        exact h
      | some y =>
        rw [q2] at h
        show ∀ st', (∀ j, j < n → st' j = st1 j) → st' n = y → WM cd' lt to (n + 1) e st' r
        intro st2 t1 t2
        exact h st2 (fun j hj => (t1 j hj).trans (s1 j hj)) t2
