/-! PURE: the law, the class's steps run -/
/-- from there on the steps come to r -/
def WC (sg vl lt : Nat → Int32) (to n a : Nat) (st : Nat → Int32) (r : Int32) : Prop := ∀ f i (σ : zSt), σ.1 9 = sg → σ.1 10 = vl → (∀ j, j < 9 → σ.1 25 j = lt j) → σ.1 16 = st → 241 ≤ f + a → i ≤ a → ∃ s, zfix (F_X1_run_9L (nI to)) f (nI n, nI a, nI i, σ) = some (r, zrow σ 16 s)
theorem nI_m1 {n : Nat} : nI (n + 1) + (-1 : Int32) = nI n := by
  have e : nI (n + 1) - (1 : Int32) = nI n := pk_sub (a := n + 1) (b := 1) (by omega)
  rw [← e, Int32.sub_eq_add_neg]
theorem zrow2 {σ : zSt} {c : Nat} {f g : Nat → Int32} : zrow (zrow σ c f) c g = zrow σ c g := by
  show ((fun a => if a = c then g else (if a = c then f else σ.1 a)), σ.2) = ((fun a => if a = c then g else σ.1 a), σ.2)
  congr 1
  funext a
  by_cases h : a = c
  · rw [if_pos h, if_pos h]
  · rw [if_neg h, if_neg h, if_neg h]
theorem zrow_id {σ : zSt} {c : Nat} : zrow σ c (σ.1 c) = σ := by
  show ((fun a => if a = c then σ.1 c else σ.1 a), σ.2) = σ
  have e : (fun a => if a = c then σ.1 c else σ.1 a) = σ.1 := by
    funext a
    by_cases h : a = c
    · rw [if_pos h, h]
    · rw [if_neg h]
  rw [e]
/-- what the match of a worth asks for -/
def lK (o : Option Int32) (k : Int32 → Prop) (z : Prop) : Prop := match o with
  | none => z
  | some x => k x
/-- the steps from a to b push what v is -/
def CS (sg vl : Nat → Int32) (a b d : Nat) (v : lDen) : Prop := a < b ∧ ∀ sg' vl' : Nat → Int32, (∀ j, a ≤ j → j < b → sg' j = sg j ∧ vl' j = vl j) → ∀ (lt : Nat → Int32) (to n : Nat) (st : Nat → Int32) (r : Int32), n + d ≤ 64 → b ≤ to → to ≤ 240 → lK (v lt) (fun x => ∀ st', (∀ j, j < n → st' j = st j) → st' n = x → WC sg' vl' lt to (n + 1) b st' r) (r = 0) → WC sg' vl' lt to n a st r
theorem CS_on {sg vl sg' vl' : Nat → Int32} {a b d : Nat} {v : lDen} (h : CS sg vl a b d v) (e : ∀ j, a ≤ j → j < b → sg' j = sg j ∧ vl' j = vl j) : CS sg' vl' a b d v :=
  ⟨h.1, fun s1 v1 e1' => h.2 s1 v1 (fun j h1 h2 => ⟨(e1' j h1 h2).1.trans (e j h1 h2).1, (e1' j h1 h2).2.trans (e j h1 h2).2⟩)⟩
theorem CS_up {sg vl : Nat → Int32} {a b d d' : Nat} {v : lDen} (h : CS sg vl a b d v) (e : d ≤ d') : CS sg vl a b d' v :=
  ⟨h.1, fun s1 v1 e1' lt to n st r hn => h.2 s1 v1 e1' lt to n st r (by omega)⟩
theorem WC_in {sg vl lt : Nat → Int32} {to n a : Nat} {st : Nat → Int32} {r : Int32} (ha : a < to) (ht : to ≤ 240) (h : ∀ f i (σ : zSt), σ.1 9 = sg → σ.1 10 = vl → (∀ j, j < 9 → σ.1 25 j = lt j) → σ.1 16 = st → 241 ≤ f + (a + 1) → i ≤ a → ∃ s, F_X1_run_9 (nI to) (zfix (F_X1_run_9L (nI to)) f) (nI n) (nI a) (nI i) σ = some (r, zrow σ 16 s)) : WC sg vl lt to n a st r := by
  intro f i σ e9 e10 e25 e16 hf hi
  obtain ⟨f, rfl⟩ : ∃ g, f = g + 1 := ⟨f - 1, by omega⟩
  exact h f i σ e9 e10 e25 e16 (by omega) hi
theorem run_hd {to a i : Nat} {σ : zSt} {w9 : (Int32 × Int32 × Int32 × zSt) → Option (Int32 × zSt)} {x4 : Int32} (ha : a < to) (ht : to ≤ 240) (hi : i ≤ a) : F_X1_run_9 (nI to) w9 x4 (nI a) (nI i) σ = (if (σ.1 9 a) = (35 : Int32) then F_X1_run_71 w9 (nI to) x4 (nI (a + 1)) (nI i) (σ.1 9 a) (σ.1 10 a) σ else (if (σ.1 9 a) = (63 : Int32) then F_X1_run_71 w9 (nI to) x4 (nI (a + 1)) (nI i) (σ.1 9 a) (σ.1 10 a) σ else (nm (if (σ.1 9 a) = (33 : Int32) then (1 : Int32) else (if (σ.1 9 a) = (38 : Int32) then (1 : Int32) else (if (σ.1 9 a) = (124 : Int32) then (1 : Int32) else (0 : Int32)))) (fun v20 => nm (if v20 = 0 then (2 : Int32) else (1 : Int32)) (fun v21 => if v21 ≤ x4 then (gd (vp_in (x4 - (1 : Int32)) 64) (nm (σ.1 16 (x4 - (1 : Int32)).toNatClampNeg) (fun v23 => if (σ.1 9 a) = (33 : Int32) then (gd (vp_in (x4 - (1 : Int32)) 64) (nm (zwr σ 16 (x4 - (1 : Int32)).toNatClampNeg ((1 : Int32) - v23)) (fun s25 => F_X1_run_305 w9 (nI to) x4 (nI (a + 1)) (nI i) s25))) else (if v20 = 0 then F_X1_run_245 w9 (nI to) x4 (nI (a + 1)) (nI i) (σ.1 9 a) v20 v23 σ else (nm (if v23 = (1 : Int32) then (1 : Int32) else (0 : Int32)) (fun v37 => nm (if (σ.1 9 a) = (124 : Int32) then (1 : Int32) else (0 : Int32)) (fun v38 => if v37 = v38 then F_X1_run_305 w9 (nI to) x4 (σ.1 10 a) (nI i) σ else F_X1_run_245 w9 (nI to) x4 (nI (a + 1)) (nI i) (σ.1 9 a) v20 v23 σ))))))) else some ((0 : Int32), σ)))))) := by
  unfold F_X1_run_9
  rw [if_neg (by rw [show (240 : Int32) = nI 240 from rfl, nI_lep (by omega)]; omega), if_neg (nI_pos (by omega)), if_neg (by rw [nI_lep (by omega)]; omega), if_neg (by rw [show (240 : Int32) = nI 240 from rfl, nI_lep (by omega)]; omega), gd_n (by omega), nI_cl (by omega), nm_s, gd_n (by omega), nm_s, nm_s, nI_1]
/-- the end -/
theorem WC_end {sg vl lt : Nat → Int32} {to n : Nat} {st : Nat → Int32} (hn : n < 64) (ht : to ≤ 240) : WC sg vl lt to (n + 1) to st (st n) := by
  intro f i σ e9 e10 e25 e16 hf hi
  obtain ⟨f, rfl⟩ : ∃ g, f = g + 1 := ⟨f - 1, by omega⟩
  refine ⟨st, ?_⟩
  have es : zrow σ 16 st = σ := by
    rw [← e16]
    exact zrow_id
  rw [es]
  show F_X1_run_9 (nI to) (zfix (F_X1_run_9L (nI to)) f) (nI (n + 1)) (nI to) (nI i) σ = _
  have fin : F_X1_run_311 (nI (n + 1)) σ = some (st n, σ) := by
    unfold F_X1_run_311
    rw [if_neg (by rw [show (0 : Int32) = nI 0 from rfl, nI_lep (by omega)]; omega), if_neg (by rw [show (64 : Int32) = nI 64 from rfl, nI_ltp (by omega)]; omega), show nI (n + 1) - (1 : Int32) = nI n from pk_sub (a := n + 1) (b := 1) (by omega), gd_n (by omega), nI_cl (by omega), e16]
  unfold F_X1_run_9
  by_cases q : (240 : Int32) ≤ nI i
  · rw [if_pos q]
    exact fin
  rw [if_neg q, if_neg (nI_pos (by omega)), if_pos (by rw [nI_lep (by omega)]; omega)]
  exact fin
/-- a number or a letter -/
theorem CS_num {sg vl : Nat → Int32} {a k : Nat} (h1 : sg a = 35) (h2 : vl a = nI k) : CS sg vl a (a + 1) 1 (fun _ => some (nI k)) := by
  refine ⟨Nat.lt_succ_self a, fun sg' vl' e lt to n st r hn hb ht h => WC_in (by omega) ht (fun f i σ e9 e10 e25 e16 hf hi => ?_)⟩
  obtain ⟨g1, g2⟩ := e a (Nat.le_refl a) (Nat.lt_succ_self a)
  rw [h1] at g1
  rw [h2] at g2
  rw [run_hd (by omega) ht hi, e9, e10, g1, g2, if_pos rfl]
  unfold F_X1_run_71 F_X1_run_99 F_X1_run_121 F_X1_run_305
  rw [if_neg (by rw [show (64 : Int32) = nI 64 from rfl, nI_lep (by omega)]; omega), if_neg (show ¬ (35 : Int32) = 63 by decide), if_pos rfl, gd_n (by omega), nI_cl (by omega), nm_s, nm_s, nI_1, nm_s, nI_1]
  obtain ⟨s, es⟩ := h (upd st n (nI k)) (fun j hj => pk_un (by omega)) pk_us f (i + 1) (zwr σ 16 n (nI k)) (by rw [zwr_n (by decide)]; exact e9) (by rw [zwr_n (by decide)]; exact e10) (by rw [zwr_n (by decide)]; exact e25) (by rw [zwr_c, e16]) hf (by omega)
  exact ⟨s, by rw [es]; congr 2; exact zrow2⟩
theorem CS_let {sg vl : Nat → Int32} {a k : Nat} (hk : k < 9) (h1 : sg a = 63) (h2 : vl a = nI k) : CS sg vl a (a + 1) 1 (fun lt => some (lt k)) := by
  refine ⟨Nat.lt_succ_self a, fun sg' vl' e lt to n st r hn hb ht h => WC_in (by omega) ht (fun f i σ e9 e10 e25 e16 hf hi => ?_)⟩
  obtain ⟨g1, g2⟩ := e a (Nat.le_refl a) (Nat.lt_succ_self a)
  rw [h1] at g1
  rw [h2] at g2
  rw [run_hd (by omega) ht hi, e9, e10, g1, g2, if_neg (show ¬ (63 : Int32) = 35 by decide), if_pos rfl]
  unfold F_X1_run_71 F_X1_run_99 F_X1_run_121 F_X1_run_305
  rw [if_neg (by rw [show (64 : Int32) = nI 64 from rfl, nI_lep (by omega)]; omega), if_pos rfl, if_neg (nI_pos (by omega)), if_pos (by rw [show (9 : Int32) = nI 9 from rfl, nI_ltp (by omega)]; omega), if_neg (show ¬ (63 : Int32) = 35 by decide), gd_n (by omega), gd_n (by omega), nI_cl (by omega), nI_cl (by omega), nm_s, nm_s, nI_1, nm_s, nI_1, e25 k hk]
  obtain ⟨s, es⟩ := h (upd st n (lt k)) (fun j hj => pk_un (by omega)) pk_us f (i + 1) (zwr σ 16 n (lt k)) (by rw [zwr_n (by decide)]; exact e9) (by rw [zwr_n (by decide)]; exact e10) (by rw [zwr_n (by decide)]; exact e25) (by rw [zwr_c, e16]) hf (by omega)
  exact ⟨s, by rw [es]; congr 2; exact zrow2⟩
def isOp (c : Nat) : Prop := c = 43 ∨ c = 45 ∨ c = 42 ∨ c = 47 ∨ c = 37 ∨ c = 60 ∨ c = 61 ∨ c = 62
theorem ifnot {x y : Int32} (i : Decidable (y ≤ x)) : (@ite Int32 (y ≤ x) i 0 1) = if x < y then 1 else 0 := by
  have e : (y ≤ x) ↔ ¬ (x < y) := by
    rw [i_le, i_lt]
    omega
  by_cases q : x < y
  · rw [if_pos q, if_neg (fun z => (e.mp z) q)]
  · rw [if_neg q, if_pos (e.mpr q)]
theorem if_some {α : Type} {p : Prop} {i : Decidable p} {x y : Int32} {s : α} : (if p then some (x, s) else some (y, s)) = some ((if p then x else y), s) := by
  by_cases q : p
  · rw [if_pos q, if_pos q]
  · rw [if_neg q, if_neg q]
theorem T_reckoned {c : Nat} {x y v : Int32} {σ : zSt} (hc : isOp c) (h : lRk c x y = some v) : F_X1_reckoned (nI c) x y σ = some (v, σ) := by
  unfold F_X1_reckoned F_X1_reckoned_0
  unfold lRk at h
  rcases hc with rfl | rfl | rfl | rfl | rfl | rfl | rfl | rfl
  · cases h; rfl
  · cases h; rfl
  · cases h; rfl
  · by_cases q : y = 0
    · rw [if_neg (show ¬ 47 = 43 by decide), if_neg (show ¬ 47 = 45 by decide), if_neg (show ¬ 47 = 42 by decide), if_pos rfl, if_pos q] at h
      cases h
    · rw [if_neg (show ¬ 47 = 43 by decide), if_neg (show ¬ 47 = 45 by decide), if_neg (show ¬ 47 = 42 by decide), if_pos rfl, if_neg q] at h
      cases h
      rw [if_neg (show ¬ nI 47 = 37 by decide), if_neg (show ¬ nI 47 = 42 by decide), if_neg (show ¬ nI 47 = 43 by decide), if_neg (show ¬ nI 47 = 45 by decide), if_pos (show nI 47 = 47 from rfl), if_neg q, gd_t q]
  · by_cases q : y = 0
    · rw [if_neg (show ¬ 37 = 43 by decide), if_neg (show ¬ 37 = 45 by decide), if_neg (show ¬ 37 = 42 by decide), if_neg (show ¬ 37 = 47 by decide), if_pos rfl, if_pos q] at h
      cases h
    · rw [if_neg (show ¬ 37 = 43 by decide), if_neg (show ¬ 37 = 45 by decide), if_neg (show ¬ 37 = 42 by decide), if_neg (show ¬ 37 = 47 by decide), if_pos rfl, if_neg q] at h
      cases h
      rw [if_pos (show nI 37 = 37 from rfl), if_neg q, gd_t q]
  · cases h
    rw [if_neg (show ¬ nI 60 = 37 by decide), if_neg (show ¬ nI 60 = 42 by decide), if_neg (show ¬ nI 60 = 43 by decide), if_neg (show ¬ nI 60 = 45 by decide), if_neg (show ¬ nI 60 = 47 by decide), if_pos (show nI 60 = 60 from rfl), if_some, ifnot]
  · cases h
    rw [if_neg (show ¬ nI 61 = 37 by decide), if_neg (show ¬ nI 61 = 42 by decide), if_neg (show ¬ nI 61 = 43 by decide), if_neg (show ¬ nI 61 = 45 by decide), if_neg (show ¬ nI 61 = 47 by decide), if_neg (show ¬ nI 61 = 60 by decide), if_neg (show ¬ nI 61 = 62 by decide), if_some]
  · cases h
    rw [if_neg (show ¬ nI 62 = 37 by decide), if_neg (show ¬ nI 62 = 42 by decide), if_neg (show ¬ nI 62 = 43 by decide), if_neg (show ¬ nI 62 = 45 by decide), if_neg (show ¬ nI 62 = 47 by decide), if_neg (show ¬ nI 62 = 60 by decide), if_pos (show nI 62 = 62 from rfl), if_some, ifnot]
theorem isOp_sg : ∀ c, c < 64 → (c = 43 ∨ c = 45 ∨ c = 42 ∨ c = 47 ∨ c = 37 ∨ c = 60 ∨ c = 61 ∨ c = 62) → ¬ nI c = 35 ∧ ¬ nI c = 63 ∧ ¬ nI c = 33 ∧ ¬ nI c = 38 ∧ ¬ nI c = 124 := by decide +kernel
/-- two worths joined -/
theorem CS_bin {sg vl : Nat → Int32} {a m b d c : Nat} {v1 v2 : lDen} (h1 : CS sg vl a m (d + 1) v1) (h2 : CS sg vl m b d v2) (hd : 1 ≤ d) (hc : isOp c) (e : sg b = nI c) : CS sg vl a (b + 1) (d + 1) (lBin c v1 v2) := by
  have am := h1.1
  have mb := h2.1
  refine ⟨by omega, fun sg' vl' ee lt to n st r hn hb ht h => ?_⟩
  refine h1.2 sg' vl' (fun j q1 q2 => ee j q1 (by omega)) lt to n st r (by omega) (by omega) ht ?_
  unfold lBin at h
  cases q1 : v1 lt with
  | none =>
    rw [q1] at h
    exact h
  | some x =>
    rw [q1] at h
    show ∀ st', (∀ j, j < n → st' j = st j) → st' n = x → WC sg' vl' lt to (n + 1) m st' r
    intro st1 s1 s2
    refine h2.2 sg' vl' (fun j q1 q2 => ee j (by omega) (by omega)) lt to (n + 1) st1 r (by omega) (by omega) ht ?_
    cases q2 : v2 lt with
    | none =>
      rw [q2] at h
      exact h
    | some y =>
      rw [q2] at h
      replace h : lK (lRk c x y) (fun x => ∀ st', (∀ j, j < n → st' j = st j) → st' n = x → WC sg' vl' lt to (n + 1) (b + 1) st' r) (r = 0) := h
      show ∀ st', (∀ j, j < n + 1 → st' j = st1 j) → st' (n + 1) = y → WC sg' vl' lt to (n + 1 + 1) b st' r
      intro st2 t1 t2
      refine WC_in (by omega) ht (fun f i σ e9 e10 e25 e16 hf hi => ?_)
      have es := (ee b (by omega) (by omega)).1.trans e
      obtain ⟨c1, c2, c3, c4, c5⟩ := isOp_sg c (by unfold isOp at hc; omega) hc
      have tn : st2 n = x := (t1 n (by omega)).trans s2
      rw [run_hd (by omega) ht hi, e9, es, if_neg c1, if_neg c2, if_neg c3, if_neg c4, if_neg c5, nm_s, if_pos rfl, nm_s, if_pos (by rw [show (2 : Int32) = nI 2 from rfl, nI_lep (by omega)]; omega), show nI (n + 1 + 1) - (1 : Int32) = nI (n + 1) from pk_sub (a := n + 2) (b := 1) (by omega), gd_n (by omega), nI_cl (by omega), e16, t2, nm_s, if_neg c3, if_pos rfl]
      unfold F_X1_run_245 F_X1_run_277 F_X1_run_305
      rw [if_pos rfl]
      have g2 : nI (n + 1 + 1) - (2 : Int32) = nI n := pk_sub (a := n + 2) (b := 2) (by omega)
      have g3 : nI (n + 1 + 1) + (-1 : Int32) = nI (n + 1) := by
        exact nI_m1
      have go : ∀ v, lRk c x y = some v → ∃ s, gd (vp_in (nI n) 64) (bd (F_X1_reckoned (nI c) (σ.1 16 (nI n).toNatClampNeg) y σ) (fun q32 s31 => gd (vp_in (nI n) 64) (nm (zwr s31 16 (nI n).toNatClampNeg q32) (fun s34 => nm (nI (n + 1)) (fun v35 => nm (nI i + 1) (fun v18 => zfix (F_X1_run_9L (nI to)) f (v35, nI (b + 1), v18, s34))))))) = some (r, zrow σ 16 s) := by
        intro v ev
        rw [ev] at h
        rw [gd_n (by omega), nI_cl (by omega), e16, tn, T_reckoned hc ev, bd_s, gd_n (by omega), nm_s, nm_s, nm_s, nI_1]
        obtain ⟨s, es⟩ := h (upd st2 n v) (fun j hj => by rw [pk_un (by omega), t1 j (by omega), s1 j hj]) pk_us f (i + 1) (zwr σ 16 n v) (by rw [zwr_n (by decide)]; exact e9) (by rw [zwr_n (by decide)]; exact e10) (by rw [zwr_n (by decide)]; exact e25) (by rw [zwr_c, e16]) hf (by omega)
        exact ⟨s, by rw [es]; congr 2; exact zrow2⟩
      rw [g2, g3]
      by_cases y0 : y = 0
      · rw [if_pos y0]
        by_cases c47 : c = 47
        · subst c47
          have hn : lRk 47 x y = none := by
            unfold lRk
            rw [if_neg (show ¬ 47 = 43 by decide), if_neg (show ¬ 47 = 45 by decide), if_neg (show ¬ 47 = 42 by decide), if_pos rfl, if_pos y0]
          rw [hn] at h
          replace h : r = 0 := h
          rw [if_pos (show nI 47 = 47 from rfl), h]
          exact ⟨σ.1 16, by rw [zrow_id]⟩
        · rw [if_neg (by rw [show (47 : Int32) = nI 47 from rfl, nI_eqp (by unfold isOp at hc; omega)]; exact c47)]
          by_cases c37 : c = 37
          · subst c37
            have hn : lRk 37 x y = none := by
              unfold lRk
              rw [if_neg (show ¬ 37 = 43 by decide), if_neg (show ¬ 37 = 45 by decide), if_neg (show ¬ 37 = 42 by decide), if_neg (show ¬ 37 = 47 by decide), if_pos rfl, if_pos y0]
            rw [hn] at h
            replace h : r = 0 := h
            rw [if_pos (show nI 37 = 37 from rfl), h]
            exact ⟨σ.1 16, by rw [zrow_id]⟩
          · rw [if_neg (by rw [show (37 : Int32) = nI 37 from rfl, nI_eqp (by unfold isOp at hc; omega)]; exact c37)]
            obtain ⟨v, ev⟩ : ∃ v, lRk c x y = some v := by
              unfold lRk
              unfold isOp at hc
              rcases hc with rfl | rfl | rfl | rfl | rfl | rfl | rfl | rfl <;> first | exact absurd rfl c47 | exact absurd rfl c37 | exact ⟨_, rfl⟩
            exact go v ev
      · rw [if_neg y0]
        obtain ⟨v, ev⟩ : ∃ v, lRk c x y = some v := by
          unfold lRk
          unfold isOp at hc
          rw [if_neg y0, if_neg y0]
          rcases hc with rfl | rfl | rfl | rfl | rfl | rfl | rfl | rfl <;> exact ⟨_, rfl⟩
        exact go v ev
theorem CS_not {sg vl : Nat → Int32} {a b d : Nat} {v : lDen} (h1 : CS sg vl a b d v) (hd : 1 ≤ d) (e : sg b = 33) : CS sg vl a (b + 1) d (lNot v) := by
  have ab := h1.1
  refine ⟨by omega, fun sg' vl' ee lt to n st r hn hb ht h => ?_⟩
  refine h1.2 sg' vl' (fun j q1 q2 => ee j q1 (by omega)) lt to n st r (by omega) (by omega) ht ?_
  unfold lNot at h
  cases q1 : v lt with
  | none =>
    rw [q1] at h
    exact h
  | some x =>
    rw [q1] at h
    replace h : ∀ st', (∀ j, j < n → st' j = st j) → st' n = 1 - x → WC sg' vl' lt to (n + 1) (b + 1) st' r := h
    show ∀ st', (∀ j, j < n → st' j = st j) → st' n = x → WC sg' vl' lt to (n + 1) b st' r
    intro st1 s1 s2
    refine WC_in (by omega) ht (fun f i σ e9 e10 e25 e16 hf hi => ?_)
    have es := (ee b (by omega) (by omega)).1.trans e
    rw [run_hd (by omega) ht hi, e9, es, if_neg (show ¬ (33 : Int32) = 35 by decide), if_neg (show ¬ (33 : Int32) = 63 by decide), if_pos rfl, nm_s, if_neg (show ¬ (1 : Int32) = 0 by decide), nm_s, if_pos (by rw [show (1 : Int32) = nI 1 from rfl, nI_lep (by omega)]; omega), show nI (n + 1) - (1 : Int32) = nI n from pk_sub (a := n + 1) (b := 1) (by omega), gd_n (by omega), nI_cl (by omega), e16, s2, nm_s, if_pos rfl, gd_n (by omega), nm_s]
    unfold F_X1_run_305
    rw [nm_s, nI_1]
    obtain ⟨s, es⟩ := h (upd st1 n (1 - x)) (fun j hj => by rw [pk_un (by omega), s1 j hj]) pk_us f (i + 1) (zwr σ 16 n (1 - x)) (by rw [zwr_n (by decide)]; exact e9) (by rw [zwr_n (by decide)]; exact e10) (by rw [zwr_n (by decide)]; exact e25) (by rw [zwr_c, e16]) hf (by omega)
    exact ⟨s, by rw [es]; congr 2; exact zrow2⟩
