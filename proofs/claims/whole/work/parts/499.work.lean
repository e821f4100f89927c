/-! PURE: the planner's cheapest ways between islands -/
/-- by the islands below k is no way cheaper: one turn of Floyd -/
def flP (P : Nat → Nat) (k : Nat) : Nat → Nat := fun i => min (P i) (P (4 * (i / 4) + k) + P (4 * k + i % 4))
def fln (P : Nat → Nat) : Nat → Nat → Nat
  | 0 => P
  | n + 1 => flP (fln P n) n
def p0W (W : zWo) (m i : Nat) : Nat := if i / 4 = i % 4 then 0 else if 0 < wWay W i then cstW W m (i / 4) 0 (i % 4) else 134217728
def pth (W : zWo) (m : Nat) : Nat → Nat := fln (p0W W m) 4
theorem flP_ab {P : Nat → Nat} {k a b : Nat} (hb : b < 4) : flP P k (4 * a + b) = min (P (4 * a + b)) (P (4 * a + k) + P (4 * k + b)) := by
  unfold flP
  rw [show (4 * a + b) / 4 = a by omega, show (4 * a + b) % 4 = b by omega]
theorem fln_le {P : Nat → Nat} : ∀ n i, fln P n i ≤ P i := by
  intro n
  induction n with
  | zero => intro i; exact Nat.le_refl _
  | succ n ih => intro i; exact Nat.le_trans (Nat.min_le_left _ _) (ih i)
theorem fln_0 {P : Nat → Nat} (h : ∀ a, a < 4 → P (4 * a + a) = 0) : ∀ n a, a < 4 → fln P n (4 * a + a) = 0 := by
  intro n a ha
  have := fln_le (P := P) n (4 * a + a)
  have := h a ha
  omega
theorem flP_k {P : Nat → Nat} {k a : Nat} (hk : k < 4) (h : P (4 * k + k) = 0) : flP P k (4 * a + k) = P (4 * a + k) ∧ ∀ b, b < 4 → flP P k (4 * k + b) = P (4 * k + b) := by
  refine ⟨?_, fun b hb => ?_⟩
  · rw [flP_ab hk, h]
    omega
  · rw [flP_ab hb, h]
    omega
theorem fln_t {P : Nat → Nat} (h : ∀ a, a < 4 → P (4 * a + a) = 0) : ∀ n, n ≤ 4 → ∀ c, c < n → ∀ a b, a < 4 → b < 4 → fln P n (4 * a + b) ≤ fln P n (4 * a + c) + fln P n (4 * c + b) := by
  intro n
  induction n with
  | zero => intro _ c hc; exact absurd hc (Nat.not_lt_zero c)
  | succ n ih =>
    intro hn c hc a b ha hb
    have z := fln_0 h n n (by omega)
    show flP (fln P n) n (4 * a + b) ≤ flP (fln P n) n (4 * a + c) + flP (fln P n) n (4 * c + b)
    have c4 : c < 4 := by omega
    rw [flP_ab hb, flP_ab c4, flP_ab hb]
    by_cases q : c = n
    · subst q
      rw [z]
      omega
    · have i1 := ih (by omega) c (by omega) a b ha hb
      have i2 := ih (by omega) c (by omega) a n ha (by omega)
      have i3 := ih (by omega) c (by omega) n b (by omega) hb
      omega
theorem fln_c {P C : Nat → Nat} (hC : ∀ a, a < 4 → C a = 1000000000 ∨ C a ≤ 100000000) (h : ∀ a b, a < 4 → b < 4 → P (4 * a + b) < 134217728 → C b < 1000000000 → C a ≤ P (4 * a + b) + C b) : ∀ n, n ≤ 4 → ∀ a b, a < 4 → b < 4 → fln P n (4 * a + b) < 134217728 → C b < 1000000000 → C a ≤ fln P n (4 * a + b) + C b := by
  intro n
  induction n with
  | zero => intro _; exact h
  | succ n ih =>
    intro hn a b ha hb
    show flP (fln P n) n (4 * a + b) < 134217728 → _ → C a ≤ flP (fln P n) n (4 * a + b) + C b
    rw [flP_ab hb]
    intro lt cb
    have i1 := ih (by omega) a b ha hb
    have i2 := ih (by omega) a n ha (by omega)
    have i3 := ih (by omega) n b (by omega) hb
    have cn := hC n (by omega)
    have cb2 := hC b hb
    by_cases q : fln P n (4 * a + b) ≤ fln P n (4 * a + n) + fln P n (4 * n + b)
    · rw [Nat.min_eq_left q] at lt ⊢
      exact i1 lt cb
    · rw [Nat.min_eq_right (by omega)] at lt ⊢
      have j3 := i3 (by omega) cb
      have j2 := i2 (by omega) (by omega)
      omega
theorem p0_ab {W : zWo} {m a b : Nat} (hb : b < 4) : p0W W m (4 * a + b) = if a = b then 0 else if 0 < wWay W (4 * a + b) then cstW W m a 0 b else 134217728 := by
  unfold p0W
  rw [show (4 * a + b) / 4 = a by omega, show (4 * a + b) % 4 = b by omega]
theorem pth_0 {W : zWo} {m a : Nat} (ha : a < 4) : pth W m (4 * a + a) = 0 := fln_0 (fun a ha => by rw [p0_ab ha, if_pos rfl]) 4 a ha
theorem pth_t {W : zWo} {m a b c : Nat} (ha : a < 4) (hb : b < 4) (hc : c < 4) : pth W m (4 * a + b) ≤ pth W m (4 * a + c) + pth W m (4 * c + b) := fln_t (fun a ha => by rw [p0_ab ha, if_pos rfl]) 4 (Nat.le_refl 4) c hc a b ha hb
theorem p0_le {W : zWo} (hW : WOK W) {m a b : Nat} (ha : a < 4) (hb : b < 4) : p0W W m (4 * a + b) ≤ 134217728 := by
  have := cstW_le hW (m := m) (l := 0) (d := b) ha (fun _ => hb)
  rw [p0_ab hb]
  split
  · omega
  · split <;> omega
theorem pth_le {W : zWo} (hW : WOK W) {m a b : Nat} (ha : a < 4) (hb : b < 4) : pth W m (4 * a + b) ≤ 134217728 := Nat.le_trans (fln_le 4 _) (p0_le hW ha hb)
/-- a way is no cheaper than the cheapest -/
theorem pth_w {W : zWo} {m O B a b : Nat} (hb : b < 4) (h : canB W O B a 0 b = true) : pth W m (4 * a + b) ≤ cstW W m a 0 b := by
  have g : b < 4 ∧ 0 < wWay W (4 * a + b) := can_0.mp h
  refine Nat.le_trans (fln_le 4 _) ?_
  rw [p0_ab hb]
  split
  · exact Nat.zero_le _
  · rw [if_pos g.2]
    exact Nat.le_refl _
/-- what obeys the ways obeys the cheapest -/
theorem pth_c {W : zWo} {m : Nat} {C : Nat → Nat} (hC : ∀ a, a < 4 → C a = 1000000000 ∨ C a ≤ 100000000) (h : ∀ a b, a < 4 → b < 4 → 0 < wWay W (4 * a + b) → C b < 1000000000 → C a ≤ cstW W m a 0 b + C b) : ∀ a b, a < 4 → b < 4 → pth W m (4 * a + b) < 134217728 → C b < 1000000000 → C a ≤ pth W m (4 * a + b) + C b := by
  refine fln_c hC (fun a b ha hb lt cb => ?_) 4 (Nat.le_refl 4)
  rw [p0_ab hb] at lt ⊢
  by_cases q : a = b
  · subst q
    omega
  · rw [if_neg q] at lt ⊢
    by_cases r : 0 < wWay W (4 * a + b)
    · rw [if_pos r]
      exact h a b ha hb r cb
    · rw [if_neg r] at lt
      omega
theorem T_price {σ : zSt} {m : Nat} (hm : m < 2) (e : σ.1 47 5 = nI (1 - m)) {l t : Nat} (hl : l < 6) : F_X4_price (nI l) (nI t) σ = some (nI (1024 * t + (if m = 0 then 1 else if l = 2 ∨ l = 3 ∨ l = 4 then 1 else 0)), σ) := by
  have m4 : (1024 : Int32) * nI t = nI (1024 * t) := pk_mul 1024 t
  have op : ∀ l, l < 6 → (if nI l = 2 then (1 : Int32) else (if nI l = 3 then 1 else (if nI l = 4 then 1 else 0))) = nI (if l = 2 ∨ l = 3 ∨ l = 4 then 1 else 0) := by decide +kernel
  unfold F_X4_price F_X4_price_0
  rw [op l hl, nm_s, e, m4]
  by_cases q : m = 0
  · rw [q, if_neg (show ¬ nI (1 - 0) = 0 by decide), if_pos rfl, show (1 : Int32) = nI 1 from rfl, nI_add]
  · have m1 : m = 1 := by omega
    rw [m1, if_pos (show nI (1 - 1) = 0 from rfl), if_neg (show ¬ 1 = 0 by decide)]
    by_cases r : l = 2 ∨ l = 3 ∨ l = 4
    · rw [if_pos r, if_neg (show ¬ nI 1 = 0 by decide), show (1 : Int32) = nI 1 from rfl, nI_add]
    · rw [if_neg r, if_pos (show nI 0 = 0 from rfl), show (0 : Int32) = nI 0 from rfl, nI_add]
theorem T_jmin {a b : Nat} (h : a < 2147483648 ∧ b < 2147483648) : jmin (nI a) (nI b) = nI (min a b) := by
  unfold jmin
  by_cases q : b < a
  · rw [if_pos (by rw [nI_ltp (by omega)]; exact q), Nat.min_eq_right (by omega)]
  · rw [if_neg (by rw [nI_ltp (by omega)]; exact q), Nat.min_eq_left (by omega)]
/-- the row that holds them -/
def PR (σ : zSt) (P : Nat → Nat) : Prop := ∀ i, i < 16 → σ.1 49 i = nI (P i)
theorem T_paths {W : zWo} {m : Nat} {σ : zSt} (hW : WOK W) (hm : m < 2) (hS : SK W σ) (e5 : σ.1 47 5 = nI (1 - m)) : wp (F_X4_findPaths σ) (fun _ τ => fr [49] [] σ τ ∧ PR τ (pth W m)) := by
  have m4 : ∀ a : Nat, (4 : Int32) * nI a = nI (4 * a) := fun a => pk_mul 4 a
  unfold F_X4_findPaths F_X4_findPaths_0
  refine wp_for (fun a s => s.1 = nI a ∧ fr [49] [] σ s.2 ∧ ∀ i, i < 4 * a → s.2.1 49 i = nI (p0W W m i)) 4 (by decide) (fun a w s ha hI hw => ?_) (fun w s hI => ?_) ⟨rfl, fr.rf, fun i hi => absurd hi (Nat.not_lt_zero i)⟩
  · obtain ⟨x, τ⟩ := s
    obtain ⟨i1, i2, i3⟩ := hI
    simp only at i1 i2 i3
    subst i1
    show wp (F_X4_findPaths_2 w (nI a) τ) _
    unfold F_X4_findPaths_2
    rw [if_neg (by rw [show (4 : Int32) = nI 4 from rfl, nI_lep (by omega)]; omega)]
    refine wp_for (fun b s => s.1 = nI b ∧ fr [49] [] σ s.2 ∧ ∀ i, i < 4 * a + b → i ≠ 4 * a + a → s.2.1 49 i = nI (p0W W m i)) 4 (by decide) (fun b w2 s hb hI hw2 => ?_) (fun w2 s hI => ?_) ⟨rfl, i2, fun i hi _ => i3 i (by omega)⟩
    · obtain ⟨x, υ⟩ := s
      obtain ⟨j1, j2, j3⟩ := hI
      simp only at j1 j2 j3
      subst j1
      have hSυ := SK_fr hS j2 (by decide)
      have wb : wWay W (4 * a + b) ≤ 30 := hW.1 _ (by omega)
      have go : ∀ v : Nat, (a ≠ b → v = p0W W m (4 * a + b)) → wp (F_X4_findPaths_48 w w2 (nI a) (nI b) (nI v) (nI (4 * a + b)) υ) (fun _ τ => fr [49] [] σ τ ∧ PR τ (pth W m)) := by
        intro v hv
        unfold F_X4_findPaths_48
        rw [gd_n (by omega), nI_cl (by omega), nm_s, nm_s, nI_1]
        refine hw2 _ ⟨rfl, j2.w (Or.inl (by decide)), fun i hi hne => ?_⟩
        by_cases q : i = 4 * a + b
        · rw [q, zwr_at, hv (by omega)]
        · rw [zwr_ne (Or.inr q)]
          exact j3 i (by omega) hne
      show wp (F_X4_findPaths_9 w (nI a) w2 (nI b) υ) _
      unfold F_X4_findPaths_9
      rw [if_neg (by rw [show (4 : Int32) = nI 4 from rfl, nI_lep (by omega)]; omega), T_daysTo hSυ.2.2.2.2.2.2.2.2 ha hb, bd_s]
      by_cases q : wWay W (4 * a + b) = 0
      · rw [if_pos (by rw [q]; exact (show nI 0 ≤ 0 by decide)), m4, nI_add]
        refine go 134217728 (fun ne => ?_)
        rw [p0_ab hb, if_neg ne, if_neg (by omega)]
      · rw [if_neg (by rw [show (0 : Int32) = nI 0 from rfl, nI_lep (by omega)]; omega), show (0 : Int32) = nI 0 from rfl, T_price hm ((j2.rd (by decide) (by decide)).trans e5) (by decide), bd_s, m4, nI_add]
        refine go _ (fun ne => ?_)
        have wp0 : 0 < wWay W (4 * a + b) := by omega
        rw [p0_ab hb, if_neg ne, if_pos wp0]
        rfl
    · obtain ⟨x, υ⟩ := s
      obtain ⟨j1, j2, j3⟩ := hI
      simp only at j1 j2 j3
      subst j1
      show wp (F_X4_findPaths_9 w (nI a) w2 (nI 4) υ) _
      unfold F_X4_findPaths_9 F_X4_findPaths_55
      rw [if_pos (show (4 : Int32) ≤ nI 4 by decide), m4, nI_add, gd_n (by omega), nI_cl (by omega), nm_s, nm_s, nI_1]
      refine hw _ ⟨rfl, j2.w (Or.inl (by decide)), fun i hi => ?_⟩
      by_cases q : i = 4 * a + a
      · rw [q, zwr_at, p0_ab ha, if_pos rfl]
        rfl
      · rw [zwr_ne (Or.inr q)]
        exact j3 i (by omega) q
  · obtain ⟨x, τ⟩ := s
    obtain ⟨i1, i2, i3⟩ := hI
    simp only at i1 i2 i3
    subst i1
    show wp (F_X4_findPaths_2 w (nI 4) τ) _
    unfold F_X4_findPaths_2 F_X4_findPaths_72
    rw [if_pos (show (4 : Int32) ≤ nI 4 by decide)]
    refine wp_for (fun k s => s.1 = nI k ∧ fr [49] [] σ s.2 ∧ PR s.2 (fln (p0W W m) k)) 4 (by decide) (fun k w2 s hk hI hw2 => ?_) (fun w2 s hI => ?_) ⟨rfl, i2, fun i hi => i3 i hi⟩
    · obtain ⟨x, υ⟩ := s
      obtain ⟨j1, j2, j3⟩ := hI
      simp only at j1 j2 j3
      subst j1
      have kk : fln (p0W W m) k (4 * k + k) = 0 := fln_0 (fun a ha => by rw [p0_ab ha, if_pos rfl]) k k hk
      have bd : ∀ a b, a < 4 → b < 4 → fln (p0W W m) k (4 * a + b) ≤ 134217728 := fun a b ha hb => Nat.le_trans (fln_le k _) (p0_le hW ha hb)
      show wp (F_X4_findPaths_74 w2 (nI k) υ) _
      unfold F_X4_findPaths_74
      rw [if_neg (by rw [show (4 : Int32) = nI 4 from rfl, nI_lep (by omega)]; omega)]
      refine wp_for (fun i s => s.1 = nI i ∧ fr [49] [] σ s.2 ∧ (∀ x, x < 16 → s.2.1 49 x = nI (if x < i then fln (p0W W m) (k + 1) x else fln (p0W W m) k x))) 16 (by decide) (fun i w3 s hi hI hw3 => ?_) (fun w3 s hI => ?_) ⟨rfl, j2, fun x hx => by rw [if_neg (Nat.not_lt_zero x)]; exact j3 x hx⟩
      · obtain ⟨x, ω⟩ := s
        obtain ⟨l1, l2, l3⟩ := hI
        simp only at l1 l2 l3
        subst l1
        obtain ⟨a, b, ha, hb, rfl⟩ : ∃ a b, a < 4 ∧ b < 4 ∧ i = 4 * a + b := ⟨i / 4, i % 4, by omega, by omega, by omega⟩
        obtain ⟨k1, k2⟩ := flP_k (a := a) hk kk
        have r1 : ω.1 49 (4 * a + k) = nI (fln (p0W W m) k (4 * a + k)) := by
          rw [l3 _ (by omega), show fln (p0W W m) (k + 1) (4 * a + k) = fln (p0W W m) k (4 * a + k) from k1]
          split <;> rfl
        have r2 : ω.1 49 (4 * k + b) = nI (fln (p0W W m) k (4 * k + b)) := by
          rw [l3 _ (by omega), show fln (p0W W m) (k + 1) (4 * k + b) = fln (p0W W m) k (4 * k + b) from k2 b hb]
          split <;> rfl
        have r3 : ω.1 49 (4 * a + b) = nI (fln (p0W W m) k (4 * a + b)) := by
          rw [l3 _ (by omega), if_neg (by omega)]
        have b1 := bd a k ha hk
        have b2 := bd k b hk hb
        have b3 := bd a b ha hb
        show wp (F_X4_findPaths_81 w2 (nI k) w3 (nI (4 * a + b)) ω) _
        unfold F_X4_findPaths_81
        rw [if_neg (by rw [show (16 : Int32) = nI 16 from rfl, nI_lep (by omega)]; omega), nm_s, nm_s]
        rw [show (4 : Int32) = nI 4 from rfl, pk_div (by omega) (by decide) (by decide), nI_mod (by omega), show (4 * a + b) / 4 = a by omega, show (4 * a + b) % 4 = b by omega, pk_mul, pk_mul, nI_add, nI_add, gd_n (by omega), gd_n (by omega), nI_cl (by omega), nI_cl (by omega), r1, r2, nI_add, nm_s, gd_n (by omega), gd_n (by omega), nI_cl (by omega), r3, T_jmin (by omega), nm_s, nm_s, nI_1]
        refine hw3 _ ⟨rfl, l2.w (Or.inl (by decide)), fun x hx => ?_⟩
        by_cases q : x = 4 * a + b
        · rw [q, zwr_at, if_pos (by omega)]
          exact congrArg nI (flP_ab hb).symm
        · rw [zwr_ne (Or.inr q), l3 x hx]
          by_cases r : x < 4 * a + b
          · rw [if_pos r, if_pos (by omega)]
          · rw [if_neg r, if_neg (by omega)]
      · obtain ⟨x, ω⟩ := s
        obtain ⟨l1, l2, l3⟩ := hI
        simp only at l1 l2 l3
        subst l1
        show wp (F_X4_findPaths_81 w2 (nI k) w3 (nI 16) ω) _
        unfold F_X4_findPaths_81 F_X4_findPaths_143
        rw [if_pos (show (16 : Int32) ≤ nI 16 by decide), nm_s, nI_1]
        refine hw2 _ ⟨rfl, l2, fun x hx => ?_⟩
        rw [l3 x hx, if_pos hx]
    · obtain ⟨x, υ⟩ := s
      obtain ⟨j1, j2, j3⟩ := hI
      simp only at j1 j2 j3
      subst j1
      show wp (F_X4_findPaths_74 w2 (nI 4) υ) _
      unfold F_X4_findPaths_74
      rw [if_pos (show (4 : Int32) ≤ nI 4 by decide)]
      exact wp_some ⟨j2, j3⟩

