/-! PURE: the least days are the same, however acts or openings are counted -/
theorem sumN_lt {f g : Nat → Nat} : ∀ n, (∀ k, k < n → f k ≤ g k) → (∃ k, k < n ∧ f k + 1 ≤ g k) → sumN f n + 1 ≤ sumN g n := by
  intro n
  induction n with
  | zero => intro _ ⟨k, hk, _⟩; exact absurd hk (Nat.not_lt_zero k)
  | succ n ih =>
    intro h ⟨k, hk, e⟩
    show sumN f n + f n + 1 ≤ sumN g n + g n
    have hn := h n (Nat.lt_succ_self n)
    by_cases q : k = n
    · subst q
      have := sumN_le (f := f) (g := g) k (fun x hx => h x (by omega))
      omega
    · have := ih (fun x hx => h x (by omega)) ⟨k, by omega, e⟩
      omega
/-- how many of the layer's islands are cheaper -/
def ctL (T : Nat → Nat) (O B v : Nat) : Nat := sumN (fun j => if T (cod O B j) < v then 1 else 0) 4
theorem ctL_3 {T : Nat → Nat} {O B i : Nat} (hi : i < 4) : ctL T O B (T (cod O B i)) ≤ 3 := by
  have h := sumN_lt (f := fun j => if T (cod O B j) < T (cod O B i) then 1 else 0) (g := fun _ => 1) 4 (fun k _ => by show (if T (cod O B k) < T (cod O B i) then 1 else 0) ≤ 1; split <;> omega) ⟨i, hi, by show (if T (cod O B i) < T (cod O B i) then 1 else 0) + 1 ≤ 1; rw [if_neg (Nat.lt_irrefl _)]; exact Nat.le_refl _⟩
  rw [sumN_const] at h
  unfold ctL
  omega
theorem ctL_lt {T : Nat → Nat} {O B j v : Nat} (hj : j < 4) (h : T (cod O B j) < v) : ctL T O B (T (cod O B j)) + 1 ≤ ctL T O B v := by
  refine sumN_lt 4 (fun k _ => ?_) ⟨j, hj, ?_⟩
  · show (if T (cod O B k) < T (cod O B j) then 1 else 0) ≤ if T (cod O B k) < v then 1 else 0
    by_cases q : T (cod O B k) < T (cod O B j)
    · rw [if_pos q, if_pos (by omega)]
      exact Nat.le_refl _
    · rw [if_neg q]
      exact Nat.zero_le _
  · show (if T (cod O B j) < T (cod O B j) then 1 else 0) + 1 ≤ if T (cod O B j) < v then 1 else 0
    rw [if_neg (Nat.lt_irrefl _), if_pos h]
    exact Nat.le_refl _
theorem cst_01 {W : zWo} {i l d : Nat} : cstW W 1 i l d ≤ cstW W 0 i l d ∧ cstW W 0 i l d = 1024 * dyW W i l d + 1 ∧ ∃ c, c ≤ 1 ∧ cstW W 1 i l d = 1024 * dyW W i l d + c := by
  have e0 : cstW W 0 i l d = 1024 * dyW W i l d + 1 := rfl
  have e1' : cstW W 1 i l d = 1024 * dyW W i l d + (if l = 2 ∨ l = 3 ∨ l = 4 then 1 else 0) := rfl
  rw [e0, e1']
  by_cases q : l = 2 ∨ l = 3 ∨ l = 4
  · rw [if_pos q]
    exact ⟨Nat.le_refl _, rfl, 1, Nat.le_refl _, rfl⟩
  · rw [if_neg q]
    exact ⟨by omega, rfl, 0, by omega, rfl⟩
theorem days_up {W : zWo} {T S : Nat → Nat} (hT : OKT W 1 T 0) (hS : OKT W 0 S 0) : ∀ n O B i, 16 * T (cod O B i) + (11 - rk O B) < n → O < 256 → B < 27 → i < 4 → T (cod O B i) < 1000000000 → ∃ E K, T (cod O B i) = 1024 * E + K ∧ K ≤ 4 * (12 - rk O B) + ctL T O B (T (cod O B i)) ∧ S (cod O B i) ≤ 1024 * E + (4 * (12 - rk O B) + ctL T O B (T (cod O B i))) := by
  intro n
  induction n with
  | zero => intro O B i hn; omega
  | succ n ih =>
    intro O B i hn hO hB1 hi hf
    have ok := hT O B i hO hB1 hi (Nat.zero_le _)
    have os := hS O B i hO hB1 hi (Nat.zero_le _)
    cases st : subB O (wTol W) with
    | false =>
      have := ok.1 st
      omega
    | true =>
      cases hg : subB (golW W) O with
      | true =>
        have a := ok.2.1 st hg
        have b := os.2.1 st hg
        exact ⟨0, 0, by omega, Nat.zero_le _, by omega⟩
      | false =>
        rcases (ok.2.2.1 st hg).2 with z | ⟨l, d, hl, hd, hc, tn, te⟩
        · omega
        have hd8 : d < 8 := by have := (dgs_le l hl).2; omega
        obtain ⟨-, c0, c, c1, ce⟩ := cst_01 (W := W) (i := i) (l := l) (d := d)
        have sn := (os.2.2.1 st hg).1 l d hl hd hc
        obtain ⟨a1, a2, a3, -⟩ := ac_ok hO hB1 hi hl hd8 hc
        have en : nxt O B i l d = cod (acO O l d) (acB B l d) (acI i l d) := rfl
        have limS := T_lim hS a1 a2 a3
        rw [en] at tn te sn
        by_cases l0 : l = 0
        · subst l0
          have hd4 : d < 4 := hd
          have wpos : 0 < dyW W i 0 d := (can_0.mp hc).2
          have lt : T (cod O B d) < T (cod O B i) := by
            replace te : T (cod O B i) = T (cod O B d) + cstW W 1 i 0 d := te
            omega
          obtain ⟨E, K, e1', e2', e3'⟩ := ih O B d (by omega) hO hB1 hd4 tn
          have cl := ctL_lt (v := T (cod O B i)) hd4 lt
          replace te : T (cod O B i) = T (cod O B d) + cstW W 1 i 0 d := te
          have c3 := ctL_3 (T := T) (O := O) (B := B) hd4
          replace sn : S (cod O B d) < 1000000000 → S (cod O B i) ≤ S (cod O B d) + cstW W 0 i 0 d := sn
          replace limS : S (cod O B d) = 1000000000 ∨ S (cod O B d) ≤ 100000000 := limS
          have tl := T_lim hT hO hB1 hd4
          have s2 := sn (by omega)
          exact ⟨E + dyW W i 0 d, K + c, by omega, by omega, by omega⟩
        · have up := rk_up hO hB1 hi hl (by omega) hd hc
          have rl := rk_le a1 a2
          obtain ⟨E, K, e1', e2', e3'⟩ := ih (acO O l d) (acB B l d) (acI i l d) (by omega) a1 a2 a3 tn
          have c3 := ctL_3 (T := T) (O := acO O l d) (B := acB B l d) a3
          have tl := T_lim hT a1 a2 a3
          have s2 := sn (by omega)
          exact ⟨E + dyW W i l d, K + c, by omega, by omega, by omega⟩
theorem days_le {W : zWo} {T S : Nat → Nat} (hT : OKT W 1 T 0) (hS : OKT W 0 S 0) : ∀ n O B i, S (cod O B i) < n → O < 256 → B < 27 → i < 4 → S (cod O B i) < 1000000000 → T (cod O B i) ≤ S (cod O B i) := by
  intro n
  induction n with
  | zero => intro O B i hn; omega
  | succ n ih =>
    intro O B i hn hO hB1 hi hf
    have ok := hT O B i hO hB1 hi (Nat.zero_le _)
    have os := hS O B i hO hB1 hi (Nat.zero_le _)
    cases st : subB O (wTol W) with
    | false =>
      have := os.1 st
      omega
    | true =>
      cases hg : subB (golW W) O with
      | true =>
        have a := ok.2.1 st hg
        omega
      | false =>
        rcases (os.2.2.1 st hg).2 with z | ⟨l, d, hl, hd, hc, tn, te⟩
        · omega
        have hd8 : d < 8 := by have := (dgs_le l hl).2; omega
        obtain ⟨cc, c0, -⟩ := cst_01 (W := W) (i := i) (l := l) (d := d)
        obtain ⟨a1, a2, a3, -⟩ := ac_ok hO hB1 hi hl hd8 hc
        have en : nxt O B i l d = cod (acO O l d) (acB B l d) (acI i l d) := rfl
        have tt := (ok.2.2.1 st hg).1 l d hl hd hc
        rw [en] at tn te tt
        have r := ih (acO O l d) (acB B l d) (acI i l d) (by omega) a1 a2 a3 tn
        have := tt (by omega)
        omega
/-- the least days -/
theorem days_eq {W : zWo} {T S : Nat → Nat} (hT : OKT W 1 T 0) (hS : OKT W 0 S 0) : (T 0 = 1000000000 ↔ S 0 = 1000000000) ∧ (T 0 < 1000000000 → T 0 / 1024 = S 0 / 1024) := by
  have c0 : cod 0 0 0 = 0 := rfl
  have limT := T_lim hT (O := 0) (B := 0) (i := 0) (by decide) (by decide) (by decide)
  have limS := T_lim hS (O := 0) (B := 0) (i := 0) (by decide) (by decide) (by decide)
  have a := days_up hT hS (16 * T (cod 0 0 0) + (11 - rk 0 0) + 1) 0 0 0 (by omega) (by decide) (by decide) (by decide)
  have b := days_le hT hS (S (cod 0 0 0) + 1) 0 0 0 (by omega) (by decide) (by decide) (by decide)
  have c3 := ctL_3 (T := T) (O := 0) (B := 0) (i := 0) (by decide)
  rw [c0] at limT limS a b c3
  refine ⟨⟨fun z => ?_, fun z => ?_⟩, fun z => ?_⟩
  · rcases limS with y | y
    · exact y
    · have := b (by omega)
      omega
  · rcases limT with y | y
    · exact y
    · obtain ⟨E, K, e1', e2', e3'⟩ := a (by omega)
      omega
  · obtain ⟨E, K, e1', e2', e3'⟩ := a z
    rcases limS with y | y
    · omega
    · have := b (by omega)
      omega

