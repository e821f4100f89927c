/-! PURE: feed, check; the bits as given for pasting -/
def bt (x : Int32) (i : Nat) : Bool := x.toBitVec.getLsbD i
theorem b_ext {x y : Int32} (h : ∀ i, i < 32 → bt x i = bt y i) : x = y := Int32.toBitVec_inj.mp (BitVec.eq_of_getLsbD_eq (fun i hi => h i hi))
theorem b_or (x y : Int32) (i : Nat) : bt (x ||| y) i = (bt x i || bt y i) := by unfold bt; rw [Int32.toBitVec_or, BitVec.getLsbD_or]
theorem b_and (x y : Int32) (i : Nat) : bt (x &&& y) i = (bt x i && bt y i) := by unfold bt; rw [Int32.toBitVec_and, BitVec.getLsbD_and]
theorem b_xor (x y : Int32) (i : Nat) : bt (x ^^^ y) i = (bt x i ^^ bt y i) := by unfold bt; rw [Int32.toBitVec_xor, BitVec.getLsbD_xor]
theorem b_big {x : Int32} {i : Nat} (h : 32 ≤ i) : bt x i = false := BitVec.getLsbD_of_ge _ _ h
theorem b_255 (i : Nat) : bt 255 i = decide (i < 8) := by
  rcases Nat.lt_or_ge i 32 with h | h
  · exact (by decide +kernel : ∀ i, i < 32 → bt 255 i = decide (i < 8)) i h
  · rw [b_big h, decide_eq_false (by omega)]
theorem b_65535 (i : Nat) : bt 65535 i = decide (i < 16) := by
  rcases Nat.lt_or_ge i 32 with h | h
  · exact (by decide +kernel : ∀ i, i < 32 → bt 65535 i = decide (i < 16)) i h
  · rw [b_big h, decide_eq_false (by omega)]
theorem b_m1 : ∀ i, i < 32 → bt (-1) i = true := by decide +kernel
theorem b_0 (i : Nat) : bt 0 i = false := BitVec.getLsbD_zero
theorem s_l : ∀ n, n < 32 → ((nI n &&& 31).toBitVec.smod 32).toNat = n := by decide +kernel
theorem s_u : ∀ n, n < 32 → (((nI n).toUInt32 &&& Int32.toUInt32 31).toBitVec % 32).toNat = n := by decide +kernel
theorem b_shl (n : Nat) (hn : n < 32) (x : Int32) {i : Nat} (hi : i < 32) : bt (x <<< (nI n &&& 31)) i = (decide (n ≤ i) && bt x (i - n)) := by
  unfold bt
  rw [Int32.toBitVec_shiftLeft]
  show (x.toBitVec <<< ((nI n &&& 31).toBitVec.smod 32).toNat).getLsbD i = _
  rw [s_l n hn, BitVec.getLsbD_shiftLeft]
  rcases Nat.lt_or_ge i n with h | h
  · simp [h, Nat.not_le.mpr h]
  · simp [hi, h, Nat.not_lt.mpr h]
theorem b_ushr (n : Nat) (hn : n < 32) (x : Int32) (i : Nat) : bt ((x.toUInt32 >>> ((nI n).toUInt32 &&& Int32.toUInt32 31)).toInt32) i = bt x (n + i) := by
  show (x.toUInt32 >>> ((nI n).toUInt32 &&& Int32.toUInt32 31)).toBitVec.getLsbD i = x.toUInt32.toBitVec.getLsbD (n + i)
  rw [UInt32.toBitVec_shiftRight]
  show (x.toUInt32.toBitVec >>> (((nI n).toUInt32 &&& Int32.toUInt32 31).toBitVec % 32).toNat).getLsbD i = _
  rw [s_u n hn, BitVec.getLsbD_ushiftRight]
theorem b_sshr (n : Nat) (hn : n < 32) (x : Int32) {i : Nat} (hi : i < 32) : bt (x >>> (nI n &&& 31)) i = if n + i < 32 then bt x (n + i) else bt x 31 := by
  unfold bt
  rw [Int32.toBitVec_shiftRight]
  show (x.toBitVec.sshiftRight ((nI n &&& 31).toBitVec.smod 32).toNat).getLsbD i = _
  rw [s_l n hn, BitVec.getLsbD_sshiftRight, BitVec.msb_eq_getLsbD_last]
  simp [hi]
theorem b_shl8 (x : Int32) {i : Nat} (hi : i < 32) : bt (x <<< ((8 : Int32) &&& 31)) i = (decide (8 ≤ i) && bt x (i - 8)) := b_shl 8 (by omega) x hi
theorem b_shl16 (x : Int32) {i : Nat} (hi : i < 32) : bt (x <<< ((16 : Int32) &&& 31)) i = (decide (16 ≤ i) && bt x (i - 16)) := b_shl 16 (by omega) x hi
theorem b_shl24 (x : Int32) {i : Nat} (hi : i < 32) : bt (x <<< ((24 : Int32) &&& 31)) i = (decide (24 ≤ i) && bt x (i - 24)) := b_shl 24 (by omega) x hi
theorem b_sshr8 (x : Int32) {i : Nat} (hi : i < 32) : bt (x >>> ((8 : Int32) &&& 31)) i = if 8 + i < 32 then bt x (8 + i) else bt x 31 := b_sshr 8 (by omega) x hi
/-- a byte of a word, the highest first -/
def byt (x : Int32) (i : Nat) : Int32 := (x >>> (nI (24 - 8 * i) &&& 31)) &&& 255
theorem byt_ex (x : Int32) (i : Nat) : ∃ b : Nat, b < 256 ∧ byt x i = nI b := pk_andE _ 8 rfl
theorem byt_sb {y : Int32} {b : Nat} (h : y &&& 255 = nI b) : y.toInt8.toInt32 = sb b := by
  unfold sb
  rw [← h]
  refine congrArg Int8.toInt32 ?_
  apply Int8.toBitVec_inj.mp
  apply BitVec.eq_of_getLsbD_eq
  intro i hi
  show (y.toInt8).toBitVec.getLsbD i = ((y &&& 255).toInt8).toBitVec.getLsbD i
  rw [Int32.toBitVec_toInt8, Int32.toBitVec_toInt8, BitVec.getLsbD_signExtend, BitVec.getLsbD_signExtend]
  have e : (y &&& 255).toBitVec.getLsbD i = y.toBitVec.getLsbD i := by
    have := b_and y 255 i
    unfold bt at this
    rw [this]
    have h2 := b_255 i
    unfold bt at h2
    rw [h2, decide_eq_true hi, Bool.and_true]
  have h32 : i < 32 := by omega
  simp only [hi, h32, decide_true, Bool.true_and, ↓reduceIte, e]
/-- five words' bytes -/
def w5 (x1 x2 x3 x4 x5 : Int32) (j : Nat) : Int32 := byt (if j < 4 then x1 else if j < 8 then x2 else if j < 12 then x3 else if j < 16 then x4 else x5) (j % 4)
theorem T_appendC {σ : zSt} {m : Nat} (x : Int32) (hm : m + 4 ≤ 260) (e : σ.1 33 1 = nI m) : wp (F_X8_append x σ) (fun _ τ => fr [34] [(33, 1)] σ τ ∧ τ.1 33 1 = nI (m + 4) ∧ (∀ j, j < m → τ.1 34 j = σ.1 34 j) ∧ ∀ j, j < 4 → τ.1 34 (m + j) = byt x j) := by
  unfold F_X8_append F_X8_append_0 F_X8_hasRoom F_X8_hasRoom_0
  have e0 : (σ.1 33 1) + (4 : Int32) = nI (m + 4) := by rw [e]; exact nI_add m 4
  rw [e0, if_neg (by rw [show (260 : Int32) = nI 260 from rfl, nI_ltp (by omega)]; omega), bd_s, if_neg (by decide)]
  refine wp_for (fun k s => s.1 = (if k < 4 then nI (24 - 8 * k) else -8) ∧ fr [34] [(33, 1)] σ s.2 ∧ s.2.1 33 1 = nI (m + k) ∧ (∀ j, j < m → s.2.1 34 j = σ.1 34 j) ∧ ∀ j, j < k → s.2.1 34 (m + j) = byt x j) 4 (by decide) (fun k w s hk hI hw => ?_) (fun w s hI => ?_) ⟨rfl, fr.rf, e, fun j _ => rfl, fun j hj => absurd hj (Nat.not_lt_zero j)⟩
  · obtain ⟨x2, τ⟩ := s
    obtain ⟨i1, i2, i3, i4, i5⟩ := hI
    simp only at i1 i2 i3 i4 i5
    rw [if_pos hk] at i1
    subst i1
    show wp (F_X8_append_12 x w (nI (24 - 8 * k)) τ) _
    unfold F_X8_append_12
    rw [if_neg (nI_pos (by omega)), i3, gd_n (by omega), nI_cl (by omega)]
    simp only [nm_s, zwr_r, Nat.reduceEqDiff, ↓reduceIte, i3, nI_1]
    refine hw _ ⟨?_, (i2.w (Or.inl (by decide))).w (Or.inr (by decide)), ?_, fun j hj => ?_, fun j hj => ?_⟩
    · show nI (24 - 8 * k) + (-8) = _
      have e4 : k = 0 ∨ k = 1 ∨ k = 2 ∨ k = 3 := by omega
      rcases e4 with rfl | rfl | rfl | rfl <;> rfl
    · show nI (m + k + 1) = nI (m + (k + 1))
      rfl
    · show upd (τ.1 34) (m + k) _ j = _
      rw [pk_un (by omega)]
      exact i4 j hj
    · show upd (τ.1 34) (m + k) _ (m + j) = _
      by_cases q : j = k
      · subst q
        rw [pk_us]
        rfl
      · rw [pk_un (by omega)]
        exact i5 j (by omega)
  · obtain ⟨x2, τ⟩ := s
    obtain ⟨i1, i2, i3, i4, i5⟩ := hI
    simp only at i1 i2 i3 i4 i5
    rw [if_neg (by decide)] at i1
    subst i1
    show wp (F_X8_append_12 x w (-8) τ) _
    unfold F_X8_append_12
    rw [if_pos (by decide)]
    exact wp_some ⟨i2, i3, i4, i5⟩
theorem T_typesM {σ : zSt} {m : Nat} (x : Int32) (hm : m + 4 ≤ 260) (e : σ.1 69 14 = nI m) : wp (F_X12_types x σ) (fun _ τ => fr [76] [(69, 14)] σ τ ∧ τ.1 69 14 = nI (m + 4) ∧ (∀ j, j < m → τ.1 76 j = σ.1 76 j) ∧ ∀ j, j < 4 → τ.1 76 (m + j) = (x >>> (nI (24 - 8 * j) &&& 31)).toInt8.toInt32) := by
  unfold F_X12_types F_X12_types_0
  refine wp_for (fun k s => s.1 = (if k < 4 then nI (3 - k) else -1) ∧ fr [76] [(69, 14)] σ s.2 ∧ s.2.1 69 14 = nI (m + k) ∧ (∀ j, j < m → s.2.1 76 j = σ.1 76 j) ∧ ∀ j, j < k → s.2.1 76 (m + j) = (x >>> (nI (24 - 8 * j) &&& 31)).toInt8.toInt32) 4 (by decide) (fun k w s hk hI hw => ?_) (fun w s hI => ?_) ⟨rfl, fr.rf, e, fun j _ => rfl, fun j hj => absurd hj (Nat.not_lt_zero j)⟩
  · obtain ⟨x2, τ⟩ := s
    obtain ⟨i1, i2, i3, i4, i5⟩ := hI
    simp only at i1 i2 i3 i4 i5
    rw [if_pos hk] at i1
    subst i1
    show wp (F_X12_types_2 x w (nI (3 - k)) τ) _
    unfold F_X12_types_2
    have e8 : (8 : Int32) * nI (3 - k) = nI (24 - 8 * k) := by
      have e4 : k = 0 ∨ k = 1 ∨ k = 2 ∨ k = 3 := by omega
      rcases e4 with rfl | rfl | rfl | rfl <;> rfl
    rw [if_neg (nI_pos (by omega)), i3, gd_n (by omega), nI_cl (by omega), e8, pk_vb]
    simp only [nm_s, zwr_r, Nat.reduceEqDiff, ↓reduceIte, i3, nI_1]
    refine hw _ ⟨?_, (i2.w (Or.inl (by decide))).w (Or.inr (by decide)), ?_, fun j hj => ?_, fun j hj => ?_⟩
    · show nI (3 - k) + (-1) = _
      have e4 : k = 0 ∨ k = 1 ∨ k = 2 ∨ k = 3 := by omega
      rcases e4 with rfl | rfl | rfl | rfl <;> rfl
    · show nI (m + k + 1) = nI (m + (k + 1))
      rfl
    · show upd (τ.1 76) (m + k) _ j = _
      rw [pk_un (by omega)]
      exact i4 j hj
    · show upd (τ.1 76) (m + k) _ (m + j) = _
      by_cases q : j = k
      · subst q
        rw [pk_us]
      · rw [pk_un (by omega)]
        exact i5 j (by omega)
  · obtain ⟨x2, τ⟩ := s
    obtain ⟨i1, i2, i3, i4, i5⟩ := hI
    simp only at i1 i2 i3 i4 i5
    rw [if_neg (by decide)] at i1
    subst i1
    show wp (F_X12_types_2 x w (-1) τ) _
    unfold F_X12_types_2
    rw [if_pos (by decide)]
    exact wp_some ⟨i2, i3, i4, i5⟩
theorem RT_mk {σ : zSt} {m : Nat} (hm : m ≤ 260) (e1 : σ.1 33 1 = nI m) (e2 : σ.1 69 14 = nI m) (h : ∀ j, j < m → ∃ b, b < 256 ∧ σ.1 34 j = nI b ∧ σ.1 76 j = sb b) : RT σ := by
  refine ⟨m, fun j => @dite _ (j < m) (Classical.propDecidable _) (fun q => Classical.choose (h j q)) (fun _ => 0), hm, e1, e2, fun j hj => ?_⟩
  simp only [dif_pos hj]
  exact Classical.choose_spec (h j hj)
theorem s_feed {n : Nat} {σ : zSt} (hn : n < 512) (hR : Rel n σ) (x1 x2 x3 x4 x5 : Int32) : Both n (F_X11_feed x1 x2 x3 x4 x5) (F_X12_feed x1 x2 x3 x4 x5) σ := by
  obtain ⟨m, tp, t0, t1, t2, t3⟩ := hR.2.2.2.1
  by_cases hm : 260 < m + 20
  · refine Both.no (-1) hn hR ?_ ?_
    · unfold F_X11_feed F_X11_feed_0 F_X8_hasRoom F_X8_hasRoom_0
      rw [t1, show nI m + (20 : Int32) = nI (m + 20) from nI_add m 20, if_pos (by rw [show (260 : Int32) = nI 260 from rfl, nI_ltp (by omega)]; omega), bd_s, if_pos rfl]
    · unfold F_X12_feed F_X12_feed_0
      rw [t2, show nI m + (20 : Int32) = nI (m + 20) from nI_add m 20, if_neg (by rw [show (260 : Int32) = nI 260 from rfl, nI_lep (by omega)]; omega)]
  have E1 : wp (F_X11_feed x1 x2 x3 x4 x5 σ) (fun a τ => a = nI (m + 20) ∧ fr [34] [(33, 1)] σ τ ∧ τ.1 33 1 = nI (m + 20) ∧ (∀ j, j < m → τ.1 34 j = σ.1 34 j) ∧ ∀ j, j < 4 → τ.1 34 (m + j) = byt x1 j ∧ τ.1 34 (m + 4 + j) = byt x2 j ∧ τ.1 34 (m + 8 + j) = byt x3 j ∧ τ.1 34 (m + 12 + j) = byt x4 j ∧ τ.1 34 (m + 16 + j) = byt x5 j) := by
    unfold F_X11_feed F_X11_feed_0 F_X8_hasRoom F_X8_hasRoom_0
    rw [t1, show nI m + (20 : Int32) = nI (m + 20) from nI_add m 20, if_neg (by rw [show (260 : Int32) = nI 260 from rfl, nI_ltp (by omega)]; omega), bd_s, if_neg (by decide)]
    refine wp_bd2 (T_appendC (m := m) x1 (by omega) t1) (fun _ τ1 h1 => ?_)
    obtain ⟨a1, a2, a3, a4⟩ := h1
    refine wp_bd2 (T_appendC (m := m + 4) x2 (by omega) a2) (fun _ τ2 h2 => ?_)
    obtain ⟨b1, b2, b3, b4⟩ := h2
    refine wp_bd2 (T_appendC (m := m + 8) x3 (by omega) b2) (fun _ τ3 h3 => ?_)
    obtain ⟨c1, c2, c3, c4⟩ := h3
    refine wp_bd2 (T_appendC (m := m + 12) x4 (by omega) c2) (fun _ τ4 h4 => ?_)
    obtain ⟨d1, d2, d3, d4⟩ := h4
    refine wp_bd2 (T_appendC (m := m + 16) x5 (by omega) d2) (fun _ τ5 h5 => ?_)
    obtain ⟨f1, f2, f3, f4⟩ := h5
    refine wp_some ⟨f2, (((a1.tr b1).tr c1).tr d1).tr f1, f2, fun j hj => ?_, fun j hj => ⟨?_, ?_, ?_, ?_, f4 j hj⟩⟩
    · rw [f3 j (by omega), d3 j (by omega), c3 j (by omega), b3 j (by omega), a3 j hj]
    · rw [f3 _ (by omega), d3 _ (by omega), c3 _ (by omega), b3 _ (by omega), a4 j hj]
    · rw [f3 _ (by omega), d3 _ (by omega), c3 _ (by omega), b4 j hj]
    · rw [f3 _ (by omega), d3 _ (by omega), c4 j hj]
    · rw [f3 _ (by omega), d4 j hj]
  obtain ⟨a, τ, e1, rfl, f1, k1, k2, k3⟩ := E1
  have E2 : wp (F_X12_feed x1 x2 x3 x4 x5 τ) (fun a υ => a = nI (m + 20) ∧ fr [76] [(69, 14)] τ υ ∧ υ.1 69 14 = nI (m + 20) ∧ (∀ j, j < m → υ.1 76 j = τ.1 76 j) ∧ ∀ j, j < 4 → υ.1 76 (m + j) = (x1 >>> (nI (24 - 8 * j) &&& 31)).toInt8.toInt32 ∧ υ.1 76 (m + 4 + j) = (x2 >>> (nI (24 - 8 * j) &&& 31)).toInt8.toInt32 ∧ υ.1 76 (m + 8 + j) = (x3 >>> (nI (24 - 8 * j) &&& 31)).toInt8.toInt32 ∧ υ.1 76 (m + 12 + j) = (x4 >>> (nI (24 - 8 * j) &&& 31)).toInt8.toInt32 ∧ υ.1 76 (m + 16 + j) = (x5 >>> (nI (24 - 8 * j) &&& 31)).toInt8.toInt32) := by
    have u2 : τ.1 69 14 = nI m := (f1.rd (by decide) (by decide)).trans t2
    unfold F_X12_feed F_X12_feed_0
    rw [u2, show nI m + (20 : Int32) = nI (m + 20) from nI_add m 20, if_pos (by rw [show (260 : Int32) = nI 260 from rfl, nI_lep (by omega)]; omega)]
    refine wp_bd2 (T_typesM (m := m) x1 (by omega) u2) (fun _ τ1 h1 => ?_)
    obtain ⟨a1, a2, a3, a4⟩ := h1
    refine wp_bd2 (T_typesM (m := m + 4) x2 (by omega) a2) (fun _ τ2 h2 => ?_)
    obtain ⟨b1, b2, b3, b4⟩ := h2
    refine wp_bd2 (T_typesM (m := m + 8) x3 (by omega) b2) (fun _ τ3 h3 => ?_)
    obtain ⟨c1, c2, c3, c4⟩ := h3
    refine wp_bd2 (T_typesM (m := m + 12) x4 (by omega) c2) (fun _ τ4 h4 => ?_)
    obtain ⟨d1, d2, d3, d4⟩ := h4
    refine wp_bd2 (T_typesM (m := m + 16) x5 (by omega) d2) (fun _ τ5 h5 => ?_)
    obtain ⟨g1, g2, g3, g4⟩ := h5
    refine wp_some ⟨g2, (((a1.tr b1).tr c1).tr d1).tr g1, g2, fun j hj => ?_, fun j hj => ⟨?_, ?_, ?_, ?_, g4 j hj⟩⟩
    · rw [g3 j (by omega), d3 j (by omega), c3 j (by omega), b3 j (by omega), a3 j hj]
    · rw [g3 _ (by omega), d3 _ (by omega), c3 _ (by omega), b3 _ (by omega), a4 j hj]
    · rw [g3 _ (by omega), d3 _ (by omega), c3 _ (by omega), b4 j hj]
    · rw [g3 _ (by omega), d3 _ (by omega), c4 j hj]
    · rw [g3 _ (by omega), d4 j hj]
  obtain ⟨a, υ, e2, rfl, f2, l1, l2, l3⟩ := E2
  refine Both.mk e1 e2 (Rel_T hn hR ((f1.eqOn (by decide)).tr (f2.eqOn (by decide))) (RT_mk (m := m + 20) (by omega) ((f2.rd (by decide) (by decide)).trans k1) l1 (fun j hj => ?_)))
  have u34 : υ.1 34 = τ.1 34 := f2.row (by decide)
  rw [u34]
  by_cases q : j < m
  · obtain ⟨b1, b2, b3⟩ := t3 j q
    refine ⟨tp j, b1, (k2 j q).trans b2, (l2 j q).trans ?_⟩
    rw [f1.row (c := 76) (by decide)]
    exact b3
  · have fin : ∀ (x : Int32) (i : Nat), τ.1 34 j = byt x i → υ.1 76 j = (x >>> (nI (24 - 8 * i) &&& 31)).toInt8.toInt32 → ∃ b, b < 256 ∧ τ.1 34 j = nI b ∧ υ.1 76 j = sb b := by
      intro x i h1 h2
      obtain ⟨b, hb, hb2⟩ := byt_ex x i
      exact ⟨b, hb, h1.trans hb2, h2.trans (byt_sb hb2)⟩
    by_cases q4 : j < m + 4
    · obtain ⟨i, hi, rfl⟩ : ∃ i, i < 4 ∧ j = m + i := ⟨j - m, by omega, by omega⟩
      exact fin x1 i (k3 i hi).1 (l3 i hi).1
    · by_cases q8 : j < m + 8
      · obtain ⟨i, hi, rfl⟩ : ∃ i, i < 4 ∧ j = m + 4 + i := ⟨j - m - 4, by omega, by omega⟩
        exact fin x2 i (k3 i hi).2.1 (l3 i hi).2.1
      · by_cases q12 : j < m + 12
        · obtain ⟨i, hi, rfl⟩ : ∃ i, i < 4 ∧ j = m + 8 + i := ⟨j - m - 8, by omega, by omega⟩
          exact fin x3 i (k3 i hi).2.2.1 (l3 i hi).2.2.1
        · by_cases q16 : j < m + 16
          · obtain ⟨i, hi, rfl⟩ : ∃ i, i < 4 ∧ j = m + 12 + i := ⟨j - m - 12, by omega, by omega⟩
            exact fin x4 i (k3 i hi).2.2.2.1 (l3 i hi).2.2.2.1
          · obtain ⟨i, hi, rfl⟩ : ∃ i, i < 4 ∧ j = m + 16 + i := ⟨j - m - 16, by omega, by omega⟩
            exact fin x5 i (k3 i hi).2.2.2.2 (l3 i hi).2.2.2.2
/-! the tape's text -/
theorem T_at {σ : zSt} {N i : Nat} {tp : Nat → Nat} (e : σ.1 33 2 = nI N) (hN : N ≤ 260) (h : ∀ j, j < N → tp j < 256 ∧ σ.1 34 j = nI (tp j) ∧ σ.1 76 j = sb (tp j)) (hi : i < 2000) : F_X8_at (nI i) σ = some (if i < N then nI (tp i) else -1, σ) := by
  unfold F_X8_at F_X8_at_0
  rw [if_neg (nI_pos (by omega)), e, if_le (by omega)]
  by_cases q : i < N
  · rw [if_neg (by omega), if_neg (by rw [show (260 : Int32) = nI 260 from rfl, nI_lep (by omega)]; omega), gd_n (by omega), nI_cl (by omega), if_pos q, (h i q).2.1]
  · rw [if_pos (by omega), if_neg q]
theorem take_no {σ : zSt} {m : Nat} {x : Int32} (e : σ.1 33 1 = nI m) (h : x < 0 ∨ ¬ x ≤ nI m) : F_X8_take x σ = some (0, σ) := by
  unfold F_X8_take F_X8_take_0
  by_cases q : x < 0
  · rw [if_pos q]
  · rw [if_neg q, e, if_neg (h.resolve_left q)]
theorem take_yes {σ : zSt} {m N : Nat} (hm : m ≤ 260) (e : σ.1 33 1 = nI m) (h : N ≤ m) : F_X8_take (nI N) σ = some (1, zwr (zwr σ 33 2 (nI N)) 33 1 0) := by
  unfold F_X8_take F_X8_take_0
  rw [if_neg (nI_pos (by omega)), e, if_pos (by rw [nI_lep (by omega)]; omega)]
  rfl
theorem RT_0 {σ : zSt} (e1 : σ.1 33 1 = 0) (e2 : σ.1 69 14 = 0) : RT σ := ⟨0, fun _ => 0, by decide, e1, e2, fun j hj => absurd hj (Nat.not_lt_zero j)⟩
theorem sb_255 : ∀ b, b < 256 → sb b &&& 255 = nI b := by decide +kernel
theorem word_eq (b0 b1 b2 b3 : Int32) : (((((((0 : Int32) <<< ((8 : Int32) &&& 31)) ||| b0) <<< ((8 : Int32) &&& 31)) ||| b1) <<< ((8 : Int32) &&& 31) ||| b2) <<< ((8 : Int32) &&& 31)) ||| b3 = (((b0 <<< ((24 : Int32) &&& 31)) ||| (b1 <<< ((16 : Int32) &&& 31))) ||| (b2 <<< ((8 : Int32) &&& 31))) ||| b3 := by
  apply b_ext
  intro i hi
  have h8 : i - 8 < 32 := by omega
  have h16 : i - 8 - 8 < 32 := by omega
  have h24 : i - 8 - 8 - 8 < 32 := by omega
  simp only [b_or, b_shl8 _ hi, b_shl16 _ hi, b_shl24 _ hi, b_shl8 _ h8, b_shl8 _ h16, b_shl8 _ h24, b_0, Bool.and_false, Bool.false_or]
  have e1 : i - 8 - 8 = i - 16 := by omega
  have e2 : i - 8 - 8 - 8 = i - 24 := by omega
  rw [e2, e1]
  by_cases q1 : 8 ≤ i
  · by_cases q2 : 16 ≤ i
    · by_cases q3 : 24 ≤ i
      · simp only [decide_eq_true q1, decide_eq_true q2, decide_eq_true q3, decide_eq_true (show 8 ≤ i - 8 by omega), decide_eq_true (show 8 ≤ i - 16 by omega), Bool.true_and]
      · simp only [decide_eq_true q1, decide_eq_true q2, decide_eq_false q3, decide_eq_true (show 8 ≤ i - 8 by omega), decide_eq_false (show ¬ 8 ≤ i - 16 by omega), Bool.true_and, Bool.false_and, Bool.false_or]
    · simp only [decide_eq_true q1, decide_eq_false q2, decide_eq_false (show ¬ 24 ≤ i by omega), decide_eq_false (show ¬ 8 ≤ i - 8 by omega), Bool.true_and, Bool.false_and, Bool.false_or]
  · simp only [decide_eq_false q1, decide_eq_false (show ¬ 16 ≤ i by omega), decide_eq_false (show ¬ 24 ≤ i by omega), Bool.false_and, Bool.false_or]
def wrd (tp : Nat → Nat) (p : Nat) : Int32 := (((nI (tp (4 * p)) <<< ((24 : Int32) &&& 31)) ||| (nI (tp (4 * p + 1)) <<< ((16 : Int32) &&& 31))) ||| (nI (tp (4 * p + 2)) <<< ((8 : Int32) &&& 31))) ||| nI (tp (4 * p + 3))
theorem T_number {σ : zSt} {N p : Nat} {tp : Nat → Nat} (e : σ.1 33 2 = nI (4 * N)) (hN : N ≤ 8) (h : ∀ j, j < 4 * N → tp j < 256 ∧ σ.1 34 j = nI (tp j) ∧ σ.1 76 j = sb (tp j)) (hp : p < N) : F_X8_number (nI (4 * p)) σ = some (wrd tp p, σ) := by
  unfold F_X8_number F_X8_number_0
  rw [show nI (4 * p) + (1 : Int32) = nI (4 * p + 1) from nI_add _ 1, show nI (4 * p) + (2 : Int32) = nI (4 * p + 2) from nI_add _ 2, show nI (4 * p) + (3 : Int32) = nI (4 * p + 3) from nI_add _ 3, T_at e (by omega) h (by omega), bd_s, T_at e (by omega) h (by omega), bd_s, T_at e (by omega) h (by omega), bd_s, T_at e (by omega) h (by omega), bd_s, if_pos (by omega), if_pos (by omega), if_pos (by omega), if_pos (by omega)]
  rfl
theorem T_tapeNumber {σ : zSt} {N p : Nat} {tp : Nat → Nat} (hN : N ≤ 8) (h : ∀ j, j < 4 * N → tp j < 256 ∧ σ.1 34 j = nI (tp j) ∧ σ.1 76 j = sb (tp j)) (hp : p < N) : F_X12_tapeNumber (nI p) σ = some (wrd tp p, σ) := by
  unfold F_X12_tapeNumber F_X12_tapeNumber_0
  have m4p : (4 : Int32) * nI p = nI (4 * p) := pk_mul 4 p
  have m44 : nI (4 * p) + (4 : Int32) = nI (4 * p + 4) := nI_add _ 4
  have st : ∀ k x2 (w : (Int32 × Int32 × zSt) → Option (Int32 × zSt)), k < 4 → F_X12_tapeNumber_6 (nI p) w x2 (nI (4 * p + k)) σ = w ((x2 <<< ((8 : Int32) &&& 31)) ||| nI (tp (4 * p + k)), nI (4 * p + k + 1), σ) := by
    intro k x2 w hk
    obtain ⟨a1, a2, a3⟩ := h (4 * p + k) (by omega)
    unfold F_X12_tapeNumber_6
    rw [m4p, m44, if_neg (by rw [nI_lep (by omega)]; omega), gd_n (by omega), nI_cl (by omega), a3, sb_255 _ a1, nm_s, nm_s, nI_1]
  rw [m4p, nm_s]
  show F_X12_tapeNumber_6 (nI p) (zfix (F_X12_tapeNumber_6L (nI p)) 999999) 0 (nI (4 * p + 0)) σ = _
  rw [st 0 0 _ (by decide)]
  show F_X12_tapeNumber_6 (nI p) (zfix (F_X12_tapeNumber_6L (nI p)) 999998) _ (nI (4 * p + 1)) σ = _
  rw [st 1 _ _ (by decide)]
  show F_X12_tapeNumber_6 (nI p) (zfix (F_X12_tapeNumber_6L (nI p)) 999997) _ (nI (4 * p + 2)) σ = _
  rw [st 2 _ _ (by decide)]
  show F_X12_tapeNumber_6 (nI p) (zfix (F_X12_tapeNumber_6L (nI p)) 999996) _ (nI (4 * p + 3)) σ = _
  rw [st 3 _ _ (by decide)]
  show F_X12_tapeNumber_6 (nI p) (zfix (F_X12_tapeNumber_6L (nI p)) 999995) _ (nI (4 * p + 4)) σ = _
  unfold F_X12_tapeNumber_6
  rw [m4p, m44, if_pos (by rw [nI_lep (by omega)]; omega), Nat.add_zero, word_eq]
  rfl
/-- the ISLAND that the number must be -/
def chI (W : zWo) (p : Nat) : Int32 := if wIs W p = true then nI (islW W p) else 0
def chO (W : zWo) (tp : Nat → Nat) (N : Nat) : Nat → Nat → Int32
  | 0, _ => -1
  | f + 1, p => if wrd tp p = chI W p then chO W tp N f (p + 1) else nI p
theorem s_check {n : Nat} {σ : zSt} (hn : n < 512) (hR : Rel n σ) (x1 : Int32) : Both n (F_X11_check x1) (F_X12_check x1) σ := by
  obtain ⟨-, ⟨W, w0, w1, w2, w3⟩, -, ⟨m, tp, t0, t1, t2, t3⟩, -⟩ := id hR
  by_cases h1 : bel x1 9
  rotate_left
  · refine Both.no (-2) hn hR ?_ ?_
    · unfold F_X11_check F_X11_check_0
      rw [T_isBelow_9, bd_s, bI_f h1, if_pos rfl]
    · unfold F_X12_check F_X12_check_0
      rw [T_in_8, bd_s, bI_f h1, if_pos rfl]
  obtain ⟨N, hN, rfl⟩ := bel_of h1
  have m4N : (4 : Int32) * nI N = nI (4 * N) := pk_mul 4 N
  have d4 : nI m / (4 : Int32) = nI (m / 4) := pk_div (d := 4) (by omega) (by decide) (by decide)
  by_cases h2 : 4 * N ≤ m
  rotate_left
  · refine Both.no (-2) hn hR ?_ ?_
    · unfold F_X11_check F_X11_check_0
      rw [T_isBelow_9, bd_s, bI_t h1, if_neg (by decide), m4N, take_no t1 (Or.inr (by rw [nI_lep (by omega)]; exact h2)), bd_s, if_pos rfl]
    · unfold F_X12_check F_X12_check_0
      rw [T_in_8, bd_s, bI_t h1, if_neg (by decide), t2, d4, if_neg (by rw [nI_lep (by omega)]; omega)]
  have f1 : fr [] [(33, 1), (33, 2)] σ (zwr (zwr σ 33 2 (nI (4 * N))) 33 1 0) := (fr_w (Or.inr (by decide))).w (Or.inr (by decide))
  have r1 : ∀ j, j < 4 * N → tp j < 256 ∧ (zwr (zwr σ 33 2 (nI (4 * N))) 33 1 0).1 34 j = nI (tp j) ∧ (zwr (zwr σ 33 2 (nI (4 * N))) 33 1 0).1 76 j = sb (tp j) := fun j hj => t3 j (by omega)
  have E1 : F_X11_check (nI N) σ = some (chO W tp N N 0, zwr (zwr σ 33 2 (nI (4 * N))) 33 1 0) := by
    unfold F_X11_check F_X11_check_0
    rw [T_isBelow_9, bd_s, bI_t h1, if_neg (by decide), m4N, take_yes t0 t1 h2, bd_s, if_neg (by decide)]
    have key := zfix_out (body := F_X11_check_27L (nI N)) (fun p => (nI p, zwr (zwr σ 33 2 (nI (4 * N))) 33 1 0)) (fun p => some (chO W tp N (N - p) p, zwr (zwr σ 33 2 (nI (4 * N))) 33 1 0)) N (by omega) (fun p w hp ih => ?_) (fun w => ?_) 0 (Nat.zero_le _)
    · exact key
    · show F_X11_check_27 (nI N) w (nI p) _ = _
      have hC := f1.EC (by decide) w2
      have e2 : (zwr (zwr σ 33 2 (nI (4 * N))) 33 1 0).1 33 2 = nI (4 * N) := by simp only [zwr_r, upd_r, Nat.reduceEqDiff, ↓reduceIte]
      have tail : ∀ t0, t0 = chI W p → F_X11_check_55 w (nI N) (nI p) t0 (zwr (zwr σ 33 2 (nI (4 * N))) 33 1 0) = some (chO W tp N (N - p) p, zwr (zwr σ 33 2 (nI (4 * N))) 33 1 0) := by
        intro t0 ht
        subst ht
        unfold F_X11_check_55
        rw [show (4 : Int32) * nI p = nI (4 * p) from pk_mul 4 p, T_number e2 (by omega) r1 hp, bd_s, show N - p = (N - (p + 1)) + 1 by omega, nm_s, nI_1]
        unfold chO
        by_cases q : wrd tp p = chI W p
        · rw [if_pos q, if_pos q]
          exact ih
        · rw [if_neg q, if_neg q]
      unfold F_X11_check_27
      rw [if_neg (by rw [nI_lep (by omega)]; omega), T_isTold w0 hC, bd_s]
      by_cases q : wIs W p = true
      · rw [bI_t ((isT_n (by omega)).mpr q), if_neg (by decide), t_islandOf w0 hC (by omega), bd_s]
        exact tail _ (if_pos q).symm
      · rw [bI_f (fun r => q ((isT_n (by omega)).mp r)), if_pos rfl]
        exact tail _ (if_neg q).symm
    · show F_X11_check_27 (nI N) w (nI N) _ = _
      unfold F_X11_check_27
      rw [if_pos (by rw [nI_lep (by omega)]; omega), Nat.sub_self]
      rfl
  have f2 : fr [] [(33, 1), (33, 2), (69, 14)] σ (zwr (zwr (zwr σ 33 2 (nI (4 * N))) 33 1 0) 69 14 0) := (f1.mono (by decide)).w (Or.inr (by decide))
  have E2 : F_X12_check (nI N) (zwr (zwr σ 33 2 (nI (4 * N))) 33 1 0) = some (chO W tp N N 0, zwr (zwr (zwr σ 33 2 (nI (4 * N))) 33 1 0) 69 14 0) := by
    unfold F_X12_check F_X12_check_0
    have u : (zwr (zwr σ 33 2 (nI (4 * N))) 33 1 0).1 69 14 = nI m := t2
    rw [T_in_8, bd_s, bI_t h1, if_neg (by decide), u, d4, if_pos (by rw [nI_lep (by omega)]; omega), nm_s]
    have r2 : ∀ j, j < 4 * N → tp j < 256 ∧ (zwr (zwr (zwr σ 33 2 (nI (4 * N))) 33 1 0) 69 14 0).1 34 j = nI (tp j) ∧ (zwr (zwr (zwr σ 33 2 (nI (4 * N))) 33 1 0) 69 14 0).1 76 j = sb (tp j) := fun j hj => t3 j (by omega)
    have key := zfix_out (body := F_X12_check_30L (nI N)) (fun p => (nI p, zwr (zwr (zwr σ 33 2 (nI (4 * N))) 33 1 0) 69 14 0)) (fun p => some (chO W tp N (N - p) p, zwr (zwr (zwr σ 33 2 (nI (4 * N))) 33 1 0) 69 14 0)) N (by omega) (fun p w hp ih => ?_) (fun w => ?_) 0 (Nat.zero_le _)
    · exact key
    · show F_X12_check_30 (nI N) w (nI p) _ = _
      have hM := f2.EM (by decide) w3
      have tail : ∀ t0, t0 = chI W p → F_X12_check_57 w (nI N) (nI p) t0 (wrd tp p) (zwr (zwr (zwr σ 33 2 (nI (4 * N))) 33 1 0) 69 14 0) = some (chO W tp N (N - p) p, zwr (zwr (zwr σ 33 2 (nI (4 * N))) 33 1 0) 69 14 0) := by
        intro t0 ht
        subst ht
        unfold F_X12_check_57
        rw [show N - p = (N - (p + 1)) + 1 by omega, nm_s, nI_1]
        unfold chO
        by_cases q : wrd tp p = chI W p
        · rw [if_pos q, if_pos q]
          exact ih
        · rw [if_neg q, if_neg q]
      unfold F_X12_check_30
      rw [if_neg (by rw [nI_lep (by omega)]; omega), T_tapeNumber (by omega) r2 hp, bd_s, T_isPlace w0 hM, bd_s]
      by_cases q : wIs W p = true
      · rw [bI_t ((isT_n (by omega)).mpr q), if_neg (by decide), t_islandBy w0 hM (by omega), bd_s]
        exact tail _ (if_pos q).symm
      · rw [bI_f (fun r => q ((isT_n (by omega)).mp r)), if_pos rfl]
        exact tail _ (if_neg q).symm
    · show F_X12_check_30 (nI N) w (nI N) _ = _
      unfold F_X12_check_30
      rw [if_pos (by rw [nI_lep (by omega)]; omega), Nat.sub_self]
      rfl
  refine Both.mk E1 E2 (Rel_T hn hR (f2.eqOn (by decide)) (RT_0 ?_ ?_))
  · simp only [zwr_r, upd_r, Nat.reduceEqDiff, ↓reduceIte]
  · simp only [zwr_r, upd_r, Nat.reduceEqDiff, ↓reduceIte]
