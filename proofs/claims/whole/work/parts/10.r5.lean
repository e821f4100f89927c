section Z
variable {G : zG} {d : Nat} {own : String} {cc : ByteArray} {nL : Nat} {C : zC} {pc pc' : Nat} {lv : List (Nat × Value)} {st : List Value} {σ : zSt}
def zLV (own : String) (idx : Nat) (y : MethodName) (cc : ByteArray) (nL : Nat) (ret : Option FieldType) (n : Nat) : Prop := (Cond.methodLink own idx y ∈ zT ∧ Cond.instanceMethod y ∈ zT ∧ Cond.selects y.cls y y ∈ zT ∧ Cond.initialized y.cls ∈ zT ∧ Cond.code y cc nL ret ∈ zT) ∧ (y.cls ≠ "java/lang/invoke/MethodHandle" ∧ y.cls ≠ "java/lang/invoke/VarHandle" ∧ (parseMethodDescriptor y.desc).map (fun d => d.parameters.length) = some n) ∧ nL ≤ 22
def zLS' (own : String) (idx : Nat) (y : MethodName) (cc : ByteArray) (nL : Nat) (ret : Option FieldType) (n : Nat) : Prop := (Cond.methodLink own idx y ∈ zT ∧ Cond.static y ∈ zT ∧ Cond.initialized y.cls ∈ zT ∧ Cond.code y cc nL ret ∈ zT) ∧ (y.cls ≠ "java/lang/invoke/MethodHandle" ∧ y.cls ≠ "java/lang/invoke/VarHandle" ∧ (parseMethodDescriptor y.desc).map (fun d => d.parameters.length) = some n) ∧ nL ≤ 22
def zLN (own : String) (idx : Nat) (y : MethodName) (cc : ByteArray) (nL : Nat) (ret : Option FieldType) (n : Nat) : Prop := ((∃ h : String, (own, idx, y, h) ∈ zNest) ∧ Cond.static y ∈ zT ∧ Cond.initialized y.cls ∈ zT ∧ Cond.code y cc nL ret ∈ zT) ∧ (y.cls ≠ "java/lang/invoke/MethodHandle" ∧ y.cls ≠ "java/lang/invoke/VarHandle" ∧ (parseMethodDescriptor y.desc).map (fun d => d.parameters.length) = some n) ∧ nL ≤ 22
def zObj (c : Nat) (C : String) : Prop := ∃ (ci : Nat) (fs : List zF) (q : vw_C), shp[c]? = some (.inl (ci, fs)) ∧ vwCl[ci]? = some q ∧ q.1 = C
theorem z_good {y : MethodName} {cc : ByteArray} {nL : Nat} {ret : Option FieldType} (h : Cond.code y cc nL ret ∈ zT) : GoodIn zT (.code y cc nL ret :: zT) := fun w hw => by
  rcases List.mem_cons.mp hw with rfl | hw
  · exact ⟨h, zT_good h⟩
  · exact ⟨hw, zT_good hw⟩
theorem z_blind {D : va_G} {ca : Nat → ClassId} {ad : Nat → Nat} {σ : zSt} {av : List Value} : FrameBlind (va_Pc av (fun U => zWd D ca ad σ U)) := fun a U g mk q => ⟨q.1, q.2.1, q.2.2.1, q.2.2.2.call⟩
theorem z_pre {D : va_G} {ca : Nat → ClassId} {ad : Nat → Nat} {σ : zSt} {av : List Value} {A : Nat → Prop} {s U : State} {H : Heap} {locs : List Loc} (hP : va_P D vwCl (zW shp ca ad σ) H) (hi : zinj zN ad) (hA : ∀ q, zA zN ad q → A q) (hF : zFix D ca ad A s s.heap) (hS : va_S A s.heap H locs) (hU : U.heap = H) (hW : s.WarmedH U.vm) : va_Pc av (fun U => zWd D ca ad σ U) av.toArray U :=
  ⟨rfl, by rw [hU]; exact hP, hi, by rw [hU]; exact ((hF.kept hS.1 hS.2.1).narrow hA).moved hW⟩
theorem z_behind {ad : Nat → Nat} {A : Nat → Prop} {H0 H : Heap} {locs L : List Loc} {st t : State} (hS : va_S A H0 H locs) (h0 : st.heap = H) (hA : ∀ q, zA zN ad q → A q) (hf : va_F (zA zN ad) st t) (hL : ∀ q ∈ L, zA zN ad q.base) : va_S A H0 t.heap (locs ++ L) := by
  obtain ⟨hz, hk⟩ := hf
  rw [h0] at hz hk
  refine ⟨Nat.le_trans hS.1 hz, fun q h1 h2 => ?_, fun q hq => ?_⟩
  · rw [hk q (Nat.lt_of_lt_of_le h1 hS.1) (fun z => h2 (hA q z))]
    exact hS.2.1 q h1 h2
  · rcases List.mem_append.mp hq with h | h
    · exact hS.2.2 q h
    · exact hA _ (hL q h)
theorem z_callV {y : MethodName} {cc2 : ByteArray} {nL2 n idx d2 c0 : Nat} {ret2 : Option FieldType} {As rest : List Value} {q : Option Value} {τ : zSt} (hl0 : zLV own idx y cc2 nL2 ret2 n) (hc : zObj c0 y.cls) (hd : zD cc pc (.invokevirtual idx) 3 pc') (hM : zM G d2 y cc2 nL2 ret2 (.ref (zad G c0) :: As) σ q τ) (hdd : d2 < d) (hn : As.length = n) (hcat : (rest.map fun v => v.category).sum ≤ 8) (K : zAW G d own cc nL C pc' lv (q.toList ++ rest) τ) : zAW G d own cc nL C pc lv (As.reverse ++ .ref (zad G c0) :: rest) σ := by
  obtain ⟨l, D, ca, ad⟩ := G
  obtain ⟨p, e, R, s, m, args, below, meth, cd, A, cells, slots, Q⟩ := C
  intro S H locs ls hP hS hl
  obtain ⟨⟨hx, hb, hml, hown, hts⟩, ⟨hi, hA, hF⟩, hd1, hd2, hc1, hc2⟩ := id S
  obtain ⟨hd, rfl⟩ := hd
  obtain ⟨⟨w1, w2, w3, w4, w5⟩, hdesc, hnl⟩ := hl0
  obtain ⟨ci, fs, qc, o1, o2, o3⟩ := hc
  intro T hT X
  have cw : CallW R s args own y.cls idx y cc2 nL2 ret2 (.code y cc2 nL2 ret2 :: zT) (zroom d2) 0 0 n := ⟨callB_of n hts (z_good w5) rfl rfl rfl (hts _ w4) (hts _ w1) hdesc ⟨by show d2 + 1 ≤ R.frames; omega, by show 8 + (nL2 + 11) + 41 * d2 ≤ R.locals; omega⟩, hts _ w2, hts _ w3⟩
  have run := va_runV (locs := locs) (e := e) (l := l) (below := below) (meth := meth) (cells := cells) (slots := slots) (As := As) (rest := rest) (g := F0 m pc ls (As.reverse ++ .ref (ad c0) :: rest)) ⟨hx, hb, hml, hown, hts⟩ hM cw ⟨z_blind, o3 ▸ va_recv hF.1.1 hP (ci := ci) (q0 := c0) o2 (zW_get o1), fun U hU hW => z_pre (av := .ref (ad c0) :: As) hP hi hA hF hS hU hW⟩ rfl hn hl.1 rfl (lv_room hcat) hd ⟨hc1, hc2⟩
  obtain ⟨v, st₀, t, T', L, h0, X', hL, e1, e2, ⟨hv, hP1, hf⟩, go⟩ := run T hT X
  cases hv
  obtain ⟨t2, a1, b1⟩ := K S t.heap (locs ++ L) ls hP1 (z_behind hS h0 hA hf hL) hl T' e1 X'
  exact ⟨t2, go t2 a1, b1⟩
theorem z_callS {y : MethodName} {cc2 : ByteArray} {nL2 n idx d2 : Nat} {ret2 : Option FieldType} {As rest : List Value} {q : Option Value} {τ : zSt} (hl0 : zLS' own idx y cc2 nL2 ret2 n) (hd : zD cc pc (.invokestatic idx) 3 pc') (hM : zM G d2 y cc2 nL2 ret2 As σ q τ) (hdd : d2 < d) (hn : As.length = n) (hcat : (rest.map fun v => v.category).sum ≤ 8) (K : zAW G d own cc nL C pc' lv (q.toList ++ rest) τ) : zAW G d own cc nL C pc lv (As.reverse ++ rest) σ := by
  obtain ⟨l, D, ca, ad⟩ := G
  obtain ⟨p, e, R, s, m, args, below, meth, cd, A, cells, slots, Q⟩ := C
  intro S H locs ls hP hS hl
  obtain ⟨⟨hx, hb, hml, hown, hts⟩, ⟨hi, hA, hF⟩, hd1, hd2, hc1, hc2⟩ := id S
  obtain ⟨hd, rfl⟩ := hd
  obtain ⟨⟨w1, w3, w4, w5⟩, hdesc, hnl⟩ := hl0
  intro T hT X
  have run := va_runS (locs := locs) (e := e) (l := l) (below := below) (meth := meth) (cells := cells) (slots := slots) (As := As) (rest := rest) (g := F0 m pc ls (As.reverse ++ rest)) ⟨hx, hb, hml, hown, hts⟩ hM ⟨callB_of (R := R) n hts (z_good w5) rfl rfl rfl (hts _ w4) (hts _ w1) hdesc ⟨by show d2 + 1 ≤ R.frames; omega, by show 8 + (nL2 + 11) + 41 * d2 ≤ R.locals; omega⟩, hts _ w3⟩ ⟨z_blind, fun U hU hW => z_pre (av := As) hP hi hA hF hS hU hW⟩ rfl hn hl.1 rfl (lv_room hcat) hd ⟨hc1, hc2⟩
  obtain ⟨v, st₀, t, T', L, h0, X', hL, e1, e2, ⟨hv, hP1, hf⟩, go⟩ := run T hT X
  cases hv
  obtain ⟨t2, a1, b1⟩ := K S t.heap (locs ++ L) ls hP1 (z_behind hS h0 hA hf hL) hl T' e1 X'
  exact ⟨t2, go t2 a1, b1⟩
theorem z_callN {y : MethodName} {cc2 : ByteArray} {nL2 n idx d2 : Nat} {ret2 : Option FieldType} {As rest : List Value} {q : Option Value} {τ : zSt} (hl0 : zLN own idx y cc2 nL2 ret2 n) (hd : zD cc pc (.invokestatic idx) 3 pc') (hM : zM G d2 y cc2 nL2 ret2 As σ q τ) (hdd : d2 < d) (hn : As.length = n) (hcat : (rest.map fun v => v.category).sum ≤ 8) (K : zAW G d own cc nL C pc' lv (q.toList ++ rest) τ) : zAW G d own cc nL C pc lv (As.reverse ++ rest) σ := by
  obtain ⟨l, D, ca, ad⟩ := G
  obtain ⟨p, e, R, s, m, args, below, meth, cd, A, cells, slots, Q⟩ := C
  intro S H locs ls hP hS hl
  obtain ⟨⟨hx, hb, hml, hown, hts⟩, ⟨hi, hA, hF⟩, hd1, hd2, hc1, hc2⟩ := id S
  obtain ⟨hd, rfl⟩ := hd
  obtain ⟨⟨⟨host, w1⟩, w3, w4, w5⟩, hdesc, hnl⟩ := hl0
  have hw1 := hF.1.2 _ w1
  intro T hT X
  have run := va_runSN (locs := locs) (e := e) (l := l) (below := below) (meth := meth) (cells := cells) (slots := slots) (As := As) (rest := rest) (g := F0 m pc ls (As.reverse ++ rest)) ⟨hx, hb, hml, hown, hts⟩ hM ⟨va_cnB (R := R) n hts (z_good w5) rfl rfl rfl hw1 (hts _ w4) hdesc ⟨by show d2 + 1 ≤ R.frames; omega, by show 8 + (nL2 + 11) + 41 * d2 ≤ R.locals; omega⟩, hts _ w3, trivial⟩ ⟨z_blind, fun U hU hW => z_pre (av := As) hP hi hA hF hS hU hW⟩ rfl hn hl.1 rfl (lv_room hcat) hd ⟨hc1, hc2⟩
  obtain ⟨v, st₀, t, T', L, h0, X', hL, e1, e2, ⟨hv, hP1, hf⟩, go⟩ := run T hT X
  cases hv
  obtain ⟨t2, a1, b1⟩ := K S t.heap (locs ++ L) ls hP1 (z_behind hS h0 hA hf hL) hl T' e1 X'
  exact ⟨t2, go t2 a1, b1⟩
end Z
