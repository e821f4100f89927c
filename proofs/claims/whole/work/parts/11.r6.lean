section Z
variable {G : zG} {d : Nat} {own : String} {cc : ByteArray} {nL : Nat} {C : zC} {pc pc' : Nat} {lv : List (Nat × Value)} {st : List Value} {σ : zSt}
theorem nm_i {α : Type} {β : Type} {x : α} {f : α → β} {R0 : β} (h : nm x f = R0) : ∃ v, v = x ∧ f v = R0 := ⟨x, rfl, h⟩
theorem z_tin {dflt lo hi : Int} {offs : Array Int} {len tgt : Nat} {x : Int32} (hd : decode cc pc = .ok (.tableswitch dflt lo hi offs, len)) (k : Int32) (hx9 : x = k) (off : Int) (hk : (¬ k.toInt < lo ∧ ¬ hi < k.toInt) ∧ offs[(k.toInt - lo).toNat]? = some off ∧ (pc : Int) + off = (tgt : Int)) (K : zAW G d own cc nL C tgt lv st σ) : zAW G d own cc nL C pc lv (.int x :: st) σ := by
  obtain ⟨l, D, ca, ad⟩ := G
  obtain ⟨p, e, R, s, m, args, below, meth, cd, A, cells, slots, Q⟩ := C
  intro S H locs ls hP hS hl
  obtain ⟨⟨hx, hb, hml, hown, hts⟩, ⟨hi, hA, hF⟩, hd1, hd2, hc1, hc2⟩ := id S
  subst hx9
  exact lv_tableIn hx hb hd hk.1.1 hk.1.2 hk.2.1 hk.2.2 (K S H locs ls hP hS hl)
theorem z_tout {dflt lo hi : Int} {offs : Array Int} {len tgt : Nat} {x : Int32} (hd : decode cc pc = .ok (.tableswitch dflt lo hi offs, len)) (ho : x.toInt < lo ∨ hi < x.toInt) (ht : (pc : Int) + dflt = (tgt : Int)) (K : zAW G d own cc nL C tgt lv st σ) : zAW G d own cc nL C pc lv (.int x :: st) σ := by
  obtain ⟨l, D, ca, ad⟩ := G
  obtain ⟨p, e, R, s, m, args, below, meth, cd, A, cells, slots, Q⟩ := C
  intro S H locs ls hP hS hl
  obtain ⟨⟨hx, hb, hml, hown, hts⟩, ⟨hi, hA, hF⟩, hd1, hd2, hc1, hc2⟩ := id S
  exact lv_tableOut hx hb hd ho ht (K S H locs ls hP hS hl)
theorem z_lsw {dflt : Int} {ps : Array (Int × Int)} {len tgt : Nat} {x : Int32} {off : Int} (hd : decode cc pc = .ok (.lookupswitch dflt ps, len)) (hp : (ps.toList.zip (ps.toList.drop 1)).all (fun (a, next) => a.1 < next.1) = true) (ho : Op.lookupswitch.offset ps.toList dflt x.toInt = off) (ht : (pc : Int) + off = (tgt : Int)) (K : zAW G d own cc nL C tgt lv st σ) : zAW G d own cc nL C pc lv (.int x :: st) σ := by
  obtain ⟨l, D, ca, ad⟩ := G
  obtain ⟨p, e, R, s, m, args, below, meth, cd, A, cells, slots, Q⟩ := C
  intro S H locs ls hP hS hl
  obtain ⟨⟨hx, hb, hml, hown, hts⟩, ⟨hi, hA, hF⟩, hd1, hd2, hc1, hc2⟩ := id S
  exact lv_lookup hx hb hd hp ho ht (K S H locs ls hP hS hl)
theorem z_kald0_hi {i : Int32} (v : Int32) (hv : zHi i.toNatClampNeg = v) (hin : vp_in i 6) (hd : zD cc pc .iaload 1 pc') (K : zAW G d own cc nL C pc' lv (.int v :: st) σ) : zAW G d own cc nL C pc lv (.int i :: .ref (zad G 1000) :: st) σ := by
  obtain ⟨l, D, ca, ad⟩ := G
  obtain ⟨p, e, R, s, m, args, below, meth, cd, A, cells, slots, Q⟩ := C
  intro S H locs ls hP hS hl
  obtain ⟨⟨hx, hb, hml, hown, hts⟩, ⟨hi, hA, hF⟩, hd1, hd2, hc1, hc2⟩ := id S
  obtain ⟨hd, rfl⟩ := hd
  subst hv
  exact va_ti hx hb hF.2.1.1.2 hS hin rfl hd (K S H locs ls hP hS hl)
theorem z_kald0_po {i : Int32} (v : Int32) (hv : zPo i.toNatClampNeg = v) (hin : vp_in i 3) (hd : zD cc pc .iaload 1 pc') (K : zAW G d own cc nL C pc' lv (.int v :: st) σ) : zAW G d own cc nL C pc lv (.int i :: .ref (zad G 1001) :: st) σ := by
  obtain ⟨l, D, ca, ad⟩ := G
  obtain ⟨p, e, R, s, m, args, below, meth, cd, A, cells, slots, Q⟩ := C
  intro S H locs ls hP hS hl
  obtain ⟨⟨hx, hb, hml, hown, hts⟩, ⟨hi, hA, hF⟩, hd1, hd2, hc1, hc2⟩ := id S
  obtain ⟨hd, rfl⟩ := hd
  subst hv
  exact va_ti hx hb hF.2.1.2.2 hS hin rfl hd (K S H locs ls hP hS hl)
theorem z_gets_cs {idx : Nat} (hc : Cond.fieldLink own idx "java/lang/String" "COMPACT_STRINGS" "Z" ∈ zT) (hd : zD cc pc (.getstatic idx) 3 pc') (K : zAW G d own cc nL C pc' lv (.int 1 :: st) σ) : zAW G d own cc nL C pc lv st σ := by
  obtain ⟨l, D, ca, ad⟩ := G
  obtain ⟨p, e, R, s, m, args, below, meth, cd, A, cells, slots, Q⟩ := C
  intro S H locs ls hP hS hl
  obtain ⟨⟨hx, hb, hml, hown, hts⟩, ⟨hi, hA, hF⟩, hd1, hd2, hc1, hc2⟩ := id S
  obtain ⟨hd, rfl⟩ := hd
  exact va_gets hx hb hF.2.2.1 hS hown (hts _ hc) (fun _ h9 => h9) hd (K S H locs ls hP hS hl)
theorem z_sval {idx i : Nat} (hc : Cond.fieldLink own idx "java/lang/String" "value" "[B" ∈ zT) (h2 : i < 2) (hd : zD cc pc (.getfield idx) 3 pc') (K : zAW G d own cc nL C pc' lv (.ref (zad G (1004 + i)) :: st) σ) : zAW G d own cc nL C pc lv (.ref (zad G (1002 + i)) :: st) σ := by
  obtain ⟨l, D, ca, ad⟩ := G
  obtain ⟨p, e, R, s, m, args, below, meth, cd, A, cells, slots, Q⟩ := C
  intro S H locs ls hP hS hl
  obtain ⟨⟨hx, hb, hml, hown, hts⟩, ⟨hi, hA, hF⟩, hd1, hd2, hc1, hc2⟩ := id S
  obtain ⟨hd, rfl⟩ := hd
  exact vk_getf hx hb (hF.2.2.2.1.1 i h2).2.2.1 hS hown (hts _ hc) (fun _ h9 => h9) hd (K S H locs ls hP hS hl)
theorem z_scod {idx i : Nat} (hc : Cond.fieldLink own idx "java/lang/String" "coder" "B" ∈ zT) (h2 : i < 2) (hd : zD cc pc (.getfield idx) 3 pc') (K : zAW G d own cc nL C pc' lv (.int 0 :: st) σ) : zAW G d own cc nL C pc lv (.ref (zad G (1002 + i)) :: st) σ := by
  obtain ⟨l, D, ca, ad⟩ := G
  obtain ⟨p, e, R, s, m, args, below, meth, cd, A, cells, slots, Q⟩ := C
  intro S H locs ls hP hS hl
  obtain ⟨⟨hx, hb, hml, hown, hts⟩, ⟨hi, hA, hF⟩, hd1, hd2, hc1, hc2⟩ := id S
  obtain ⟨hd, rfl⟩ := hd
  exact vk_getf hx hb (hF.2.2.2.1.1 i h2).2.1 hS hown (hts _ hc) (fun _ h9 => h9) hd (K S H locs ls hP hS hl)
theorem z_callVs {y : MethodName} {cc2 : ByteArray} {nL2 n idx d2 i : Nat} {ret2 : Option FieldType} {As rest : List Value} {q : Option Value} {τ : zSt} (hl0 : zLV own idx y cc2 nL2 ret2 n) (hc : y.cls = "java/lang/String") (h2 : i < 2) (hd : zD cc pc (.invokevirtual idx) 3 pc') (hM : zM G d2 y cc2 nL2 ret2 (.ref (zad G (1002 + i)) :: As) σ q τ) (hdd : d2 < d) (hn : As.length = n) (hcat : (rest.map fun v => v.category).sum ≤ 8) (K : zAW G d own cc nL C pc' lv (q.toList ++ rest) τ) : zAW G d own cc nL C pc lv (As.reverse ++ .ref (zad G (1002 + i)) :: rest) σ := by
  obtain ⟨l, D, ca, ad⟩ := G
  obtain ⟨p, e, R, s, m, args, below, meth, cd, A, cells, slots, Q⟩ := C
  intro S H locs ls hP hS hl
  obtain ⟨⟨hx, hb, hml, hown, hts⟩, ⟨hi, hA, hF⟩, hd1, hd2, hc1, hc2⟩ := id S
  obtain ⟨hd, rfl⟩ := hd
  obtain ⟨⟨w1, w2, w3, w4, w5⟩, hdesc, hnl⟩ := hl0
  intro T hT X
  have cw : CallW R s args own y.cls idx y cc2 nL2 ret2 (.code y cc2 nL2 ret2 :: zT) (zroom d2) 0 0 n := ⟨callB_of n hts (z_good w5) rfl rfl rfl (hts _ w4) (hts _ w1) hdesc ⟨by show d2 + 1 ≤ R.frames; omega, by show 8 + (nL2 + 11) + 41 * d2 ≤ R.locals; omega⟩, hts _ w2, hts _ w3⟩
  have run := va_runV (locs := locs) (e := e) (l := l) (below := below) (meth := meth) (cells := cells) (slots := slots) (As := As) (rest := rest) (g := F0 m pc ls (As.reverse ++ .ref (ad (1002 + i)) :: rest)) ⟨hx, hb, hml, hown, hts⟩ hM cw ⟨z_blind, hc ▸ vk_recv (adK := fun i => ad (1002 + i)) hF.2.2.2.1 h2 hS, fun U hU hW => z_pre (av := .ref (ad (1002 + i)) :: As) hP hi hA hF hS hU hW⟩ rfl hn hl.1 rfl (lv_room hcat) hd ⟨hc1, hc2⟩
  obtain ⟨v, st₀, t, T', L, h0, X', hL, e1, e2, ⟨hv, hP1, hf⟩, go⟩ := run T hT X
  cases hv
  obtain ⟨t2, a1, b1⟩ := K S t.heap (locs ++ L) ls hP1 (z_behind hS h0 hA hf hL) hl T' e1 X'
  exact ⟨t2, go t2 a1, b1⟩
theorem z_zreturnB {v : Int32} (hR : zR G C (some .byte) (some (.int v)) σ) (hd : decode cc pc = .ok (.ireturn, 1)) (hv : narrow .byte (.int v) = .int v) : zAW G d own cc nL C pc lv [.int v] σ := by
  obtain ⟨l, D, ca, ad⟩ := G
  obtain ⟨p, e, R, s, m, args, below, meth, cd, A, cells, slots, Q⟩ := C
  intro S H locs ls hP hS hl
  obtain ⟨⟨hx, hb, hml, hown, hts⟩, ⟨hi, hA, hF⟩, hd1, hd2, hc1, hc2⟩ := id S
  obtain ⟨r1, r2, rfl, rfl⟩ := hR
  exact W.zret hx hb r1 hv (fun t ht hW => ⟨rfl, by rw [ht]; exact hP, hS.F ht⟩) hS.2.2 hd r2
theorem z_slen {i : Nat} (h2 : i < 2) (v : Int32) (hv : Int32.ofNat (([9, 6] : List Nat).getD i 0) = v) (hd : zD cc pc .arraylength 1 pc') (K : zAW G d own cc nL C pc' lv (.int v :: st) σ) : zAW G d own cc nL C pc lv (.ref (zad G (1004 + i)) :: st) σ := by
  obtain ⟨l, D, ca, ad⟩ := G
  obtain ⟨p, e, R, s, m, args, below, meth, cd, A, cells, slots, Q⟩ := C
  intro S H locs ls hP hS hl
  obtain ⟨⟨hx, hb, hml, hown, hts⟩, ⟨hi, hA, hF⟩, hd1, hd2, hc1, hc2⟩ := id S
  obtain ⟨hd, rfl⟩ := hd
  exact va_tlen hx hb (hF.2.2.2.1.1 i h2).2.2.2 hS hv hd (K S H locs ls hP hS hl)
theorem z_sbald {i : Nat} {k : Int32} {T : Type} {R0 : T} {X : Option T} (h2 : i < 2) (hd : zD cc pc .baload 1 pc') (h : gd (vp_in k (([9, 6] : List Nat).getD i 0)) X = some R0) (K : X = some R0 → zAW G d own cc nL C pc' lv (.int ((zBy.getD i []).getD k.toNatClampNeg 0) :: st) σ) : zAW G d own cc nL C pc lv (.int k :: .ref (zad G (1004 + i)) :: st) σ := by
  obtain ⟨l, D, ca, ad⟩ := G
  obtain ⟨p, e, R, s, m, args, below, meth, cd, A, cells, slots, Q⟩ := C
  intro S H locs ls hP hS hl
  obtain ⟨⟨hx, hb, hml, hown, hts⟩, ⟨hi, hA, hF⟩, hd1, hd2, hc1, hc2⟩ := id S
  obtain ⟨hd, rfl⟩ := hd
  obtain ⟨hin, h⟩ := gd_e h
  exact va_tb hx hb (hF.2.2.2.1.1 i h2).2.2.2 hS hin rfl hd (K h S H locs ls hP hS hl)
end Z
