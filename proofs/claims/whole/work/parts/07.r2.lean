section Z
variable {G : zG} {d : Nat} {own : String} {cc : ByteArray} {nL : Nat} {C : zC} {pc pc' : Nat} {lv : List (Nat × Value)} {st : List Value} {σ : zSt}
theorem z_iald {c n : Nat} {i : Int32} {T : Type} {R0 : T} {X : Option T} (ha : shp[c]? = some (.inr (0, n))) (hd : zD cc pc .iaload 1 pc') (h : gd (vp_in i n) X = some R0) (K : X = some R0 → zAW G d own cc nL C pc' lv (.int (σ.1 c i.toNatClampNeg) :: st) σ) : zAW G d own cc nL C pc lv (.int i :: .ref (zad G c) :: st) σ := by
  obtain ⟨l, D, ca, ad⟩ := G
  obtain ⟨p, e, R, s, m, args, below, meth, cd, A, cells, slots, Q⟩ := C
  intro S H locs ls hP hS hl
  obtain ⟨⟨hx, hb, hml, hown, hts⟩, ⟨hi, hA, hF⟩, hd1, hd2, hc1, hc2⟩ := id S
  obtain ⟨hd, rfl⟩ := hd
  obtain ⟨hin, h⟩ := gd_e h
  exact va_iald (tys := zTys ca) hx hb hF.1.1 hP c 0 (zW_get ha) rfl hin hd (K h S H locs ls hP hS hl)
theorem z_iald0 {c n j : Nat} {i : Int32} (ha : shp[c]? = some (.inr (0, n))) (hd : zD cc pc .iaload 1 pc') (hin : vp_in i n) (hj : i.toNatClampNeg = j) (K : zAW G d own cc nL C pc' lv (.int (σ.1 c j) :: st) σ) : zAW G d own cc nL C pc lv (.int i :: .ref (zad G c) :: st) σ := by
  obtain ⟨l, D, ca, ad⟩ := G
  obtain ⟨p, e, R, s, m, args, below, meth, cd, A, cells, slots, Q⟩ := C
  intro S H locs ls hP hS hl
  obtain ⟨⟨hx, hb, hml, hown, hts⟩, ⟨hi, hA, hF⟩, hd1, hd2, hc1, hc2⟩ := id S
  obtain ⟨hd, rfl⟩ := hd
  subst hj
  exact va_iald (tys := zTys ca) hx hb hF.1.1 hP c 0 (zW_get ha) rfl hin hd (K S H locs ls hP hS hl)
theorem z_bald {c n : Nat} {i : Int32} {T : Type} {R0 : T} {X : Option T} (ha : shp[c]? = some (.inr (1, n))) (hd : zD cc pc .baload 1 pc') (h : gd (vp_in i n) X = some R0) (K : X = some R0 → zAW G d own cc nL C pc' lv (.int (σ.1 c i.toNatClampNeg) :: st) σ) : zAW G d own cc nL C pc lv (.int i :: .ref (zad G c) :: st) σ := by
  obtain ⟨l, D, ca, ad⟩ := G
  obtain ⟨p, e, R, s, m, args, below, meth, cd, A, cells, slots, Q⟩ := C
  intro S H locs ls hP hS hl
  obtain ⟨⟨hx, hb, hml, hown, hts⟩, ⟨hi, hA, hF⟩, hd1, hd2, hc1, hc2⟩ := id S
  obtain ⟨hd, rfl⟩ := hd
  obtain ⟨hin, h⟩ := gd_e h
  exact va_bald (tys := zTys ca) hx hb hF.1.1 hP c 1 (zW_get ha) rfl hin hd (K h S H locs ls hP hS hl)
theorem z_bald0 {c n j : Nat} {i : Int32} (ha : shp[c]? = some (.inr (1, n))) (hd : zD cc pc .baload 1 pc') (hin : vp_in i n) (hj : i.toNatClampNeg = j) (K : zAW G d own cc nL C pc' lv (.int (σ.1 c j) :: st) σ) : zAW G d own cc nL C pc lv (.int i :: .ref (zad G c) :: st) σ := by
  obtain ⟨l, D, ca, ad⟩ := G
  obtain ⟨p, e, R, s, m, args, below, meth, cd, A, cells, slots, Q⟩ := C
  intro S H locs ls hP hS hl
  obtain ⟨⟨hx, hb, hml, hown, hts⟩, ⟨hi, hA, hF⟩, hd1, hd2, hc1, hc2⟩ := id S
  obtain ⟨hd, rfl⟩ := hd
  subst hj
  exact va_bald (tys := zTys ca) hx hb hF.1.1 hP c 1 (zW_get ha) rfl hin hd (K S H locs ls hP hS hl)
theorem z_lald {c n : Nat} {i : Int32} {T : Type} {R0 : T} {X : Option T} (ha : shp[c]? = some (.inr (2, n))) (hd : zD cc pc .laload 1 pc') (h : gd (vp_in i n) X = some R0) (K : X = some R0 → zAW G d own cc nL C pc' lv (.long (σ.2 c i.toNatClampNeg) :: st) σ) : zAW G d own cc nL C pc lv (.int i :: .ref (zad G c) :: st) σ := by
  obtain ⟨l, D, ca, ad⟩ := G
  obtain ⟨p, e, R, s, m, args, below, meth, cd, A, cells, slots, Q⟩ := C
  intro S H locs ls hP hS hl
  obtain ⟨⟨hx, hb, hml, hown, hts⟩, ⟨hi, hA, hF⟩, hd1, hd2, hc1, hc2⟩ := id S
  obtain ⟨hd, rfl⟩ := hd
  obtain ⟨hin, h⟩ := gd_e h
  exact va_lald (tys := zTys ca) hx hb hF.1.1 hP c 2 (zW_get ha) rfl hin hd (K h S H locs ls hP hS hl)
theorem z_lald0 {c n j : Nat} {i : Int32} (ha : shp[c]? = some (.inr (2, n))) (hd : zD cc pc .laload 1 pc') (hin : vp_in i n) (hj : i.toNatClampNeg = j) (K : zAW G d own cc nL C pc' lv (.long (σ.2 c j) :: st) σ) : zAW G d own cc nL C pc lv (.int i :: .ref (zad G c) :: st) σ := by
  obtain ⟨l, D, ca, ad⟩ := G
  obtain ⟨p, e, R, s, m, args, below, meth, cd, A, cells, slots, Q⟩ := C
  intro S H locs ls hP hS hl
  obtain ⟨⟨hx, hb, hml, hown, hts⟩, ⟨hi, hA, hF⟩, hd1, hd2, hc1, hc2⟩ := id S
  obtain ⟨hd, rfl⟩ := hd
  subst hj
  exact va_lald (tys := zTys ca) hx hb hF.1.1 hP c 2 (zW_get ha) rfl hin hd (K S H locs ls hP hS hl)
end Z
