section Z
variable {G : zG} {d : Nat} {own : String} {cc : ByteArray} {nL : Nat} {C : zC} {pc pc' : Nat} {lv : List (Nat × Value)} {st : List Value} {σ : zSt}
theorem z_iast {c n : Nat} {i : Int32} {x : Int32} {T : Type} {R0 : T} {f : zSt → Option T} (ha : shp[c]? = some (.inr (0, n))) (hd : zD cc pc .iastore 1 pc') (h : gd (vp_in i n) (nm (zwr σ c i.toNatClampNeg x) f) = some R0) (K : ∀ τ, f τ = some R0 → zAW G d own cc nL C pc' lv st τ) : zAW G d own cc nL C pc lv (.int x :: .int i :: .ref (zad G c) :: st) σ := by
  obtain ⟨l, D, ca, ad⟩ := G
  obtain ⟨p, e, R, s, m, args, below, meth, cd, A, cells, slots, Q⟩ := C
  intro S H locs ls hP hS hl
  obtain ⟨⟨hx, hb, hml, hown, hts⟩, ⟨hi, hA, hF⟩, hd1, hd2, hc1, hc2⟩ := id S
  obtain ⟨hd, rfl⟩ := hd
  obtain ⟨hin, h⟩ := gd_e h
  refine va_iast (tys := zTys ca) hx hb hF.1.1 hP (zW_Ds hi hA) hS c 0 (zW_get ha) rfl hin hd (fun H1 locs1 hP1 hD1 hS1 => ?_)
  refine K _ h S H1 locs1 ls ?_ hS1 hl
  exact (zW_set ha (σ := σ) (τ := zwr σ c i.toNatClampNeg x) (fun d hd => ⟨by simp [zwr, zrow, zrowL, hd], by simp [zwr, zrow, zrowL, hd]⟩)) ▸ (by
    have e : zcell ca ad (zwr σ c i.toNatClampNeg x) c (.inr (0, n)) = .inl (ca 0, n, .inl (upd (σ.1 c) i.toNatClampNeg x)) := by simp [zcell, zwr, zrow, zrowL]
    rw [e]
    exact hP1)
theorem z_iast0 {c n j : Nat} {i : Int32} {x : Int32} {T : Type} {R0 : T} {f : zSt → T} (ha : shp[c]? = some (.inr (0, n))) (hd : zD cc pc .iastore 1 pc') (hin : vp_in i n) (hj : i.toNatClampNeg = j) (h : nm (zwr σ c j x) f = R0) (K : ∀ τ, f τ = R0 → zAW G d own cc nL C pc' lv st τ) : zAW G d own cc nL C pc lv (.int x :: .int i :: .ref (zad G c) :: st) σ := by
  obtain ⟨l, D, ca, ad⟩ := G
  obtain ⟨p, e, R, s, m, args, below, meth, cd, A, cells, slots, Q⟩ := C
  intro S H locs ls hP hS hl
  obtain ⟨⟨hx, hb, hml, hown, hts⟩, ⟨hi, hA, hF⟩, hd1, hd2, hc1, hc2⟩ := id S
  obtain ⟨hd, rfl⟩ := hd
  subst hj
  refine va_iast (tys := zTys ca) hx hb hF.1.1 hP (zW_Ds hi hA) hS c 0 (zW_get ha) rfl hin hd (fun H1 locs1 hP1 hD1 hS1 => ?_)
  refine K _ h S H1 locs1 ls ?_ hS1 hl
  exact (zW_set ha (σ := σ) (τ := zwr σ c i.toNatClampNeg x) (fun d hd => ⟨by simp [zwr, zrow, zrowL, hd], by simp [zwr, zrow, zrowL, hd]⟩)) ▸ (by
    have e : zcell ca ad (zwr σ c i.toNatClampNeg x) c (.inr (0, n)) = .inl (ca 0, n, .inl (upd (σ.1 c) i.toNatClampNeg x)) := by simp [zcell, zwr, zrow, zrowL]
    rw [e]
    exact hP1)
theorem z_bast {c n : Nat} {i : Int32} {x : Int32} {T : Type} {R0 : T} {f : zSt → Option T} (ha : shp[c]? = some (.inr (1, n))) (hd : zD cc pc .bastore 1 pc') (h : gd (vp_in i n) (nm (zwr σ c i.toNatClampNeg (vp_nar .byte x)) f) = some R0) (K : ∀ τ, f τ = some R0 → zAW G d own cc nL C pc' lv st τ) : zAW G d own cc nL C pc lv (.int x :: .int i :: .ref (zad G c) :: st) σ := by
  obtain ⟨l, D, ca, ad⟩ := G
  obtain ⟨p, e, R, s, m, args, below, meth, cd, A, cells, slots, Q⟩ := C
  intro S H locs ls hP hS hl
  obtain ⟨⟨hx, hb, hml, hown, hts⟩, ⟨hi, hA, hF⟩, hd1, hd2, hc1, hc2⟩ := id S
  obtain ⟨hd, rfl⟩ := hd
  obtain ⟨hin, h⟩ := gd_e h
  refine va_bast (tys := zTys ca) hx hb hF.1.1 hP (zW_Ds hi hA) hS c 1 (zW_get ha) rfl hin hd (fun H1 locs1 hP1 hD1 hS1 => ?_)
  refine K _ h S H1 locs1 ls ?_ hS1 hl
  exact (zW_set ha (σ := σ) (τ := zwr σ c i.toNatClampNeg (vp_nar .byte x)) (fun d hd => ⟨by simp [zwr, zrow, zrowL, hd], by simp [zwr, zrow, zrowL, hd]⟩)) ▸ (by
    have e : zcell ca ad (zwr σ c i.toNatClampNeg (vp_nar .byte x)) c (.inr (1, n)) = .inl (ca 1, n, .inl (upd (σ.1 c) i.toNatClampNeg (vp_nar .byte x))) := by simp [zcell, zwr, zrow, zrowL]
    rw [e]
    exact hP1)
theorem z_bast0 {c n j : Nat} {i : Int32} {x : Int32} {T : Type} {R0 : T} {f : zSt → T} (ha : shp[c]? = some (.inr (1, n))) (hd : zD cc pc .bastore 1 pc') (hin : vp_in i n) (hj : i.toNatClampNeg = j) (h : nm (zwr σ c j (vp_nar .byte x)) f = R0) (K : ∀ τ, f τ = R0 → zAW G d own cc nL C pc' lv st τ) : zAW G d own cc nL C pc lv (.int x :: .int i :: .ref (zad G c) :: st) σ := by
  obtain ⟨l, D, ca, ad⟩ := G
  obtain ⟨p, e, R, s, m, args, below, meth, cd, A, cells, slots, Q⟩ := C
  intro S H locs ls hP hS hl
  obtain ⟨⟨hx, hb, hml, hown, hts⟩, ⟨hi, hA, hF⟩, hd1, hd2, hc1, hc2⟩ := id S
  obtain ⟨hd, rfl⟩ := hd
  subst hj
  refine va_bast (tys := zTys ca) hx hb hF.1.1 hP (zW_Ds hi hA) hS c 1 (zW_get ha) rfl hin hd (fun H1 locs1 hP1 hD1 hS1 => ?_)
  refine K _ h S H1 locs1 ls ?_ hS1 hl
  exact (zW_set ha (σ := σ) (τ := zwr σ c i.toNatClampNeg (vp_nar .byte x)) (fun d hd => ⟨by simp [zwr, zrow, zrowL, hd], by simp [zwr, zrow, zrowL, hd]⟩)) ▸ (by
    have e : zcell ca ad (zwr σ c i.toNatClampNeg (vp_nar .byte x)) c (.inr (1, n)) = .inl (ca 1, n, .inl (upd (σ.1 c) i.toNatClampNeg (vp_nar .byte x))) := by simp [zcell, zwr, zrow, zrowL]
    rw [e]
    exact hP1)
theorem z_last {c n : Nat} {i : Int32} {x : Int64} {T : Type} {R0 : T} {f : zSt → Option T} (ha : shp[c]? = some (.inr (2, n))) (hd : zD cc pc .lastore 1 pc') (h : gd (vp_in i n) (nm (zwrL σ c i.toNatClampNeg x) f) = some R0) (K : ∀ τ, f τ = some R0 → zAW G d own cc nL C pc' lv st τ) : zAW G d own cc nL C pc lv (.long x :: .int i :: .ref (zad G c) :: st) σ := by
  obtain ⟨l, D, ca, ad⟩ := G
  obtain ⟨p, e, R, s, m, args, below, meth, cd, A, cells, slots, Q⟩ := C
  intro S H locs ls hP hS hl
  obtain ⟨⟨hx, hb, hml, hown, hts⟩, ⟨hi, hA, hF⟩, hd1, hd2, hc1, hc2⟩ := id S
  obtain ⟨hd, rfl⟩ := hd
  obtain ⟨hin, h⟩ := gd_e h
  refine va_last (tys := zTys ca) hx hb hF.1.1 hP (zW_Ds hi hA) hS c 2 (zW_get ha) rfl hin hd (fun H1 locs1 hP1 hD1 hS1 => ?_)
  refine K _ h S H1 locs1 ls ?_ hS1 hl
  exact (zW_set ha (σ := σ) (τ := zwrL σ c i.toNatClampNeg x) (fun d hd => ⟨by simp [zwrL, zrow, zrowL, hd], by simp [zwrL, zrow, zrowL, hd]⟩)) ▸ (by
    have e : zcell ca ad (zwrL σ c i.toNatClampNeg x) c (.inr (2, n)) = .inl (ca 2, n, .inr (.inl (vp_updL (σ.2 c) i.toNatClampNeg x))) := by simp [zcell, zwrL, zrow, zrowL]
    rw [e]
    exact hP1)
theorem z_last0 {c n j : Nat} {i : Int32} {x : Int64} {T : Type} {R0 : T} {f : zSt → T} (ha : shp[c]? = some (.inr (2, n))) (hd : zD cc pc .lastore 1 pc') (hin : vp_in i n) (hj : i.toNatClampNeg = j) (h : nm (zwrL σ c j x) f = R0) (K : ∀ τ, f τ = R0 → zAW G d own cc nL C pc' lv st τ) : zAW G d own cc nL C pc lv (.long x :: .int i :: .ref (zad G c) :: st) σ := by
  obtain ⟨l, D, ca, ad⟩ := G
  obtain ⟨p, e, R, s, m, args, below, meth, cd, A, cells, slots, Q⟩ := C
  intro S H locs ls hP hS hl
  obtain ⟨⟨hx, hb, hml, hown, hts⟩, ⟨hi, hA, hF⟩, hd1, hd2, hc1, hc2⟩ := id S
  obtain ⟨hd, rfl⟩ := hd
  subst hj
  refine va_last (tys := zTys ca) hx hb hF.1.1 hP (zW_Ds hi hA) hS c 2 (zW_get ha) rfl hin hd (fun H1 locs1 hP1 hD1 hS1 => ?_)
  refine K _ h S H1 locs1 ls ?_ hS1 hl
  exact (zW_set ha (σ := σ) (τ := zwrL σ c i.toNatClampNeg x) (fun d hd => ⟨by simp [zwrL, zrow, zrowL, hd], by simp [zwrL, zrow, zrowL, hd]⟩)) ▸ (by
    have e : zcell ca ad (zwrL σ c i.toNatClampNeg x) c (.inr (2, n)) = .inl (ca 2, n, .inr (.inl (vp_updL (σ.2 c) i.toNatClampNeg x))) := by simp [zcell, zwrL, zrow, zrowL]
    rw [e]
    exact hP1)
theorem z_alen {c n kd : Nat} {v : Int32} (ha : shp[c]? = some (.inr (kd, n))) (hk : kd = 0 ∨ kd = 1 ∨ kd = 2) (hv : Int32.ofNat n = v) (hd : zD cc pc .arraylength 1 pc') (K : zAW G d own cc nL C pc' lv (.int v :: st) σ) : zAW G d own cc nL C pc lv (.ref (zad G c) :: st) σ := by
  obtain ⟨l, D, ca, ad⟩ := G
  obtain ⟨p, e, R, s, m, args, below, meth, cd, A, cells, slots, Q⟩ := C
  intro S H locs ls hP hS hl
  obtain ⟨⟨hx, hb, hml, hown, hts⟩, ⟨hi, hA, hF⟩, hd1, hd2, hc1, hc2⟩ := id S
  obtain ⟨hd, rfl⟩ := hd
  rcases hk with rfl | rfl | rfl
  · exact va_alen (tys := zTys ca) hx hb hF.1.1 hP c 0 (zW_get ha) rfl hv hd (K S H locs ls hP hS hl)
  · exact va_alen (tys := zTys ca) hx hb hF.1.1 hP c 1 (zW_get ha) rfl hv hd (K S H locs ls hP hS hl)
  · exact va_alen (tys := zTys ca) hx hb hF.1.1 hP c 2 (zW_get ha) rfl hv hd (K S H locs ls hP hS hl)
end Z
