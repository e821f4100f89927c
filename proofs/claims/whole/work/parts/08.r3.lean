section Z
variable {G : zG} {d : Nat} {own : String} {cc : ByteArray} {nL : Nat} {C : zC} {pc pc' : Nat} {lv : List (Nat × Value)} {st : List Value} {σ : zSt}
theorem z_gets_hi {idx : Nat} (hc : Cond.fieldLink own idx "GiantHeart$Seeker" "HIGHEST" "[I" ∈ zT) (hd : zD cc pc (.getstatic idx) 3 pc') (K : zAW G d own cc nL C pc' lv (.ref (zad G 1000) :: st) σ) : zAW G d own cc nL C pc lv st σ := by
  obtain ⟨l, D, ca, ad⟩ := G
  obtain ⟨p, e, R, s, m, args, below, meth, cd, A, cells, slots, Q⟩ := C
  intro S H locs ls hP hS hl
  obtain ⟨⟨hx, hb, hml, hown, hts⟩, ⟨hi, hA, hF⟩, hd1, hd2, hc1, hc2⟩ := id S
  obtain ⟨hd, rfl⟩ := hd
  exact va_gets hx hb hF.2.1.1.1 hS hown (hts _ hc) (fun _ h9 => h9) hd (K S H locs ls hP hS hl)
theorem z_kald_hi {i : Int32} {T : Type} {R0 : T} {X : Option T} (hd : zD cc pc .iaload 1 pc') (h : gd (vp_in i 6) X = some R0) (K : X = some R0 → zAW G d own cc nL C pc' lv (.int (zHi i.toNatClampNeg) :: st) σ) : zAW G d own cc nL C pc lv (.int i :: .ref (zad G 1000) :: st) σ := by
  obtain ⟨l, D, ca, ad⟩ := G
  obtain ⟨p, e, R, s, m, args, below, meth, cd, A, cells, slots, Q⟩ := C
  intro S H locs ls hP hS hl
  obtain ⟨⟨hx, hb, hml, hown, hts⟩, ⟨hi, hA, hF⟩, hd1, hd2, hc1, hc2⟩ := id S
  obtain ⟨hd, rfl⟩ := hd
  obtain ⟨hin, h⟩ := gd_e h
  exact va_ti hx hb hF.2.1.1.2 hS hin rfl hd (K h S H locs ls hP hS hl)
theorem z_gets_po {idx : Nat} (hc : Cond.fieldLink own idx "GiantHeart$Seeker" "POWERS" "[I" ∈ zT) (hd : zD cc pc (.getstatic idx) 3 pc') (K : zAW G d own cc nL C pc' lv (.ref (zad G 1001) :: st) σ) : zAW G d own cc nL C pc lv st σ := by
  obtain ⟨l, D, ca, ad⟩ := G
  obtain ⟨p, e, R, s, m, args, below, meth, cd, A, cells, slots, Q⟩ := C
  intro S H locs ls hP hS hl
  obtain ⟨⟨hx, hb, hml, hown, hts⟩, ⟨hi, hA, hF⟩, hd1, hd2, hc1, hc2⟩ := id S
  obtain ⟨hd, rfl⟩ := hd
  exact va_gets hx hb hF.2.1.2.1 hS hown (hts _ hc) (fun _ h9 => h9) hd (K S H locs ls hP hS hl)
theorem z_kald_po {i : Int32} {T : Type} {R0 : T} {X : Option T} (hd : zD cc pc .iaload 1 pc') (h : gd (vp_in i 3) X = some R0) (K : X = some R0 → zAW G d own cc nL C pc' lv (.int (zPo i.toNatClampNeg) :: st) σ) : zAW G d own cc nL C pc lv (.int i :: .ref (zad G 1001) :: st) σ := by
  obtain ⟨l, D, ca, ad⟩ := G
  obtain ⟨p, e, R, s, m, args, below, meth, cd, A, cells, slots, Q⟩ := C
  intro S H locs ls hP hS hl
  obtain ⟨⟨hx, hb, hml, hown, hts⟩, ⟨hi, hA, hF⟩, hd1, hd2, hc1, hc2⟩ := id S
  obtain ⟨hd, rfl⟩ := hd
  obtain ⟨hin, h⟩ := gd_e h
  exact va_ti hx hb hF.2.1.2.2 hS hin rfl hd (K h S H locs ls hP hS hl)
theorem z_ldcS_law (ho : own = "GiantHeart$Law") (hd : zD cc pc (.ldc 108) 2 pc') (K : zAW G d own cc nL C pc' lv (.ref (zad G 1002) :: st) σ) : zAW G d own cc nL C pc lv st σ := by
  subst ho
  obtain ⟨l, D, ca, ad⟩ := G
  obtain ⟨p, e, R, s, m, args, below, meth, cd, A, cells, slots, Q⟩ := C
  intro S H locs ls hP hS hl
  obtain ⟨⟨hx, hb, hml, hown, hts⟩, ⟨hi, hA, hF⟩, hd1, hd2, hc1, hc2⟩ := id S
  obtain ⟨hd, rfl⟩ := hd
  exact va_ldcS hx hb hown hF.2.2.2.2.1 hd (K S H locs ls hP hS hl)
theorem z_ldcS_tale (ho : own = "GiantHeart$Tale") (hd : zD cc pc (.ldc 28) 2 pc') (K : zAW G d own cc nL C pc' lv (.ref (zad G 1003) :: st) σ) : zAW G d own cc nL C pc lv st σ := by
  subst ho
  obtain ⟨l, D, ca, ad⟩ := G
  obtain ⟨p, e, R, s, m, args, below, meth, cd, A, cells, slots, Q⟩ := C
  intro S H locs ls hP hS hl
  obtain ⟨⟨hx, hb, hml, hown, hts⟩, ⟨hi, hA, hF⟩, hd1, hd2, hc1, hc2⟩ := id S
  obtain ⟨hd, rfl⟩ := hd
  exact va_ldcS hx hb hown hF.2.2.2.2.2 hd (K S H locs ls hP hS hl)
def zCl (ci : Nat) (C : String) (T : u_T) (N : Nat) (ty : Nat → FieldType) : Prop := vwCl[ci]? = some (C, T, N) ∧ (∀ w ∈ u_ws C T N, w ∈ zT) ∧ (∀ k, k < N → parseFieldDescriptor (T k).2.2.1 = some (ty k)) ∧ (∀ a, a < N → ∀ b, b < N → a ≠ b → (T a).2.1 ≠ (T b).2.1)
def zFG (own : String) (idx c k : Nat) (f : zF) : Prop := ∃ (ci : Nat) (fs : List zF) (C : String) (T : u_T) (N : Nat) (ty : Nat → FieldType), shp[c]? = some (.inl (ci, fs)) ∧ fs[k]? = some f ∧ zCl ci C T N ty ∧ k < N ∧ Cond.fieldLink own idx (T k).1 (T k).2.1 (T k).2.2.1 ∈ zT
def zFP (own : String) (idx c k : Nat) (f : zF) (ft : FieldType) : Prop := ∃ (ci : Nat) (fs : List zF) (C : String) (T : u_T) (N : Nat) (ty : Nat → FieldType), shp[c]? = some (.inl (ci, fs)) ∧ fs[k]? = some f ∧ zCl ci C T N ty ∧ k < N ∧ Cond.fieldLink own idx (T k).1 (T k).2.1 (T k).2.2.1 ∈ zT ∧ (T k).2.2.2 = false ∧ parseFieldDescriptor (T k).2.2.1 = some ft
theorem z_geti {idx c k : Nat} (hf : zFG own idx c k none) (hd : zD cc pc (.getfield idx) 3 pc') (K : zAW G d own cc nL C pc' lv (.int (σ.1 c k) :: st) σ) : zAW G d own cc nL C pc lv (.ref (zad G c) :: st) σ := by
  obtain ⟨l, D, ca, ad⟩ := G
  obtain ⟨p, e, R, s, m, args, below, meth, cd, A, cells, slots, Q⟩ := C
  intro S H locs ls hP hS hl
  obtain ⟨⟨hx, hb, hml, hown, hts⟩, ⟨hi, hA, hF⟩, hd1, hd2, hc1, hc2⟩ := id S
  obtain ⟨hd, rfl⟩ := hd
  obtain ⟨ci, fs, C', T', N, ty, g1, g2, ⟨g3, g4, g5, g6⟩, g7, g8⟩ := hf
  exact va_get (D := D) (tys := zTys ca) hx hb hts g4 hown hF.1.1 hP c (zW_get g1) g3 k g7 (hts _ g8) (fun _ h9 => h9) (by rw [List.getElem?_mapIdx, g2]; rfl) hd (K S H locs ls hP hS hl)
theorem z_getl {idx c k : Nat} (hf : zFG own idx c k (some none)) (hd : zD cc pc (.getfield idx) 3 pc') (K : zAW G d own cc nL C pc' lv (.long (σ.2 c k) :: st) σ) : zAW G d own cc nL C pc lv (.ref (zad G c) :: st) σ := by
  obtain ⟨l, D, ca, ad⟩ := G
  obtain ⟨p, e, R, s, m, args, below, meth, cd, A, cells, slots, Q⟩ := C
  intro S H locs ls hP hS hl
  obtain ⟨⟨hx, hb, hml, hown, hts⟩, ⟨hi, hA, hF⟩, hd1, hd2, hc1, hc2⟩ := id S
  obtain ⟨hd, rfl⟩ := hd
  obtain ⟨ci, fs, C', T', N, ty, g1, g2, ⟨g3, g4, g5, g6⟩, g7, g8⟩ := hf
  exact va_get (D := D) (tys := zTys ca) hx hb hts g4 hown hF.1.1 hP c (zW_get g1) g3 k g7 (hts _ g8) (fun _ h9 => h9) (by rw [List.getElem?_mapIdx, g2]; rfl) hd (K S H locs ls hP hS hl)
theorem z_getr {idx c k r : Nat} (hf : zFG own idx c k (some (some r))) (hd : zD cc pc (.getfield idx) 3 pc') (K : zAW G d own cc nL C pc' lv (.ref (zad G r) :: st) σ) : zAW G d own cc nL C pc lv (.ref (zad G c) :: st) σ := by
  obtain ⟨l, D, ca, ad⟩ := G
  obtain ⟨p, e, R, s, m, args, below, meth, cd, A, cells, slots, Q⟩ := C
  intro S H locs ls hP hS hl
  obtain ⟨⟨hx, hb, hml, hown, hts⟩, ⟨hi, hA, hF⟩, hd1, hd2, hc1, hc2⟩ := id S
  obtain ⟨hd, rfl⟩ := hd
  obtain ⟨ci, fs, C', T', N, ty, g1, g2, ⟨g3, g4, g5, g6⟩, g7, g8⟩ := hf
  exact va_get (D := D) (tys := zTys ca) hx hb hts g4 hown hF.1.1 hP c (zW_get g1) g3 k g7 (hts _ g8) (fun _ h9 => h9) (by rw [List.getElem?_mapIdx, g2]; rfl) hd (K S H locs ls hP hS hl)
theorem z_puti {idx c k : Nat} {v : Int32} {T : Type} {R0 : T} {f : zSt → T} (hf : zFP own idx c k none .int) (hd : zD cc pc (.putfield idx) 3 pc') (h : nm (zwr σ c k v) f = R0) (K : ∀ τ, f τ = R0 → zAW G d own cc nL C pc' lv st τ) : zAW G d own cc nL C pc lv (.int v :: .ref (zad G c) :: st) σ := by
  obtain ⟨l, D, ca, ad⟩ := G
  obtain ⟨p, e, R, s, m, args, below, meth, cd, A, cells, slots, Q⟩ := C
  intro S H locs ls hP hS hl
  obtain ⟨⟨hx, hb, hml, hown, hts⟩, ⟨hi, hA, hF⟩, hd1, hd2, hc1, hc2⟩ := id S
  obtain ⟨hd, rfl⟩ := hd
  obtain ⟨ci, fs, C', T', N, ty, g1, g2, ⟨g3, g4, g5, g6⟩, g7, g8, g9, g10⟩ := hf
  refine va_put (D := D) (tys := zTys ca) hx hb hts g4 ty g5 g6 hown hF.1.1 hP (zW_Ds hi hA) hS c (zW_get g1) g3 k g7 (hts _ g8) (fun _ h9 => h9) g9 g10 rfl rfl (by simp [(List.getElem?_eq_some_iff.mp g2).1]) hd (fun H1 locs1 hP1 hD1 hS1 => ?_)
  refine K _ h S H1 locs1 ls ?_ hS1 hl
  rw [← zW_puti g1 g2]
  exact hP1
theorem z_putl {idx c k : Nat} {v : Int64} {T : Type} {R0 : T} {f : zSt → T} (hf : zFP own idx c k (some none) .long) (hd : zD cc pc (.putfield idx) 3 pc') (h : nm (zwrL σ c k v) f = R0) (K : ∀ τ, f τ = R0 → zAW G d own cc nL C pc' lv st τ) : zAW G d own cc nL C pc lv (.long v :: .ref (zad G c) :: st) σ := by
  obtain ⟨l, D, ca, ad⟩ := G
  obtain ⟨p, e, R, s, m, args, below, meth, cd, A, cells, slots, Q⟩ := C
  intro S H locs ls hP hS hl
  obtain ⟨⟨hx, hb, hml, hown, hts⟩, ⟨hi, hA, hF⟩, hd1, hd2, hc1, hc2⟩ := id S
  obtain ⟨hd, rfl⟩ := hd
  obtain ⟨ci, fs, C', T', N, ty, g1, g2, ⟨g3, g4, g5, g6⟩, g7, g8, g9, g10⟩ := hf
  refine va_put (D := D) (tys := zTys ca) hx hb hts g4 ty g5 g6 hown hF.1.1 hP (zW_Ds hi hA) hS c (zW_get g1) g3 k g7 (hts _ g8) (fun _ h9 => h9) g9 g10 rfl rfl (by simp [(List.getElem?_eq_some_iff.mp g2).1]) hd (fun H1 locs1 hP1 hD1 hS1 => ?_)
  refine K _ h S H1 locs1 ls ?_ hS1 hl
  rw [← zW_putl g1 g2]
  exact hP1
theorem z_putb {idx c k : Nat} {v : Int32} {T : Type} {R0 : T} {f : zSt → T} (hf : zFP own idx c k none .boolean) (hd : zD cc pc (.putfield idx) 3 pc') (hv : v = 0 ∨ v = 1) (h : nm (zwr σ c k v) f = R0) (K : ∀ τ, f τ = R0 → zAW G d own cc nL C pc' lv st τ) : zAW G d own cc nL C pc lv (.int v :: .ref (zad G c) :: st) σ := by
  obtain ⟨l, D, ca, ad⟩ := G
  obtain ⟨p, e, R, s, m, args, below, meth, cd, A, cells, slots, Q⟩ := C
  intro S H locs ls hP hS hl
  obtain ⟨⟨hx, hb, hml, hown, hts⟩, ⟨hi, hA, hF⟩, hd1, hd2, hc1, hc2⟩ := id S
  obtain ⟨hd, rfl⟩ := hd
  obtain ⟨ci, fs, C', T', N, ty, g1, g2, ⟨g3, g4, g5, g6⟩, g7, g8, g9, g10⟩ := hf
  refine va_put (D := D) (tys := zTys ca) hx hb hts g4 ty g5 g6 hown hF.1.1 hP (zW_Ds hi hA) hS c (zW_get g1) g3 k g7 (hts _ g8) (fun _ h9 => h9) g9 g10 (by rcases hv with rfl | rfl <;> decide) (by rcases hv with rfl | rfl <;> decide) (by simp [(List.getElem?_eq_some_iff.mp g2).1]) hd (fun H1 locs1 hP1 hD1 hS1 => ?_)
  refine K _ h S H1 locs1 ls ?_ hS1 hl
  rw [← zW_puti g1 g2]
  exact hP1
end Z
