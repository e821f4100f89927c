section Z
variable {G : zG} {d : Nat} {own : String} {cc : ByteArray} {nL : Nat} {C : zC} {pc pc' : Nat} {lv : List (Nat × Value)} {st : List Value} {σ : zSt}
theorem z_copyi {idx c0 c1 n0 n1 k : Nat} {n : Int32} {T : Type} {R0 : T} {f : zSt → T} (hm : (Cond.methodLink own idx arraycopyName ∈ zT ∧ Cond.native arraycopyName ∈ zT) ∧ Cond.static arraycopyName ∈ zT ∧ Cond.initialized "java/lang/System" ∈ zT) (h0 : shp[c0]? = some (.inr (0, n0))) (h1 : shp[c1]? = some (.inr (0, n1))) (hn : ¬ n < 0 ∧ n.toNatClampNeg = k) (hk : k ≤ n0 ∧ k ≤ n1) (hdd : 1 ≤ d) (hd : zD cc pc (.invokestatic idx) 3 pc') (h : nm (zrow σ c1 (va_cpy (σ.1 c0) (σ.1 c1) 0 0 k)) f = R0) (K : ∀ τ, f τ = R0 → zAW G d own cc nL C pc' lv [] τ) : zAW G d own cc nL C pc lv (.int n :: .int 0 :: .ref (zad G c1) :: .int 0 :: .ref (zad G c0) :: []) σ := by
  obtain ⟨l, D, ca, ad⟩ := G
  obtain ⟨p, e, R, s, m, args, below, meth, cd, A, cells, slots, Q⟩ := C
  intro S H locs ls hP hS hl
  obtain ⟨⟨hx, hb, hml, hown, hts⟩, ⟨hi, hA, hF⟩, hd1, hd2, hc1, hc2⟩ := id S
  obtain ⟨hd, rfl⟩ := hd
  obtain ⟨hn, rfl⟩ := hn
  refine va_copyi (tys := zTys ca) hx hb (hml.trans hl.1.symm) hown (hts _ hm.1.1) (hts _ hm.1.2) (hts _ hm.2.1) (hts _ hm.2.2) hF.1.1 hP (zW_Ds hi hA) hS c0 c1 0 0 (zW_get h0) (zW_get h1) rfl rfl rfl (by decide) (by decide) hn (by have e : (0 : Int32).toNatClampNeg = 0 := rfl; rw [e]; omega) (by have e : (0 : Int32).toNatClampNeg = 0 := rfl; rw [e]; omega) (fun _ _ => rfl) (by omega) (Nat.le_trans (m := 41) (by decide +kernel) (by omega)) hd (fun H1 locs1 hP1 hD1 hS1 => ?_)
  refine K _ h S H1 locs1 ls ?_ hS1 hl
  exact (zW_set h1 (σ := σ) (τ := zrow σ c1 (va_cpy (σ.1 c0) (σ.1 c1) 0 0 n.toNatClampNeg)) (fun d hd => ⟨by simp [zrow, zrowL, hd], by simp [zrow, zrowL, hd]⟩)) ▸ (by
    have e : zcell ca ad (zrow σ c1 (va_cpy (σ.1 c0) (σ.1 c1) 0 0 n.toNatClampNeg)) c1 (.inr (0, n1)) = .inl (ca 0, n1, .inl (va_cpy (σ.1 c0) (σ.1 c1) 0 0 n.toNatClampNeg)) := by simp [zcell, zrow, zrowL]
    rw [e]
    exact hP1)
theorem z_copyl {idx c0 c1 n0 n1 k : Nat} {n : Int32} {T : Type} {R0 : T} {f : zSt → T} (hm : (Cond.methodLink own idx arraycopyName ∈ zT ∧ Cond.native arraycopyName ∈ zT) ∧ Cond.static arraycopyName ∈ zT ∧ Cond.initialized "java/lang/System" ∈ zT) (h0 : shp[c0]? = some (.inr (2, n0))) (h1 : shp[c1]? = some (.inr (2, n1))) (hn : ¬ n < 0 ∧ n.toNatClampNeg = k) (hk : k ≤ n0 ∧ k ≤ n1) (hdd : 1 ≤ d) (hd : zD cc pc (.invokestatic idx) 3 pc') (h : nm (zrowL σ c1 (va_cpy (σ.2 c0) (σ.2 c1) 0 0 k)) f = R0) (K : ∀ τ, f τ = R0 → zAW G d own cc nL C pc' lv [] τ) : zAW G d own cc nL C pc lv (.int n :: .int 0 :: .ref (zad G c1) :: .int 0 :: .ref (zad G c0) :: []) σ := by
  obtain ⟨l, D, ca, ad⟩ := G
  obtain ⟨p, e, R, s, m, args, below, meth, cd, A, cells, slots, Q⟩ := C
  intro S H locs ls hP hS hl
  obtain ⟨⟨hx, hb, hml, hown, hts⟩, ⟨hi, hA, hF⟩, hd1, hd2, hc1, hc2⟩ := id S
  obtain ⟨hd, rfl⟩ := hd
  obtain ⟨hn, rfl⟩ := hn
  refine va_copyl (tys := zTys ca) hx hb (hml.trans hl.1.symm) hown (hts _ hm.1.1) (hts _ hm.1.2) (hts _ hm.2.1) (hts _ hm.2.2) hF.1.1 hP (zW_Ds hi hA) hS c0 c1 2 2 (zW_get h0) (zW_get h1) rfl rfl rfl (by decide) (by decide) hn (by have e : (0 : Int32).toNatClampNeg = 0 := rfl; rw [e]; omega) (by have e : (0 : Int32).toNatClampNeg = 0 := rfl; rw [e]; omega) (fun _ _ => rfl) (by omega) (Nat.le_trans (m := 41) (by decide +kernel) (by omega)) hd (fun H1 locs1 hP1 hD1 hS1 => ?_)
  refine K _ h S H1 locs1 ls ?_ hS1 hl
  exact (zW_set h1 (σ := σ) (τ := zrowL σ c1 (va_cpy (σ.2 c0) (σ.2 c1) 0 0 n.toNatClampNeg)) (fun d hd => ⟨by simp [zrow, zrowL, hd], by simp [zrow, zrowL, hd]⟩)) ▸ (by
    have e : zcell ca ad (zrowL σ c1 (va_cpy (σ.2 c0) (σ.2 c1) 0 0 n.toNatClampNeg)) c1 (.inr (2, n1)) = .inl (ca 2, n1, .inr (.inl (va_cpy (σ.2 c0) (σ.2 c1) 0 0 n.toNatClampNeg))) := by simp [zcell, zrow, zrowL]
    rw [e]
    exact hP1)
theorem z_ireturn {v : Int32} (hR : zR G C (some .int) (some (.int v)) σ) (hd : decode cc pc = .ok (.ireturn, 1)) : zAW G d own cc nL C pc lv [.int v] σ := by
  obtain ⟨l, D, ca, ad⟩ := G
  obtain ⟨p, e, R, s, m, args, below, meth, cd, A, cells, slots, Q⟩ := C
  intro S H locs ls hP hS hl
  obtain ⟨⟨hx, hb, hml, hown, hts⟩, ⟨hi, hA, hF⟩, hd1, hd2, hc1, hc2⟩ := id S
  obtain ⟨r1, r2, rfl, rfl⟩ := hR
  exact W.iret hx hb r1 (fun t ht hW => ⟨rfl, by rw [ht]; exact hP, hS.F ht⟩) hS.2.2 hd r2
theorem z_zreturn {v : Int32} (hR : zR G C (some .boolean) (some (.int v)) σ) (hd : decode cc pc = .ok (.ireturn, 1)) (hv : v = 0 ∨ v = 1) : zAW G d own cc nL C pc lv [.int v] σ := by
  obtain ⟨l, D, ca, ad⟩ := G
  obtain ⟨p, e, R, s, m, args, below, meth, cd, A, cells, slots, Q⟩ := C
  intro S H locs ls hP hS hl
  obtain ⟨⟨hx, hb, hml, hown, hts⟩, ⟨hi, hA, hF⟩, hd1, hd2, hc1, hc2⟩ := id S
  obtain ⟨r1, r2, rfl, rfl⟩ := hR
  exact W.zret hx hb r1 (by rcases hv with rfl | rfl <;> decide) (fun t ht hW => ⟨rfl, by rw [ht]; exact hP, hS.F ht⟩) hS.2.2 hd r2
theorem z_lreturn {v : Int64} (hR : zR G C (some .long) (some (.long v)) σ) (hd : decode cc pc = .ok (.lreturn, 1)) : zAW G d own cc nL C pc lv [.long v] σ := by
  obtain ⟨l, D, ca, ad⟩ := G
  obtain ⟨p, e, R, s, m, args, below, meth, cd, A, cells, slots, Q⟩ := C
  intro S H locs ls hP hS hl
  obtain ⟨⟨hx, hb, hml, hown, hts⟩, ⟨hi, hA, hF⟩, hd1, hd2, hc1, hc2⟩ := id S
  obtain ⟨r1, r2, rfl, rfl⟩ := hR
  exact W.lret hx hb r1 (fun t ht hW => ⟨rfl, by rw [ht]; exact hP, hS.F ht⟩) hS.2.2 hd r2
theorem z_vreturn (hR : zR G C none none σ) (hd : decode cc pc = .ok (.return_, 1)) : zAW G d own cc nL C pc lv [] σ := by
  obtain ⟨l, D, ca, ad⟩ := G
  obtain ⟨p, e, R, s, m, args, below, meth, cd, A, cells, slots, Q⟩ := C
  intro S H locs ls hP hS hl
  obtain ⟨⟨hx, hb, hml, hown, hts⟩, ⟨hi, hA, hF⟩, hd1, hd2, hc1, hc2⟩ := id S
  obtain ⟨r1, r2, rfl, rfl⟩ := hR
  exact W.vret hx hb r1 (fun t ht hW => ⟨rfl, by rw [ht]; exact hP, hS.F ht⟩) hS.2.2 hd r2
end Z
