section CZ
variable {G : zG} {bs d : Nat} {own : String} {cc : ByteArray} {nL KC NS : Nat} {C : cC} {pc pc' : Nat} {lv : List (Nat × Value)} {st : List Value} {sh : List zShc} {σ : zSt} {kc ns : Nat}
theorem c_sub {lv' : List (Nat × Value)} (ks : List Nat) (h : lv_pick lv ks = lv') (K : cAW G bs d own cc nL KC NS C pc lv' st sh σ kc ns) : cAW G bs d own cc nL KC NS C pc lv st sh σ kc ns := by
  obtain ⟨l, D, ca, ad⟩ := G
  obtain ⟨p, e, R, s, m, args, below, meth, cd, Q⟩ := C
  intro S H locs ls hP hz hS hl
  obtain ⟨⟨hx, hb, hml, hown, hts⟩, ⟨hi, hK⟩, hd1, hd2, hc1, hc2, hbs⟩ := id S
  exact K S H locs ls hP hz hS (lv_sub hl ks h)
theorem c_iload {i : Nat} {x : Int32} (hd : zIL cc pc i pc') (j : Nat) (hj : lv[j]? = some (i, .int x)) (K : cAW G bs d own cc nL KC NS C pc' lv (.int x :: st) sh σ kc ns) : cAW G bs d own cc nL KC NS C pc lv st sh σ kc ns := by
  obtain ⟨l, D, ca, ad⟩ := G
  obtain ⟨p, e, R, s, m, args, below, meth, cd, Q⟩ := C
  intro S H locs ls hP hz hS hl
  obtain ⟨⟨hx, hb, hml, hown, hts⟩, ⟨hi, hK⟩, hd1, hd2, hc1, hc2, hbs⟩ := id S
  rcases hd with ⟨k, hd, hi, rfl⟩ | ⟨hd, rfl⟩
  · exact lv_iload_n hx hb hd hi (lv_at hl j hj) (K S H locs ls hP hz hS hl)
  · exact lv_iload hx hb hd (lv_at hl j hj) (K S H locs ls hP hz hS hl)
theorem c_aload {i x : Nat} (hd : zAL cc pc i pc') (j : Nat) (hj : lv[j]? = some (i, .ref x)) (K : cAW G bs d own cc nL KC NS C pc' lv (.ref x :: st) sh σ kc ns) : cAW G bs d own cc nL KC NS C pc lv st sh σ kc ns := by
  obtain ⟨l, D, ca, ad⟩ := G
  obtain ⟨p, e, R, s, m, args, below, meth, cd, Q⟩ := C
  intro S H locs ls hP hz hS hl
  obtain ⟨⟨hx, hb, hml, hown, hts⟩, ⟨hi, hK⟩, hd1, hd2, hc1, hc2, hbs⟩ := id S
  rcases hd with ⟨k, hd, hi, rfl⟩ | ⟨hd, rfl⟩
  · exact lv_aload_n hx hb hd hi (lv_at hl j hj) (K S H locs ls hP hz hS hl)
  · exact lv_aload hx hb hd (lv_at hl j hj) (K S H locs ls hP hz hS hl)
theorem c_istore {i : Nat} {x : Int32} (hd : zIS cc pc i pc') (hn : i < nL) (lv' : List (Nat × Value)) (hl' : (i, Value.int x) :: lv.filter (fun q => !(q.1 == i) && !(q.1 + 1 == i && q.2.category == 2)) = lv') (K : cAW G bs d own cc nL KC NS C pc' lv' st sh σ kc ns) : cAW G bs d own cc nL KC NS C pc lv (.int x :: st) sh σ kc ns := by
  obtain ⟨l, D, ca, ad⟩ := G
  obtain ⟨p, e, R, s, m, args, below, meth, cd, Q⟩ := C
  intro S H locs ls hP hz hS hl
  obtain ⟨⟨hx, hb, hml, hown, hts⟩, ⟨hi, hK⟩, hd1, hd2, hc1, hc2, hbs⟩ := id S
  rcases hd with ⟨k, hd, hi, rfl⟩ | ⟨hd, rfl⟩
  · exact lv_istore_n hx hb hd hi hl hn hl' (fun ls hl => K S H locs ls hP hz hS hl)
  · exact lv_istore hx hb hd hl hn hl' (fun ls hl => K S H locs ls hP hz hS hl)
theorem c_astore {i : Nat} {x : Nat} (hd : zAS cc pc i pc') (hn : i < nL) (lv' : List (Nat × Value)) (hl' : (i, Value.ref x) :: lv.filter (fun q => !(q.1 == i) && !(q.1 + 1 == i && q.2.category == 2)) = lv') (K : cAW G bs d own cc nL KC NS C pc' lv' st sh σ kc ns) : cAW G bs d own cc nL KC NS C pc lv (.ref x :: st) sh σ kc ns := by
  obtain ⟨l, D, ca, ad⟩ := G
  obtain ⟨p, e, R, s, m, args, below, meth, cd, Q⟩ := C
  intro S H locs ls hP hz hS hl
  obtain ⟨⟨hx, hb, hml, hown, hts⟩, ⟨hi, hK⟩, hd1, hd2, hc1, hc2, hbs⟩ := id S
  rcases hd with ⟨k, hd, hi, rfl⟩ | ⟨hd, rfl⟩
  · exact lv_astore_n hx hb hd hi hl hn hl' (fun ls hl => K S H locs ls hP hz hS hl)
  · exact lv_astore hx hb hd hl hn hl' (fun ls hl => K S H locs ls hP hz hS hl)
theorem c_iinc {i : Nat} {n : Int} {x : Int32} (hd : zD cc pc (.iinc i n) 3 pc') (j : Nat) (hj : lv[j]? = some (i, .int x)) (v : Int32) (hv : x + Int32.ofInt n = v) (hn : i < nL) (lv' : List (Nat × Value)) (hl' : (i, Value.int v) :: lv.filter (fun q => !(q.1 == i) && !(q.1 + 1 == i && q.2.category == 2)) = lv') (K : cAW G bs d own cc nL KC NS C pc' lv' st sh σ kc ns) : cAW G bs d own cc nL KC NS C pc lv st sh σ kc ns := by
  obtain ⟨l, D, ca, ad⟩ := G
  obtain ⟨p, e, R, s, m, args, below, meth, cd, Q⟩ := C
  intro S H locs ls hP hz hS hl
  obtain ⟨⟨hx, hb, hml, hown, hts⟩, ⟨hi, hK⟩, hd1, hd2, hc1, hc2, hbs⟩ := id S
  obtain ⟨hd, rfl⟩ := hd
  exact lv_iinc hx hb hd hl hj hv hn hl' (fun ls hl => K S H locs ls hP hz hS hl)
theorem c_ic {v : Int32} (hd : zK cc pc v pc') (K : cAW G bs d own cc nL KC NS C pc' lv (.int v :: st) sh σ kc ns) : cAW G bs d own cc nL KC NS C pc lv st sh σ kc ns := by
  obtain ⟨l, D, ca, ad⟩ := G
  obtain ⟨p, e, R, s, m, args, below, meth, cd, Q⟩ := C
  intro S H locs ls hP hz hS hl
  obtain ⟨⟨hx, hb, hml, hown, hts⟩, ⟨hi, hK⟩, hd1, hd2, hc1, hc2, hbs⟩ := id S
  rcases hd with ⟨n, hd, hv, rfl⟩ | ⟨n, hd, hv, rfl⟩ | ⟨n, hd, hv, rfl⟩
  · exact lv_iconst hx hb hd hv (K S H locs ls hP hz hS hl)
  · exact lv_bipush hx hb hd hv (K S H locs ls hP hz hS hl)
  · exact lv_sipush hx hb hd hv (K S H locs ls hP hz hS hl)
theorem c_ldc {i : Nat} {v : Int32} (hc : Cond.constant own i v ∈ zT) (hd : zD cc pc (.ldc i) 2 pc') (K : cAW G bs d own cc nL KC NS C pc' lv (.int v :: st) sh σ kc ns) : cAW G bs d own cc nL KC NS C pc lv st sh σ kc ns := by
  obtain ⟨l, D, ca, ad⟩ := G
  obtain ⟨p, e, R, s, m, args, below, meth, cd, Q⟩ := C
  intro S H locs ls hP hz hS hl
  obtain ⟨⟨hx, hb, hml, hown, hts⟩, ⟨hi, hK⟩, hd1, hd2, hc1, hc2, hbs⟩ := id S
  obtain ⟨hd, rfl⟩ := hd
  exact lv_ldc hx hb hown (hts _ hc) hd (K S H locs ls hP hz hS hl)
theorem c_goto {off : Int} (hd : zB cc pc (.goto off) off pc' (pc + 3)) (K : cAW G bs d own cc nL KC NS C pc' lv st sh σ kc ns) : cAW G bs d own cc nL KC NS C pc lv st sh σ kc ns := by
  obtain ⟨l, D, ca, ad⟩ := G
  obtain ⟨p, e, R, s, m, args, below, meth, cd, Q⟩ := C
  intro S H locs ls hP hz hS hl
  obtain ⟨⟨hx, hb, hml, hown, hts⟩, ⟨hi, hK⟩, hd1, hd2, hc1, hc2, hbs⟩ := id S
  obtain ⟨hd, ht, -⟩ := hd
  exact lv_goto hx hb hd ht (K S H locs ls hP hz hS hl)
theorem c_icmp_ge {x y : Int32} {off : Int} {tgt : Nat} (hd : zB cc pc (.if_icmp .ge off) off tgt pc') (k1 : y ≤ x → cAW G bs d own cc nL KC NS C tgt lv st sh σ kc ns) (k2 : ¬ y ≤ x → cAW G bs d own cc nL KC NS C pc' lv st sh σ kc ns) : cAW G bs d own cc nL KC NS C pc lv (.int y :: .int x :: st) sh σ kc ns := by
  obtain ⟨l, D, ca, ad⟩ := G
  obtain ⟨p, e, R, s, m, args, below, meth, cd, Q⟩ := C
  intro S H locs ls hP hz hS hl
  obtain ⟨⟨hx, hb, hml, hown, hts⟩, ⟨hi, hK⟩, hd1, hd2, hc1, hc2, hbs⟩ := id S
  obtain ⟨hd, ht, rfl⟩ := hd
  exact lv_icmp_ge hx hb hd ht (fun q => k1 q S H locs ls hP hz hS hl) (fun q => k2 q S H locs ls hP hz hS hl)
theorem c_dup {v : Value} (hd : zD cc pc .dup 1 pc') (hv : v.category = 1) (K : cAW G bs d own cc nL KC NS C pc' lv (v :: v :: st) sh σ kc ns) : cAW G bs d own cc nL KC NS C pc lv (v :: st) sh σ kc ns := by
  obtain ⟨l, D, ca, ad⟩ := G
  obtain ⟨p, e, R, s, m, args, below, meth, cd, Q⟩ := C
  intro S H locs ls hP hz hS hl
  obtain ⟨⟨hx, hb, hml, hown, hts⟩, ⟨hi, hK⟩, hd1, hd2, hc1, hc2, hbs⟩ := id S
  obtain ⟨hd, rfl⟩ := hd
  exact lv_dup hx hb hd hv (K S H locs ls hP hz hS hl)
theorem c_obj {idx x : Nat} (hm : (Cond.methodLink own idx objectInit ∈ zT ∧ Cond.instanceMethod objectInit ∈ zT) ∧ Cond.code objectInit ⟨#[0xb1]⟩ 1 none ∈ zT) (hdd : 1 ≤ d) (hcat : (st.map fun v => v.category).sum ≤ 8) (hd : zD cc pc (.invokespecial idx) 3 pc') (K : cAW G bs d own cc nL KC NS C pc' lv st sh σ kc ns) : cAW G bs d own cc nL KC NS C pc lv (.ref x :: st) sh σ kc ns := by
  obtain ⟨l, D, ca, ad⟩ := G
  obtain ⟨p, e, R, s, m, args, below, meth, cd, Q⟩ := C
  intro S H locs ls hP hz hS hl
  obtain ⟨⟨hx, hb, hml, hown, hts⟩, ⟨hi, hK⟩, hd1, hd2, hc1, hc2, hbs⟩ := id S
  obtain ⟨hd, rfl⟩ := hd
  have h9 := lv_room (m := m) (pc := pc) (ls := ls) (rest := .ref x :: st) hcat
  exact W.objInit hx hb hown (hts _ hm.1.1) (hts _ hm.1.2) (hts _ hm.2) rfl (by rw [hml]; exact hl.1) rfl hd (by omega) (by omega) (K S H locs ls hP hz hS hl)
theorem c_getr {idx c k r ci N : Nat} {fs : List zFc} {C2 : String} {T2 : u_T} {ty : Nat → FieldType} (g1 : sh[c]? = some (.inl (ci, fs))) (g2 : fs[k]? = some (some (some (some r)))) (g3 : zCl ci C2 T2 N ty) (g7 : k < N) (g8 : Cond.fieldLink own idx (T2 k).1 (T2 k).2.1 (T2 k).2.2.1 ∈ zT) (hd : zD cc pc (.getfield idx) 3 pc') (K : cAW G bs d own cc nL KC NS C pc' lv (.ref (zad G r) :: st) sh σ kc ns) : cAW G bs d own cc nL KC NS C pc lv (.ref (zad G c) :: st) sh σ kc ns := by
  obtain ⟨l, D, ca, ad⟩ := G
  obtain ⟨p, e, R, s, m, args, below, meth, cd, Q⟩ := C
  intro S H locs ls hP hz hS hl
  obtain ⟨⟨hx, hb, hml, hown, hts⟩, ⟨hi, hK⟩, hd1, hd2, hc1, hc2, hbs⟩ := id S
  obtain ⟨hd, rfl⟩ := hd
  exact va_get (D := D) (tys := zTys ca) hx hb hts g3.2.1 hown hK hP c (cW_get g1) g3.1 k g7 (hts _ g8) (fun _ h9 => h9) (by rw [List.getElem?_mapIdx, g2]; rfl) hd (K S H locs ls hP hz hS hl)
theorem c_D {ad : Nat → Nat} {ca : Nat → ClassId} (hi : ∀ k, k < 1000 → ad k = bs + k) (hn : sh.length ≤ 1000) : va_D (fun q => bs ≤ q) (cW sh ca ad σ) := cW_D (fun i j h1 h2 h => by
    rw [hi i (by omega), hi j (by omega)] at h
    omega) (fun k hk => by rw [hi k (by omega)]; omega)
theorem c_puti {idx c k ci N : Nat} {fs : List zFc} {C2 : String} {T2 : u_T} {ty : Nat → FieldType} {v : Int32} (g1 : sh[c]? = some (.inl (ci, fs))) (g2 : fs[k]? = some none) (hn : sh.length ≤ 1000) (g3 : zCl ci C2 T2 N ty) (g7 : k < N) (g8 : Cond.fieldLink own idx (T2 k).1 (T2 k).2.1 (T2 k).2.2.1 ∈ zT) (g9 : (T2 k).2.2.2 = false) (ft : FieldType) (g10 : parseFieldDescriptor (T2 k).2.2.1 = some ft) (hf : narrow ft (.int v) = .int v ∧ fits ft (.int v) = true) (hd : zD cc pc (.putfield idx) 3 pc') (σ' : zSt) (hσ : zwr σ c k v = σ') (K : cAW G bs d own cc nL KC NS C pc' lv st sh σ' kc ns) : cAW G bs d own cc nL KC NS C pc lv (.int v :: .ref (zad G c) :: st) sh σ kc ns := by
  obtain ⟨l, D, ca, ad⟩ := G
  obtain ⟨p, e, R, s, m, args, below, meth, cd, Q⟩ := C
  intro S H locs ls hP hz hS hl
  obtain ⟨⟨hx, hb, hml, hown, hts⟩, ⟨hi, hK⟩, hd1, hd2, hc1, hc2, hbs⟩ := id S
  obtain ⟨hd, rfl⟩ := hd
  subst hσ
  have hP0 := hP
  obtain ⟨g31, g32, g33, g34⟩ := g3
  have hap := va_apart (own := own) hts g32 ty g33 g34 hK g31
  obtain ⟨r9, h1, cell, q1, q2, q3, q4⟩ := hP c _ (cW_get g1)
  have hr : r9 = (C2, T2, N) := Option.some.inj (h1.symm.trans g31)
  subst hr
  obtain ⟨hSl, hfc, kC, hkC, hkind⟩ := hK.1 ci _ g31
  obtain ⟨cf, kf, fi, f, hfi, hsl⟩ := hSl k g7
  have hlay := hts _ (g32 _ (u_in_lay g7))
  unfold u_lay at hlay
  rw [if_neg (by rw [g9]; decide)] at hlay
  have hst := (u_facts hfc hkC (u_lays hts g32 g7) hfi).1
  have h6 := u_store hfc hkC hkind hlay hfi g10 hf.1 hf.2
  refine W.putK hx hb (f := f) ⟨hown, hts _ g8, ⟨_, _, _, hfi⟩, hst⟩ (by rw [q2]; exact h6) q1 q3 (by rw [hsl]; exact k2_hasslot (q4 k g7)) rfl rfl hd fun H1 e1 e2 e3 => ?_
  rw [hsl] at e1
  refine K S H1 _ ls ?_ (by rw [e2]; exact hz) (hS.put e2 e3 ((c_D hi hn).2 c _ (cW_get g1))) hl
  have hP1 := hP0.set (c_D hi hn) (cW_get g1) (e := .inr (ci, (fs.mapIdx (fun j f => cfv ad σ c j f)).set k (.int v))) ⟨_, g31, t_OB.to (V := updV (vp_V (fs.mapIdx (fun j f => cfv ad σ c j f))) k (.int v)) ⟨_, e1, q2, q3, t_set q4 hap g7 (.int v)⟩ (fun j _ => vp_updV_set (by simp [(List.getElem?_eq_some_iff.mp g2).1]) (.int v) j)⟩ e3
  rw [cW_puti g1 g2] at hP1
  exact hP1
theorem c_putr {idx c k r ci N : Nat} {fs : List zFc} {C2 : String} {T2 : u_T} {ty : Nat → FieldType} (hC : cIn C) (g1 : sh[c]? = some (.inl (ci, fs))) (g2 : k < fs.length) (hn : sh.length ≤ 1000) (g3 : zCl ci C2 T2 N ty) (g7 : k < N) (g8 : Cond.fieldLink own idx (T2 k).1 (T2 k).2.1 (T2 k).2.2.1 ∈ zT) (g9 : (T2 k).2.2.2 = true) (ho : (T2 k).1 = own) (ft : FieldType) (g10 : parseFieldDescriptor (T2 k).2.2.1 = some ft) (hf : ∀ a : Nat, narrow ft (.ref a) = .ref a ∧ fits ft (.ref a) = true) (hd : zD cc pc (.putfield idx) 3 pc') (sh' : List zShc) (hsh : sh.set c (.inl (ci, fs.set k (some (some (some r))))) = sh') (K : cAW G bs d own cc nL KC NS C pc' lv st sh' σ kc ns) : cAW G bs d own cc nL KC NS C pc lv (.ref (zad G r) :: .ref (zad G c) :: st) sh σ kc ns := by
  obtain ⟨l, D, ca, ad⟩ := G
  obtain ⟨p, e, R, s, m, args, below, meth, cd, Q⟩ := C
  intro S H locs ls hP hz hS hl
  obtain ⟨⟨hx, hb, hml, hown, hts⟩, ⟨hi, hK⟩, hd1, hd2, hc1, hc2, hbs⟩ := id S
  obtain ⟨hd, rfl⟩ := hd
  subst hsh
  have hP0 := hP
  obtain ⟨g31, g32, g33, g34⟩ := g3
  have hap := va_apart (own := own) hts g32 ty g33 g34 hK g31
  obtain ⟨r9, h1, cell, q1, q2, q3, q4⟩ := hP c _ (cW_get g1)
  have hr : r9 = (C2, T2, N) := Option.some.inj (h1.symm.trans g31)
  subst hr
  obtain ⟨hSl, hfc, kC, hkC, hkind⟩ := hK.1 ci _ g31
  obtain ⟨cf, kf, fi, f, hfi, hsl⟩ := hSl k g7
  have hlay := hts _ (g32 _ (u_in_lay g7))
  unfold u_lay at hlay
  rw [if_pos g9] at hlay
  have hst := (u_facts hfc hkC (u_lays hts g32 g7) hfi).1
  have hcf : m.cls = cf := by
    obtain ⟨_, _, c', _, _, _, -, -, hf', -, -, -, hown2, -⟩ := Cond.laysFinal_spec hlay
    have e1 : c' = cf := by have := hfi.symm.trans hf'; simp at this; exact this.1.symm
    rw [ho] at hown2
    rw [← e1]; exact Option.some.inj (hown.symm.trans hown2)
  have h6 := u_fits hfc hkC hkind (Or.inr hlay) hfi g10 (hf (ad r)).1 (hf (ad r)).2
  refine W.putFinK hx hb hown (hts _ g8) hfi hst hcf hC (by rw [q2]; exact h6) q1 q3 (by rw [hsl]; exact k2_hasslot (q4 k g7)) rfl rfl hd fun H1 e1 e2 e3 => ?_
  rw [hsl] at e1
  refine K S H1 _ ls ?_ (by rw [e2, List.length_set]; exact hz) (hS.put e2 e3 ((c_D hi hn).2 c _ (cW_get g1))) hl
  have hP1 := hP0.set (c_D hi hn) (cW_get g1) (e := .inr (ci, (fs.mapIdx (fun j f => cfv ad σ c j f)).set k (.ref (ad r)))) ⟨_, g31, t_OB.to (V := updV (vp_V (fs.mapIdx (fun j f => cfv ad σ c j f))) k (.ref (ad r))) ⟨_, e1, q2, q3, t_set q4 hap g7 (.ref (ad r))⟩ (fun j _ => vp_updV_set (by simp [g2]) (.ref (ad r)) j)⟩ e3
  rw [cW_putr g1 g2] at hP1
  exact hP1
theorem c_iast {c n j : Nat} {i : Int32} {x : Int32} (ha : sh[c]? = some (.inr (0, n))) (hn : sh.length ≤ 1000) (hd : zD cc pc .iastore 1 pc') (hin : vp_in i n) (hj : i.toNatClampNeg = j) (σ' : zSt) (hσ : zwr σ c j x = σ') (K : cAW G bs d own cc nL KC NS C pc' lv st sh σ' kc ns) : cAW G bs d own cc nL KC NS C pc lv (.int x :: .int i :: .ref (zad G c) :: st) sh σ kc ns := by
  obtain ⟨l, D, ca, ad⟩ := G
  obtain ⟨p, e, R, s, m, args, below, meth, cd, Q⟩ := C
  intro S H locs ls hP hz hS hl
  obtain ⟨⟨hx, hb, hml, hown, hts⟩, ⟨hi, hK⟩, hd1, hd2, hc1, hc2, hbs⟩ := id S
  obtain ⟨hd, rfl⟩ := hd
  subst hj
  subst hσ
  refine W.iast hx hb (hP c _ (cW_get ha)) ((hK.2 0 _ rfl).1 n (fun j => .int (σ.1 c j))) (fun q => by cases q) (by show ¬ (i < 0 ∨ (arrV _ _ _).slots.size ≤ _); rw [arrV_size]; exact hin) rfl rfl hd fun H1 e z oq => ?_
  refine K S H1 _ ls ?_ (by rw [z]; exact hz) (hS.put z oq ((c_D hi hn).2 c _ (cW_get ha))) hl
  have hP1 := hP.set (c_D hi hn) (cW_get ha) (e := .inl (ca 0, n, .inl (upd (σ.1 c) i.toNatClampNeg x))) (by
    show H1[_]? = some (vp_cell _ _)
    rw [e]
    show some (Cell.setSlot (vp_cell (ca 0) (n, .inl (σ.1 c))) _ _) = _
    rw [vp_cell_i, vp_cell_i, arrV_store]
    congr 2
    funext q
    by_cases hq : q = i.toNatClampNeg
    · subst hq
      simp [updV, upd]
    · simp [updV, upd, hq]) oq
  have e9 := cW_set (ca := ca) (ad := ad) (s' := .inr (0, n)) ha (σ := σ) (τ := zwr σ c i.toNatClampNeg x) (fun d hd => ⟨by simp [zwr, zrow, hd], rfl⟩)
  rw [cW_same ha] at e9
  rw [← e9]
  have e8 : ccell ca ad (zwr σ c i.toNatClampNeg x) c (.inr (0, n)) = .inl (ca 0, n, .inl (upd (σ.1 c) i.toNatClampNeg x)) := by simp [ccell, zwr, zrow]
  rw [e8]
  exact hP1
def cdk : FieldType → Option zFc → Bool
  | .int, some none => true
  | .boolean, some none => true
  | .long, some (some none) => true
  | .object _, some (some (some none)) => true
  | .array _, some (some (some none)) => true
  | _, _ => false
theorem cdk_e {ad : Nat → Nat} {σ : zSt} {n j : Nat} {t : FieldType} {fs : List zFc} (h : cdk t fs[j]? = true) (h1 : σ.1 n = fun _ => 0) (h2 : σ.2 n = fun _ => 0) : defaultValue t = vp_V (fs.mapIdx (fun j f => cfv ad σ n j f)) j := by
  unfold vp_V
  rw [List.getD_eq_getElem?_getD, List.getElem?_mapIdx]
  generalize fs[j]? = q at h ⊢
  unfold cdk at h
  split at h <;> first | (simp [cfv, h1, h2, defaultValue]; done) | cases h
theorem c_new {idx ci N : Nat} {C2 : String} {T2 : u_T} {ty : Nat → FieldType} {n : Nat} (fs : List zFc) (g3 : zCl ci C2 T2 N ty) (hw : Cond.classLink own idx C2 ∈ zT ∧ Cond.instantiable C2 N ∈ zT ∧ Cond.initialized C2 ∈ zT) (hn : sh.length = n) (hn2 : n < 1000) (hf : ∀ j, j < N → cdk (ty j) fs[j]? = true) (hz1 : σ.1 n = fun _ => 0) (hz2 : σ.2 n = fun _ => 0) (hk : kc + 1 ≤ KC) (hs : ns + N ≤ NS) (hd : zD cc pc (.new idx) 3 pc') (sh' : List zShc) (hsh : sh ++ [.inl (ci, fs)] = sh') (k2 n2 : Nat) (hk2 : kc + 1 = k2) (hn3 : ns + N = n2) (K : cAW G bs d own cc nL KC NS C pc' lv (.ref (zad G n) :: st) sh' σ k2 n2) : cAW G bs d own cc nL KC NS C pc lv st sh σ kc ns := by
  obtain ⟨l, D, ca, ad⟩ := G
  obtain ⟨p, e, R, s, m, args, below, meth, cd, Q⟩ := C
  intro S H locs ls hP hz hS hl
  obtain ⟨⟨hx, hb, hml, hown, hts⟩, ⟨hi, hK⟩, hd1, hd2, hc1, hc2, hbs⟩ := id S
  obtain ⟨hd, rfl⟩ := hd
  subst hsh; subst hk2; subst hn3
  have hKn := hK.1 ci _ g3.1
  refine W.newcK hx hb hown (hts _ hw.1) (hts _ hw.2.1) (hts _ hw.2.2) rfl hd (by omega) (by omega) hKn.2.1 rfl fun H1 kC hkC e1 z1 o1 => ?_
  have hk : ∀ (k : Nat) (x : Nat × va_E), (cW sh ca ad σ)[k]? = some x → H1[x.1]? = H[x.1]? := fun k x hx => o1 x.1 ((hP k x hx).lt)
  have hq : ad n = H.size := (hi n hn2).trans (by rw [hz, hn])
  have hP1 : va_P D vwCl (cW (sh ++ [.inl (ci, fs)]) ca ad σ) H1 := by
    rw [← cW_push hn]
    refine (hP.kept hk).app (fun k x hx => ?_)
    have hz : k < 1 := (List.getElem?_eq_some_iff.mp hx).1
    rw [show k = 0 by omega] at hx
    cases hx
    exact ⟨_, g3.1, (u_born ty hts g3.2.1 hKn hkC (by rw [hq]; exact e1) g3.2.2.1).to (fun j hj => cdk_e (hf j hj) hz1 hz2)⟩
  have h9 : W p l e R s m args below meth cd H1 locs (kc + 1) (ns + N) Q (F0 m (pc + 3) ls (.ref (ad n) :: st)) := K S H1 locs ls hP1 (by rw [z1, hz, List.length_append]; rfl) ⟨Nat.le_trans hS.1 (by omega), fun x h1 h2 => (o1 x (Nat.lt_of_lt_of_le h1 hS.1)).trans (hS.2.1 x h1 h2), hS.2.2⟩ hl
  rw [hq] at h9
  exact h9
theorem c_newaI {v : Int32} {N n : Nat} (hw : Cond.arrayClass .int ∈ zT) (hv : ¬ v < 0) (hN : v.toNatClampNeg = N) (hby : N * componentBytes .int ≤ 536870912) (hn : sh.length = n) (hn2 : n < 1000) (hz1 : σ.1 n = fun _ => 0) (hz2 : σ.2 n = fun _ => 0) (hk : kc + 1 ≤ KC) (hs : ns + N ≤ NS) (hd : zD cc pc (.newarray .int) 2 pc') (sh' : List zShc) (hsh : sh ++ [.inr (0, N)] = sh') (k2 n2 : Nat) (hk2 : kc + 1 = k2) (hn3 : ns + N = n2) (K : cAW G bs d own cc nL KC NS C pc' lv (.ref (zad G n) :: st) sh' σ k2 n2) : cAW G bs d own cc nL KC NS C pc lv (.int v :: st) sh σ kc ns := by
  obtain ⟨l, D, ca, ad⟩ := G
  obtain ⟨p, e, R, s, m, args, below, meth, cd, Q⟩ := C
  intro S H locs ls hP hz hS hl
  obtain ⟨⟨hx, hb, hml, hown, hts⟩, ⟨hi, hK⟩, hd1, hd2, hc1, hc2, hbs⟩ := id S
  obtain ⟨hd, rfl⟩ := hd
  subst hsh; subst hk2; subst hn3
  refine va_newaK hx hb (atype := .int) (hts _ hw) rfl hd rfl hv hN hby (by omega) (by omega) rfl fun H1 cA e1 z1 o1 hAr hNm => ?_
  have hk : ∀ (k : Nat) (x : Nat × va_E), (cW sh ca ad σ)[k]? = some x → H1[x.1]? = H[x.1]? := fun k x hx => o1 x.1 ((hP k x hx).lt)
  have hq : ad n = H.size := (hi n hn2).trans (by rw [hz, hn])
  have hA9 : cA = ca 0 := Option.some.inj (hNm.symm.trans (hK.2 0 _ rfl).2)
  subst hA9
  have hP1 : va_P D vwCl (cW (sh ++ [.inr (0, N)]) ca ad σ) H1 := by
    rw [← cW_push hn]
    refine (hP.kept hk).app (fun k x hx => ?_)
    have hz : k < 1 := (List.getElem?_eq_some_iff.mp hx).1
    rw [show k = 0 by omega] at hx
    cases hx
    show H1[ad n]? = some (vp_cell (ca 0) (N, .inl (σ.1 n)))
    rw [hq, hz1]
    exact e1
  have h9 : W p l e R s m args below meth cd H1 locs (kc + 1) (ns + N) Q (F0 m (pc + 2) ls (.ref (ad n) :: st)) := K S H1 locs ls hP1 (by rw [z1, hz, List.length_append]; rfl) ⟨Nat.le_trans hS.1 (by omega), fun x h1 h2 => (o1 x (Nat.lt_of_lt_of_le h1 hS.1)).trans (hS.2.1 x h1 h2), hS.2.2⟩ hl
  rw [hq] at h9
  exact h9
theorem c_newaB {v : Int32} {N n : Nat} (hw : Cond.arrayClass .byte ∈ zT) (hv : ¬ v < 0) (hN : v.toNatClampNeg = N) (hby : N * componentBytes .byte ≤ 536870912) (hn : sh.length = n) (hn2 : n < 1000) (hz1 : σ.1 n = fun _ => 0) (hz2 : σ.2 n = fun _ => 0) (hk : kc + 1 ≤ KC) (hs : ns + N ≤ NS) (hd : zD cc pc (.newarray .byte) 2 pc') (sh' : List zShc) (hsh : sh ++ [.inr (1, N)] = sh') (k2 n2 : Nat) (hk2 : kc + 1 = k2) (hn3 : ns + N = n2) (K : cAW G bs d own cc nL KC NS C pc' lv (.ref (zad G n) :: st) sh' σ k2 n2) : cAW G bs d own cc nL KC NS C pc lv (.int v :: st) sh σ kc ns := by
  obtain ⟨l, D, ca, ad⟩ := G
  obtain ⟨p, e, R, s, m, args, below, meth, cd, Q⟩ := C
  intro S H locs ls hP hz hS hl
  obtain ⟨⟨hx, hb, hml, hown, hts⟩, ⟨hi, hK⟩, hd1, hd2, hc1, hc2, hbs⟩ := id S
  obtain ⟨hd, rfl⟩ := hd
  subst hsh; subst hk2; subst hn3
  refine va_newaK hx hb (atype := .byte) (hts _ hw) rfl hd rfl hv hN hby (by omega) (by omega) rfl fun H1 cA e1 z1 o1 hAr hNm => ?_
  have hk : ∀ (k : Nat) (x : Nat × va_E), (cW sh ca ad σ)[k]? = some x → H1[x.1]? = H[x.1]? := fun k x hx => o1 x.1 ((hP k x hx).lt)
  have hq : ad n = H.size := (hi n hn2).trans (by rw [hz, hn])
  have hA9 : cA = ca 1 := Option.some.inj (hNm.symm.trans (hK.2 1 _ rfl).2)
  subst hA9
  have hP1 : va_P D vwCl (cW (sh ++ [.inr (1, N)]) ca ad σ) H1 := by
    rw [← cW_push hn]
    refine (hP.kept hk).app (fun k x hx => ?_)
    have hz : k < 1 := (List.getElem?_eq_some_iff.mp hx).1
    rw [show k = 0 by omega] at hx
    cases hx
    show H1[ad n]? = some (vp_cell (ca 1) (N, .inl (σ.1 n)))
    rw [hq, hz1]
    exact e1
  have h9 : W p l e R s m args below meth cd H1 locs (kc + 1) (ns + N) Q (F0 m (pc + 2) ls (.ref (ad n) :: st)) := K S H1 locs ls hP1 (by rw [z1, hz, List.length_append]; rfl) ⟨Nat.le_trans hS.1 (by omega), fun x h1 h2 => (o1 x (Nat.lt_of_lt_of_le h1 hS.1)).trans (hS.2.1 x h1 h2), hS.2.2⟩ hl
  rw [hq] at h9
  exact h9
theorem c_newaJ {v : Int32} {N n : Nat} (hw : Cond.arrayClass .long ∈ zT) (hv : ¬ v < 0) (hN : v.toNatClampNeg = N) (hby : N * componentBytes .long ≤ 536870912) (hn : sh.length = n) (hn2 : n < 1000) (hz1 : σ.1 n = fun _ => 0) (hz2 : σ.2 n = fun _ => 0) (hk : kc + 1 ≤ KC) (hs : ns + N ≤ NS) (hd : zD cc pc (.newarray .long) 2 pc') (sh' : List zShc) (hsh : sh ++ [.inr (2, N)] = sh') (k2 n2 : Nat) (hk2 : kc + 1 = k2) (hn3 : ns + N = n2) (K : cAW G bs d own cc nL KC NS C pc' lv (.ref (zad G n) :: st) sh' σ k2 n2) : cAW G bs d own cc nL KC NS C pc lv (.int v :: st) sh σ kc ns := by
  obtain ⟨l, D, ca, ad⟩ := G
  obtain ⟨p, e, R, s, m, args, below, meth, cd, Q⟩ := C
  intro S H locs ls hP hz hS hl
  obtain ⟨⟨hx, hb, hml, hown, hts⟩, ⟨hi, hK⟩, hd1, hd2, hc1, hc2, hbs⟩ := id S
  obtain ⟨hd, rfl⟩ := hd
  subst hsh; subst hk2; subst hn3
  refine va_newaK hx hb (atype := .long) (hts _ hw) rfl hd rfl hv hN hby (by omega) (by omega) rfl fun H1 cA e1 z1 o1 hAr hNm => ?_
  have hk : ∀ (k : Nat) (x : Nat × va_E), (cW sh ca ad σ)[k]? = some x → H1[x.1]? = H[x.1]? := fun k x hx => o1 x.1 ((hP k x hx).lt)
  have hq : ad n = H.size := (hi n hn2).trans (by rw [hz, hn])
  have hA9 : cA = ca 2 := Option.some.inj (hNm.symm.trans (hK.2 2 _ rfl).2)
  subst hA9
  have hP1 : va_P D vwCl (cW (sh ++ [.inr (2, N)]) ca ad σ) H1 := by
    rw [← cW_push hn]
    refine (hP.kept hk).app (fun k x hx => ?_)
    have hz : k < 1 := (List.getElem?_eq_some_iff.mp hx).1
    rw [show k = 0 by omega] at hx
    cases hx
    show H1[ad n]? = some (vp_cell (ca 2) (N, .inr (.inl (σ.2 n))))
    rw [hq, hz2]
    exact e1
  have h9 : W p l e R s m args below meth cd H1 locs (kc + 1) (ns + N) Q (F0 m (pc + 2) ls (.ref (ad n) :: st)) := K S H1 locs ls hP1 (by rw [z1, hz, List.length_append]; rfl) ⟨Nat.le_trans hS.1 (by omega), fun x h1 h2 => (o1 x (Nat.lt_of_lt_of_le h1 hS.1)).trans (hS.2.1 x h1 h2), hS.2.2⟩ hl
  rw [hq] at h9
  exact h9
theorem c_ret (hR : cR G bs C kc ns sh σ) (hd : decode cc pc = .ok (.return_, 1)) : cAW G bs d own cc nL KC NS C pc lv [] sh σ kc ns := by
  obtain ⟨l, D, ca, ad⟩ := G
  obtain ⟨p, e, R, s, m, args, below, meth, cd, Q⟩ := C
  intro S H locs ls hP hz hS hl
  obtain ⟨⟨hx, hb, hml, hown, hts⟩, ⟨hi, hK⟩, hd1, hd2, hc1, hc2, hbs⟩ := id S
  obtain ⟨r1, r2, rfl⟩ := hR
  exact W.vret hx hb r1 (fun t ht hW => ⟨rfl, by rw [ht]; exact hP, by rw [ht]; exact hz, hS.F ht⟩) hS.2.2 hd r2
def cLI (own : String) (idx : Nat) (y : MethodName) (cc : ByteArray) (nL n : Nat) : Prop := (Cond.methodLink own idx y ∈ zT ∧ Cond.instanceMethod y ∈ zT ∧ Cond.initialized y.cls ∈ zT ∧ Cond.code y cc nL none ∈ zT) ∧ (y.cls ≠ "java/lang/invoke/MethodHandle" ∧ y.cls ≠ "java/lang/invoke/VarHandle" ∧ (parseMethodDescriptor y.desc).map (fun d => d.parameters.length) = some n) ∧ nL ≤ 22 ∧ y.name = "<init>"
theorem c_call {y : MethodName} {cc2 : ByteArray} {nL2 n idx d2 c0 KC2 NS2 : Nat} {As rest : List Value} {sh2 : List zShc} {τ : zSt} (hl0 : cLI own idx y cc2 nL2 n) (hd : zD cc pc (.invokespecial idx) 3 pc') (hM : cM G bs d2 KC2 NS2 y cc2 nL2 (.ref (zad G c0) :: As) sh σ sh2 τ) (hdd : d2 < d) (hn : As.length = n) (hcat : (rest.map fun v => v.category).sum ≤ 8) (hk : kc + KC2 ≤ KC) (hs : ns + NS2 ≤ NS) (k2 n2 : Nat) (hk2 : kc + KC2 = k2) (hn3 : ns + NS2 = n2) (K : cAW G bs d own cc nL KC NS C pc' lv rest sh2 τ k2 n2) : cAW G bs d own cc nL KC NS C pc lv (As.reverse ++ .ref (zad G c0) :: rest) sh σ kc ns := by
  obtain ⟨l, D, ca, ad⟩ := G
  obtain ⟨p, e, R, s, m, args, below, meth, cd, Q⟩ := C
  intro S H locs ls hP hz hS hl
  obtain ⟨⟨hx, hb, hml, hown, hts⟩, ⟨hi, hK⟩, hd1, hd2, hc1, hc2, hbs⟩ := id S
  obtain ⟨hd, rfl⟩ := hd
  subst hk2; subst hn3
  obtain ⟨⟨w1, w2, w4, w5⟩, hdesc, hnl, hini⟩ := hl0
  intro T hT X
  have run := va_runI (locs := locs) (e := e) (l := l) (below := below) (meth := meth) (cells := kc) (slots := ns) (As := As) (rest := rest) (b := ad c0) (g := F0 m pc ls (As.reverse ++ .ref (ad c0) :: rest)) ⟨hx, hb, hml, hown, hts⟩ hM ⟨callB_of (R := R) n hts (z_good w5) rfl rfl rfl (hts _ w4) (hts _ w1) hdesc ⟨by show d2 + 1 ≤ R.frames; omega, by show 8 + (nL2 + 11) + 41 * d2 ≤ R.locals; omega⟩, hini, hts _ w2⟩ ⟨fun a U g mk q => ⟨q.1, q.2.1, q.2.2.1, q.2.2.2.1, va_K.moved (u := U) (U := U.calling g mk a) (Vm.Alike.refl U.vm) q.2.2.2.2⟩, fun U hU hW => ⟨rfl, by rw [hU]; exact hP, by rw [hU]; exact hz, hi, va_K.moved hW.alike hK⟩⟩ rfl hn hl.1 rfl (lv_room hcat) hd ⟨by omega, by omega⟩
  obtain ⟨v, st₀, t, T', L, h0, X', hL, e1, e2, ⟨hv, hP1, hz1, hf⟩, go⟩ := run T hT X
  cases hv
  have hS2 : va_S (fun q => bs ≤ q) s.heap t.heap (locs ++ L) := by
    obtain ⟨hzz, hkk⟩ := hf
    rw [h0] at hzz hkk
    refine ⟨Nat.le_trans hS.1 hzz, fun q h1 h2 => ?_, fun q hq => ?_⟩
    · rw [hkk q (Nat.lt_of_lt_of_le h1 hS.1) h2]
      exact hS.2.1 q h1 h2
    · rcases List.mem_append.mp hq with h | h
      · exact hS.2.2 q h
      · exact hL q h
  obtain ⟨t2, a1, b1⟩ := K S t.heap (locs ++ L) ls hP1 hz1 hS2 hl T' e1 X'
  exact ⟨t2, go t2 a1, b1⟩
end CZ
