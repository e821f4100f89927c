section Z
variable {G : zG} {d : Nat} {own : String} {cc : ByteArray} {nL : Nat} {C : zC} {pc pc' : Nat} {lv : List (Nat × Value)} {st : List Value} {σ : zSt}
def nm {α : Type} {β : Type} (a : α) (f : α → β) : β := f a
noncomputable def gd {α : Type} (p : Prop) (x : Option α) : Option α := @ite _ p (Classical.propDecidable p) x none
def bd {α β : Type} (x : Option (α × zSt)) (f : α → zSt → Option β) : Option β := match x with
  | some q => f q.1 q.2
  | none => none
def zfix {S T : Type} (body : (S → Option T) → S → Option T) : Nat → S → Option T
  | 0, _ => none
  | n + 1, s => body (zfix body n) s
def zlim : Nat := 1000000
theorem gd_t {α : Type} {p : Prop} {x : Option α} (h : p) : gd p x = x := by
  unfold gd
  rw [if_pos h]
theorem gd_e {α : Type} {p : Prop} {x : Option α} {r : α} (h : gd p x = some r) : p ∧ x = some r := by
  unfold gd at h
  split at h
  · exact ⟨‹p›, h⟩
  · cases h
theorem bd_e {α β : Type} {x : Option (α × zSt)} {f : α → zSt → Option β} {r : β} (h : bd x f = some r) : ∃ q τ, x = some (q, τ) ∧ f q τ = some r := by
  cases x with
  | none => cases h
  | some q => exact ⟨q.1, q.2, rfl, h⟩
theorem zremU {w : Nat} (u v : BitVec w) : u - u / v * v = u % v := by
  have h : u = v * (u / v) + u % v := by
    apply BitVec.eq_of_toNat_eq
    simp only [BitVec.toNat_add, BitVec.toNat_mul, BitVec.toNat_udiv, BitVec.toNat_umod]
    rw [Nat.mod_add_mod, Nat.div_add_mod, Nat.mod_eq_of_lt u.isLt]
  have h2 : u - u / v * v = (v * (u / v) + u % v) - u / v * v := congrArg (fun z => z - u / v * v) h
  rw [h2, BitVec.mul_comm v (u / v), BitVec.add_comm, BitVec.add_sub_cancel]
theorem zremB {w : Nat} (x y : BitVec w) : x - x.sdiv y * y = x.srem y := by
  rw [BitVec.sdiv_eq, BitVec.srem_eq]
  cases x.msb <;> cases y.msb <;> simp only
  · exact zremU x y
  · rw [BitVec.neg_mul, ← BitVec.mul_neg]
    exact zremU x (-y)
  · have := zremU (-x) y
    rw [← this, BitVec.neg_sub, BitVec.neg_mul, BitVec.sub_eq_add_neg, BitVec.neg_neg, BitVec.add_comm, BitVec.neg_neg, BitVec.add_comm]
    rfl
  · have := zremU (-x) (-y)
    rw [← this, BitVec.mul_neg, BitVec.neg_sub, BitVec.sub_eq_add_neg, BitVec.neg_neg]
    rfl
theorem zrem32 (x y : Int32) : x - x / y * y = x % y := by
  apply Int32.toBitVec_inj.mp
  simp only [Int32.toBitVec_sub, Int32.toBitVec_mul, Int32.toBitVec_div, Int32.toBitVec_mod]
  exact zremB _ _
theorem zrem64 (x y : Int64) : x - x / y * y = x % y := by
  apply Int64.toBitVec_inj.mp
  simp only [Int64.toBitVec_sub, Int64.toBitVec_mul, Int64.toBitVec_div, Int64.toBitVec_mod]
  exact zremB _ _
theorem z_iload {i : Nat} {x : Int32} (hd : zIL cc pc i pc') (j : Nat) (hj : lv[j]? = some (i, .int x)) (K : zAW G d own cc nL C pc' lv (.int x :: st) σ) : zAW G d own cc nL C pc lv st σ := by
  obtain ⟨l, D, ca, ad⟩ := G
  obtain ⟨p, e, R, s, m, args, below, meth, cd, A, cells, slots, Q⟩ := C
  intro S H locs ls hP hS hl
  obtain ⟨⟨hx, hb, hml, hown, hts⟩, ⟨hi, hA, hF⟩, hd1, hd2, hc1, hc2⟩ := id S
  rcases hd with ⟨k, hd, hi, rfl⟩ | ⟨hd, rfl⟩
  · exact lv_iload_n hx hb hd hi (lv_at hl j hj) (K S H locs ls hP hS hl)
  · exact lv_iload hx hb hd (lv_at hl j hj) (K S H locs ls hP hS hl)
theorem z_lload {i : Nat} {x : Int64} (hd : zLL cc pc i pc') (j : Nat) (hj : lv[j]? = some (i, .long x)) (K : zAW G d own cc nL C pc' lv (.long x :: st) σ) : zAW G d own cc nL C pc lv st σ := by
  obtain ⟨l, D, ca, ad⟩ := G
  obtain ⟨p, e, R, s, m, args, below, meth, cd, A, cells, slots, Q⟩ := C
  intro S H locs ls hP hS hl
  obtain ⟨⟨hx, hb, hml, hown, hts⟩, ⟨hi, hA, hF⟩, hd1, hd2, hc1, hc2⟩ := id S
  rcases hd with ⟨k, hd, hi, rfl⟩ | ⟨hd, rfl⟩
  · exact lv_lload_n hx hb hd hi (lv_at hl j hj) (K S H locs ls hP hS hl)
  · exact lv_lload hx hb hd (lv_at hl j hj) (K S H locs ls hP hS hl)
theorem z_aload {i x : Nat} (hd : zAL cc pc i pc') (j : Nat) (hj : lv[j]? = some (i, .ref x)) (K : zAW G d own cc nL C pc' lv (.ref x :: st) σ) : zAW G d own cc nL C pc lv st σ := by
  obtain ⟨l, D, ca, ad⟩ := G
  obtain ⟨p, e, R, s, m, args, below, meth, cd, A, cells, slots, Q⟩ := C
  intro S H locs ls hP hS hl
  obtain ⟨⟨hx, hb, hml, hown, hts⟩, ⟨hi, hA, hF⟩, hd1, hd2, hc1, hc2⟩ := id S
  rcases hd with ⟨k, hd, hi, rfl⟩ | ⟨hd, rfl⟩
  · exact lv_aload_n hx hb hd hi (lv_at hl j hj) (K S H locs ls hP hS hl)
  · exact lv_aload hx hb hd (lv_at hl j hj) (K S H locs ls hP hS hl)
theorem z_istore {i : Nat} {x : Int32} (hd : zIS cc pc i pc') (hn : i < nL) (lv' : List (Nat × Value)) (hl' : (i, Value.int x) :: lv.filter (fun q => !(q.1 == i) && !(q.1 + 1 == i && q.2.category == 2)) = lv') (K : zAW G d own cc nL C pc' lv' st σ) : zAW G d own cc nL C pc lv (.int x :: st) σ := by
  obtain ⟨l, D, ca, ad⟩ := G
  obtain ⟨p, e, R, s, m, args, below, meth, cd, A, cells, slots, Q⟩ := C
  intro S H locs ls hP hS hl
  obtain ⟨⟨hx, hb, hml, hown, hts⟩, ⟨hi, hA, hF⟩, hd1, hd2, hc1, hc2⟩ := id S
  rcases hd with ⟨k, hd, hi, rfl⟩ | ⟨hd, rfl⟩
  · exact lv_istore_n hx hb hd hi hl hn hl' (fun ls hl => K S H locs ls hP hS hl)
  · exact lv_istore hx hb hd hl hn hl' (fun ls hl => K S H locs ls hP hS hl)
theorem z_astore {i : Nat} {x : Nat} (hd : zAS cc pc i pc') (hn : i < nL) (lv' : List (Nat × Value)) (hl' : (i, Value.ref x) :: lv.filter (fun q => !(q.1 == i) && !(q.1 + 1 == i && q.2.category == 2)) = lv') (K : zAW G d own cc nL C pc' lv' st σ) : zAW G d own cc nL C pc lv (.ref x :: st) σ := by
  obtain ⟨l, D, ca, ad⟩ := G
  obtain ⟨p, e, R, s, m, args, below, meth, cd, A, cells, slots, Q⟩ := C
  intro S H locs ls hP hS hl
  obtain ⟨⟨hx, hb, hml, hown, hts⟩, ⟨hi, hA, hF⟩, hd1, hd2, hc1, hc2⟩ := id S
  rcases hd with ⟨k, hd, hi, rfl⟩ | ⟨hd, rfl⟩
  · exact lv_astore_n hx hb hd hi hl hn hl' (fun ls hl => K S H locs ls hP hS hl)
  · exact lv_astore hx hb hd hl hn hl' (fun ls hl => K S H locs ls hP hS hl)
theorem z_lstore {i : Nat} {x : Int64} (hd : zLS cc pc i pc') (hn : i + 1 < nL) (lv' : List (Nat × Value)) (hl' : (i, Value.long x) :: lv.filter (fun q => !(q.1 == i) && (!(q.1 == i + 1) && !(q.1 + 1 == i && q.2.category == 2))) = lv') (K : zAW G d own cc nL C pc' lv' st σ) : zAW G d own cc nL C pc lv (.long x :: st) σ := by
  obtain ⟨l, D, ca, ad⟩ := G
  obtain ⟨p, e, R, s, m, args, below, meth, cd, A, cells, slots, Q⟩ := C
  intro S H locs ls hP hS hl
  obtain ⟨⟨hx, hb, hml, hown, hts⟩, ⟨hi, hA, hF⟩, hd1, hd2, hc1, hc2⟩ := id S
  rcases hd with ⟨k, hd, hi, rfl⟩ | ⟨hd, rfl⟩
  · exact lv_lstore_n hx hb hd hi hl hn hl' (fun ls hl => K S H locs ls hP hS hl)
  · exact lv_lstore hx hb hd hl hn hl' (fun ls hl => K S H locs ls hP hS hl)
theorem z_ic {v : Int32} (hd : zK cc pc v pc') (K : zAW G d own cc nL C pc' lv (.int v :: st) σ) : zAW G d own cc nL C pc lv st σ := by
  obtain ⟨l, D, ca, ad⟩ := G
  obtain ⟨p, e, R, s, m, args, below, meth, cd, A, cells, slots, Q⟩ := C
  intro S H locs ls hP hS hl
  obtain ⟨⟨hx, hb, hml, hown, hts⟩, ⟨hi, hA, hF⟩, hd1, hd2, hc1, hc2⟩ := id S
  rcases hd with ⟨n, hd, hv, rfl⟩ | ⟨n, hd, hv, rfl⟩ | ⟨n, hd, hv, rfl⟩
  · exact lv_iconst hx hb hd hv (K S H locs ls hP hS hl)
  · exact lv_bipush hx hb hd hv (K S H locs ls hP hS hl)
  · exact lv_sipush hx hb hd hv (K S H locs ls hP hS hl)
theorem z_lconst {n : Fin 2} (v : Int64) (hd : zD cc pc (.lconst n) 1 pc') (hv : Int64.ofNat (n : Nat) = v) (K : zAW G d own cc nL C pc' lv (.long v :: st) σ) : zAW G d own cc nL C pc lv st σ := by
  obtain ⟨l, D, ca, ad⟩ := G
  obtain ⟨p, e, R, s, m, args, below, meth, cd, A, cells, slots, Q⟩ := C
  intro S H locs ls hP hS hl
  obtain ⟨⟨hx, hb, hml, hown, hts⟩, ⟨hi, hA, hF⟩, hd1, hd2, hc1, hc2⟩ := id S
  obtain ⟨hd, rfl⟩ := hd
  exact lv_lconst hx hb hd hv (K S H locs ls hP hS hl)
theorem z_ldc {i : Nat} {v : Int32} (hc : Cond.constant own i v ∈ zT) (hd : zD cc pc (.ldc i) 2 pc') (K : zAW G d own cc nL C pc' lv (.int v :: st) σ) : zAW G d own cc nL C pc lv st σ := by
  obtain ⟨l, D, ca, ad⟩ := G
  obtain ⟨p, e, R, s, m, args, below, meth, cd, A, cells, slots, Q⟩ := C
  intro S H locs ls hP hS hl
  obtain ⟨⟨hx, hb, hml, hown, hts⟩, ⟨hi, hA, hF⟩, hd1, hd2, hc1, hc2⟩ := id S
  obtain ⟨hd, rfl⟩ := hd
  exact lv_ldc hx hb hown (hts _ hc) hd (K S H locs ls hP hS hl)
theorem z_ldcw {i : Nat} {v : Int32} (hc : Cond.constant own i v ∈ zT) (hd : zD cc pc (.ldc_w i) 3 pc') (K : zAW G d own cc nL C pc' lv (.int v :: st) σ) : zAW G d own cc nL C pc lv st σ := by
  obtain ⟨l, D, ca, ad⟩ := G
  obtain ⟨p, e, R, s, m, args, below, meth, cd, A, cells, slots, Q⟩ := C
  intro S H locs ls hP hS hl
  obtain ⟨⟨hx, hb, hml, hown, hts⟩, ⟨hi, hA, hF⟩, hd1, hd2, hc1, hc2⟩ := id S
  obtain ⟨hd, rfl⟩ := hd
  exact lv_ldcw hx hb hown (hts _ hc) hd (K S H locs ls hP hS hl)
theorem z_ldc2 {i : Nat} {v : Int64} (hc : Cond.constantLong own i v ∈ zT) (hd : zD cc pc (.ldc2_w i) 3 pc') (K : zAW G d own cc nL C pc' lv (.long v :: st) σ) : zAW G d own cc nL C pc lv st σ := by
  obtain ⟨l, D, ca, ad⟩ := G
  obtain ⟨p, e, R, s, m, args, below, meth, cd, A, cells, slots, Q⟩ := C
  intro S H locs ls hP hS hl
  obtain ⟨⟨hx, hb, hml, hown, hts⟩, ⟨hi, hA, hF⟩, hd1, hd2, hc1, hc2⟩ := id S
  obtain ⟨hd, rfl⟩ := hd
  exact lv_ldc2 hx hb hown (hts _ hc) hd (K S H locs ls hP hS hl)
theorem z_iadd {x y : Int32} (hd : zD cc pc .iadd 1 pc') (K : zAW G d own cc nL C pc' lv (.int (x + y) :: st) σ) : zAW G d own cc nL C pc lv (.int y :: .int x :: st) σ := by
  obtain ⟨l, D, ca, ad⟩ := G
  obtain ⟨p, e, R, s, m, args, below, meth, cd, A, cells, slots, Q⟩ := C
  intro S H locs ls hP hS hl
  obtain ⟨⟨hx, hb, hml, hown, hts⟩, ⟨hi, hA, hF⟩, hd1, hd2, hc1, hc2⟩ := id S
  obtain ⟨hd, rfl⟩ := hd
  exact lv_iadd hx hb hd (K S H locs ls hP hS hl)
theorem z_isub {x y : Int32} (hd : zD cc pc .isub 1 pc') (K : zAW G d own cc nL C pc' lv (.int (x - y) :: st) σ) : zAW G d own cc nL C pc lv (.int y :: .int x :: st) σ := by
  obtain ⟨l, D, ca, ad⟩ := G
  obtain ⟨p, e, R, s, m, args, below, meth, cd, A, cells, slots, Q⟩ := C
  intro S H locs ls hP hS hl
  obtain ⟨⟨hx, hb, hml, hown, hts⟩, ⟨hi, hA, hF⟩, hd1, hd2, hc1, hc2⟩ := id S
  obtain ⟨hd, rfl⟩ := hd
  exact lv_isub hx hb hd (K S H locs ls hP hS hl)
theorem z_imul {x y : Int32} (hd : zD cc pc .imul 1 pc') (K : zAW G d own cc nL C pc' lv (.int (x * y) :: st) σ) : zAW G d own cc nL C pc lv (.int y :: .int x :: st) σ := by
  obtain ⟨l, D, ca, ad⟩ := G
  obtain ⟨p, e, R, s, m, args, below, meth, cd, A, cells, slots, Q⟩ := C
  intro S H locs ls hP hS hl
  obtain ⟨⟨hx, hb, hml, hown, hts⟩, ⟨hi, hA, hF⟩, hd1, hd2, hc1, hc2⟩ := id S
  obtain ⟨hd, rfl⟩ := hd
  exact lv_imul hx hb hd (K S H locs ls hP hS hl)
theorem z_iand {x y : Int32} (hd : zD cc pc .iand 1 pc') (K : zAW G d own cc nL C pc' lv (.int (x &&& y) :: st) σ) : zAW G d own cc nL C pc lv (.int y :: .int x :: st) σ := by
  obtain ⟨l, D, ca, ad⟩ := G
  obtain ⟨p, e, R, s, m, args, below, meth, cd, A, cells, slots, Q⟩ := C
  intro S H locs ls hP hS hl
  obtain ⟨⟨hx, hb, hml, hown, hts⟩, ⟨hi, hA, hF⟩, hd1, hd2, hc1, hc2⟩ := id S
  obtain ⟨hd, rfl⟩ := hd
  exact lv_iand hx hb hd (K S H locs ls hP hS hl)
theorem z_ior {x y : Int32} (hd : zD cc pc .ior 1 pc') (K : zAW G d own cc nL C pc' lv (.int (x ||| y) :: st) σ) : zAW G d own cc nL C pc lv (.int y :: .int x :: st) σ := by
  obtain ⟨l, D, ca, ad⟩ := G
  obtain ⟨p, e, R, s, m, args, below, meth, cd, A, cells, slots, Q⟩ := C
  intro S H locs ls hP hS hl
  obtain ⟨⟨hx, hb, hml, hown, hts⟩, ⟨hi, hA, hF⟩, hd1, hd2, hc1, hc2⟩ := id S
  obtain ⟨hd, rfl⟩ := hd
  exact lv_ior hx hb hd (K S H locs ls hP hS hl)
theorem z_ixor {x y : Int32} (hd : zD cc pc .ixor 1 pc') (K : zAW G d own cc nL C pc' lv (.int (x ^^^ y) :: st) σ) : zAW G d own cc nL C pc lv (.int y :: .int x :: st) σ := by
  obtain ⟨l, D, ca, ad⟩ := G
  obtain ⟨p, e, R, s, m, args, below, meth, cd, A, cells, slots, Q⟩ := C
  intro S H locs ls hP hS hl
  obtain ⟨⟨hx, hb, hml, hown, hts⟩, ⟨hi, hA, hF⟩, hd1, hd2, hc1, hc2⟩ := id S
  obtain ⟨hd, rfl⟩ := hd
  exact lv_ixor hx hb hd (K S H locs ls hP hS hl)
theorem z_ishl {x y : Int32} (hd : zD cc pc .ishl 1 pc') (K : zAW G d own cc nL C pc' lv (.int (x <<< (y &&& 31)) :: st) σ) : zAW G d own cc nL C pc lv (.int y :: .int x :: st) σ := by
  obtain ⟨l, D, ca, ad⟩ := G
  obtain ⟨p, e, R, s, m, args, below, meth, cd, A, cells, slots, Q⟩ := C
  intro S H locs ls hP hS hl
  obtain ⟨⟨hx, hb, hml, hown, hts⟩, ⟨hi, hA, hF⟩, hd1, hd2, hc1, hc2⟩ := id S
  obtain ⟨hd, rfl⟩ := hd
  exact lv_ishl hx hb hd (K S H locs ls hP hS hl)
theorem z_ishr {x y : Int32} (hd : zD cc pc .ishr 1 pc') (K : zAW G d own cc nL C pc' lv (.int (x >>> (y &&& 31)) :: st) σ) : zAW G d own cc nL C pc lv (.int y :: .int x :: st) σ := by
  obtain ⟨l, D, ca, ad⟩ := G
  obtain ⟨p, e, R, s, m, args, below, meth, cd, A, cells, slots, Q⟩ := C
  intro S H locs ls hP hS hl
  obtain ⟨⟨hx, hb, hml, hown, hts⟩, ⟨hi, hA, hF⟩, hd1, hd2, hc1, hc2⟩ := id S
  obtain ⟨hd, rfl⟩ := hd
  exact lv_ishr hx hb hd (K S H locs ls hP hS hl)
theorem z_ladd {x y : Int64} (hd : zD cc pc .ladd 1 pc') (K : zAW G d own cc nL C pc' lv (.long (x + y) :: st) σ) : zAW G d own cc nL C pc lv (.long y :: .long x :: st) σ := by
  obtain ⟨l, D, ca, ad⟩ := G
  obtain ⟨p, e, R, s, m, args, below, meth, cd, A, cells, slots, Q⟩ := C
  intro S H locs ls hP hS hl
  obtain ⟨⟨hx, hb, hml, hown, hts⟩, ⟨hi, hA, hF⟩, hd1, hd2, hc1, hc2⟩ := id S
  obtain ⟨hd, rfl⟩ := hd
  exact lv_ladd hx hb hd (K S H locs ls hP hS hl)
theorem z_lmul {x y : Int64} (hd : zD cc pc .lmul 1 pc') (K : zAW G d own cc nL C pc' lv (.long (x * y) :: st) σ) : zAW G d own cc nL C pc lv (.long y :: .long x :: st) σ := by
  obtain ⟨l, D, ca, ad⟩ := G
  obtain ⟨p, e, R, s, m, args, below, meth, cd, A, cells, slots, Q⟩ := C
  intro S H locs ls hP hS hl
  obtain ⟨⟨hx, hb, hml, hown, hts⟩, ⟨hi, hA, hF⟩, hd1, hd2, hc1, hc2⟩ := id S
  obtain ⟨hd, rfl⟩ := hd
  exact lv_lmul hx hb hd (K S H locs ls hP hS hl)
theorem z_idiv {x y : Int32} (hd : zD cc pc .idiv 1 pc') (hne : ¬ y = 0) (K : zAW G d own cc nL C pc' lv (.int (x / y) :: st) σ) : zAW G d own cc nL C pc lv (.int y :: .int x :: st) σ := by
  obtain ⟨l, D, ca, ad⟩ := G
  obtain ⟨p, e, R, s, m, args, below, meth, cd, A, cells, slots, Q⟩ := C
  intro S H locs ls hP hS hl
  obtain ⟨⟨hx, hb, hml, hown, hts⟩, ⟨hi, hA, hF⟩, hd1, hd2, hc1, hc2⟩ := id S
  obtain ⟨hd, rfl⟩ := hd
  exact lv_idiv hx hb hd hne (by exact K S H locs ls hP hS hl)
theorem z_irem {x y : Int32} (hd : zD cc pc .irem 1 pc') (hne : ¬ y = 0) (K : zAW G d own cc nL C pc' lv (.int (x % y) :: st) σ) : zAW G d own cc nL C pc lv (.int y :: .int x :: st) σ := by
  obtain ⟨l, D, ca, ad⟩ := G
  obtain ⟨p, e, R, s, m, args, below, meth, cd, A, cells, slots, Q⟩ := C
  intro S H locs ls hP hS hl
  obtain ⟨⟨hx, hb, hml, hown, hts⟩, ⟨hi, hA, hF⟩, hd1, hd2, hc1, hc2⟩ := id S
  obtain ⟨hd, rfl⟩ := hd
  exact lv_irem hx hb hd hne (by rw [zrem32]; exact K S H locs ls hP hS hl)
theorem z_ldiv {x y : Int64} (hd : zD cc pc .ldiv 1 pc') (hne : ¬ y = 0) (K : zAW G d own cc nL C pc' lv (.long (x / y) :: st) σ) : zAW G d own cc nL C pc lv (.long y :: .long x :: st) σ := by
  obtain ⟨l, D, ca, ad⟩ := G
  obtain ⟨p, e, R, s, m, args, below, meth, cd, A, cells, slots, Q⟩ := C
  intro S H locs ls hP hS hl
  obtain ⟨⟨hx, hb, hml, hown, hts⟩, ⟨hi, hA, hF⟩, hd1, hd2, hc1, hc2⟩ := id S
  obtain ⟨hd, rfl⟩ := hd
  exact lv_ldiv hx hb hd hne (by exact K S H locs ls hP hS hl)
theorem z_lrem {x y : Int64} (hd : zD cc pc .lrem 1 pc') (hne : ¬ y = 0) (K : zAW G d own cc nL C pc' lv (.long (x % y) :: st) σ) : zAW G d own cc nL C pc lv (.long y :: .long x :: st) σ := by
  obtain ⟨l, D, ca, ad⟩ := G
  obtain ⟨p, e, R, s, m, args, below, meth, cd, A, cells, slots, Q⟩ := C
  intro S H locs ls hP hS hl
  obtain ⟨⟨hx, hb, hml, hown, hts⟩, ⟨hi, hA, hF⟩, hd1, hd2, hc1, hc2⟩ := id S
  obtain ⟨hd, rfl⟩ := hd
  exact lv_lrem hx hb hd hne (by rw [zrem64]; exact K S H locs ls hP hS hl)
theorem z_lcmp {x y : Int64} (hd : zD cc pc .lcmp 1 pc') (K : zAW G d own cc nL C pc' lv (.int (lg_cmp x y) :: st) σ) : zAW G d own cc nL C pc lv (.long y :: .long x :: st) σ := by
  obtain ⟨l, D, ca, ad⟩ := G
  obtain ⟨p, e, R, s, m, args, below, meth, cd, A, cells, slots, Q⟩ := C
  intro S H locs ls hP hS hl
  obtain ⟨⟨hx, hb, hml, hown, hts⟩, ⟨hi, hA, hF⟩, hd1, hd2, hc1, hc2⟩ := id S
  obtain ⟨hd, rfl⟩ := hd
  exact W.lcmp hx hb hd (K S H locs ls hP hS hl)
theorem z_i2l {x : Int32} (hd : zD cc pc .i2l 1 pc') (K : zAW G d own cc nL C pc' lv (.long x.toInt64 :: st) σ) : zAW G d own cc nL C pc lv (.int x :: st) σ := by
  obtain ⟨l, D, ca, ad⟩ := G
  obtain ⟨p, e, R, s, m, args, below, meth, cd, A, cells, slots, Q⟩ := C
  intro S H locs ls hP hS hl
  obtain ⟨⟨hx, hb, hml, hown, hts⟩, ⟨hi, hA, hF⟩, hd1, hd2, hc1, hc2⟩ := id S
  obtain ⟨hd, rfl⟩ := hd
  exact lv_i2l hx hb hd rfl (K S H locs ls hP hS hl)
theorem z_i2c {x : Int32} (hd : zD cc pc .i2c 1 pc') (K : zAW G d own cc nL C pc' lv (.int (x.toUInt32 % 65536).toInt32 :: st) σ) : zAW G d own cc nL C pc lv (.int x :: st) σ := by
  obtain ⟨l, D, ca, ad⟩ := G
  obtain ⟨p, e, R, s, m, args, below, meth, cd, A, cells, slots, Q⟩ := C
  intro S H locs ls hP hS hl
  obtain ⟨⟨hx, hb, hml, hown, hts⟩, ⟨hi, hA, hF⟩, hd1, hd2, hc1, hc2⟩ := id S
  obtain ⟨hd, rfl⟩ := hd
  exact lv_i2c hx hb hd rfl (K S H locs ls hP hS hl)
theorem z_i2b {x : Int32} (hd : zD cc pc .i2b 1 pc') (K : zAW G d own cc nL C pc' lv (.int x.toInt8.toInt32 :: st) σ) : zAW G d own cc nL C pc lv (.int x :: st) σ := by
  obtain ⟨l, D, ca, ad⟩ := G
  obtain ⟨p, e, R, s, m, args, below, meth, cd, A, cells, slots, Q⟩ := C
  intro S H locs ls hP hS hl
  obtain ⟨⟨hx, hb, hml, hown, hts⟩, ⟨hi, hA, hF⟩, hd1, hd2, hc1, hc2⟩ := id S
  obtain ⟨hd, rfl⟩ := hd
  exact lv_i2b hx hb hd rfl (K S H locs ls hP hS hl)
theorem z_dup {v : Value} (hd : zD cc pc .dup 1 pc') (hv : v.category = 1) (K : zAW G d own cc nL C pc' lv (v :: v :: st) σ) : zAW G d own cc nL C pc lv (v :: st) σ := by
  obtain ⟨l, D, ca, ad⟩ := G
  obtain ⟨p, e, R, s, m, args, below, meth, cd, A, cells, slots, Q⟩ := C
  intro S H locs ls hP hS hl
  obtain ⟨⟨hx, hb, hml, hown, hts⟩, ⟨hi, hA, hF⟩, hd1, hd2, hc1, hc2⟩ := id S
  obtain ⟨hd, rfl⟩ := hd
  exact lv_dup hx hb hd hv (K S H locs ls hP hS hl)
theorem z_pop {v : Value} (hd : zD cc pc .pop 1 pc') (hv : v.category = 1) (K : zAW G d own cc nL C pc' lv st σ) : zAW G d own cc nL C pc lv (v :: st) σ := by
  obtain ⟨l, D, ca, ad⟩ := G
  obtain ⟨p, e, R, s, m, args, below, meth, cd, A, cells, slots, Q⟩ := C
  intro S H locs ls hP hS hl
  obtain ⟨⟨hx, hb, hml, hown, hts⟩, ⟨hi, hA, hF⟩, hd1, hd2, hc1, hc2⟩ := id S
  obtain ⟨hd, rfl⟩ := hd
  exact lv_pop hx hb hd hv (K S H locs ls hP hS hl)
theorem z_dup2 {v w : Value} (hd : zD cc pc .dup2 1 pc') (hv : v.category = 1) (hw : w.category = 1) (K : zAW G d own cc nL C pc' lv (v :: w :: v :: w :: st) σ) : zAW G d own cc nL C pc lv (v :: w :: st) σ := by
  obtain ⟨l, D, ca, ad⟩ := G
  obtain ⟨p, e, R, s, m, args, below, meth, cd, A, cells, slots, Q⟩ := C
  intro S H locs ls hP hS hl
  obtain ⟨⟨hx, hb, hml, hown, hts⟩, ⟨hi, hA, hF⟩, hd1, hd2, hc1, hc2⟩ := id S
  obtain ⟨hd, rfl⟩ := hd
  exact lv_dup2_11 hx hb hd hv hw (K S H locs ls hP hS hl)
theorem z_iinc {i : Nat} {n : Int} {x c0 : Int32} {T : Type} {R0 : T} {f : Int32 → T} (hd : zD cc pc (.iinc i n) 3 pc') (j : Nat) (hj : lv[j]? = some (i, .int x)) (hc : Int32.ofInt n = c0) (hn : i < nL) (h : nm (x + c0) f = R0) (lv' : Int32 → List (Nat × Value)) (hl' : ∀ y, (i, Value.int y) :: lv.filter (fun q => !(q.1 == i) && !(q.1 + 1 == i && q.2.category == 2)) = lv' y) (K : ∀ y, f y = R0 → zAW G d own cc nL C pc' (lv' y) st σ) : zAW G d own cc nL C pc lv st σ := by
  obtain ⟨l, D, ca, ad⟩ := G
  obtain ⟨p, e, R, s, m, args, below, meth, cd, A, cells, slots, Q⟩ := C
  intro S H locs ls hP hS hl
  obtain ⟨⟨hx, hb, hml, hown, hts⟩, ⟨hi, hA, hF⟩, hd1, hd2, hc1, hc2⟩ := id S
  obtain ⟨hd, rfl⟩ := hd
  exact lv_iinc hx hb hd hl hj (by rw [hc]) hn (hl' (x + c0)) (fun ls hl => K (x + c0) h S H locs ls hP hS hl)
theorem z_goto {off : Int} (hd : zB cc pc (.goto off) off pc' (pc + 3)) (K : zAW G d own cc nL C pc' lv st σ) : zAW G d own cc nL C pc lv st σ := by
  obtain ⟨l, D, ca, ad⟩ := G
  obtain ⟨p, e, R, s, m, args, below, meth, cd, A, cells, slots, Q⟩ := C
  intro S H locs ls hP hS hl
  obtain ⟨⟨hx, hb, hml, hown, hts⟩, ⟨hi, hA, hF⟩, hd1, hd2, hc1, hc2⟩ := id S
  obtain ⟨hd, ht, -⟩ := hd
  exact lv_goto hx hb hd ht (K S H locs ls hP hS hl)
theorem z_if_eq {x : Int32} {off : Int} {tgt : Nat} {T : Type} {R0 X Y : T} (hd : zB cc pc (.ifCond .eq off) off tgt pc') (h : (if x = 0 then X else Y) = R0) (k1 : x = 0 → X = R0 → zAW G d own cc nL C tgt lv st σ) (k2 : ¬ (x = 0) → Y = R0 → zAW G d own cc nL C pc' lv st σ) : zAW G d own cc nL C pc lv (.int x :: st) σ := by
  obtain ⟨l, D, ca, ad⟩ := G
  obtain ⟨p, e, R, s, m, args, below, meth, cd, A, cells, slots, Q⟩ := C
  intro S H locs ls hP hS hl
  obtain ⟨⟨hx, hb, hml, hown, hts⟩, ⟨hi, hA, hF⟩, hd1, hd2, hc1, hc2⟩ := id S
  obtain ⟨hd, ht, rfl⟩ := hd
  exact lv_if_eq hx hb hd ht (fun q => k1 q (by rw [if_pos q] at h; exact h) S H locs ls hP hS hl) (fun q => k2 q (by rw [if_neg q] at h; exact h) S H locs ls hP hS hl)
theorem y_if_eq {x : Int32} {off : Int} {tgt : Nat} (hd : zB cc pc (.ifCond .eq off) off tgt pc') (k1 : x = 0 → zAW G d own cc nL C tgt lv st σ) (k2 : ¬ (x = 0) → zAW G d own cc nL C pc' lv st σ) : zAW G d own cc nL C pc lv (.int x :: st) σ := by
  obtain ⟨l, D, ca, ad⟩ := G
  obtain ⟨p, e, R, s, m, args, below, meth, cd, A, cells, slots, Q⟩ := C
  intro S H locs ls hP hS hl
  obtain ⟨⟨hx, hb, hml, hown, hts⟩, ⟨hi, hA, hF⟩, hd1, hd2, hc1, hc2⟩ := id S
  obtain ⟨hd, ht, rfl⟩ := hd
  exact lv_if_eq hx hb hd ht (fun q => k1 q S H locs ls hP hS hl) (fun q => k2 q S H locs ls hP hS hl)
theorem z_if_ne {x : Int32} {off : Int} {tgt : Nat} {T : Type} {R0 X Y : T} (hd : zB cc pc (.ifCond .ne off) off tgt pc') (h : (if x = 0 then X else Y) = R0) (k1 : x = 0 → X = R0 → zAW G d own cc nL C pc' lv st σ) (k2 : ¬ (x = 0) → Y = R0 → zAW G d own cc nL C tgt lv st σ) : zAW G d own cc nL C pc lv (.int x :: st) σ := by
  obtain ⟨l, D, ca, ad⟩ := G
  obtain ⟨p, e, R, s, m, args, below, meth, cd, A, cells, slots, Q⟩ := C
  intro S H locs ls hP hS hl
  obtain ⟨⟨hx, hb, hml, hown, hts⟩, ⟨hi, hA, hF⟩, hd1, hd2, hc1, hc2⟩ := id S
  obtain ⟨hd, ht, rfl⟩ := hd
  exact lv_if_ne hx hb hd ht (fun q => k2 q (by rw [if_neg q] at h; exact h) S H locs ls hP hS hl) (fun q => k1 q (by rw [if_pos q] at h; exact h) S H locs ls hP hS hl)
theorem y_if_ne {x : Int32} {off : Int} {tgt : Nat} (hd : zB cc pc (.ifCond .ne off) off tgt pc') (k1 : x = 0 → zAW G d own cc nL C pc' lv st σ) (k2 : ¬ (x = 0) → zAW G d own cc nL C tgt lv st σ) : zAW G d own cc nL C pc lv (.int x :: st) σ := by
  obtain ⟨l, D, ca, ad⟩ := G
  obtain ⟨p, e, R, s, m, args, below, meth, cd, A, cells, slots, Q⟩ := C
  intro S H locs ls hP hS hl
  obtain ⟨⟨hx, hb, hml, hown, hts⟩, ⟨hi, hA, hF⟩, hd1, hd2, hc1, hc2⟩ := id S
  obtain ⟨hd, ht, rfl⟩ := hd
  exact lv_if_ne hx hb hd ht (fun q => k2 q S H locs ls hP hS hl) (fun q => k1 q S H locs ls hP hS hl)
theorem z_if_lt {x : Int32} {off : Int} {tgt : Nat} {T : Type} {R0 X Y : T} (hd : zB cc pc (.ifCond .lt off) off tgt pc') (h : (if x < 0 then X else Y) = R0) (k1 : x < 0 → X = R0 → zAW G d own cc nL C tgt lv st σ) (k2 : ¬ (x < 0) → Y = R0 → zAW G d own cc nL C pc' lv st σ) : zAW G d own cc nL C pc lv (.int x :: st) σ := by
  obtain ⟨l, D, ca, ad⟩ := G
  obtain ⟨p, e, R, s, m, args, below, meth, cd, A, cells, slots, Q⟩ := C
  intro S H locs ls hP hS hl
  obtain ⟨⟨hx, hb, hml, hown, hts⟩, ⟨hi, hA, hF⟩, hd1, hd2, hc1, hc2⟩ := id S
  obtain ⟨hd, ht, rfl⟩ := hd
  exact lv_if_lt hx hb hd ht (fun q => k1 q (by rw [if_pos q] at h; exact h) S H locs ls hP hS hl) (fun q => k2 q (by rw [if_neg q] at h; exact h) S H locs ls hP hS hl)
theorem y_if_lt {x : Int32} {off : Int} {tgt : Nat} (hd : zB cc pc (.ifCond .lt off) off tgt pc') (k1 : x < 0 → zAW G d own cc nL C tgt lv st σ) (k2 : ¬ (x < 0) → zAW G d own cc nL C pc' lv st σ) : zAW G d own cc nL C pc lv (.int x :: st) σ := by
  obtain ⟨l, D, ca, ad⟩ := G
  obtain ⟨p, e, R, s, m, args, below, meth, cd, A, cells, slots, Q⟩ := C
  intro S H locs ls hP hS hl
  obtain ⟨⟨hx, hb, hml, hown, hts⟩, ⟨hi, hA, hF⟩, hd1, hd2, hc1, hc2⟩ := id S
  obtain ⟨hd, ht, rfl⟩ := hd
  exact lv_if_lt hx hb hd ht (fun q => k1 q S H locs ls hP hS hl) (fun q => k2 q S H locs ls hP hS hl)
theorem z_if_ge {x : Int32} {off : Int} {tgt : Nat} {T : Type} {R0 X Y : T} (hd : zB cc pc (.ifCond .ge off) off tgt pc') (h : (if 0 ≤ x then X else Y) = R0) (k1 : 0 ≤ x → X = R0 → zAW G d own cc nL C tgt lv st σ) (k2 : ¬ (0 ≤ x) → Y = R0 → zAW G d own cc nL C pc' lv st σ) : zAW G d own cc nL C pc lv (.int x :: st) σ := by
  obtain ⟨l, D, ca, ad⟩ := G
  obtain ⟨p, e, R, s, m, args, below, meth, cd, A, cells, slots, Q⟩ := C
  intro S H locs ls hP hS hl
  obtain ⟨⟨hx, hb, hml, hown, hts⟩, ⟨hi, hA, hF⟩, hd1, hd2, hc1, hc2⟩ := id S
  obtain ⟨hd, ht, rfl⟩ := hd
  exact lv_if_ge hx hb hd ht (fun q => k1 q (by rw [if_pos q] at h; exact h) S H locs ls hP hS hl) (fun q => k2 q (by rw [if_neg q] at h; exact h) S H locs ls hP hS hl)
theorem y_if_ge {x : Int32} {off : Int} {tgt : Nat} (hd : zB cc pc (.ifCond .ge off) off tgt pc') (k1 : 0 ≤ x → zAW G d own cc nL C tgt lv st σ) (k2 : ¬ (0 ≤ x) → zAW G d own cc nL C pc' lv st σ) : zAW G d own cc nL C pc lv (.int x :: st) σ := by
  obtain ⟨l, D, ca, ad⟩ := G
  obtain ⟨p, e, R, s, m, args, below, meth, cd, A, cells, slots, Q⟩ := C
  intro S H locs ls hP hS hl
  obtain ⟨⟨hx, hb, hml, hown, hts⟩, ⟨hi, hA, hF⟩, hd1, hd2, hc1, hc2⟩ := id S
  obtain ⟨hd, ht, rfl⟩ := hd
  exact lv_if_ge hx hb hd ht (fun q => k1 q S H locs ls hP hS hl) (fun q => k2 q S H locs ls hP hS hl)
theorem z_if_gt {x : Int32} {off : Int} {tgt : Nat} {T : Type} {R0 X Y : T} (hd : zB cc pc (.ifCond .gt off) off tgt pc') (h : (if 0 < x then X else Y) = R0) (k1 : 0 < x → X = R0 → zAW G d own cc nL C tgt lv st σ) (k2 : ¬ (0 < x) → Y = R0 → zAW G d own cc nL C pc' lv st σ) : zAW G d own cc nL C pc lv (.int x :: st) σ := by
  obtain ⟨l, D, ca, ad⟩ := G
  obtain ⟨p, e, R, s, m, args, below, meth, cd, A, cells, slots, Q⟩ := C
  intro S H locs ls hP hS hl
  obtain ⟨⟨hx, hb, hml, hown, hts⟩, ⟨hi, hA, hF⟩, hd1, hd2, hc1, hc2⟩ := id S
  obtain ⟨hd, ht, rfl⟩ := hd
  exact lv_if_gt hx hb hd ht (fun q => k1 q (by rw [if_pos q] at h; exact h) S H locs ls hP hS hl) (fun q => k2 q (by rw [if_neg q] at h; exact h) S H locs ls hP hS hl)
theorem y_if_gt {x : Int32} {off : Int} {tgt : Nat} (hd : zB cc pc (.ifCond .gt off) off tgt pc') (k1 : 0 < x → zAW G d own cc nL C tgt lv st σ) (k2 : ¬ (0 < x) → zAW G d own cc nL C pc' lv st σ) : zAW G d own cc nL C pc lv (.int x :: st) σ := by
  obtain ⟨l, D, ca, ad⟩ := G
  obtain ⟨p, e, R, s, m, args, below, meth, cd, A, cells, slots, Q⟩ := C
  intro S H locs ls hP hS hl
  obtain ⟨⟨hx, hb, hml, hown, hts⟩, ⟨hi, hA, hF⟩, hd1, hd2, hc1, hc2⟩ := id S
  obtain ⟨hd, ht, rfl⟩ := hd
  exact lv_if_gt hx hb hd ht (fun q => k1 q S H locs ls hP hS hl) (fun q => k2 q S H locs ls hP hS hl)
theorem z_if_le {x : Int32} {off : Int} {tgt : Nat} {T : Type} {R0 X Y : T} (hd : zB cc pc (.ifCond .le off) off tgt pc') (h : (if x ≤ 0 then X else Y) = R0) (k1 : x ≤ 0 → X = R0 → zAW G d own cc nL C tgt lv st σ) (k2 : ¬ (x ≤ 0) → Y = R0 → zAW G d own cc nL C pc' lv st σ) : zAW G d own cc nL C pc lv (.int x :: st) σ := by
  obtain ⟨l, D, ca, ad⟩ := G
  obtain ⟨p, e, R, s, m, args, below, meth, cd, A, cells, slots, Q⟩ := C
  intro S H locs ls hP hS hl
  obtain ⟨⟨hx, hb, hml, hown, hts⟩, ⟨hi, hA, hF⟩, hd1, hd2, hc1, hc2⟩ := id S
  obtain ⟨hd, ht, rfl⟩ := hd
  exact lv_if_le hx hb hd ht (fun q => k1 q (by rw [if_pos q] at h; exact h) S H locs ls hP hS hl) (fun q => k2 q (by rw [if_neg q] at h; exact h) S H locs ls hP hS hl)
theorem y_if_le {x : Int32} {off : Int} {tgt : Nat} (hd : zB cc pc (.ifCond .le off) off tgt pc') (k1 : x ≤ 0 → zAW G d own cc nL C tgt lv st σ) (k2 : ¬ (x ≤ 0) → zAW G d own cc nL C pc' lv st σ) : zAW G d own cc nL C pc lv (.int x :: st) σ := by
  obtain ⟨l, D, ca, ad⟩ := G
  obtain ⟨p, e, R, s, m, args, below, meth, cd, A, cells, slots, Q⟩ := C
  intro S H locs ls hP hS hl
  obtain ⟨⟨hx, hb, hml, hown, hts⟩, ⟨hi, hA, hF⟩, hd1, hd2, hc1, hc2⟩ := id S
  obtain ⟨hd, ht, rfl⟩ := hd
  exact lv_if_le hx hb hd ht (fun q => k1 q S H locs ls hP hS hl) (fun q => k2 q S H locs ls hP hS hl)
theorem z_icmp_eq {x y : Int32} {off : Int} {tgt : Nat} {T : Type} {R0 X Y : T} (hd : zB cc pc (.if_icmp .eq off) off tgt pc') (h : (if x = y then X else Y) = R0) (k1 : x = y → X = R0 → zAW G d own cc nL C tgt lv st σ) (k2 : ¬ (x = y) → Y = R0 → zAW G d own cc nL C pc' lv st σ) : zAW G d own cc nL C pc lv (.int y :: .int x :: st) σ := by
  obtain ⟨l, D, ca, ad⟩ := G
  obtain ⟨p, e, R, s, m, args, below, meth, cd, A, cells, slots, Q⟩ := C
  intro S H locs ls hP hS hl
  obtain ⟨⟨hx, hb, hml, hown, hts⟩, ⟨hi, hA, hF⟩, hd1, hd2, hc1, hc2⟩ := id S
  obtain ⟨hd, ht, rfl⟩ := hd
  exact lv_icmp_eq hx hb hd ht (fun q => k1 q (by rw [if_pos q] at h; exact h) S H locs ls hP hS hl) (fun q => k2 q (by rw [if_neg q] at h; exact h) S H locs ls hP hS hl)
theorem y_icmp_eq {x y : Int32} {off : Int} {tgt : Nat} (hd : zB cc pc (.if_icmp .eq off) off tgt pc') (k1 : x = y → zAW G d own cc nL C tgt lv st σ) (k2 : ¬ (x = y) → zAW G d own cc nL C pc' lv st σ) : zAW G d own cc nL C pc lv (.int y :: .int x :: st) σ := by
  obtain ⟨l, D, ca, ad⟩ := G
  obtain ⟨p, e, R, s, m, args, below, meth, cd, A, cells, slots, Q⟩ := C
  intro S H locs ls hP hS hl
  obtain ⟨⟨hx, hb, hml, hown, hts⟩, ⟨hi, hA, hF⟩, hd1, hd2, hc1, hc2⟩ := id S
  obtain ⟨hd, ht, rfl⟩ := hd
  exact lv_icmp_eq hx hb hd ht (fun q => k1 q S H locs ls hP hS hl) (fun q => k2 q S H locs ls hP hS hl)
theorem z_icmp_ne {x y : Int32} {off : Int} {tgt : Nat} {T : Type} {R0 X Y : T} (hd : zB cc pc (.if_icmp .ne off) off tgt pc') (h : (if x = y then X else Y) = R0) (k1 : x = y → X = R0 → zAW G d own cc nL C pc' lv st σ) (k2 : ¬ (x = y) → Y = R0 → zAW G d own cc nL C tgt lv st σ) : zAW G d own cc nL C pc lv (.int y :: .int x :: st) σ := by
  obtain ⟨l, D, ca, ad⟩ := G
  obtain ⟨p, e, R, s, m, args, below, meth, cd, A, cells, slots, Q⟩ := C
  intro S H locs ls hP hS hl
  obtain ⟨⟨hx, hb, hml, hown, hts⟩, ⟨hi, hA, hF⟩, hd1, hd2, hc1, hc2⟩ := id S
  obtain ⟨hd, ht, rfl⟩ := hd
  exact lv_icmp_ne hx hb hd ht (fun q => k2 q (by rw [if_neg q] at h; exact h) S H locs ls hP hS hl) (fun q => k1 q (by rw [if_pos q] at h; exact h) S H locs ls hP hS hl)
theorem y_icmp_ne {x y : Int32} {off : Int} {tgt : Nat} (hd : zB cc pc (.if_icmp .ne off) off tgt pc') (k1 : x = y → zAW G d own cc nL C pc' lv st σ) (k2 : ¬ (x = y) → zAW G d own cc nL C tgt lv st σ) : zAW G d own cc nL C pc lv (.int y :: .int x :: st) σ := by
  obtain ⟨l, D, ca, ad⟩ := G
  obtain ⟨p, e, R, s, m, args, below, meth, cd, A, cells, slots, Q⟩ := C
  intro S H locs ls hP hS hl
  obtain ⟨⟨hx, hb, hml, hown, hts⟩, ⟨hi, hA, hF⟩, hd1, hd2, hc1, hc2⟩ := id S
  obtain ⟨hd, ht, rfl⟩ := hd
  exact lv_icmp_ne hx hb hd ht (fun q => k2 q S H locs ls hP hS hl) (fun q => k1 q S H locs ls hP hS hl)
theorem z_icmp_lt {x y : Int32} {off : Int} {tgt : Nat} {T : Type} {R0 X Y : T} (hd : zB cc pc (.if_icmp .lt off) off tgt pc') (h : (if x < y then X else Y) = R0) (k1 : x < y → X = R0 → zAW G d own cc nL C tgt lv st σ) (k2 : ¬ (x < y) → Y = R0 → zAW G d own cc nL C pc' lv st σ) : zAW G d own cc nL C pc lv (.int y :: .int x :: st) σ := by
  obtain ⟨l, D, ca, ad⟩ := G
  obtain ⟨p, e, R, s, m, args, below, meth, cd, A, cells, slots, Q⟩ := C
  intro S H locs ls hP hS hl
  obtain ⟨⟨hx, hb, hml, hown, hts⟩, ⟨hi, hA, hF⟩, hd1, hd2, hc1, hc2⟩ := id S
  obtain ⟨hd, ht, rfl⟩ := hd
  exact lv_icmp_lt hx hb hd ht (fun q => k1 q (by rw [if_pos q] at h; exact h) S H locs ls hP hS hl) (fun q => k2 q (by rw [if_neg q] at h; exact h) S H locs ls hP hS hl)
theorem y_icmp_lt {x y : Int32} {off : Int} {tgt : Nat} (hd : zB cc pc (.if_icmp .lt off) off tgt pc') (k1 : x < y → zAW G d own cc nL C tgt lv st σ) (k2 : ¬ (x < y) → zAW G d own cc nL C pc' lv st σ) : zAW G d own cc nL C pc lv (.int y :: .int x :: st) σ := by
  obtain ⟨l, D, ca, ad⟩ := G
  obtain ⟨p, e, R, s, m, args, below, meth, cd, A, cells, slots, Q⟩ := C
  intro S H locs ls hP hS hl
  obtain ⟨⟨hx, hb, hml, hown, hts⟩, ⟨hi, hA, hF⟩, hd1, hd2, hc1, hc2⟩ := id S
  obtain ⟨hd, ht, rfl⟩ := hd
  exact lv_icmp_lt hx hb hd ht (fun q => k1 q S H locs ls hP hS hl) (fun q => k2 q S H locs ls hP hS hl)
theorem z_icmp_ge {x y : Int32} {off : Int} {tgt : Nat} {T : Type} {R0 X Y : T} (hd : zB cc pc (.if_icmp .ge off) off tgt pc') (h : (if y ≤ x then X else Y) = R0) (k1 : y ≤ x → X = R0 → zAW G d own cc nL C tgt lv st σ) (k2 : ¬ (y ≤ x) → Y = R0 → zAW G d own cc nL C pc' lv st σ) : zAW G d own cc nL C pc lv (.int y :: .int x :: st) σ := by
  obtain ⟨l, D, ca, ad⟩ := G
  obtain ⟨p, e, R, s, m, args, below, meth, cd, A, cells, slots, Q⟩ := C
  intro S H locs ls hP hS hl
  obtain ⟨⟨hx, hb, hml, hown, hts⟩, ⟨hi, hA, hF⟩, hd1, hd2, hc1, hc2⟩ := id S
  obtain ⟨hd, ht, rfl⟩ := hd
  exact lv_icmp_ge hx hb hd ht (fun q => k1 q (by rw [if_pos q] at h; exact h) S H locs ls hP hS hl) (fun q => k2 q (by rw [if_neg q] at h; exact h) S H locs ls hP hS hl)
theorem y_icmp_ge {x y : Int32} {off : Int} {tgt : Nat} (hd : zB cc pc (.if_icmp .ge off) off tgt pc') (k1 : y ≤ x → zAW G d own cc nL C tgt lv st σ) (k2 : ¬ (y ≤ x) → zAW G d own cc nL C pc' lv st σ) : zAW G d own cc nL C pc lv (.int y :: .int x :: st) σ := by
  obtain ⟨l, D, ca, ad⟩ := G
  obtain ⟨p, e, R, s, m, args, below, meth, cd, A, cells, slots, Q⟩ := C
  intro S H locs ls hP hS hl
  obtain ⟨⟨hx, hb, hml, hown, hts⟩, ⟨hi, hA, hF⟩, hd1, hd2, hc1, hc2⟩ := id S
  obtain ⟨hd, ht, rfl⟩ := hd
  exact lv_icmp_ge hx hb hd ht (fun q => k1 q S H locs ls hP hS hl) (fun q => k2 q S H locs ls hP hS hl)
theorem z_icmp_gt {x y : Int32} {off : Int} {tgt : Nat} {T : Type} {R0 X Y : T} (hd : zB cc pc (.if_icmp .gt off) off tgt pc') (h : (if y < x then X else Y) = R0) (k1 : y < x → X = R0 → zAW G d own cc nL C tgt lv st σ) (k2 : ¬ (y < x) → Y = R0 → zAW G d own cc nL C pc' lv st σ) : zAW G d own cc nL C pc lv (.int y :: .int x :: st) σ := by
  obtain ⟨l, D, ca, ad⟩ := G
  obtain ⟨p, e, R, s, m, args, below, meth, cd, A, cells, slots, Q⟩ := C
  intro S H locs ls hP hS hl
  obtain ⟨⟨hx, hb, hml, hown, hts⟩, ⟨hi, hA, hF⟩, hd1, hd2, hc1, hc2⟩ := id S
  obtain ⟨hd, ht, rfl⟩ := hd
  exact lv_icmp_gt hx hb hd ht (fun q => k1 q (by rw [if_pos q] at h; exact h) S H locs ls hP hS hl) (fun q => k2 q (by rw [if_neg q] at h; exact h) S H locs ls hP hS hl)
theorem y_icmp_gt {x y : Int32} {off : Int} {tgt : Nat} (hd : zB cc pc (.if_icmp .gt off) off tgt pc') (k1 : y < x → zAW G d own cc nL C tgt lv st σ) (k2 : ¬ (y < x) → zAW G d own cc nL C pc' lv st σ) : zAW G d own cc nL C pc lv (.int y :: .int x :: st) σ := by
  obtain ⟨l, D, ca, ad⟩ := G
  obtain ⟨p, e, R, s, m, args, below, meth, cd, A, cells, slots, Q⟩ := C
  intro S H locs ls hP hS hl
  obtain ⟨⟨hx, hb, hml, hown, hts⟩, ⟨hi, hA, hF⟩, hd1, hd2, hc1, hc2⟩ := id S
  obtain ⟨hd, ht, rfl⟩ := hd
  exact lv_icmp_gt hx hb hd ht (fun q => k1 q S H locs ls hP hS hl) (fun q => k2 q S H locs ls hP hS hl)
theorem z_icmp_le {x y : Int32} {off : Int} {tgt : Nat} {T : Type} {R0 X Y : T} (hd : zB cc pc (.if_icmp .le off) off tgt pc') (h : (if x ≤ y then X else Y) = R0) (k1 : x ≤ y → X = R0 → zAW G d own cc nL C tgt lv st σ) (k2 : ¬ (x ≤ y) → Y = R0 → zAW G d own cc nL C pc' lv st σ) : zAW G d own cc nL C pc lv (.int y :: .int x :: st) σ := by
  obtain ⟨l, D, ca, ad⟩ := G
  obtain ⟨p, e, R, s, m, args, below, meth, cd, A, cells, slots, Q⟩ := C
  intro S H locs ls hP hS hl
  obtain ⟨⟨hx, hb, hml, hown, hts⟩, ⟨hi, hA, hF⟩, hd1, hd2, hc1, hc2⟩ := id S
  obtain ⟨hd, ht, rfl⟩ := hd
  exact lv_icmp_le hx hb hd ht (fun q => k1 q (by rw [if_pos q] at h; exact h) S H locs ls hP hS hl) (fun q => k2 q (by rw [if_neg q] at h; exact h) S H locs ls hP hS hl)
theorem y_icmp_le {x y : Int32} {off : Int} {tgt : Nat} (hd : zB cc pc (.if_icmp .le off) off tgt pc') (k1 : x ≤ y → zAW G d own cc nL C tgt lv st σ) (k2 : ¬ (x ≤ y) → zAW G d own cc nL C pc' lv st σ) : zAW G d own cc nL C pc lv (.int y :: .int x :: st) σ := by
  obtain ⟨l, D, ca, ad⟩ := G
  obtain ⟨p, e, R, s, m, args, below, meth, cd, A, cells, slots, Q⟩ := C
  intro S H locs ls hP hS hl
  obtain ⟨⟨hx, hb, hml, hown, hts⟩, ⟨hi, hA, hF⟩, hd1, hd2, hc1, hc2⟩ := id S
  obtain ⟨hd, ht, rfl⟩ := hd
  exact lv_icmp_le hx hb hd ht (fun q => k1 q S H locs ls hP hS hl) (fun q => k2 q S H locs ls hP hS hl)
theorem z_nmI {x : Int32} {T : Type} {R0 : T} {f : Int32 → T} (h : nm x f = R0) (K : ∀ y, f y = R0 → zAW G d own cc nL C pc lv (.int y :: st) σ) : zAW G d own cc nL C pc lv (.int x :: st) σ := by
  obtain ⟨l, D, ca, ad⟩ := G
  obtain ⟨p, e, R, s, m, args, below, meth, cd, A, cells, slots, Q⟩ := C
  intro S H locs ls hP hS hl
  obtain ⟨⟨hx, hb, hml, hown, hts⟩, ⟨hi, hA, hF⟩, hd1, hd2, hc1, hc2⟩ := id S
  exact K x h S H locs ls hP hS hl
theorem z_nmL {x : Int64} {T : Type} {R0 : T} {f : Int64 → T} (h : nm x f = R0) (K : ∀ y, f y = R0 → zAW G d own cc nL C pc lv (.long y :: st) σ) : zAW G d own cc nL C pc lv (.long x :: st) σ := by
  obtain ⟨l, D, ca, ad⟩ := G
  obtain ⟨p, e, R, s, m, args, below, meth, cd, A, cells, slots, Q⟩ := C
  intro S H locs ls hP hS hl
  obtain ⟨⟨hx, hb, hml, hown, hts⟩, ⟨hi, hA, hF⟩, hd1, hd2, hc1, hc2⟩ := id S
  exact K x h S H locs ls hP hS hl
end Z
