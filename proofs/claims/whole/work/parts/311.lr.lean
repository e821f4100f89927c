/-! the law's own end and its script -/
def zRL (G : zG) (C : zC) (b : Nat) : Prop := match G, C with
  | (l, D, ca, ad), (p, e, R, s, m, args, below, meth, c, A, cells, slots, Q) => meth.sig.returnType = ret ∧ meth.locks = false ∧ R = room_1 ∧ args = #[.ref b] ∧ A = (fun q => s.heap.size ≤ q) ∧ Q = lw_Z below #[.ref b] s ∧ cells ≤ 600000 ∧ slots ≤ 7302250
def zX (G : zG) (C : zC) (b L : Nat) (xs : Nat → Int32) : Prop := match G, C with
  | (l, D, ca, ad), (p, e, R, s, m, args, below, meth, c, A, cells, slots, Q) => va_X b L xs s s.heap ∧ b < s.heap.size ∧ ¬ A b
section ZL
variable {G : zG} {d : Nat} {own : String} {cc : ByteArray} {nL : Nat} {C : zC} {pc pc' : Nat} {lv : List (Nat × Value)} {st : List Value} {σ : zSt} {b L : Nat} {xs : Nat → Int32}
theorem z_lawret (hR : zRL G C b) (hd : decode code pc = .ok (.ireturn, 1)) : zAW G d own code nL C pc lv [.int 1] σ := by
  obtain ⟨l, D, ca, ad⟩ := G
  obtain ⟨p, e, R, s, m, args, below, meth, cd, A, cells, slots, Q⟩ := C
  intro S H locs ls hP hS hl
  obtain ⟨⟨hx, hb, hml, hown, hts⟩, ⟨hi, hA, hF⟩, hd1, hd2, hc1, hc2⟩ := id S
  obtain ⟨r1, r2, rfl, rfl, rfl, rfl, r3, r4⟩ := hR
  refine va_forget (fun q hq => hS.2.2 q hq) ?_
  refine W.widen r3 r4 ?_
  exact lw_ret hx hb r1 r2 hd
theorem z_scr {i : Int32} {T : Type} {R0 : T} {X : Option T} (hX : zX G C b L xs) (hd : zD cc pc .iaload 1 pc') (h : gd (vp_in i L) X = some R0) (K : X = some R0 → zAW G d own cc nL C pc' lv (.int (xs i.toNatClampNeg) :: st) σ) : zAW G d own cc nL C pc lv (.int i :: .ref b :: st) σ := by
  obtain ⟨l, D, ca, ad⟩ := G
  obtain ⟨p, e, R, s, m, args, below, meth, cd, A, cells, slots, Q⟩ := C
  intro S H locs ls hP hS hl
  obtain ⟨⟨hx, hb, hml, hown, hts⟩, ⟨hi, hA, hF⟩, hd1, hd2, hc1, hc2⟩ := id S
  obtain ⟨hd, rfl⟩ := hd
  obtain ⟨hin, h⟩ := gd_e h
  exact va_sld hx hb hX.1 hX.2.1 hX.2.2 hS hin hd (K h S H locs ls hP hS hl)
theorem z_scrlen (hX : zX G C b L xs) (hd : zD cc pc .arraylength 1 pc') (K : zAW G d own cc nL C pc' lv (.int (Int32.ofNat L) :: st) σ) : zAW G d own cc nL C pc lv (.ref b :: st) σ := by
  obtain ⟨l, D, ca, ad⟩ := G
  obtain ⟨p, e, R, s, m, args, below, meth, cd, A, cells, slots, Q⟩ := C
  intro S H locs ls hP hS hl
  obtain ⟨⟨hx, hb, hml, hown, hts⟩, ⟨hi, hA, hF⟩, hd1, hd2, hc1, hc2⟩ := id S
  obtain ⟨hd, rfl⟩ := hd
  exact va_slen hx hb hX.1 hX.2.1 hX.2.2 hS hd (K S H locs ls hP hS hl)
end ZL
