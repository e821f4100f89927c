section Z
variable {G : zG} {d : Nat} {own : String} {cc : ByteArray} {nL : Nat} {C : zC} {pc pc' : Nat} {lv : List (Nat × Value)} {st : List Value} {σ : zSt}
def jmax (x y : Int32) : Int32 := if x < y then y else x
def jmin (x y : Int32) : Int32 := if y < x then y else x
def jmaxL (x y : Int64) : Int64 := if y < x then x else y
theorem z_jmax {idx : Nat} {x y : Int32} (hm : (Cond.methodLink own idx Lib.Math.max.name ∈ zT ∧ Cond.static Lib.Math.max.name ∈ zT) ∧ Cond.initialized "java/lang/Math" ∈ zT ∧ Cond.code Lib.Math.max.name Lib.Math.max.code 2 (some .int) ∈ zT) (hcat : (st.map fun v => v.category).sum ≤ 8) (hdd : 1 ≤ d) (hd : zD cc pc (.invokestatic idx) 3 pc') (K : zAW G d own cc nL C pc' lv (.int (jmax x y) :: st) σ) : zAW G d own cc nL C pc lv (.int y :: .int x :: st) σ := by
  obtain ⟨l, D, ca, ad⟩ := G
  obtain ⟨p, e, R, s, m, args, below, meth, cd, A, cells, slots, Q⟩ := C
  intro S H locs ls hP hS hl
  obtain ⟨⟨hx, hb, hml, hown, hts⟩, ⟨hi, hA, hF⟩, hd1, hd2, hc1, hc2⟩ := id S
  obtain ⟨hd, rfl⟩ := hd
  exact va_mmax hx hb (hml.trans hl.1.symm) hown (hts _ hm.1.1) (hts _ hm.1.2) (hts _ hm.2.1) (hts _ hm.2.2) (by omega) (by omega) hc1 hc2 hd (K S H locs ls hP hS hl)
theorem z_jmin {idx : Nat} {x y : Int32} (hm : (Cond.methodLink own idx Lib.Math.min.name ∈ zT ∧ Cond.static Lib.Math.min.name ∈ zT) ∧ Cond.initialized "java/lang/Math" ∈ zT ∧ Cond.code Lib.Math.min.name Lib.Math.min.code 2 (some .int) ∈ zT) (hcat : (st.map fun v => v.category).sum ≤ 8) (hdd : 1 ≤ d) (hd : zD cc pc (.invokestatic idx) 3 pc') (K : zAW G d own cc nL C pc' lv (.int (jmin x y) :: st) σ) : zAW G d own cc nL C pc lv (.int y :: .int x :: st) σ := by
  obtain ⟨l, D, ca, ad⟩ := G
  obtain ⟨p, e, R, s, m, args, below, meth, cd, A, cells, slots, Q⟩ := C
  intro S H locs ls hP hS hl
  obtain ⟨⟨hx, hb, hml, hown, hts⟩, ⟨hi, hA, hF⟩, hd1, hd2, hc1, hc2⟩ := id S
  obtain ⟨hd, rfl⟩ := hd
  exact va_mmin hx hb (hml.trans hl.1.symm) hown (hts _ hm.1.1) (hts _ hm.1.2) (hts _ hm.2.1) (hts _ hm.2.2) (by omega) (by omega) hc1 hc2 hd (K S H locs ls hP hS hl)
theorem z_jmaxL {idx : Nat} {x y : Int64} (hm : (Cond.methodLink own idx Lib.MathLoose.max_long.x ∈ zT ∧ Cond.static Lib.MathLoose.max_long.x ∈ zT) ∧ Cond.initialized "java/lang/Math" ∈ zT ∧ Cond.code Lib.MathLoose.max_long.x Lib.MathLoose.max_long.code 4 (some .long) ∈ zT) (hcat : (st.map fun v => v.category).sum ≤ 8) (hdd : 1 ≤ d) (hd : zD cc pc (.invokestatic idx) 3 pc') (K : zAW G d own cc nL C pc' lv (.long (jmaxL x y) :: st) σ) : zAW G d own cc nL C pc lv (.long y :: .long x :: st) σ := by
  obtain ⟨l, D, ca, ad⟩ := G
  obtain ⟨p, e, R, s, m, args, below, meth, cd, A, cells, slots, Q⟩ := C
  intro S H locs ls hP hS hl
  obtain ⟨⟨hx, hb, hml, hown, hts⟩, ⟨hi, hA, hF⟩, hd1, hd2, hc1, hc2⟩ := id S
  obtain ⟨hd, rfl⟩ := hd
  exact va_mmax_long hx hb (hml.trans hl.1.symm) hown (hts _ hm.1.1) (hts _ hm.1.2) (hts _ hm.2.1) (hts _ hm.2.2) (by omega) (by omega) hc1 hc2 hd (K S H locs ls hP hS hl)
end Z
