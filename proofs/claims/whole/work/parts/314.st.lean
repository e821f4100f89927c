set_option maxRecDepth 20000 in
theorem zNest_in : ∀ q ∈ zNest, Cond.methodLinkNest q.1 q.2.1 q.2.2.1 q.2.2.2 ∈ lw_tbl := by
  intro q hq
  have h : (zNest.map (fun q => Cond.methodLinkNest q.1 q.2.1 q.2.2.1 q.2.2.2)) = ([571, 764, 767, 771, 877, 1017, 1060, 1086, 1094, 1126, 1131, 1141, 1188] : List Nat).filterMap (fun i => lw_tbl[i]?) := by decide +kernel
  have h2 : Cond.methodLinkNest q.1 q.2.1 q.2.2.1 q.2.2.2 ∈ ([571, 764, 767, 771, 877, 1017, 1060, 1086, 1094, 1126, 1131, 1141, 1188] : List Nat).filterMap (fun i => lw_tbl[i]?) := by
    rw [← h]
    exact List.mem_map.mpr ⟨q, hq, rfl⟩
  obtain ⟨i, -, hi⟩ := List.mem_filterMap.mp h2
  exact List.mem_of_getElem? hi
theorem c_to_z {l : Launch} {D : va_G} {ca : Nat → ClassId} {ad : Nat → Nat} {d : Nat} {own : String} {cc : ByteArray} {nL KC NS : Nat} {p : Program} {e : Env} {R : Room} {s : State} {m : MethodId} {args : Array Value} {below : List Frame} {meth : Method} {c : Code} {Q : State → Prop} {pc : Nat} {lv : List (Nat × Value)} {st : List Value} {sh : List zShc} {σ : zSt} {kc ns : Nat}
    (h : sh = shp.map clift) (hs : zS (l, D, ca, ad) d own cc nL (p, e, R, s, m, args, below, meth, c, (fun q => s.heap.size ≤ q), kc, ns, Q)) (K : zAW (l, D, ca, ad) d own cc nL (p, e, R, s, m, args, below, meth, c, (fun q => s.heap.size ≤ q), kc, ns, Q) pc lv st σ) : cAW (l, D, ca, ad) s.heap.size d own cc nL KC NS (p, e, R, s, m, args, below, meth, c, Q) pc lv st sh σ kc ns := by
  intro S H locs ls hP hz hS hl
  subst h
  rw [cW_lift] at hP
  exact K hs H locs ls hP hS hl
set_option maxHeartbeats 8000000 in
set_option maxRecDepth 100000 in
/-- the law's walk, but for the mathematics of its store functions -/
theorem start_open (PURE : ∀ (L : Nat) (xs : Nat → Int32), L ≤ 3072 → ∃ τ : zSt, zfix (F_L_law_18L L xs) zlim ((0 : Int32), zs_130) = some ((1 : Int32), τ)) {p : Program} {e : Env} {s : State} {m : MethodId} {below : List Frame} {meth : Method} {c : Code} (l : Launch) {b L : Nat} {xs : Nat → Int32} (hL : L ≤ 3072) (C0 : lw_At p s m meth c b L xs) : W p l e room_1 s m #[Value.ref b] below meth c s.heap [] 0 0 (lw_Z below #[Value.ref b] s) (entryFrame m ([Value.ref b] : List Value).toArray 4) := by
  obtain ⟨hx, hb, hr, hml, hown, hts, hX, hbl, hlocks, hgv⟩ := id C0
  have hq := flat_of_before _ hgv
  obtain ⟨c0, i0, hK0⟩ := u_known (C := RX0) (T := TX0) (N := 2) (n := 2) hts (fun w h => (List.mem_filter.mp (inX0 w h)).1) (hts (.instantiable RX0 2) (List.mem_of_getElem? (i := 490) (by decide +kernel)))
  obtain ⟨c1, i1, hK1⟩ := u_known (C := RX1) (T := TX1) (N := 14) (n := 14) hts (fun w h => (List.mem_filter.mp (inX1 w h)).1) (hts (.instantiable RX1 14) (List.mem_of_getElem? (i := 207) (by decide +kernel)))
  obtain ⟨c2, i2, hK2⟩ := u_known (C := RX2) (T := TX2) (N := 4) (n := 4) hts (fun w h => (List.mem_filter.mp (inX2 w h)).1) (hts (.instantiable RX2 4) (List.mem_of_getElem? (i := 471) (by decide +kernel)))
  obtain ⟨c3, i3, hK3⟩ := u_known (C := RX3) (T := TX3) (N := 7) (n := 7) hts (fun w h => (List.mem_filter.mp (inX3 w h)).1) (hts (.instantiable RX3 7) (List.mem_of_getElem? (i := 317) (by decide +kernel)))
  obtain ⟨c4, i4, hK4⟩ := u_known (C := RX4) (T := TX4) (N := 14) (n := 14) hts (fun w h => (List.mem_filter.mp (inX4 w h)).1) (hts (.instantiable RX4 14) (List.mem_of_getElem? (i := 387) (by decide +kernel)))
  obtain ⟨c5, i5, hK5⟩ := u_known (C := RX5) (T := TX5) (N := 16) (n := 16) hts (fun w h => (List.mem_filter.mp (inX5 w h)).1) (hts (.instantiable RX5 16) (List.mem_of_getElem? (i := 258) (by decide +kernel)))
  obtain ⟨c6, i6, hK6⟩ := u_known (C := RX6) (T := TX6) (N := 9) (n := 9) hts (fun w h => (List.mem_filter.mp (inX6 w h)).1) (hts (.instantiable RX6 9) (List.mem_of_getElem? (i := 436) (by decide +kernel)))
  obtain ⟨c7, i7, hK7⟩ := u_known (C := RX7) (T := TX7) (N := 3) (n := 3) hts (fun w h => (List.mem_filter.mp (inX7 w h)).1) (hts (.instantiable RX7 3) (List.mem_of_getElem? (i := 371) (by decide +kernel)))
  obtain ⟨c8, i8, hK8⟩ := u_known (C := RX8) (T := TX8) (N := 3) (n := 3) hts (fun w h => (List.mem_filter.mp (inX8 w h)).1) (hts (.instantiable RX8 3) (List.mem_of_getElem? (i := 351) (by decide +kernel)))
  obtain ⟨c9, i9, hK9⟩ := u_known (C := RX9) (T := TX9) (N := 1) (n := 1) hts (fun w h => (List.mem_filter.mp (inX9 w h)).1) (hts (.instantiable RX9 1) (List.mem_of_getElem? (i := 504) (by decide +kernel)))
  obtain ⟨c10, i10, hK10⟩ := u_known (C := RX10) (T := TX10) (N := 13) (n := 13) hts (fun w h => (List.mem_filter.mp (inX10 w h)).1) (hts (.instantiable RX10 13) (List.mem_of_getElem? (i := 136) (by decide +kernel)))
  obtain ⟨c11, i11, hK11⟩ := u_known (C := RX11) (T := TX11) (N := 14) (n := 14) hts (fun w h => (List.mem_filter.mp (inX11 w h)).1) (hts (.instantiable RX11 14) (List.mem_of_getElem? (i := 128) (by decide +kernel)))
  obtain ⟨c12, i12, hK12⟩ := u_known (C := RX12) (T := TX12) (N := 76) (n := 76) hts (fun w h => (List.mem_filter.mp (inX12 w h)).1) (hts (.instantiable RX12 76) (List.mem_of_getElem? (i := 1271) (by decide +kernel)))
  have h0 : ∀ k : Nat, ∃ q : ClassId × (Nat → Nat), ∀ r : vw_C, vwCl[k]? = some r → u_Kn s r.1 r.2.1 r.2.2 q.1 q.2 := by
    intro k
    match k with
    | 0 => exact ⟨(c0, i0), fun r h => by cases h; exact hK0⟩
    | 1 => exact ⟨(c1, i1), fun r h => by cases h; exact hK1⟩
    | 2 => exact ⟨(c2, i2), fun r h => by cases h; exact hK2⟩
    | 3 => exact ⟨(c3, i3), fun r h => by cases h; exact hK3⟩
    | 4 => exact ⟨(c4, i4), fun r h => by cases h; exact hK4⟩
    | 5 => exact ⟨(c5, i5), fun r h => by cases h; exact hK5⟩
    | 6 => exact ⟨(c6, i6), fun r h => by cases h; exact hK6⟩
    | 7 => exact ⟨(c7, i7), fun r h => by cases h; exact hK7⟩
    | 8 => exact ⟨(c8, i8), fun r h => by cases h; exact hK8⟩
    | 9 => exact ⟨(c9, i9), fun r h => by cases h; exact hK9⟩
    | 10 => exact ⟨(c10, i10), fun r h => by cases h; exact hK10⟩
    | 11 => exact ⟨(c11, i11), fun r h => by cases h; exact hK11⟩
    | 12 => exact ⟨(c12, i12), fun r h => by cases h; exact hK12⟩
    | k + 13 => exact ⟨(0, fun _ => 0), fun r h => by simp [vwCl] at h⟩
  obtain ⟨dD, hdD⟩ := Classical.axiomOfChoice h0
  have har : ∀ ty : FieldType, (Cond.arrayClass ty).before #[Value.ref b] s = true → ∃ cA : ClassId, ArrOfT s cA ty ∧ s.vm.findClass ("[" ++ ty.toString) = some cA := by
    intro ty h
    obtain ⟨cA, kA, comp, h1, h2, h3⟩ := Cond.arrayClass_spec h
    exact ⟨cA, fun n z => ⟨fun k h => (by cases h), kA, h2, comp, h3⟩, h1⟩
  obtain ⟨cI, aI, nI9⟩ := har .int (hts _ (List.mem_of_getElem? (i := 205) (by decide +kernel)))
  obtain ⟨cB, aB, nB9⟩ := har .byte (hts _ (List.mem_of_getElem? (i := 752) (by decide +kernel)))
  obtain ⟨cJ, aJ, nJ9⟩ := har .long (hts _ (List.mem_of_getElem? (i := 469) (by decide +kernel)))
  have hA9 : ∀ a : Nat, a < s.heap.size → ¬ (fun q : Nat => s.heap.size ≤ q) a := fun a h q => absurd (show s.heap.size ≤ a from q) (by omega)
  obtain ⟨tH, htH, hTH⟩ := va_Tof (tm := .static "GiantHeart$Seeker" "HIGHEST" "[I") (ty := .int) (N := 6) (f := fun j => .int (zHi j)) (by decide) (hq (.arrayOf (.static "GiantHeart$Seeker" "HIGHEST" "[I") .int) (by decide +kernel)) (va_eqt (hq (.eq (.length (.static "GiantHeart$Seeker" "HIGHEST" "[I")) (.int 6)) (by decide +kernel))) (fun j hj => match j, hj with | 0, _ => va_eqt (hq (.eq (.elem (.static "GiantHeart$Seeker" "HIGHEST" "[I") (.int 0)) (.int 3)) (by decide +kernel)) | 1, _ => va_eqt (hq (.eq (.elem (.static "GiantHeart$Seeker" "HIGHEST" "[I") (.int 1)) (.int 3)) (by decide +kernel)) | 2, _ => va_eqt (hq (.eq (.elem (.static "GiantHeart$Seeker" "HIGHEST" "[I") (.int 2)) (.int 7)) (by decide +kernel)) | 3, _ => va_eqt (hq (.eq (.elem (.static "GiantHeart$Seeker" "HIGHEST" "[I") (.int 3)) (.int 7)) (by decide +kernel)) | 4, _ => va_eqt (hq (.eq (.elem (.static "GiantHeart$Seeker" "HIGHEST" "[I") (.int 4)) (.int 7)) (by decide +kernel)) | 5, _ => va_eqt (hq (.eq (.elem (.static "GiantHeart$Seeker" "HIGHEST" "[I") (.int 5)) (.int 2)) (by decide +kernel))) hA9
  obtain ⟨tP, htP, hTP⟩ := va_Tof (tm := .static "GiantHeart$Seeker" "POWERS" "[I") (ty := .int) (N := 3) (f := fun j => .int (zPo j)) (by decide) (hq (.arrayOf (.static "GiantHeart$Seeker" "POWERS" "[I") .int) (by decide +kernel)) (va_eqt (hq (.eq (.length (.static "GiantHeart$Seeker" "POWERS" "[I")) (.int 3)) (by decide +kernel))) (fun j hj => match j, hj with | 0, _ => va_eqt (hq (.eq (.elem (.static "GiantHeart$Seeker" "POWERS" "[I") (.int 0)) (.int 1)) (by decide +kernel)) | 1, _ => va_eqt (hq (.eq (.elem (.static "GiantHeart$Seeker" "POWERS" "[I") (.int 1)) (.int 3)) (by decide +kernel)) | 2, _ => va_eqt (hq (.eq (.elem (.static "GiantHeart$Seeker" "POWERS" "[I") (.int 2)) (.int 9)) (by decide +kernel))) hA9
  have zH := va_Zref (hts (.laysStatic "GiantHeart$Seeker" "HIGHEST" "[I") (List.mem_of_getElem? (i := 773) (by decide +kernel))) (hts (.initialized "GiantHeart$Seeker") (List.mem_of_getElem? (i := 109) (by decide +kernel))) htH hA9
  have zP := va_Zref (hts (.laysStatic "GiantHeart$Seeker" "POWERS" "[I") (List.mem_of_getElem? (i := 818) (by decide +kernel))) (hts (.initialized "GiantHeart$Seeker") (List.mem_of_getElem? (i := 109) (by decide +kernel))) htP hA9
  have zCS := va_Zof (hts (.laysStatic "java/lang/String" "COMPACT_STRINGS" "Z") (List.mem_of_getElem? (i := 658) (by decide +kernel))) (hts (.initialized "java/lang/String") (List.mem_of_getElem? (i := 120) (by decide +kernel))) (va_eqt (hq (.eq (.static "java/lang/String" "COMPACT_STRINGS" "Z") (.int 1)) (by decide +kernel))) hA9
  obtain ⟨adK, adV, hVS, hev⟩ := vk_Sof (s := s) (args := #[Value.ref b]) (N := 2) (tm := fun i => if i = 0 then .string "GiantHeart$Law" 108 else .string "GiantHeart$Tale" 28) (len := [9, 6]) (byt := zBy) (A := fun q : Nat => s.heap.size ≤ q) (fun i hi => match i, hi with | 0, _ => by decide | 1, _ => by decide)
    (fun i hi => match i, hi with | 0, _ => hq (.exactly (.string "GiantHeart$Law" 108) "java/lang/String") (by decide +kernel) | 1, _ => hq (.exactly (.string "GiantHeart$Tale" 28) "java/lang/String") (by decide +kernel))
    (fun i hi => match i, hi with | 0, _ => hq (.eq (.field (.string "GiantHeart$Law" 108) "java/lang/String" "coder" "B") (.int 0)) (by decide +kernel) | 1, _ => hq (.eq (.field (.string "GiantHeart$Tale" 28) "java/lang/String" "coder" "B") (.int 0)) (by decide +kernel))
    (fun i hi => match i, hi with | 0, _ => hq (.arrayOf (.field (.string "GiantHeart$Law" 108) "java/lang/String" "value" "[B") .byte) (by decide +kernel) | 1, _ => hq (.arrayOf (.field (.string "GiantHeart$Tale" 28) "java/lang/String" "value" "[B") .byte) (by decide +kernel))
    (fun i hi => match i, hi with | 0, _ => hq (.eq (.length (.field (.string "GiantHeart$Law" 108) "java/lang/String" "value" "[B")) (.int 9)) (by decide +kernel) | 1, _ => hq (.eq (.length (.field (.string "GiantHeart$Tale" 28) "java/lang/String" "value" "[B")) (.int 6)) (by decide +kernel))
    (fun i hi => match i, hi with | 0, _ => fun j hj => (match j, hj with | 0, _ => hq (.eq (.elem (.field (.string "GiantHeart$Law" 108) "java/lang/String" "value" "[B") (.int 0)) (.int 110)) (by decide +kernel) | 1, _ => hq (.eq (.elem (.field (.string "GiantHeart$Law" 108) "java/lang/String" "value" "[B") (.int 1)) (.int 104)) (by decide +kernel) | 2, _ => hq (.eq (.elem (.field (.string "GiantHeart$Law" 108) "java/lang/String" "value" "[B") (.int 2)) (.int 105)) (by decide +kernel) | 3, _ => hq (.eq (.elem (.field (.string "GiantHeart$Law" 108) "java/lang/String" "value" "[B") (.int 3)) (.int 100)) (by decide +kernel) | 4, _ => hq (.eq (.elem (.field (.string "GiantHeart$Law" 108) "java/lang/String" "value" "[B") (.int 4)) (.int 115)) (by decide +kernel) | 5, _ => hq (.eq (.elem (.field (.string "GiantHeart$Law" 108) "java/lang/String" "value" "[B") (.int 5)) (.int 119)) (by decide +kernel) | 6, _ => hq (.eq (.elem (.field (.string "GiantHeart$Law" 108) "java/lang/String" "value" "[B") (.int 6)) (.int 107)) (by decide +kernel) | 7, _ => hq (.eq (.elem (.field (.string "GiantHeart$Law" 108) "java/lang/String" "value" "[B") (.int 7)) (.int 111)) (by decide +kernel) | 8, _ => hq (.eq (.elem (.field (.string "GiantHeart$Law" 108) "java/lang/String" "value" "[B") (.int 8)) (.int 114)) (by decide +kernel)) | 1, _ => fun j hj => (match j, hj with | 0, _ => hq (.eq (.elem (.field (.string "GiantHeart$Tale" 28) "java/lang/String" "value" "[B") (.int 0)) (.int 103)) (by decide +kernel) | 1, _ => hq (.eq (.elem (.field (.string "GiantHeart$Tale" 28) "java/lang/String" "value" "[B") (.int 1)) (.int 114)) (by decide +kernel) | 2, _ => hq (.eq (.elem (.field (.string "GiantHeart$Tale" 28) "java/lang/String" "value" "[B") (.int 2)) (.int 111)) (by decide +kernel) | 3, _ => hq (.eq (.elem (.field (.string "GiantHeart$Tale" 28) "java/lang/String" "value" "[B") (.int 3)) (.int 119)) (by decide +kernel) | 4, _ => hq (.eq (.elem (.field (.string "GiantHeart$Tale" 28) "java/lang/String" "value" "[B") (.int 4)) (.int 115)) (by decide +kernel) | 5, _ => hq (.eq (.elem (.field (.string "GiantHeart$Tale" 28) "java/lang/String" "value" "[B") (.int 5)) (.int 107)) (by decide +kernel)))
    (fun i j hi hj hne => match i, hi, j, hj with | 0, _, 0, _ => absurd rfl hne | 1, _, 1, _ => absurd rfl hne | 0, _, 1, _ => Or.inl (hq (.not (.eq (.string "GiantHeart$Law" 108) (.string "GiantHeart$Tale" 28))) (by decide +kernel)) | 1, _, 0, _ => Or.inr (hq (.not (.eq (.string "GiantHeart$Law" 108) (.string "GiantHeart$Tale" 28))) (by decide +kernel))) hA9
  have hR1 : vk_R "GiantHeart$Law" 108 "nhidswkor" (adK 0) s := vk_R.of (hts (.stringRef "GiantHeart$Law" 108 "nhidswkor") (List.mem_of_getElem? (i := 644) (by decide +kernel))) (hev 0 (by decide))
  have hR2 : vk_R "GiantHeart$Tale" 28 "growsk" (adK 1) s := vk_R.of (hts (.stringRef "GiantHeart$Tale" 28 "growsk") (List.mem_of_getElem? (i := 762) (by decide +kernel))) (hev 1 (by decide))
  obtain ⟨τ, hτ⟩ := PURE L xs hL
  have hK : va_K ((fun k => (dD k).1), (fun k => (dD k).2)) vwCl (zTys (fun i => if i = 0 then cI else if i = 1 then cB else cJ)) s := ⟨fun k r h => hdD k r h, fun k r h => by
    match k with
    | 0 => cases h; exact ⟨aI, nI9⟩
    | 1 => cases h; exact ⟨aB, nB9⟩
    | 2 => cases h; exact ⟨aJ, nJ9⟩
    | k + 3 => simp [zTys] at h⟩
  have hF : zFix ((fun k => (dD k).1), (fun k => (dD k).2)) (fun i => if i = 0 then cI else if i = 1 then cB else cJ) (fun k => if k < 1000 then s.heap.size + k else if k = 1000 then tH else if k = 1001 then tP else if k = 1002 then adK 0 else if k = 1003 then adK 1 else if k = 1004 then adV 0 else adV 1) (fun q => s.heap.size ≤ q) s s.heap :=
    ⟨⟨hK, fun q hq => va_Nw.of rfl (hts _ (zNest_in q hq))⟩, ⟨⟨zH, hTH⟩, ⟨zP, hTP⟩⟩, zCS, ⟨fun i hi => match i, hi with | 0, _ => hVS.1 0 (by decide) | 1, _ => hVS.1 1 (by decide), fun i j hi hj h => match i, hi, j, hj with | 0, _, 0, _ => rfl | 1, _, 1, _ => rfl | 0, _, 1, _ => hVS.2 0 1 (by decide) (by decide) h | 1, _, 0, _ => hVS.2 1 0 (by decide) (by decide) h⟩, hR1, hR2⟩
  have hcad : cad s.heap.size (l, ((fun k => (dD k).1), (fun k => (dD k).2)), (fun i => if i = 0 then cI else if i = 1 then cB else cJ), (fun k => if k < 1000 then s.heap.size + k else if k = 1000 then tH else if k = 1001 then tP else if k = 1002 then adK 0 else if k = 1003 then adK 1 else if k = 1004 then adV 0 else adV 1)) := fun k hk => if_pos hk
  generalize (fun k => if k < 1000 then s.heap.size + k else if k = 1000 then tH else if k = 1001 then tP else if k = 1002 then adK 0 else if k = 1003 then adK 1 else if k = 1004 then adV 0 else adV 1) = ad at hF hcad
  generalize (fun i => if i = 0 then cI else if i = 1 then cB else cJ) = ca at hF hcad hK
  generalize ((fun k => (dD k).1), (fun k => (dD k).2)) = D at hF hcad hK
  obtain ⟨G, hG⟩ : ∃ G : zG, G = (l, D, ca, ad) := ⟨_, rfl⟩
  obtain ⟨bs, hbs⟩ : ∃ bs : Nat, bs = s.heap.size := ⟨_, rfl⟩
  have hzi : zinj zN ad := fun i j h1 h2 h => by
    have e1 : ad i = s.heap.size + i := hcad i (Nat.lt_trans h1 (by decide))
    have e2 : ad j = s.heap.size + j := hcad j (Nat.lt_trans h2 (by decide))
    omega
  have hzA : ∀ q, zA zN ad q → s.heap.size ≤ q := fun q ⟨k, h1, h2⟩ => by
    have e1 : ad k = s.heap.size + k := hcad k (Nat.lt_trans h1 (by decide))
    omega
  have T : cAW G bs 2000 RL cL_law 4 600000 7302250 (p, e, room_1, s, m, #[Value.ref b], below, meth, c, lw_Z below #[Value.ref b] s) 0 [(0, .ref b)] [] zh_0 zs_0 0 0 := by
    refine c_new (n := 0) [some (some none), some (some none), none, some (some none), some (some none), some (some none), some (some none), some (some none), some (some none), some (some none), some (some none), some (some none), some (some none), some (some none)] cl_X11 nw_L_7 (by decide +kernel) (by decide) (by decide +kernel) rfl rfl (by decide) (by decide) e_L_law_0 zh_1 rfl 1 14 rfl rfl ?_
    refine c_dup e_L_law_3 rfl ?_
    refine c_call (c0 := 0) (As := []) (rest := [.ref (zad G 0)]) li_L_9 e_L_law_4 (kc_X11_init_0 G bs) (by decide) rfl (Nat.le_of_ble_eq_true rfl) (by decide) (by decide) 69 30159 rfl rfl ?_
    refine c_astore e_L_law_7 (by decide) [(1, .ref (zad G 0)), (0, .ref b)] rfl ?_
    refine c_new (n := 69) [none, none, none, none, none, none, none, some (some none), some (some none), some (some none), some (some none), some (some none), some (some none), some (some none), none, none, none, none, none, none, none, none, none, none, some (some none), some (some none), some (some none), some (some none), some (some none), some (some none), some (some none), some (some none), some (some none), some (some none), some (some none), some (some none), some (some none), none, none, none, none, none, none, some (some none), some (some none), some (some none), some (some none), some (some none), some (some none), none, some (some none), some (some none), some (some none), none, none, some (some none), some (some none), some (some none), some (some none), none, some (some none), some (some none), none, none, none, none, none, none, none, none, some (some none), some (some none), some (some none), some (some none), some (some none), some (some none)] cl_X12 nw_L_10 (by decide +kernel) (by decide) (by decide +kernel) rfl rfl (by decide) (by decide) e_L_law_8 zh_145 rfl 70 30235 rfl rfl ?_
    refine c_dup e_L_law_11 rfl ?_
    refine c_call (c0 := 69) (As := []) (rest := [.ref (zad G 69)]) li_L_12 e_L_law_12 (kc_X12_init_69 G bs) (by decide) rfl (Nat.le_of_ble_eq_true rfl) (by decide) (by decide) 111 59641 rfl rfl ?_
    refine c_astore e_L_law_15 (by decide) [(2, .ref (zad G 69)), (1, .ref (zad G 0)), (0, .ref b)] rfl ?_
    refine c_ic e_L_law_16 ?_
    refine c_istore e_L_law_17 (by decide) [(3, .int (0 : Int32)), (2, .ref (zad G 69)), (1, .ref (zad G 0)), (0, .ref b)] rfl ?_
    subst hG
    subst hbs
    refine c_to_z (by decide +kernel) ⟨⟨hx, hb, hml, hown, fun w hw => hts w (List.mem_filter.mp hw).1⟩, ⟨hzi, hzA, hF⟩, by decide, by decide, by decide, by decide⟩ ?_
    exact z_sub [3, 2, 1, 0] rfl (l_L_law_18 (b := b) ⟨hr, hlocks, rfl, rfl, rfl, rfl, Nat.le_of_ble_eq_true rfl, Nat.le_of_ble_eq_true rfl⟩ L xs ⟨hX, hbl, fun q => absurd (show s.heap.size ≤ b from q) (by omega)⟩ zlim 0 _ hτ)
  subst hG
  subst hbs
  rw [lg_entry_eq]
  exact T ⟨⟨hx, hb, hml, hown, fun w hw => hts w (List.mem_filter.mp hw).1⟩, ⟨hcad, hK⟩, by decide, by decide, Nat.le_refl _, Nat.le_refl _, Nat.le_refl _⟩ s.heap [] _ (fun k q h => by simp [cW, zh_0] at h) rfl va_S.rf (lv_entry [.ref b] (n := 4) (Nat.le_of_ble_eq_true rfl))
