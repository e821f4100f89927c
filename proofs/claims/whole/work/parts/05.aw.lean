/-! what stays while a method runs: the tables' classes, the nest's words, the constants of the classes and of String -/
abbrev zTys (ca : Nat → ClassId) : List (ClassId × FieldType) := [(ca 0, .int), (ca 1, .byte), (ca 2, .long)]
def zFix (D : va_G) (ca : Nat → ClassId) (ad : Nat → Nat) (A : Nat → Prop) (U : State) (H : Heap) : Prop :=
  (va_K D vwCl (zTys ca) U ∧ (∀ q ∈ zNest, va_Nw (.methodLinkNest q.1 q.2.1 q.2.2.1 q.2.2.2) U)) ∧
  ((va_Z "GiantHeart$Seeker" "HIGHEST" "[I" (.ref (ad 1000)) A U H ∧ va_T .int (ad 1000) 6 (fun j => .int (zHi j)) A U H) ∧
   (va_Z "GiantHeart$Seeker" "POWERS" "[I" (.ref (ad 1001)) A U H ∧ va_T .int (ad 1001) 3 (fun j => .int (zPo j)) A U H)) ∧
  (va_Z "java/lang/String" "COMPACT_STRINGS" "Z" (.int 1) A U H ∧ vk_S 2 [9, 6] zBy (fun i => ad (1002 + i)) (fun i => ad (1004 + i)) A U H ∧
   vk_R "GiantHeart$Law" 108 "nhidswkor" (ad 1002) U ∧ vk_R "GiantHeart$Tale" 28 "growsk" (ad 1003) U)
theorem zFix.moved {D : va_G} {ca : Nat → ClassId} {ad : Nat → Nat} {A : Nat → Prop} {s U : State} {H : Heap} (hW : s.WarmedH U.vm) (h : zFix D ca ad A s H) : zFix D ca ad A U H := by
  obtain ⟨⟨h1, h2⟩, ⟨⟨a1, a2⟩, ⟨b1, b2⟩⟩, c1, c2, c3, c4⟩ := h
  have hvm := hW.alike
  exact ⟨⟨va_K.moved hvm h1, fun q hq => va_Nw.warmM hW (h2 q hq)⟩, ⟨⟨va_Z.moved hvm a1, va_T.moved hvm a2⟩, ⟨va_Z.moved hvm b1, va_T.moved hvm b2⟩⟩, va_Z.moved hvm c1, vk_S.moved hvm c2, vk_R.warm hW c3, vk_R.warm hW c4⟩
theorem zFix.kept {D : va_G} {ca : Nat → ClassId} {ad : Nat → Nat} {A : Nat → Prop} {U : State} {H H1 : Heap} (h : zFix D ca ad A U H) (hz : H.size ≤ H1.size) (hq : ∀ a : Nat, a < H.size → ¬ A a → H1[a]? = H[a]?) : zFix D ca ad A U H1 := by
  obtain ⟨⟨h1, h2⟩, ⟨⟨a1, a2⟩, ⟨b1, b2⟩⟩, c1, c2, c3, c4⟩ := h
  exact ⟨⟨h1, h2⟩, ⟨⟨a1.kept hq, a2.kept hq⟩, ⟨b1.kept hq, b2.kept hq⟩⟩, c1.kept hq, c2.kept hq, c3, c4⟩
theorem zFix.narrow {D : va_G} {ca : Nat → ClassId} {ad : Nat → Nat} {A B : Nat → Prop} {U : State} {H : Heap} (h : zFix D ca ad A U H) (hAB : ∀ q, B q → A q) : zFix D ca ad B U H := by
  obtain ⟨⟨h1, h2⟩, ⟨⟨a1, a2⟩, ⟨b1, b2⟩⟩, c1, c2, c3, c4⟩ := h
  exact ⟨⟨h1, h2⟩, ⟨⟨a1.narrow hAB, a2.narrow hAB⟩, ⟨b1.narrow hAB, b2.narrow hAB⟩⟩, c1.narrow hAB, c2.narrow hAB, c3, c4⟩
theorem zFix.call {D : va_G} {ca : Nat → ClassId} {ad : Nat → Nat} {A : Nat → Prop} {U : State} {g : JFrame} {mk : MethodId} {a : Array Value} {H : Heap} (h : zFix D ca ad A U H) : zFix D ca ad A (U.calling g mk a) H := by
  obtain ⟨⟨h1, h2⟩, ⟨⟨a1, a2⟩, ⟨b1, b2⟩⟩, c1, c2, c3, c4⟩ := h
  have hvm : U.vm.Alike (U.calling g mk a).vm := Vm.Alike.refl U.vm
  exact ⟨⟨va_K.moved hvm h1, fun q hq => va_Nw.same (w := .methodLinkNest q.1 q.2.1 q.2.2.1 q.2.2.2) rfl rfl (h2 q hq)⟩, ⟨⟨va_Z.moved hvm a1, va_T.moved hvm a2⟩, ⟨va_Z.moved hvm b1, va_T.moved hvm b2⟩⟩, va_Z.moved hvm c1, vk_S.moved hvm c2, vk_R.same rfl c3, vk_R.same rfl c4⟩
/-! the world, a method's contract, and the judgement of this claim: from here on, in this store -/
def zWd (D : va_G) (ca : Nat → ClassId) (ad : Nat → Nat) (σ : zSt) (U : State) : Prop := va_P D vwCl (zW shp ca ad σ) U.heap ∧ zinj zN ad ∧ zFix D ca ad (zA zN ad) U U.heap
def zQc (D : va_G) (ca : Nat → ClassId) (ad : Nat → Nat) (r : Option Value) (τ : zSt) : Array Value → State → Outcome → State → Prop := fun _ st o t => o = .returned r ∧ va_P D vwCl (zW shp ca ad τ) t.heap ∧ va_F (zA zN ad) st t
abbrev zG : Type := Launch × va_G × (Nat → ClassId) × (Nat → Nat)
abbrev zad (G : zG) (k : Nat) : Nat := G.2.2.2 k
abbrev zroom (d : Nat) : Room := { frames := d, cells := 0, slots := 0, locals := 41 * d }
def zM (G : zG) (d : Nat) (y : MethodName) (cc : ByteArray) (nL : Nat) (ret : Option FieldType) (av : List Value) (σ : zSt) (r : Option Value) (τ : zSt) : Prop := match G with
  | (l, D, ca, ad) => Met l y (.code y cc nL ret :: zT) (zroom d) (va_Pc av (fun U => zWd D ca ad σ U)) (zQc D ca ad r τ) 0 0 (zA zN ad)
abbrev zC : Type := Program × Env × Room × State × MethodId × Array Value × List Frame × Method × Code × (Nat → Prop) × Nat × Nat × (State → Prop)
def zS (G : zG) (d : Nat) (own : String) (cc : ByteArray) (nL : Nat) (C : zC) : Prop := match G, C with
  | (l, D, ca, ad), (p, e, R, s, m, args, below, meth, c, A, cells, slots, Q) => (p.tables.exec = Jvm.exec ∧ c.code = cc ∧ c.maxLocals = nL ∧ s.vm.findClass own = some m.cls ∧ ∀ w ∈ zT, w.before args s = true) ∧ (zinj zN ad ∧ (∀ q, zA zN ad q → A q) ∧ zFix D ca ad A s s.heap) ∧ d ≤ R.frames ∧ 41 * d ≤ R.locals ∧ cells ≤ R.cells ∧ slots ≤ R.slots
def zAW (G : zG) (d : Nat) (own : String) (cc : ByteArray) (nL : Nat) (C : zC) (pc : Nat) (lv : List (Nat × Value)) (st : List Value) (σ : zSt) : Prop := zS G d own cc nL C → match G, C with
  | (l, D, ca, ad), (p, e, R, s, m, args, below, meth, c, A, cells, slots, Q) => ∀ (H : Heap) (locs : List Loc) (ls : Array Slot), va_P D vwCl (zW shp ca ad σ) H → va_S A s.heap H locs → lv_has ls nL lv → W p l e R s m args below meth c H locs cells slots Q (F0 m pc ls st)
def zR (G : zG) (C : zC) (ret : Option FieldType) (r : Option Value) (τ : zSt) : Prop := match G, C with
  | (l, D, ca, ad), (p, e, R, s, m, args, below, meth, c, A, cells, slots, Q) => meth.sig.returnType = ret ∧ meth.locks = false ∧ A = zA zN ad ∧ Q = MQ below (zQc D ca ad r τ) args s cells slots (zA zN ad)
theorem zM.of {G : zG} {d : Nat} {y : MethodName} {own : String} {cc : ByteArray} {nL : Nat} {ret : Option FieldType} {av : List Value} {σ : zSt} {r : Option Value} {τ : zSt} (hy : plainName y.cls = true) (ho : y.cls = own) (hn : (lg_sl av).length ≤ nL)
    (h : ∀ C : zC, zR G C ret r τ → zAW G d own cc nL C 0 (lv_args 0 av) [] σ) : zM G d y cc nL ret av σ r τ := by
  obtain ⟨l, D, ca, ad⟩ := G
  refine Met.ofW (cc := cc) (maxL := nL) (ret := ret) hy rfl ?_
  intro p e s m args below meth c s₁ B hml hv
  obtain ⟨rfl, hP, hi, hF⟩ := hv
  have hts := atoms_spec (ws := .code y cc nL ret :: zT) B.pre
  have hown : s.vm.findClass own = some m.cls := by rw [← ho]; exact findClass_of_methodNamed B.named
  have hl := lv_entry av (n := nL) hn
  rw [lg_entry_eq]
  exact h (p, e, _, s, m, av.toArray, below, meth, c, zA zN ad, 0, 0, _) ⟨B.returns, B.notSynchronized, rfl, rfl⟩ ⟨⟨B.exec, B.bytes, hml, hown, fun w hw => hts w (List.mem_cons_of_mem _ hw)⟩, ⟨hi, fun _ q => q, hF⟩, Nat.le_refl d, Nat.le_refl (41 * d), Nat.le_refl 0, Nat.le_refl 0⟩ s.heap [] _ hP va_S.rf hl
theorem zW_Ds {ca : Nat → ClassId} {ad : Nat → Nat} {σ : zSt} {A : Nat → Prop} (hi : zinj zN ad) (hA : ∀ q, zA zN ad q → A q) : va_D A (zW shp ca ad σ) := zW_D (by rw [zN_len]; exact hi) (by rw [zN_len]; exact hA)
section Z
variable {G : zG} {d : Nat} {own : String} {cc : ByteArray} {nL : Nat} {C : zC} {pc pc' : Nat} {lv : List (Nat × Value)} {st : List Value} {σ : zSt}
theorem z_sub {lv' : List (Nat × Value)} (ks : List Nat) (hl : lv_pick lv ks = lv') (k : zAW G d own cc nL C pc lv' st σ) : zAW G d own cc nL C pc lv st σ := by
  obtain ⟨l, D, ca, ad⟩ := G
  obtain ⟨p, e, R, s, m, args, below, meth, c, A, cells, slots, Q⟩ := C
  intro S H locs ls hP hS h
  exact k S H locs ls hP hS (lv_sub h ks hl)
end Z
