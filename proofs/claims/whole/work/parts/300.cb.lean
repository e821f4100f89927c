/-! the constructors: cells come one behind another, at bs, bs + 1 .. -/
abbrev zFc : Type := Option (Option (Option Nat))
abbrev zShc : Type := (Nat × List zFc) ⊕ (Nat × Nat)
def cfv (ad : Nat → Nat) (σ : zSt) (c j : Nat) : zFc → Value
  | none => .int (σ.1 c j)
  | some none => .long (σ.2 c j)
  | some (some none) => .null
  | some (some (some r)) => .ref (ad r)
def ccell (ca : Nat → ClassId) (ad : Nat → Nat) (σ : zSt) (c : Nat) : zShc → va_E
  | .inl (ci, fs) => .inr (ci, fs.mapIdx (fun j f => cfv ad σ c j f))
  | .inr (0, n) => .inl (ca 0, n, .inl (σ.1 c))
  | .inr (1, n) => .inl (ca 1, n, .inl (σ.1 c))
  | .inr (_, n) => .inl (ca 2, n, .inr (.inl (σ.2 c)))
def cW (sh : List zShc) (ca : Nat → ClassId) (ad : Nat → Nat) (σ : zSt) : va_W := sh.mapIdx (fun c s => (ad c, ccell ca ad σ c s))
theorem cW_get {sh : List zShc} {ca : Nat → ClassId} {ad : Nat → Nat} {σ : zSt} {c : Nat} {s : zShc} (h : sh[c]? = some s) : (cW sh ca ad σ)[c]? = some (ad c, ccell ca ad σ c s) := by
  simp [cW, h]
theorem cW_len {sh : List zShc} {ca : Nat → ClassId} {ad : Nat → Nat} {σ : zSt} : (cW sh ca ad σ).length = sh.length := by simp [cW]
theorem cW_inv {sh : List zShc} {ca : Nat → ClassId} {ad : Nat → Nat} {σ : zSt} {k : Nat} {q : Nat × va_E} (h : (cW sh ca ad σ)[k]? = some q) : k < sh.length ∧ q.1 = ad k := by
  have hk : k < (cW sh ca ad σ).length := (List.getElem?_eq_some_iff.mp h).1
  rw [cW_len] at hk
  obtain ⟨s, hs⟩ : ∃ s, sh[k]? = some s := ⟨sh[k], List.getElem?_eq_getElem hk⟩
  rw [cW_get hs] at h
  cases h
  exact ⟨hk, rfl⟩
theorem cW_D {sh : List zShc} {ca : Nat → ClassId} {ad : Nat → Nat} {σ : zSt} {A : Nat → Prop} (hi : zinj sh.length ad) (hA : ∀ k, k < sh.length → A (ad k)) : va_D A (cW sh ca ad σ) := by
  refine ⟨fun i j p q h1 h2 h => ?_, fun k q h => ?_⟩
  · obtain ⟨a1, b1⟩ := cW_inv h1
    obtain ⟨a2, b2⟩ := cW_inv h2
    exact hi i j a1 a2 (by rw [← b1, ← b2]; exact h)
  · obtain ⟨a1, b1⟩ := cW_inv h
    rw [b1]
    exact hA k a1
theorem ccell_n {ca : Nat → ClassId} {ad : Nat → Nat} {σ τ : zSt} {c : Nat} {s : zShc} (h1 : τ.1 c = σ.1 c) (h2 : τ.2 c = σ.2 c) : ccell ca ad τ c s = ccell ca ad σ c s := by
  have hf : ∀ j f, cfv ad τ c j f = cfv ad σ c j f := by
    intro j f
    unfold cfv
    split <;> first | rw [h1] | rw [h2] | rfl
  unfold ccell
  split <;> first | (simp only [hf]; done) | rw [h1] | rw [h2]
theorem cW_set {sh : List zShc} {ca : Nat → ClassId} {ad : Nat → Nat} {σ τ : zSt} {c : Nat} {s s' : zShc} (hs : sh[c]? = some s) (h : ∀ d, d ≠ c → τ.1 d = σ.1 d ∧ τ.2 d = σ.2 d) : (cW sh ca ad σ).set c (ad c, ccell ca ad τ c s') = cW (sh.set c s') ca ad τ := by
  have hc : c < sh.length := (List.getElem?_eq_some_iff.mp hs).1
  refine List.ext_getElem? (fun k => ?_)
  by_cases hk : c = k
  · subst hk
    rw [List.getElem?_set_self (by rw [cW_len]; exact hc), cW_get (s := s') (by rw [List.getElem?_set_self hc])]
  · rw [List.getElem?_set_ne hk]
    by_cases hl : k < sh.length
    · obtain ⟨s2, hs2⟩ : ∃ s2, sh[k]? = some s2 := ⟨sh[k], List.getElem?_eq_getElem hl⟩
      rw [cW_get hs2, cW_get (s := s2) (by rw [List.getElem?_set_ne hk]; exact hs2)]
      obtain ⟨e1, e2⟩ := h k (fun q => hk q.symm)
      rw [ccell_n e1 e2]
    · rw [List.getElem?_eq_none (by rw [cW_len]; omega), List.getElem?_eq_none (by rw [cW_len, List.length_set]; omega)]
theorem cW_same {sh : List zShc} {c : Nat} {s : zShc} (hs : sh[c]? = some s) : sh.set c s = sh := by
  refine List.ext_getElem? (fun k => ?_)
  by_cases hk : c = k
  · subst hk
    rw [List.getElem?_set_self (List.getElem?_eq_some_iff.mp hs).1, hs]
  · rw [List.getElem?_set_ne hk]
theorem cW_puti {sh : List zShc} {ca : Nat → ClassId} {ad : Nat → Nat} {σ : zSt} {c ci j : Nat} {fs : List zFc} {v : Int32} (hs : sh[c]? = some (.inl (ci, fs))) (hj : fs[j]? = some none) : (cW sh ca ad σ).set c (ad c, .inr (ci, (fs.mapIdx (fun j f => cfv ad σ c j f)).set j (.int v))) = cW sh ca ad (zwr σ c j v) := by
  have hl : j < fs.length := (List.getElem?_eq_some_iff.mp hj).1
  have e := cW_set (ca := ca) (ad := ad) (s' := .inl (ci, fs)) hs (σ := σ) (τ := zwr σ c j v) (fun d hd => ⟨by simp [zwr, zrow, hd], rfl⟩)
  rw [cW_same hs] at e
  rw [← e]
  congr 3
  refine congrArg (fun l => (ci, l)) ?_
  refine List.ext_getElem? (fun k => ?_)
  by_cases hk : j = k
  · subst hk
    rw [List.getElem?_set_self (by simp; exact hl), List.getElem?_mapIdx, hj]
    simp [cfv, zwr, zrow, upd]
  · rw [List.getElem?_set_ne hk, List.getElem?_mapIdx, List.getElem?_mapIdx]
    cases fs[k]? with
    | none => rfl
    | some f =>
      have hk' : k ≠ j := fun q => hk q.symm
      cases f with
      | none => simp [cfv, zwr, zrow, upd, hk']
      | some f =>
        cases f with
        | none => simp [cfv, zwr, zrow]
        | some f => cases f <;> simp [cfv]
theorem cW_putr {sh : List zShc} {ca : Nat → ClassId} {ad : Nat → Nat} {σ : zSt} {c ci j r : Nat} {fs : List zFc} (hs : sh[c]? = some (.inl (ci, fs))) (hl : j < fs.length) : (cW sh ca ad σ).set c (ad c, .inr (ci, (fs.mapIdx (fun j f => cfv ad σ c j f)).set j (.ref (ad r)))) = cW (sh.set c (.inl (ci, fs.set j (some (some (some r)))))) ca ad σ := by
  rw [← cW_set (s' := .inl (ci, fs.set j (some (some (some r))))) hs (σ := σ) (τ := σ) (fun d hd => ⟨rfl, rfl⟩)]
  congr 3
  refine congrArg (fun l => (ci, l)) ?_
  refine List.ext_getElem? (fun k => ?_)
  by_cases hk : j = k
  · subst hk
    rw [List.getElem?_set_self (by simp; exact hl), List.getElem?_mapIdx, List.getElem?_set_self hl]
    rfl
  · rw [List.getElem?_set_ne hk, List.getElem?_mapIdx, List.getElem?_mapIdx, List.getElem?_set_ne hk]
theorem cW_push {sh : List zShc} {ca : Nat → ClassId} {ad : Nat → Nat} {σ : zSt} {s : zShc} {n : Nat} (hn : sh.length = n) : cW sh ca ad σ ++ [(ad n, ccell ca ad σ n s)] = cW (sh ++ [s]) ca ad σ := by
  subst hn
  simp [cW]
/-- the shape behind the constructors is that of the methods -/
def clift : zSh → zShc
  | .inl (ci, fs) => .inl (ci, fs.map (fun f => f.map (fun o => o.map some)))
  | .inr q => .inr q
theorem cW_lift {sh : List zSh} {ca : Nat → ClassId} {ad : Nat → Nat} {σ : zSt} : cW (sh.map clift) ca ad σ = zW sh ca ad σ := by
  refine List.ext_getElem? (fun k => ?_)
  unfold cW zW
  rw [List.getElem?_mapIdx, List.getElem?_mapIdx, List.getElem?_map]
  cases sh[k]? with
  | none => rfl
  | some s =>
    have e : ccell ca ad σ k (clift s) = zcell ca ad σ k s := by
      cases s with
      | inl o =>
        obtain ⟨ci, fs⟩ := o
        show (Sum.inr (ci, _) : va_E) = Sum.inr (ci, _)
        refine congrArg (fun l => (Sum.inr (ci, l) : va_E)) ?_
        refine List.ext_getElem? (fun j => ?_)
        rw [List.getElem?_mapIdx, List.getElem?_mapIdx, List.getElem?_map]
        cases fs[j]? with
        | none => rfl
        | some f =>
          cases f with
          | none => rfl
          | some f => cases f <;> rfl
      | inr q =>
        obtain ⟨kd, n⟩ := q
        match kd with
        | 0 => rfl
        | 1 => rfl
        | kd + 2 => rfl
    simp [e]
abbrev cC : Type := Program × Env × Room × State × MethodId × Array Value × List Frame × Method × Code × (State → Prop)
def cad (bs : Nat) (G : zG) : Prop := ∀ k, k < 1000 → zad G k = bs + k
def cS (G : zG) (bs d : Nat) (own : String) (cc : ByteArray) (nL KC NS : Nat) (C : cC) : Prop := match G, C with
  | (l, D, ca, ad), (p, e, R, s, m, args, below, meth, c, Q) => (p.tables.exec = Jvm.exec ∧ c.code = cc ∧ c.maxLocals = nL ∧ s.vm.findClass own = some m.cls ∧ ∀ w ∈ zT, w.before args s = true) ∧ (cad bs (l, D, ca, ad) ∧ va_K D vwCl (zTys ca) s) ∧ d ≤ R.frames ∧ 41 * d ≤ R.locals ∧ KC ≤ R.cells ∧ NS ≤ R.slots ∧ bs ≤ s.heap.size
def cAW (G : zG) (bs d : Nat) (own : String) (cc : ByteArray) (nL KC NS : Nat) (C : cC) (pc : Nat) (lv : List (Nat × Value)) (st : List Value) (sh : List zShc) (σ : zSt) (kc ns : Nat) : Prop := cS G bs d own cc nL KC NS C → match G, C with
  | (l, D, ca, ad), (p, e, R, s, m, args, below, meth, c, Q) => ∀ (H : Heap) (locs : List Loc) (ls : Array Slot), va_P D vwCl (cW sh ca ad σ) H → H.size = bs + sh.length → va_S (fun q => bs ≤ q) s.heap H locs → lv_has ls nL lv → W p l e R s m args below meth c H locs kc ns Q (F0 m pc ls st)
def cWd (D : va_G) (ca : Nat → ClassId) (ad : Nat → Nat) (bs : Nat) (sh : List zShc) (σ : zSt) (U : State) : Prop := va_P D vwCl (cW sh ca ad σ) U.heap ∧ U.heap.size = bs + sh.length ∧ (∀ k, k < 1000 → ad k = bs + k) ∧ va_K D vwCl (zTys ca) U
def cQc (D : va_G) (ca : Nat → ClassId) (ad : Nat → Nat) (bs : Nat) (sh : List zShc) (τ : zSt) : Array Value → State → Outcome → State → Prop := fun _ st o t => o = .returned none ∧ va_P D vwCl (cW sh ca ad τ) t.heap ∧ t.heap.size = bs + sh.length ∧ va_F (fun q => bs ≤ q) st t
/-- a constructor's contract: from this shape and store to those -/
def cM (G : zG) (bs d KC NS : Nat) (y : MethodName) (cc : ByteArray) (nL : Nat) (av : List Value) (sh : List zShc) (σ : zSt) (sh' : List zShc) (τ : zSt) : Prop := match G with
  | (l, D, ca, ad) => Met l y (.code y cc nL none :: zT) { frames := d, cells := KC, slots := NS, locals := 41 * d } (va_Pc av (fun U => cWd D ca ad bs sh σ U)) (cQc D ca ad bs sh' τ) KC NS (fun q => bs ≤ q)
def cR (G : zG) (bs : Nat) (C : cC) (KC NS : Nat) (sh : List zShc) (τ : zSt) : Prop := match G, C with
  | (l, D, ca, ad), (p, e, R, s, m, args, below, meth, c, Q) => meth.sig.returnType = none ∧ meth.locks = false ∧ Q = MQ below (cQc D ca ad bs sh τ) args s KC NS (fun q => bs ≤ q)
def cIn (C : cC) : Prop := match C with
  | (p, e, R, s, m, args, below, meth, c, Q) => meth.name = "<init>"
theorem cM.of {G : zG} {bs d KC NS : Nat} {y : MethodName} {own : String} {cc : ByteArray} {nL : Nat} {av : List Value} {sh sh' : List zShc} {σ τ : zSt} (hy : plainName y.cls = true) (ho : y.cls = own) (hin : y.name = "<init>") (hn : (lg_sl av).length ≤ nL)
    (h : ∀ C : cC, cIn C → cR G bs C KC NS sh' τ → cAW G bs d own cc nL KC NS C 0 (lv_args 0 av) [] sh σ 0 0) : cM G bs d KC NS y cc nL av sh σ sh' τ := by
  obtain ⟨l, D, ca, ad⟩ := G
  refine Met.ofW (cc := cc) (maxL := nL) (ret := none) hy rfl ?_
  intro p e s m args below meth c s₁ B hml hv
  obtain ⟨rfl, hP, hz, hi, hK⟩ := hv
  have hts := atoms_spec (ws := .code y cc nL none :: zT) B.pre
  have hown : s.vm.findClass own = some m.cls := by rw [← ho]; exact findClass_of_methodNamed B.named
  have hl := lv_entry av (n := nL) hn
  rw [lg_entry_eq]
  exact h (p, e, _, s, m, av.toArray, below, meth, c, _) ((name_of_methodNamed B.named B.method).1.trans hin) ⟨B.returns, B.notSynchronized, rfl⟩ ⟨⟨B.exec, B.bytes, hml, hown, fun w hw => hts w (List.mem_cons_of_mem _ hw)⟩, ⟨hi, hK⟩, Nat.le_refl d, Nat.le_refl (41 * d), Nat.le_refl KC, Nat.le_refl NS, by rw [hz]; omega⟩ s.heap [] _ hP hz va_S.rf hl
