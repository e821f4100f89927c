/-! what calls need of the tables: the good words of lw_tbl -/
def zT : List Cond := lw_tbl.filter goodWord
theorem zT_in {w : Cond} (i : Nat) (h : lw_tbl[i]? = some w) (hg : goodWord w = true) : w ∈ zT := List.mem_filter.mpr ⟨List.mem_of_getElem? h, hg⟩
theorem zT_good {w : Cond} (h : w ∈ zT) : (w.onTables && w.keeps) = true ∨ ∃ ty, w = .arrayClass ty := good_of_word (List.mem_filter.mp h).2
theorem zT_ws (ws : List Cond) (ps : List Nat) (hp : ws = ps.filterMap (fun i => lw_tbl[i]?)) (hg : ws.all goodWord = true) : ∀ w ∈ ws, w ∈ zT := by
  intro w hw
  have h1 := List.all_eq_true.mp hg w hw
  rw [hp] at hw
  obtain ⟨i, -, hi⟩ := List.mem_filterMap.mp hw
  exact zT_in i hi h1
/-! the store: what the ints and the longs of the cells are -/
abbrev zSt : Type := (Nat → Nat → Int32) × (Nat → Nat → Int64)
def zrow (σ : zSt) (c : Nat) (f : Nat → Int32) : zSt := (fun a => if a = c then f else σ.1 a, σ.2)
def zrowL (σ : zSt) (c : Nat) (f : Nat → Int64) : zSt := (σ.1, fun a => if a = c then f else σ.2 a)
def zwr (σ : zSt) (c j : Nat) (v : Int32) : zSt := zrow σ c (upd (σ.1 c) j v)
def zwrL (σ : zSt) (c j : Nat) (v : Int64) : zSt := zrowL σ c (vp_updL (σ.2 c) j v)
/-- a field: an int (none), a long, or a reference to a cell; a cell: an object of a class, or a row of a kind -/
abbrev zF : Type := Option (Option Nat)
abbrev zSh : Type := (Nat × List zF) ⊕ (Nat × Nat)
def zfv (ad : Nat → Nat) (σ : zSt) (c j : Nat) : zF → Value
  | none => .int (σ.1 c j)
  | some none => .long (σ.2 c j)
  | some (some r) => .ref (ad r)
def zcell (ca : Nat → ClassId) (ad : Nat → Nat) (σ : zSt) (c : Nat) : zSh → va_E
  | .inl (ci, fs) => .inr (ci, fs.mapIdx (fun j f => zfv ad σ c j f))
  | .inr (0, n) => .inl (ca 0, n, .inl (σ.1 c))
  | .inr (1, n) => .inl (ca 1, n, .inl (σ.1 c))
  | .inr (_, n) => .inl (ca 2, n, .inr (.inl (σ.2 c)))
def zW (sh : List zSh) (ca : Nat → ClassId) (ad : Nat → Nat) (σ : zSt) : va_W := sh.mapIdx (fun c s => (ad c, zcell ca ad σ c s))
theorem zW_get {sh : List zSh} {ca : Nat → ClassId} {ad : Nat → Nat} {σ : zSt} {c : Nat} {s : zSh} (h : sh[c]? = some s) : (zW sh ca ad σ)[c]? = some (ad c, zcell ca ad σ c s) := by
  simp [zW, h]
theorem zW_len {sh : List zSh} {ca : Nat → ClassId} {ad : Nat → Nat} {σ : zSt} : (zW sh ca ad σ).length = sh.length := by simp [zW]
theorem zW_inv {sh : List zSh} {ca : Nat → ClassId} {ad : Nat → Nat} {σ : zSt} {k : Nat} {q : Nat × va_E} (h : (zW sh ca ad σ)[k]? = some q) : k < sh.length ∧ q.1 = ad k := by
  have hk : k < (zW sh ca ad σ).length := (List.getElem?_eq_some_iff.mp h).1
  rw [zW_len] at hk
  obtain ⟨s, hs⟩ : ∃ s, sh[k]? = some s := ⟨sh[k], List.getElem?_eq_getElem hk⟩
  rw [zW_get hs] at h
  cases h
  exact ⟨hk, rfl⟩
def zinj (N : Nat) (ad : Nat → Nat) : Prop := ∀ i j, i < N → j < N → ad i = ad j → i = j
def zA (N : Nat) (ad : Nat → Nat) : Nat → Prop := fun q => ∃ k, k < N ∧ q = ad k
theorem zW_D {sh : List zSh} {ca : Nat → ClassId} {ad : Nat → Nat} {σ : zSt} {A : Nat → Prop} (hi : zinj sh.length ad) (hA : ∀ q, zA sh.length ad q → A q) : va_D A (zW sh ca ad σ) := by
  refine ⟨fun i j p q h1 h2 h => ?_, fun k q h => ?_⟩
  · obtain ⟨a1, b1⟩ := zW_inv h1
    obtain ⟨a2, b2⟩ := zW_inv h2
    exact hi i j a1 a2 (by rw [← b1, ← b2]; exact h)
  · obtain ⟨a1, b1⟩ := zW_inv h
    exact hA _ ⟨k, a1, b1⟩
theorem zrow_c {σ : zSt} {c : Nat} {f : Nat → Int32} : (zrow σ c f).1 c = f := by simp [zrow]
theorem zrow_n {σ : zSt} {c d : Nat} {f : Nat → Int32} (h : d ≠ c) : (zrow σ c f).1 d = σ.1 d := by simp [zrow, h]
theorem zrow_L {σ : zSt} {c : Nat} {f : Nat → Int32} : (zrow σ c f).2 = σ.2 := rfl
theorem zrowL_c {σ : zSt} {c : Nat} {f : Nat → Int64} : (zrowL σ c f).2 c = f := by simp [zrowL]
theorem zrowL_n {σ : zSt} {c d : Nat} {f : Nat → Int64} (h : d ≠ c) : (zrowL σ c f).2 d = σ.2 d := by simp [zrowL, h]
theorem zrowL_I {σ : zSt} {c : Nat} {f : Nat → Int64} : (zrowL σ c f).1 = σ.1 := rfl
theorem zcell_n {ca : Nat → ClassId} {ad : Nat → Nat} {σ τ : zSt} {c : Nat} {s : zSh} (h1 : τ.1 c = σ.1 c) (h2 : τ.2 c = σ.2 c) : zcell ca ad τ c s = zcell ca ad σ c s := by
  have hf : ∀ j f, zfv ad τ c j f = zfv ad σ c j f := by
    intro j f
    unfold zfv
    split <;> first | rw [h1] | rw [h2] | rfl
  unfold zcell
  split <;> first | (simp only [hf]; done) | rw [h1] | rw [h2]
theorem zW_set {sh : List zSh} {ca : Nat → ClassId} {ad : Nat → Nat} {σ τ : zSt} {c : Nat} {s : zSh} (hs : sh[c]? = some s) (h : ∀ d, d ≠ c → τ.1 d = σ.1 d ∧ τ.2 d = σ.2 d) : (zW sh ca ad σ).set c (ad c, zcell ca ad τ c s) = zW sh ca ad τ := by
  have hc : c < sh.length := (List.getElem?_eq_some_iff.mp hs).1
  refine List.ext_getElem? (fun k => ?_)
  by_cases hk : c = k
  · subst hk
    rw [List.getElem?_set_self (by rw [zW_len]; exact hc), zW_get hs]
  · rw [List.getElem?_set_ne hk]
    by_cases hl : k < sh.length
    · obtain ⟨s', hs'⟩ : ∃ s', sh[k]? = some s' := ⟨sh[k], List.getElem?_eq_getElem hl⟩
      rw [zW_get hs', zW_get hs']
      obtain ⟨e1, e2⟩ := h k (fun q => hk q.symm)
      rw [zcell_n e1 e2]
    · rw [List.getElem?_eq_none (by rw [zW_len]; omega), List.getElem?_eq_none (by rw [zW_len]; omega)]
/-- an object's int, long set -/
theorem zW_puti {sh : List zSh} {ca : Nat → ClassId} {ad : Nat → Nat} {σ : zSt} {c ci j : Nat} {fs : List zF} {v : Int32} (hs : sh[c]? = some (.inl (ci, fs))) (hj : fs[j]? = some none) : (zW sh ca ad σ).set c (ad c, .inr (ci, (fs.mapIdx (fun j f => zfv ad σ c j f)).set j (.int v))) = zW sh ca ad (zwr σ c j v) := by
  have hl : j < fs.length := (List.getElem?_eq_some_iff.mp hj).1
  rw [← zW_set hs (σ := σ) (τ := zwr σ c j v) (fun d hd => ⟨by simp [zwr, zrow, hd], rfl⟩)]
  congr 3
  refine congrArg (fun l => (ci, l)) ?_
  refine List.ext_getElem? (fun k => ?_)
  by_cases hk : j = k
  · subst hk
    rw [List.getElem?_set_self (by simp; exact hl), List.getElem?_mapIdx, hj]
    simp [zfv, zwr, zrow, upd]
  · rw [List.getElem?_set_ne hk, List.getElem?_mapIdx, List.getElem?_mapIdx]
    cases fs[k]? with
    | none => rfl
    | some f =>
      have hk' : k ≠ j := fun q => hk q.symm
      cases f with
      | none => simp [zfv, zwr, zrow, upd, hk']
      | some f => cases f <;> simp [zfv, zwr, zrow]
theorem zW_putl {sh : List zSh} {ca : Nat → ClassId} {ad : Nat → Nat} {σ : zSt} {c ci j : Nat} {fs : List zF} {v : Int64} (hs : sh[c]? = some (.inl (ci, fs))) (hj : fs[j]? = some (some none)) : (zW sh ca ad σ).set c (ad c, .inr (ci, (fs.mapIdx (fun j f => zfv ad σ c j f)).set j (.long v))) = zW sh ca ad (zwrL σ c j v) := by
  have hl : j < fs.length := (List.getElem?_eq_some_iff.mp hj).1
  rw [← zW_set hs (σ := σ) (τ := zwrL σ c j v) (fun d hd => ⟨rfl, by simp [zwrL, zrowL, hd]⟩)]
  congr 3
  refine congrArg (fun l => (ci, l)) ?_
  refine List.ext_getElem? (fun k => ?_)
  by_cases hk : j = k
  · subst hk
    rw [List.getElem?_set_self (by simp; exact hl), List.getElem?_mapIdx, hj]
    simp [zfv, zwrL, zrowL, vp_updL]
  · rw [List.getElem?_set_ne hk, List.getElem?_mapIdx, List.getElem?_mapIdx]
    cases fs[k]? with
    | none => rfl
    | some f =>
      have hk' : k ≠ j := fun q => hk q.symm
      cases f with
      | none => simp [zfv, zwrL, zrowL]
      | some f => cases f <;> simp [zfv, zwrL, zrowL, vp_updL, hk']
/-! decoded instructions -/
def zD (cc : ByteArray) (pc : Nat) (i : Instr) (n pc' : Nat) : Prop := decode cc pc = .ok (i, n) ∧ pc + n = pc'
def zB (cc : ByteArray) (pc : Nat) (i : Instr) (off : Int) (tgt pc' : Nat) : Prop := decode cc pc = .ok (i, 3) ∧ (pc : Int) + off = (tgt : Int) ∧ pc + 3 = pc'
def zIL (cc : ByteArray) (pc : Nat) (i : Nat) (pc' : Nat) : Prop := (∃ k : Fin 4, decode cc pc = .ok (.iload_n k, 1) ∧ (k : Nat) = i ∧ pc + 1 = pc') ∨ (decode cc pc = .ok (.iload i, 2) ∧ pc + 2 = pc')
def zAL (cc : ByteArray) (pc : Nat) (i : Nat) (pc' : Nat) : Prop := (∃ k : Fin 4, decode cc pc = .ok (.aload_n k, 1) ∧ (k : Nat) = i ∧ pc + 1 = pc') ∨ (decode cc pc = .ok (.aload i, 2) ∧ pc + 2 = pc')
def zLL (cc : ByteArray) (pc : Nat) (i : Nat) (pc' : Nat) : Prop := (∃ k : Fin 4, decode cc pc = .ok (.lload_n k, 1) ∧ (k : Nat) = i ∧ pc + 1 = pc') ∨ (decode cc pc = .ok (.lload i, 2) ∧ pc + 2 = pc')
def zIS (cc : ByteArray) (pc : Nat) (i : Nat) (pc' : Nat) : Prop := (∃ k : Fin 4, decode cc pc = .ok (.istore_n k, 1) ∧ (k : Nat) = i ∧ pc + 1 = pc') ∨ (decode cc pc = .ok (.istore i, 2) ∧ pc + 2 = pc')
def zAS (cc : ByteArray) (pc : Nat) (i : Nat) (pc' : Nat) : Prop := (∃ k : Fin 4, decode cc pc = .ok (.astore_n k, 1) ∧ (k : Nat) = i ∧ pc + 1 = pc') ∨ (decode cc pc = .ok (.astore i, 2) ∧ pc + 2 = pc')
def zLS (cc : ByteArray) (pc : Nat) (i : Nat) (pc' : Nat) : Prop := (∃ k : Fin 4, decode cc pc = .ok (.lstore_n k, 1) ∧ (k : Nat) = i ∧ pc + 1 = pc') ∨ (decode cc pc = .ok (.lstore i, 2) ∧ pc + 2 = pc')
def zK (cc : ByteArray) (pc : Nat) (v : Int32) (pc' : Nat) : Prop := (∃ n : Int, decode cc pc = .ok (.iconst n, 1) ∧ Int32.ofInt n = v ∧ pc + 1 = pc') ∨ (∃ n : Int, decode cc pc = .ok (.bipush n, 2) ∧ (Int8.ofInt n).toInt32 = v ∧ pc + 2 = pc') ∨ (∃ n : Int, decode cc pc = .ok (.sipush n, 3) ∧ (Int16.ofInt n).toInt32 = v ∧ pc + 3 = pc')
