/-! ===== a row of rows of ints, made at once ===== -/
section Mna
def mO (c : ClassId) (N h0 i : Nat) : Cell := arrV c N (fun j => va_rf (if j < i then some (h0 + 1 + j) else none))
def mI (c : ClassId) (M : Nat) : Cell := arrV c M (fun _ => .int 0)
theorem mO_succ (c : ClassId) (N h0 i : Nat) : (mO c N h0 i).setSlot i (.ref (h0 + 1 + i)) = mO c N h0 (i + 1) := by
  unfold mO
  rw [arrV_store]
  congr 1
  funext j
  by_cases h : j = i
  · subst h; simp [updV, va_rf]
  · by_cases h2 : j < i
    · simp [updV, h, h2, Nat.lt_succ_of_lt h2]
    · simp [updV, h, h2, show ¬ j < i + 1 by omega]
/-- the state behind i of the N rows of M ints -/
def mF (s : State) (c cc : ClassId) (N M : Nat) : Nat → State
  | 0 => s.pushCell (mO c N s.heap.size 0)
  | i + 1 => ((mF s c cc N M i).pushCell (mI cc M)).setCell s.heap.size (mO c N s.heap.size (i + 1))
theorem mO_size {c : ClassId} {N h0 i : Nat} : (mO c N h0 i).slots.size = N := arrV_size _ _ _
theorem mI_size {c : ClassId} {M : Nat} : (mI c M).slots.size = M := arrV_size _ _ _
theorem mF_facts (s : State) (c cc : ClassId) (N M : Nat) : ∀ i, (mF s c cc N M i).heap.size = s.heap.size + 1 + i ∧ (mF s c cc N M i).heap[s.heap.size]? = some (mO c N s.heap.size i) ∧ (mF s c cc N M i).vm = s.vm ∧ (mF s c cc N M i).slotsUsed = s.slotsUsed + N + i * M ∧
    (∀ a, a < s.heap.size → (mF s c cc N M i).heap[a]? = s.heap[a]?) ∧ ∀ j, j < i → (mF s c cc N M i).heap[s.heap.size + 1 + j]? = some (mI cc M)
  | 0 => by
    refine ⟨by simp [mF, State.pushCell], by simp [mF, State.pushCell], rfl, by simp [mF, State.pushCell, mO_size], fun a ha => ?_, fun j hj => absurd hj (Nat.not_lt_zero j)⟩
    exact State.heap_pushCell_of_lt s _ ha
  | i + 1 => by
    obtain ⟨f1, f2, f3, f4, f5, f6⟩ := mF_facts s c cc N M i
    have hz : ((mF s c cc N M i).pushCell (mI cc M)).heap.size = s.heap.size + 1 + (i + 1) := by simp [State.pushCell, f1]; omega
    have hlt : s.heap.size < ((mF s c cc N M i).pushCell (mI cc M)).heap.size := by rw [hz]; omega
    have hp : ∀ a, a < s.heap.size + 1 + i → ((mF s c cc N M i).pushCell (mI cc M)).heap[a]? = (mF s c cc N M i).heap[a]? := fun a ha => State.heap_pushCell_of_lt _ _ (by rw [f1]; exact ha)
    have hne : ∀ a, s.heap.size ≠ a → (mF s c cc N M (i + 1)).heap[a]? = ((mF s c cc N M i).pushCell (mI cc M)).heap[a]? := fun a ha => heapAt_setCell_ne _ ha
    refine ⟨(size_setCell _ _ _).trans hz, heapAt_setCell_self _ hlt, f3, ?_, fun a ha => ?_, fun j hj => ?_⟩
    · show (mF s c cc N M i).slotsUsed + (mI cc M).slots.size = _
      rw [f4, mI_size, Nat.succ_mul]; omega
    · rw [hne a (by omega), hp a (by omega)]
      exact f5 a ha
    · rw [hne _ (by omega)]
      by_cases h : j = i
      · subst h
        rw [← f1]
        simp [State.pushCell]
      · rw [hp _ (by omega)]
        exact f6 j (by omega)
theorem mF_setTop (s : State) (f : JFrame) (c cc : ClassId) (N M : Nat) : ∀ i, mF (s.setTop f) c cc N M i = (mF s c cc N M i).setTop f
  | 0 => rfl
  | i + 1 => by
    show ((mF (s.setTop f) c cc N M i).pushCell (mI cc M)).setCell _ _ = _
    rw [mF_setTop s f c cc N M i]
    rfl
theorem mF_stand {p : Program} {l : Launch} {e : Env} {R : Room} {s : State} {m : MethodId} {args : Array Value} {below : List Frame} {meth : Method} {c : Code} {T : State} {locs : List Loc} {cells slots : Nat} (X : Stand p l e R s m args below meth c T locs cells slots) (cA cc : ClassId) (N M : Nat) :
    ∀ i, Stand p l e R s m args below meth c (mF T cA cc N M i) (locs ++ (List.range i).map fun j => ⟨T.heap.size, j⟩) (cells + 1 + i) (slots + N + i * M)
  | 0 => by
    have h := X.pushed (mO cA N T.heap.size 0)
    rw [mO_size] at h
    simpa [mF] using h
  | i + 1 => by
    have Xi := mF_stand X cA cc N M i
    obtain ⟨f1, f2, -⟩ := mF_facts T cA cc N M i
    have hcell : ((mF T cA cc N M i).pushCell (mI cc M)).heap[T.heap.size]? = some (mO cA N T.heap.size i) := (State.heap_pushCell_of_lt _ _ (show T.heap.size < (mF T cA cc N M i).heap.size by rw [f1]; omega)).trans f2
    have h := (Xi.pushed (mI cc M)).stored hcell i (.ref (T.heap.size + 1 + i))
    rw [mI_size, mO_succ] at h
    have e2 : (locs ++ (List.range (i + 1)).map fun j => (⟨T.heap.size, j⟩ : Loc)) = (locs ++ (List.range i).map fun j => (⟨T.heap.size, j⟩ : Loc)) ++ [⟨T.heap.size, i⟩] := by simp [List.range_succ, List.append_assoc]
    have e3 : slots + N + (i + 1) * M = slots + N + i * M + M := by rw [Nat.succ_mul]; omega
    rw [e2, e3]
    exact h
section MnaWp
variable {E : CtlPost} {e : Env} {d : Bool} {acts : List Action} {s : State}
theorem wp_newA {c comp : ClassId} {k : Class} {type : FieldType} {len : Nat} {init : Value} (hk : s.vm.classes[c]? = some k) (hkind : k.kind = .array comp type)
    (hlimit : ¬ len > e.platform.arrayLengthLimit) (hheap : ¬ len * componentBytes type > e.platform.maxHeapBytes) (hfit : fits type init = true) (hdef : init.isDefault = true) {Q : Addr → Pre}
    (h1 : s.heap.size < e.platform.maxCells) (h2 : s.slotsUsed + len ≤ e.platform.maxSlots) (hq : Q s.heap.size d acts (s.pushCell (arrV c len (fun _ => init)))) : wp (Jvm.newArray c len init) Q E e d acts s := by
  rw [← arrV_new] at hq
  have hfits : ∀ i v, (Array.replicate len init)[i]? = some v → s.fitsSlot c .none i v = true := by
    intro i v hv
    rw [Array.getElem?_replicate] at hv
    by_cases hi : i < len
    · rw [if_pos hi] at hv
      cases hv
      simp [State.fitsSlot, State.slotType?, hk, hkind, hfit]
    · rw [if_neg hi] at hv; cases hv
  have hda : allocActs (Array.replicate len init) s.heap.size acts = acts := by
    unfold allocActs
    rw [if_pos (by rw [Array.all_replicate]; split <;> simp [hdef])]
  simp only [Jvm.newArray, Jvm.arrayFits, wp_bind', W.ask, W.ite, hlimit, if_false, wp_pure', W.theClass, hk, hkind, hheap, W.alloc, W.stop, Option.some.injEq, exists_eq_left', Array.size_replicate, hda]
  rw [if_neg (by omega)]
  exact ⟨h1, h2, hfits, hq⟩
theorem wp_mk1 {comp cc : ClassId} {kc : Class} {m : Int32} (hkc : s.vm.classes[comp]? = some kc) (hkindc : kc.kind = .array cc .int) (hm : ¬ m < 0)
    (hl2 : ¬ m.toNatClampNeg > e.platform.arrayLengthLimit) (hh2 : ¬ m.toNatClampNeg * 4 > e.platform.maxHeapBytes)
    (h1 : s.heap.size < e.platform.maxCells) (h2 : s.slotsUsed + m.toNatClampNeg ≤ e.platform.maxSlots)
    {Q : Addr → Pre} (hq : Q s.heap.size d acts (s.pushCell (mI comp m.toNatClampNeg))) : wp (multianewarray.make comp [m]) Q E e d acts s := by
  rw [multianewarray.make]
  simp only [wp_bind', W.ite, hm, if_false, wp_pure', W.theClass, hkc, hkindc, Option.some.injEq, exists_eq_left']
  exact wp_newA hkc hkindc hl2 hh2 rfl rfl h1 h2 hq
theorem ref_fits {t : FieldType} (h : t.isReference = true) {v : Value} (hv : v = .null ∨ ∃ a, v = .ref a) : fits t v = true := by
  rcases hv with rfl | ⟨a, rfl⟩ <;> cases t <;> first | rfl | (simp [FieldType.isReference] at h)
theorem wp_mk2 {c comp cc : ClassId} {k kc : Class} {n m : Int32} (hk : s.vm.classes[c]? = some k) (hkind : k.kind = .array comp (.array .int))
    (hkc : s.vm.classes[comp]? = some kc) (hkindc : kc.kind = .array cc .int) (hn : ¬ n < 0) (hm : ¬ m < 0)
    (hl1 : ¬ n.toNatClampNeg > e.platform.arrayLengthLimit) (hh1 : ¬ n.toNatClampNeg * 4 > e.platform.maxHeapBytes) (hl2 : ¬ m.toNatClampNeg > e.platform.arrayLengthLimit) (hh2 : ¬ m.toNatClampNeg * 4 > e.platform.maxHeapBytes)
    (hc : s.heap.size + 1 + n.toNatClampNeg ≤ e.platform.maxCells) (hs : s.slotsUsed + n.toNatClampNeg + n.toNatClampNeg * m.toNatClampNeg ≤ e.platform.maxSlots)
    {Q : Addr → Pre} (hq : ∀ d' acts', Q s.heap.size d' acts' (mF s c comp n.toNatClampNeg m.toNatClampNeg n.toNatClampNeg)) : wp (multianewarray.make c [n, m]) Q E e d acts s := by
  have hfind : ([m].find? (· < 0)) = none := by simp [hm]
  rw [multianewarray.make]
  simp only [wp_bind', W.ite, hn, if_false, wp_pure', W.theClass, hk, hkind, Option.some.injEq, exists_eq_left']
  refine wp_newA hk hkind hl1 hh1 rfl rfl (by omega) (by have := Nat.zero_le (n.toNatClampNeg * m.toNatClampNeg); omega) ?_
  simp only [hfind]
  rw [ite_self, wp_bind', Std.Legacy.Range.forIn_eq_forIn_range', show ([:n.toNatClampNeg] : Std.Legacy.Range).size = n.toNatClampNeg by simp [Std.Legacy.Range.size]]
  generalize hN : n.toNatClampNeg = N at *
  refine wp_forIn_inv (fun rest s' => ∃ i, i ≤ N ∧ rest = List.range' i (N - i) ∧ s' = mF s c comp N m.toNatClampNeg i) _ _ ⟨0, Nat.zero_le _, rfl, ?_⟩ ?_ ?_
  · unfold mF mO
    congr 2
  · rintro y rest s' d' acts' Q' ⟨i, hi, hl, rfl⟩ hnext
    have hlt : i < N := by
      rcases Nat.lt_or_ge i N with h | h
      · exact h
      · rw [show N - i = 0 by omega] at hl; simp at hl
    rw [show N - i = (N - (i + 1)) + 1 by omega, List.range'_succ] at hl
    obtain ⟨rfl, hrest⟩ := List.cons.inj hl
    obtain ⟨f1, f2, f3, f4, -⟩ := mF_facts s c comp N m.toNatClampNeg y
    have hmul : (y + 1) * m.toNatClampNeg ≤ N * m.toNatClampNeg := Nat.mul_le_mul_right _ hlt
    rw [Nat.succ_mul] at hmul
    simp only [wp_bind']
    refine wp_mk1 (by rw [f3]; exact hkc) hkindc hm hl2 hh2 (by rw [f1]; omega) (by rw [f4]; omega) ?_
    have hlt0 : s.heap.size < (mF s c comp N m.toNatClampNeg y).heap.size := by rw [f1]; omega
    simp only [wp_bind', W.writeLoc, wp_pure']
    refine ⟨mO c N s.heap.size y, (State.heap_pushCell_of_lt _ _ hlt0).trans f2, (by unfold mO; exact fun h => (by cases h)), (by rw [mO_size]; exact hlt), ?_, hnext _ _ _ ⟨y + 1, hlt, hrest, ?_⟩⟩
    · simp [State.fitsSlot, State.slotType?, mO, arrV, State.pushCell, f3, hk, hkind, fits]
    · rw [f1, mO_succ]; rfl
  · rintro s' d' acts' ⟨i, hi, hl, rfl⟩
    have hiN : i = N := by
      rcases Nat.lt_or_ge i N with h | h
      · rw [show N - i = (N - (i + 1)) + 1 by omega, List.range'_succ] at hl; cases hl
      · omega
    subst hiN
    simp only [wp_pure']
    exact hq _ _
end MnaWp
theorem mna_step {p : Program} {l : Launch} {e : Env} {R : Room} {s : State} {m : MethodId} {args : Array Value} {below : List Frame} {meth : Method} {c : Code} {T : State} {locs : List Loc} {cells slots : Nat} (X : Stand p l e R s m args below meth c T locs cells slots) (hexec : p.tables.exec = Jvm.exec) {own : String} {index : Nat}
    (hown : s.vm.findClass own = some m.cls) (hclink : (Cond.classLink own index "[[I").before args s = true) {comp cA : ClassId} {kA : Class} (hcomp : s.vm.findClass (FieldType.array .int).toString = some comp) (hkA : s.vm.classes[cA]? = some kA) (hkindA : kA.kind = .array comp (.array .int)) (hnameA : s.vm.findClass ("[" ++ (FieldType.array .int).toString) = some cA) (harr : (Cond.arrayClass .int).before args s = true)
    {g : JFrame} (hg : g.method = m) (hdg : decode c.code g.pc = .ok (.multianewarray index 2, 4)) {n k : Int32} {rest : List Value} (hstack : g.stack = .int k :: .int n :: rest)
    (hn : ¬ n < 0) (hk : ¬ k < 0) (hb1 : n.toNatClampNeg ≤ 100) (hb2 : k.toNatClampNeg ≤ 1000)
    (hcells : cells + (1 + n.toNatClampNeg) ≤ R.cells) (hslots : slots + (n.toNatClampNeg + n.toNatClampNeg * k.toNatClampNeg) ≤ R.slots) :
    ∃ (vm₁ : Vm),
      Stand p l e R s m args below meth c (mF (T.setVm vm₁) cA comp n.toNatClampNeg k.toNatClampNeg n.toNatClampNeg) (locs ++ (List.range n.toNatClampNeg).map fun j => ⟨T.heap.size, j⟩) (cells + 1 + n.toNatClampNeg) (slots + n.toNatClampNeg + n.toNatClampNeg * k.toNatClampNeg) ∧
      ∀ target, Steps p.tables e below ((mF (T.setVm vm₁) cA comp n.toNatClampNeg k.toNatClampNeg n.toNatClampNeg).setTop { g with pc := g.pc + 4, stack := .ref T.heap.size :: rest }) target → Steps p.tables e below (T.setTop g) target := by
  subst hg
  have hpl : e.platform.magicAccessors = ({} : Platform).magicAccessors := by rw [X.admits.platform]
  obtain ⟨comp', kC, cc, hcomp', hkC, hkindC⟩ := Cond.arrayClass_spec harr
  have ecomp : comp' = comp := Option.some.inj (hcomp'.symm.trans hcomp)
  subst ecomp
  obtain ⟨c0, hfc0, hcl⟩ := Cond.classLink_spec hown hclink e.platform hpl
  have ec0 : cA = c0 := Option.some.inj ((show s.vm.findClass "[[I" = some cA from hnameA).symm.trans hfc0)
  subst ec0
  obtain ⟨hg₁, hwarm₁, hready₁⟩ := State.classEntry (e := e) X.warmed hcl
  generalize T.vm.noted g.method.cls index (.cls cA) = vm₁ at hg₁ hwarm₁ hready₁
  have hal : s.vm.Alike vm₁ := hwarm₁.alike
  obtain ⟨kA₁, hkA₁, heA⟩ := hal.2.2 _ _ hkA
  obtain ⟨kC₁, hkC₁, heC⟩ := hal.2.2 _ _ hkC
  have hkindA₁ : kA₁.kind = .array comp' (.array .int) := by rw [heA]; exact hkindA
  have hkindC₁ : kC₁.kind = .array cc .int := by rw [heC]; exact hkindC
  have X₁ := X.noted hwarm₁
  obtain ⟨hr1, hr2⟩ := X.roomAbove hcells hslots
  refine ⟨vm₁, mF_stand X₁ cA comp' _ _ _, fun target hrest => ?_⟩
  have hl1 : ¬ n.toNatClampNeg > e.platform.arrayLengthLimit := by rw [Launch.admits_arrayLengthLimit X.admits]; omega
  have hh1 : ¬ n.toNatClampNeg * 4 > e.platform.maxHeapBytes := by rw [Launch.admits_maxHeapBytes X.admits]; omega
  have hl2 : ¬ k.toNatClampNeg > e.platform.arrayLengthLimit := by rw [Launch.admits_arrayLengthLimit X.admits]; omega
  have hh2 : ¬ k.toNatClampNeg * 4 > e.platform.maxHeapBytes := by rw [Launch.admits_maxHeapBytes X.admits]; omega
  jvm_step X.here [hexec, hdg]
  simp only [multianewarray.sem, wp_bind', W.resolveClassAt_links (State.method?_setTop g X.here.top) hg₁]
  rw [W.popN, if_neg (by decide)]
  refine ⟨g, State.topJava?_setTop' (s := T.setVm vm₁) g X.here.top, [.int n, .int k], rest, rfl, hstack, ?_⟩
  simp only [List.mapM_cons, List.mapM_nil, wp_bind', wp_pure']
  refine wp_mk2 (k := kA₁) (kc := kC₁) (comp := comp') (cc := cc) hkA₁ hkindA₁ hkC₁ hkindC₁ hn hk hl1 hh1 hl2 hh2 (by show T.heap.size + 1 + _ ≤ _; omega) (by show T.slotsUsed + _ + _ ≤ _; omega) (fun d' acts' => ?_)
  have XF := mF_stand X₁ cA comp' n.toNatClampNeg k.toNatClampNeg n.toNatClampNeg
  have eS : ((T.setTop g).setVm vm₁).setTop { g with stack := rest } = (T.setVm vm₁).setTop { g with stack := rest } := by
    show ((T.setVm vm₁).setTop g).setTop _ = _
    rw [State.setTop_setTop]
  rw [eS, mF_setTop]
  simp only [wp_bind', W.mark, W.pushRef, State.topJava?_setTop' _ XF.here.top, Option.some.injEq, exists_eq_left', State.setTop_setTop, State.heap_setTop]
  intro acts
  simp [jvm, XF.here.top]
  exact hrest
end Mna
