/-! ===== the classes, by their numbers ===== -/
abbrev cl : List vw_C := [(RX0, TX0, 5), (RX1, TX1, 4), (RX2, TX2, 10), (RX3, TX3, 9), (RX4, TX4, 7), (RX5, TX5, 10), (RX6, TX6, 9), (RX7, TX7, 3), (RX8, TX8, 4), (RX9, TX9, 6), (RX10, TX10, 12), (RX11, TX11, 16), (RX12, TX12, 92)]
def fnum : Nat → Nat := fun c => match c with
  | 0 => 5
  | 1 => 4
  | 2 => 10
  | 3 => 9
  | 4 => 7
  | 5 => 10
  | 6 => 9
  | 7 => 3
  | 8 => 4
  | 9 => 6
  | 10 => 12
  | 11 => 16
  | 12 => 92
  | _ => 0
def fty : Nat → Nat → FieldType := fun c => match c with
  | 0 => tyX0
  | 1 => tyX1
  | 2 => tyX2
  | 3 => tyX3
  | 4 => tyX4
  | 5 => tyX5
  | 6 => tyX6
  | 7 => tyX7
  | 8 => tyX8
  | 9 => tyX9
  | 10 => tyX10
  | 11 => tyX11
  | 12 => tyX12
  | _ => fun _ => .int
theorem cl_some {c : Nat} {q : vw_C} (h : cl[c]? = some q) : c < 13 := by
  have := (List.getElem?_eq_some_iff.mp h).1
  simpa [cl] using this
theorem cl_num {c : Nat} {q : vw_C} (h : cl[c]? = some q) : q.2.2 = fnum c := by
  have hc := cl_some h
  match c, hc, h with
  | 0, _, h => cases h; rfl
  | 1, _, h => cases h; rfl
  | 2, _, h => cases h; rfl
  | 3, _, h => cases h; rfl
  | 4, _, h => cases h; rfl
  | 5, _, h => cases h; rfl
  | 6, _, h => cases h; rfl
  | 7, _, h => cases h; rfl
  | 8, _, h => cases h; rfl
  | 9, _, h => cases h; rfl
  | 10, _, h => cases h; rfl
  | 11, _, h => cases h; rfl
  | 12, _, h => cases h; rfl
  | c + 13, hc, _ => exact absurd hc (by omega)
theorem cl_in {c : Nat} {q : vw_C} (h : cl[c]? = some q) : ∀ w ∈ u_ws q.1 q.2.1 q.2.2, w ∈ lw_tbl := by
  have hc := cl_some h
  match c, hc, h with
  | 0, _, h => cases h; exact inX0
  | 1, _, h => cases h; exact inX1
  | 2, _, h => cases h; exact inX2
  | 3, _, h => cases h; exact inX3
  | 4, _, h => cases h; exact inX4
  | 5, _, h => cases h; exact inX5
  | 6, _, h => cases h; exact inX6
  | 7, _, h => cases h; exact inX7
  | 8, _, h => cases h; exact inX8
  | 9, _, h => cases h; exact inX9
  | 10, _, h => cases h; exact inX10
  | 11, _, h => cases h; exact inX11
  | 12, _, h => cases h; exact inX12
  | c + 13, hc, _ => exact absurd hc (by omega)
theorem cl_nm {c : Nat} {q : vw_C} (h : cl[c]? = some q) : ∀ a, a < q.2.2 → ∀ b, b < q.2.2 → a ≠ b → (q.2.1 a).2.1 ≠ (q.2.1 b).2.1 := by
  have hc := cl_some h
  match c, hc, h with
  | 0, _, h => cases h; exact nmX0
  | 1, _, h => cases h; exact nmX1
  | 2, _, h => cases h; exact nmX2
  | 3, _, h => cases h; exact nmX3
  | 4, _, h => cases h; exact nmX4
  | 5, _, h => cases h; exact nmX5
  | 6, _, h => cases h; exact nmX6
  | 7, _, h => cases h; exact nmX7
  | 8, _, h => cases h; exact nmX8
  | 9, _, h => cases h; exact nmX9
  | 10, _, h => cases h; exact nmX10
  | 11, _, h => cases h; exact nmX11
  | 12, _, h => cases h; exact nmX12
  | c + 13, hc, _ => exact absurd hc (by omega)
theorem cl_ty {c : Nat} {q : vw_C} (h : cl[c]? = some q) : ∀ k, k < q.2.2 → parseFieldDescriptor (q.2.1 k).2.2.1 = some (fty c k) := by
  have hc := cl_some h
  match c, hc, h with
  | 0, _, h => cases h; exact tyX0_ok
  | 1, _, h => cases h; exact tyX1_ok
  | 2, _, h => cases h; exact tyX2_ok
  | 3, _, h => cases h; exact tyX3_ok
  | 4, _, h => cases h; exact tyX4_ok
  | 5, _, h => cases h; exact tyX5_ok
  | 6, _, h => cases h; exact tyX6_ok
  | 7, _, h => cases h; exact tyX7_ok
  | 8, _, h => cases h; exact tyX8_ok
  | 9, _, h => cases h; exact tyX9_ok
  | 10, _, h => cases h; exact tyX10_ok
  | 11, _, h => cases h; exact tyX11_ok
  | 12, _, h => cases h; exact tyX12_ok
  | c + 13, hc, _ => exact absurd hc (by omega)
/-! ===== the pure picture of the memory: x_n cells from the start's size on; of each its kind (16 + class, or an array's: 1 int, 2 long, 3 boolean, 4 Row, 5 Question, 6 Part, 7 int[]) and length; ints, longs, references by address and place ===== -/
abbrev Mem : Type := Nat × (Nat → Nat × Nat) × (Nat → Nat → Int32) × (Nat → Nat → Int64) × (Nat → Nat → Option Nat)
def x_n (X : Mem) : Nat := X.1
def x_h (X : Mem) : Nat → Nat × Nat := X.2.1
def x_i (X : Mem) : Nat → Nat → Int32 := X.2.2.1
def x_l (X : Mem) : Nat → Nat → Int64 := X.2.2.2.1
def x_r (X : Mem) : Nat → Nat → Option Nat := X.2.2.2.2
def up2 {α : Type} (f : Nat → Nat → α) (a k : Nat) (v : α) : Nat → Nat → α := fun b j => if b = a ∧ j = k then v else f b j
def x_si (X : Mem) (a k : Nat) (v : Int32) : Mem := (X.1, X.2.1, up2 X.2.2.1 a k v, X.2.2.2.1, X.2.2.2.2)
def x_sl (X : Mem) (a k : Nat) (v : Int64) : Mem := (X.1, X.2.1, X.2.2.1, up2 X.2.2.2.1 a k v, X.2.2.2.2)
def x_sr (X : Mem) (a k : Nat) (v : Option Nat) : Mem := (X.1, X.2.1, X.2.2.1, X.2.2.2.1, up2 X.2.2.2.2 a k v)
/-- one cell more, all noughts, at the address a -/
def x_new (X : Mem) (a kd n : Nat) : Mem := (X.1 + 1, (fun q => if q = a then (kd, n) else X.2.1 q), (fun q k => if q = a then 0 else X.2.2.1 q k), (fun q k => if q = a then 0 else X.2.2.2.1 q k), (fun q k => if q = a then none else X.2.2.2.2 q k))
abbrev GG : Type := Launch × State × Array Value × va_G × (Nat → ClassId)
def g_l (G : GG) : Launch := G.1
def g_s (G : GG) : State := G.2.1
def g_a (G : GG) : Array Value := G.2.2.1
def g_D (G : GG) : va_G := G.2.2.2.1
def g_k (G : GG) : Nat → ClassId := G.2.2.2.2
def g_b (G : GG) : Nat := (g_s G).heap.size
def valt (X : Mem) (a j : Nat) (ty : FieldType) : Value := match ty with
  | .long => .long (x_l X a j)
  | .object _ => va_rf (x_r X a j)
  | .array _ => va_rf (x_r X a j)
  | _ => .int (x_i X a j)
def x_fs (X : Mem) (a c : Nat) : List Value := (List.range (fnum c)).map (fun j => valt X a j (fty c j))
def x_arr (X : Mem) (a k : Nat) : (Nat → Int32) ⊕ (Nat → Int64) ⊕ (Nat → UInt32) ⊕ (Nat → UInt64) ⊕ (Nat → Option Nat) := if k = 2 then .inr (.inl (x_l X a)) else if k ≤ 3 then .inl (x_i X a) else .inr (.inr (.inr (.inr (x_r X a))))
def x_ent (K : Nat → ClassId) (X : Mem) (a : Nat) : va_E := if 16 ≤ (x_h X a).1 then .inr ((x_h X a).1 - 16, x_fs X a ((x_h X a).1 - 16)) else .inl (K (x_h X a).1, (x_h X a).2, x_arr X a (x_h X a).1)
def x_ws (G : GG) (X : Mem) : va_W := (List.range (x_n X)).map (fun k => (g_b G + k, x_ent (g_k G) X (g_b G + k)))
def x_A (G : GG) : Nat → Prop := fun q => g_b G ≤ q
def kty : Nat → FieldType := fun k => match k with
  | 1 => .int
  | 2 => .long
  | 3 => .boolean
  | 4 => .object "EndlessRows$Row"
  | 5 => .object "EndlessRows$Question"
  | 6 => .object "EndlessRows$Part"
  | _ => .array .int
def x_tys (G : GG) : List (ClassId × FieldType) := (List.range 8).map (fun k => (g_k G k, kty k))
def GOK (G : GG) : Prop := (∀ w ∈ lw_tbl, w.before (g_a G) (g_s G) = true) ∧ va_K (g_D G) cl (x_tys G) (g_s G)
def Rep (G : GG) (X : Mem) (H : Heap) : Prop := va_P (g_D G) cl (x_ws G X) H ∧ H.size = g_b G + x_n X ∧ (∀ q, q < g_b G → H[q]? = (g_s G).heap[q]?) ∧ ∀ a, (x_h X a).1 ≠ 0 → g_b G ≤ a ∧ a < g_b G + x_n X
abbrev MD : Type := MethodName × ByteArray × Nat × Option FieldType
def rmD (d mc ms : Nat) : Room := { frames := d, cells := mc, slots := ms, locals := 41 * d }
def QcD (G : GG) (Q : Option Value → Mem → Prop) : Array Value → State → Outcome → State → Prop := fun _ st o t => (∃ (r : Option Value) (X : Mem), o = .returned r ∧ Q r X ∧ Rep G X t.heap ∧ (g_s G).WarmedH t.vm) ∧ va_F (x_A G) st t
def PcD (G : GG) (as : List Value) (X : Mem) : Array Value → State → Prop := fun v U => v = as.toArray ∧ Rep G X U.heap ∧ (g_s G).WarmedH U.vm
/-- the method md, called with as in the memory X, with room for d frames, rc cells of rs slots: it returns, so that Q holds of its answer and of the memory behind it -/
def Call (G : GG) (d rc rs : Nat) (md : MD) (as : List Value) (X : Mem) (Q : Option Value → Mem → Prop) : Prop :=
  GOK G → Met (g_l G) md.1 [Cond.code md.1 md.2.1 md.2.2.1 md.2.2.2] (rmD d rc rs) (PcD G as X) (QcD G Q) rc rs (x_A G)
def lvp : Nat → List (Option Value) → List (Nat × Value)
  | _, [] => []
  | i, none :: t => lvp (i + 1) t
  | i, some v :: t => (i, v) :: lvp (i + 1) t
def Cx (G : GG) (md : MD) (p : Program) (s : State) (m : MethodId) (meth : Method) (c : Code) : Prop :=
  p.tables.exec = Jvm.exec ∧ c.code = md.2.1 ∧ c.maxLocals = md.2.2.1 ∧ meth.sig.returnType = md.2.2.2 ∧ meth.locks = false ∧ s.vm.findClass md.1.cls = some m.cls ∧ meth.name = md.1.name ∧ (g_s G).WarmedH s.vm ∧ g_b G ≤ s.heap.size
def Cy (G : GG) (md : MD) (s : State) (X : Mem) (lv : List (Option Value)) (H : Heap) (locs : List Loc) (ls : Array Slot) : Prop :=
  Rep G X H ∧ va_S (x_A G) s.heap H locs ∧ lv_has ls md.2.2.1 (lvp 0 lv) ∧ lv.length = md.2.2.1
/-- from here (a place, locals, a stack, a memory) the method comes to its end, so that Q holds -/
def Wk (G : GG) (d rc rs : Nat) (md : MD) (pc : Nat) (lv : List (Option Value)) (st : List Value) (X : Mem) (Q : Option Value → Mem → Prop) : Prop :=
  GOK G → ∀ (p : Program) (e : Env) (s : State) (m : MethodId) (args : Array Value) (below : List Frame) (meth : Method) (c : Code) (H : Heap) (locs : List Loc) (ls : Array Slot) (cells slots mc ms : Nat),
    Cx G md p s m meth c → Cy G md s X lv H locs ls → cells + rc ≤ mc → slots + rs ≤ ms →
    W p (g_l G) e (rmD d mc ms) s m args below meth c H locs cells slots (MQ below (QcD G Q) args s mc ms (x_A G)) (F0 m pc ls st)
section Core
variable {G : GG} {d rc rs : Nat} {md : MD} {pc : Nat} {lv : List (Option Value)} {st : List Value} {X : Mem} {Q : Option Value → Mem → Prop}
theorem x_ws_at {a : Nat} (h1 : g_b G ≤ a) (h2 : a < g_b G + x_n X) : (x_ws G X)[a - g_b G]? = some (a, x_ent (g_k G) X a) := by
  unfold x_ws
  rw [List.getElem?_map, List.getElem?_range (by omega)]
  simp only [Option.map_some]
  rw [show g_b G + (a - g_b G) = a by omega]
theorem x_ws_get {k : Nat} {q : Nat × va_E} (h : (x_ws G X)[k]? = some q) : k < x_n X ∧ q = (g_b G + k, x_ent (g_k G) X (g_b G + k)) := by
  unfold x_ws at h
  rw [List.getElem?_map] at h
  by_cases hk : k < x_n X
  · rw [List.getElem?_range hk] at h
    exact ⟨hk, (Option.some.inj h).symm⟩
  · rw [List.getElem?_eq_none (by simp; omega)] at h
    cases h
theorem x_ws_D : va_D (x_A G) (x_ws G X) := by
  refine ⟨fun i j p q hi hj e => ?_, fun k q hk => ?_⟩
  · obtain ⟨-, rfl⟩ := x_ws_get hi
    obtain ⟨-, rfl⟩ := x_ws_get hj
    simp only at e
    omega
  · obtain ⟨-, rfl⟩ := x_ws_get hk
    exact Nat.le_add_right _ _
theorem x_ws_set {X' : Mem} {a : Nat} {e : va_E} (h1 : g_b G ≤ a) (h2 : a < g_b G + x_n X) (hn : x_n X' = x_n X) (he : x_ent (g_k G) X' a = e) (ho : ∀ q, q ≠ a → x_ent (g_k G) X' q = x_ent (g_k G) X q) : (x_ws G X).set (a - g_b G) (a, e) = x_ws G X' := by
  apply List.ext_getElem?
  intro k
  unfold x_ws
  rw [List.getElem?_set, hn]
  by_cases hk : a - g_b G = k
  · rw [if_pos hk, if_pos (by simp; omega)]
    subst hk
    rw [List.getElem?_map, List.getElem?_range (by omega)]
    simp only [Option.map_some]
    rw [show g_b G + (a - g_b G) = a by omega, he]
  · rw [if_neg hk, List.getElem?_map, List.getElem?_map]
    by_cases h : k < x_n X
    · rw [List.getElem?_range h]
      simp only [Option.map_some]
      rw [ho _ (by omega)]
    · rw [List.getElem?_eq_none (by simp; omega)]
      rfl
theorem Cx.word {p : Program} {s : State} {m : MethodId} {meth : Method} {c : Code} {args : Array Value} (hc : Cx G md p s m meth c) (hG : GOK G) {w : Cond} (h : w ∈ lw_tbl) (hg : goodWord w = true) : w.before args s = true :=
  word_at hc.2.2.2.2.2.2.2.1 (good_of_word hg) (hG.1 w h)
theorem Cx.hts {p : Program} {s : State} {m : MethodId} {meth : Method} {c : Code} {args : Array Value} (hc : Cx G md p s m meth c) (hG : GOK G) : ∀ w ∈ lw_tbl.filter goodWord, w.before args s = true := fun w h =>
  hc.word hG (List.mem_filter.mp h).1 (List.mem_filter.mp h).2
theorem Cx.K {p : Program} {s : State} {m : MethodId} {meth : Method} {c : Code} (hc : Cx G md p s m meth c) (hG : GOK G) : va_K (g_D G) cl (x_tys G) s := hG.2.moved hc.2.2.2.2.2.2.2.1.alike
theorem lay_good (C : String) (T : u_T) (k : Nat) : goodWord (u_lay C T k) = true := by
  unfold u_lay
  by_cases h : (T k).2.2.2 = true
  · rw [if_pos h]; rfl
  · rw [if_neg h]; rfl
theorem cl_inG {ci : Nat} {q : vw_C} (h : cl[ci]? = some q) : ∀ w ∈ u_ws q.1 q.2.1 q.2.2, w ∈ lw_tbl.filter goodWord := by
  intro w hw
  refine List.mem_filter.mpr ⟨cl_in h w hw, ?_⟩
  obtain ⟨k, -, rfl⟩ := List.mem_map.mp hw
  exact lay_good _ _ _
/-- instructions that don't look at the memory, and leave the locals -/
theorem Wk.pure {pc' : Nat} {st' : List Value}
    (h : ∀ {p : Program} {l : Launch} {e : Env} {R : Room} {s : State} {m : MethodId} {args : Array Value} {below : List Frame} {meth : Method} {c : Code} {H : Heap} {locs : List Loc} {cells slots : Nat} {Q : State → Prop} {ls : Array Slot}, p.tables.exec = Jvm.exec → c.code = md.2.1 → W p l e R s m args below meth c H locs cells slots Q (F0 m pc' ls st') → W p l e R s m args below meth c H locs cells slots Q (F0 m pc ls st))
    (k : Wk G d rc rs md pc' lv st' X Q) : Wk G d rc rs md pc lv st X Q :=
  fun hG p e s m args below meth c H locs ls cells slots mc ms hc hy h1 h2 => h hc.1 hc.2.1 (k hG p e s m args below meth c H locs ls cells slots mc ms hc hy h1 h2)
theorem lvp_mem : ∀ (lv : List (Option Value)) (j i : Nat) (v : Value), (i, v) ∈ lvp j lv ↔ ∃ k, i = j + k ∧ lv[k]? = some (some v)
  | [], j, i, v => by simp [lvp]
  | none :: t, j, i, v => by
    rw [lvp, lvp_mem t]
    constructor
    · rintro ⟨k, rfl, h⟩
      exact ⟨k + 1, by omega, by simpa using h⟩
    · rintro ⟨k, rfl, h⟩
      cases k with
      | zero => simp at h
      | succ k => exact ⟨k, by omega, by simpa using h⟩
  | some w :: t, j, i, v => by
    rw [lvp, List.mem_cons, lvp_mem t]
    constructor
    · rintro (h | ⟨k, rfl, h⟩)
      · cases h
        exact ⟨0, rfl, rfl⟩
      · exact ⟨k + 1, by omega, by simpa using h⟩
    · rintro ⟨k, rfl, h⟩
      cases k with
      | zero => left; simp at h; rw [h]; rfl
      | succ k => right; exact ⟨k, by omega, by simpa using h⟩
theorem lvp_at {ls : Array Slot} {n i : Nat} {v : Value} (h : lv_has ls n (lvp 0 lv)) (hi : lv[i]? = some (some v)) : ls[i]? = some (.val v) := h.2.2 (i, v) ((lvp_mem lv 0 i v).mpr ⟨i, by omega, hi⟩)
theorem Wk.load {pc' : Nat} {st' : List Value} {i : Nat} {v : Value} (hi : lv[i]? = some (some v))
    (h : ∀ {p : Program} {l : Launch} {e : Env} {R : Room} {s : State} {m : MethodId} {args : Array Value} {below : List Frame} {meth : Method} {c : Code} {H : Heap} {locs : List Loc} {cells slots : Nat} {Q : State → Prop} {ls : Array Slot}, p.tables.exec = Jvm.exec → c.code = md.2.1 → ls[i]? = some (.val v) → W p l e R s m args below meth c H locs cells slots Q (F0 m pc' ls st') → W p l e R s m args below meth c H locs cells slots Q (F0 m pc ls st))
    (k : Wk G d rc rs md pc' lv st' X Q) : Wk G d rc rs md pc lv st X Q :=
  fun hG p e s m args below meth c H locs ls cells slots mc ms hc hy h1 h2 => h hc.1 hc.2.1 (lvp_at hy.2.2.1 hi) (k hG p e s m args below meth c H locs ls cells slots mc ms hc hy h1 h2)
/-- not a long -/
def c1 (z : Option Value) : Bool := match z with
  | some v => v.category == 1
  | none => true
/-- no long begins at the place ahead of i -/
def noL (lv : List (Option Value)) (i : Nat) : Bool := match i with
  | 0 => true
  | j + 1 => match lv[j]? with
    | some z => c1 z
    | none => true
theorem lvp_set1 {ls : Array Slot} {n i : Nat} {v : Value} (hn : noL lv i = true) (hi : i < lv.length) (h : lv_has ls n ((i, v) :: (lvp 0 lv).filter (fun q => !(q.1 == i) && !(q.1 + 1 == i && q.2.category == 2)))) : lv_has ls n (lvp 0 (lv.set i (some v))) := by
  refine ⟨h.1, h.2.1, fun q hq => h.2.2 q ?_⟩
  obtain ⟨a, w⟩ := q
  obtain ⟨k, hk, hw⟩ := (lvp_mem _ 0 a w).mp hq
  rw [Nat.zero_add] at hk
  subst hk
  rw [List.getElem?_set] at hw
  by_cases e : i = a
  · subst e
    rw [if_pos rfl, if_pos hi] at hw
    cases hw
    exact List.mem_cons_self
  · rw [if_neg e] at hw
    refine List.mem_cons_of_mem _ (List.mem_filter.mpr ⟨(lvp_mem _ 0 a w).mpr ⟨a, by omega, hw⟩, ?_⟩)
    have h2 : ¬ (a + 1 = i ∧ w.category = 2) := by
      rintro ⟨rfl, h2⟩
      simp only [noL, c1, hw, h2] at hn
      exact absurd hn (by decide)
    simp only [Bool.and_eq_true, Bool.not_eq_true', beq_eq_false_iff_ne, ne_eq, Bool.and_eq_false_iff]
    refine ⟨fun q => e q.symm, ?_⟩
    by_cases h3 : a + 1 = i
    · exact Or.inr (fun q => h2 ⟨h3, q⟩)
    · exact Or.inl h3
theorem lvp_set2 {ls : Array Slot} {n i : Nat} {v : Value} (hn : noL lv i = true) (hi : i < lv.length) (h : lv_has ls n ((i, v) :: (lvp 0 lv).filter (fun q => !(q.1 == i) && (!(q.1 == i + 1) && !(q.1 + 1 == i && q.2.category == 2))))) : lv_has ls n (lvp 0 ((lv.set i (some v)).set (i + 1) none)) := by
  refine ⟨h.1, h.2.1, fun q hq => h.2.2 q ?_⟩
  obtain ⟨a, w⟩ := q
  obtain ⟨k, hk, hw⟩ := (lvp_mem _ 0 a w).mp hq
  rw [Nat.zero_add] at hk
  subst hk
  rw [List.getElem?_set, List.getElem?_set] at hw
  by_cases e1 : i + 1 = a
  · rw [if_pos e1] at hw
    split at hw <;> simp at hw
  rw [if_neg e1] at hw
  by_cases e : i = a
  · subst e
    rw [if_pos rfl, if_pos hi] at hw
    cases hw
    exact List.mem_cons_self
  · rw [if_neg e] at hw
    refine List.mem_cons_of_mem _ (List.mem_filter.mpr ⟨(lvp_mem _ 0 a w).mpr ⟨a, by omega, hw⟩, ?_⟩)
    have h2 : ¬ (a + 1 = i ∧ w.category = 2) := by
      rintro ⟨rfl, h2⟩
      simp only [noL, c1, hw, h2] at hn
      exact absurd hn (by decide)
    simp only [Bool.and_eq_true, Bool.not_eq_true', beq_eq_false_iff_ne, ne_eq, Bool.and_eq_false_iff]
    refine ⟨fun q => e q.symm, fun q => e1 q.symm, ?_⟩
    by_cases h3 : a + 1 = i
    · exact Or.inr (fun q => h2 ⟨h3, q⟩)
    · exact Or.inl h3
theorem Wk.store1 {pc' : Nat} {st' : List Value} {i : Nat} {v : Value} (hn : noL lv i = true) (hi : i < lv.length)
    (h : ∀ {p : Program} {l : Launch} {e : Env} {R : Room} {s : State} {m : MethodId} {args : Array Value} {below : List Frame} {meth : Method} {c : Code} {H : Heap} {locs : List Loc} {cells slots nL : Nat} {Q : State → Prop} {ls : Array Slot} {lw : List (Nat × Value)}, p.tables.exec = Jvm.exec → c.code = md.2.1 → lv_has ls nL lw → i < nL →
      (∀ ls', lv_has ls' nL ((i, v) :: lw.filter (fun q => !(q.1 == i) && !(q.1 + 1 == i && q.2.category == 2))) → W p l e R s m args below meth c H locs cells slots Q (F0 m pc' ls' st')) → W p l e R s m args below meth c H locs cells slots Q (F0 m pc ls st))
    (k : Wk G d rc rs md pc' (lv.set i (some v)) st' X Q) : Wk G d rc rs md pc lv st X Q :=
  fun hG p e s m args below meth c H locs ls cells slots mc ms hc hy h1 h2 => h hc.1 hc.2.1 hy.2.2.1 (by rw [← hy.2.2.2]; exact hi) (fun ls' hl => k hG p e s m args below meth c H locs ls' cells slots mc ms hc ⟨hy.1, hy.2.1, lvp_set1 hn hi hl, by rw [List.length_set]; exact hy.2.2.2⟩ h1 h2)
theorem Wk.store2 {pc' : Nat} {st' : List Value} {i : Nat} {v : Value} (hn : noL lv i = true) (hi : i + 1 < lv.length)
    (h : ∀ {p : Program} {l : Launch} {e : Env} {R : Room} {s : State} {m : MethodId} {args : Array Value} {below : List Frame} {meth : Method} {c : Code} {H : Heap} {locs : List Loc} {cells slots nL : Nat} {Q : State → Prop} {ls : Array Slot} {lw : List (Nat × Value)}, p.tables.exec = Jvm.exec → c.code = md.2.1 → lv_has ls nL lw → i + 1 < nL →
      (∀ ls', lv_has ls' nL ((i, v) :: lw.filter (fun q => !(q.1 == i) && (!(q.1 == i + 1) && !(q.1 + 1 == i && q.2.category == 2)))) → W p l e R s m args below meth c H locs cells slots Q (F0 m pc' ls' st')) → W p l e R s m args below meth c H locs cells slots Q (F0 m pc ls st))
    (k : Wk G d rc rs md pc' ((lv.set i (some v)).set (i + 1) none) st' X Q) : Wk G d rc rs md pc lv st X Q :=
  fun hG p e s m args below meth c H locs ls cells slots mc ms hc hy h1 h2 => h hc.1 hc.2.1 hy.2.2.1 (by rw [← hy.2.2.2]; exact hi) (fun ls' hl => k hG p e s m args below meth c H locs ls' cells slots mc ms hc ⟨hy.1, hy.2.1, lvp_set2 hn (by omega) hl, by rw [List.length_set, List.length_set]; exact hy.2.2.2⟩ h1 h2)
end Core
