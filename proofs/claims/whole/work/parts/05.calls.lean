section Ends
variable {G : GG} {d rc rs : Nat} {md : MD} {pc : Nat} {lv : List (Option Value)} {st : List Value} {X : Mem} {Q : Option Value → Mem → Prop}
theorem Wk.mono {Q' : Option Value → Mem → Prop} (h : Wk G d rc rs md pc lv st X Q) (hq : ∀ r X', Q r X' → Q' r X') : Wk G d rc rs md pc lv st X Q' := by
  intro hG p e s m args below meth c H locs ls cells slots mc ms hc hy h1 h2 T hT Xs
  obtain ⟨t, a, o, b1, b2, ⟨⟨r, X2, h3, h4, h5⟩, h6⟩, b4⟩ := h hG p e s m args below meth c H locs ls cells slots mc ms hc hy h1 h2 T hT Xs
  exact ⟨t, a, o, b1, b2, ⟨⟨r, X2, h3, hq _ _ h4, h5⟩, h6⟩, b4⟩
theorem r_iret {v : Int32} (hd : decode md.2.1 pc = .ok (.ireturn, 1)) (hr : md.2.2.2 = some .int) (hQ : Q (some (.int v)) X) : Wk G d rc rs md pc lv [.int v] X Q := by
  intro hG p e s m args below meth c H locs ls cells slots mc ms hc hy h1 h2
  refine W.widen (k := mc) (n := ms) (by omega) (by omega) ?_
  exact W.iret hc.1 hc.2.1 (hc.2.2.2.1.trans hr) (fun t ht hW => ⟨⟨_, X, rfl, hQ, by rw [ht]; exact hy.1, State.WarmedH.trans hc.2.2.2.2.2.2.2.1 hW⟩, hy.2.1.F ht⟩) hy.2.1.2.2 hd hc.2.2.2.2.1
theorem r_zret {v : Int32} (hd : decode md.2.1 pc = .ok (.ireturn, 1)) (hr : md.2.2.2 = some .boolean) (hv : v = 0 ∨ v = 1) (hQ : Q (some (.int v)) X) : Wk G d rc rs md pc lv [.int v] X Q := by
  intro hG p e s m args below meth c H locs ls cells slots mc ms hc hy h1 h2
  refine W.widen (k := mc) (n := ms) (by omega) (by omega) ?_
  exact W.zret hc.1 hc.2.1 (hc.2.2.2.1.trans hr) (by rcases hv with rfl | rfl <;> rfl) (fun t ht hW => ⟨⟨_, X, rfl, hQ, by rw [ht]; exact hy.1, State.WarmedH.trans hc.2.2.2.2.2.2.2.1 hW⟩, hy.2.1.F ht⟩) hy.2.1.2.2 hd hc.2.2.2.2.1
theorem r_lret {v : Int64} (hd : decode md.2.1 pc = .ok (.lreturn, 1)) (hr : md.2.2.2 = some .long) (hQ : Q (some (.long v)) X) : Wk G d rc rs md pc lv [.long v] X Q := by
  intro hG p e s m args below meth c H locs ls cells slots mc ms hc hy h1 h2
  refine W.widen (k := mc) (n := ms) (by omega) (by omega) ?_
  exact W.lret hc.1 hc.2.1 (hc.2.2.2.1.trans hr) (fun t ht hW => ⟨⟨_, X, rfl, hQ, by rw [ht]; exact hy.1, State.WarmedH.trans hc.2.2.2.2.2.2.2.1 hW⟩, hy.2.1.F ht⟩) hy.2.1.2.2 hd hc.2.2.2.2.1
theorem r_vret (hd : decode md.2.1 pc = .ok (.return_, 1)) (hr : md.2.2.2 = none) (hQ : Q none X) : Wk G d rc rs md pc lv [] X Q := by
  intro hG p e s m args below meth c H locs ls cells slots mc ms hc hy h1 h2
  refine W.widen (k := mc) (n := ms) (by omega) (by omega) ?_
  exact W.vret hc.1 hc.2.1 (hc.2.2.2.1.trans hr) (fun t ht hW => ⟨⟨_, X, rfl, hQ, by rw [ht]; exact hy.1, State.WarmedH.trans hc.2.2.2.2.2.2.2.1 hW⟩, hy.2.1.F ht⟩) hy.2.1.2.2 hd hc.2.2.2.2.1
theorem r_aret {v : Value} {rt : FieldType} (hd : decode md.2.1 pc = .ok (.areturn, 1)) (hr : md.2.2.2 = some rt) (hrt : isR rt = true) (hv : v = .null ∨ ∃ a, v = .ref a) (hQ : Q (some v) X) : Wk G d rc rs md pc lv [v] X Q := by
  intro hG p e s m args below meth c H locs ls cells slots mc ms hc hy h1 h2
  refine W.widen (k := mc) (n := ms) (by omega) (by omega) ?_
  exact W.aret hc.1 hc.2.1 (hc.2.2.2.1.trans hr) (by cases rt <;> first | exact absurd hrt (by decide) | exact Or.inl ⟨_, rfl⟩ | exact Or.inr ⟨_, rfl⟩) hv (fun t ht hW => ⟨⟨_, X, rfl, hQ, by rw [ht]; exact hy.1, State.WarmedH.trans hc.2.2.2.2.2.2.2.1 hW⟩, hy.2.1.F ht⟩) hy.2.1.2.2 hd hc.2.2.2.2.1
/-! a method's entry -/
def lv0 : List Value → List (Option Value)
  | [] => []
  | v :: t => if v.category = 2 then some v :: none :: lv0 t else some v :: lv0 t
def lvE (n : Nat) (as : List Value) : List (Option Value) := lv0 as ++ List.replicate (n - (lv0 as).length) none
theorem lv0_len : ∀ as : List Value, (lv0 as).length = (lg_sl as).length
  | [] => rfl
  | v :: t => by
    have ih := lv0_len t
    unfold lv0
    unfold lg_sl at ih ⊢
    rw [List.flatMap_cons, List.length_append, ← ih]
    by_cases h : v.category = 2
    · rw [if_pos h, if_pos h]; simp; omega
    · rw [if_neg h, if_neg h]; simp; omega
theorem lvp_rep : ∀ (k j : Nat), lvp j (List.replicate k none) = []
  | 0, _ => rfl
  | k + 1, j => by rw [List.replicate_succ, lvp, lvp_rep k]
theorem lvp_E (k : Nat) : ∀ (as : List Value) (j : Nat), lvp j (lv0 as ++ List.replicate k none) = lv_args j as
  | [], j => by rw [lv0, List.nil_append, lvp_rep]; rfl
  | v :: t, j => by
    unfold lv0 lv_args
    by_cases h : v.category = 2
    · rw [if_pos h, if_pos h, List.cons_append, List.cons_append, lvp, lvp, lvp_E k t]
    · rw [if_neg h, if_neg h, List.cons_append, lvp, lvp_E k t]
theorem call_of {as : List Value} (hpl : plainName md.1.cls = true) (hml : (lv0 as).length ≤ md.2.2.1) (h : Wk G d rc rs md 0 (lvE md.2.2.1 as) [] X Q) : Call G d rc rs md as X Q := by
  intro hG
  refine Met.ofW (cc := md.2.1) (maxL := md.2.2.1) (ret := md.2.2.2) hpl rfl ?_
  intro p e s m args below meth c s₁ B hml0 hv
  obtain ⟨rfl, hR, hW⟩ := hv
  have hl := lv_entry as (n := md.2.2.1) (by rw [← lv0_len]; exact hml)
  rw [lg_entry_eq]
  generalize ((lg_sl as ++ List.replicate (md.2.2.1 - (lg_sl as).length) Slot.unset).toArray) = ls at hl ⊢
  exact h hG p e s m as.toArray below meth c s.heap [] ls 0 0 rc rs ⟨B.exec, B.bytes, hml0, B.returns, B.notSynchronized, findClass_of_methodNamed B.named, (name_of_methodNamed B.named B.method).1, hW, by rw [hR.2.1]; omega⟩
    ⟨hR, va_S.rf, by unfold lvE; rw [lvp_E]; exact hl, by unfold lvE; rw [List.length_append, List.length_replicate]; omega⟩ (by omega) (by omega)
theorem Call.mono {as : List Value} {Q' : Option Value → Mem → Prop} (h : Call G d rc rs md as X Q) (hq : ∀ r X', Q r X' → Q' r X') : Call G d rc rs md as X Q' := by
  intro hG p e ha hc hk s m args below hf happ hpre hres
  obtain ⟨k, o, h1, h2, h3, ⟨⟨r, X2, h4, h5, h6⟩, h7⟩, h8⟩ := h hG p e ha hc hk s m args below hf happ hpre hres
  exact ⟨k, o, h1, h2, h3, ⟨⟨r, X2, h4, hq _ _ h5, h6⟩, h7⟩, h8⟩
/-! calls -/
def MOK (md : MD) (n : Nat) : Prop := Cond.code md.1 md.2.1 md.2.2.1 md.2.2.2 ∈ lw_tbl ∧ Cond.initialized md.1.cls ∈ lw_tbl ∧ (md.1.cls ≠ "java/lang/invoke/MethodHandle" ∧ md.1.cls ≠ "java/lang/invoke/VarHandle" ∧ (parseMethodDescriptor md.1.desc).map (fun d => d.parameters.length) = some n) ∧ md.2.2.1 ≤ 22
def LOK (own : String) (index : Nat) (y : MethodName) : Prop := Cond.methodLink own index y ∈ lw_tbl ∨ Cond.methodLinkNest own index y "EndlessRows" ∈ lw_tbl
theorem PcD.blind {as : List Value} : FrameBlind (PcD G as X) := fun _ _ _ _ h => h
theorem Wk.back {md' : MD} {rc' rs' : Nat} {as : List Value} {st0 : List Value}
    (k : Call G d rc' rs' md' as X (fun r X' => Wk G (d + 1) (rc - rc') (rs - rs') md (pc + 3) lv (r.toList ++ st) X' Q)) (hrc : rc' ≤ rc) (hrs : rs' ≤ rs)
    (h : ∀ {p : Program} {e : Env} {s : State} {m : MethodId} {args : Array Value} {below : List Frame} {meth : Method} {c : Code} {H : Heap} {locs : List Loc} {cells slots mc ms : Nat} {ls : Array Slot} {Qc : Array Value → State → Outcome → State → Prop}, GOK G → Cx G md p s m meth c → Rep G X H → ls.size = md.2.2.1 → cells + rc' ≤ mc ∧ slots + rs' ≤ ms → Met (g_l G) md'.1 [Cond.code md'.1 md'.2.1 md'.2.2.1 md'.2.2.2] (rmD d rc' rs') (PcD G as X) Qc rc' rs' (x_A G) → va_Run p (g_l G) e (rmD (d + 1) mc ms) s m args below meth c H locs cells slots rc' rs' (F0 m pc ls st0) st (Qc as.toArray) (x_A G)) :
    Wk G (d + 1) rc rs md pc lv st0 X Q := by
  intro hG p e s m args below meth c H locs ls cells slots mc ms hc hy h1 h2 T hT Xs
  obtain ⟨v, st₀, t, T', L, e0, X', hL, e1, e2, ⟨⟨r, X2, ho, hQ, hR2, hW2⟩, hz, hk⟩, stp⟩ := h (e := e) (args := args) (below := below) (locs := locs) hG hc hy.1 hy.2.2.1.1 ⟨(by omega : cells + rc' ≤ mc), (by omega : slots + rs' ≤ ms)⟩ (k hG) T hT Xs
  cases ho
  rw [e0] at hz hk
  obtain ⟨t2, a1, b1⟩ := hQ hG p e s m args below meth c T'.heap (locs ++ L) ls (cells + rc') (slots + rs') mc ms hc ⟨by rw [e1]; exact hR2, ⟨Nat.le_trans hy.2.1.1 (by rw [e1]; exact hz), fun q h1 h2 => by rw [e1, hk q (Nat.lt_of_lt_of_le h1 hy.2.1.1) h2]; exact hy.2.1.2.1 q h1 h2, fun q hq => by
      rcases List.mem_append.mp hq with h | h
      · exact hy.2.1.2.2 q h
      · exact hL q h⟩, hy.2.2⟩ (by omega) (by omega) T' rfl X'
  exact ⟨t2, stp t2 a1, b1⟩
theorem MOK.b {md' : MD} {n mc ms rc' rs' : Nat} {p : Program} {s : State} {m : MethodId} {meth : Method} {c : Code} {args : Array Value} {index : Nat} (h : MOK md' n) (hc : Cx G md p s m meth c) (hG : GOK G) (hl : Cond.methodLink md.1.cls index md'.1 ∈ lw_tbl) :
    CallB (rmD (d + 1) mc ms) s args md.1.cls index md'.1 md'.2.1 md'.2.2.1 md'.2.2.2 [Cond.code md'.1 md'.2.1 md'.2.2.1 md'.2.2.2] (rmD d rc' rs') rc' rs' n :=
  callB_of n (hc.hts hG) (ws' := []) (fun w hw => by rw [List.mem_singleton.mp hw]; exact ⟨List.mem_filter.mpr ⟨h.1, rfl⟩, Or.inl rfl⟩) rfl rfl rfl (hc.word hG h.2.1 rfl) (hc.word hG hl rfl) h.2.2.1 ⟨Nat.le_refl _, by show 8 + (md'.2.2.1 + 11) + 41 * d ≤ 41 * (d + 1); have := h.2.2.2; omega⟩
theorem MOK.bn {md' : MD} {n mc ms rc' rs' : Nat} {p : Program} {s : State} {m : MethodId} {meth : Method} {c : Code} {args : Array Value} {index : Nat} (h : MOK md' n) (hc : Cx G md p s m meth c) (hG : GOK G) (hl : Cond.methodLinkNest md.1.cls index md'.1 "EndlessRows" ∈ lw_tbl) :
    va_CN (rmD (d + 1) mc ms) s args md.1.cls index md'.1 "EndlessRows" md'.2.1 md'.2.2.1 md'.2.2.2 [Cond.code md'.1 md'.2.1 md'.2.2.1 md'.2.2.2] (rmD d rc' rs') rc' rs' n :=
  va_cnB n (hc.hts hG) (ws' := []) (fun w hw => by rw [List.mem_singleton.mp hw]; exact ⟨List.mem_filter.mpr ⟨h.1, rfl⟩, Or.inl rfl⟩) rfl rfl rfl (hc.nestM hG hl) (hc.word hG h.2.1 rfl) h.2.2.1 ⟨Nat.le_refl _, by show 8 + (md'.2.2.1 + 11) + 41 * d ≤ 41 * (d + 1); have := h.2.2.2; omega⟩
theorem r_callV {md' : MD} {rc' rs' index n ci b : Nat} {as : List Value} (hM : MOK md' n) (hl : LOK md.1.cls index md'.1) (hi : Cond.instanceMethod md'.1 ∈ lw_tbl) (hs : Cond.selects md'.1.cls md'.1 md'.1 ∈ lw_tbl) (hci : ∃ q : vw_C, cl[ci]? = some q ∧ q.1 = md'.1.cls)
    (hd : decode md.2.1 pc = .ok (.invokevirtual index, 3)) (hn : as.length = n) (hb : (x_h X b).1 = 16 + ci) (hst : (st.map fun v => v.category).sum ≤ 8) (hrc : rc' ≤ rc) (hrs : rs' ≤ rs)
    (k : Call G d rc' rs' md' (.ref b :: as) X (fun r X' => Wk G (d + 1) (rc - rc') (rs - rs') md (pc + 3) lv (r.toList ++ st) X' Q)) : Wk G (d + 1) rc rs md pc lv (as.reverse ++ .ref b :: st) X Q := by
  refine Wk.back k hrc hrs (fun {p e s m args below meth c H locs cells slots mc ms ls Qc} hG hc hR hz hf hMet => ?_)
  have hst' := lv_room (m := m) (pc := pc) (ls := ls) (rest := as.reverse ++ .ref b :: st) hst
  obtain ⟨q, hq, hqn⟩ := hci
  have he := hR.at (a := b) (by rw [hb]; omega)
  rw [x_ent_o hb] at he
  have hpre : PreV s H md'.1.cls b (PcD G (.ref b :: as) X) as := ⟨PcD.blind, by rw [← hqn]; exact va_recv (hc.K hG) hR.1 hq he, fun U hU hW => ⟨rfl, by rw [hU]; exact hR, State.WarmedH.trans hc.2.2.2.2.2.2.2.1 hW⟩⟩
  rcases hl with hl | hl
  · exact va_runV (C := md'.1.cls) ⟨hc.1, hc.2.1, hc.2.2.1, hc.2.2.2.2.2.1, hc.hts hG⟩ hMet ⟨hM.b hc hG hl, hc.word hG hi rfl, hc.word hG hs rfl⟩ hpre rfl hn hz rfl hst' hd hf
  · exact va_runVN (C := md'.1.cls) ⟨hc.1, hc.2.1, hc.2.2.1, hc.2.2.2.2.2.1, hc.hts hG⟩ hMet ⟨hM.bn hc hG hl, hc.word hG hi rfl, hc.word hG hs rfl⟩ hpre rfl hn hz rfl hst' hd hf
theorem r_callS {md' : MD} {rc' rs' index n : Nat} {as : List Value} (hM : MOK md' n) (hl : LOK md.1.cls index md'.1) (hi : Cond.static md'.1 ∈ lw_tbl)
    (hd : decode md.2.1 pc = .ok (.invokestatic index, 3)) (hn : as.length = n) (hst : (st.map fun v => v.category).sum ≤ 8) (hrc : rc' ≤ rc) (hrs : rs' ≤ rs)
    (k : Call G d rc' rs' md' as X (fun r X' => Wk G (d + 1) (rc - rc') (rs - rs') md (pc + 3) lv (r.toList ++ st) X' Q)) : Wk G (d + 1) rc rs md pc lv (as.reverse ++ st) X Q := by
  refine Wk.back k hrc hrs (fun {p e s m args below meth c H locs cells slots mc ms ls Qc} hG hc hR hz hf hMet => ?_)
  have hst' := lv_room (m := m) (pc := pc) (ls := ls) (rest := as.reverse ++ st) hst
  have hpre : PreS s H (PcD G as X) as := ⟨PcD.blind, fun U hU hW => ⟨rfl, by rw [hU]; exact hR, State.WarmedH.trans hc.2.2.2.2.2.2.2.1 hW⟩⟩
  rcases hl with hl | hl
  · exact va_runS ⟨hc.1, hc.2.1, hc.2.2.1, hc.2.2.2.2.2.1, hc.hts hG⟩ hMet ⟨hM.b hc hG hl, hc.word hG hi rfl⟩ hpre rfl hn hz rfl hst' hd hf
  · exact va_runSN ⟨hc.1, hc.2.1, hc.2.2.1, hc.2.2.2.2.2.1, hc.hts hG⟩ hMet ⟨hM.bn hc hG hl, hc.word hG hi rfl, trivial⟩ hpre rfl hn hz rfl hst' hd hf
end Ends
