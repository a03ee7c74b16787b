/-! ===== texts that the class names: cells that were there before ===== -/
section Strs
variable {G : GG} {d rc rs : Nat} {md : MD} {pc : Nat} {lv : List (Option Value)} {st : List Value} {X : Mem} {Q : Option Value → Mem → Prop}
theorem Cx.old {p : Program} {s : State} {m : MethodId} {meth : Method} {c : Code} {H : Heap} {locs : List Loc} {ls : Array Slot} (hc : Cx G md p s m meth c) (hy : Cy G md s X lv H locs ls) : ∀ a : Nat, a < (g_s G).heap.size → ¬ x_A G a → s.heap[a]? = (g_s G).heap[a]? := fun a ha hA =>
  (hy.2.1.2.1 a (Nat.lt_of_lt_of_le ha hc.2.2.2.2.2.2.2.2) hA).symm.trans (hy.1.2.2.1 a ha)
theorem r_sgetf {index q : Nat} {on nn de : String} {v : Value} (hE : va_OF on nn de v q (x_A G) (g_s G) (g_s G).heap) (hl : Cond.fieldLink md.1.cls index on nn de ∈ lw_tbl) (hd : decode md.2.1 pc = .ok (.getfield index, 3)) (kk : Wk G d rc rs md (pc + 3) lv (v :: st) X Q) : Wk G d rc rs md pc lv (.ref q :: st) X Q := by
  intro hG p e s m args below meth c H locs ls cells slots mc ms hc hy h1 h2
  exact vk_getf hc.1 hc.2.1 ((hE.moved hc.2.2.2.2.2.2.2.1.alike).kept (hc.old hy)) hy.2.1 hc.2.2.2.2.2.1 (hc.word hG hl rfl) (fun _ h => h) hd (kk hG p e s m args below meth c H locs ls cells slots mc ms hc hy h1 h2)
theorem r_sgets {index : Nat} {C n de : String} {v : Value} (hZ : va_Z C n de v (x_A G) (g_s G) (g_s G).heap) (hl : Cond.fieldLink md.1.cls index C n de ∈ lw_tbl) (hd : decode md.2.1 pc = .ok (.getstatic index, 3)) (kk : Wk G d rc rs md (pc + 3) lv (v :: st) X Q) : Wk G d rc rs md pc lv st X Q := by
  intro hG p e s m args below meth c H locs ls cells slots mc ms hc hy h1 h2
  exact va_gets hc.1 hc.2.1 ((hZ.moved hc.2.2.2.2.2.2.2.1.alike).kept (hc.old hy)) hy.2.1 hc.2.2.2.2.2.1 (hc.word hG hl rfl) (fun _ h => h) hd (kk hG p e s m args below meth c H locs ls cells slots mc ms hc hy h1 h2)
theorem r_stlen {t N : Nat} {f : Nat → Value} {ty : FieldType} (hT : va_T ty t N f (x_A G) (g_s G) (g_s G).heap) (hd : decode md.2.1 pc = .ok (.arraylength, 1)) (kk : Wk G d rc rs md (pc + 1) lv (.int (nI N) :: st) X Q) : Wk G d rc rs md pc lv (.ref t :: st) X Q := by
  intro hG p e s m args below meth c H locs ls cells slots mc ms hc hy h1 h2
  exact va_tlen hc.1 hc.2.1 ((hT.moved hc.2.2.2.2.2.2.2.1.alike).kept (hc.old hy)) hy.2.1 rfl hd (kk hG p e s m args below meth c H locs ls cells slots mc ms hc hy h1 h2)
theorem r_stb {t N : Nat} {f : Nat → Value} {i : Int32} (hT : va_T .byte t N f (x_A G) (g_s G) (g_s G).heap) (hi : vp_in i N) (hd : decode md.2.1 pc = .ok (.baload, 1)) (kk : Wk G d rc rs md (pc + 1) lv (f i.toNatClampNeg :: st) X Q) : Wk G d rc rs md pc lv (.int i :: .ref t :: st) X Q := by
  intro hG p e s m args below meth c H locs ls cells slots mc ms hc hy h1 h2
  exact va_tb hc.1 hc.2.1 ((hT.moved hc.2.2.2.2.2.2.2.1.alike).kept (hc.old hy)) hy.2.1 hi rfl hd (kk hG p e s m args below meth c H locs ls cells slots mc ms hc hy h1 h2)
theorem r_ldcS {index q : Nat} {tx : String} (hd : decode md.2.1 pc = .ok (.ldc index, 2)) (hZ : vk_R md.1.cls index tx q (g_s G)) (kk : Wk G d rc rs md (pc + 2) lv (.ref q :: st) X Q) : Wk G d rc rs md pc lv st X Q := by
  intro hG p e s m args below meth c H locs ls cells slots mc ms hc hy h1 h2
  exact va_ldcS hc.1 hc.2.1 hc.2.2.2.2.2.1 (hZ.warm hc.2.2.2.2.2.2.2.1) hd (kk hG p e s m args below meth c H locs ls cells slots mc ms hc hy h1 h2)
theorem r_nret {v : Int32} {ty : FieldType} (hd : decode md.2.1 pc = .ok (.ireturn, 1)) (hr : md.2.2.2 = some ty) (hn : narrow ty (.int v) = .int v) (hQ : Q (some (.int v)) X) : Wk G d rc rs md pc lv [.int v] X Q := by
  intro hG p e s m args below meth c H locs ls cells slots mc ms hc hy h1 h2
  refine W.widen (k := mc) (n := ms) (by omega) (by omega) ?_
  exact W.zret hc.1 hc.2.1 (hc.2.2.2.1.trans hr) hn (fun t ht hW => ⟨⟨_, X, rfl, hQ, by rw [ht]; exact hy.1, State.WarmedH.trans hc.2.2.2.2.2.2.2.1 hW⟩, hy.2.1.F ht⟩) hy.2.1.2.2 hd hc.2.2.2.2.1
theorem r_callVo {md' : MD} {rc' rs' index n b : Nat} {as : List Value} (hM : MOK md' n) (hl : LOK md.1.cls index md'.1) (hi : Cond.instanceMethod md'.1 ∈ lw_tbl) (hs : Cond.selects md'.1.cls md'.1 md'.1 ∈ lw_tbl)
    (hd : decode md.2.1 pc = .ok (.invokevirtual index, 3)) (hn : as.length = n) (hb : va_O md'.1.cls b (x_A G) (g_s G) (g_s G).heap) (hst : (st.map fun v => v.category).sum ≤ 8) (hrc : rc' ≤ rc) (hrs : rs' ≤ rs)
    (k : Call G d rc' rs' md' (.ref b :: as) X (fun r X' => Wk G (d + 1) (rc - rc') (rs - rs') md (pc + 3) lv (r.toList ++ st) X' Q)) : Wk G (d + 1) rc rs md pc lv (as.reverse ++ .ref b :: st) X Q := by
  refine Wk.back k hrc hrs (fun {p e s m args below meth c H locs cells slots mc ms ls Qc} hG hc hR hz hf hMet => ?_)
  have hst' := lv_room (m := m) (pc := pc) (ls := ls) (rest := as.reverse ++ .ref b :: st) hst
  have hpre : PreV s H md'.1.cls b (PcD G (.ref b :: as) X) as := ⟨PcD.blind, by
    obtain ⟨cell, g1, g2, g3, g4⟩ := hb.moved hc.2.2.2.2.2.2.2.1.alike
    have hlt : b < g_b G := (Array.getElem?_eq_some_iff.mp g1).1
    exact ⟨cell, (hR.2.2.1 b hlt).trans g1, g2, g3⟩, fun U hU hW => ⟨rfl, by rw [hU]; exact hR, State.WarmedH.trans hc.2.2.2.2.2.2.2.1 hW⟩⟩
  rcases hl with hl | hl
  · exact va_runV (C := md'.1.cls) ⟨hc.1, hc.2.1, hc.2.2.1, hc.2.2.2.2.2.1, hc.hts hG⟩ hMet ⟨hM.b hc hG hl, hc.word hG hi rfl, hc.word hG hs rfl⟩ hpre rfl hn hz rfl hst' hd hf
  · exact va_runVN (C := md'.1.cls) ⟨hc.1, hc.2.1, hc.2.2.1, hc.2.2.2.2.2.1, hc.hts hG⟩ hMet ⟨hM.bn hc hG hl, hc.word hG hi rfl, hc.word hG hs rfl⟩ hpre rfl hn hz rfl hst' hd hf
end Strs
