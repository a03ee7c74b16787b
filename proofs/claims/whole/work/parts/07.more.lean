section More
variable {G : GG} {d rc rs : Nat} {md : MD} {pc : Nat} {lv : List (Option Value)} {st : List Value} {X : Mem} {Q : Option Value → Mem → Prop}
theorem r_callI {y : MethodName} {bs : ByteArray} {ml rc' rs' index n b : Nat} {as : List Value} (hM : MOK (y, bs, ml, none) n) (hl : LOK md.1.cls index y) (hi : Cond.instanceMethod y ∈ lw_tbl) (hy : y.name = "<init>")
    (hd : decode md.2.1 pc = .ok (.invokespecial index, 3)) (hn : as.length = n) (hst : (st.map fun v => v.category).sum ≤ 8) (hrc : rc' ≤ rc) (hrs : rs' ≤ rs)
    (k : Call G d rc' rs' (y, bs, ml, none) (.ref b :: as) X (fun r X' => Wk G (d + 1) (rc - rc') (rs - rs') md (pc + 3) lv (r.toList ++ st) X' Q)) : Wk G (d + 1) rc rs md pc lv (as.reverse ++ .ref b :: st) X Q := by
  refine Wk.back k hrc hrs (fun {p e s m args below meth c H locs cells slots mc ms ls Qc} hG hc hR hz hf hMet => ?_)
  have hst' := lv_room (m := m) (pc := pc) (ls := ls) (rest := as.reverse ++ .ref b :: st) hst
  have hpre : PreS s H (PcD G (.ref b :: as) X) (.ref b :: as) := ⟨PcD.blind, fun U hU hW => ⟨rfl, by rw [hU]; exact hR, State.WarmedH.trans hc.2.2.2.2.2.2.2.1 hW⟩⟩
  rcases hl with hl | hl
  · exact va_runI ⟨hc.1, hc.2.1, hc.2.2.1, hc.2.2.2.2.2.1, hc.hts hG⟩ hMet ⟨hM.b hc hG hl, hy, hc.word hG hi rfl⟩ hpre rfl hn hz rfl hst' hd hf
  · exact va_runIN ⟨hc.1, hc.2.1, hc.2.2.1, hc.2.2.2.2.2.1, hc.hts hG⟩ hMet ⟨hM.bn hc hG hl, hy, hc.word hG hi rfl⟩ hpre rfl hn hz rfl hst' hd hf
theorem r_objInit {index a : Nat} (hl : Cond.methodLink md.1.cls index objectInit ∈ lw_tbl) (hi : Cond.instanceMethod objectInit ∈ lw_tbl) (hcd : Cond.code objectInit ⟨#[0xb1]⟩ 1 none ∈ lw_tbl) (hd : decode md.2.1 pc = .ok (.invokespecial index, 3)) (hst : (st.map fun v => v.category).sum ≤ 8) (k : Wk G (d + 1) rc rs md (pc + 3) lv st X Q) : Wk G (d + 1) rc rs md pc lv (.ref a :: st) X Q := by
  intro hG p e s m args below meth c H locs ls cells slots mc ms hc hy h1 h2
  exact W.objInit hc.1 hc.2.1 hc.2.2.2.2.2.1 (hc.word hG hl rfl) (hc.word hG hi rfl) (hc.word hG hcd rfl) rfl (by rw [hc.2.2.1]; exact hy.2.2.1.1) rfl hd (by show 1 ≤ d + 1; omega) (by show 2 * 0 + _ + 12 ≤ 41 * (d + 1); omega) (k hG p e s m args below meth c H locs ls cells slots mc ms hc hy h1 h2)
theorem r_aast {a v kd ci : Nat} {q : vw_C} {i : Int32} (hd : decode md.2.1 pc = .ok (.aastore, 1)) (ha : (x_h X a).1 = kd) (hkd : 4 ≤ kd ∧ kd < 7) (hq : cl[ci]? = some q) (hC : kty kd = .object q.1) (hv : (x_h X v).1 = 16 + ci) (hi : vp_in i (x_h X a).2) (kk : Wk G d rc rs md (pc + 1) lv st (x_sr X a i.toNatClampNeg (some v)) Q) : Wk G d rc rs md pc lv (.ref v :: .int i :: .ref a :: st) X Q :=
  Wk.ast (X' := x_sr X a i.toNatClampNeg (some v)) ha ⟨by omega, by omega⟩ rfl rfl (fun q hq => ⟨rfl, rfl, up2_ne hq⟩) (fun {p l e R s m args below meth c H locs cells slots Q ls} hx hb hK hR hcell go => by
    have hlt : i.toNatClampNeg < (x_h X a).2 := Nat.not_le.mp fun q => hi (Or.inr q)
    have h0 : ¬ i < 0 := fun q => hi (Or.inl q)
    have he := hR.at (a := v) (by rw [hv]; omega)
    rw [x_ent_o hv] at he
    obtain ⟨r', hr', cellV, g1, g2, g3, -⟩ := hR.1 _ _ he
    have hcls := (hK.1 ci q hq).2
    have ht := (hK.2 kd _ (x_ty (by omega))).2
    rw [hC] at ht
    obtain ⟨kA, comp, k1, k2, k3, -⟩ := ht
    have hcomp : comp = (g_D G).1 ci := Option.some.inj (k3.symm.trans hcls.1)
    subst hcomp
    obtain ⟨kC, hkC, -⟩ := hcls.2
    rw [x_arr_R hkd.1] at hcell
    refine W.aast hx hb hcell (fun q h => by cases h) (fun h => by cases h) k1 k2 rfl hkC ⟨h0, by show _ < (arrV _ _ _).slots.size; rw [arrV_size]; exact hlt⟩ g1 (fun q h => by rw [g3] at h; cases h) (by rw [g2]; exact hkC) (by rw [g2]; exact va_assign hcls) rfl rfl hd (fun H1 e z oq => go H1 _ ?_ z oq)
    rw [e, x_arr_R hkd.1]
    rw [vp_cell_q, vp_cell_q, arrV_store]
    show some (arrV _ _ _) = some (arrV _ _ (fun j => va_rf (up2 (x_r X) a i.toNatClampNeg (some v) a j)))
    rw [up2_row]
    congr 2
    funext q
    by_cases hq : q = i.toNatClampNeg
    · subst hq; simp [updV, va_rf]
    · simp [updV, hq]) kk
def cpR {α : Type} (f g : Nat → α) (sp dp n : Nat) : Nat → α := fun j => if dp ≤ j ∧ j < dp + n then f (sp + (j - dp)) else g j
/-- n places of the row f of a0 come into the row of a -/
def x_cpi (X : Mem) (a0 sp a dp n : Nat) : Mem := (X.1, X.2.1, (fun b => if b = a then cpR (x_i X a0) (x_i X a) sp dp n else x_i X b), X.2.2.2.1, X.2.2.2.2)
def x_cpl (X : Mem) (a0 sp a dp n : Nat) : Mem := (X.1, X.2.1, X.2.2.1, (fun b => if b = a then cpR (x_l X a0) (x_l X a) sp dp n else x_l X b), X.2.2.2.2)
theorem va_cpy_R {α : Type} (f g : Nat → α) (sp dp n : Nat) : va_cpy f g sp dp n = cpR f g sp dp n := by
  funext j
  unfold cpR
  by_cases h : dp ≤ j ∧ j < dp + n
  · rw [if_pos h, pk_cpy_in h.1 h.2]
  · rw [if_neg h, pk_cpy_out (by omega)]
theorem nnI : ∀ z : Int32, ¬ z < 0 → z.toInt = (z.toNatClampNeg : Int) := by
  intro z hz
  have hz0 : (0 : Int) ≤ z.toInt := by
    have := Int32.not_lt.mp hz
    simpa using Int32.le_iff_toInt_le.mp this
  show z.toInt = ((z.toInt.toNat : Nat) : Int)
  omega
def COK (own : String) (index : Nat) : Prop := Cond.methodLink own index arraycopyName ∈ lw_tbl ∧ Cond.native arraycopyName ∈ lw_tbl ∧ Cond.static arraycopyName ∈ lw_tbl ∧ Cond.initialized "java/lang/System" ∈ lw_tbl
theorem nfw : nativeFrameWords "java/lang/System" "arraycopy" 5 ≤ 22 := by decide +kernel
theorem r_copyi {a a0 index : Nat} (hcok : COK md.1.cls index) (ha : (x_h X a).1 = 1) (ha0 : (x_h X a0).1 = 1)
    {sp dp n : Int32} (h1 : ¬ sp < 0) (h2 : ¬ dp < 0) (h3 : ¬ n < 0) (h4 : sp.toNatClampNeg + n.toNatClampNeg ≤ (x_h X a0).2) (h5 : dp.toNatClampNeg + n.toNatClampNeg ≤ (x_h X a).2)
    (hst : (st.map fun v => v.category).sum ≤ 8) (hd : decode md.2.1 pc = .ok (.invokestatic index, 3)) (k : Wk G (d + 1) rc rs md (pc + 3) lv st (x_cpi X a0 sp.toNatClampNeg a dp.toNatClampNeg n.toNatClampNeg) Q) : Wk G (d + 1) rc rs md pc lv (.int n :: .int dp :: .ref a :: .int sp :: .ref a0 :: st) X Q := by
  intro hG p e s m args below meth c H locs ls cells slots mc ms hc hy g1 g2 T hT Xs
  have hK := hc.K hG
  have hR := hy.1.2.2.2 a (by rw [ha]; omega)
  have he := hy.1.at (a := a) (by rw [ha]; omega)
  have he0 := hy.1.at (a := a0) (by rw [ha0]; omega)
  rw [x_ent_a ha (by omega)] at he
  rw [x_ent_a ha0 (by omega)] at he0
  generalize hX' : x_cpi X a0 sp.toNatClampNeg a dp.toNatClampNeg n.toNatClampNeg = X' at k
  have hset : (x_ws G X).set (a - g_b G) (a, .inl (g_k G 1, (x_h X a).2, x_arr X' a 1)) = x_ws G X' := by
    refine x_ws_set hR.1 hR.2 (by rw [← hX']; rfl) ?_ ?_
    · rw [x_ent_a (kd := 1) (by rw [← hX']; exact ha) (by omega), ← hX']
      rfl
    · intro q hq
      rw [← hX']
      exact x_ent_same rfl (if_neg hq) rfl rfl
  have hc0 : H[a0]? = some (vp_cell (g_k G 1) ((x_h X a0).2, .inl (x_i X a0))) := hy.1.1 _ _ he0
  have hc1 : H[a]? = some (vp_cell (g_k G 1) ((x_h X a).2, .inl (x_i X a))) := hy.1.1 _ _ he
  obtain ⟨-, k0, hk0, cm0, hkk0⟩ := (hK.2 1 _ (x_ty (by omega))).1 (x_h X a0).2 (fun j => .int (x_i X a0 j))
  obtain ⟨-, k1, hk1, cm1, hkk1⟩ := (hK.2 1 _ (x_ty (by omega))).1 (x_h X a).2 (fun j => .int (x_i X a j))
  obtain ⟨vm', X2, step⟩ := Xs.arraycopy hc.1 hc.2.2.2.2.2.1 (hc.word hG hcok.1 rfl) (hc.word hG hcok.2.1 rfl) (hc.word hG hcok.2.2.1 rfl) (hc.word hG hcok.2.2.2 rfl) (src := a0) (dst := a) (cs := vp_cell (g_k G 1) ((x_h X a0).2, .inl (x_i X a0))) (cd := vp_cell (g_k G 1) ((x_h X a).2, .inl (x_i X a))) (srcPos := sp) (destPos := dp) (n := n) (by rw [hT]; exact hc0) (by rw [hT]; exact hc1)
    (fun _ h => by cases h) (fun _ h => by cases h) (fun h => by cases h) (fun h => by cases h) hk0 hk1 hkk0 hkk1 (by simp [kty]) h1 h2 h3
    (by rw [nnI sp h1, nnI n h3]; show ¬ _ > ((arrV _ _ (fun j => .int (x_i X a0 j))).slots.size : Int); rw [arrV_size]; omega)
    (by rw [nnI dp h2, nnI n h3]; show ¬ _ > ((arrV _ _ (fun j => .int (x_i X a j))).slots.size : Int); rw [arrV_size]; omega)
    (fun vm₁ _ i hi => by
      have e : (vp_cell (g_k G 1) ((x_h X a0).2, .inl (x_i X a0))).slots.getD (sp.toNatClampNeg + i) .null = .int (x_i X a0 (sp.toNatClampNeg + i)) := by
        show (arrV _ _ (fun j => .int (x_i X a0 j))).slots.getD _ _ = _
        rw [Array.getD_eq_getD_getElem?, arrV_read _ _ (by omega)]
        rfl
      refine ⟨?_, ?_⟩
      · rw [e]; rfl
      · rw [e]; exact trivial)
    (g := F0 m pc ls (.int n :: .int dp :: .ref a :: .int sp :: .ref a0 :: st)) rfl (by rw [hc.2.2.1]; exact hy.2.2.1.1) (rest := st) rfl (by rw [hc.2.1]; exact hd) (by show 1 ≤ d + 1; omega) (by show 2 * 0 + _ + (nativeFrameWords "java/lang/System" "arraycopy" 5 + 11) ≤ 41 * (d + 1); have e := nfw; omega)
  have e1 : copied (vp_cell (g_k G 1) ((x_h X a0).2, .inl (x_i X a0))) (vp_cell (g_k G 1) ((x_h X a).2, .inl (x_i X a))) sp dp n = vp_cell (g_k G 1) ((x_h X a).2, .inl (va_cpy (x_i X a0) (x_i X a) sp.toNatClampNeg dp.toNatClampNeg n.toNatClampNeg)) := va_copied (fun z => .int z) _ _ _ _ h4
  have e2 : x_i X' a = va_cpy (x_i X a0) (x_i X a) sp.toNatClampNeg dp.toNatClampNeg n.toNatClampNeg := by
    rw [va_cpy_R, ← hX']
    exact if_pos rfl
  rw [e1, ← e2] at X2 step
  have hl : a < H.size := (Array.getElem?_eq_some_iff.mp hc1).1
  generalize hZ : vp_cell (g_k G 1) ((x_h X a).2, .inl (x_i X' a)) = Z at X2 step
  have hheap : ((T.setVm vm').setCell a Z).heap = H.setIfInBounds a Z := by rw [← hT]; rfl
  have oq : ∀ q : Nat, q ≠ a → (H.setIfInBounds a Z)[q]? = H[q]? := fun q hq => by simp [Array.getElem?_setIfInBounds, Ne.symm hq]
  have hP1 : va_P (g_D G) cl ((x_ws G X).set (a - g_b G) (a, .inl (g_k G 1, (x_h X a).2, x_arr X' a 1))) (H.setIfInBounds a Z) := hy.1.1.set x_ws_D he (show (H.setIfInBounds a _)[a]? = some _ by rw [← hZ]; simp [Array.getElem?_setIfInBounds, hl]; rfl) oq
  rw [hset] at hP1
  obtain ⟨t, a1, b1⟩ := k hG p e s m args below meth c _ _ ls cells slots mc ms hc ⟨⟨hP1, by rw [Array.size_setIfInBounds, ← hX']; exact hy.1.2.1, fun q hq => (oq q (by have := hR.1; omega)).trans (hy.1.2.2.1 q hq), by rw [← hX']; exact hy.1.2.2.2⟩, ⟨by simp; exact hy.2.1.1, fun q g1 g2 => by
      rw [oq q (fun e => g2 (by rw [e]; exact hR.1))]
      exact hy.2.1.2.1 q g1 g2, fun q hq => by
      rcases List.mem_append.mp hq with h | h
      · exact hy.2.1.2.2 q h
      · obtain ⟨z, -, hz⟩ := List.mem_map.mp h
        rw [← hz]
        exact hR.1⟩, hy.2.2⟩ g1 g2 _ hheap X2
  exact ⟨t, step t a1, b1⟩
theorem r_copyl {a a0 index : Nat} (hcok : COK md.1.cls index) (ha : (x_h X a).1 = 2) (ha0 : (x_h X a0).1 = 2)
    {sp dp n : Int32} (h1 : ¬ sp < 0) (h2 : ¬ dp < 0) (h3 : ¬ n < 0) (h4 : sp.toNatClampNeg + n.toNatClampNeg ≤ (x_h X a0).2) (h5 : dp.toNatClampNeg + n.toNatClampNeg ≤ (x_h X a).2)
    (hst : (st.map fun v => v.category).sum ≤ 8) (hd : decode md.2.1 pc = .ok (.invokestatic index, 3)) (k : Wk G (d + 1) rc rs md (pc + 3) lv st (x_cpl X a0 sp.toNatClampNeg a dp.toNatClampNeg n.toNatClampNeg) Q) : Wk G (d + 1) rc rs md pc lv (.int n :: .int dp :: .ref a :: .int sp :: .ref a0 :: st) X Q := by
  intro hG p e s m args below meth c H locs ls cells slots mc ms hc hy g1 g2 T hT Xs
  have hK := hc.K hG
  have hR := hy.1.2.2.2 a (by rw [ha]; omega)
  have he := hy.1.at (a := a) (by rw [ha]; omega)
  have he0 := hy.1.at (a := a0) (by rw [ha0]; omega)
  rw [x_ent_a ha (by omega)] at he
  rw [x_ent_a ha0 (by omega)] at he0
  generalize hX' : x_cpl X a0 sp.toNatClampNeg a dp.toNatClampNeg n.toNatClampNeg = X' at k
  have hset : (x_ws G X).set (a - g_b G) (a, .inl (g_k G 2, (x_h X a).2, x_arr X' a 2)) = x_ws G X' := by
    refine x_ws_set hR.1 hR.2 (by rw [← hX']; rfl) ?_ ?_
    · rw [x_ent_a (kd := 2) (by rw [← hX']; exact ha) (by omega), ← hX']
      rfl
    · intro q hq
      rw [← hX']
      exact x_ent_same rfl rfl (if_neg hq) rfl
  have hc0 : H[a0]? = some (vp_cell (g_k G 2) ((x_h X a0).2, .inr (.inl (x_l X a0)))) := hy.1.1 _ _ he0
  have hc1 : H[a]? = some (vp_cell (g_k G 2) ((x_h X a).2, .inr (.inl (x_l X a)))) := hy.1.1 _ _ he
  obtain ⟨-, k0, hk0, cm0, hkk0⟩ := (hK.2 2 _ (x_ty (by omega))).1 (x_h X a0).2 (fun j => .long (x_l X a0 j))
  obtain ⟨-, k1, hk1, cm1, hkk1⟩ := (hK.2 2 _ (x_ty (by omega))).1 (x_h X a).2 (fun j => .long (x_l X a j))
  obtain ⟨vm', X2, step⟩ := Xs.arraycopy hc.1 hc.2.2.2.2.2.1 (hc.word hG hcok.1 rfl) (hc.word hG hcok.2.1 rfl) (hc.word hG hcok.2.2.1 rfl) (hc.word hG hcok.2.2.2 rfl) (src := a0) (dst := a) (cs := vp_cell (g_k G 2) ((x_h X a0).2, .inr (.inl (x_l X a0)))) (cd := vp_cell (g_k G 2) ((x_h X a).2, .inr (.inl (x_l X a)))) (srcPos := sp) (destPos := dp) (n := n) (by rw [hT]; exact hc0) (by rw [hT]; exact hc1)
    (fun _ h => by cases h) (fun _ h => by cases h) (fun h => by cases h) (fun h => by cases h) hk0 hk1 hkk0 hkk1 (by simp [kty]) h1 h2 h3
    (by rw [nnI sp h1, nnI n h3]; show ¬ _ > ((arrV _ _ (fun j => .long (x_l X a0 j))).slots.size : Int); rw [arrV_size]; omega)
    (by rw [nnI dp h2, nnI n h3]; show ¬ _ > ((arrV _ _ (fun j => .long (x_l X a j))).slots.size : Int); rw [arrV_size]; omega)
    (fun vm₁ _ i hi => by
      have e : (vp_cell (g_k G 2) ((x_h X a0).2, .inr (.inl (x_l X a0)))).slots.getD (sp.toNatClampNeg + i) .null = .long (x_l X a0 (sp.toNatClampNeg + i)) := by
        show (arrV _ _ (fun j => .long (x_l X a0 j))).slots.getD _ _ = _
        rw [Array.getD_eq_getD_getElem?, arrV_read _ _ (by omega)]
        rfl
      refine ⟨?_, ?_⟩
      · rw [e]; rfl
      · rw [e]; exact trivial)
    (g := F0 m pc ls (.int n :: .int dp :: .ref a :: .int sp :: .ref a0 :: st)) rfl (by rw [hc.2.2.1]; exact hy.2.2.1.1) (rest := st) rfl (by rw [hc.2.1]; exact hd) (by show 1 ≤ d + 1; omega) (by show 2 * 0 + _ + (nativeFrameWords "java/lang/System" "arraycopy" 5 + 11) ≤ 41 * (d + 1); have e := nfw; omega)
  have e1 : copied (vp_cell (g_k G 2) ((x_h X a0).2, .inr (.inl (x_l X a0)))) (vp_cell (g_k G 2) ((x_h X a).2, .inr (.inl (x_l X a)))) sp dp n = vp_cell (g_k G 2) ((x_h X a).2, .inr (.inl (va_cpy (x_l X a0) (x_l X a) sp.toNatClampNeg dp.toNatClampNeg n.toNatClampNeg))) := va_copied (fun z => .long z) _ _ _ _ h4
  have e2 : x_l X' a = va_cpy (x_l X a0) (x_l X a) sp.toNatClampNeg dp.toNatClampNeg n.toNatClampNeg := by
    rw [va_cpy_R, ← hX']
    exact if_pos rfl
  rw [e1, ← e2] at X2 step
  have hl : a < H.size := (Array.getElem?_eq_some_iff.mp hc1).1
  generalize hZ : vp_cell (g_k G 2) ((x_h X a).2, .inr (.inl (x_l X' a))) = Z at X2 step
  have hheap : ((T.setVm vm').setCell a Z).heap = H.setIfInBounds a Z := by rw [← hT]; rfl
  have oq : ∀ q : Nat, q ≠ a → (H.setIfInBounds a Z)[q]? = H[q]? := fun q hq => by simp [Array.getElem?_setIfInBounds, Ne.symm hq]
  have hP1 : va_P (g_D G) cl ((x_ws G X).set (a - g_b G) (a, .inl (g_k G 2, (x_h X a).2, x_arr X' a 2))) (H.setIfInBounds a Z) := hy.1.1.set x_ws_D he (show (H.setIfInBounds a _)[a]? = some _ by rw [← hZ]; simp [Array.getElem?_setIfInBounds, hl]; rfl) oq
  rw [hset] at hP1
  obtain ⟨t, a1, b1⟩ := k hG p e s m args below meth c _ _ ls cells slots mc ms hc ⟨⟨hP1, by rw [Array.size_setIfInBounds, ← hX']; exact hy.1.2.1, fun q hq => (oq q (by have := hR.1; omega)).trans (hy.1.2.2.1 q hq), by rw [← hX']; exact hy.1.2.2.2⟩, ⟨by simp; exact hy.2.1.1, fun q g1 g2 => by
      rw [oq q (fun e => g2 (by rw [e]; exact hR.1))]
      exact hy.2.1.2.1 q g1 g2, fun q hq => by
      rcases List.mem_append.mp hq with h | h
      · exact hy.2.1.2.2 q h
      · obtain ⟨z, -, hz⟩ := List.mem_map.mp h
        rw [← hz]
        exact hR.1⟩, hy.2.2⟩ g1 g2 _ hheap X2
  exact ⟨t, step t a1, b1⟩
end More
