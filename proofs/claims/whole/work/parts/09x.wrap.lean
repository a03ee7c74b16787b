/-! ===== more of making: the new cell's address and the memory behind it by name; rows of rows ===== -/
theorem vr_outer (c : ClassId) (N h0 : Nat) : ∀ i : Nat, Jvm.Free.Multi.outerC c N h0 i = arrV c N (fun j => va_rf (if j < i then some (h0 + 1 + j) else none))
  | 0 => by
    show ({ cls := c, slots := Array.replicate N .null, vm := .none } : Cell) = _
    rw [arrV_new]
    refine congrArg (arrV c N) (funext fun j => ?_)
    simp [va_rf]
  | i + 1 => by
    show (Jvm.Free.Multi.outerC c N h0 i).setSlot i (.ref (h0 + 1 + i)) = _
    rw [vr_outer c N h0 i, arrV_store]
    refine congrArg (arrV c N) (funext fun j => ?_)
    by_cases e : j = i
    · subst e
      simp [updV, va_rf]
    · by_cases h : j < i
      · simp [updV, e, h, Nat.lt_succ_of_lt h]
      · simp [updV, e, h, show ¬ j < i + 1 by omega]
section Wraps
variable {G : GG} {d rc rs : Nat} {md : MD} {pc : Nat} {lv : List (Option Value)} {st : List Value} {X : Mem} {Q : Option Value → Mem → Prop}
theorem r_newV {index ci : Nat} {q : vw_C} (hd : decode md.2.1 pc = .ok (.new index, 3)) (hq : cl[ci]? = some q) (hl : Cond.classLink md.1.cls index q.1 ∈ lw_tbl) (hi : Cond.instantiable q.1 q.2.2 ∈ lw_tbl) (hini : Cond.initialized q.1 ∈ lw_tbl) (hrc : 1 ≤ rc) (hrs : q.2.2 ≤ rs)
    (kk : ∀ (n : Nat) (X2 : Mem), n = g_b G + x_n X → X2 = x_new X n (16 + ci) 0 → x_h X2 n = (16 + ci, 0) → Wk G d (rc - 1) (rs - q.2.2) md (pc + 3) lv (.ref n :: st) X2 Q) : Wk G d rc rs md pc lv st X Q :=
  r_new hd hq hl hi hini hrc hrs (kk _ _ rfl rfl x_new_h)
theorem r_newIV {n : Nat} {i : Int32} (hd : decode md.2.1 pc = .ok (.newarray .int, 2)) (hi : ¬ i < 0) (hn : i.toNatClampNeg = n) (hb : n ≤ 1000000) (hrc : 1 ≤ rc) (hrs : n ≤ rs) (kk : ∀ (a : Nat) (X2 : Mem), a = g_b G + x_n X → X2 = x_new X a 1 n → x_h X2 a = (1, n) → Wk G d (rc - 1) (rs - n) md (pc + 2) lv (.ref a :: st) X2 Q) : Wk G d rc rs md pc lv (.int i :: st) X Q :=
  r_newI hd hi hn hb hrc hrs ww_72 (kk _ _ rfl rfl x_new_h)
theorem r_newJV {n : Nat} {i : Int32} (hd : decode md.2.1 pc = .ok (.newarray .long, 2)) (hi : ¬ i < 0) (hn : i.toNatClampNeg = n) (hb : n ≤ 1000000) (hrc : 1 ≤ rc) (hrs : n ≤ rs) (kk : ∀ (a : Nat) (X2 : Mem), a = g_b G + x_n X → X2 = x_new X a 2 n → x_h X2 a = (2, n) → Wk G d (rc - 1) (rs - n) md (pc + 2) lv (.ref a :: st) X2 Q) : Wk G d rc rs md pc lv (.int i :: st) X Q :=
  r_newJ hd hi hn hb hrc hrs ww_294 (kk _ _ rfl rfl x_new_h)
theorem r_newZV {n : Nat} {i : Int32} (hd : decode md.2.1 pc = .ok (.newarray .boolean, 2)) (hi : ¬ i < 0) (hn : i.toNatClampNeg = n) (hb : n ≤ 1000000) (hrc : 1 ≤ rc) (hrs : n ≤ rs) (kk : ∀ (a : Nat) (X2 : Mem), a = g_b G + x_n X → X2 = x_new X a 3 n → x_h X2 a = (3, n) → Wk G d (rc - 1) (rs - n) md (pc + 2) lv (.ref a :: st) X2 Q) : Wk G d rc rs md pc lv (.int i :: st) X Q :=
  r_newZ hd hi hn hb hrc hrs ww_1501 (kk _ _ rfl rfl x_new_h)
theorem r_newRV {n kd index : Nat} {C : String} {i : Int32} (hd : decode md.2.1 pc = .ok (.anewarray index, 3)) (hkd : 4 ≤ kd ∧ kd < 7) (hC : kty kd = .object C) (hl : Cond.classLink md.1.cls index C ∈ lw_tbl) (ho : Cond.arrayOver (.object C) ∈ lw_tbl) (hi : ¬ i < 0) (hn : i.toNatClampNeg = n) (hb : n ≤ 1000000) (hrc : 1 ≤ rc) (hrs : n ≤ rs) (kk : ∀ (a : Nat) (X2 : Mem), a = g_b G + x_n X → X2 = x_new X a kd n → x_h X2 a = (kd, n) → Wk G d (rc - 1) (rs - n) md (pc + 3) lv (.ref a :: st) X2 Q) : Wk G d rc rs md pc lv (.int i :: st) X Q :=
  r_newR hd hkd hC hl ho hi hn hb hrc hrs (kk _ _ rfl rfl x_new_h)
/-- a row of n rows of k ints, at a; the rows at a + 1 and on -/
def x_mna (X : Mem) (a n k : Nat) : Mem := (X.1 + 1 + n, (fun q => if q = a then (7, n) else if a < q ∧ q ≤ a + n then (1, k) else X.2.1 q), (fun q j => if a ≤ q ∧ q ≤ a + n then 0 else X.2.2.1 q j), X.2.2.2.1, (fun q j => if q = a then (if j < n then some (a + 1 + j) else none) else X.2.2.2.2 q j))
theorem sw_ne {x k : Int32} (h : ¬ x = k) : ¬ x.toInt = k.toInt := fun e => h (Int32.toInt_inj.mp e)
theorem r_mna {index : Nat} {n k : Nat} {i j : Int32} (hd : decode md.2.1 pc = .ok (.multianewarray index 2, 4)) (hl : Cond.classLink md.1.cls index "[[I" ∈ lw_tbl) (hn : ¬ i < 0) (hk : ¬ j < 0) (hN : i.toNatClampNeg = n) (hM : j.toNatClampNeg = k) (hb1 : n ≤ 100) (hb2 : k ≤ 1000) (hrc : 1 + n ≤ rc) (hrs : n + n * k ≤ rs)
    (kk : ∀ (a : Nat) (X2 : Mem), a = g_b G + x_n X → X2 = x_mna X a n k → Wk G d (rc - (1 + n)) (rs - (n + n * k)) md (pc + 4) lv (.ref a :: st) X2 Q) : Wk G d rc rs md pc lv (.int j :: .int i :: st) X Q := by
  intro hG p e s m args below meth c H locs ls cells slots mc ms hc hy h1 h2 T hT Xs
  subst hN
  subst hM
  have hK := hc.K hG
  have hy0 := hy.1.2.1
  have hover : va_AOA .int s := va_AOA.moved hc.2.2.2.2.2.2.2.1.alike (va_AOA.of (hG.1 _ ww_35))
  obtain ⟨vm₁, cA, comp, -, fA, fC, hO, -, X', step⟩ := Xs.multianewarray2F hc.1 hc.2.2.2.2.2.1 (hc.word hG hl rfl) (va_AOA.use hover) (hc.word hG ww_72 rfl) (g := F0 m pc ls (.int j :: .int i :: st)) rfl (by rw [hc.2.1]; exact hd) rfl hn hk (by omega) (by show _ * 4 ≤ _; omega) (by omega) (by decide) (by decide) (by show cells + (1 + i.toNatClampNeg) ≤ mc; omega) (by show slots + (i.toNatClampNeg + i.toNatClampNeg * j.toNatClampNeg) ≤ ms; omega)
  have hk7 := hK.2 7 _ (x_ty (by omega))
  have hk1 := hK.2 1 _ (x_ty (by omega))
  have ec : g_k G 1 = comp := Option.some.inj (hk1.2.symm.trans fC)
  subst ec
  have eA : cA = g_k G 7 := Option.some.inj (fA.symm.trans hk7.2)
  subst eA
  generalize hF : Jvm.Free.Multi.fill (T.setVm vm₁) (g_k G 7) (g_k G 1) i.toNatClampNeg j.toNatClampNeg (defaultValue .int) i.toNatClampNeg = F at X' step
  have hTh : (T.setVm vm₁).heap = H := hT
  obtain ⟨f1, f2, -, -⟩ := Jvm.Free.Multi.fill_facts (T.setVm vm₁) (g_k G 7) (g_k G 1) i.toNatClampNeg j.toNatClampNeg (defaultValue .int) i.toNatClampNeg
  rw [hF, hTh] at f1 f2
  have hold : ∀ x : Nat, x < H.size → F.heap[x]? = H[x]? := fun x hx => by
    have := Jvm.Free.Multi.fill_old (T.setVm vm₁) (g_k G 7) (g_k G 1) i.toNatClampNeg j.toNatClampNeg (defaultValue .int) (a := x) (by rw [hTh]; exact hx) i.toNatClampNeg
    rw [hF, hTh] at this
    exact this
  have hrow : ∀ q : Nat, q < i.toNatClampNeg → F.heap[H.size + 1 + q]? = some (vp_cell (g_k G 1) (j.toNatClampNeg, .inl (fun _ => 0))) := fun q hq => by
    have := Jvm.Free.Multi.fill_inner (T.setVm vm₁) (g_k G 7) (g_k G 1) i.toNatClampNeg j.toNatClampNeg (defaultValue .int) i.toNatClampNeg q hq
    rw [hF, hTh] at this
    rw [this]
    rw [vp_cell_i]
    show some ({ cls := _, slots := Array.replicate _ (.int 0), vm := .none } : Cell) = _
    rw [arrV_new]
  have hout : Jvm.Free.Multi.outerC (g_k G 7) i.toNatClampNeg H.size i.toNatClampNeg = vp_cell (g_k G 7) (i.toNatClampNeg, .inr (.inr (.inr (.inr (fun q => if q < i.toNatClampNeg then some (H.size + 1 + q) else none))))) := by
    rw [vp_cell_q]
    exact vr_outer (g_k G 7) i.toNatClampNeg H.size i.toNatClampNeg
  rw [hout] at f2
  have hsz : H.size = g_b G + x_n X := hy0
  generalize hX2 : x_mna X (g_b G + x_n X) i.toNatClampNeg j.toNatClampNeg = X2
  have hR : Rep G X2 F.heap := by
    refine ⟨fun q z hz => ?_, by rw [f1, ← hX2, hsz]; show _ = g_b G + (x_n X + 1 + _); omega, fun q hq => (hold q (by omega)).trans (hy.1.2.2.1 q hq), fun a ha => ?_⟩
    · obtain ⟨hlt, rfl⟩ := x_ws_get hz
      have hlt' : q < x_n X + 1 + i.toNatClampNeg := by rw [← hX2] at hlt; exact hlt
      by_cases h3 : q < x_n X
      · have hsame : x_ent (g_k G) X2 (g_b G + q) = x_ent (g_k G) X (g_b G + q) := by
          rw [← hX2]
          refine x_ent_same ?_ ?_ rfl ?_
          · show (if _ then _ else if _ then _ else _) = _
            rw [if_neg (by omega), if_neg (by omega)]; rfl
          · funext z
            show (if _ then _ else _) = _
            rw [if_neg (by omega)]; rfl
          · funext z
            show (if _ then _ else _) = _
            rw [if_neg (by omega)]; rfl
        rw [hsame]
        exact (hy.1.1 _ _ (x_ws_at (a := g_b G + q) (by omega) (by omega))).kept (hold _ (by show g_b G + q < _; omega))
      · by_cases h4 : q = x_n X
        · subst h4
          have hh : x_h X2 (g_b G + x_n X) = (7, i.toNatClampNeg) := by rw [← hX2]; exact if_pos rfl
          have hr : x_r X2 (g_b G + x_n X) = fun z => if z < i.toNatClampNeg then some (g_b G + x_n X + 1 + z) else none := by
            rw [← hX2]; funext z; exact if_pos rfl
          rw [x_ent_a (kd := 7) (by rw [hh]) (by omega), hh, x_arr_R (by omega), hr]
          rw [hsz] at f2
          exact f2
        · have hh : x_h X2 (g_b G + q) = (1, j.toNatClampNeg) := by
            rw [← hX2]
            show (if _ then _ else if _ then _ else _) = _
            rw [if_neg (by omega), if_pos (by omega)]
          have hi : x_i X2 (g_b G + q) = fun _ => 0 := by
            rw [← hX2]; funext z
            show (if _ then _ else _) = _
            rw [if_pos (by omega)]
          rw [x_ent_a (kd := 1) (by rw [hh]) (by omega), hh]
          show F.heap[g_b G + q]? = some (vp_cell _ (_, .inl (x_i X2 _)))
          rw [hi]
          have := hrow (q - x_n X - 1) (by omega)
          rw [hsz, show g_b G + x_n X + 1 + (q - x_n X - 1) = g_b G + q by omega] at this
          exact this
    · rw [← hX2] at ha ⊢
      show g_b G ≤ a ∧ a < g_b G + (x_n X + 1 + i.toNatClampNeg)
      by_cases h3 : a = g_b G + x_n X
      · omega
      · by_cases h4 : g_b G + x_n X < a ∧ a ≤ g_b G + x_n X + i.toNatClampNeg
        · omega
        · have : x_h (x_mna X (g_b G + x_n X) i.toNatClampNeg j.toNatClampNeg) a = x_h X a := by
            show (if _ then _ else if _ then _ else _) = _
            rw [if_neg h3, if_neg h4]; rfl
          rw [this] at ha
          have := hy.1.2.2.2 a ha
          omega
  obtain ⟨t, a1, b1⟩ := kk _ _ rfl hX2.symm hG p e s m args below meth c F.heap locs ls (cells + (1 + i.toNatClampNeg)) (slots + (i.toNatClampNeg + i.toNatClampNeg * j.toNatClampNeg)) mc ms hc ⟨hR, ⟨by rw [f1]; have := hy.2.1.1; omega, fun x h1 h2 => (hold x (Nat.lt_of_lt_of_le h1 hy.2.1.1)).trans (hy.2.1.2.1 x h1 h2), hy.2.1.2.2⟩, hy.2.2⟩ (by omega) (by omega) F rfl X'
  refine ⟨t, step t ?_, b1⟩
  have e9 : T.heap.size = g_b G + x_n X := by rw [hT]; exact hsz
  rw [e9]
  exact a1
end Wraps
