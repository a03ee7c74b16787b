section Mems
variable {G : GG} {d rc rs : Nat} {md : MD} {pc : Nat} {lv : List (Option Value)} {st : List Value} {X : Mem} {Q : Option Value → Mem → Prop}
/-- field k of class ci, as a place of own's constants names it -/
def FL (own : String) (index ci k : Nat) : Prop := ∃ q : vw_C, cl[ci]? = some q ∧ k < q.2.2 ∧ (Cond.fieldLink own index (q.2.1 k).1 (q.2.1 k).2.1 (q.2.1 k).2.2.1 ∈ lw_tbl ∨ Cond.fieldLinkNest own index (q.2.1 k).1 (q.2.1 k).2.1 (q.2.1 k).2.2.1 "EndlessRows" ∈ lw_tbl)
theorem x_ent_o {K : Nat → ClassId} {a ci : Nat} (h : (x_h X a).1 = 16 + ci) : x_ent K X a = .inr (ci, x_fs X a ci) := by
  unfold x_ent
  rw [if_pos (by omega), h, Nat.add_sub_cancel_left]
theorem x_ent_a {K : Nat → ClassId} {a kd : Nat} (h : (x_h X a).1 = kd) (hk : kd < 16) : x_ent K X a = .inl (K kd, (x_h X a).2, x_arr X a kd) := by
  unfold x_ent
  rw [if_neg (by omega), h]
theorem Rep.at {H : Heap} {a : Nat} (h : Rep G X H) (ha : (x_h X a).1 ≠ 0) : (x_ws G X)[a - g_b G]? = some (a, x_ent (g_k G) X a) := x_ws_at (h.2.2.2 a ha).1 (h.2.2.2 a ha).2
theorem x_fs_at {a ci k : Nat} (h : k < fnum ci) : (x_fs X a ci)[k]? = some (valt X a k (fty ci k)) := by
  unfold x_fs
  rw [List.getElem?_map, List.getElem?_range h]
  rfl
theorem Cx.nestF {p : Program} {s : State} {m : MethodId} {meth : Method} {c : Code} {args : Array Value} (hc : Cx G md p s m meth c) (hG : GOK G) {a : String} {i : Nat} {b n de h : String} (hw : Cond.fieldLinkNest a i b n de h ∈ lw_tbl) : (Cond.fieldLinkNest a i b n de h).before args s = true :=
  va_Nw.use rfl (va_Nw.warmF hc.2.2.2.2.2.2.2.1 (va_Nw.of rfl (hG.1 _ hw)))
theorem Cx.nestM {p : Program} {s : State} {m : MethodId} {meth : Method} {c : Code} (hc : Cx G md p s m meth c) (hG : GOK G) {a : String} {i : Nat} {y : MethodName} {h : String} (hw : Cond.methodLinkNest a i y h ∈ lw_tbl) : va_Nw (.methodLinkNest a i y h) s :=
  va_Nw.warmM hc.2.2.2.2.2.2.2.1 (va_Nw.of rfl (hG.1 _ hw))
theorem r_get {index ci k a : Nat} (hf : FL md.1.cls index ci k) (hd : decode md.2.1 pc = .ok (.getfield index, 3)) (ha : (x_h X a).1 = 16 + ci) (kk : Wk G d rc rs md (pc + 3) lv (valt X a k (fty ci k) :: st) X Q) : Wk G d rc rs md pc lv (.ref a :: st) X Q := by
  intro hG p e s m args below meth c H locs ls cells slots mc ms hc hy h1 h2
  obtain ⟨⟨C, T, N⟩, hcl, hk, hl⟩ := hf
  have he := hy.1.at (by rw [ha]; omega)
  rw [x_ent_o ha] at he
  have hN : N = fnum ci := cl_num hcl
  have hv : (x_fs X a ci)[k]? = some (valt X a k (fty ci k)) := x_fs_at (by rw [← hN]; exact hk)
  have w := kk hG p e s m args below meth c H locs ls cells slots mc ms hc hy h1 h2
  rcases hl with hl | hl
  · exact va_get hc.1 hc.2.1 (hc.hts hG) (cl_inG hcl) hc.2.2.2.2.2.1 (hc.K hG) hy.1.1 _ he hcl k hk (hc.word hG hl rfl) (fun _ h => h) hv hd w
  · exact va_getN hc.1 hc.2.1 (hc.hts hG) (cl_inG hcl) hc.2.2.2.2.2.1 (hc.K hG) hy.1.1 _ he hcl k hk (hc.nestF hG hl) (fun _ h => h) hv hd w
theorem r_geti {index ci k a : Nat} (hf : FL md.1.cls index ci k) (hd : decode md.2.1 pc = .ok (.getfield index, 3)) (ht : fty ci k = .int ∨ fty ci k = .boolean) (ha : (x_h X a).1 = 16 + ci) (kk : Wk G d rc rs md (pc + 3) lv (.int (x_i X a k) :: st) X Q) : Wk G d rc rs md pc lv (.ref a :: st) X Q := by
  refine r_get hf hd ha ?_
  rcases ht with ht | ht <;> rw [ht] <;> exact kk
theorem r_getl {index ci k a : Nat} (hf : FL md.1.cls index ci k) (hd : decode md.2.1 pc = .ok (.getfield index, 3)) (ht : fty ci k = .long) (ha : (x_h X a).1 = 16 + ci) (kk : Wk G d rc rs md (pc + 3) lv (.long (x_l X a k) :: st) X Q) : Wk G d rc rs md pc lv (.ref a :: st) X Q := by
  refine r_get hf hd ha ?_
  rw [ht]; exact kk
def isR (t : FieldType) : Bool := match t with
  | .object _ => true
  | .array _ => true
  | _ => false
theorem valt_r {a k : Nat} {t : FieldType} (h : isR t = true) : valt X a k t = va_rf (x_r X a k) := by
  cases t <;> first | rfl | exact absurd h (by decide)
theorem r_getr {index ci k a b : Nat} (hf : FL md.1.cls index ci k) (hd : decode md.2.1 pc = .ok (.getfield index, 3)) (ht : isR (fty ci k) = true) (ha : (x_h X a).1 = 16 + ci) (hr : x_r X a k = some b) (kk : Wk G d rc rs md (pc + 3) lv (.ref b :: st) X Q) : Wk G d rc rs md pc lv (.ref a :: st) X Q := by
  refine r_get hf hd ha ?_
  rw [valt_r ht, hr]; exact kk
theorem up2_ne {α : Type} {f : Nat → Nat → α} {a k q : Nat} {v : α} (h : q ≠ a) : up2 f a k v q = f q := by
  funext j
  unfold up2
  rw [if_neg (fun e => h e.1)]
theorem up2_row {α : Type} {f : Nat → Nat → α} {a k : Nat} {v : α} : up2 f a k v a = fun j => if j = k then v else f a j := by
  funext j
  unfold up2
  by_cases h : j = k
  · rw [if_pos ⟨rfl, h⟩, if_pos h]
  · rw [if_neg (fun e => h e.2), if_neg h]
theorem up2_eq {α : Type} {f : Nat → Nat → α} {a k : Nat} {v : α} : up2 f a k v a k = v := if_pos ⟨rfl, rfl⟩
theorem up2_nj {α : Type} {f : Nat → Nat → α} {a k j b : Nat} {v : α} (h : j ≠ k) : up2 f a k v b j = f b j := if_neg (fun e => h e.2)
/-- two memories that are alike at q -/
theorem x_ent_same {K : Nat → ClassId} {X X' : Mem} {q : Nat} (h : x_h X' q = x_h X q) (h1 : x_i X' q = x_i X q) (h2 : x_l X' q = x_l X q) (h3 : x_r X' q = x_r X q) : x_ent K X' q = x_ent K X q := by
  have hv : ∀ j t, valt X' q j t = valt X q j t := by
    intro j t
    cases t <;> simp only [valt, h1, h2, h3]
  have hf : ∀ c, x_fs X' q c = x_fs X q c := fun c => by
    unfold x_fs
    exact List.map_congr_left fun j _ => hv j _
  have ha : ∀ k, x_arr X' q k = x_arr X q k := fun k => by
    unfold x_arr
    rw [h1, h2, h3]
  unfold x_ent
  rw [h, hf, ha]
theorem list_set_range {n k : Nat} {f g : Nat → Value} {v : Value} (hk : g k = v) (ho : ∀ j, j ≠ k → g j = f j) : ((List.range n).map f).set k v = (List.range n).map g := by
  apply List.ext_getElem?
  intro j
  rw [List.getElem?_set]
  by_cases h : k = j
  · subst h
    rw [if_pos rfl]
    by_cases hl : k < n
    · rw [if_pos (by simpa using hl), List.getElem?_map, List.getElem?_range hl]
      simp [hk]
    · rw [if_neg (by simpa using hl), List.getElem?_eq_none (by simpa using hl)]
  · rw [if_neg h, List.getElem?_map, List.getElem?_map]
    by_cases hl : j < n
    · rw [List.getElem?_range hl]
      simp [ho j (fun e => h e.symm)]
    · rw [List.getElem?_eq_none (by simpa using hl)]
      rfl
/-- storing into a field, whatever its sort -/
theorem r_put {index ci k a : Nat} {v : Value} {X' : Mem} (hf : FL md.1.cls index ci k) (hd : decode md.2.1 pc = .ok (.putfield index, 3)) (hfin : ∀ q : vw_C, cl[ci]? = some q → (q.2.1 k).2.2.2 = false ∨ ((q.2.1 k).2.2.2 = true ∧ md.1.name = "<init>" ∧ (q.2.1 k).1 = md.1.cls))
    (hnest : ∀ q : vw_C, cl[ci]? = some q → (q.2.1 k).2.2.2 = true → Cond.fieldLink md.1.cls index (q.2.1 k).1 (q.2.1 k).2.1 (q.2.1 k).2.2.1 ∈ lw_tbl)
    (hn : narrow (fty ci k) v = v) (hfit : fits (fty ci k) v = true) (ha : (x_h X a).1 = 16 + ci)
    (hX : x_n X' = x_n X) (hXh : x_h X' = x_h X) (hXo : ∀ q, q ≠ a → x_i X' q = x_i X q ∧ x_l X' q = x_l X q ∧ x_r X' q = x_r X q) (hXk : valt X' a k (fty ci k) = v) (hXj : ∀ j, j ≠ k → valt X' a j (fty ci j) = valt X a j (fty ci j))
    (kk : Wk G d rc rs md (pc + 3) lv st X' Q) : Wk G d rc rs md pc lv (v :: .ref a :: st) X Q := by
  intro hG p e s m args below meth c H locs ls cells slots mc ms hc hy h1 h2
  obtain ⟨⟨C, T, N⟩, hcl, hk, hl⟩ := hf
  have hR := hy.1.2.2.2 a (by rw [ha]; omega)
  have he := hy.1.at (by rw [ha]; omega)
  rw [x_ent_o ha] at he
  have hN : N = fnum ci := cl_num hcl
  have hlen : k < (x_fs X a ci).length := by
    unfold x_fs
    simp only [List.length_map, List.length_range]
    rw [← hN]; exact hk
  have hset : (x_ws G X).set (a - g_b G) (a, .inr (ci, (x_fs X a ci).set k v)) = x_ws G X' := by
    refine x_ws_set hR.1 hR.2 hX ?_ ?_
    · rw [x_ent_o (by rw [hXh]; exact ha)]
      unfold x_fs
      rw [list_set_range (f := fun j => valt X a j (fty ci j)) (g := fun j => valt X' a j (fty ci j)) hXk hXj]
    · intro q hq
      obtain ⟨e1, e2, e3⟩ := hXo q hq
      exact x_ent_same (by rw [hXh]) e1 e2 e3
  have hK := hc.K hG
  have hts : ∀ w ∈ lw_tbl.filter goodWord, w.before args s = true := hc.hts hG
  have hin := cl_inG hcl
  have hap := va_apart (own := md.1.cls) hts hin (fty ci) (cl_ty hcl) (cl_nm hcl) hK hcl
  obtain ⟨r, h3, cell, q1, q2, q3, q4⟩ := hy.1.1 _ _ he
  have hr : r = (C, T, N) := Option.some.inj (h3.symm.trans hcl)
  subst hr
  obtain ⟨hS, hfc, kC, hkC, hkind⟩ := hK.1 ci _ hcl
  obtain ⟨cf, kf, fi, f, hi, hsl⟩ := hS k hk
  have hlay := hts _ (hin _ (u_in_lay hk))
  unfold u_lay at hlay
  have hst := (u_facts hfc hkC (u_lays hts hin hk) hi).1
  have hdd := cl_ty hcl k hk
  have go : ∀ (H1 : Heap), H1[a]? = some (cell.setSlot f.slot v) → H1.size = H.size → (∀ q, q ≠ a → H1[q]? = H[q]?) → W p (g_l G) e (rmD d mc ms) s m args below meth c H1 (locs ++ [⟨a, f.slot⟩]) cells slots (MQ below (QcD G Q) args s mc ms (x_A G)) (F0 m (pc + 3) ls st) := by
    intro H1 e1 e2 e3
    rw [hsl] at e1 ⊢
    have hP1 : va_P (g_D G) cl ((x_ws G X).set (a - g_b G) (a, .inr (ci, (x_fs X a ci).set k v))) H1 := hy.1.1.set x_ws_D he ⟨_, hcl, t_OB.to (V := updV (vp_V (x_fs X a ci)) k v) ⟨_, e1, q2, q3, t_set q4 hap hk v⟩ (fun j _ => vp_updV_set hlen v j)⟩ e3
    rw [hset] at hP1
    exact kk hG p e s m args below meth c H1 _ ls cells slots mc ms hc ⟨⟨hP1, by rw [e2, hX]; exact hy.1.2.1, fun q hq => (e3 q (by have := hR.1; omega)).trans (hy.1.2.2.1 q hq), by rw [hXh, hX]; exact hy.1.2.2.2⟩, hy.2.1.put e2 e3 hR.1, hy.2.2⟩ h1 h2
  rcases hfin _ hcl with hfin | ⟨hfin, hini, hdc⟩
  · rw [if_neg (by rw [hfin]; decide)] at hlay
    have h6 := u_store hfc hkC hkind hlay hi hdd hn hfit
    rcases hl with hl | hl
    · exact W.putK hc.1 hc.2.1 (f := f) ⟨hc.2.2.2.2.2.1, hc.word hG hl rfl, ⟨_, _, _, hi⟩, hst⟩ (by rw [q2]; exact h6) q1 q3 (by rw [hsl]; exact k2_hasslot (q4 k hk)) rfl rfl hd go
    · exact va_WputK hc.1 hc.2.1 (f := f) hc.2.2.2.2.2.1 (hc.nestF hG hl) hi hst (by rw [q2]; exact h6) q1 q3 (by rw [hsl]; exact k2_hasslot (q4 k hk)) rfl rfl hd go
  · rw [if_pos hfin] at hlay
    have hcf : m.cls = cf := by
      obtain ⟨_, _, c', _, _, _, -, -, hf', -, -, -, hown2, -⟩ := Cond.laysFinal_spec hlay
      have e1 : c' = cf := by have := hi.symm.trans hf'; simp at this; exact this.1.symm
      rw [hdc] at hown2
      rw [← e1]; exact Option.some.inj (hc.2.2.2.2.2.1.symm.trans hown2)
    have h6 := u_fits hfc hkC hkind (Or.inr hlay) hi hdd hn hfit
    exact W.putFinK hc.1 hc.2.1 hc.2.2.2.2.2.1 (hc.word hG (hnest _ hcl hfin) rfl) hi hst hcf (hc.2.2.2.2.2.2.1.trans hini) (by rw [q2]; exact h6) q1 q3 (by rw [hsl]; exact k2_hasslot (q4 k hk)) rfl rfl hd go
theorem r_puti {index ci k a : Nat} {v : Int32} (hf : FL md.1.cls index ci k) (hd : decode md.2.1 pc = .ok (.putfield index, 3)) (ht : fty ci k = .int ∨ (fty ci k = .boolean ∧ (v = 0 ∨ v = 1))) (hfin : ∀ q : vw_C, cl[ci]? = some q → (q.2.1 k).2.2.2 = false) (ha : (x_h X a).1 = 16 + ci)
    (kk : Wk G d rc rs md (pc + 3) lv st (x_si X a k v) Q) : Wk G d rc rs md pc lv (.int v :: .ref a :: st) X Q := by
  have e : ∀ j t, j ≠ k → valt (x_si X a k v) a j t = valt X a j t := by
    intro j t hj
    have h : x_i (x_si X a k v) a j = x_i X a j := by
      exact up2_nj hj
    cases t <;> first | rfl | (simp only [valt, h])
  have e2 : x_i (x_si X a k v) a k = v := by
    exact up2_eq
  have o : ∀ q, q ≠ a → x_i (x_si X a k v) q = x_i X q ∧ x_l (x_si X a k v) q = x_l X q ∧ x_r (x_si X a k v) q = x_r X q := fun q hq => ⟨up2_ne hq, rfl, rfl⟩
  rcases ht with ht | ⟨ht, hv⟩
  · exact r_put (X' := x_si X a k v) hf hd (fun q hq => Or.inl (hfin q hq)) (fun q hq h => by rw [hfin q hq] at h; cases h) (by rw [ht]; rfl) (by rw [ht]; rfl) ha rfl rfl o (by rw [ht]; simp only [valt, e2]) (fun j hj => e j _ hj) kk
  · exact r_put (X' := x_si X a k v) hf hd (fun q hq => Or.inl (hfin q hq)) (fun q hq h => by rw [hfin q hq] at h; cases h) (by rw [ht]; rcases hv with rfl | rfl <;> rfl) (by rw [ht]; rcases hv with rfl | rfl <;> rfl) ha rfl rfl o (by rw [ht]; simp only [valt, e2]) (fun j hj => e j _ hj) kk
theorem r_putr {index ci k a : Nat} {r : Option Nat} (hf : FL md.1.cls index ci k) (hd : decode md.2.1 pc = .ok (.putfield index, 3)) (ht : isR (fty ci k) = true) (hfin : ∀ q : vw_C, cl[ci]? = some q → (q.2.1 k).2.2.2 = false ∨ ((q.2.1 k).2.2.2 = true ∧ md.1.name = "<init>" ∧ (q.2.1 k).1 = md.1.cls))
    (hnest : ∀ q : vw_C, cl[ci]? = some q → (q.2.1 k).2.2.2 = true → Cond.fieldLink md.1.cls index (q.2.1 k).1 (q.2.1 k).2.1 (q.2.1 k).2.2.1 ∈ lw_tbl) (ha : (x_h X a).1 = 16 + ci)
    (kk : Wk G d rc rs md (pc + 3) lv st (x_sr X a k r) Q) : Wk G d rc rs md pc lv (va_rf r :: .ref a :: st) X Q := by
  have e : ∀ j t, j ≠ k → valt (x_sr X a k r) a j t = valt X a j t := by
    intro j t hj
    have h : x_r (x_sr X a k r) a j = x_r X a j := by
      exact up2_nj hj
    cases t <;> first | rfl | (simp only [valt, h])
  have e2 : x_r (x_sr X a k r) a k = r := by
    exact up2_eq
  have o : ∀ q, q ≠ a → x_i (x_sr X a k r) q = x_i X q ∧ x_l (x_sr X a k r) q = x_l X q ∧ x_r (x_sr X a k r) q = x_r X q := fun q hq => ⟨rfl, rfl, up2_ne hq⟩
  have hn : ∀ t, isR t = true → narrow t (va_rf r) = va_rf r ∧ fits t (va_rf r) = true := by
    intro t h
    cases t <;> first | exact absurd h (by decide) | (cases r <;> exact ⟨rfl, rfl⟩)
  exact r_put (X' := x_sr X a k r) hf hd hfin hnest (hn _ ht).1 (hn _ ht).2 ha rfl rfl o (by rw [valt_r ht, e2]) (fun j hj => e j _ hj) kk
/-! arrays -/
theorem x_ty {k : Nat} (h : k < 8) : (x_tys G)[k]? = some (g_k G k, kty k) := by
  unfold x_tys
  rw [List.getElem?_map, List.getElem?_range h]
  rfl
theorem r_iald {a : Nat} {i : Int32} (hd : decode md.2.1 pc = .ok (.iaload, 1)) (ha : (x_h X a).1 = 1) (hi : vp_in i (x_h X a).2) (kk : Wk G d rc rs md (pc + 1) lv (.int (x_i X a i.toNatClampNeg) :: st) X Q) : Wk G d rc rs md pc lv (.int i :: .ref a :: st) X Q := by
  intro hG p e s m args below meth c H locs ls cells slots mc ms hc hy h1 h2
  have he := hy.1.at (by rw [ha]; omega)
  rw [x_ent_a ha (by omega)] at he
  exact va_iald hc.1 hc.2.1 (hc.K hG) hy.1.1 _ 1 (f := x_i X a) he (x_ty (by omega)) hi hd (kk hG p e s m args below meth c H locs ls cells slots mc ms hc hy h1 h2)
theorem r_lald {a : Nat} {i : Int32} (hd : decode md.2.1 pc = .ok (.laload, 1)) (ha : (x_h X a).1 = 2) (hi : vp_in i (x_h X a).2) (kk : Wk G d rc rs md (pc + 1) lv (.long (x_l X a i.toNatClampNeg) :: st) X Q) : Wk G d rc rs md pc lv (.int i :: .ref a :: st) X Q := by
  intro hG p e s m args below meth c H locs ls cells slots mc ms hc hy h1 h2
  have he := hy.1.at (by rw [ha]; omega)
  rw [x_ent_a ha (by omega)] at he
  exact va_lald hc.1 hc.2.1 (hc.K hG) hy.1.1 _ 2 (f := x_l X a) he (x_ty (by omega)) hi hd (kk hG p e s m args below meth c H locs ls cells slots mc ms hc hy h1 h2)
theorem r_zald {a : Nat} {i : Int32} (hd : decode md.2.1 pc = .ok (.baload, 1)) (ha : (x_h X a).1 = 3) (hi : vp_in i (x_h X a).2) (kk : Wk G d rc rs md (pc + 1) lv (.int (x_i X a i.toNatClampNeg) :: st) X Q) : Wk G d rc rs md pc lv (.int i :: .ref a :: st) X Q := by
  intro hG p e s m args below meth c H locs ls cells slots mc ms hc hy h1 h2
  have he := hy.1.at (by rw [ha]; omega)
  rw [x_ent_a ha (by omega)] at he
  exact va_zald hc.1 hc.2.1 (hc.K hG) hy.1.1 _ 3 (f := x_i X a) he (x_ty (by omega)) hi hd (kk hG p e s m args below meth c H locs ls cells slots mc ms hc hy h1 h2)
theorem kty_R {k : Nat} (h : 4 ≤ k) (h8 : k < 8) : (kty k).isReference = true := by
  match k, h, h8 with
  | 4, _, _ => rfl
  | 5, _, _ => rfl
  | 6, _, _ => rfl
  | 7, _, _ => rfl
theorem x_arr_R {a k : Nat} (h : 4 ≤ k) : x_arr X a k = .inr (.inr (.inr (.inr (x_r X a)))) := by
  unfold x_arr
  rw [if_neg (by omega), if_neg (by omega)]
theorem r_aald {a k b : Nat} {i : Int32} (hd : decode md.2.1 pc = .ok (.aaload, 1)) (ha : (x_h X a).1 = k) (hk : 4 ≤ k ∧ k < 8) (hi : vp_in i (x_h X a).2) (hr : x_r X a i.toNatClampNeg = some b) (kk : Wk G d rc rs md (pc + 1) lv (.ref b :: st) X Q) : Wk G d rc rs md pc lv (.int i :: .ref a :: st) X Q := by
  intro hG p e s m args below meth c H locs ls cells slots mc ms hc hy h1 h2
  have he := hy.1.at (by rw [ha]; omega)
  rw [x_ent_a ha (by omega), x_arr_R hk.1] at he
  have hlt : i.toNatClampNeg < (x_h X a).2 := Nat.not_le.mp fun q => hi (Or.inr q)
  exact W.aald (v := .ref b) (ty := kty k) hc.1 hc.2.1 (hy.1.1 _ _ he) (((hc.K hG).2 k _ (x_ty hk.2)).1 _ (fun j => va_rf (x_r X a j))) (kty_R hk.1 hk.2) (fun q => by cases q) (by show ¬ (i < 0 ∨ (arrV _ _ _).slots.size ≤ _); rw [arrV_size]; exact hi) (by show (arrV _ _ _).slots[_]? = _; rw [arrV_read _ _ hlt, hr]; rfl) rfl rfl hd (kk hG p e s m args below meth c H locs ls cells slots mc ms hc hy h1 h2)
theorem r_alen {a k : Nat} (hd : decode md.2.1 pc = .ok (.arraylength, 1)) (ha : (x_h X a).1 = k) (hk : 1 ≤ k ∧ k < 8) (kk : Wk G d rc rs md (pc + 1) lv (.int (nI (x_h X a).2) :: st) X Q) : Wk G d rc rs md pc lv (.ref a :: st) X Q := by
  intro hG p e s m args below meth c H locs ls cells slots mc ms hc hy h1 h2
  have he := hy.1.at (by rw [ha]; omega)
  rw [x_ent_a ha (by omega)] at he
  exact va_alen hc.1 hc.2.1 (hc.K hG) hy.1.1 _ k he (x_ty hk.2) rfl hd (kk hG p e s m args below meth c H locs ls cells slots mc ms hc hy h1 h2)
/-- a store into an array -/
theorem Wk.ast {a kd pc' : Nat} {st' : List Value} {X' : Mem} (ha : (x_h X a).1 = kd) (hkd : 1 ≤ kd ∧ kd < 8) (hX : x_n X' = x_n X) (hXh : x_h X' = x_h X) (hXo : ∀ q, q ≠ a → x_i X' q = x_i X q ∧ x_l X' q = x_l X q ∧ x_r X' q = x_r X q)
    (h : ∀ {p : Program} {l : Launch} {e : Env} {R : Room} {s : State} {m : MethodId} {args : Array Value} {below : List Frame} {meth : Method} {c : Code} {H : Heap} {locs : List Loc} {cells slots : Nat} {Q : State → Prop} {ls : Array Slot}, p.tables.exec = Jvm.exec → c.code = md.2.1 → va_K (g_D G) cl (x_tys G) s → Rep G X H → H[a]? = some (vp_cell (g_k G kd) ((x_h X a).2, x_arr X a kd)) →
      (∀ (H1 : Heap) (k : Nat), H1[a]? = some (vp_cell (g_k G kd) ((x_h X a).2, x_arr X' a kd)) → H1.size = H.size → (∀ q, q ≠ a → H1[q]? = H[q]?) → W p l e R s m args below meth c H1 (locs ++ [⟨a, k⟩]) cells slots Q (F0 m pc' ls st')) → W p l e R s m args below meth c H locs cells slots Q (F0 m pc ls st))
    (k : Wk G d rc rs md pc' lv st' X' Q) : Wk G d rc rs md pc lv st X Q := by
  intro hG p e s m args below meth c H locs ls cells slots mc ms hc hy h1 h2
  have hR := hy.1.2.2.2 a (by rw [ha]; omega)
  have he := hy.1.at (by rw [ha]; omega)
  rw [x_ent_a ha (by omega)] at he
  have hset : (x_ws G X).set (a - g_b G) (a, .inl (g_k G kd, (x_h X a).2, x_arr X' a kd)) = x_ws G X' := by
    refine x_ws_set hR.1 hR.2 hX ?_ ?_
    · rw [x_ent_a (kd := kd) (by rw [hXh]; exact ha) (by omega), hXh]
    · intro q hq
      obtain ⟨e1, e2, e3⟩ := hXo q hq
      exact x_ent_same (by rw [hXh]) e1 e2 e3
  refine h hc.1 hc.2.1 (hc.K hG) hy.1 (hy.1.1 _ _ he) (fun H1 j e1 e2 e3 => ?_)
  have hP1 : va_P (g_D G) cl ((x_ws G X).set (a - g_b G) (a, .inl (g_k G kd, (x_h X a).2, x_arr X' a kd))) H1 := hy.1.1.set x_ws_D he e1 e3
  rw [hset] at hP1
  exact k hG p e s m args below meth c H1 _ ls cells slots mc ms hc ⟨⟨hP1, by rw [e2, hX]; exact hy.1.2.1, fun q hq => (e3 q (by have := hR.1; omega)).trans (hy.1.2.2.1 q hq), by rw [hXh, hX]; exact hy.1.2.2.2⟩, hy.2.1.put e2 e3 hR.1, hy.2.2⟩ h1 h2
theorem r_iast {a : Nat} {i x : Int32} (hd : decode md.2.1 pc = .ok (.iastore, 1)) (ha : (x_h X a).1 = 1) (hi : vp_in i (x_h X a).2) (kk : Wk G d rc rs md (pc + 1) lv st (x_si X a i.toNatClampNeg x) Q) : Wk G d rc rs md pc lv (.int x :: .int i :: .ref a :: st) X Q :=
  Wk.ast (X' := x_si X a i.toNatClampNeg x) ha ⟨by omega, by omega⟩ rfl rfl (fun q hq => ⟨up2_ne hq, rfl, rfl⟩) (fun hx hb hK hR hcell go => W.iast hx hb hcell ((hK.2 1 _ (x_ty (by omega))).1 _ (fun j => .int (x_i X a j))) (fun q => by cases q) (by show ¬ (i < 0 ∨ (arrV _ _ _).slots.size ≤ _); rw [arrV_size]; exact hi) rfl rfl hd (fun H1 e z oq => go H1 _ (by
    rw [e]
    show some ((vp_cell _ (_, .inl (x_i X a))).setSlot _ _) = some (vp_cell _ (_, .inl (up2 (x_i X) a i.toNatClampNeg x a)))
    rw [vp_cell_i, vp_cell_i, arrV_store, up2_row]
    congr 2
    funext q
    by_cases hq : q = i.toNatClampNeg
    · subst hq; simp [updV]
    · simp [updV, hq]) z oq)) kk
theorem r_last {a : Nat} {i : Int32} {x : Int64} (hd : decode md.2.1 pc = .ok (.lastore, 1)) (ha : (x_h X a).1 = 2) (hi : vp_in i (x_h X a).2) (kk : Wk G d rc rs md (pc + 1) lv st (x_sl X a i.toNatClampNeg x) Q) : Wk G d rc rs md pc lv (.long x :: .int i :: .ref a :: st) X Q :=
  Wk.ast (X' := x_sl X a i.toNatClampNeg x) ha ⟨by omega, by omega⟩ rfl rfl (fun q hq => ⟨rfl, up2_ne hq, rfl⟩) (fun hx hb hK hR hcell go => W.last hx hb hcell ((hK.2 2 _ (x_ty (by omega))).1 _ (fun j => .long (x_l X a j))) (fun q => by cases q) (by show ¬ (i < 0 ∨ (arrV _ _ _).slots.size ≤ _); rw [arrV_size]; exact hi) rfl rfl hd (fun H1 e z oq => go H1 _ (by
    rw [e]
    show some ((vp_cell _ (_, .inr (.inl (x_l X a)))).setSlot _ _) = some (vp_cell _ (_, .inr (.inl (up2 (x_l X) a i.toNatClampNeg x a))))
    rw [vp_cell_l, vp_cell_l, arrV_store, up2_row]
    congr 2
    funext q
    by_cases hq : q = i.toNatClampNeg
    · subst hq; simp [updV]
    · simp [updV, hq]) z oq)) kk
theorem r_zast {a : Nat} {i x : Int32} (hd : decode md.2.1 pc = .ok (.bastore, 1)) (hx : x = 0 ∨ x = 1) (ha : (x_h X a).1 = 3) (hi : vp_in i (x_h X a).2) (kk : Wk G d rc rs md (pc + 1) lv st (x_si X a i.toNatClampNeg x) Q) : Wk G d rc rs md pc lv (.int x :: .int i :: .ref a :: st) X Q :=
  Wk.ast (X' := x_si X a i.toNatClampNeg x) ha ⟨by omega, by omega⟩ rfl rfl (fun q hq => ⟨up2_ne hq, rfl, rfl⟩) (fun hxx hb hK hR hcell go => W.zast hxx hb hcell ((hK.2 3 _ (x_ty (by omega))).1 _ (fun j => .int (x_i X a j))) (fun q => by cases q) (by show ¬ (i < 0 ∨ (arrV _ _ _).slots.size ≤ _); rw [arrV_size]; exact hi) rfl rfl hd (fun H1 e z oq => go H1 _ (by
    rw [e]
    have hnx : narrow .boolean (.int x) = .int x := by rcases hx with rfl | rfl <;> rfl
    rw [hnx]
    show some ((vp_cell _ (_, .inl (x_i X a))).setSlot _ _) = some (vp_cell _ (_, .inl (up2 (x_i X) a i.toNatClampNeg x a)))
    rw [vp_cell_i, vp_cell_i, arrV_store, up2_row]
    congr 2
    funext q
    by_cases hq : q = i.toNatClampNeg
    · subst hq; simp [updV]
    · simp [updV, hq]) z oq)) kk
end Mems
