section Allocs
variable {G : GG} {d rc rs : Nat} {md : MD} {pc : Nat} {lv : List (Option Value)} {st : List Value} {X : Mem} {Q : Option Value → Mem → Prop}
/-- a cell more -/
theorem Rep.grow {H H1 : Heap} {kd n : Nat} (h : Rep G X H) (hkd : kd ≠ 0) (hz : H1.size = H.size + 1) (ho : ∀ q, q < H.size → H1[q]? = H[q]?)
    (hat : va_at (g_D G) cl (g_b G + x_n X, x_ent (g_k G) (x_new X (g_b G + x_n X) kd n) (g_b G + x_n X)) H1) : Rep G (x_new X (g_b G + x_n X) kd n) H1 := by
  have hsame : ∀ q, q ≠ g_b G + x_n X → x_ent (g_k G) (x_new X (g_b G + x_n X) kd n) q = x_ent (g_k G) X q := fun q hq =>
    x_ent_same (if_neg hq) (funext fun _ => if_neg hq) (funext fun _ => if_neg hq) (funext fun _ => if_neg hq)
  refine ⟨fun k q hk => ?_, by rw [hz, h.2.1]; show _ = g_b G + (x_n X + 1); omega, fun q hq => (ho q (by rw [h.2.1]; omega)).trans (h.2.2.1 q hq), fun a ha => ?_⟩
  · obtain ⟨hlt, rfl⟩ := x_ws_get hk
    by_cases hk2 : k = x_n X
    · subst hk2; exact hat
    · have hlt2 : k < x_n X := by have : k < x_n X + 1 := hlt; omega
      rw [hsame _ (by omega)]
      exact (h.1 _ _ (x_ws_at (a := g_b G + k) (by omega) (by omega))).kept (ho _ (by rw [h.2.1]; show g_b G + k < _; omega))
  · show g_b G ≤ a ∧ a < g_b G + (x_n X + 1)
    by_cases e : a = g_b G + x_n X
    · omega
    · have : x_h (x_new X (g_b G + x_n X) kd n) a = x_h X a := if_neg e
      rw [this] at ha
      have := h.2.2.2 a ha
      omega
def gty (t : FieldType) : Bool := match t with
  | .int => true
  | .long => true
  | .boolean => true
  | .object _ => true
  | .array _ => true
  | _ => false
theorem gty_def {t : FieldType} (h : gty t = true) {a j : Nat} (h1 : x_i X a j = 0) (h2 : x_l X a j = 0) (h3 : x_r X a j = none) : defaultValue t = valt X a j t := by
  cases t <;> first | exact absurd h (by decide) | (simp only [valt, h1, h2, h3]; rfl)
theorem fty_ok : ∀ ci, ci < 13 → ∀ j, j < fnum ci → gty (fty ci j) = true := by decide +kernel
theorem x_new_i {a kd n k : Nat} : x_i (x_new X a kd n) a k = 0 := if_pos rfl
theorem x_new_l {a kd n k : Nat} : x_l (x_new X a kd n) a k = 0 := if_pos rfl
theorem x_new_r {a kd n k : Nat} : x_r (x_new X a kd n) a k = none := if_pos rfl
theorem x_new_h {a kd n : Nat} : x_h (x_new X a kd n) a = (kd, n) := if_pos rfl
theorem r_new {index ci : Nat} {q : vw_C} (hd : decode md.2.1 pc = .ok (.new index, 3)) (hq : cl[ci]? = some q) (hl : Cond.classLink md.1.cls index q.1 ∈ lw_tbl) (hi : Cond.instantiable q.1 q.2.2 ∈ lw_tbl) (hini : Cond.initialized q.1 ∈ lw_tbl) (hrc : 1 ≤ rc) (hrs : q.2.2 ≤ rs)
    (kk : Wk G d (rc - 1) (rs - q.2.2) md (pc + 3) lv (.ref (g_b G + x_n X) :: st) (x_new X (g_b G + x_n X) (16 + ci) 0) Q) : Wk G d rc rs md pc lv st X Q := by
  intro hG p e s m args below meth c H locs ls cells slots mc ms hc hy h1 h2
  obtain ⟨C, T, N⟩ := q
  have hK := hc.K hG
  have hKn := hK.1 ci _ hq
  have hts : ∀ w ∈ lw_tbl.filter goodWord, w.before args s = true := hc.hts hG
  refine W.newcK hc.1 hc.2.1 hc.2.2.2.2.2.1 (hc.word hG hl rfl) (hc.word hG hi rfl) (hc.word hG hini rfl) rfl hd (by show cells + 1 ≤ mc; omega) (by show slots + N ≤ ms; simp only at hrs; omega) hKn.2.1 hy.1.2.1 fun H1 kC hkC e1 z1 o1 => ?_
  have hX : x_ent (g_k G) (x_new X (g_b G + x_n X) (16 + ci) 0) (g_b G + x_n X) = .inr (ci, x_fs (x_new X (g_b G + x_n X) (16 + ci) 0) (g_b G + x_n X) ci) := x_ent_o (by rw [x_new_h])
  have hci := cl_some hq
  have hN : N = fnum ci := cl_num hq
  refine kk hG p e s m args below meth c H1 locs ls (cells + 1) (slots + N) mc ms hc ⟨hy.1.grow (by omega) (by rw [z1, hy.1.2.1]) (fun q hq => o1 q (by rw [← hy.1.2.1]; exact hq)) ?_, ⟨Nat.le_trans hy.2.1.1 (by rw [z1, hy.1.2.1]; omega), fun x h1 h2 => (o1 x (by have := hy.2.1.1; have := hy.1.2.1; omega)).trans (hy.2.1.2.1 x h1 h2), hy.2.1.2.2⟩, hy.2.2⟩ (by omega) (by simp only at hrs ⊢; omega)
  rw [hX]
  refine ⟨_, hq, (u_born (fty ci) hts (cl_inG hq) hKn hkC e1 (cl_ty hq)).to (fun j hj => ?_)⟩
  have hj' : j < fnum ci := by rw [← hN]; exact hj
  show defaultValue (fty ci j) = (x_fs _ _ ci).getD j .null
  rw [List.getD_eq_getElem?_getD, x_fs_at hj']
  exact gty_def (fty_ok ci hci j hj') x_new_i x_new_l x_new_r
/-- an array made: of a kind whose class is known -/
theorem Wk.newarr {kd n pc' : Nat} {st0 : List Value} (hkd : 1 ≤ kd ∧ kd < 8) (hrc : 1 ≤ rc) (hrs : n ≤ rs) (dv : Value) (hdv : ∀ X' : Mem, (∀ j, x_i X' (g_b G + x_n X) j = 0) → (∀ j, x_l X' (g_b G + x_n X) j = 0) → (∀ j, x_r X' (g_b G + x_n X) j = none) → ∀ cA, vp_cell cA (n, x_arr X' (g_b G + x_n X) kd) = arrV cA n (fun _ => dv))
    (h : ∀ {p : Program} {e : Env} {s : State} {m : MethodId} {args : Array Value} {below : List Frame} {meth : Method} {c : Code} {H : Heap} {locs : List Loc} {cells slots mc ms : Nat} {Q : State → Prop} {ls : Array Slot}, GOK G → Cx G md p s m meth c → va_K (g_D G) cl (x_tys G) s → H.size = g_b G + x_n X → cells + 1 ≤ mc → slots + n ≤ ms →
      (∀ H1 : Heap, H1[g_b G + x_n X]? = some (arrV (g_k G kd) n (fun _ => dv)) → H1.size = H.size + 1 → (∀ q, q < H.size → H1[q]? = H[q]?) → W p (g_l G) e (rmD d mc ms) s m args below meth c H1 locs (cells + 1) (slots + n) Q (F0 m pc' ls (.ref (g_b G + x_n X) :: st))) → W p (g_l G) e (rmD d mc ms) s m args below meth c H locs cells slots Q (F0 m pc ls st0))
    (k : Wk G d (rc - 1) (rs - n) md pc' lv (.ref (g_b G + x_n X) :: st) (x_new X (g_b G + x_n X) kd n) Q) : Wk G d rc rs md pc lv st0 X Q := by
  intro hG p e s m args below meth c H locs ls cells slots mc ms hc hy h1 h2
  refine h hG hc (hc.K hG) hy.1.2.1 (by omega) (by omega) (fun H1 e1 z1 o1 => ?_)
  refine k hG p e s m args below meth c H1 locs ls (cells + 1) (slots + n) mc ms hc ⟨hy.1.grow (by omega) z1 o1 ?_, ⟨Nat.le_trans hy.2.1.1 (by rw [z1]; omega), fun x h1 h2 => (o1 x (by have := hy.2.1.1; omega)).trans (hy.2.1.2.1 x h1 h2), hy.2.1.2.2⟩, hy.2.2⟩ (by omega) (by omega)
  have hX : x_ent (g_k G) (x_new X (g_b G + x_n X) kd n) (g_b G + x_n X) = .inl (g_k G kd, n, x_arr (x_new X (g_b G + x_n X) kd n) (g_b G + x_n X) kd) := by
    rw [x_ent_a (kd := kd) (by rw [x_new_h]) (by omega), x_new_h]
  rw [hX]
  show H1[_]? = some (vp_cell _ _)
  rw [hdv _ (fun j => x_new_i) (fun j => x_new_l) (fun j => x_new_r)]
  exact e1
theorem r_newI {n : Nat} {i : Int32} (hd : decode md.2.1 pc = .ok (.newarray .int, 2)) (hi : ¬ i < 0) (hn : i.toNatClampNeg = n) (hb : n ≤ 1000000) (hrc : 1 ≤ rc) (hrs : n ≤ rs) (hw : Cond.arrayClass .int ∈ lw_tbl) (kk : Wk G d (rc - 1) (rs - n) md (pc + 2) lv (.ref (g_b G + x_n X) :: st) (x_new X (g_b G + x_n X) 1 n) Q) : Wk G d rc rs md pc lv (.int i :: st) X Q :=
  Wk.newarr ⟨by omega, by omega⟩ hrc hrs (.int 0) (fun X' h1 _ _ cA => by show vp_cell cA (n, .inl (x_i X' _)) = _; rw [vp_cell_i]; simp only [h1]) (fun hG hc hK hsz h1 h2 go => va_newaK hc.1 hc.2.1 (atype := .int) (hc.word hG hw rfl) rfl hd rfl hi hn (by show n * 4 ≤ _; omega) h1 h2 hsz (fun H' cA e1 z1 o1 hA hN => go H' (by
    have h3 := (hK.2 1 _ (x_ty (by omega))).2
    have h4 : cA = g_k G 1 := Option.some.inj (hN.symm.trans h3)
    rw [← h4]; exact e1) (by rw [z1, hsz]) (fun q hq => o1 q (by rw [← hsz]; exact hq)))) kk
theorem r_newJ {n : Nat} {i : Int32} (hd : decode md.2.1 pc = .ok (.newarray .long, 2)) (hi : ¬ i < 0) (hn : i.toNatClampNeg = n) (hb : n ≤ 1000000) (hrc : 1 ≤ rc) (hrs : n ≤ rs) (hw : Cond.arrayClass .long ∈ lw_tbl) (kk : Wk G d (rc - 1) (rs - n) md (pc + 2) lv (.ref (g_b G + x_n X) :: st) (x_new X (g_b G + x_n X) 2 n) Q) : Wk G d rc rs md pc lv (.int i :: st) X Q :=
  Wk.newarr ⟨by omega, by omega⟩ hrc hrs (.long 0) (fun X' _ h1 _ cA => by show vp_cell cA (n, .inr (.inl (x_l X' _))) = _; rw [vp_cell_l]; simp only [h1]) (fun hG hc hK hsz h1 h2 go => va_newaK hc.1 hc.2.1 (atype := .long) (hc.word hG hw rfl) rfl hd rfl hi hn (by show n * 8 ≤ _; omega) h1 h2 hsz (fun H' cA e1 z1 o1 hA hN => go H' (by
    have h3 := (hK.2 2 _ (x_ty (by omega))).2
    have h4 : cA = g_k G 2 := Option.some.inj (hN.symm.trans h3)
    rw [← h4]; exact e1) (by rw [z1, hsz]) (fun q hq => o1 q (by rw [← hsz]; exact hq)))) kk
theorem r_newZ {n : Nat} {i : Int32} (hd : decode md.2.1 pc = .ok (.newarray .boolean, 2)) (hi : ¬ i < 0) (hn : i.toNatClampNeg = n) (hb : n ≤ 1000000) (hrc : 1 ≤ rc) (hrs : n ≤ rs) (hw : Cond.arrayClass .boolean ∈ lw_tbl) (kk : Wk G d (rc - 1) (rs - n) md (pc + 2) lv (.ref (g_b G + x_n X) :: st) (x_new X (g_b G + x_n X) 3 n) Q) : Wk G d rc rs md pc lv (.int i :: st) X Q :=
  Wk.newarr ⟨by omega, by omega⟩ hrc hrs (.int 0) (fun X' h1 _ _ cA => by show vp_cell cA (n, .inl (x_i X' _)) = _; rw [vp_cell_i]; simp only [h1]) (fun hG hc hK hsz h1 h2 go => va_newaK hc.1 hc.2.1 (atype := .boolean) (hc.word hG hw rfl) rfl hd rfl hi hn (by show n * 1 ≤ _; omega) h1 h2 hsz (fun H' cA e1 z1 o1 hA hN => go H' (by
    have h3 := (hK.2 3 _ (x_ty (by omega))).2
    have h4 : cA = g_k G 3 := Option.some.inj (hN.symm.trans h3)
    rw [← h4]; exact e1) (by rw [z1, hsz]) (fun q hq => o1 q (by rw [← hsz]; exact hq)))) kk
theorem Cx.over {p : Program} {s : State} {m : MethodId} {meth : Method} {c : Code} (hc : Cx G md p s m meth c) (hG : GOK G) {C : String} (hw : Cond.arrayOver (.object C) ∈ lw_tbl) : va_AO C s := va_AO.moved hc.2.2.2.2.2.2.2.1.alike (va_AO.of (hG.1 _ hw))
theorem r_newR {n kd index : Nat} {C : String} {i : Int32} (hd : decode md.2.1 pc = .ok (.anewarray index, 3)) (hkd : 4 ≤ kd ∧ kd < 7) (hC : kty kd = .object C) (hl : Cond.classLink md.1.cls index C ∈ lw_tbl) (ho : Cond.arrayOver (.object C) ∈ lw_tbl) (hi : ¬ i < 0) (hn : i.toNatClampNeg = n) (hb : n ≤ 1000000) (hrc : 1 ≤ rc) (hrs : n ≤ rs) (kk : Wk G d (rc - 1) (rs - n) md (pc + 3) lv (.ref (g_b G + x_n X) :: st) (x_new X (g_b G + x_n X) kd n) Q) : Wk G d rc rs md pc lv (.int i :: st) X Q :=
  Wk.newarr ⟨by omega, by omega⟩ hrc hrs .null (fun X' _ _ h1 cA => by rw [x_arr_R hkd.1, vp_cell_q]; simp only [h1]; rfl) (fun {p e s m args below meth c H locs cells slots mc ms Q ls} hG hc hK hsz h1 h2 go => W.anew hc.1 hc.2.1 hc.2.2.2.2.2.1 (hc.word hG hl rfl) (va_AO.use (hc.over hG ho)) rfl hd rfl hi (by rw [hn]; omega) h1 (by rw [hn]; exact h2) (fun cA kA comp f1 f2 f3 f4 => by
    have h3 := (hK.2 kd _ (x_ty (by omega))).2
    rw [hC] at h3
    obtain ⟨kA', comp', g1, g2, g3, g4⟩ := h3
    have h4 : cA = g_k G kd := Option.some.inj (f1.symm.trans g4)
    rw [hn, hsz]
    refine go _ ?_ (by rw [Array.size_push]) (fun q hq => by rw [Array.getElem?_push, if_neg (Nat.ne_of_lt hq)])
    rw [← hsz, Array.getElem?_push_size, h4, ← arrV_new])) kk
end Allocs
