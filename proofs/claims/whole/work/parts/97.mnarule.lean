section MnaRule
variable {G : GG} {d rc rs : Nat} {md : MD} {pc : Nat} {lv : List (Option Value)} {st : List Value} {X : Mem} {Q : Option Value → Mem → Prop}
theorem r_mna {index : Nat} {n k : Nat} {i j : Int32} (hd : decode md.2.1 pc = .ok (.multianewarray index 2, 4)) (hl : Cond.classLink md.1.cls index "[[I" ∈ lw_tbl) (hn : ¬ i < 0) (hk : ¬ j < 0) (hN : i.toNatClampNeg = n) (hM : j.toNatClampNeg = k) (hb1 : n ≤ 100) (hb2 : k ≤ 1000) (hrc : 1 + n ≤ rc) (hrs : n + n * k ≤ rs)
    (kk : ∀ (a : Nat) (X2 : Mem), a = g_b G + x_n X → X2 = x_mna X a n k → Wk G d (rc - (1 + n)) (rs - (n + n * k)) md (pc + 4) lv (.ref a :: st) X2 Q) : Wk G d rc rs md pc lv (.int j :: .int i :: st) X Q := by
  intro hG p e s m args below meth c H locs ls cells slots mc ms hc hy h1 h2 T hT Xs
  subst hN
  subst hM
  have hK := hc.K hG
  have hsz : H.size = g_b G + x_n X := hy.1.2.1
  have hal : (g_s G).vm.Alike s.vm := hc.2.2.2.2.2.2.2.1.alike
  obtain ⟨comp, cA, kA, o1, -, o3, o4, o5⟩ := arrayOverA_spec (hG.1 _ ww_35)
  obtain ⟨kA', hkA', heA⟩ := hal.2.2 _ _ o3
  have fC : s.vm.findClass (FieldType.array .int).toString = some comp := by rw [hal.findClass]; exact o1
  have fA : s.vm.findClass ("[" ++ (FieldType.array .int).toString) = some cA := by rw [hal.findClass]; exact o5
  obtain ⟨vm₁, X', step⟩ := mna_step Xs hc.1 hc.2.2.2.2.2.1 (hc.word hG hl rfl) fC hkA' (by rw [heA]; exact o4) fA (hc.word hG ww_72 rfl) (g := F0 m pc ls (.int j :: .int i :: st)) rfl (by rw [hc.2.1]; exact hd) rfl hn hk hb1 hb2 (by show cells + (1 + i.toNatClampNeg) ≤ mc; omega) (by show slots + (i.toNatClampNeg + i.toNatClampNeg * j.toNatClampNeg) ≤ ms; omega)
  have ec : g_k G 1 = comp := Option.some.inj ((hK.2 1 _ (x_ty (by omega))).2.symm.trans fC)
  subst ec
  have eA : cA = g_k G 7 := Option.some.inj (fA.symm.trans (hK.2 7 _ (x_ty (by omega))).2)
  subst eA
  obtain ⟨f1, f2, -, -, hold, hrow⟩ := mF_facts (T.setVm vm₁) (g_k G 7) (g_k G 1) i.toNatClampNeg j.toNatClampNeg i.toNatClampNeg
  generalize mF (T.setVm vm₁) (g_k G 7) (g_k G 1) i.toNatClampNeg j.toNatClampNeg i.toNatClampNeg = F at X' step f1 f2 hold hrow
  have hTh : (T.setVm vm₁).heap = H := hT
  rw [hTh] at f1 f2 hold hrow
  generalize hX2 : x_mna X (g_b G + x_n X) i.toNatClampNeg j.toNatClampNeg = X2
  have hR : Rep G X2 F.heap := by
    refine ⟨fun q z hz => ?_, by rw [f1, ← hX2, hsz]; show _ = g_b G + (x_n X + 1 + _); omega, fun q hq => (hold q (by omega)).trans (hy.1.2.2.1 q hq), fun a ha => ?_⟩
    · obtain ⟨hlt, rfl⟩ := x_ws_get hz
      have hlt' : q < x_n X + 1 + i.toNatClampNeg := by rw [← hX2] at hlt; exact hlt
      by_cases h3 : q < x_n X
      · have hsame : x_ent (g_k G) X2 (g_b G + q) = x_ent (g_k G) X (g_b G + q) := by
          rw [← hX2]
          refine x_ent_same ?_ ?_ rfl ?_
          · show (if _ then _ else if _ then _ else _) = _
            rw [if_neg (by omega), if_neg (by omega)]; rfl
          · funext z
            show (if _ then _ else _) = _
            rw [if_neg (by omega)]; rfl
          · funext z
            show (if _ then _ else _) = _
            rw [if_neg (by omega)]; rfl
        rw [hsame]
        exact (hy.1.1 _ _ (x_ws_at (a := g_b G + q) (by omega) (by omega))).kept (hold _ (by show g_b G + q < _; omega))
      · by_cases h4 : q = x_n X
        · subst h4
          have hh : x_h X2 (g_b G + x_n X) = (7, i.toNatClampNeg) := by rw [← hX2]; exact if_pos rfl
          have hr : x_r X2 (g_b G + x_n X) = fun z => if z < i.toNatClampNeg then some (g_b G + x_n X + 1 + z) else none := by
            rw [← hX2]; funext z; exact if_pos rfl
          rw [x_ent_a (kd := 7) (by rw [hh]) (by omega), hh, x_arr_R (by omega), hr]
          rw [hsz] at f2
          show F.heap[g_b G + x_n X]? = some (vp_cell _ _)
          rw [f2, vp_cell_q]
          rfl
        · have hh : x_h X2 (g_b G + q) = (1, j.toNatClampNeg) := by
            rw [← hX2]
            show (if _ then _ else if _ then _ else _) = _
            rw [if_neg (by omega), if_pos (by omega)]
          have hi : x_i X2 (g_b G + q) = fun _ => 0 := by
            rw [← hX2]; funext z
            show (if _ then _ else _) = _
            rw [if_pos (by omega)]
          rw [x_ent_a (kd := 1) (by rw [hh]) (by omega), hh]
          show F.heap[g_b G + q]? = some (vp_cell _ (_, .inl (x_i X2 _)))
          rw [hi, vp_cell_i]
          have := hrow (q - x_n X - 1) (by omega)
          rw [hsz, show g_b G + x_n X + 1 + (q - x_n X - 1) = g_b G + q by omega] at this
          exact this
    · rw [← hX2] at ha ⊢
      show g_b G ≤ a ∧ a < g_b G + (x_n X + 1 + i.toNatClampNeg)
      by_cases h3 : a = g_b G + x_n X
      · omega
      · by_cases h4 : g_b G + x_n X < a ∧ a ≤ g_b G + x_n X + i.toNatClampNeg
        · omega
        · have : x_h (x_mna X (g_b G + x_n X) i.toNatClampNeg j.toNatClampNeg) a = x_h X a := by
            show (if _ then _ else if _ then _ else _) = _
            rw [if_neg h3, if_neg h4]; rfl
          rw [this] at ha
          have := hy.1.2.2.2 a ha
          omega
  obtain ⟨t, a1, b1⟩ := kk _ _ rfl hX2.symm hG p e s m args below meth c F.heap _ ls (cells + 1 + i.toNatClampNeg) (slots + i.toNatClampNeg + i.toNatClampNeg * j.toNatClampNeg) mc ms hc ⟨hR, ⟨by rw [f1]; have := hy.2.1.1; omega, fun x h1 h2 => (hold x (Nat.lt_of_lt_of_le h1 hy.2.1.1)).trans (hy.2.1.2.1 x h1 h2), fun z hz => by
      rcases List.mem_append.mp hz with h | h
      · exact hy.2.1.2.2 z h
      · obtain ⟨w, -, rfl⟩ := List.mem_map.mp h
        show g_b G ≤ T.heap.size
        rw [hT, hsz]; omega⟩, hy.2.2⟩ (by omega) (by omega) F rfl X'
  refine ⟨t, step t ?_, b1⟩
  have e9 : T.heap.size = g_b G + x_n X := by rw [hT]; exact hsz
  rw [e9]
  exact a1
end MnaRule
