/-! ===== the reference: machine, grown, ring, with their heads ===== -/
section RRowsHead
variable {G : GG} {M M' : Mem} {e m b : Nat} {S S' : Sg} {R K : Nat → Mc} {Q : Option Value → Mem → Prop}
theorem NewR.pre {M2 : Mem} {rc kd : Nat} {mc : Mc} (h : NewR M2 M' m rc kd b mc) (o : ∀ k, k ≠ 0 → k ≤ 4 → x_i M2 (m + k) = x_i M (m + k)) : NewR M M' m rc kd b mc := by
  obtain ⟨n1, n2, n3, n4, n5, n6⟩ := h
  refine ⟨n1, n2, n3, fun r hr => by rw [n4 r hr, o 1 (by omega) (by omega)], n5, fun r mc' hr h60 hR => n6 r mc' hr h60 ?_⟩
  unfold ReR at hR ⊢
  rw [o 2 (by omega) (by omega), o 3 (by omega) (by omega), o 4 (by omega) (by omega)]
  exact hR
/-- a row is added behind the checks: from the memory with the fields 25 and 26 -/
theorem addM_of {v w : Int32} {kd : Nat} {mc : Mc} (hkd : kd ≠ 4) (f : FrM (x_si (x_si M m 25 v) m 26 w) M' m [1, 22, 29] [1, 2, 3, 4, 20, 21, 22, 23, 24, 25, 26]) (n : NewR (x_si (x_si M m 25 v) m 26 w) M' m (y_rc S) kd (y_b S) mc) : AddM M M' m S kd (-1) mc := by
  have f0 : FrM M (x_si (x_si M m 25 v) m 26 w) m [25, 26] [] := (FrM.rf.sm (by decide)).sm (by decide)
  have o : ∀ k, k ≠ 0 → x_i (x_si (x_si M m 25 v) m 26 w) (m + k) = x_i M (m + k) := fun k hk => f0.i hk (by simp)
  refine ⟨(f0.wk (by decide) (by decide)).tr f (by decide) (by decide), n.pre (fun k h1 _ => o k h1), fun z => absurd z hkd, fun r _ => ?_⟩
  rw [f.i (by omega) (by decide), o 5 (by omega)]
theorem ur_machine (d : Nat) (hS : ReS M m) (hW : SgW S) (hB : ReB M m S) (hH : ReH M m S) {a l s n : Int32} (hQ0 : ∀ c, rfL (maL S a l s n) c → Q (some (.int (-1))) (x_si M m 22 c))
    (hQ1 : rfG (maL S a l s n) → ∀ M1 mc, AddM M M1 m S 0 (-1) mc → m_n mc ≤ 60 → mcan (y_b S) mc (maB S (iN a) (iN l) (iN n)) → Q (some (.int (nI (y_rc S)))) M1) : Call G (d + 5) 0 0 mX12_machine [.ref m, .int a, .int l, .int s, .int n] M Q := by
  have hb := hW.1
  have hrc := hW.2.2.2.2.1
  obtain ⟨g0, g1, g7, g18, g22, g24⟩ := id hB
  have refuse : ∀ c, rfL (maL S a l s n) c → Call G (d + 4) 0 0 mX12_refused [.ref m, .int c] M (fun r6 M7 => ∃ v8 : Int32, r6 = some (.int v8) ∧ Q (some (.int v8)) M7) := fun c h => u_refused (d + 3) hS ⟨_, rfl, hQ0 c h⟩
  have bad : ¬ (iW a 6 ∧ iW l 6 ∧ iW s 3 ∧ 1 ≤ n.toInt ∧ n.toInt ≤ 8) → Call G (d + 4) 0 0 mX12_refused [.ref m, .int 1] M (fun r6 M7 => ∃ v8 : Int32, r6 = some (.int v8) ∧ Q (some (.int v8)) M7) := fun h => refuse 1 (Or.inl ⟨h, rfl⟩)
  refine eX12_machine m _ _ _ _ (ur_in0 (n := 6) (d + 3) (by omega) (fun h => ⟨0, rfl, fun _ => ⟨hS.1, bad (fun z => iW.not h (by omega) z.1)⟩, fun z => absurd rfl z⟩) (fun a' ha ea => ⟨1, rfl, fun z => absurd z (by decide), fun _ => ?_⟩))
  refine ur_in0 (n := 6) (d + 3) (by omega) (fun h => ⟨0, rfl, fun _ => ⟨hS.1, bad (fun z => iW.not h (by omega) z.2.1)⟩, fun z => absurd rfl z⟩) (fun l' hl el => ⟨1, rfl, fun z => absurd z (by decide), fun _ => ?_⟩)
  refine ur_in0 (n := 3) (d + 3) (by omega) (fun h => ⟨0, rfl, fun _ => ⟨hS.1, bad (fun z => iW.not h (by omega) z.2.2.1)⟩, fun z => absurd rfl z⟩) (fun s' hs es => ⟨1, rfl, fun z => absurd z (by decide), fun _ => ?_⟩)
  refine u_inI (d + 3) (x := n) (y := 1) (z := 8) (by omega) (by omega) (by omega) (by omega) ?_
  by_cases cn : (1 : Int) ≤ n.toInt ∧ n.toInt ≤ 8
  case neg =>
    rw [if_neg cn]
    exact ⟨0, rfl, fun z => absurd rfl z, fun _ => ⟨hS.1, bad (fun z => cn z.2.2.2)⟩⟩
  rw [if_pos cn]
  obtain ⟨n', hn1, hn8, en⟩ := n_rng (n := n) (t := 8) (by omega) (by omega) (by omega)
  have A1 : iW a 6 ∧ iW l 6 ∧ iW s 3 ∧ 1 ≤ n.toInt ∧ n.toInt ≤ 8 := ⟨by rw [ea]; exact iW_nI ha (by omega), by rw [el]; exact iW_nI hl (by omega), by rw [es]; exact iW_nI hs (by omega), cn⟩
  have ia : iN a = a' := by rw [ea]; exact iN_nI (by omega)
  have il : iN l = l' := by rw [el]; exact iN_nI (by omega)
  have ii : iN n = n' := by rw [en]; exact iN_nI (by omega)
  have rT : ∀ c, rfL (maT S a' l' s n') c → Call G (d + 4) 0 0 mX12_refused [.ref m, .int c] M (fun r6 M7 => ∃ v8 : Int32, r6 = some (.int v8) ∧ Q (some (.int v8)) M7) := fun c h => refuse c (Or.inr ⟨A1, by rw [ia, il, ii]; exact h⟩)
  have gT : rfG (maT S a' l' s n') → ∀ M1 mc, AddM M M1 m S 0 (-1) mc → m_n mc ≤ 60 → mcan (y_b S) mc (maB S a' l' n') → Q (some (.int (nI (y_rc S)))) M1 := fun h => by
    have := hQ1 ⟨A1, by rw [ia, il, ii]; exact h⟩
    rw [ia, il, ii] at this
    exact this
  clear hQ0 hQ1 bad refuse A1 ia il ii cn
  subst ea el en
  refine ⟨1, rfl, fun _ => ⟨hS.1, ?_⟩, fun z => absurd z (by decide)⟩
  have nb : n' * y_b S ≤ 24 := by
    have : n' * y_b S ≤ 8 * 3 := Nat.mul_le_mul hn8 (by omega)
    omega
  obtain ⟨za1, za2, za3, za4⟩ := hW.2.2.2.1 a' ha
  obtain ⟨zl1, zl2, zl3, zl4⟩ := hW.2.2.2.1 l' hl
  obtain ⟨ha1, ha2, ha3⟩ := hH a' ha
  obtain ⟨hl1, hl2, hl3⟩ := hH l' hl
  have enb : nI n' * nI (y_b S) = nI (n' * y_b S) := s_mul _ _
  rw [g1, show (10 : Int32) = nI 10 from rfl, nI_eq (by omega) (by omega)]
  refine ⟨fun cr' => ?_, fun cr => rT 2 (Or.inl ⟨by omega, rfl⟩)⟩
  have cr : y_rc S < 10 := by omega
  refine ur_isOther (d + 3) hS ha ⟨_, rfl, ?_⟩
  rw [ha1]
  by_cases o1 : y_so S a' = -1 ∨ y_so S a' = s
  case neg =>
    rw [if_neg o1]
    exact ⟨fun _ => ⟨hS.1, rT 11 (Or.inr ⟨cr, Or.inl ⟨fun z => o1 z.1, rfl⟩⟩)⟩, fun z => absurd z (by decide)⟩
  rw [if_pos o1]
  refine ⟨fun z => absurd rfl z, fun _ => ⟨hS.1, ur_isOther (d + 3) hS hl ⟨_, rfl, ?_⟩⟩⟩
  rw [hl1]
  by_cases o2 : y_so S l' = -1 ∨ y_so S l' = s
  case neg =>
    rw [if_neg o2]
    exact ⟨fun z => absurd z (by decide), fun _ => ⟨hS.1, rT 11 (Or.inr ⟨cr, Or.inl ⟨fun z => o2 z.2, rfl⟩⟩)⟩⟩
  rw [if_pos o2]
  have fin : (y_so S a' = -1 ∨ n' * y_b S ≤ y_sz S a') → (y_so S l' = -1 ∨ n' ≤ y_sz S l') → (∀ t, t < n' * y_b S → maF S a' t < n') → (∀ t, t < n' → maF S l' t < 8) → ∀ x5 x6 : Int32, (x5 = 0 ↔ y_so S a' = -1) → (x6 = 0 ↔ y_so S l' = -1) → ∀ v, v = nI n' + 1 → ∀ w, w = nI (y_b S) → LX12_machine_230 G (d + 4) 0 0 m (nI a') (nI l') s (nI n') x5 x6 0 none none none (x_si (x_si M m 25 v) m 26 w) Q := by
    intro t1 t2 h1 h2 x5 x6 p5 p6 v ev w ew
    subst ev ew
    rw [nI_1]
    refine ur_bMachine d (b := y_b S) (sf := maF S a') (lf := maF S l') (show ReS (x_si (x_si M m 25 (nI (n' + 1))) m 26 (nI (y_b S))) m from hS.eq rfl rfl) (by omega) (by omega) (by rw [xi_nk (by omega), xi_nk (by omega)]; exact g0) (by omega) hn8 ha hl ?_ h1 ?_ h2 (by rw [xi_nk (by omega), xi_eq]) xi_eq (by rw [xi_nk (by omega), xi_nk (by omega)]; exact g1) cr (fun M1 mc f hc h60 hN => gT ⟨cr, ⟨o1, o2⟩, ⟨t1, t2⟩, ⟨h1, h2⟩, trivial⟩ M1 mc (addM_of (by omega) f hN) h60 hc)
    · by_cases c : x5 = 0
      · refine Or.inl ⟨c, fun t => ?_⟩
        unfold maF
        rw [if_pos (p5.mp c)]
      · refine Or.inr ⟨c, fun t ht => ?_⟩
        unfold maF
        rw [if_neg (fun z => c (p5.mpr z)), xi_na (by omega), xi_na (by omega)]
        exact ha3 t (by omega)
    · by_cases c : x6 = 0
      · refine Or.inl ⟨c, fun t => ?_⟩
        unfold maF
        rw [if_pos (p6.mp c)]
      · refine Or.inr ⟨c, fun t ht => ?_⟩
        unfold maF
        rw [if_neg (fun z => c (p6.mpr z)), xi_na (by omega), xi_na (by omega)]
        exact hl3 t (by omega)
  have H187 : (y_so S a' = -1 ∨ n' * y_b S ≤ y_sz S a') → (y_so S l' = -1 ∨ n' ≤ y_sz S l') → (∀ t, t < n' * y_b S → maF S a' t < n') → ∀ x5 x6 : Int32, (x5 = 0 ↔ y_so S a' = -1) → (x6 = 0 ↔ y_so S l' = -1) → LX12_machine_187 G (d + 4) 0 0 m (nI a') (nI l') s (nI n') x5 x6 M Q := by
    intro t1 t2 h1 x5 x6 p5 p6
    refine vX12_machine_187 _ _ _ _ _ _ _ ⟨fun c => ⟨hS.1, ?_⟩, fun c => ⟨hS.1, ?_⟩⟩
    · rintro M3 rfl M4 rfl
      refine fin t1 t2 h1 (fun t ht => ?_) x5 x6 p5 p6 _ rfl _ (by rw [xi_nk (by omega)]; exact g0)
      unfold maF
      rw [if_pos (p6.mp c)]
      omega
    · have nm1 : ¬ y_so S l' = -1 := fun z => c (p6.mpr z)
      have el : ∀ t, maF S l' t = y_cf S l' t := fun t => by unfold maF; rw [if_neg nm1]
      show Call G (d + 4) 0 0 mX12_isAbove [.ref m, .int (nI l'), .int 0, .int (nI n'), .int (nI 7)] M _
      refine ur_isAbove (d + 3) hS hl (by omega) (by omega) (cf := y_cf S l') (fun i hi => ⟨hl3 i hi, by have := zl4 i hi; omega⟩) (fun h => ⟨1, rfl, fun z => absurd z (by decide), fun _ => ⟨hS.1, rT 3 (Or.inr ⟨cr, Or.inr ⟨⟨o1, o2⟩, Or.inr ⟨⟨t1, t2⟩, Or.inl ⟨fun z => ?_, rfl⟩⟩⟩⟩)⟩⟩) (fun h => ⟨0, rfl, fun _ => ⟨hS.1, ?_⟩, fun z => absurd rfl z⟩)
      · obtain ⟨i, hi, ci⟩ := h
        have := z.2 i hi
        rw [el] at this
        omega
      · rintro M3 rfl M4 rfl
        exact fin t1 t2 h1 (fun t ht => by rw [el]; have := h t ht; omega) x5 x6 p5 p6 _ rfl _ (by rw [xi_nk (by omega)]; exact g0)
  have above : (y_so S a' = -1 ∨ n' * y_b S ≤ y_sz S a') → (y_so S l' = -1 ∨ n' ≤ y_sz S l') → ∀ x5 x6 : Int32, (x5 = 0 ↔ y_so S a' = -1) → (x6 = 0 ↔ y_so S l' = -1) → ¬ x5 = 0 → Call G (d + 4) 0 0 mX12_isAbove [.ref m, .int (nI a'), .int 0, .int (nI n' * x_i M m 0), .int (nI n' - 1)] M (fun r4 M5 => ∃ v6 : Int32, r4 = some (.int v6) ∧ (¬ v6 = 0 → (x_h M5 m).1 = 28 ∧ Call G (d + 4) 0 0 mX12_refused [.ref m, .int 3] M5 (fun r9 M10 => ∃ v11 : Int32, r9 = some (.int v11) ∧ Q (some (.int v11)) M10)) ∧ (v6 = 0 → LX12_machine_187 G (d + 4) 0 0 m (nI a') (nI l') s (nI n') x5 x6 M5 Q)) := by
    intro t1 t2 x5 x6 p5 p6 c
    have nm1 : ¬ y_so S a' = -1 := fun z => c (p5.mpr z)
    have el : ∀ t, maF S a' t = y_cf S a' t := fun t => by unfold maF; rw [if_neg nm1]
    rw [g0, enb, nI_prd0 (by omega)]
    refine ur_isAbove (d + 3) hS ha (by omega) (by omega) (cf := y_cf S a') (fun i hi => ⟨ha3 i hi, by have := za4 i hi; omega⟩) (fun h => ⟨1, rfl, fun _ => ⟨hS.1, rT 3 (Or.inr ⟨cr, Or.inr ⟨⟨o1, o2⟩, Or.inr ⟨⟨t1, t2⟩, Or.inl ⟨fun z => ?_, rfl⟩⟩⟩⟩)⟩, fun z => absurd z (by decide)⟩) (fun h => ⟨0, rfl, fun z => absurd rfl z, fun _ => H187 t1 t2 (fun t ht => by rw [el]; have := h t ht; omega) x5 x6 p5 p6⟩)
    obtain ⟨i, hi, ci⟩ := h
    have := z.1 i hi
    rw [el] at this
    omega
  have low : ∀ x5 : Int32, (x5 = 0 ↔ y_so S a' = -1) → x5 = 0 → ∀ t, t < n' * y_b S → maF S a' t < n' := fun x5 p5 c t ht => by
    unfold maF
    rw [if_pos (p5.mp c)]
    omega
  have H139 : (y_so S a' = -1 ∨ n' * y_b S ≤ y_sz S a') → ∀ x5 x6 : Int32, (x5 = 0 ↔ y_so S a' = -1) → (x6 = 0 ↔ y_so S l' = -1) → LX12_machine_139 G (d + 4) 0 0 m (nI a') (nI l') s (nI n') x5 x6 M Q := by
    intro t1 x5 x6 p5 p6
    refine vX12_machine_139 _ _ _ _ _ _ _ ⟨fun c => ⟨fun c5 => H187 t1 (Or.inl (p6.mp c)) (low x5 p5 c5) x5 x6 p5 p6, fun c5 => ⟨hS.1, above t1 (Or.inl (p6.mp c)) x5 x6 p5 p6 c5⟩⟩, fun c => ⟨hS.1, m + 17, hS.r17, by rw [hS.h17], by rw [hS.h17]; exact vp_in_nI hl (by omega), ?_⟩⟩
    have nm1 : ¬ y_so S l' = -1 := fun z => c (p6.mpr z)
    rw [nI_clamp (by omega), hl2, nI_leI (by omega) (by omega)]
    refine ⟨fun t2 => ⟨fun c5 => H187 t1 (Or.inr t2) (low x5 p5 c5) x5 x6 p5 p6, fun c5 => above t1 (Or.inr t2) x5 x6 p5 p6 c5⟩, fun t2 => rT 12 (Or.inr ⟨cr, Or.inr ⟨⟨o1, o2⟩, Or.inl ⟨fun z => ?_, rfl⟩⟩⟩)⟩
    rcases z.2 with z | z
    · exact nm1 z
    · exact t2 z
  have H99 : ∀ x5 : Int32, (x5 = 0 ↔ y_so S a' = -1) → LX12_machine_99 G (d + 4) 0 0 m (nI a') (nI l') s (nI n') x5 M Q := by
    intro x5 p5
    have next : ∀ x6 : Int32, (x6 = 0 ↔ y_so S l' = -1) → (x5 = 0 → LX12_machine_139 G (d + 4) 0 0 m (nI a') (nI l') s (nI n') x5 x6 M Q) ∧ (¬ x5 = 0 → ∃ b7, x_r M m 20 = some b7 ∧ (x_h M b7).1 = 1 ∧ vp_in (nI a') (x_h M b7).2 ∧ (x_i M b7 (nI a').toNatClampNeg < nI n' * x_i M m 0 → Call G (d + 4) 0 0 mX12_refused [.ref m, .int 12] M (fun r11 M12 => ∃ v13 : Int32, r11 = some (.int v13) ∧ Q (some (.int v13)) M12)) ∧ (¬ x_i M b7 (nI a').toNatClampNeg < nI n' * x_i M m 0 → LX12_machine_139 G (d + 4) 0 0 m (nI a') (nI l') s (nI n') x5 x6 M Q)) := by
      intro x6 p6
      refine ⟨fun c => H139 (Or.inl (p5.mp c)) x5 x6 p5 p6, fun c => ⟨m + 17, hS.r17, by rw [hS.h17], by rw [hS.h17]; exact vp_in_nI ha (by omega), ?_⟩⟩
      have nm1 : ¬ y_so S a' = -1 := fun z => c (p5.mpr z)
      rw [nI_clamp (by omega), ha2, g0, enb, nI_ltI (by omega) (by omega)]
      refine ⟨fun t1 => rT 12 (Or.inr ⟨cr, Or.inr ⟨⟨o1, o2⟩, Or.inl ⟨fun z => ?_, rfl⟩⟩⟩), fun t1 => H139 (Or.inr (by omega)) x5 x6 p5 p6⟩
      rcases z.1 with z | z
      · exact nm1 z
      · omega
    refine vX12_machine_99 _ _ _ _ _ _ ⟨hS.1, m + 16, hS.r16, by rw [hS.h16], by rw [hS.h16]; exact vp_in_nI hl (by omega), ?_⟩
    have n0 := next 0
    have n1 := next 1
    generalize nI a' = A at n0 n1 ⊢
    rw [nI_clamp (by omega), hl1]
    exact ⟨fun c => n0 ⟨fun _ => c, fun _ => rfl⟩, fun c => n1 ⟨fun z => absurd z (by decide), fun z => absurd z c⟩⟩
  refine ⟨fun _ => ⟨hS.1, m + 16, hS.r16, by rw [hS.h16], by rw [hS.h16]; exact vp_in_nI ha (by omega), ?_⟩, fun z => absurd rfl z⟩
  rw [nI_clamp (by omega), ha1]
  exact ⟨fun c => H99 0 ⟨fun _ => c, fun _ => rfl⟩, fun c => H99 1 ⟨fun z => absurd z (by decide), fun z => absurd z c⟩⟩
theorem ur_grown (d : Nat) (hS : ReS M m) (hW : SgW S) (hB : ReB M m S) (hH : ReH M m S) {a s n : Int32} (hQ0 : ∀ c, rfL (grL S a s n) c → Q (some (.int (-1))) (x_si M m 22 c))
    (hQ1 : rfG (grL S a s n) → ∀ M1 mc, AddM M M1 m S 1 (-1) mc → m_n mc ≤ 60 → mcan (y_b S) mc (grB S (iN a)) → Q (some (.int (nI (y_rc S)))) M1) : Call G (d + 5) 0 0 mX12_grown [.ref m, .int a, .int s, .int n] M Q := by
  have hb := hW.1
  have hrc := hW.2.2.2.2.1
  obtain ⟨g0, g1, g7, g18, g22, g24⟩ := id hB
  have refuse : ∀ c, rfL (grL S a s n) c → Call G (d + 4) 0 0 mX12_refused [.ref m, .int c] M (fun r6 M7 => ∃ v8 : Int32, r6 = some (.int v8) ∧ Q (some (.int v8)) M7) := fun c h => u_refused (d + 3) hS ⟨_, rfl, hQ0 c h⟩
  have bad : ¬ (iW a 6 ∧ iW s 3 ∧ 1 ≤ n.toInt ∧ n.toInt ≤ 8) → Call G (d + 4) 0 0 mX12_refused [.ref m, .int 1] M (fun r6 M7 => ∃ v8 : Int32, r6 = some (.int v8) ∧ Q (some (.int v8)) M7) := fun h => refuse 1 (Or.inl ⟨h, rfl⟩)
  refine eX12_grown m _ _ _ (ur_in0 (n := 6) (d + 3) (by omega) (fun h => ⟨0, rfl, fun _ => ⟨hS.1, bad (fun z => iW.not h (by omega) z.1)⟩, fun z => absurd rfl z⟩) (fun a' ha ea => ⟨1, rfl, fun z => absurd z (by decide), fun _ => ?_⟩))
  refine ur_in0 (n := 3) (d + 3) (by omega) (fun h => ⟨0, rfl, fun _ => ⟨hS.1, bad (fun z => iW.not h (by omega) z.2.1)⟩, fun z => absurd rfl z⟩) (fun s' hs es => ⟨1, rfl, fun z => absurd z (by decide), fun _ => ?_⟩)
  refine u_inI (d + 3) (x := n) (y := 1) (z := 8) (by omega) (by omega) (by omega) (by omega) ?_
  by_cases cn : (1 : Int) ≤ n.toInt ∧ n.toInt ≤ 8
  case neg =>
    rw [if_neg cn]
    exact ⟨0, rfl, fun z => absurd rfl z, fun _ => ⟨hS.1, bad (fun z => cn z.2.2)⟩⟩
  rw [if_pos cn]
  obtain ⟨n', hn1, hn8, en⟩ := n_rng (n := n) (t := 8) (by omega) (by omega) (by omega)
  have A1 : iW a 6 ∧ iW s 3 ∧ 1 ≤ n.toInt ∧ n.toInt ≤ 8 := ⟨by rw [ea]; exact iW_nI ha (by omega), by rw [es]; exact iW_nI hs (by omega), cn⟩
  have ia : iN a = a' := by rw [ea]; exact iN_nI (by omega)
  have ii : iN n = n' := by rw [en]; exact iN_nI (by omega)
  have rT : ∀ c, rfL (grT S a' s n') c → Call G (d + 4) 0 0 mX12_refused [.ref m, .int c] M (fun r6 M7 => ∃ v8 : Int32, r6 = some (.int v8) ∧ Q (some (.int v8)) M7) := fun c h => refuse c (Or.inr ⟨A1, by rw [ia, ii]; exact h⟩)
  have gT : rfG (grT S a' s n') → ∀ M1 mc, AddM M M1 m S 1 (-1) mc → m_n mc ≤ 60 → mcan (y_b S) mc (grB S a') → Q (some (.int (nI (y_rc S)))) M1 := fun h => by
    have := hQ1 ⟨A1, by rw [ia, ii]; exact h⟩
    rw [ia] at this
    exact this
  clear hQ0 hQ1 bad refuse A1 ia ii cn
  subst ea en
  refine ⟨1, rfl, fun _ => ⟨hS.1, ?_⟩, fun z => absurd z (by decide)⟩
  have nb : n' * y_b S ≤ 24 := by
    have : n' * y_b S ≤ 8 * 3 := Nat.mul_le_mul hn8 (by omega)
    omega
  obtain ⟨za1, za2, za3, za4⟩ := hW.2.2.2.1 a' ha
  obtain ⟨ha1, ha2, ha3⟩ := hH a' ha
  have enb : nI n' * nI (y_b S) = nI (n' * y_b S) := s_mul _ _
  rw [g1, show (10 : Int32) = nI 10 from rfl, nI_eq (by omega) (by omega)]
  refine ⟨fun cr' => ?_, fun cr => rT 2 (Or.inl ⟨by omega, rfl⟩)⟩
  have cr : y_rc S < 10 := by omega
  refine ⟨m + 16, hS.r16, by rw [hS.h16], by rw [hS.h16]; exact vp_in_nI ha (by omega), ?_⟩
  rw [nI_clamp (by omega), ha1]
  refine ⟨fun y3 => ⟨fun y4 => ⟨m + 17, hS.r17, by rw [hS.h17], by rw [hS.h17]; exact vp_in_nI ha (by omega), ?_⟩, fun y4 => rT 11 (Or.inr ⟨cr, Or.inr ⟨y3, Or.inl ⟨y4, rfl⟩⟩⟩)⟩, fun y3 => rT 10 (Or.inr ⟨cr, Or.inl ⟨fun z => z y3, rfl⟩⟩)⟩
  rw [ha2, g0, enb, nI_leI (by omega) (by omega), nI_prd0 (by omega)]
  refine ⟨fun y5 => ?_, fun y5 => rT 12 (Or.inr ⟨cr, Or.inr ⟨y3, Or.inr ⟨y4, Or.inl ⟨y5, rfl⟩⟩⟩⟩)⟩
  refine ur_isAbove (d + 3) hS ha (by omega) (by omega) (cf := y_cf S a') (fun i hi => ⟨ha3 i hi, by have := za4 i hi; omega⟩) (fun h => ⟨1, rfl, fun _ => ⟨hS.1, rT 3 (Or.inr ⟨cr, Or.inr ⟨y3, Or.inr ⟨y4, Or.inr ⟨y5, Or.inl ⟨fun z => ?_, rfl⟩⟩⟩⟩⟩)⟩, fun z => absurd z (by decide)⟩) (fun h => ⟨0, rfl, fun z => absurd rfl z, fun _ => ⟨hS.1, m + 18, hS.r18, by rw [hS.h18], ?_, ?_⟩⟩)
  · obtain ⟨i, hi, ci⟩ := h
    have := z.1 i hi
    omega
  · rw [hS.h18, show (40 : Int32) = nI 40 from rfl, s_mul]
    exact vp_in_nI (show 40 * a' < 240 by omega) (by omega)
  have e40 : x_i M (m + 18) ((40 : Int32) * nI a').toNatClampNeg = nI (y_cf S a' 0) := by
    rw [show (40 : Int32) = nI 40 from rfl, s_mul, nI_clamp (by omega)]
    exact ha3 0 (by omega)
  rw [e40, show (0 : Int32) = nI 0 from rfl, nI_eq (by have := za4 0 (by omega); omega) (by omega)]
  refine ⟨fun h2 => ?_, fun h2 => rT 3 (Or.inr ⟨cr, Or.inr ⟨y3, Or.inr ⟨y4, Or.inr ⟨y5, Or.inl ⟨fun z => h2 z.2, rfl⟩⟩⟩⟩⟩)⟩
  rintro M45 rfl M46 rfl
  have h1 : ∀ t, t < n' * y_b S → y_cf S a' t < n' := fun t ht => by have := h t ht; omega
  have g26 : x_i (x_si M m 25 (nI n')) m 0 = nI (y_b S) := by rw [xi_nk (by omega)]; exact g0
  rw [g26]
  exact ur_bGrown d (b := y_b S) (sf := y_cf S a') (show ReS (x_si (x_si M m 25 (nI n')) m 26 (nI (y_b S))) m from hS.eq rfl rfl) (by omega) (by omega) (by rw [xi_nk (by omega), xi_nk (by omega)]; exact g0) (by omega) hn8 ha (fun t ht => ⟨by rw [xi_na (by omega), xi_na (by omega)]; exact ha3 t (by omega), h1 t ht⟩) (by rw [xi_nk (by omega), xi_eq]) xi_eq (by rw [xi_nk (by omega), xi_nk (by omega)]; exact g1) cr (fun M1 mc f hc h60 hN => gT ⟨cr, y3, y4, y5, ⟨h1, h2⟩, trivial⟩ M1 mc (addM_of (by omega) f hN) h60 hc)
theorem ur_ring (d : Nat) (hS : ReS M m) (hW : SgW S) (hB : ReB M m S) (hH : ReH M m S) {a s i l : Int32} (hQ0 : ∀ c, rfL (riL S a s i l) c → Q (some (.int (-1))) (x_si M m 22 c))
    (hQ1 : rfG (riL S a s i l) → ∀ M1 mc, AddM M M1 m S 2 (-1) mc → m_n mc ≤ 60 → mcan (y_b S) mc (riB S (iN a) (iN i) (iN l)) → Q (some (.int (nI (y_rc S)))) M1) : Call G (d + 5) 0 0 mX12_ring [.ref m, .int a, .int s, .int i, .int l] M Q := by
  have hb := hW.1
  have hrc := hW.2.2.2.2.1
  obtain ⟨g0, g1, g7, g18, g22, g24⟩ := id hB
  have refuse : ∀ c, rfL (riL S a s i l) c → Call G (d + 4) 0 0 mX12_refused [.ref m, .int c] M (fun r6 M7 => ∃ v8 : Int32, r6 = some (.int v8) ∧ Q (some (.int v8)) M7) := fun c h => u_refused (d + 3) hS ⟨_, rfl, hQ0 c h⟩
  have bad : ¬ (iW a 6 ∧ iW s 3 ∧ iW i 7 ∧ 1 ≤ l.toInt ∧ l.toInt ≤ 6) → Call G (d + 4) 0 0 mX12_refused [.ref m, .int 1] M (fun r6 M7 => ∃ v8 : Int32, r6 = some (.int v8) ∧ Q (some (.int v8)) M7) := fun h => refuse 1 (Or.inl ⟨h, rfl⟩)
  refine eX12_ring m _ _ _ _ (ur_in0 (n := 6) (d + 3) (by omega) (fun h => ⟨0, rfl, fun _ => ⟨hS.1, bad (fun z => iW.not h (by omega) z.1)⟩, fun z => absurd rfl z⟩) (fun a' ha ea => ⟨1, rfl, fun z => absurd z (by decide), fun _ => ?_⟩))
  refine ur_in0 (n := 3) (d + 3) (by omega) (fun h => ⟨0, rfl, fun _ => ⟨hS.1, bad (fun z => iW.not h (by omega) z.2.1)⟩, fun z => absurd rfl z⟩) (fun s' hs es => ⟨1, rfl, fun z => absurd z (by decide), fun _ => ?_⟩)
  refine ur_in0 (n := 7) (d + 3) (by omega) (fun h => ⟨0, rfl, fun _ => ⟨hS.1, bad (fun z => iW.not h (by omega) z.2.2.1)⟩, fun z => absurd rfl z⟩) (fun i' hi ei => ⟨1, rfl, fun z => absurd z (by decide), fun _ => ?_⟩)
  refine u_inI (d + 3) (x := l) (y := 1) (z := 6) (by omega) (by omega) (by omega) (by omega) ?_
  by_cases cn : (1 : Int) ≤ l.toInt ∧ l.toInt ≤ 6
  case neg =>
    rw [if_neg cn]
    exact ⟨0, rfl, fun z => absurd rfl z, fun _ => ⟨hS.1, bad (fun z => cn z.2.2.2)⟩⟩
  rw [if_pos cn]
  obtain ⟨l', hl1, hl6, el⟩ := n_rng (n := l) (t := 6) (by omega) (by omega) (by omega)
  have A1 : iW a 6 ∧ iW s 3 ∧ iW i 7 ∧ 1 ≤ l.toInt ∧ l.toInt ≤ 6 := ⟨by rw [ea]; exact iW_nI ha (by omega), by rw [es]; exact iW_nI hs (by omega), by rw [ei]; exact iW_nI hi (by omega), cn⟩
  have ia : iN a = a' := by rw [ea]; exact iN_nI (by omega)
  have ii : iN i = i' := by rw [ei]; exact iN_nI (by omega)
  have il : iN l = l' := by rw [el]; exact iN_nI (by omega)
  have rT : ∀ c, rfL (riT S a' s i' l') c → Call G (d + 4) 0 0 mX12_refused [.ref m, .int c] M (fun r6 M7 => ∃ v8 : Int32, r6 = some (.int v8) ∧ Q (some (.int v8)) M7) := fun c h => refuse c (Or.inr ⟨A1, by rw [ia, ii, il]; exact h⟩)
  have gT : rfG (riT S a' s i' l') → ∀ M1 mc, AddM M M1 m S 2 (-1) mc → m_n mc ≤ 60 → mcan (y_b S) mc (riB S a' i' l') → Q (some (.int (nI (y_rc S)))) M1 := fun h => by
    have := hQ1 ⟨A1, by rw [ia, ii, il]; exact h⟩
    rw [ia, ii, il] at this
    exact this
  clear hQ0 hQ1 bad refuse A1 ia ii il cn
  subst ea ei el
  refine ⟨1, rfl, fun _ => ⟨hS.1, ?_⟩, fun z => absurd z (by decide)⟩
  obtain ⟨za1, za2, za3, za4⟩ := hW.2.2.2.1 a' ha
  obtain ⟨ha1, ha2, ha3⟩ := hH a' ha
  rw [g1, show (10 : Int32) = nI 10 from rfl, nI_eq (by omega) (by omega)]
  refine ⟨fun cr' => ?_, fun cr => rT 2 (Or.inl ⟨by omega, rfl⟩)⟩
  have cr : y_rc S < 10 := by omega
  refine ⟨m + 16, hS.r16, by rw [hS.h16], by rw [hS.h16]; exact vp_in_nI ha (by omega), ?_⟩
  rw [nI_clamp (by omega), ha1]
  refine ⟨fun y3 => ⟨fun y4 => ⟨m + 17, hS.r17, by rw [hS.h17], by rw [hS.h17]; exact vp_in_nI ha (by omega), ?_⟩, fun y4 => rT 11 (Or.inr ⟨cr, Or.inr ⟨y3, Or.inl ⟨y4, rfl⟩⟩⟩)⟩, fun y3 => rT 10 (Or.inr ⟨cr, Or.inl ⟨fun z => z y3, rfl⟩⟩)⟩
  rw [ha2, nI_add, nI_leI (by omega) (by omega)]
  refine ⟨fun y5 => ?_, fun y5 => rT 12 (Or.inr ⟨cr, Or.inr ⟨y3, Or.inr ⟨y4, Or.inl ⟨y5, rfl⟩⟩⟩⟩)⟩
  show Call G (d + 4) 0 0 mX12_isAbove [.ref m, .int (nI a'), .int 0, .int (nI (i' + l')), .int (nI 7)] M _
  refine ur_isAbove (d + 3) hS ha (by omega) (by omega) (cf := y_cf S a') (fun t ht => ⟨ha3 t ht, by have := za4 t ht; omega⟩) (fun h => ⟨1, rfl, fun z => absurd z (by decide), fun _ => ⟨hS.1, rT 3 (Or.inr ⟨cr, Or.inr ⟨y3, Or.inr ⟨y4, Or.inr ⟨y5, Or.inl ⟨fun z => ?_, rfl⟩⟩⟩⟩⟩)⟩⟩) (fun h => ⟨0, rfl, fun _ => ⟨hS.1, ?_⟩, fun z => absurd rfl z⟩)
  · obtain ⟨t, ht, ct⟩ := h
    have := z t ht
    omega
  rintro M45 rfl M46 rfl
  have h1 : ∀ t, t < i' + l' → y_cf S a' t < 8 := fun t ht => by have := h t ht; omega
  have g26 : x_i (x_si M m 25 (nI (i' + l'))) m 0 = nI (y_b S) := by rw [xi_nk (by omega)]; exact g0
  rw [g26]
  exact ur_bRing d (b := y_b S) (lf := y_cf S a') (show ReS (x_si (x_si M m 25 (nI (i' + l'))) m 26 (nI (y_b S))) m from hS.eq rfl rfl) (by omega) (by omega) (by rw [xi_nk (by omega), xi_nk (by omega)]; exact g0) (by omega) (by omega) hl6 ha (fun t ht => ⟨by rw [xi_na (by omega), xi_na (by omega)]; exact ha3 t (by omega), h1 t ht⟩) (by rw [xi_nk (by omega), xi_eq]) xi_eq (by rw [xi_nk (by omega), xi_nk (by omega)]; exact g1) cr (fun M1 mc f hc h60 hN => gT ⟨cr, y3, y4, y5, h1, trivial⟩ M1 mc (addM_of (by omega) f hN) h60 hc)
end RRowsHead
