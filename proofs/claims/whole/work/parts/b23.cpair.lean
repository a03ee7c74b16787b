/-! ===== Weaver: pairs of rows ===== -/
section CPairC
variable {G : GG} {M : Mem} {w b p pv pk pm pn : Nat} {Q : Option Value → Mem → Prop}
theorem vw_11 {k : Nat} (hk : k < b) : vw b 1 1 k = k := by
  have e : vw b 1 1 k = 0 + k / b ^ ab 1 7 % b * b ^ ab 1 7 := rfl
  rw [e, show ab 1 7 = 0 from rfl, Nat.pow_zero, Nat.div_one, Nat.mod_eq_of_lt hk]
  omega
theorem map_vw : ∀ u : List Nat, wd b u → u.map (vw b 1 1) = u
  | [], _ => rfl
  | g :: u, hu => by
    rw [List.map_cons, vw_11 (wd_tail hu).1, map_vw u (wd_tail hu).2]
theorem fn_1 : fn b 1 = b := by
  show b ^ 1 = b
  rw [Nat.pow_one]
theorem w_weavePair (d : Nat) (hw : WeS M w) (hb1 : 1 < b) (hb3 : b ≤ 3) (hp : LeS M p pv pk pm pn) (hpd : ∀ q ∈ [p, pv, pk], q < w ∨ w + 21 < q) (hpn : 60 ≤ pn) (hpm : 180 ≤ pm) {way oa va ka ob vb kb : Nat} {ma mb : Mc} (hway : way ≤ 2) (ha : LeS M oa va ka 180 60) (hai : LeI M oa va ka (m_n ma) b (m_s ma) (m_k ma)) (hB : LeS M ob vb kb 180 60) (hbi : LeI M ob vb kb (m_n mb) b (m_s mb) (m_k mb))
    (hna : 0 < m_n ma ∧ m_n ma ≤ 60) (hnb : 0 < m_n mb ∧ m_n mb ≤ 60) (hca : ∀ i, i < m_n ma → ∀ g, g < b → m_s ma i g < m_n ma) (hcb : ∀ i, i < m_n mb → ∀ g, g < b → m_s mb i g < m_n mb) (hka : ∀ i, i < m_n ma → m_k ma i < 8) (hkb : ∀ i, i < m_n mb → m_k mb i < 8) (had : ∀ q ∈ [oa, va, ka], q < w ∨ w + 21 < q) (hbd : ∀ q ∈ [ob, vb, kb], q < w ∨ w + 21 < q)
    (hQ1 : ∀ M' mc, Fr M M' [w, w + 1, w + 2, w + 3, w + 4, w + 5, w + 6, w + 7, w + 8, w + 15, w + 16, p, pv, pk] → m_n mc ≤ 60 → LeI M' p pv pk (m_n mc) b (m_s mc) (m_k mc) → mcan b mc (fun u => jn way (m_b ma u) (m_b mb u)) → Q (some (.int (nI 1))) M')
    (hQ0 : ∀ M', Fr M M' [w, w + 1, w + 2, w + 3, w + 4, w + 5, w + 6, w + 7, w + 8, w + 15, w + 16, p, pv, pk] → (∀ mc, mcan b mc (fun u => jn way (m_b ma u) (m_b mb u)) → 60 < m_n mc) → Q (some (.int (nI 0))) M') :
    Call G (d + 6) 0 0 mX10_weavePair [.ref w, .ref oa, .ref ob, .int (nI way), .int (nI b), .ref p] M Q := by
  refine eX10_weavePair w oa ob _ _ p ⟨hw.1, ?_⟩
  rintro M2 rfl
  have g : Fr M (x_si M w 11 (nI b)) [w] := Fr.rf.si (by simp)
  have hout : ∀ {q : Nat}, (q < w ∨ w + 21 < q) → q ∉ [w] := fun h => by simp; omega
  have hout2 : ∀ {q : Nat}, (q < w ∨ w + 21 < q) → q ∉ [w + 1, w + 2, w + 3, w + 4, w + 5, w + 6, w + 7, w + 8, w + 15, w + 16] := fun h => by simp; omega
  have hf1 : fn b (1 ||| 1) = b := fn_1
  have hab : m_n ma * m_n mb ≤ 3600 := by
    have : m_n ma * m_n mb ≤ 60 * 60 := Nat.mul_le_mul hna.2 hnb.2
    omega
  have hab2 : m_n ma * m_n mb * b ≤ 43200 := by
    have : m_n ma * m_n mb * b ≤ 3600 * 3 := Nat.mul_le_mul hab hb3
    omega
  have hna3 : m_n ma * b ≤ 180 := by
    have : m_n ma * b ≤ 60 * 3 := Nat.mul_le_mul hna.2 hb3
    omega
  have hnb3 : m_n mb * b ≤ 180 := by
    have : m_n mb * b ≤ 60 * 3 := Nat.mul_le_mul hnb.2 hb3
    omega
  have htell : ∀ u, wd b u → prM (m_n mb) way (m_k ma) (m_k mb) (dl (prD b (m_n mb) (1 ||| 1) 1 1 (m_s ma) (m_s mb)) 0 u) = jn way (m_b ma u) (m_b mb u) := fun u hu => by
    rw [dl_0 (nb := m_n mb), pr_tells (f := b) (fun i hi g' hg => by
      have h1 : vw b (1 ||| 1) 1 g' = g' := vw_11 hg
      rw [h1]; exact hcb i hi g' hg) u 0 0 hu hnb.1]
    have h2 : u.map (vw b (1 ||| 1) 1) = u := map_vw u hu
    rw [h2]
    rfl
  refine w_product d (hw.eq g.h g.r) xi_eq hb1 hb3 (hp.fF g) hpd (most := 60) (way := way) (sA := 1) (sB := 1) (by omega) (by omega) (by omega) (by rw [hf1]; omega) (Nat.le_refl 60) hpn (by rw [hf1]; omega) (ha.fF g) (by rw [fn_1]; exact hai.fF g (fun q hq => hout (had q hq))) (hB.fF g) (by rw [fn_1]; exact hbi.fF g (fun q hq => hout (hbd q hq))) hna.1 hnb.1 hab (by rw [hf1]; exact hab2) (by rw [fn_1]; exact hna3) hna.2 (by rw [fn_1]; exact hnb3) hnb.2 (by rw [fn_1]; exact hca) (by rw [fn_1]; exact hcb) hka hkb (fun e => by omega) (fun q hq => hout2 (had q hq)) (fun q hq => hout2 (hbd q hq)) (fun M' n st mr h1 h2 h3 h4 => ⟨_, rfl, Or.inr rfl, ?_⟩) (fun M' h1 h2 _ => ⟨_, rfl, Or.inl rfl, ?_⟩)
  · rw [hf1] at h3 h4
    exact hQ1 M' (n, st, mr) ((g.wk (B := [w, w + 1, w + 2, w + 3, w + 4, w + 5, w + 6, w + 7, w + 8, w + 15, w + 16, p, pv, pk]) (fun q hq => by simp at hq; simp [hq])).tr h1 (fun q hq => List.mem_cons_of_mem w hq)) h2 h3 (Can.congr h4 htell)
  · rw [hf1] at h2
    exact hQ0 M' ((g.wk (B := [w, w + 1, w + 2, w + 3, w + 4, w + 5, w + 6, w + 7, w + 8, w + 15, w + 16, p, pv, pk]) (fun q hq => by simp at hq; simp [hq])).tr h1 (fun q hq => List.mem_cons_of_mem w hq)) (fun mc hm => h2 (m_n mc) (m_s mc) (m_k mc) (Can.congr hm (fun u hu => (htell u hu).symm)))
end CPairC
