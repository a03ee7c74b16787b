/-! ===== the reference: rows sought ===== -/
section RRows4C
variable {G : GG} {M : Mem} {m b : Nat} {Q : Option Value → Mem → Prop}
theorem ur_bSought (d : Nat) (hs : ReS M m) (hb1 : 1 < b) (hb3 : b ≤ 3) (h0 : x_i M m 0 = nI b) {q rc : Nat} {mq : Mc} {β : List Nat → Nat} (hq : q < 10) (hM : ReQ M m q b mq) (hcan : mcan b mq β) (hn40 : m_n mq ≤ 40) (hk1 : ∀ i, i < m_n mq → m_k mq i ≤ 1) (h25 : x_i M m 25 = nI (m_n mq)) (h26 : x_i M m 26 = nI b) (hrc : x_i M m 1 = nI rc) (hr10 : rc < 10)
    (hQ : ∀ M' mc, FrM M M' m [1, 22, 29] [1, 2, 3, 4, 5, 20, 21, 22, 23, 24, 25, 26] → mcan b mc β → m_n mc ≤ 60 → NewR M M' m rc 4 b mc → x_i M' (m + 5) rc = nI q → (∀ r, r ≠ rc → x_i M' (m + 5) r = x_i M (m + 5) r) → Q (some (.int (nI rc))) M') :
    LX12_sought_82 G (d + 4) 0 0 m (nI q) (nI 0) none M Q := by
  have fr0 : ∀ {M' : Mem}, FrM M M' m [] [20, 21] → ReS M' m ∧ x_i M' m 0 = nI b ∧ x_i M' m 25 = nI (m_n mq) ∧ x_i M' m 26 = nI b ∧ x_i M' m 1 = nI rc ∧ ReQ M' m q b mq := fun g => ⟨g.S hs, by rw [g.fm (by decide)]; exact h0, by rw [g.fm (by decide)]; exact h25, by rw [g.fm (by decide)]; exact h26, by rw [g.fm (by decide)]; exact hrc, by
    unfold ReQ
    rw [g.i (by decide) (by decide), g.i (by decide) (by decide), g.i (by decide) (by decide)]
    exact hM⟩
  have inner : ∀ i, i < m_n mq → (∀ M' z, c1 z = true → FrM M M' m [] [20, 21] → FiI M' m b (m_s mq) (m_k mq) (i + 1) (i * b + b) → LX12_sought_82 G (d + 4) 0 0 m (nI q) (nI (i + 1)) z M' Q) → ∀ r k, k + r = b → ∀ M', FrM M M' m [] [20, 21] → FiI M' m b (m_s mq) (m_k mq) (i + 1) (i * b + k) → LX12_sought_117 G (d + 4) 0 0 m (nI q) (nI i) (nI k) M' Q := by
    intro i hi hout r
    induction r with
    | zero =>
      intro k hk M' hfr hfi
      have e : k = b := by omega
      subst e
      obtain ⟨q1, q2, -⟩ := fr0 hfr
      refine vX12_sought_117 _ _ _ _ ⟨q1.1, fun _ => ?_, fun c => absurd (by rw [q2]; exact nI_le (Nat.le_refl _) (by omega)) c⟩
      rw [nI_1]
      exact hout M' _ rfl hfr hfi
    | succ r ih =>
      intro k hk M' hfr hfi
      obtain ⟨q1, q2, q3, q4, q5, q6⟩ := fr0 hfr
      refine vX12_sought_117 _ _ _ _ ⟨q1.1, fun c => absurd (by rw [q2] at c; exact c) (nI_ge (a := k) (b := b) (by omega) (by omega)), fun _ => ⟨m + 20, q1.r20, m + 13, q1.r13, by rw [q1.h13], ?_⟩⟩
      rw [e40_, e27_, e27_, nI_clamp (n := 27 * (40 * q + i) + k) (by omega), q6.2.2 i hi k (by omega)]
      refine ⟨by rw [q1.h13]; exact vp_in_nI (show 27 * (40 * q + i) + k < 10800 by omega) (by omega), by rw [q1.h20], by rw [q1.h20]; exact vp_in_nI (show 27 * i + k < 226800 by omega) (by omega), ?_⟩
      rintro M3 rfl
      rw [nI_clamp (by omega), nI_1]
      exact ih (k + 1) (by omega) _ (hfr.si (by decide) (by decide)) (hfi.link hb3 (by omega) rfl)
  have outer : ∀ r i, i + r = m_n mq → ∀ M', FrM M M' m [] [20, 21] → FiI M' m b (m_s mq) (m_k mq) i (i * b) → ∀ z, c1 z = true → LX12_sought_82 G (d + 4) 0 0 m (nI q) (nI i) z M' Q := by
    intro r
    induction r with
    | zero =>
      intro i hi M' hfr hfi z hz
      have e : i = m_n mq := by omega
      subst e
      obtain ⟨q1, q2, q3, q4, q5, q6⟩ := fr0 hfr
      have hRa : RaI M' m (m_n mq) b (m_s mq) (m_k mq) := hfi.raw (by omega) hb3 q3 q4 hcan.1 (by omega) (fun a ha k hk => hcan.2.1 a ha k hk) (fun a ha => by have := hk1 a ha; omega)
      refine vX12_sought_82 _ _ _ _ hz ⟨q1.1, fun _ => ?_, fun c => absurd (by rw [q3]; exact nI_le (Nat.le_refl _) (by omega)) c⟩
      refine ur_least d q1 hRa (fun M1 n st' mr' g1 hl hc => ⟨rfl, (g1.S q1).1, ?_⟩)
      have s1 := g1.S q1
      have e1 : x_i M1 m 1 = nI rc := by rw [g1.fm (by decide)]; exact q5
      refine ⟨m + 5, s1.r5, by rw [s1.h5], by rw [e1, s1.h5]; exact vp_in_nI hr10 (by omega), ?_⟩
      rintro M9 rfl
      rw [e1, nI_clamp (by omega)]
      have g2 : FrM M1 (x_si M1 (m + 5) rc (nI q)) m [] [5] := FrM.rf.si (by decide) (by decide)
      have hn : n ≤ 60 := by have := hl.2.1; omega
      refine ur_newRow (d + 1) (kd := 4) (g2.S s1) ((hRa.fr g1 (by decide) (by decide)).fr g2 (by decide) (by decide)) (hl.fr g2 (by decide) (by decide)) (by rw [g2.fm (by decide), g1.fm (by decide)]; exact q2) hb3 (by rw [g2.fm (by decide)]; exact e1) hr10 hn (fun M2 g3 n1 n2 n3 n4 n5 n6 => ⟨_, rfl, ?_⟩)
      exact hQ M2 (n, st', mr') ((((hfr.wk (by decide) (by decide)).tr g1 (by decide) (by decide)).tr g2 (by decide) (by decide)).tr g3 (by decide) (by decide)) (Can.congr hc (fun u hu => hcan.2.2.1 u hu)) hn ⟨n1, n2, n3, fun r hr => (n4 r hr).trans (by rw [g2.i (by decide) (by decide), g1.i (by decide) (by decide), hfr.i (by decide) (by decide)]), n5, fun r mc' hr hm hR => n6 r mc' hr hm (((hR.fr hfr (by decide)).fr g1 (by decide)).fr g2 (by decide))⟩ (by rw [g3.i (by decide) (by decide), xi_eq]) (fun r hr => by rw [g3.i (by decide) (by decide), xi_nk hr, g1.i (by decide) (by decide), hfr.i (by decide) (by decide)])
    | succ r ih =>
      intro i hi M' hfr hfi z hz
      obtain ⟨q1, q2, q3, q4, q5, q6⟩ := fr0 hfr
      have hil : i < m_n mq := by omega
      have hki := hk1 i hil
      have vin : vp_in (nI i) (x_h M' (m + 21)).2 := by rw [q1.h21]; exact vp_in_nI (show i < 8400 by omega) (by omega)
      have wr : ∀ (v : Int32), v = nI (m_k mq i) → ∀ M8, M8 = x_si M' (m + 21) (nI i).toNatClampNeg v → LX12_sought_117 G (d + 4) 0 0 m (nI q) (nI i) 0 M8 Q := by
        rintro v hv M8 rfl
        rw [nI_clamp (by omega)]
        exact inner i hil (fun M4 z hz b1 b2 => ih (i + 1) (by omega) M4 b1 (by rw [Nat.succ_mul]; exact b2) z hz) b 0 (Nat.zero_add b) _ (hfr.si (by decide) (by decide)) (hfi.mark hv)
      have ek : nI (m_k mq i) = 0 ↔ m_k mq i = 0 := nI_eq (b := 0) (by omega) (by omega)
      refine vX12_sought_82 _ _ _ _ hz ⟨q1.1, fun c => absurd (by rw [q3] at c; exact c) (nI_ge (a := i) (b := m_n mq) (by omega) (by omega)), fun _ => ⟨m + 21, q1.r21, m + 14, q1.r14, by rw [q1.h14], by rw [e40_, q1.h14]; exact vp_in_nI (show 40 * q + i < 400 by omega) (by omega), ?_⟩⟩
      rw [e40_, nI_clamp (n := 40 * q + i) (by omega), q6.2.1 i hil, ek]
      refine ⟨fun c => ⟨by rw [q1.h21], vin, wr 0 (by rw [c]; rfl)⟩, fun c => ⟨by rw [q1.h21], vin, wr 1 (by rw [show m_k mq i = 1 by omega]; rfl)⟩⟩
  exact outer (m_n mq) 0 (Nat.zero_add _) M FrM.rf (by rw [Nat.zero_mul]; exact FiI.start) none rfl
end RRows4C
