/-! ===== the reference: the machine of a side ===== -/
section RSide3C
variable {G : GG} {M : Mem} {m b L : Nat} {Q : Option Value → Mem → Prop}
/-- the first tuple -/
theorem ur_side42 (d : Nat) (hs : ReS M m) (hb : b = 2 ∨ b = 3) {rr : Nat} {mc : Mc} (hr : rr < 10) (h0 : x_i M m 0 = nI b) (hR : ReR M m rr b mc) (hn0 : 0 < m_n mc) (hn : m_n mc ≤ 60) (hc : ∀ i, i < m_n mc → ∀ g, g < b → m_s mc i g < m_n mc) (h00 : m_s mc 0 0 = 0) (hL : L ≤ 3) {x1 x3 x4 x5 x6 : Int32} (h25 : x_i M m 25 = 0)
    (hQ : ∀ M', FrM M M' m [25] [56, 57] → TuI M' m L [kh 60 (tp0 (m_s mc) b) (L + 1) 0] → ∀ z, c1 z = true → LX12_side_135 G (d + 4) 0 0 m x1 (nI rr) x3 x4 x5 x6 (nI (L + 1)) (nI 0) z none none M' Q) :
    LX12_side_42 G (d + 4) 0 0 m x1 (nI rr) x3 x4 x5 x6 (nI (L + 1)) (nI 0) none M Q := by
  have hb3 : b ≤ 3 := by omega
  have hb1 : 1 < b := by omega
  have hlt : ∀ j, j ≤ L → j / b < b := fun j hj => by
    have : j / b ≤ j / 2 := Nat.div_le_div_left hb1 (by omega)
    omega
  have hP0 : ∀ j, j ≤ L → tp0 (m_s mc) b j < m_n mc := fun j hj => hc _ (hc 0 hn0 _ (hlt j hj)) _ (Nat.mod_lt _ (by omega))
  have key : ∀ r j, j + r = L + 1 → ∀ M', FrM M M' m [25] [56, 57] → x_i M' m 25 = nI 0 → (∀ j', j' < j → x_i M' (m + 57) j' = nI (tp0 (m_s mc) b j')) → ∀ z, c1 z = true → LX12_side_42 G (d + 4) 0 0 m x1 (nI rr) x3 x4 x5 x6 (nI (L + 1)) (nI j) z M' Q := by
    intro r
    induction r with
    | zero =>
      intro j hj M' hfr e25 hnow z hz
      have q1 := hfr.S hs
      refine vX12_side_42 _ _ _ _ _ _ _ _ _ _ hz ⟨fun _ => ⟨q1.1, ?_⟩, fun c => absurd (by rw [show j = L + 1 by omega]; exact nI_le (Nat.le_refl _) (by omega)) c⟩
      refine ur_tupleOf (d + 3) q1 hL (K := []) ⟨e25, fun t ht => absurd ht (Nat.not_lt_zero t), List.nodup_nil, fun x hx => by cases hx⟩ (by show (0 : Nat) < 8000; omega) (P := tp0 (m_s mc) b) (fun j' hj' => ⟨hnow j' (by omega), by have := hP0 j' hj'; omega⟩) (fun M1 g1 g2 => ⟨_, rfl, ?_⟩)
      exact hQ M1 (hfr.tr g1 (by decide) (by decide)) g2 z hz
    | succ r ih =>
      intro j hj M' hfr e25 hnow z hz
      have q1 := hfr.S hs
      have qR := hR.fr hfr (by decide)
      have e0 : x_i M' m 0 = nI b := by rw [hfr.fm (by decide)]; exact h0
      have wr : ∀ (M3 : Mem) (v : Int32), M3 = x_si M' (m + 57) (nI j).toNatClampNeg v → v = nI (tp0 (m_s mc) b j) → ∀ z, c1 z = true → LX12_side_42 G (d + 4) 0 0 m x1 (nI rr) x3 x4 x5 x6 (nI (L + 1)) (nI j + 1) z M3 Q := by
        rintro M3 v rfl hv z hz
        rw [nI_clamp (by omega), nI_1]
        refine ih (j + 1) (by omega) _ (hfr.si (by decide) (by decide)) (by rw [xm_mo (by decide)]; exact e25) (fun j' hj' => ?_) z hz
        by_cases e : j' = j
        · rw [e, xi_eq, hv]
        · rw [xi_nk (by omega)]; exact hnow j' (by omega)
      have vin : vp_in (nI j) (x_h M' (m + 57)).2 := by rw [q1.h57]; exact vp_in_nI (show j < 4 by omega) (by omega)
      refine vX12_side_42 _ _ _ _ _ _ _ _ _ _ hz ⟨fun c => absurd c (nI_ge (a := j) (b := L + 1) (by omega) (by omega)), fun _ => ⟨q1.1, ?_⟩⟩
      rw [e0, nI_ltI (by omega) (by omega)]
      refine ⟨fun c => ⟨fun c2 => ⟨m + 57, q1.r57, by rw [q1.h57], vin, fun M3 e => wr M3 0 e ?_ _ rfl⟩, fun c2 => ?_⟩, fun c => ⟨fun e => absurd ((nI_eq (a := b) (b := 0) (by omega) (by omega)).mp e) (by omega), ?_⟩⟩
      · have e : j = 0 := by
          have := (nI_leI (a := j) (b := 0) (by omega) (by omega)).mp c2
          omega
        have e2 : tp0 (m_s mc) b j = 0 := by
          unfold tp0
          rw [e, Nat.zero_div, Nat.zero_mod, h00, h00]
        rw [e2]; rfl
      · refine ur_rowTo (d + 3) q1 qR hr hn hb3 (i := 0) (k := j) hn0 c ⟨_, rfl, q1.1, m + 57, q1.r57, by rw [q1.h57], vin, fun M3 e => wr M3 _ e ?_ _ rfl⟩
        unfold tp0
        rw [Nat.div_eq_of_lt c, Nat.mod_eq_of_lt c, h00]
      · rw [pk_div (by omega) (by omega) (by omega)]
        have hjb := hlt j (by omega)
        refine ur_rowTo (d + 3) q1 qR hr hn hb3 (i := 0) (k := j / b) hn0 hjb ⟨_, rfl, q1.1, ?_⟩
        rw [e0, pk_rem (by omega) (by omega) (by omega)]
        refine ⟨fun e => absurd ((nI_eq (a := b) (b := 0) (by omega) (by omega)).mp e) (by omega), ur_rowTo (d + 3) q1 qR hr hn hb3 (hc 0 hn0 _ hjb) (Nat.mod_lt j (by omega)) ⟨_, rfl, q1.1, m + 57, q1.r57, by rw [q1.h57], vin, fun M3 e => wr M3 _ e rfl _ rfl⟩⟩
  exact key (L + 1) 0 (by omega) M FrM.rf h25 (fun j' hj' => absurd hj' (Nat.not_lt_zero j')) none rfl
/-- the tuple behind a digit -/
theorem ur_side230 (d : Nat) (hs : ReS M m) (hb : b = 2 ∨ b = 3) {rr : Nat} {mc : Mc} (hr : rr < 10) (h0 : x_i M m 0 = nI b) (hR : ReR M m rr b mc) (hn : m_n mc ≤ 60) (hc : ∀ i, i < m_n mc → ∀ g, g < b → m_s mc i g < m_n mc) (hL : L ≤ 3) {x1 x3 x4 x5 x6 : Int32} {t i k : Nat} {P : Nat → Nat} {K : List Nat} (hT : TuI M m L K) (hKl : K.length < 8000) (hi : i < 8000) (hk : k < 27) (ht : t + L < (L + 1) * b) (hP : ∀ j, j ≤ L → x_i M (m + 56) (4 * i + j) = nI (P j) ∧ P j < m_n mc)
    (hQ : ∀ M', FrM M M' m [25] [56, 57] → TuI M' m L (ins K (kh 60 (tpD (m_s mc) b P t) (L + 1) 0)) → LX12_side_186 G (d + 4) 0 0 m x1 (nI rr) x3 x4 x5 x6 (nI (L + 1)) (nI i) (nI (k + 1)) (some (.int (nI t))) (some (.int (nI (L + 1)))) (x_si M' (m + 20) (27 * i + k) (nI ((ins K (kh 60 (tpD (m_s mc) b P t) (L + 1) 0)).idxOf (kh 60 (tpD (m_s mc) b P t) (L + 1) 0)))) Q) :
    LX12_side_230 G (d + 4) 0 0 m x1 (nI rr) x3 x4 x5 x6 (nI (L + 1)) (nI i) (nI k) (nI t) (nI 0) M Q := by
  have hb3 : b ≤ 3 := by omega
  have htL : t < 20 := by
    have : (L + 1) * b ≤ 4 * 3 := Nat.mul_le_mul (by omega) hb3
    omega
  have hpl : ∀ j, j ≤ L → (t + j) / b ≤ L := fun j hj => by
    have : (t + j) / b < L + 1 := Nat.div_lt_of_lt_mul (by rw [Nat.mul_comm]; omega)
    omega
  have key : ∀ r j, j + r = L + 1 → ∀ M', FrM M M' m [25] [57] → TuI M' m L K → (∀ j', j' < j → x_i M' (m + 57) j' = nI (tpD (m_s mc) b P t j')) → LX12_side_230 G (d + 4) 0 0 m x1 (nI rr) x3 x4 x5 x6 (nI (L + 1)) (nI i) (nI k) (nI t) (nI j) M' Q := by
    intro r
    induction r with
    | zero =>
      intro j hj M' hfr hT' hnow
      have q1 := hfr.S hs
      have ej : j = L + 1 := by omega
      refine vX12_side_230 _ _ _ _ _ _ _ _ _ _ _ _ ⟨fun _ => ⟨q1.1, m + 20, q1.r20, ?_⟩, fun c => absurd (by rw [ej]; exact nI_le (Nat.le_refl _) (by omega)) c⟩
      refine ur_tupleOf (d + 3) q1 hL hT' hKl (P := tpD (m_s mc) b P t) (fun j' hj' => ⟨hnow j' (by omega), ?_⟩) (fun M1 g1 g2 => ⟨_, rfl, ?_⟩)
      · have := hc _ (hP _ (hpl j' hj')).2 _ (Nat.mod_lt (t + j') (show 0 < b by omega))
        show m_s mc (P ((t + j') / b)) ((t + j') % b) < 60
        omega
      · have q2 := g1.S q1
        refine ⟨by rw [q2.h20], by rw [e27_, q2.h20]; exact vp_in_nI (show 27 * i + k < 226800 by omega) (by omega), ?_⟩
        rintro M3 rfl
        rw [e27_, nI_clamp (by omega), nI_1, ej]
        exact hQ M1 ((hfr.wk (A := [56, 57]) (by decide) (by decide)).tr g1 (by decide) (by decide)) g2
    | succ r ih =>
      intro j hj M' hfr hT' hnow
      have q1 := hfr.S hs
      have qR := hR.fr hfr (by decide)
      have e0 : x_i M' m 0 = nI b := by rw [hfr.fm (by decide)]; exact h0
      have hbz : ¬ nI b = 0 := fun e => absurd ((nI_eq (a := b) (b := 0) (by omega) (by omega)).mp e) (by omega)
      have hpj := hpl j (by omega)
      obtain ⟨p1, p2⟩ := hP _ hpj
      have hcell : x_i M' (m + 56) (4 * i + (t + j) / b) = nI (P ((t + j) / b)) := by rw [hfr.i (by decide) (by decide)]; exact p1
      refine vX12_side_230 _ _ _ _ _ _ _ _ _ _ _ _ ⟨fun c => absurd c (nI_ge (a := j) (b := L + 1) (by omega) (by omega)), fun _ => ⟨q1.1, m + 57, q1.r57, m + 56, q1.r56, ?_⟩⟩
      rw [e0, nI_add, pk_rem (a := t + j) (by omega) (by omega) (by omega), pk_div (a := t + j) (by omega) (by omega) (by omega), e4_, nI_clamp (by omega), hcell]
      refine ⟨hbz, by rw [q1.h56], by rw [q1.h56]; exact vp_in_nI (show 4 * i + (t + j) / b < 33600 by omega) (by omega), hbz, ur_rowTo (d + 3) q1 qR hr hn hb3 p2 (Nat.mod_lt (t + j) (by omega)) ⟨_, rfl, by rw [q1.h57], by rw [q1.h57]; exact vp_in_nI (show j < 4 by omega) (by omega), ?_⟩⟩
      rintro M3 rfl
      rw [nI_clamp (by omega), nI_1]
      have g3 : FrM M' (x_si M' (m + 57) j (nI (m_s mc (P ((t + j) / b)) ((t + j) % b)))) m [] [57] := FrM.rf.si (by decide) (by decide)
      refine ih (j + 1) (by omega) _ (hfr.si (by decide) (by decide)) (hT'.fr g3 (by decide) (by decide)) (fun j' hj' => ?_)
      by_cases e : j' = j
      · rw [e, xi_eq]; rfl
      · rw [xi_nk (by omega)]; exact hnow j' (by omega)
  exact key (L + 1) 0 (by omega) M FrM.rf hT (fun j' hj' => absurd hj' (Nat.not_lt_zero j'))
end RSide3C
