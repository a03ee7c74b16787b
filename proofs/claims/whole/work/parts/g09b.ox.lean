section OpsLaw
variable {G : GG} {M M' : Mem} {e m b : Nat} {S S' : Sg} {R K R' K' : Nat → Mc} {Q : Option Value → Mem → Prop}
theorem ox_differ (d : Nat) {x y : Int32} : COl G (d + 5) e m mX11_differ mX12_differ [.int x, .int y] := by
  intro M hC0
  obtain ⟨hem, S, R, K, hW, hM, ⟨cS, cB, cT, cH, cR, cQ, cA⟩, ⟨rS, rB, rT, rH, rR, rQ, rA⟩⟩ := hC0.one
  obtain ⟨a1, a2, a3, a4, a5, a6, a7, a8, a9, a10, a11, a12, b1, b2, b3, b4, b5, b6, b7, b8, c1, c2, c3, c4, c5, c6, c7, d1, d2, d3⟩ := cS
  have hrc := hW.2.2.2.2.1
  have hb := hW.1
  refine w_differ (b := y_b S) (R := R) (d + 1) a1 (by omega) (by omega) a2 a11 c7 (by omega) b1 cB.1 cB.2.1 hrc (fun i hi => ⟨hM.1 i hi, (cR i hi).2.2⟩) (fun h => ⟨_, rfl, (by first | exact hC0.h28 | exact hC1.h28 | (rw [g.h]; exact hC0.h28) | (rw [fr.h]; exact hC0.h28) | (rw [hA.1]; exact hC0.h28) | exact rS.1), ur_differ (b := y_b S) (R := R) d rS (by omega) (by omega) rB.1 rB.2.1 hrc (fun i hi => ⟨hM.1 i hi, (rR i hi).2.2⟩) (fun _ => ⟨rfl, hC0⟩) (fun i hi ei j hj ej => ?_)⟩) (fun i hi ei j hj ej M1 res g hres => ?_)
  · rcases h with c | c
    · exact absurd ei (c i hi)
    · exact absurd ej (c j hj)
  have hC1 : CRel M1 e m := hC0.fP (g.P (P := fun q => e + 14 ≤ q ∧ q ≤ e + 533) (fun q hq => by simp at hq; omega)) (fun q hq => hq)
  have o : ∀ q, m ≤ q → x_i M1 q = x_i M q := fun q hq => g.i (by simp; omega)
  have hR1 : ReAll M1 m S R K := ReAll.up ⟨rS, rB, rT, rH, rR, rQ, rA⟩ g.h (by rw [g.r]) o
  obtain ⟨rS, rB, rT, rH, rR, rQ, rA⟩ := hR1
  refine ⟨_, rfl, (by first | exact hC0.h28 | exact hC1.h28 | (rw [g.h]; exact hC0.h28) | (rw [fr.h]; exact hC0.h28) | (rw [hA.1]; exact hC0.h28) | exact rS.1), ur_differ (b := y_b S) (R := R) d rS (by omega) (by omega) rB.1 rB.2.1 hrc (fun i hi => ⟨hM.1 i hi, (rR i hi).2.2⟩) (fun h => ?_) (fun i' hi' ei' j' hj' ej' M2 res' g2 hres' => ?_)⟩
  · rcases h with c | c
    · exact absurd ei (c i hi)
    · exact absurd ej (c j hj)
  have := nI_same ei ei' (by omega) (by omega)
  subst this
  have := nI_same ej ej' (by omega) (by omega)
  subst this
  rw [hres'.one hres]
  exact ⟨rfl, hC1.fM g2 (by decide) (by decide)⟩
theorem ox_status (d : Nat) : COi G (d + 1) e m mX11_status mX12_status [] := by
  intro M hC0
  obtain ⟨hem, S, R, K, hW, hM, ⟨cS, cB, cT, cH, cR, cQ, cA⟩, ⟨rS, rB, rT, rH, rR, rQ, rA⟩⟩ := hC0.one
  exact eX11_status e ⟨cS.1, _, rfl, rS.1, eX12_status m ⟨rS.1, by rw [rB.2.2.2.2.1, cB.2.2.2.2], hC0⟩⟩
theorem ox_count (d : Nat) {x : Int32} : COi G (d + 1) e m mX11_count mX12_count [.int x] := by
  intro M hC0
  obtain ⟨hem, S, R, K, hW, hM, ⟨cS, cB, cT, cH, cR, cQ, cA⟩, ⟨rS, rB, rT, rH, rR, rQ, rA⟩⟩ := hC0.one
  obtain ⟨a1, a2, a3, a4, a5, a6, a7, a8, a9, a10, a11, a12, b1, b2, b3, b4, b5, b6, b7, b8, c1, c2, c3, c4, c5, c6, c7, d1, d2, d3⟩ := cS
  obtain ⟨f11, f12, f13, f14, f15⟩ := cB
  obtain ⟨g0, g1, g7, g18, g22, g24⟩ := rB
  refine eX11_count e x ⟨fun h => ⟨a1, _, rfl, hC0.h28, ?_⟩, fun h => ⟨a1, _, rfl, hC0.h28, ?_⟩, fun h => ⟨a1, _, rfl, hC0.h28, ?_⟩, fun h => ⟨a1, _, rfl, hC0.h28, ?_⟩, fun h => ⟨a1, _, a12, d1, _, rfl, hC0.h28, ?_⟩, fun h => ⟨_, rfl, (by first | exact hC0.h28 | exact hC1.h28 | (rw [g.h]; exact hC0.h28) | (rw [fr.h]; exact hC0.h28) | (rw [hA.1]; exact hC0.h28) | exact rS.1), ?_⟩⟩
  · subst h
    exact eX12_count m _ ⟨fun c => absurd rfl c, fun _ => ⟨rS.1, by rw [g1, f12], hC0⟩⟩
  · subst h
    exact eX12_count m _ ⟨fun _ => ⟨fun c => absurd rfl c, fun _ => ⟨rS.1, by rw [g7, f13], hC0⟩⟩, fun c => absurd c (by decide)⟩
  · subst h
    exact eX12_count m _ ⟨fun _ => ⟨fun _ => ⟨fun c => absurd rfl c, fun _ => ⟨rS.1, by rw [g18, f14], hC0⟩⟩, fun c => absurd c (by decide)⟩, fun c => absurd c (by decide)⟩
  · subst h
    exact eX12_count m _ ⟨fun _ => ⟨fun _ => ⟨fun _ => ⟨fun c => absurd rfl c, fun _ => ⟨rS.1, by rw [g0, f11], hC0⟩⟩, fun c => absurd c (by decide)⟩, fun c => absurd c (by decide)⟩, fun c => absurd c (by decide)⟩
  · subst h
    exact eX12_count m _ ⟨fun _ => ⟨fun _ => ⟨fun _ => ⟨fun _ => ⟨fun c => absurd rfl c, fun _ => ⟨rS.1, by rw [g24, cA.1], hC0⟩⟩, fun c => absurd c (by decide)⟩, fun c => absurd c (by decide)⟩, fun c => absurd c (by decide)⟩, fun c => absurd c (by decide)⟩
  · obtain ⟨n0, n1, n2, n3, n4⟩ := h
    exact eX12_count m _ ⟨fun _ => ⟨fun _ => ⟨fun _ => ⟨fun _ => ⟨fun _ => ⟨rfl, hC0⟩, fun c => absurd c n4⟩, fun c => absurd c n3⟩, fun c => absurd c n2⟩, fun c => absurd c n1⟩, fun c => absurd c n0⟩
theorem ox_trace (d : Nat) {x : Int32} : COi G (d + 2) e m mX11_trace mX12_trace [.int x] := by
  intro M hC0
  obtain ⟨hem, S, R, K, hW, hM, ⟨cS, cB, cT, cH, cR, cQ, cA⟩, ⟨rS, rB, rT, rH, rR, rQ, rA⟩⟩ := hC0.one
  obtain ⟨a1, a2, a3, a4, a5, a6, a7, a8, a9, a10, a11, a12, b1, b2, b3, b4, b5, b6, b7, b8, c1, c2, c3, c4, c5, c6, c7, d1, d2, d3⟩ := cS
  have hl : (y_tr S).length ≤ 50 := hW.2.2.2.2.2.2.2.2
  have h24 := rB.2.2.2.2.2
  have ref : ∀ Q : Option Value → Mem → Prop, ((∀ k, k < (y_tr S).length → x ≠ nI k) → Q (some (.int (-1))) M) → (∀ k, k < (y_tr S).length → x = nI k → Q (some (.int ((y_tr S).getD k 0))) M) → Call G (d + 2) 0 0 mX12_trace [.ref m, .int x] M Q := fun Q hQ0 hQ1 => by
    have hin : ∀ k, k < (y_tr S).length → x = nI k → (x_h M m).1 = 28 ∧ ∃ b8, x_r M m 23 = some b8 ∧ (x_h M b8).1 = 1 ∧ vp_in x (x_h M b8).2 ∧ Q (some (.int (x_i M b8 x.toNatClampNeg))) M := fun k hk ek => by
      refine ⟨rS.1, m + 19, rS.r19, by rw [rS.h19], by rw [ek, rS.h19]; exact vp_in_nI (show k < 50 by omega) (by omega), ?_⟩
      have := hQ1 k hk ek
      rw [ek, nI_clamp (by omega), rA k hk]
      exact this
    refine eX12_trace m x ⟨rS.1, fun c => ?_, fun c => ?_⟩
    · rw [h24, show (50 : Int32) = nI 50 from rfl, nI_leI (by omega) (by omega)] at c
      have e50 : (y_tr S).length = 50 := by omega
      show Call G (d + 1) 0 0 mX12_in [.int x, .int 0, .int (nI 50 - 1)] M _
      exact ur_in0 d (by omega) (fun h => ⟨0, rfl, fun _ => hQ0 (fun k hk => h k (by omega)), fun c => absurd rfl c⟩) (fun k hk ek => ⟨1, rfl, fun c => absurd c (by decide), fun _ => hin k (by omega) ek⟩)
    · rw [h24]
      exact ur_in0 d (by omega) (fun h => ⟨0, rfl, fun _ => hQ0 (fun k hk => h k (by omega)), fun c => absurd rfl c⟩) (fun k hk ek => ⟨1, rfl, fun c => absurd c (by decide), fun _ => hin k (by omega) ek⟩)
  refine eX11_trace e x ⟨a1, e + 534, a12, d1, ?_⟩
  rw [cA.1]
  refine w_in0 d (by omega) (fun h => ⟨0, rfl, fun _ => ⟨_, rfl, (by first | exact hC0.h28 | exact hC1.h28 | (rw [g.h]; exact hC0.h28) | (rw [fr.h]; exact hC0.h28) | (rw [hA.1]; exact hC0.h28) | exact rS.1), ref _ (fun _ => ⟨rfl, hC0⟩) (fun k hk ek => absurd ek (h k hk))⟩, fun c => absurd rfl c⟩) (fun k hk ek => ⟨1, rfl, fun c => absurd c (by decide), fun _ => ⟨a1, e + 534, a12, d1, e + 535, d2, by rw [d3], by rw [ek, d3]; exact vp_in_nI (show k < 50 by omega) (by omega), _, rfl, hC0.h28, ref _ (fun h => absurd ek (h k hk)) (fun k' hk' ek' => ?_)⟩⟩)
  have := nI_same ek ek' (by omega) (by omega)
  subst this
  rw [ek, nI_clamp (by omega), cA.2 k hk]
  exact ⟨rfl, hC0⟩
theorem ox_told (d : Nat) {x y : Int32} : COi G (d + 4) e m mX11_told mX12_told [.int x, .int y] := by
  intro M hC0
  obtain ⟨hem, S, R, K, hW, hM, ⟨cS, cB, cT, cH, cR, cQ, cA⟩, ⟨rS, rB, rT, rH, rR, rQ, rA⟩⟩ := hC0.one
  have hqc := hW.2.2.2.2.2.2.1
  refine w_told d cS hW cB cQ (fun h => ⟨_, rfl, (by first | exact hC0.h28 | exact hC1.h28 | (rw [g.h]; exact hC0.h28) | (rw [fr.h]; exact hC0.h28) | (rw [hA.1]; exact hC0.h28) | exact rS.1), ur_told d rS hW rB rQ (fun _ => ⟨rfl, hC0⟩) (fun k hk ek n1 n2 => ?_)⟩) (fun k hk ek n1 n2 => ⟨_, rfl, (by first | exact hC0.h28 | exact hC1.h28 | (rw [g.h]; exact hC0.h28) | (rw [fr.h]; exact hC0.h28) | (rw [hA.1]; exact hC0.h28) | exact rS.1), ur_told d rS hW rB rQ (fun h => ?_) (fun k' hk' ek' _ _ => ?_)⟩)
  · rcases h with c | c | c
    · exact absurd ek (c k hk)
    · exact absurd c n1
    · exact absurd n2 c
  · rcases h with c | c | c
    · exact absurd ek (c k hk)
    · exact absurd c n1
    · exact absurd n2 c
  have := nI_same ek ek' (by omega) (by omega)
  subst this
  exact ⟨rfl, hC0⟩
/-! alike -/
theorem ox_alike (d : Nat) {x y : Int32} : COi G (d + 4) e m mX11_alike mX12_alike [.int x, .int y] := by
  intro M hC0
  obtain ⟨hem, S, R, K, hW, hM, ⟨cS, cB, cT, cH, cR, cQ, cA⟩, ⟨rS, rB, rT, rH, rR, rQ, rA⟩⟩ := hC0.one
  obtain ⟨a1, a2, a3, a4, a5, a6, a7, a8, a9, a10, a11, a12, b1, b2, -⟩ := cS
  have hqc := hW.2.2.2.2.2.2.1
  have hb := hW.1
  have t1 : ∀ k, k < y_qc S → (x_i M (e + 540 + 8 * k) 1 = 0 ↔ x_i M (m + 6) k = 0) := fun k hk => (ask_c hW cQ hk).1.trans (ask_r hW rQ hk).1.symm
  have t2 : ∀ k, k < y_qc S → (x_i M (e + 540 + 8 * k) 3 = -1 ↔ x_i M (m + 8) k = -1) := fun k hk => (ask_c hW cQ hk).2.trans (ask_r hW rQ hk).2.symm
  have okr : ∀ k, k < y_qc S → x_i M (m + 6) k = 0 → x_i M (m + 8) k = -1 → x_i M (m + 9) k = nI (qd_n (y_q S k)) ∧ qd_n (y_q S k) < 256 ∧ fn (y_b S) (qd_n (y_q S k)) ≤ 27 ∧ ReQ M m k (fn (y_b S) (qd_n (y_q S k))) (K k) ∧ m_n (K k) ≤ 40 ∧ (∀ i, i < m_n (K k) → ∀ g, g < fn (y_b S) (qd_n (y_q S k)) → m_s (K k) i g < m_n (K k)) ∧ ∀ i, i < m_n (K k) → m_k (K k) i ≤ 1 := fun k hk g1 g2 => by
    obtain ⟨o1, ⟨⟨β, oc⟩, o40, ok1, -⟩, o3, o4, o5, o6⟩ := ok_r hW hM rQ hk g1 g2
    exact ⟨o3, o4, o6, o1, o40, oc.2.1, ok1⟩
  refine w_alike (b := y_b S) (nf := fun k => qd_n (y_q S k)) (mq := K) d a1 a3 b2 cB.2.2.1 hqc hb (fun k hk g1 g2 => ok_c hW hM cQ hk g1 g2) (fun h => ⟨_, rfl, (by first | exact hC0.h28 | exact hC1.h28 | (rw [g.h]; exact hC0.h28) | (rw [fr.h]; exact hC0.h28) | (rw [hA.1]; exact hC0.h28) | exact rS.1), ur_alike (b := y_b S) (nf := fun k => qd_n (y_q S k)) (d + 1) rS (by omega) (by omega) rB.1 rB.2.2.1 hqc okr (fun _ => ⟨rfl, hC0⟩) (fun i hi ei g1 g2 j hj ej k1 k2 r hr hrr => ?_)⟩) (fun i hi ei g1 g2 j hj ej k1 k2 r hr hrr => ⟨_, rfl, (by first | exact hC0.h28 | exact hC1.h28 | (rw [g.h]; exact hC0.h28) | (rw [fr.h]; exact hC0.h28) | (rw [hA.1]; exact hC0.h28) | exact rS.1), ur_alike (b := y_b S) (nf := fun k => qd_n (y_q S k)) (d + 1) rS (by omega) (by omega) rB.1 rB.2.2.1 hqc okr (fun h => ?_) (fun i' hi' ei' _ _ j' hj' ej' _ _ r' hr' hrr' => ?_)⟩)
  · rcases h with c | c
    · exact absurd ⟨(t1 i hi).mpr g1, (t2 i hi).mpr g2⟩ (c i hi ei)
    · exact absurd ⟨(t1 j hj).mpr k1, (t2 j hj).mpr k2⟩ (c j hj ej)
  · rcases h with c | c
    · exact absurd ⟨(t1 i hi).mp g1, (t2 i hi).mp g2⟩ (c i hi ei)
    · exact absurd ⟨(t1 j hj).mp k1, (t2 j hj).mp k2⟩ (c j hj ej)
  have := nI_same ei ei' (by omega) (by omega)
  subst this
  have := nI_same ej ej' (by omega) (by omega)
  subst this
  have : r' = r := by
    have := hrr'.trans hrr.symm
    omega
  subst this
  exact ⟨rfl, hC0⟩
theorem ox_begin (d : Nat) {x : Int32} : COi G (d + 2) e m mX11_begin mX12_begin [.int x] := by
  intro M hC0
  obtain ⟨hem, S, R, K, hW, hM, hCo, hRe⟩ := hC0.one
  have good : ∀ b, b = 2 ∨ b = 3 → x = nI b → (∀ M3, M3 = x_si M e 11 x → ∀ M4, M4 = x_si M3 e 12 0 → ∀ M5, M5 = x_si M4 e 13 0 → Call G (d + 1) 0 0 mX11_done [.ref e, .int 1] M5 (fun r6 M7 => ∃ v8 : Int32, r6 = some (.int v8) ∧ ∃ v : Int32, (some (.int v8) : Option Value) = some (.int v) ∧ (x_h M7 m).1 = 28 ∧ Call G (d + 2) 0 0 mX12_begin [.ref m, .int x] M7 (fun r2 M2 => r2 = some (.int v) ∧ CRel M2 e m))) := by
    rintro b hb rfl M3 rfl M4 rfl M5 rfl
    refine w_done d ?_ ?_
    · exact hCo.1.1
    refine ⟨_, rfl, _, rfl, (by first | exact hC0.h28 | exact hC1.h28 | (rw [g.h]; exact hC0.h28) | (rw [fr.h]; exact hC0.h28) | (rw [hA.1]; exact hC0.h28) | exact rS.1), ?_⟩
    have hR4 := (((hRe.lo (q := e) (k := 11) (v := nI b) (by omega)).lo (q := e) (k := 12) (v := 0) (by omega)).lo (q := e) (k := 13) (v := 0) (by omega)).lo (q := e) (k := 15) (v := 0) (by omega)
    obtain ⟨c1, ⟨f11, f12, f13, f14, f15⟩, c3, c4, c5, c6, c7⟩ := hCo
    have hC4 : CoAll (x_si (x_si (x_si (x_si M e 11 (nI b)) e 12 0) e 13 0) e 15 0) e (bgS S b) R K := by
      have o : ∀ q, q ≠ e → x_i (x_si (x_si (x_si (x_si M e 11 (nI b)) e 12 0) e 13 0) e 15 0) q = x_i M q := fun q hq => by funext j; rw [xi_na hq, xi_na hq, xi_na hq, xi_na hq]
      refine ⟨c1.eq rfl rfl, ⟨?_, ?_, ?_, ?_, xi_eq⟩, c3.fr (o _ (by omega)) rfl rfl, c4.fr (fun q h1 _ => o q (by omega)) rfl rfl rfl, fun i hi => absurd hi (Nat.not_lt_zero i), fun i hi => absurd hi (Nat.not_lt_zero i), c7.fr (fun q h1 _ => o q (by omega)) rfl⟩
      · rw [xi_nk (by omega), xi_nk (by omega), xi_nk (by omega), xi_eq]; rfl
      · rw [xi_nk (by omega), xi_nk (by omega), xi_eq]; rfl
      · rw [xi_nk (by omega), xi_eq]; rfl
      · rw [xi_nk (by omega), xi_nk (by omega), xi_nk (by omega), xi_nk (by omega)]; exact f14
    generalize x_si (x_si (x_si (x_si M e 11 (nI b)) e 12 0) e 13 0) e 15 0 = M5 at hR4 hC4 ⊢
    obtain ⟨r1, ⟨b0, b1, b7, b18, b22, b24⟩, r3, r4, r5, r6, r7⟩ := hR4
    refine eX12_begin m _ (u_in d (x := b) (y := 2) (z := 3) (by omega) (by omega) (by omega) ?_)
    rw [if_pos (by omega)]
    refine ⟨_, rfl, fun _ => ⟨r1.1, ?_⟩, fun c => absurd c (by decide)⟩
    rintro M6 rfl M7 rfl M8 rfl
    refine u_done d ?_ ?_
    · exact r1.eq rfl rfl
    refine ⟨_, rfl, rfl, hem, bgS S b, R, K, R, K, ?_, ?_, ?_, ?_, ?_, ?_⟩
    · obtain ⟨w1, w2, w3, w4, w5, w6, w7, w8, w9⟩ := hW
      exact ⟨hb, w2, w3, w4, Nat.zero_le _, fun i hi => absurd hi (Nat.not_lt_zero i), Nat.zero_le _, fun i hi => absurd hi (Nat.not_lt_zero i), w9⟩
    · exact ⟨fun i hi => absurd hi (Nat.not_lt_zero i), fun i hi => absurd hi (Nat.not_lt_zero i)⟩
    · exact ⟨fun i hi => absurd hi (Nat.not_lt_zero i), fun i hi => absurd hi (Nat.not_lt_zero i)⟩
    · exact MaE.rf
    · have hW' : SgW (bgS S b) := by
        obtain ⟨w1, w2, w3, w4, w5, w6, w7, w8, w9⟩ := hW
        exact ⟨hb, w2, w3, w4, Nat.zero_le _, fun i hi => absurd hi (Nat.not_lt_zero i), Nat.zero_le _, fun i hi => absurd hi (Nat.not_lt_zero i), w9⟩
      exact (((hC4.hi hW' hem).hi hW' hem).hi hW' hem).hi hW' hem
    · have o : ∀ q, q ≠ 0 → x_i (x_si (x_si (x_si (x_si M5 m 0 (nI b)) m 1 0) m 7 0) m 22 0) (m + q) = x_i M5 (m + q) := fun q hq => by funext j; rw [xi_na (by omega), xi_na (by omega), xi_na (by omega), xi_na (by omega)]
      refine ⟨r1.eq rfl rfl, ⟨?_, ?_, ?_, ?_, xi_eq, ?_⟩, r3.fr (o _ (by omega)) rfl rfl, r4.fr (fun q h1 _ => o q (by omega)) rfl rfl rfl, fun i hi => absurd hi (Nat.not_lt_zero i), fun i hi => absurd hi (Nat.not_lt_zero i), r7.fr (o _ (by omega)) rfl⟩
      · rw [xi_nk (by omega), xi_nk (by omega), xi_nk (by omega), xi_eq]; rfl
      · rw [xi_nk (by omega), xi_nk (by omega), xi_eq]; rfl
      · rw [xi_nk (by omega), xi_eq]; rfl
      · rw [xi_nk (by omega), xi_nk (by omega), xi_nk (by omega), xi_nk (by omega)]; exact b18
      · rw [xi_nk (by omega), xi_nk (by omega), xi_nk (by omega), xi_nk (by omega)]; exact b24
  refine eX11_begin e x ⟨fun h2 => ⟨hCo.1.1, good 2 (Or.inl rfl) h2⟩, fun n2 => ⟨fun h3 => ⟨hCo.1.1, good 3 (Or.inr rfl) h3⟩, fun n3 => ⟨hCo.1.1, w_refuse d hCo.1.1 ?_⟩⟩⟩
  refine ⟨_, rfl, _, rfl, (by first | exact hC0.h28 | exact hC1.h28 | (rw [g.h]; exact hC0.h28) | (rw [fr.h]; exact hC0.h28) | (rw [hA.1]; exact hC0.h28) | exact rS.1), ?_⟩
  have hR4 := hRe.lo (q := e) (k := 15) (v := 1) (by omega)
  refine eX12_begin m _ (u_inI d (x := x) (y := 2) (z := 3) (by omega) (by omega) (by omega) (by omega) ?_)
  rw [if_neg ?_]
  · exact ⟨_, rfl, fun c => absurd rfl c, fun _ => ⟨hR4.1.1, u_refused d hR4.1 ⟨_, rfl, rfl, hC0.st2⟩⟩⟩
  · rintro ⟨h1, h2⟩
    have : x.toInt = 2 ∨ x.toInt = 3 := by omega
    rcases this with c | c
    · exact n2 (Int32.toInt_inj.mp c)
    · exact n3 (Int32.toInt_inj.mp c)
end OpsLaw
