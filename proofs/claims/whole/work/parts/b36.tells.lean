/-! ===== both: kind, width, takes ===== -/
section TellsC
variable {G : GG} {M : Mem} {o m b : Nat} {Q : Option Value → Mem → Prop}
theorem ur_kind (d : Nat) (hs : ReS M m) {rc : Nat} (hrc : x_i M m 1 = nI rc) (hr : rc ≤ 10) {x : Int32} (hQ0 : (∀ k, k < rc → x ≠ nI k) → Q (some (.int (-1))) M) (hQ1 : ∀ k, k < rc → x = nI k → Q (some (.int (x_i M (m + 1) k))) M) : Call G (d + 3) 0 0 mX12_kind [.ref m, .int x] M Q := by
  refine eX12_kind m _ ⟨hs.1, ur_isRow d hs hrc hr (fun h => ⟨0, rfl, fun _ => hQ0 h, fun c => absurd rfl c⟩) (fun k hk e => ⟨1, rfl, fun c => absurd c (by decide), fun _ => ⟨hs.1, m + 1, hs.r1, by rw [hs.h1], by rw [e, hs.h1]; exact vp_in_nI (show k < 10 by omega) (by omega), ?_⟩⟩)⟩
  have := hQ1 k hk e
  rw [e, nI_clamp (by omega)]
  exact this
theorem ur_width (d : Nat) (hs : ReS M m) {rc : Nat} (hrc : x_i M m 1 = nI rc) (hr : rc ≤ 10) {x : Int32} (hQ0 : (∀ k, k < rc → x ≠ nI k) → Q (some (.int (-1))) M) (hQ1 : ∀ k, k < rc → x = nI k → Q (some (.int (x_i M (m + 2) k))) M) : Call G (d + 3) 0 0 mX12_width [.ref m, .int x] M Q := by
  refine eX12_width m _ ⟨hs.1, ur_isRow d hs hrc hr (fun h => ⟨0, rfl, fun _ => hQ0 h, fun c => absurd rfl c⟩) (fun k hk e => ⟨1, rfl, fun c => absurd c (by decide), fun _ => ⟨hs.1, m + 2, hs.r2, by rw [hs.h2], by rw [e, hs.h2]; exact vp_in_nI (show k < 10 by omega) (by omega), ?_⟩⟩)⟩
  have := hQ1 k hk e
  rw [e, nI_clamp (by omega)]
  exact this
theorem w_kind (d : Nat) (ho : (x_h M o).1 = 27) {ra r0 rc : Nat} (h0 : x_r M o 0 = some ra) (hrs : RowsS M ra r0) (e12 : x_i M o 12 = nI rc) (hr : rc ≤ 10) {x : Int32} (hQ0 : (∀ k, k < rc → x ≠ nI k) → Q (some (.int (-1))) M) (hQ1 : ∀ k, k < rc → x = nI k → Q (some (.int (x_i M (r0 + 8 * k) 1))) M) : Call G (d + 2) 0 0 mX11_kind [.ref o, .int x] M Q := by
  refine eX11_kind o _ ⟨ho, ?_⟩
  rw [e12]
  refine w_in0 d (by omega) (fun h => ⟨0, rfl, fun _ => hQ0 h, fun c => absurd rfl c⟩) (fun k hk e => ⟨1, rfl, fun c => absurd c (by decide), fun _ => ?_⟩)
  obtain ⟨hri, s1, s2, s3⟩ := hrs.2 k (by omega)
  exact ⟨ho, ra, h0, by rw [hrs.1]; exact ⟨by decide, by decide⟩, by rw [e, hrs.1]; exact vp_in_nI (show k < 10 by omega) (by omega), r0 + 8 * k, by rw [e, nI_clamp (by omega)]; exact hri, s1, hQ1 k hk e⟩
theorem w_width (d : Nat) (ho : (x_h M o).1 = 27) {ra r0 rc : Nat} {R : Nat → Mc} (h0 : x_r M o 0 = some ra) (hrs : RowsS M ra r0) (e12 : x_i M o 12 = nI rc) (hr : rc ≤ 10) (hrow : ∀ i, i < rc → RowI M (r0 + 8 * i) b (R i)) {x : Int32} (hQ0 : (∀ k, k < rc → x ≠ nI k) → Q (some (.int (-1))) M) (hQ1 : ∀ k, k < rc → x = nI k → Q (some (.int (nI (m_n (R k))))) M) : Call G (d + 2) 0 0 mX11_width [.ref o, .int x] M Q := by
  refine eX11_width o _ ⟨ho, ?_⟩
  rw [e12]
  refine w_in0 d (by omega) (fun h => ⟨0, rfl, fun _ => hQ0 h, fun c => absurd rfl c⟩) (fun k hk e => ⟨1, rfl, fun c => absurd c (by decide), fun _ => ?_⟩)
  obtain ⟨hri, s1, s2, s3⟩ := hrs.2 k (by omega)
  refine ⟨ho, ra, h0, by rw [hrs.1]; exact ⟨by decide, by decide⟩, by rw [e, hrs.1]; exact vp_in_nI (show k < 10 by omega) (by omega), r0 + 8 * k, by rw [e, nI_clamp (by omega)]; exact hri, s1, r0 + 8 * k + 1, s2, s3.1, ?_⟩
  rw [(hrow k hk).1]
  exact hQ1 k hk e
theorem ur_takes (d : Nat) (hs : ReS M m) {x y : Int32} {qc : Nat} {ff : Nat → Nat} {mq : Nat → Mc} (hqc : x_i M m 7 = nI qc) (hq : qc ≤ 10) (hok : ∀ k, k < qc → x_i M (m + 6) k = 0 → x_i M (m + 8) k = -1 → ReQ M m k (ff k) (mq k) ∧ m_n (mq k) ≤ 40 ∧ ∀ i, i < m_n (mq k) → m_k (mq k) i ≤ 1)
    (hQ0 : (∀ k, k < qc → x = nI k → x_i M (m + 6) k = 0 → x_i M (m + 8) k = -1 → ∀ i, i < m_n (mq k) → y ≠ nI i) → Q (some (.int (-1))) M)
    (hQ1 : ∀ k, k < qc → x = nI k → x_i M (m + 6) k = 0 → x_i M (m + 8) k = -1 → ∀ i, i < m_n (mq k) → y = nI i → Q (some (.int (nI (m_k (mq k) i)))) M) : Call G (d + 3) 0 0 mX12_takes [.ref m, .int x, .int y] M Q := by
  refine eX12_takes m _ _ ⟨hs.1, ?_⟩
  refine ur_canAsk d hs hqc hq (fun h => ⟨0, rfl, fun _ => hQ0 (fun k hk e g1 g2 => absurd ⟨g1, g2⟩ (h k hk e)), fun c => absurd rfl c⟩) (fun k hk e g1 g2 => ⟨1, rfl, fun c => absurd c (by decide), fun _ => ⟨hs.1, m + 12, hs.r12, by rw [hs.h12], by rw [e, hs.h12]; exact vp_in_nI (show k < 10 by omega) (by omega), ?_⟩⟩)
  obtain ⟨hR, hn, hk1⟩ := hok k hk g1 g2
  have one : ∀ k', k' < qc → x = nI k' → k' = k := fun k' hk' e' => by
    rw [e] at e'
    exact ((nI_eq (a := k) (b := k') (by omega) (by omega)).mp e').symm
  rw [e, nI_clamp (by omega), hR.1]
  refine ur_in0 (d + 1) (by omega) (fun h => ⟨0, rfl, fun _ => hQ0 (fun k' hk' e' _ _ i hi => by rw [one k' hk' e'] at hi; exact h i hi), fun c => absurd rfl c⟩) (fun i hi ey => ⟨1, rfl, fun c => absurd c (by decide), fun _ => ⟨hs.1, m + 14, hs.r14, by rw [hs.h14], by rw [ey, e40_, hs.h14]; exact vp_in_nI (show 40 * k + i < 400 by omega) (by omega), ?_⟩⟩)
  have hki := hk1 i hi
  have hq1 := hQ1 k hk e g1 g2 i hi ey
  rw [ey, e40_, nI_clamp (by omega), hR.2.1 i hi, show (0 : Int32) = nI 0 from rfl, nI_eq (by omega) (by omega)]
  refine ⟨fun c => ?_, fun c => ?_⟩
  · rw [c] at hq1; exact hq1
  · rw [show m_k (mq k) i = 1 by omega] at hq1; exact hq1
theorem w_takes (d : Nat) (ho : (x_h M o).1 = 27) {a q0 qc : Nat} {x y : Int32} {ff : Nat → Nat} {mq : Nat → Mc} (h1 : x_r M o 1 = some a) (hqs : QusS M a q0) (hqc : x_i M o 13 = nI qc) (hq : qc ≤ 10) (hok : ∀ k, k < qc → x_i M (q0 + 8 * k) 1 = 0 → x_i M (q0 + 8 * k) 3 = -1 → LeI M (q0 + 8 * k + 1) (q0 + 8 * k + 2) (q0 + 8 * k + 3) (m_n (mq k)) (ff k) (m_s (mq k)) (m_k (mq k)) ∧ m_n (mq k) ≤ 40)
    (hQ0 : (∀ k, k < qc → x = nI k → x_i M (q0 + 8 * k) 1 = 0 → x_i M (q0 + 8 * k) 3 = -1 → ∀ i, i < m_n (mq k) → y ≠ nI i) → Q (some (.int (-1))) M)
    (hQ1 : ∀ k, k < qc → x = nI k → x_i M (q0 + 8 * k) 1 = 0 → x_i M (q0 + 8 * k) 3 = -1 → ∀ i, i < m_n (mq k) → y = nI i → Q (some (.int (nI (m_k (mq k) i)))) M) : Call G (d + 3) 0 0 mX11_takes [.ref o, .int x, .int y] M Q := by
  refine eX11_takes o _ _ ⟨ho, ?_⟩
  refine w_asked d ho h1 hqs hqc hq (fun h => ⟨none, rfl, fun _ => hQ0 (fun k hk e g1 g2 => absurd ⟨g1, g2⟩ (h k hk e)), fun v5 e => (by cases e)⟩) (fun k hk e g1 g2 => ⟨some (q0 + 8 * k + 1), rfl, fun c => (by cases c), fun v5 ev => ?_⟩)
  cases ev
  obtain ⟨hI, hn⟩ := hok k hk g1 g2
  obtain ⟨hr, s1, s2, s3⟩ := hqs.2 k (by omega)
  have one : ∀ k', k' < qc → x = nI k' → k' = k := fun k' hk' e' => by
    rw [e] at e'
    exact ((nI_eq (a := k) (b := k') (by omega) (by omega)).mp e').symm
  refine ⟨s3.1, ?_⟩
  rw [hI.1]
  refine w_in0 (d + 1) (by omega) (fun h => ⟨0, rfl, fun c => absurd rfl c, fun _ => hQ0 (fun k' hk' e' _ _ i hi => by rw [one k' hk' e'] at hi; exact h i hi)⟩) (fun i hi ey => ⟨1, rfl, fun _ => ⟨s3.1, ?_⟩, fun c => absurd c (by decide)⟩)
  rw [ey]
  exact w_markC d s3 hI hn hi ⟨_, rfl, hQ1 k hk e g1 g2 i hi ey⟩
end TellsC
