/-! ===== both: step ===== -/
section StepsC
variable {G : GG} {M : Mem} {o m b : Nat} {Q : Option Value → Mem → Prop}
theorem ur_step (d : Nat) (hs : ReS M m) (h0 : x_i M m 0 = nI b) {x y z : Int32} {qc : Nat} {nf : Nat → Nat} {mq : Nat → Mc} (hqc : x_i M m 7 = nI qc) (hq : qc ≤ 10) (hok : ∀ k, k < qc → x_i M (m + 6) k = 0 → x_i M (m + 8) k = -1 → x_i M (m + 9) k = nI (nf k) ∧ nf k < 256 ∧ fn b (nf k) ≤ 27 ∧ ReQ M m k (fn b (nf k)) (mq k) ∧ m_n (mq k) ≤ 40)
    (hQ0 : (∀ k, k < qc → x = nI k → x_i M (m + 6) k = 0 → x_i M (m + 8) k = -1 → (∀ i, i < m_n (mq k) → y ≠ nI i) ∨ ∀ g, g < fn b (nf k) → z ≠ nI g) → Q (some (.int (-1))) M)
    (hQ1 : ∀ k, k < qc → x = nI k → x_i M (m + 6) k = 0 → x_i M (m + 8) k = -1 → ∀ i, i < m_n (mq k) → y = nI i → ∀ g, g < fn b (nf k) → z = nI g → Q (some (.int (nI (m_s (mq k) i g)))) M) : Call G (d + 3) 0 0 mX12_step [.ref m, .int x, .int y, .int z] M Q := by
  refine eX12_step m _ _ _ ⟨hs.1, ?_⟩
  refine ur_canAsk d hs hqc hq (fun h => ⟨0, rfl, fun _ => hQ0 (fun k hk e g1 g2 => absurd ⟨g1, g2⟩ (h k hk e)), fun c => absurd rfl c⟩) (fun k hk e g1 g2 => ⟨1, rfl, fun c => absurd c (by decide), fun _ => ⟨hs.1, m + 12, hs.r12, by rw [hs.h12], by rw [e, hs.h12]; exact vp_in_nI (show k < 10 by omega) (by omega), ?_⟩⟩)
  obtain ⟨h9, hn8, h27, hR, hn⟩ := hok k hk g1 g2
  have one : ∀ k', k' < qc → x = nI k' → k' = k := fun k' hk' e' => by
    rw [e] at e'
    exact ((nI_eq (a := k) (b := k') (by omega) (by omega)).mp e').symm
  rw [e, nI_clamp (by omega), hR.1]
  refine ur_in0 (d + 1) (by omega) (fun h => ⟨0, rfl, fun c => absurd rfl c, fun _ => hQ0 (fun k' hk' e' _ _ => Or.inl (by rw [one k' hk' e']; exact h))⟩) (fun i hi ey => ⟨1, rfl, fun _ => ⟨hs.1, m + 9, hs.r9, by rw [hs.h9], by rw [hs.h9]; exact vp_in_nI (show k < 10 by omega) (by omega), ?_⟩, fun c => absurd c (by decide)⟩)
  rw [h9]
  refine u_across d hs h0 hn8 ⟨_, rfl, ?_⟩
  refine ur_in0 (d + 1) (by omega) (fun h => ⟨0, rfl, fun _ => hQ0 (fun k' hk' e' _ _ => Or.inr (by rw [one k' hk' e']; exact h)), fun c => absurd rfl c⟩) (fun g hg ez => ⟨1, rfl, fun c => absurd c (by decide), fun _ => ⟨hs.1, ?_⟩⟩)
  have hq1 := hQ1 k hk e g1 g2 i hi ey g hg ez
  rw [ey, ez]
  exact ur_to (d + 1) hs hR (by omega) hn h27 hi hg ⟨_, rfl, hq1⟩
theorem w_step (d : Nat) (ho : (x_h M o).1 = 27) {a q0 qc : Nat} {x y z : Int32} {ff : Nat → Nat} {mq : Nat → Mc} (h1 : x_r M o 1 = some a) (hqs : QusS M a q0) (hqc : x_i M o 13 = nI qc) (hq : qc ≤ 10) (hok : ∀ k, k < qc → x_i M (q0 + 8 * k) 1 = 0 → x_i M (q0 + 8 * k) 3 = -1 → LeI M (q0 + 8 * k + 1) (q0 + 8 * k + 2) (q0 + 8 * k + 3) (m_n (mq k)) (ff k) (m_s (mq k)) (m_k (mq k)) ∧ m_n (mq k) ≤ 40 ∧ ff k ≤ 27)
    (hQ0 : (∀ k, k < qc → x = nI k → x_i M (q0 + 8 * k) 1 = 0 → x_i M (q0 + 8 * k) 3 = -1 → (∀ i, i < m_n (mq k) → y ≠ nI i) ∨ ∀ g, g < ff k → z ≠ nI g) → Q (some (.int (-1))) M)
    (hQ1 : ∀ k, k < qc → x = nI k → x_i M (q0 + 8 * k) 1 = 0 → x_i M (q0 + 8 * k) 3 = -1 → ∀ i, i < m_n (mq k) → y = nI i → ∀ g, g < ff k → z = nI g → Q (some (.int (nI (m_s (mq k) i g)))) M) : Call G (d + 3) 0 0 mX11_step [.ref o, .int x, .int y, .int z] M Q := by
  refine eX11_step o _ _ _ ⟨ho, ?_⟩
  refine w_asked d ho h1 hqs hqc hq (fun h => ⟨none, rfl, fun _ => hQ0 (fun k hk e g1 g2 => absurd ⟨g1, g2⟩ (h k hk e)), fun v5 e => (by cases e)⟩) (fun k hk e g1 g2 => ⟨some (q0 + 8 * k + 1), rfl, fun c => (by cases c), fun v5 ev => ?_⟩)
  cases ev
  obtain ⟨hI, hn, hf⟩ := hok k hk g1 g2
  obtain ⟨hr, s1, s2, s3⟩ := hqs.2 k (by omega)
  have one : ∀ k', k' < qc → x = nI k' → k' = k := fun k' hk' e' => by
    rw [e] at e'
    exact ((nI_eq (a := k) (b := k') (by omega) (by omega)).mp e').symm
  have hnf : m_n (mq k) * ff k ≤ 1080 := by
    have := Nat.mul_le_mul hn hf
    omega
  refine ⟨s3.1, ?_⟩
  rw [hI.1]
  refine w_in0 (d + 1) (by omega) (fun h => ⟨0, rfl, fun _ => hQ0 (fun k' hk' e' _ _ => Or.inl (by rw [one k' hk' e']; exact h)), fun c => absurd rfl c⟩) (fun i hi ey => ⟨1, rfl, fun c => absurd c (by decide), fun _ => ⟨s3.1, ?_⟩⟩)
  rw [hI.2.1]
  refine w_in0 (d + 1) (by omega) (fun h => ⟨0, rfl, fun c => absurd rfl c, fun _ => hQ0 (fun k' hk' e' _ _ => Or.inr (by rw [one k' hk' e']; exact h))⟩) (fun g hg ez => ⟨1, rfl, fun _ => ⟨s3.1, ?_⟩, fun c => absurd c (by decide)⟩)
  have hq1 := hQ1 k hk e g1 g2 i hi ey g hg ez
  rw [ey, ez]
  exact w_afterC (d + 1) s3 hI hnf hi hg ⟨_, rfl, hq1⟩
end StepsC
