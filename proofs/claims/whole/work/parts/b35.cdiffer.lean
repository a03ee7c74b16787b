/-! ===== the class: differ, with its head ===== -/
section CDifferC
variable {G : GG} {M : Mem} {o b : Nat} {Q : Option Value → Mem → Prop}
theorem w_differ (d : Nat) (ho : (x_h M o).1 = 27) (hb1 : 1 < b) (hb3 : b ≤ 3) {ra r0 rc r : Nat} {R : Nat → Mc} (h0 : x_r M o 0 = some ra) (h9 : x_r M o 9 = some r) (hk : RkS M r) (hrd : r + 9 < r0) (hrs : RowsS M ra r0) (e11 : x_i M o 11 = nI b) (e12 : x_i M o 12 = nI rc) (hr : rc ≤ 10) (hrow : ∀ i, i < rc → RowG b (R i) ∧ RowI M (r0 + 8 * i) b (R i)) {x y : Int32}
    (hQ0 : ((∀ k, k < rc → x ≠ nI k) ∨ ∀ k, k < rc → y ≠ nI k) → Q (some (.long (-2))) M)
    (hQ1 : ∀ i, i < rc → x = nI i → ∀ j, j < rc → y = nI j → ∀ M' res, Fr M M' [r + 1, r + 2, r + 3] → DfR (ppD (m_s (R i)) (m_s (R j))) b (fun x => m_k (R i) (x / 60) = m_k (R j) (x % 60)) res → Q (some (.long res)) M') :
    Call G (d + 4) 0 0 mX11_differ [.ref o, .int x, .int y] M Q := by
  refine eX11_differ o _ _ ⟨ho, ?_⟩
  rw [e12]
  refine w_in0 (d + 2) (by omega) (fun h => ⟨0, rfl, fun _ => hQ0 (Or.inl h), fun c => absurd rfl c⟩) (fun i hi e => ⟨1, rfl, fun c => absurd c (by decide), fun _ => ⟨ho, ?_⟩⟩)
  rw [e12]
  refine w_in0 (d + 2) (by omega) (fun h => ⟨0, rfl, fun c => absurd rfl c, fun _ => hQ0 (Or.inr h)⟩) (fun j hj e2 => ⟨1, rfl, fun _ => ⟨ho, ?_⟩, fun c => absurd c (by decide)⟩)
  obtain ⟨⟨⟨β, hcan⟩, g2, g3, g4⟩, hI⟩ := hrow i hi
  obtain ⟨⟨⟨β', hcan'⟩, k2, k3, k4⟩, hI'⟩ := hrow j hj
  obtain ⟨hri, s1, s2, s3⟩ := hrs.2 i (by omega)
  obtain ⟨hrj, t1, t2, t3⟩ := hrs.2 j (by omega)
  refine ⟨r, h9, ra, h0, by rw [hrs.1]; exact ⟨by decide, by decide⟩, by rw [e, hrs.1]; exact vp_in_nI (show i < 10 by omega) (by omega), r0 + 8 * i, by rw [e, nI_clamp (by omega)]; exact hri, s1, r0 + 8 * i + 1, s2, by rw [e2, hrs.1]; exact vp_in_nI (show j < 10 by omega) (by omega), r0 + 8 * j, by rw [e2, nI_clamp (by omega)]; exact hrj, t1, r0 + 8 * j + 1, t2, hk.1, ?_⟩
  rw [e11]
  refine w_leastUnlike d hk hb1 hb3 s3 hI t3 hI' (fun q hq => ?_) (fun q hq => ?_) ⟨hcan.1, g2⟩ ⟨hcan'.1, k2⟩ hcan.2.1 hcan'.2.1 g3 k3 (fun M' res f1 f2 => ⟨_, rfl, hQ1 i hi e j hj e2 M' res f1 f2⟩)
  · simp at hq; omega
  · simp at hq; omega
end CDifferC
