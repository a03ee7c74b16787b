/-! ===== the class: letter ===== -/
section CLetterC
variable {G : GG} {M : Mem} {o b : Nat} {Q : Option Value → Mem → Prop}
theorem w_letter (d : Nat) (ho : (x_h M o).1 = 27) (hb : b = 2 ∨ b = 3) {ra r0 rc : Nat} {R : Nat → Mc} (h0 : x_r M o 0 = some ra) (hrs : RowsS M ra r0) (e11 : x_i M o 11 = nI b) (e12 : x_i M o 12 = nI rc) (hr : rc ≤ 10) (hrow : ∀ i, i < rc → RowG b (R i) ∧ RowI M (r0 + 8 * i) b (R i)) {x : Int32} {a : Int64}
    (hQ0 : ((∀ k, k < rc → x ≠ nI k) ∨ ∀ v, v ≤ 4611686018427387904 → a ≠ lN v) → Q (some (.int (-1))) M)
    (hQ1 : ∀ k, k < rc → x = nI k → ∀ v, v ≤ 4611686018427387904 → a = lN v → Q (some (.int (nI (m_k (R k) (rn (m_s (R k)) 0 (rw_ b 1 v 0 0 64)))))) M) :
    Call G (d + 4) 0 0 mX11_letter [.ref o, .int x, .long a] M Q := by
  refine eX11_letter o _ _ ⟨ho, ?_⟩
  rw [e12, lg_cmp_lt, lg_cmp_le]
  refine w_in0 (d + 2) (by omega) (fun h => ⟨0, rfl, fun _ => hQ0 (Or.inl h), fun c => absurd rfl c⟩) (fun k hk e => ⟨1, rfl, fun c => absurd c (by decide), fun _ => ⟨fun c => hQ0 (Or.inr (fun v hv ea => ?_)), fun c => ?_⟩⟩)
  · rw [ea, show (0 : Int64) = lN 0 from rfl, pk_lLT (by omega) (by omega)] at c
    omega
  · obtain ⟨v, hv63, rfl⟩ := pk_lOf c
    rw [show (4611686018427387904 : Int64) = lN 4611686018427387904 from rfl, pk_lLE hv63 (by omega)]
    refine ⟨fun hv => ?_, fun c2 => hQ0 (Or.inr (fun v' hv' ea => ?_))⟩
    · obtain ⟨⟨⟨β, hcan⟩, g2, g3, g4⟩, hI⟩ := hrow k hk
      obtain ⟨hrr, s1, s2, s3⟩ := hrs.2 k (by omega)
      have hn3 : m_n (R k) * b ^ 1 ≤ 180 := by
        have : m_n (R k) * b ≤ 60 * 3 := Nat.mul_le_mul g2 (by omega)
        rw [Nat.pow_one]
        omega
      have hwd : ∀ e, wd b (rw_ b 1 v 0 0 e) := fun e => by
        have := rw_wd (b := b) (mn := 1) (x := v) (y := 0) (z := 0) (by omega) (by omega) e
        rwa [Nat.pow_one] at this
      refine ⟨ho, ra, h0, by rw [hrs.1]; exact ⟨by decide, by decide⟩, by rw [e, hrs.1]; exact vp_in_nI (show k < 10 by omega) (by omega), r0 + 8 * k, by rw [e, nI_clamp (by omega)]; exact hrr, s1, r0 + 8 * k + 1, s2, s3.1, ?_⟩
      rw [e11]
      refine eX1_reads _ _ _ ⟨s3.1, ?_⟩
      refine w_readsAll d hb (mn := 1) (x := v) (y := 0) (z := 0) (by omega) s3 (by rw [Nat.pow_one]; exact hI) hn3 hcan.1 (by rw [Nat.pow_one]; exact hcan.2.1) hv63 (by omega) (by omega) ⟨_, rfl, _, rfl, s3.1, ?_⟩
      have hlt : ∀ e, rn (m_s (R k)) 0 (rw_ b 1 v 0 0 e) < m_n (R k) := fun e => rn_lt hcan.2.1 _ 0 (hwd e) hcan.1
      refine w_markC (d + 1) s3 hI g2 (hlt _) ⟨_, rfl, ?_⟩
      have h64 := hQ1 k hk e v hv rfl
      have eq : rn (m_s (R k)) 0 (rw_ b 1 v 0 0 64) = rn (m_s (R k)) 0 (rw_ b 1 v 0 0 (if b = 2 then 63 else 40)) := by
        rcases hb with rfl | rfl
        · exact rw_lead (e := 63) g4 (by omega) (by omega) (by omega) (by omega) 1
        · exact rw_lead (e := 40) g4 (by omega) (by omega) (by omega) (by omega) 24
      rw [eq] at h64
      exact h64
    · rw [pk_lEQ hv63 (by omega)] at ea
      omega
end CLetterC
