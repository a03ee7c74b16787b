/-! ===== the reference: letter ===== -/
section RLetterC
variable {G : GG} {M : Mem} {m b : Nat} {Q : Option Value → Mem → Prop}
theorem ur_letter (d : Nat) (hs : ReS M m) (hb1 : 1 < b) (hb3 : b ≤ 3) (h0 : x_i M m 0 = nI b) {rc : Nat} {R : Nat → Mc} (hrc : x_i M m 1 = nI rc) (hr : rc ≤ 10) (hrow : ∀ r, r < rc → RowG b (R r) ∧ ReR M m r b (R r)) {x : Int32} {a : Int64}
    (hQ0 : ((∀ k, k < rc → x ≠ nI k) ∨ ∀ v, v ≤ 4611686018427387904 → a ≠ lN v) → Q (some (.int (-1))) M)
    (hQ1 : ∀ k, k < rc → x = nI k → ∀ v, v ≤ 4611686018427387904 → a = lN v → ∀ M', FrM M M' m [] [58] → Q (some (.int (nI (m_k (R k) (rn (m_s (R k)) 0 (rw_ b 1 v 0 0 64)))))) M') :
    Call G (d + 3) 0 0 mX12_letter [.ref m, .int x, .long a] M Q := by
  refine eX12_letter m _ _ ⟨hs.1, ?_⟩
  refine ur_isRow d hs hrc hr (fun h => ⟨0, rfl, fun _ => hQ0 (Or.inl h), fun c => absurd rfl c⟩) (fun k hk e => ⟨1, rfl, fun c => absurd c (by decide), fun _ => ?_⟩)
  refine ur_isOutside (d + 1) (fun h => ⟨1, rfl, fun c => absurd c (by decide), fun _ => hQ0 (Or.inr h)⟩) (fun v hv ea => ⟨0, rfl, fun _ => ⟨hs.1, ?_⟩, fun c => absurd rfl c⟩)
  subst e
  subst ea
  obtain ⟨⟨⟨β, hcan⟩, g2, g3, g4⟩, hR⟩ := hrow k hk
  refine ur_digitsOf (d + 1) hs hb1 hb3 h0 (w := 0) (places := 64) (by omega) (by omega) (by omega) (by omega) (fun M1 g1 h1 h2 => ⟨rfl, ?_⟩)
  refine ur_letter35 (d + 1) (g1.S hs) hb1 hb3 (by omega) (hR.fr g1 (by decide)) hcan.1 g2 hcan.2.1 (v := v) (fun k' hk' => ?_) (hQ1 k hk rfl v hv rfl M1 g1)
  have := h1 k' hk'
  rw [show 110 * 0 + k' = k' by omega, show 64 - 1 - k' = 63 - k' by omega] at this
  exact this
end RLetterC
