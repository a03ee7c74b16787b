/-! ===== the reference: differ, with its head ===== -/
section RDiffer2C
variable {G : GG} {M : Mem} {m b : Nat} {Q : Option Value → Mem → Prop}
theorem ur_differ (d : Nat) (hs : ReS M m) (hb1 : 1 < b) (hb3 : b ≤ 3) (h0 : x_i M m 0 = nI b) {rc : Nat} {R : Nat → Mc} (hrc : x_i M m 1 = nI rc) (hr : rc ≤ 10) (hrow : ∀ r, r < rc → RowG b (R r) ∧ ReR M m r b (R r)) {x y : Int32}
    (hQ0 : ((∀ k, k < rc → x ≠ nI k) ∨ ∀ k, k < rc → y ≠ nI k) → Q (some (.long (-2))) M)
    (hQ1 : ∀ i, i < rc → x = nI i → ∀ j, j < rc → y = nI j → ∀ M' res, FrM M M' m [25] [27, 28, 29, 59] → DfR (ppD (m_s (R i)) (m_s (R j))) b (fun x => m_k (R i) (x / 60) = m_k (R j) (x % 60)) res → Q (some (.long res)) M') :
    Call G (d + 5) 0 0 mX12_differ [.ref m, .int x, .int y] M Q := by
  refine eX12_differ m _ _ ⟨hs.1, ?_⟩
  refine ur_isRow (d + 2) hs hrc hr (fun h => ⟨0, rfl, fun _ => hQ0 (Or.inl h), fun c => absurd rfl c⟩) (fun i hi e => ⟨1, rfl, fun c => absurd c (by decide), fun _ => ⟨hs.1, ?_⟩⟩)
  refine ur_isRow (d + 2) hs hrc hr (fun h => ⟨0, rfl, fun c => absurd rfl c, fun _ => hQ0 (Or.inr h)⟩) (fun j hj e2 => ⟨1, rfl, fun _ => ⟨hs.1, ?_⟩, fun c => absurd c (by decide)⟩)
  subst e
  subst e2
  obtain ⟨⟨⟨β, hcan⟩, g2, g3, g4⟩, hR⟩ := hrow i hi
  obtain ⟨⟨⟨β', hcan'⟩, k2, k3, k4⟩, hR'⟩ := hrow j hj
  refine ur_noPairs (d + 2) hs (fun M1 f1 hpr => ⟨rfl, (f1.S hs).1, ?_⟩)
  have s1 := f1.S hs
  refine ⟨m + 59, s1.r59, by rw [s1.h59], by rw [s1.h59]; exact vp_in_nI (show 0 < 8400 by omega) (by omega), ?_⟩
  rintro M18 rfl
  have hz0 : (0 : Int32).toNatClampNeg = 0 := rfl
  rw [hz0]
  have f2 : FrM M1 (x_sl M1 (m + 59) 0 0) m [] [59] := FrM.rf.sl (by decide) (by decide)
  have f3 : FrM M (x_sl M1 (m + 59) 0 0) m [25] [27, 28, 29, 59] := (f1.wk (by decide) (by decide)).tr f2 (by decide) (by decide)
  refine ur_bDiffer d (f2.S s1) hb1 hb3 (by rw [f3.fm (by decide)]; exact h0) (by omega) (by omega) (hR.fr f3 (by decide)) (hR'.fr f3 (by decide)) ⟨hcan.1, g2⟩ ⟨hcan'.1, k2⟩ hcan.2.1 hcan'.2.1 g3 k3 g4 k4 (hpr.fr f2 (by decide) (by decide)) (fun t ht => ?_) (fun M' res q1 q2 => hQ1 i hi rfl j hj rfl M' res (f3.tr q1 (by decide) (by decide)) q2)
  have ht' : t < 1 := ht
  have e : t = 0 := by omega
  subst e
  rw [xl_eq]
  rfl
end RDiffer2C
