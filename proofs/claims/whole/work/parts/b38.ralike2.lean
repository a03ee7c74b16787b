/-! ===== the reference: alike, with its head ===== -/
section RAlike2C
variable {G : GG} {M : Mem} {m b : Nat} {Q : Option Value → Mem → Prop}
theorem ur_alike (d : Nat) (hs : ReS M m) (hb1 : 1 < b) (hb3 : b ≤ 3) (h0 : x_i M m 0 = nI b) {x y : Int32} {qc : Nat} {nf : Nat → Nat} {mq : Nat → Mc} (hqc : x_i M m 7 = nI qc) (hq : qc ≤ 10) (hok : ∀ k, k < qc → x_i M (m + 6) k = 0 → x_i M (m + 8) k = -1 → x_i M (m + 9) k = nI (nf k) ∧ nf k < 256 ∧ fn b (nf k) ≤ 27 ∧ ReQ M m k (fn b (nf k)) (mq k) ∧ m_n (mq k) ≤ 40 ∧ (∀ i, i < m_n (mq k) → ∀ g, g < fn b (nf k) → m_s (mq k) i g < m_n (mq k)) ∧ ∀ i, i < m_n (mq k) → m_k (mq k) i ≤ 1)
    (hQ0 : ((∀ k, k < qc → x = nI k → ¬ (x_i M (m + 6) k = 0 ∧ x_i M (m + 8) k = -1)) ∨ ∀ k, k < qc → y = nI k → ¬ (x_i M (m + 6) k = 0 ∧ x_i M (m + 8) k = -1)) → Q (some (.int (-1))) M)
    (hQ1 : ∀ i, i < qc → x = nI i → x_i M (m + 6) i = 0 → x_i M (m + 8) i = -1 → ∀ j, j < qc → y = nI j → x_i M (m + 6) j = 0 → x_i M (m + 8) j = -1 → ∀ r, r ≤ 1 → (r = 1 ↔ pc (nf i) = pc (nf j) ∧ meq (fn b (nf i)) (mq i) (mq j)) → Q (some (.int (nI r))) M) :
    Call G (d + 3) 0 0 mX12_alike [.ref m, .int x, .int y] M Q := by
  refine eX12_alike m _ _ ⟨hs.1, ?_⟩
  refine ur_canAsk d hs hqc hq (fun h => ⟨0, rfl, fun _ => hQ0 (Or.inl h), fun c => absurd rfl c⟩) (fun i hi e g1 g2 => ⟨1, rfl, fun c => absurd c (by decide), fun _ => ⟨hs.1, ?_⟩⟩)
  refine ur_canAsk d hs hqc hq (fun h => ⟨0, rfl, fun c => absurd rfl c, fun _ => hQ0 (Or.inr h)⟩) (fun j hj e2 k1 k2 => ⟨1, rfl, fun _ => ⟨hs.1, m + 9, hs.r9, by rw [hs.h9], by rw [e, hs.h9]; exact vp_in_nI (show i < 10 by omega) (by omega), ?_⟩, fun c => absurd c (by decide)⟩)
  obtain ⟨a1, a2, a3, a4, a5, a6, a7⟩ := hok i hi g1 g2
  obtain ⟨b1, b2, b3, b4, b5, b6, b7⟩ := hok j hj k1 k2
  have hq1 := hQ1 i hi e g1 g2 j hj e2 k1 k2
  have p1 := pc_le (nf i)
  have p2 := pc_le (nf j)
  subst e
  subst e2
  rw [nI_clamp (n := i) (by omega), nI_clamp (n := j) (by omega), a1]
  have none_ : ¬ (pc (nf i) = pc (nf j) ∧ meq (fn b (nf i)) (mq i) (mq j)) → LX12_alike_63 G (d + 2) 0 0 m (nI i) (nI j) 0 0 none M Q := fun hne => vX12_alike_63 _ _ _ _ _ _ rfl ⟨fun _ => ⟨fun _ => hq1 0 (by omega) ⟨fun c => absurd c (by decide), fun c => absurd c hne⟩, fun c => absurd rfl c⟩, fun c => absurd rfl c⟩
  refine u_bits (d + 1) a2 ⟨_, rfl, hs.1, m + 9, hs.r9, by rw [hs.h9], by rw [hs.h9]; exact vp_in_nI (show j < 10 by omega) (by omega), ?_⟩
  rw [b1]
  refine u_bits (d + 1) b2 ⟨_, rfl, ?_⟩
  rw [nI_eq (by omega) (by omega)]
  refine ⟨fun c => none_ (fun h => c h.1), fun c => ⟨hs.1, m + 12, hs.r12, by rw [hs.h12], by rw [hs.h12]; exact vp_in_nI (show i < 10 by omega) (by omega), by rw [hs.h12]; exact vp_in_nI (show j < 10 by omega) (by omega), ?_⟩⟩
  rw [a4.1, b4.1, nI_eq (by omega) (by omega)]
  have hfn : fn b (nf j) = fn b (nf i) := by
    show b ^ pc (nf j) = b ^ pc (nf i)
    rw [c]
  rw [hfn] at b4 b6
  refine ⟨fun c2 => none_ (fun h => c2 h.2.1), fun c2 => ?_⟩
  exact ur_alike63 d hs hb1 hb3 h0 (by omega) (by omega) a1 a2 rfl a3 a4 b4 c2 a5 a6 b6 a7 b7 (fun h => hq1 1 (by omega) ⟨fun _ => ⟨c, h⟩, fun _ => rfl⟩) (fun h => hq1 0 (by omega) ⟨fun c => absurd c (by decide), fun h2 => absurd h2.2 h⟩)
end RAlike2C
