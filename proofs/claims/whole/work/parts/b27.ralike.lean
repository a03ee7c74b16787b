/-! ===== the reference: alike ===== -/
section RAlikeC
variable {G : GG} {M : Mem} {m b : Nat} {Q : Option Value → Mem → Prop}
theorem ur_alike63 (d : Nat) (hs : ReS M m) (hb1 : 1 < b) (hb3 : b ≤ 3) (h0 : x_i M m 0 = nI b) {qa qb names f : Nat} {ma mb : Mc} (hqa : qa < 10) (hqb : qb < 10) (hnm : x_i M (m + 9) qa = nI names) (hnames : names < 256) (hf : fn b names = f) (hf27 : f ≤ 27) (hA : ReQ M m qa f ma) (hB : ReQ M m qb f mb) (hn : m_n ma = m_n mb) (hn40 : m_n ma ≤ 40) (hca : ∀ i, i < m_n ma → ∀ g, g < f → m_s ma i g < m_n ma) (hcb : ∀ i, i < m_n mb → ∀ g, g < f → m_s mb i g < m_n mb) (hka : ∀ i, i < m_n ma → m_k ma i ≤ 1) (hkb : ∀ i, i < m_n mb → m_k mb i ≤ 1)
    (hq1 : meq f ma mb → Q (some (.int 1)) M) (hq0 : ¬ meq f ma mb → Q (some (.int 0)) M) : LX12_alike_63 G (d + 2) 0 0 m (nI qa) (nI qb) 1 (nI 0) none M Q := by
  have zero : ¬ meq f ma mb → ∀ x4 z, c1 z = true → LX12_alike_63 G (d + 2) 0 0 m (nI qa) (nI qb) 0 x4 z M Q := fun hne x4 z hz => vX12_alike_63 _ _ _ _ _ _ hz ⟨fun _ => ⟨fun _ => hq0 hne, fun c => absurd rfl c⟩, fun c => absurd rfl c⟩
  have zero2 : ¬ meq f ma mb → ∀ x4 x5, LX12_alike_114 G (d + 2) 0 0 m (nI qa) (nI qb) 0 x4 x5 M Q := fun hne x4 x5 => vX12_alike_114 _ _ _ _ _ _ ⟨fun _ => zero hne _ _ rfl, fun c => absurd rfl c⟩
  have inner : ∀ i, i < m_n ma → (∀ z, c1 z = true → (∀ g, g < f → m_s ma i g = m_s mb i g) → LX12_alike_63 G (d + 2) 0 0 m (nI qa) (nI qb) 1 (nI (i + 1)) z M Q) → ∀ r k, k + r = f → (∀ g, g < k → m_s ma i g = m_s mb i g) → LX12_alike_114 G (d + 2) 0 0 m (nI qa) (nI qb) 1 (nI i) (nI k) M Q := by
    intro i hi hout r
    induction r with
    | zero =>
      intro k hk h
      have e : k = f := by omega
      subst e
      refine vX12_alike_114 _ _ _ _ _ _ ⟨fun c => absurd c (by decide), fun _ => ⟨hs.1, m + 9, hs.r9, by rw [hs.h9], by rw [hs.h9]; exact vp_in_nI hqa (by omega), ?_⟩⟩
      rw [nI_clamp (by omega), hnm]
      refine u_across d hs h0 hnames ⟨_, rfl, fun _ => ?_, fun c => absurd (by rw [hf]; exact nI_le (Nat.le_refl _) (by omega)) c⟩
      rw [nI_1]
      exact hout _ rfl h
    | succ r ih =>
      intro k hk h
      have hkf : k < f := by omega
      have s1 := hca i hi k hkf
      have s2 := hcb i (by omega) k hkf
      refine vX12_alike_114 _ _ _ _ _ _ ⟨fun c => absurd c (by decide), fun _ => ⟨hs.1, m + 9, hs.r9, by rw [hs.h9], by rw [hs.h9]; exact vp_in_nI hqa (by omega), ?_⟩⟩
      rw [nI_clamp (by omega), hnm]
      refine u_across d hs h0 hnames ⟨_, rfl, fun c => absurd (by rw [hf] at c; exact c) (nI_ge (a := k) (b := f) (by omega) (by omega)), fun _ => ⟨hs.1, ?_⟩⟩
      refine ur_to (d + 1) hs hA hqa hn40 hf27 hi hkf ⟨_, rfl, hs.1, ?_⟩
      refine ur_to (d + 1) hs hB hqb (by omega) hf27 (by omega) hkf ⟨_, rfl, ?_⟩
      rw [nI_eq (by omega) (by omega), nI_1]
      refine ⟨fun c => zero2 (fun q => c ((q.2 i hi).2 k hkf)) _ _, fun c => ih (k + 1) (by omega) (fun g hg => ?_)⟩
      by_cases e : g = k
      · rw [e]; exact c
      · exact h g (by omega)
  have outer : ∀ r i, i + r = m_n ma → (∀ t, t < i → m_k ma t = m_k mb t ∧ ∀ g, g < f → m_s ma t g = m_s mb t g) → ∀ z, c1 z = true → LX12_alike_63 G (d + 2) 0 0 m (nI qa) (nI qb) 1 (nI i) z M Q := by
    intro r
    induction r with
    | zero =>
      intro i hi h z hz
      have e : i = m_n ma := by omega
      refine vX12_alike_63 _ _ _ _ _ _ hz ⟨fun c => absurd c (by decide), fun _ => ⟨hs.1, m + 12, hs.r12, by rw [hs.h12], by rw [hs.h12]; exact vp_in_nI hqa (by omega), fun _ => ⟨fun c => absurd c (by decide), fun _ => hq1 ⟨hn, fun t ht => h t (by omega)⟩⟩, fun c => absurd (by rw [nI_clamp (by omega), hA.1, e]; exact nI_le (Nat.le_refl _) (by omega)) c⟩⟩
    | succ r ih =>
      intro i hi h z hz
      have il : i < m_n ma := by omega
      have k1 := hka i il
      have k2 := hkb i (by omega)
      refine vX12_alike_63 _ _ _ _ _ _ hz ⟨fun c => absurd c (by decide), fun _ => ⟨hs.1, m + 12, hs.r12, by rw [hs.h12], by rw [hs.h12]; exact vp_in_nI hqa (by omega), fun c => absurd (by rw [nI_clamp (by omega), hA.1] at c; exact c) (nI_ge (a := i) (b := m_n ma) (by omega) (by omega)), fun _ => ⟨m + 14, hs.r14, by rw [hs.h14], by rw [e40_, hs.h14]; exact vp_in_nI (show 40 * qa + i < 400 by omega) (by omega), by rw [e40_, hs.h14]; exact vp_in_nI (show 40 * qb + i < 400 by omega) (by omega), ?_⟩⟩⟩
      rw [e40_, e40_, nI_clamp (n := 40 * qa + i) (by omega), nI_clamp (n := 40 * qb + i) (by omega), hA.2.1 i il, hB.2.1 i (by omega), nI_eq (by omega) (by omega)]
      refine ⟨fun c => zero2 (fun q => c (q.2 i il).1) _ _, fun c => inner i il (fun z hz hg => ih (i + 1) (by omega) (fun t ht => ?_) z hz) f 0 (Nat.zero_add f) (fun g hg => absurd hg (Nat.not_lt_zero g))⟩
      by_cases e : t = i
      · rw [e]; exact ⟨c, hg⟩
      · exact h t (by omega)
  exact outer (m_n ma) 0 (Nat.zero_add _) (fun t ht => absurd ht (Nat.not_lt_zero t)) none rfl
end RAlikeC
