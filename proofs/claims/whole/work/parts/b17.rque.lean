/-! ===== the reference: a question's machine is laid down ===== -/
section RQueC
variable {G : GG} {M : Mem} {m b : Nat} {Q : Option Value → Mem → Prop}
theorem ur_pTo0 (d : Nat) (hs : ReS M m) {p i k : Nat} (hp : p < 130) (hi : i < 40) (hk : k < 27) (hQ : Q (some (.int (x_i M (m + 49) (27 * (40 * p + i) + k)))) M) : Call G (d + 1) 0 0 mX12_pTo [.ref m, .int (nI p), .int (nI i), .int (nI k)] M Q := by
  refine eX12_pTo m _ _ _ ⟨hs.1, m + 49, hs.r49, by rw [hs.h49], by rw [e40_, e27_, hs.h49]; exact vp_in_nI (show 27 * (40 * p + i) + k < 140400 by omega) (by omega), ?_⟩
  rw [e40_, e27_, nI_clamp (by omega)]
  exact hQ
/-- the machine of question q -/
def ReQ (M : Mem) (m q f : Nat) (mc : Mc) : Prop := x_i M (m + 12) q = nI (m_n mc) ∧ (∀ i, i < m_n mc → x_i M (m + 14) (40 * q + i) = nI (m_k mc i)) ∧ ∀ i, i < m_n mc → ∀ k, k < f → x_i M (m + 13) (27 * (40 * q + i) + k) = nI (m_s mc i k)
/-- the other questions stay -/
def QuK (M M' : Mem) (m q : Nat) : Prop := (∀ o, 5 ≤ o → o ≤ 12 → ∀ t, t ≠ q → x_i M' (m + o) t = x_i M (m + o) t) ∧ (∀ t, t < 1080 * q ∨ 1080 * q + 1080 ≤ t → x_i M' (m + 13) t = x_i M (m + 13) t) ∧ ∀ t, t < 40 * q ∨ 40 * q + 40 ≤ t → x_i M' (m + 14) t = x_i M (m + 14) t
theorem QuK.rf {q : Nat} : QuK M M m q := ⟨fun _ _ _ _ _ => rfl, fun _ _ => rfl, fun _ _ => rfl⟩
theorem QuK.tr {M' M'' : Mem} {q : Nat} (h : QuK M M' m q) (g : QuK M' M'' m q) : QuK M M'' m q := ⟨fun o h1 h2 t ht => (g.1 o h1 h2 t ht).trans (h.1 o h1 h2 t ht), fun t ht => (g.2.1 t ht).trans (h.2.1 t ht), fun t ht => (g.2.2 t ht).trans (h.2.2 t ht)⟩
theorem QuK.of {M' : Mem} {q : Nat} {F A : List Nat} (g : FrM M M' m F A) (h : ∀ o ∈ A, o < 5 ∨ 14 < o) : QuK M M' m q := by
  have hn : ∀ o, 5 ≤ o → o ≤ 14 → x_i M' (m + o) = x_i M (m + o) := fun o h1 h2 => g.i (by omega) (fun q => by have := h o q; omega)
  exact ⟨fun o h1 h2 t _ => by rw [hn o h1 (by omega)], fun t _ => by rw [hn 13 (by omega) (by omega)], fun t _ => by rw [hn 14 (by omega) (by omega)]⟩
theorem QuK.si {q o : Nat} {v : Int32} (h1 : 5 ≤ o) (h2 : o ≤ 12) : QuK M (x_si M (m + o) q v) m q := by
  refine ⟨fun o' g1 g2 t ht => ?_, fun t _ => by rw [xm_oo (by omega)], fun t _ => by rw [xm_oo (by omega)]⟩
  by_cases e : o' = o
  · rw [e, xi_nk ht]
  · rw [xm_oo e]
theorem QuK.keep {M' : Mem} {q q' f : Nat} {mc : Mc} (h : QuK M M' m q) (hq : q' ≠ q) (hn : m_n mc ≤ 40) (hf : f ≤ 27) (g : ReQ M m q' f mc) : ReQ M' m q' f mc := by
  obtain ⟨k1, k2, k3⟩ := h
  obtain ⟨g1, g2, g3⟩ := g
  exact ⟨by rw [k1 12 (by omega) (by omega) q' hq]; exact g1, fun i hi => by rw [k3 _ (by omega)]; exact g2 i hi, fun i hi k hk => by rw [k2 _ (by omega)]; exact g3 i hi k hk⟩
theorem ur_qcopy (d : Nat) (hs : ReS M m) {q last f : Nat} {mc : Mc} (hq : q < 10) (hl : last < 130) (hP : ReP M m last f mc) (hn : m_n mc ≤ 40) (hk : ∀ i, i < m_n mc → m_k mc i ≤ 1) (hsp : x_i M (m + 8) q = -1)
    (hQ : ∀ M', FrM M M' m [] [13, 14] → QuK M M' m q → (∀ i, i < m_n mc → x_i M' (m + 14) (40 * q + i) = nI (m_k mc i)) → (∀ i, i < m_n mc → ∀ k, k < f → k < 27 → x_i M' (m + 13) (27 * (40 * q + i) + k) = nI (m_s mc i k)) → Call G (d + 8) 0 0 mX12_done [.ref m, .int (nI q)] M' (fun r6 M7 => ∃ v8 : Int32, r6 = some (.int v8) ∧ Q (some (.int v8)) M7)) :
    LX12_question_269 G (d + 8) 0 0 m (nI q) (nI last) (nI 0) none M Q := by
  have hcq : (nI q).toNatClampNeg = q := nI_clamp (by omega)
  have hcl : (nI last).toNatClampNeg = last := nI_clamp (by omega)
  have fr0 : ∀ {M' : Mem}, FrM M M' m [] [13, 14] → ReS M' m ∧ x_i M' (m + 8) q = -1 ∧ ReP M' m last f mc := fun g => ⟨g.S hs, by rw [g.i (by decide) (by decide)]; exact hsp, hP.fr g (by decide)⟩
  have inner : ∀ i, i < m_n mc → (∀ M' z, c1 z = true → FrM M M' m [] [13, 14] → QuK M M' m q → (∀ t, t < i + 1 → x_i M' (m + 14) (40 * q + t) = nI (m_k mc t)) → (∀ t, t < i + 1 → ∀ k, k < f → k < 27 → x_i M' (m + 13) (27 * (40 * q + t) + k) = nI (m_s mc t k)) → LX12_question_269 G (d + 8) 0 0 m (nI q) (nI last) (nI (i + 1)) z M' Q) →
      ∀ r k, k + r = 27 → ∀ M', FrM M M' m [] [13, 14] → QuK M M' m q → (∀ t, t < i + 1 → x_i M' (m + 14) (40 * q + t) = nI (m_k mc t)) → (∀ t, t < i → ∀ k, k < f → k < 27 → x_i M' (m + 13) (27 * (40 * q + t) + k) = nI (m_s mc t k)) → (∀ k', k' < k → k' < f → x_i M' (m + 13) (27 * (40 * q + i) + k') = nI (m_s mc i k')) → LX12_question_314 G (d + 8) 0 0 m (nI q) (nI last) (nI i) (nI k) M' Q := by
    intro i hi hout r
    induction r with
    | zero =>
      intro k hk' M' hfr hqk h1 h2 h3
      refine vX12_question_314 _ _ _ _ _ ⟨fun _ => ?_, fun c => absurd (by rw [show k = 27 by omega]; decide) c⟩
      rw [nI_1]
      refine hout M' _ rfl hfr hqk h1 (fun t ht k' g1 g2 => ?_)
      by_cases e : t = i
      · rw [e]; exact h3 k' (by omega) g1
      · exact h2 t (by omega) k' g1 g2
    | succ r ih =>
      intro k hk' M' hfr hqk h1 h2 h3
      obtain ⟨q1, q2, q3⟩ := fr0 hfr
      refine vX12_question_314 _ _ _ _ _ ⟨fun c => absurd c (nI_ge (a := k) (b := 27) (by omega) (by omega)), fun _ => ⟨q1.1, m + 13, q1.r13, ur_pTo0 (d + 7) q1 hl (show i < 40 by omega) (show k < 27 by omega) ⟨_, rfl, by rw [q1.h13], by rw [e40_, e27_, q1.h13]; exact vp_in_nI (show 27 * (40 * q + i) + k < 10800 by omega) (by omega), ?_⟩⟩⟩
      rintro M3 rfl
      rw [e40_, e27_, nI_clamp (by omega), nI_1]
      refine ih (k + 1) (by omega) _ (hfr.si (by decide) (by decide)) (hqk.tr ⟨fun o g1 g2 t _ => by rw [xm_oo (by omega)], fun t ht => by rw [xi_nk (by omega)], fun t _ => by rw [xm_oo (by decide)]⟩) (fun t ht => by rw [xm_oo (by decide)]; exact h1 t ht) (fun t ht k' g1 g2 => by rw [xi_nk (by omega)]; exact h2 t ht k' g1 g2) (fun k' g1 g2 => ?_)
      by_cases e : k' = k
      · rw [e, xi_eq]
        rw [e] at g2
        exact q3.2.2 i hi k g2
      · rw [xi_nk (by omega)]; exact h3 k' (by omega) g2
  have outer : ∀ r i, i + r = m_n mc → ∀ M', FrM M M' m [] [13, 14] → QuK M M' m q → (∀ t, t < i → x_i M' (m + 14) (40 * q + t) = nI (m_k mc t)) → (∀ t, t < i → ∀ k, k < f → k < 27 → x_i M' (m + 13) (27 * (40 * q + t) + k) = nI (m_s mc t k)) → ∀ z, c1 z = true → LX12_question_269 G (d + 8) 0 0 m (nI q) (nI last) (nI i) z M' Q := by
    intro r
    induction r with
    | zero =>
      intro i hi M' hfr hqk h1 h2 z hz
      obtain ⟨q1, q2, q3⟩ := fr0 hfr
      have e : i = m_n mc := by omega
      refine vX12_question_269 _ _ _ _ _ hz ⟨q1.1, m + 48, q1.r48, by rw [q1.h48], by rw [q1.h48]; exact vp_in_nI hl (by omega), fun _ => ?_, fun c => absurd (by rw [hcl, q3.1, e]; exact nI_le (Nat.le_refl _) (by omega)) c⟩
      rw [e] at h1 h2
      exact hQ M' hfr hqk h1 h2
    | succ r ih =>
      intro i hi M' hfr hqk h1 h2 z hz
      obtain ⟨q1, q2, q3⟩ := fr0 hfr
      have hil : i < m_n mc := by omega
      have hki := hk i hil
      refine vX12_question_269 _ _ _ _ _ hz ⟨q1.1, m + 48, q1.r48, by rw [q1.h48], by rw [q1.h48]; exact vp_in_nI hl (by omega), fun c => absurd (by rw [hcl, q3.1] at c; exact c) (nI_ge (a := i) (b := m_n mc) (by omega) (by omega)), fun _ => ⟨m + 8, q1.r8, by rw [q1.h8], by rw [q1.h8]; exact vp_in_nI hq (by omega), fun c => absurd (by rw [hcq]; exact q2) c, fun _ => ⟨m + 14, q1.r14, m + 50, q1.r50, by rw [q1.h50], ?_⟩⟩⟩
      rw [e40_, e40_, nI_clamp (n := 40 * last + i) (by omega), nI_clamp (n := 40 * q + i) (by omega), q3.2.1 i hil]
      refine ⟨by rw [q1.h50]; exact vp_in_nI (show 40 * last + i < 5200 by omega) (by omega), by rw [q1.h14], by rw [q1.h14]; exact vp_in_nI (show 40 * q + i < 400 by omega) (by omega), ?_, ?_⟩
      · rcases (show m_k mc i = 0 ∨ m_k mc i = 1 by omega) with e | e <;> rw [e]
        · exact Or.inl rfl
        · exact Or.inr rfl
      · rintro M3 rfl
        refine inner i hil (fun M4 z hz b1 b2 b3 b4 => ih (i + 1) (by omega) M4 b1 b2 b3 b4 z hz) 27 0 (by omega) _ (hfr.si (by decide) (by decide)) (hqk.tr ⟨fun o g1 g2 t _ => by rw [xm_oo (by omega)], fun t _ => by rw [xm_oo (by decide)], fun t ht => by rw [xi_nk (by omega)]⟩) (fun t ht => ?_) (fun t ht k g1 g2 => by rw [xm_oo (by decide)]; exact h2 t ht k g1 g2) (fun k' hk' => absurd hk' (Nat.not_lt_zero k'))
        by_cases e : t = i
        · rw [e, xi_eq]
        · rw [xi_nk (by omega)]; exact h1 t (by omega)
  exact outer (m_n mc) 0 (Nat.zero_add _) M FrM.rf QuK.rf (fun t ht => absurd ht (Nat.not_lt_zero t)) (fun t ht => absurd ht (Nat.not_lt_zero t)) none rfl
end RQueC
