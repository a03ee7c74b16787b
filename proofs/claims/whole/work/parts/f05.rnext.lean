/-! ===== the reference: what leads on, the lowest number ===== -/
section RNextC
variable {G : GG} {M : Mem} {m b q : Nat} {mc : Mc} {Q : Option Value → Mem → Prop}
def ReG (b q : Nat) (mc : Mc) : Prop := (b = 2 ∨ b = 3) ∧ q < 10 ∧ 0 < m_n mc ∧ m_n mc ≤ 40 ∧ (∀ i, i < m_n mc → ∀ g, g < b → m_s mc i g < m_n mc) ∧ (∀ i, i < m_n mc → m_k mc i ≤ 1) ∧ m_s mc 0 0 = 0
def LdI (M : Mem) (m b : Nat) (mc : Mc) (k : Nat) : Prop := ∀ i, i < m_n mc → x_i M (m + 60) (40 * k + i) = nI (ldB b (m_s mc) (m_k mc) k i)
theorem ur_leadsAll (d : Nat) (hs : ReS M m) (h0 : x_i M m 0 = nI b) (hg : ReG b q mc) (hM : ReQ M m q b mc) (hQ : ∀ M1, FrM M M1 m [] [60] → (∀ k, k ≤ 110 → LdI M1 m b mc k) → Q none M1) : Call G (d + 2) 0 0 mX12_leadsAll [.ref m, .int (nI q)] M Q := by
  obtain ⟨hb, hq, hn0, hn40, hcl, hk1, h00⟩ := id hg
  have fr : ∀ {M1 : Mem}, FrM M M1 m [] [60] → ReS M1 m ∧ x_i M1 m 0 = nI b ∧ ReQ M1 m q b mc := fun g => ⟨g.S hs, by rw [g.fm (by simp)]; exact h0, hM.fr g (by simp)⟩
  have fl : ∀ k i, i < m_n mc → ldB b (m_s mc) (m_k mc) k i ≤ 1 := fun k i hi => ldB_le (n := m_n mc) hk1 k i hi
  have l70 : ∀ k, 1 ≤ k → k ≤ 110 → ∀ i, i < m_n mc → (∀ M1, FrM M M1 m [] [60] → (∀ k', k' < k → LdI M1 m b mc k') → (∀ i', i' < i + 1 → x_i M1 (m + 60) (40 * k + i') = nI (ldB b (m_s mc) (m_k mc) k i')) → ∀ z, c1 z = true → LX12_leadsAll_45 G (d + 1) 0 0 m (nI q) (nI k) (nI (i + 1)) z M1 Q) → ∀ t j, j + t = b → ∀ M1, FrM M M1 m [] [60] → (∀ k', k' < k → LdI M1 m b mc k') → (∀ i', i' < i → x_i M1 (m + 60) (40 * k + i') = nI (ldB b (m_s mc) (m_k mc) k i')) → x_i M1 (m + 60) (40 * k + i) = nI (anyD (fun g => ldB b (m_s mc) (m_k mc) (k - 1) (m_s mc i g)) j) → LX12_leadsAll_70 G (d + 1) 0 0 m (nI q) (nI k) (nI i) (nI j) M1 Q := by
    intro k hk1' hk i hi hnext t
    have ea : ∀ i', (40 : Int32) * nI k + nI i' = nI (40 * k + i') := fun i' => by rw [show (40 : Int32) = nI 40 from rfl, s_mul, nI_add]
    have ea1 : ∀ i', (40 : Int32) * (nI k - 1) + nI i' = nI (40 * (k - 1) + i') := fun i' => by rw [show (40 : Int32) = nI 40 from rfl, show nI k - 1 = nI (k - 1) from s_sub (b := 1) (by omega), s_mul, nI_add]
    induction t with
    | zero =>
      intro j hj M1 g hlow hrow hcur
      obtain ⟨q1, q2, q3⟩ := fr g
      have e : j = b := by omega
      subst e
      refine vX12_leadsAll_70 _ _ _ _ _ ⟨q1.1, fun _ => ?_, fun c => absurd (by rw [q2]; exact nI_le (Nat.le_refl _) (by omega)) c⟩
      rw [nI_1]
      refine hnext M1 g hlow (fun i' hi' => ?_) _ rfl
      by_cases c : i' = i
      · rw [c, hcur]
        obtain ⟨k', rfl⟩ : ∃ k', k = k' + 1 := ⟨k - 1, by omega⟩
        rfl
      · exact hrow i' (by omega)
    | succ t ih =>
      intro j hj M1 g hlow hrow hcur
      obtain ⟨q1, q2, q3⟩ := fr g
      have hjb : j < b := by omega
      have hsj := hcl i hi j hjb
      have hle := anyD_le (f := fun g => ldB b (m_s mc) (m_k mc) (k - 1) (m_s mc i g)) j
      have step : ∀ v, v = nI (anyD (fun g => ldB b (m_s mc) (m_k mc) (k - 1) (m_s mc i g)) (j + 1)) → LX12_leadsAll_70 G (d + 1) 0 0 m (nI q) (nI k) (nI i) (nI (j + 1)) (x_si M1 (m + 60) (40 * k + i) v) Q := fun v hv => by
        refine ih (j + 1) (by omega) _ (g.si (by omega) (by simp)) (fun k' hk' i' hi' => ?_) (fun i' hi' => ?_) (by rw [xi_eq]; exact hv)
        · rw [xi_nk (by omega)]; exact hlow k' hk' i' hi'
        · rw [xi_nk (by omega)]; exact hrow i' hi'
      have an : anyD (fun g => ldB b (m_s mc) (m_k mc) (k - 1) (m_s mc i g)) (j + 1) = if ldB b (m_s mc) (m_k mc) (k - 1) (m_s mc i j) = 1 then 1 else anyD (fun g => ldB b (m_s mc) (m_k mc) (k - 1) (m_s mc i g)) j := rfl
      have hfl := fl (k - 1) _ hsj
      refine vX12_leadsAll_70 _ _ _ _ _ ⟨q1.1, fun c => absurd (by rw [q2] at c; exact c) (nI_ge (a := j) (b := b) hjb (by omega)), fun _ => ⟨m + 60, q1.r60, by rw [q1.h60], by rw [q1.h60, ea]; exact vp_in_nI (show 40 * k + i < 4440 by omega) (by omega), ?_⟩⟩
      rw [ea, nI_clamp (by omega), hcur, nI_1, show (0 : Int32) = nI 0 from rfl, nI_eq (by omega) (by omega)]
      refine ⟨fun c => ?_, fun c => ?_⟩
      · rintro M7 rfl
        exact step _ (by rw [an]; split <;> first | rfl | (rw [show anyD (fun g => ldB b (m_s mc) (m_k mc) (k - 1) (m_s mc i g)) j = 1 by omega]; rfl))
      · refine ur_to d q1 q3 hq hn40 (by omega) hi hjb ⟨_, rfl, by rw [q1.h60], by rw [q1.h60, ea1]; exact vp_in_nI (show 40 * (k - 1) + m_s mc i j < 4440 by omega) (by omega), ?_⟩
        rw [ea1, nI_clamp (by omega), hlow (k - 1) (by omega) _ hsj, nI_eq (by omega) (by omega)]
        refine ⟨fun c2 => ⟨by rw [q1.h60]; exact vp_in_nI (show 40 * k + i < 4440 by omega) (by omega), ?_⟩, fun c2 => ⟨by rw [q1.h60]; exact vp_in_nI (show 40 * k + i < 4440 by omega) (by omega), ?_⟩⟩
        · rintro M15 rfl
          exact step _ (by rw [an, if_neg (by omega), c])
        · rintro M17 rfl
          exact step _ (by rw [an, if_pos (by omega)]; rfl)
  have l45 : ∀ k, 1 ≤ k → k ≤ 110 → (∀ M1, FrM M M1 m [] [60] → (∀ k', k' < k + 1 → LdI M1 m b mc k') → ∀ z z', c1 z = true → c1 z' = true → LX12_leadsAll_37 G (d + 1) 0 0 m (nI q) (nI (k + 1)) z z' M1 Q) → ∀ t i, i + t = m_n mc → ∀ M1, FrM M M1 m [] [60] → (∀ k', k' < k → LdI M1 m b mc k') → (∀ i', i' < i → x_i M1 (m + 60) (40 * k + i') = nI (ldB b (m_s mc) (m_k mc) k i')) → ∀ z, c1 z = true → LX12_leadsAll_45 G (d + 1) 0 0 m (nI q) (nI k) (nI i) z M1 Q := by
    intro k hk1' hk hnext t
    have ea : ∀ i', (40 : Int32) * nI k + nI i' = nI (40 * k + i') := fun i' => by rw [show (40 : Int32) = nI 40 from rfl, s_mul, nI_add]
    induction t with
    | zero =>
      intro i hi M1 g hlow hrow z hz
      obtain ⟨q1, q2, q3⟩ := fr g
      refine vX12_leadsAll_45 _ _ _ _ _ hz ⟨q1.1, m + 12, q1.r12, by rw [q1.h12], by rw [q1.h12]; exact vp_in_nI hq (by omega), ?_⟩
      rw [nI_clamp (by omega), q3.1, nI_1]
      refine ⟨fun _ => hnext M1 g (fun k' hk' => ?_) _ _ rfl hz, fun c => absurd (nI_le (show m_n mc ≤ i by omega) (by omega)) c⟩
      by_cases c : k' = k
      · rw [c]; exact fun i' hi' => hrow i' (by omega)
      · exact hlow k' (by omega)
    | succ t ih =>
      intro i hi M1 g hlow hrow z hz
      obtain ⟨q1, q2, q3⟩ := fr g
      refine vX12_leadsAll_45 _ _ _ _ _ hz ⟨q1.1, m + 12, q1.r12, by rw [q1.h12], by rw [q1.h12]; exact vp_in_nI hq (by omega), ?_⟩
      rw [nI_clamp (by omega), q3.1, ea]
      refine ⟨fun c => absurd c (nI_ge (a := i) (b := m_n mc) (by omega) (by omega)), fun _ => ⟨m + 60, q1.r60, by rw [q1.h60], by rw [q1.h60]; exact vp_in_nI (show 40 * k + i < 4440 by omega) (by omega), ?_⟩⟩
      rintro M9 rfl
      rw [nI_clamp (by omega)]
      refine l70 k hk1' hk i (by omega) (fun M2 g2 hl2 hr2 z2 hz2 => ih (i + 1) (by omega) M2 g2 hl2 hr2 z2 hz2) b 0 (by omega) _ (g.si (by omega) (by simp)) (fun k' hk' i' hi' => ?_) (fun i' hi' => ?_) (by rw [xi_eq]; rfl)
      · rw [xi_nk (by omega)]; exact hlow k' hk' i' hi'
      · rw [xi_nk (by omega)]; exact hrow i' hi'
  have l37 : ∀ t k, k + t = 111 → 1 ≤ k → ∀ M1, FrM M M1 m [] [60] → (∀ k', k' < k → LdI M1 m b mc k') → ∀ z z', c1 z = true → c1 z' = true → LX12_leadsAll_37 G (d + 1) 0 0 m (nI q) (nI k) z z' M1 Q := by
    intro t
    induction t with
    | zero =>
      intro k hk hk1' M1 g hlow z z' hz hz'
      refine vX12_leadsAll_37 _ _ _ _ _ hz hz' ⟨fun _ => hQ M1 g (fun k' hk' => hlow k' (by omega)), fun c => absurd ?_ c⟩
      rw [show (110 : Int32) = nI 110 from rfl, nI_ltI (by omega) (by omega)]
      omega
    | succ t ih =>
      intro k hk hk1' M1 g hlow z z' hz hz'
      refine vX12_leadsAll_37 _ _ _ _ _ hz hz' ⟨fun c => ?_, fun _ => l45 k hk1' (by omega) (fun M2 g2 hl2 z2 z3 hz2 hz3 => ih (k + 1) (by omega) (by omega) M2 g2 hl2 z2 z3 hz2 hz3) (m_n mc) 0 (by omega) M1 g hlow (fun i' hi' => absurd hi' (Nat.not_lt_zero _)) z' hz'⟩
      rw [show (110 : Int32) = nI 110 from rfl, nI_ltI (by omega) (by omega)] at c
      omega
  have l2 : ∀ t i, i + t = m_n mc → ∀ M1, FrM M M1 m [] [60] → (∀ i', i' < i → x_i M1 (m + 60) i' = nI (m_k mc i')) → LX12_leadsAll_2 G (d + 1) 0 0 m (nI q) (nI i) M1 Q := by
    intro t
    have ea : ∀ i', (40 : Int32) * nI q + nI i' = nI (40 * q + i') := fun i' => by rw [show (40 : Int32) = nI 40 from rfl, s_mul, nI_add]
    induction t with
    | zero =>
      intro i hi M1 g hrow
      obtain ⟨q1, q2, q3⟩ := fr g
      refine vX12_leadsAll_2 _ _ _ ⟨q1.1, m + 12, q1.r12, by rw [q1.h12], by rw [q1.h12]; exact vp_in_nI hq (by omega), ?_⟩
      rw [nI_clamp (by omega), q3.1]
      refine ⟨fun _ => l37 110 1 (by omega) (by omega) M1 g (fun k' hk' i' hi' => ?_) _ _ rfl rfl, fun c => absurd (nI_le (show m_n mc ≤ i by omega) (by omega)) c⟩
      have : k' = 0 := by omega
      subst this
      rw [Nat.mul_zero, Nat.zero_add]
      exact hrow i' (by omega)
    | succ t ih =>
      intro i hi M1 g hrow
      obtain ⟨q1, q2, q3⟩ := fr g
      have hki := hk1 i (by omega)
      refine vX12_leadsAll_2 _ _ _ ⟨q1.1, m + 12, q1.r12, by rw [q1.h12], by rw [q1.h12]; exact vp_in_nI hq (by omega), ?_⟩
      rw [nI_clamp (by omega), q3.1, ea]
      refine ⟨fun c => absurd c (nI_ge (a := i) (b := m_n mc) (by omega) (by omega)), fun _ => ⟨m + 60, q1.r60, m + 14, q1.r14, by rw [q1.h14], by rw [q1.h14]; exact vp_in_nI (show 40 * q + i < 400 by omega) (by omega), by rw [q1.h60], by rw [q1.h60]; exact vp_in_nI (show i < 4440 by omega) (by omega), ?_, ?_⟩⟩
      · rw [nI_clamp (by omega), q3.2.1 i (by omega)]
        rcases (show m_k mc i = 0 ∨ m_k mc i = 1 by omega) with c | c
        · rw [c]; exact Or.inl rfl
        · rw [c]; exact Or.inr rfl
      · rintro M12 rfl
        rw [nI_clamp (by omega), nI_clamp (by omega), q3.2.1 i (by omega), nI_1]
        refine ih (i + 1) (by omega) _ (g.si (by omega) (by simp)) (fun i' hi' => ?_)
        by_cases c : i' = i
        · rw [c, xi_eq]
        · rw [xi_nk (by omega)]; exact hrow i' (by omega)
  exact eX12_leadsAll _ _ (l2 (m_n mc) 0 (by omega) M FrM.rf (fun i' hi' => absurd hi' (Nat.not_lt_zero _)))
theorem ur_lowest (d : Nat) (hs : ReS M m) (h0 : x_i M m 0 = nI b) (hg : ReG b q mc) (hM : ReQ M m q b mc) (hld : ∀ k, k ≤ 110 → LdI M m b mc k) {A e g s : Nat} (hA : A < b ^ 110) (hdg : ∀ k, k < 110 → x_i M (m + 58) k = nI (A / b ^ (109 - k) % b)) (he : e < 110) (hgb : g < b) (hsn : s < m_n mc) (hL : LdW b (m_s mc) (fun s => m_k mc s = 1) s e)
    (hQ : ∀ y, LeastN b (m_s mc) (m_k mc) s e y → Q (some (.long (dfA (A / b ^ (e + 1) * b ^ (e + 1) + (g * b ^ e + y))))) M) : Call G (d + 2) 0 0 mX12_lowest [.ref m, .int (nI q), .int (nI (109 - e)), .int (nI g), .int (nI s)] M Q := by
  obtain ⟨hb, hq, hn0, hn40, hcl, hk1, h00⟩ := id hg
  have hb1 : 1 < b := by omega
  have fl : ∀ k i, i < m_n mc → ldB b (m_s mc) (m_k mc) k i ≤ 1 := fun k i hi => ldB_le (n := m_n mc) hk1 k i hi
  have key : ∀ R q' H', R ≤ e → q' < m_n mc → LdW b (m_s mc) (fun s => m_k mc s = 1) q' R → (∀ y, LeastN b (m_s mc) (m_k mc) q' R y → Q (some (.long (dfA (H' * b ^ R + y)))) M) → ∀ z, c1 z = true → LX12_lowest_51 G (d + 1) 0 0 m (nI q) (nI (109 - e)) (nI g) (nI s) (lN (capN H')) (nI q') (nI (110 - R)) z M Q := by
    intro R
    induction R with
    | zero =>
      intro q' H' _ hq' hL' hQ' z hz
      have hfin := hQ' 0 (LeastN.zero ((LdW.zero (F := fun s => m_k mc s = 1)).mp hL'))
      rw [Nat.pow_zero, Nat.mul_one, Nat.add_zero, ← dfA_cap] at hfin
      have hc := capN_le H'
      refine vX12_lowest_51 _ _ _ _ _ _ _ _ _ hz ⟨fun _ => ?_, fun c => absurd (show (110 : Int32) ≤ nI (110 - 0) by decide) c⟩
      rw [lg_cmp_le, show (4611686018427387904 : Int64) = lN 4611686018427387904 from rfl, pk_lLE (by omega) (by omega)]
      refine ⟨fun c => ?_, fun c => ?_⟩
      · rw [if_pos c] at hfin; exact hfin
      · rw [if_neg c] at hfin; exact hfin
    | succ R ih =>
      intro q' H' hR hq' hL' hQ' z hz
      refine vX12_lowest_51 _ _ _ _ _ _ _ _ _ hz ⟨fun c => absurd c (nI_ge (a := 110 - (R + 1)) (b := 110) (by omega) (by omega)), fun _ => ?_⟩
      have ea : ∀ i', (40 : Int32) * (109 - nI (110 - (R + 1))) + nI i' = nI (40 * R + i') := fun i' => by
        rw [show (40 : Int32) = nI 40 from rfl, show (109 : Int32) = nI 109 from rfl, s_sub (by omega), s_mul, nI_add, show 109 - (110 - (R + 1)) = R by omega]
      have l61 : ∀ t g', g' + t = b → (∀ d', d' < g' → ¬ LdW b (m_s mc) (fun s => m_k mc s = 1) (m_s mc q' d') R) → LX12_lowest_61 G (d + 1) 0 0 m (nI q) (nI (109 - e)) (nI g) (nI s) (lN (capN H')) (nI q') (nI (110 - (R + 1))) (nI g') M Q := by
        intro t
        induction t with
        | zero =>
          intro g' hg' hno
          obtain ⟨d', h1, h2⟩ := LdW.succ.mp hL'
          exact absurd h2 (hno d' (by omega))
        | succ t iht =>
          intro g' hg' hno
          have hgb' : g' < b := by omega
          have hsg := hcl q' hq' g' hgb'
          have hflg := fl R _ hsg
          refine vX12_lowest_61 _ _ _ _ _ _ _ _ _ ⟨hs.1, m + 60, hs.r60, ur_to d hs hM hq hn40 (by omega) hq' hgb' ⟨_, rfl, by rw [hs.h60], by rw [hs.h60, ea]; exact vp_in_nI (show 40 * R + m_s mc q' g' < 4440 by omega) (by omega), ?_⟩⟩
          rw [ea, nI_clamp (by omega), hld R (by omega) _ hsg, show (0 : Int32) = nI 0 from rfl, nI_eq (by omega) (by omega)]
          refine ⟨fun c => ⟨hs.1, ?_⟩, fun c => ?_⟩
          · have hl1 := (ldB_1 (b := b) (st := m_s mc) (mk := m_k mc) R (m_s mc q' g')).mp (by omega)
            refine ur_longer d hs hb1 (by omega) h0 (by have := capN_le H'; omega) hgb' ⟨_, rfl, hs.1, ur_to d hs hM hq hn40 (by omega) hq' hgb' ⟨_, rfl, ?_⟩⟩
            rw [lgr_cap hb1 (by omega) hgb', nI_1, show 110 - (R + 1) + 1 = 110 - R by omega]
            refine ih _ _ (by omega) hsg hl1 (fun y hy => ?_) _ rfl
            have := hQ' _ (hy.step hb1 hgb' hno)
            rw [show (b * H' + g') * b ^ R + y = H' * b ^ (R + 1) + (g' * b ^ R + y) by rw [Nat.pow_succ, Nat.add_mul, Nat.add_assoc, Nat.mul_comm b H', Nat.mul_assoc, Nat.mul_comm b (b ^ R)]]
            exact this
          · show LX12_lowest_61 G (d + 1) 0 0 m (nI q) (nI (109 - e)) (nI g) (nI s) (lN (capN H')) (nI q') (nI (110 - (R + 1))) (nI g' + 1) M Q
            rw [nI_1]
            refine iht (g' + 1) (by omega) (fun d' hd' hl => ?_)
            by_cases ee : d' = g'
            · subst ee
              have := (ldB_1 (b := b) (st := m_s mc) (mk := m_k mc) R (m_s mc q' d')).mpr hl
              omega
            · exact hno d' (by omega) hl
      exact l61 b 0 (by omega) (fun d' hd' => absurd hd' (Nat.not_lt_zero _))
  have l6 : ∀ t j, j + t = 109 - e → LX12_lowest_6 G (d + 1) 0 0 m (nI q) (nI (109 - e)) (nI g) (nI s) (lN (capN (A / b ^ (110 - j)))) (nI j) M Q := by
    intro t
    induction t with
    | zero =>
      intro j hj
      have e1 : j = 109 - e := by omega
      subst e1
      refine vX12_lowest_6 _ _ _ _ _ _ _ ⟨fun _ => ⟨hs.1, ur_longer d hs hb1 (by omega) h0 (by have := capN_le (A / b ^ (110 - (109 - e))); omega) hgb ⟨_, rfl, ?_⟩⟩, fun c => absurd (nI_le (Nat.le_refl _) (by omega)) c⟩
      rw [lgr_cap hb1 (by omega) hgb, nI_1, show 109 - e + 1 = 110 - e by omega, show 110 - (109 - e) = e + 1 by omega]
      refine key e s _ (Nat.le_refl _) hsn hL (fun y hy => ?_) none rfl
      have := hQ y hy
      rw [show (b * (A / b ^ (e + 1)) + g) * b ^ e + y = A / b ^ (e + 1) * b ^ (e + 1) + (g * b ^ e + y) by rw [Nat.add_mul, Nat.add_assoc, Nat.mul_comm b (A / b ^ (e + 1)), Nat.mul_assoc, Nat.pow_succ, Nat.mul_comm b (b ^ e)]]
      exact this
    | succ t ih =>
      intro j hj
      have hdl : A / b ^ (109 - j) % b < b := Nat.mod_lt _ (by omega)
      refine vX12_lowest_6 _ _ _ _ _ _ _ ⟨fun c => absurd c (nI_ge (a := j) (b := 109 - e) (by omega) (by omega)), fun _ => ⟨hs.1, m + 58, hs.r58, by rw [hs.h58], by rw [hs.h58]; exact vp_in_nI (show j < 330 by omega) (by omega), ?_⟩⟩
      rw [nI_clamp (by omega), hdg j (by omega)]
      refine ur_longer d hs hb1 (by omega) h0 (by have := capN_le (A / b ^ (110 - j)); omega) hdl ⟨_, rfl, ?_⟩
      rw [lgr_cap hb1 (by omega) hdl, nI_1]
      have := dv_s (b := b) (x := A) (e := 109 - j)
      rw [show 109 - j + 1 = 110 - j by omega] at this
      rw [← this, show 109 - j = 110 - (j + 1) by omega]
      exact ih (j + 1) (by omega)
  have := l6 (109 - e) 0 (by omega)
  rw [Nat.sub_zero, Nat.div_eq_of_lt hA] at this
  exact eX12_lowest _ _ _ _ _ this
end RNextC
