/-! ===== the reference: how many ===== -/
section RCountC
variable {G : GG} {M : Mem} {m b q nf ap : Nat} {mc : Mc} {Q : Option Value → Mem → Prop}
def ReHg (M : Mem) (m b q nf ap : Nat) (mc : Mc) : Prop := (b = 2 ∨ b = 3) ∧ q < 10 ∧ nf < 256 ∧ fn b nf ≤ 27 ∧ fn b nf = b * ap ∧ 0 < ap ∧ 0 < m_n mc ∧ m_n mc ≤ 40 ∧ (∀ i, i < m_n mc → ∀ g, g < fn b nf → m_s mc i g < m_n mc) ∧ (∀ i, i < m_n mc → m_k mc i ≤ 1) ∧ m_s mc 0 0 = 0
def ReHm (M : Mem) (m b q nf : Nat) (mc : Mc) : Prop := ReS M m ∧ x_i M m 0 = nI b ∧ x_i M (m + 9) q = nI nf ∧ ReQ M m q (fn b nf) mc
theorem ReHm.fr {M1 : Mem} {A : List Nat} (h : ReHm M m b q nf mc) (g : FrM M M1 m [] A) (h1 : 9 ∉ A ∧ 12 ∉ A ∧ 13 ∉ A ∧ 14 ∉ A) : ReHm M1 m b q nf mc := ⟨g.S h.1, by rw [g.fm (by simp)]; exact h.2.1, by rw [g.i (by omega) h1.1]; exact h.2.2.1, h.2.2.2.fr g h1.2⟩
theorem ReHg.id {M1 : Mem} (h : ReHg M m b q nf ap mc) : ReHg M1 m b q nf ap mc := h
theorem ur_plus (d : Nat) {x y : Nat} (hQ : Q (some (.long (lN (capN (x + y))))) M) : Call G (d + 1) 0 0 mX12_plus [.long (lN (capN x)), .long (lN (capN y))] M Q := by
  have h1 := capN_le x
  have h2 := capN_le y
  rw [← cap_add] at hQ
  refine eX12_plus _ _ ?_
  rw [lg_cmp_le, lN_add]
  by_cases c : capN y ≤ 4611686018427387904
  · rw [show (4611686018427387904 : Int64) = lN 4611686018427387904 from rfl, lN_sub c, pk_lLE (by omega) (by omega)]
    refine ⟨fun c2 => ?_, fun c2 => ?_⟩
    · rw [cap_id (by omega)] at hQ; exact hQ
    · rw [show capN (capN x + capN y) = 4611686018427387905 from if_neg (by omega)] at hQ; exact hQ
  · have ey : capN y = 4611686018427387905 := by omega
    rw [show capN (capN x + capN y) = 4611686018427387905 from if_neg (by omega)] at hQ
    refine ⟨fun c2 => ?_, fun _ => hQ⟩
    rw [ey] at c2
    have e1 : (4611686018427387904 : Int64) - lN 4611686018427387905 = -1 := by decide
    rw [e1, Int64.le_iff_toInt_le, pk_lT (by omega), show (-1 : Int64).toInt = -1 from rfl] at c2
    omega
theorem ur_goes (d : Nat) (hg : ReHg M m b q nf ap mc) (hm : ReHm M m b q nf mc) {f0 oo : Nat} (hf0 : f0 ≤ b) (hoo : oo < ap) {w : Nat → Nat} (hw : VcI M (m + 62) (m_n mc) w) (hQ : ∀ M1, FrM M M1 m [] [62, 63] → VcI M1 (m + 62) (m_n mc) (fun j => pushN (fun i g => m_s mc i (g * ap + oo)) w f0 (b - f0) (m_n mc) j) → Q none M1) : Call G (d + 3) 0 0 mX12_goes [.ref m, .int (nI q), .int (nI f0), .int (nI oo)] M Q := by
  obtain ⟨hb, hq, hnf, h27, hfb, hap0, hn0, hn40, hcl, hk1, h00⟩ := id hg
  have fr : ∀ {M1 : Mem}, FrM M M1 m [] [62, 63] → ReHm M1 m b q nf mc := fun g => hm.fr g (by simp)
  have hidx : ∀ g, g < b → g * ap + oo < fn b nf := fun g hgb => by
    have : (g + 1) * ap ≤ b * ap := Nat.mul_le_mul_right ap hgb
    rw [Nat.succ_mul] at this
    omega
  have l126 : ∀ t j, j + t = m_n mc → ∀ M1, FrM M M1 m [] [62, 63] → (∀ i, i < m_n mc → x_l M1 (m + 63) i = lN (capN (pushN (fun i g => m_s mc i (g * ap + oo)) w f0 (b - f0) (m_n mc) i))) → (∀ i, i < j → x_l M1 (m + 62) i = lN (capN (pushN (fun i g => m_s mc i (g * ap + oo)) w f0 (b - f0) (m_n mc) i))) → ∀ z z', c1 z = true → c1 z' = true → LX12_goes_126 G (d + 2) 0 0 m (nI q) (nI f0) (nI oo) (nI (m_n mc)) (nI ap) (nI j) z z' M1 Q := by
    intro t
    induction t with
    | zero =>
      intro j hj M1 g hT hW z z' hz hz'
      exact vX12_goes_126 _ _ _ _ _ _ _ _ _ hz hz' ⟨fun _ => hQ M1 g (fun i hi => hW i (by omega)), fun c => absurd (nI_le (show m_n mc ≤ j by omega) (by omega)) c⟩
    | succ t ih =>
      intro j hj M1 g hT hW z z' hz hz'
      obtain ⟨s1, -, -, -⟩ := fr g
      refine vX12_goes_126 _ _ _ _ _ _ _ _ _ hz hz' ⟨fun c => absurd c (nI_ge (a := j) (b := m_n mc) (by omega) (by omega)), fun _ => ⟨s1.1, m + 62, s1.r62, m + 63, s1.r63, by rw [s1.h63], by rw [s1.h63]; exact vp_in_nI (show j < 40 by omega) (by omega), by rw [s1.h62], by rw [s1.h62]; exact vp_in_nI (show j < 40 by omega) (by omega), ?_⟩⟩
      rintro M9 rfl
      rw [nI_clamp (by omega), hT j (by omega), nI_1]
      refine ih (j + 1) (by omega) _ (g.sl (by omega) (by simp)) (fun i hi => by rw [xl_na (by omega)]; exact hT i hi) (fun i hi => ?_) z z' hz hz'
      by_cases c : i = j
      · rw [c, xl_eq]
      · rw [xl_nk c]; exact hW i (by omega)
  have l62 : ∀ i, i < m_n mc → (∀ M1, FrM M M1 m [] [62, 63] → VcI M1 (m + 62) (m_n mc) w → VcI M1 (m + 63) (m_n mc) (fun j => pushN (fun i g => m_s mc i (g * ap + oo)) w f0 (b - f0) (i + 1) j) → ∀ z z', c1 z = true → c1 z' = true → LX12_goes_52 G (d + 2) 0 0 m (nI q) (nI f0) (nI oo) (nI (m_n mc)) (nI ap) (nI (i + 1)) z z' M1 Q) → ∀ t k, f0 + k + t = b → ∀ M1, FrM M M1 m [] [62, 63] → VcI M1 (m + 62) (m_n mc) w → VcI M1 (m + 63) (m_n mc) (fun j => pushN (fun i g => m_s mc i (g * ap + oo)) w f0 (b - f0) i j + w i * rsN (fun i g => m_s mc i (g * ap + oo)) i f0 j k) → ∀ z, c1 z = true → LX12_goes_62 G (d + 2) 0 0 m (nI q) (nI f0) (nI oo) (nI (m_n mc)) (nI ap) (nI i) (nI (f0 + k)) z M1 Q := by
    intro i hi hnext t
    induction t with
    | zero =>
      intro k hk M1 g hW hT z hz
      obtain ⟨s1, z1, -, -⟩ := fr g
      have e : k = b - f0 := by omega
      subst e
      refine vX12_goes_62 _ _ _ _ _ _ _ _ _ hz ⟨s1.1, fun _ => ?_, fun c => absurd (by rw [z1]; exact nI_le (by omega) (by omega)) c⟩
      rw [nI_1]
      exact hnext M1 g hW hT _ _ rfl hz
    | succ t ih =>
      intro k hk M1 g hW hT z hz
      obtain ⟨s1, z1, z2, q1⟩ := fr g
      have hgf := hidx (f0 + k) (by omega)
      have hs := hcl i hi _ hgf
      refine vX12_goes_62 _ _ _ _ _ _ _ _ _ hz ⟨s1.1, fun c => absurd (by rw [z1] at c; exact c) (nI_ge (a := f0 + k) (b := b) (by omega) (by omega)), fun _ => ?_⟩
      rw [s_mul, nI_add]
      refine ur_to (d + 1) s1 q1 hq hn40 h27 hi hgf ⟨_, rfl, s1.1, m + 63, s1.r63, by rw [s1.h63], by rw [s1.h63]; exact vp_in_nI (show m_s mc i ((f0 + k) * ap + oo) < 40 by omega) (by omega), m + 62, s1.r62, by rw [s1.h62], by rw [s1.h62]; exact vp_in_nI (show i < 40 by omega) (by omega), ?_⟩
      rw [nI_clamp (by omega), nI_clamp (by omega), hT _ hs, hW i hi]
      refine ur_plus (d + 1) ⟨_, rfl, by rw [s1.h63], by rw [s1.h63]; exact vp_in_nI (show m_s mc i ((f0 + k) * ap + oo) < 40 by omega) (by omega), ?_⟩
      rintro M18 rfl
      rw [nI_1]
      refine ih (k + 1) (by omega) _ (g.sl (by omega) (by simp)) (fun j hj => by rw [xl_na (by omega)]; exact hW j hj) (fun j hj => ?_) _ rfl
      show x_l (x_sl M1 (m + 63) (m_s mc i ((f0 + k) * ap + oo)) _) (m + 63) j = lN (capN (pushN (fun i g => m_s mc i (g * ap + oo)) w f0 (b - f0) i j + w i * (rsN (fun i g => m_s mc i (g * ap + oo)) i f0 j k + (if m_s mc i ((f0 + k) * ap + oo) = j then 1 else 0))))
      by_cases c : j = m_s mc i ((f0 + k) * ap + oo)
      · rw [c, xl_eq, if_pos rfl, Nat.mul_add, Nat.mul_one, Nat.add_assoc]
      · rw [xl_nk c, if_neg (fun h => c h.symm), Nat.add_zero]; exact hT j hj
  have l52 : ∀ t i, i + t = m_n mc → ∀ M1, FrM M M1 m [] [62, 63] → VcI M1 (m + 62) (m_n mc) w → VcI M1 (m + 63) (m_n mc) (fun j => pushN (fun i g => m_s mc i (g * ap + oo)) w f0 (b - f0) i j) → ∀ z z', c1 z = true → c1 z' = true → LX12_goes_52 G (d + 2) 0 0 m (nI q) (nI f0) (nI oo) (nI (m_n mc)) (nI ap) (nI i) z z' M1 Q := by
    intro t
    induction t with
    | zero =>
      intro i hi M1 g hW hT z z' hz hz'
      have e : i = m_n mc := by omega
      subst e
      exact vX12_goes_52 _ _ _ _ _ _ _ _ _ hz hz' ⟨fun _ => l126 (m_n mc) 0 (by omega) M1 g hT (fun i hi => absurd hi (Nat.not_lt_zero _)) z z' hz hz', fun c => absurd (nI_le (Nat.le_refl _) (by omega)) c⟩
    | succ t ih =>
      intro i hi M1 g hW hT z z' hz hz'
      exact vX12_goes_52 _ _ _ _ _ _ _ _ _ hz hz' ⟨fun c => absurd c (nI_ge (a := i) (b := m_n mc) (by omega) (by omega)), fun _ => l62 i (by omega) (fun M2 g2 hW2 hT2 z2 z3 hz2 hz3 => ih (i + 1) (by omega) M2 g2 hW2 hT2 z2 z3 hz2 hz3) (b - f0) 0 (by omega) M1 g hW (fun j hj => by rw [hT j hj]; rfl) z' hz'⟩
  have l28 : ∀ t i, i + t = m_n mc → ∀ M1, FrM M M1 m [] [62, 63] → VcI M1 (m + 62) (m_n mc) w → (∀ j, j < i → x_l M1 (m + 63) j = 0) → LX12_goes_28 G (d + 2) 0 0 m (nI q) (nI f0) (nI oo) (nI (m_n mc)) (nI ap) (nI i) M1 Q := by
    intro t
    induction t with
    | zero =>
      intro i hi M1 g hW hT
      exact vX12_goes_28 _ _ _ _ _ _ _ ⟨fun _ => l52 (m_n mc) 0 (by omega) M1 g hW (fun j hj => by rw [hT j (by omega)]; rfl) none none rfl rfl, fun c => absurd (nI_le (show m_n mc ≤ i by omega) (by omega)) c⟩
    | succ t ih =>
      intro i hi M1 g hW hT
      obtain ⟨s1, -, -, -⟩ := fr g
      refine vX12_goes_28 _ _ _ _ _ _ _ ⟨fun c => absurd c (nI_ge (a := i) (b := m_n mc) (by omega) (by omega)), fun _ => ⟨s1.1, m + 63, s1.r63, by rw [s1.h63], by rw [s1.h63]; exact vp_in_nI (show i < 40 by omega) (by omega), ?_⟩⟩
      rintro M6 rfl
      rw [nI_clamp (by omega), nI_1]
      refine ih (i + 1) (by omega) _ (g.sl (by omega) (by simp)) (fun j hj => by rw [xl_na (by omega)]; exact hW j hj) (fun j hj => ?_)
      by_cases c : j = i
      · rw [c, xl_eq]
      · rw [xl_nk c]; exact hT j (by omega)
  obtain ⟨s0, z0, z9, q0⟩ := id hm
  refine eX12_goes _ _ _ _ ⟨s0.1, m + 12, s0.r12, by rw [s0.h12], by rw [s0.h12]; exact vp_in_nI hq (by omega), m + 9, s0.r9, by rw [s0.h9], by rw [s0.h9]; exact vp_in_nI hq (by omega), ?_⟩
  rw [nI_clamp (by omega), z9, q0.1]
  refine u_across d s0 z0 hnf ⟨_, rfl, s0.1, ?_⟩
  rw [z0]
  refine ⟨fun c => absurd ((nI_eq (a := b) (b := 0) (by omega) (by omega)).mp c) (by omega), ?_⟩
  have edv : nI (fn b nf) / nI b = nI ap := by
    rw [s_div (by omega) (by omega) (by omega), hfb, Nat.mul_div_cancel_left _ (by omega)]
  rw [edv]
  exact l28 (m_n mc) 0 (by omega) M FrM.rf hw (fun j hj => absurd hj (Nat.not_lt_zero _))
def DsI (M : Mem) (m b s p : Nat) : Prop := ∀ k, k < p → x_i M (m + 58) (110 + k) = nI (s / b ^ (p - 1 - k) % b)
theorem ur_behind (d : Nat) (hg : ReHg M m b q nf ap mc) (hm : ReHm M m b q nf mc) {s p : Nat} (hp : p ≤ 110) (hP : 0 < p → pc nf = 2 ∧ ap = b) (hD : DsI M m b s p) {w : Nat → Nat} (hw : VcI M (m + 62) (m_n mc) w) (hQ : ∀ M1, FrM M M1 m [] [62, 63] → Q (some (.long (lN (capN (sg (fun i => w i * nwC b (m_s mc) (m_k mc) ap (dD b s p) i) (m_n mc)))))) M1) : Call G (d + 4) 0 0 mX12_behind [.ref m, .int (nI q), .int (nI p)] M Q := by
  obtain ⟨hb, hq, hnf, h27, hfb, hap0, hn0, hn40, hcl, hk1, h00⟩ := id hg
  have hidx : ∀ g oo, g < b → oo < ap → g * ap + oo < fn b nf := fun g oo hgb hoo => by
    have : (g + 1) * ap ≤ b * ap := Nat.mul_le_mul_right ap hgb
    rw [Nat.succ_mul] at this
    omega
  have l50 : ∀ M1, FrM M M1 m [] [62, 63] → ∀ w', VcI M1 (m + 62) (m_n mc) w' → Q (some (.long (lN (capN (sg (fun i => w' i * m_k mc i) (m_n mc)))))) M1 → ∀ t i, i + t = m_n mc → LX12_behind_50 G (d + 3) 0 0 m (nI q) (nI p) (lN (capN (sg (fun i => w' i * m_k mc i) i))) (nI i) M1 Q := by
    intro M1 g w' hw' hfin t
    obtain ⟨s1, z1, z2, q1⟩ := hm.fr g (by simp)
    induction t with
    | zero =>
      intro i hi
      have e : i = m_n mc := by omega
      subst e
      refine vX12_behind_50 _ _ _ _ _ ⟨s1.1, m + 12, s1.r12, by rw [s1.h12], by rw [s1.h12]; exact vp_in_nI hq (by omega), ?_⟩
      rw [nI_clamp (by omega), q1.1]
      exact ⟨fun _ => hfin, fun c => absurd (nI_le (Nat.le_refl _) (by omega)) c⟩
    | succ t ih =>
      intro i hi
      have hki := hk1 i (by omega)
      have ea : (40 : Int32) * nI q + nI i = nI (40 * q + i) := by rw [show (40 : Int32) = nI 40 from rfl, s_mul, nI_add]
      refine vX12_behind_50 _ _ _ _ _ ⟨s1.1, m + 12, s1.r12, by rw [s1.h12], by rw [s1.h12]; exact vp_in_nI hq (by omega), ?_⟩
      rw [nI_clamp (by omega), q1.1, ea]
      refine ⟨fun c => absurd c (nI_ge (a := i) (b := m_n mc) (by omega) (by omega)), fun _ => ⟨m + 14, s1.r14, by rw [s1.h14], by rw [s1.h14]; exact vp_in_nI (show 40 * q + i < 400 by omega) (by omega), ?_⟩⟩
      rw [nI_clamp (by omega), q1.2.1 i (by omega), show (0 : Int32) = nI 0 from rfl, nI_eq (by omega) (by omega), nI_1]
      have hs : sg (fun i => w' i * m_k mc i) (i + 1) = sg (fun i => w' i * m_k mc i) i + w' i * m_k mc i := rfl
      refine ⟨fun c => ?_, fun c => ⟨m + 62, s1.r62, by rw [s1.h62], by rw [s1.h62]; exact vp_in_nI (show i < 40 by omega) (by omega), ?_⟩⟩
      · have := ih (i + 1) (by omega)
        rw [hs, c, Nat.mul_zero, Nat.add_zero] at this
        exact this
      · rw [nI_clamp (by omega), hw' i (by omega)]
        refine ur_plus (d + 2) ⟨_, rfl, ?_⟩
        have := ih (i + 1) (by omega)
        rw [hs, show m_k mc i = 1 by omega, Nat.mul_one] at this
        exact this
  have l2 : ∀ t k, k + t = p → ∀ M1, FrM M M1 m [] [62, 63] → ∀ w', VcI M1 (m + 62) (m_n mc) w' → sg (fun i => w' i * nwC b (m_s mc) (m_k mc) ap (dD b s t) i) (m_n mc) = sg (fun i => w i * nwC b (m_s mc) (m_k mc) ap (dD b s p) i) (m_n mc) → LX12_behind_2 G (d + 3) 0 0 m (nI q) (nI p) (nI k) M1 Q := by
    intro t
    induction t with
    | zero =>
      intro k hk M1 g w' hw' hT
      refine vX12_behind_2 _ _ _ _ ⟨fun _ => ?_, fun c => absurd (nI_le (show p ≤ k by omega) (by omega)) c⟩
      have := hQ M1 g
      rw [← hT] at this
      exact l50 M1 g w' hw' this (m_n mc) 0 (by omega)
    | succ t ih =>
      intro k hk M1 g w' hw' hT
      obtain ⟨hP2, hapb⟩ := hP (by omega)
      obtain ⟨s1, z1, z2, q1⟩ := hm.fr g (by simp)
      have hdl : s / b ^ t % b < b := Nat.mod_lt _ (by omega)
      have ea : (110 : Int32) + nI k = nI (110 + k) := by rw [show (110 : Int32) = nI 110 from rfl, nI_add]
      have dg : x_i M1 (m + 58) (110 + k) = nI (s / b ^ t % b) := by
        rw [g.i (by omega) (by simp), hD k (by omega), show p - 1 - k = t by omega]
      refine vX12_behind_2 _ _ _ _ ⟨fun c => absurd c (nI_ge (a := k) (b := p) (by omega) (by omega)), fun _ => ⟨s1.1, m + 9, s1.r9, by rw [s1.h9], by rw [s1.h9]; exact vp_in_nI hq (by omega), ?_⟩⟩
      rw [nI_clamp (by omega), z2]
      refine u_bits (d + 2) hnf ⟨_, rfl, ?_⟩
      rw [hP2]
      refine ⟨fun c => absurd (show nI 2 = 2 from rfl) c, fun _ => ⟨s1.1, m + 58, s1.r58, by rw [s1.h58], by rw [ea, s1.h58]; exact vp_in_nI (show 110 + k < 330 by omega) (by omega), ?_⟩⟩
      rw [ea, nI_clamp (by omega), dg]
      show Call G (d + 3) 0 0 mX12_goes [.ref m, .int (nI q), .int (nI 0), .int (nI (s / b ^ t % b))] M1 _
      refine ur_goes d hg.id ⟨s1, z1, z2, q1⟩ (Nat.zero_le _) (by omega) hw' (fun M2 g2 hw2 => ⟨rfl, ?_⟩)
      rw [nI_1]
      refine ih (k + 1) (by omega) M2 (g.tr g2 (fun _ h => h) (fun _ h => h)) _ hw2 ?_
      rw [← hT]
      refine (push_dot (n := m_n mc) (sd := fun i g => m_s mc i (g * ap + s / b ^ t % b)) (w := w') (x := nwC b (m_s mc) (m_k mc) ap (dD b s t)) (f0 := 0) (k := b - 0) (m_n mc) (fun i' hi' t' ht' => hcl i' hi' _ (hidx _ _ (by omega) (by omega)))).trans ?_
      refine sg_congr _ (fun i _ => ?_)
      show w' i * sg (fun t' => nwC b (m_s mc) (m_k mc) ap (dD b s t) (m_s mc i ((0 + t') * ap + s / b ^ t % b))) (b - 0) = w' i * sg (fun g => nwC b (m_s mc) (m_k mc) ap (dD b s t) (m_s mc i (g * ap + s / b ^ t % b))) b
      congr 1
      refine sg_congr b (fun t' _ => ?_)
      rw [Nat.zero_add]
  exact eX12_behind _ _ _ (l2 p 0 (by omega) M FrM.rf w hw rfl)
end RCountC
