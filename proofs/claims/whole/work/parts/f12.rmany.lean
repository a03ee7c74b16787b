/-! ===== the reference: how many, told ===== -/
section RManyC
variable {G : GG} {M : Mem} {m b q nf ap : Nat} {mc : Mc} {Q : Option Value → Mem → Prop}
def esN (s i : Nat) : Nat := if s = i then 1 else 0
theorem ur_start (d : Nat) (hg : ReHg M m b q nf ap mc) (hm : ReHm M m b q nf mc) {s p : Nat} (hp : p ≤ 110) (hP : 0 < p → pc nf = 2 ∧ ap = b) (hD : DsI M m b s p) (hQ : ∀ M1, FrM M M1 m [] [62, 63] → Q (some (.long (lN (capN (nwC b (m_s mc) (m_k mc) ap (dD b s p) 0))))) M1) : Call G (d + 5) 0 0 mX12_start [.ref m, .int (nI q), .int (nI p)] M Q := by
  obtain ⟨hb, hq, hnf, h27, hfb, hap0, hn0, hn40, hcl, hk1, h00⟩ := id hg
  have loop : ∀ t i, i + t = m_n mc → ∀ M1, FrM M M1 m [] [62, 63] → (∀ j, j < i → x_l M1 (m + 62) j = lN (capN (esN 0 j))) → LX12_start_2 G (d + 4) 0 0 m (nI q) (nI p) (nI i) M1 Q := by
    intro t
    induction t with
    | zero =>
      intro i hi M1 g hw
      have m1 := hm.fr g (by simp)
      obtain ⟨s1, z1, z2, q1⟩ := id m1
      refine vX12_start_2 _ _ _ _ ⟨s1.1, m + 12, s1.r12, by rw [s1.h12], by rw [s1.h12]; exact vp_in_nI hq (by omega), ?_⟩
      rw [nI_clamp (by omega), q1.1]
      refine ⟨fun _ => ?_, fun c => absurd (nI_le (show m_n mc ≤ i by omega) (by omega)) c⟩
      refine ur_behind d hg.id m1 hp hP (fun k hk => by rw [g.i (by omega) (by simp)]; exact hD k hk) (w := esN 0) (fun j hj => hw j (by omega)) (fun M2 g2 => ⟨_, rfl, ?_⟩)
      have := hQ M2 (g.tr g2 (fun _ h => h) (fun _ h => h))
      have e : sg (fun i => esN 0 i * nwC b (m_s mc) (m_k mc) ap (dD b s p) i) (m_n mc) = nwC b (m_s mc) (m_k mc) ap (dD b s p) 0 := by
        have := sg_1 (x := nwC b (m_s mc) (m_k mc) ap (dD b s p)) (a := 0) (k := m_n mc)
        rw [if_pos hn0] at this
        exact this
      rw [e]
      exact this
    | succ t ih =>
      intro i hi M1 g hw
      obtain ⟨s1, z1, z2, q1⟩ := hm.fr g (by simp)
      refine vX12_start_2 _ _ _ _ ⟨s1.1, m + 12, s1.r12, by rw [s1.h12], by rw [s1.h12]; exact vp_in_nI hq (by omega), ?_⟩
      rw [nI_clamp (by omega), q1.1]
      refine ⟨fun c => absurd c (nI_ge (a := i) (b := m_n mc) (by omega) (by omega)), fun _ => ⟨m + 62, s1.r62, fun c => ⟨by rw [s1.h62], by rw [s1.h62]; exact vp_in_nI (show i < 40 by omega) (by omega), ?_⟩, fun c => ⟨by rw [s1.h62], by rw [s1.h62]; exact vp_in_nI (show i < 40 by omega) (by omega), ?_⟩⟩⟩
      · rintro M13 rfl
        rw [nI_clamp (by omega), nI_1]
        refine ih (i + 1) (by omega) _ (g.sl (by omega) (by simp)) (fun j hj => ?_)
        by_cases e : j = i
        · rw [e, xl_eq]
          have : i ≠ 0 := fun z => c (by rw [z]; rfl)
          unfold esN
          rw [if_neg (fun z => this z.symm)]
          rfl
        · rw [xl_nk e]; exact hw j (by omega)
      · rintro M16 rfl
        rw [nI_clamp (by omega), nI_1]
        have e0 : i = 0 := (nI_eq (a := i) (b := 0) (by omega) (by omega)).mp c
        refine ih (i + 1) (by omega) _ (g.sl (by omega) (by simp)) (fun j hj => ?_)
        have ej : j = i := by omega
        rw [ej, xl_eq, e0]
        rfl
  exact eX12_start _ _ _ (loop (m_n mc) 0 (by omega) M FrM.rf (fun j hj => absurd hj (Nat.not_lt_zero _)))
def GdI (M : Mem) (m b ap : Nat) (mc : Mc) (ds : List Nat) (c : Nat) : Prop := ∀ i, i < c → x_i M (m + 64) i = nI (if 0 < nwC b (m_s mc) (m_k mc) ap ds i then 1 else 0)
theorem ur_good (d : Nat) (hg : ReHg M m b q nf ap mc) (hm : ReHm M m b q nf mc) {s p : Nat} (hp : p ≤ 110) (hP : 0 < p → pc nf = 2 ∧ ap = b) (hD : DsI M m b s p) (hQ : ∀ M1, FrM M M1 m [] [62, 63, 64] → GdI M1 m b ap mc (dD b s p) (m_n mc) → Q none M1) : Call G (d + 5) 0 0 mX12_good [.ref m, .int (nI q), .int (nI p)] M Q := by
  obtain ⟨hb, hq, hnf, h27, hfb, hap0, hn0, hn40, hcl, hk1, h00⟩ := id hg
  have l15 : ∀ u, u < m_n mc → (∀ M1, FrM M M1 m [] [62, 63, 64] → GdI M1 m b ap mc (dD b s p) (u + 1) → ∀ z, c1 z = true → LX12_good_2 G (d + 4) 0 0 m (nI q) (nI p) (nI (u + 1)) z M1 Q) → ∀ t i, i + t = m_n mc → ∀ M1, FrM M M1 m [] [62, 63, 64] → GdI M1 m b ap mc (dD b s p) u → (∀ j, j < i → x_l M1 (m + 62) j = lN (capN (esN u j))) → LX12_good_15 G (d + 4) 0 0 m (nI q) (nI p) (nI u) (nI i) M1 Q := by
    intro u hu hnext t
    induction t with
    | zero =>
      intro i hi M1 g hG hw
      have m1 := hm.fr g (by simp)
      obtain ⟨s1, z1, z2, q1⟩ := id m1
      refine vX12_good_15 _ _ _ _ _ ⟨s1.1, m + 12, s1.r12, by rw [s1.h12], by rw [s1.h12]; exact vp_in_nI hq (by omega), ?_⟩
      rw [nI_clamp (by omega), q1.1]
      refine ⟨fun _ => ⟨m + 64, s1.r64, ?_⟩, fun c => absurd (nI_le (show m_n mc ≤ i by omega) (by omega)) c⟩
      refine ur_behind d hg.id m1 hp hP (fun k hk => by rw [g.i (by omega) (by simp)]; exact hD k hk) (w := esN u) (fun j hj => hw j (by omega)) (fun M2 g2 => ⟨_, rfl, ?_⟩)
      have e : sg (fun i => esN u i * nwC b (m_s mc) (m_k mc) ap (dD b s p) i) (m_n mc) = nwC b (m_s mc) (m_k mc) ap (dD b s p) u := by
        have := sg_1 (x := nwC b (m_s mc) (m_k mc) ap (dD b s p)) (a := u) (k := m_n mc)
        rw [if_pos hu] at this
        exact this
      have hle := capN_le (nwC b (m_s mc) (m_k mc) ap (dD b s p) u)
      have hcp := cap_pos (x := nwC b (m_s mc) (m_k mc) ap (dD b s p) u)
      have g12 : FrM M M2 m [] [62, 63, 64] := g.tr (g2.wk (F := []) (A := [62, 63, 64]) (by simp) (by simp)) (fun _ h => h) (fun _ h => h)
      have s2 := g12.S hm.1
      have hG2 : GdI M2 m b ap mc (dD b s p) u := fun j hj => by rw [g2.i (by omega) (by simp)]; exact hG j hj
      rw [e, lg_cmp_le, show (0 : Int64) = lN 0 from rfl, pk_lLE (by omega) (by omega)]
      refine ⟨fun c => ⟨by rw [s2.h64], by rw [s2.h64]; exact vp_in_nI (show u < 40 by omega) (by omega), ?_⟩, fun c => ⟨by rw [s2.h64], by rw [s2.h64]; exact vp_in_nI (show u < 40 by omega) (by omega), ?_⟩⟩
      · rintro M13 rfl
        rw [nI_clamp (by omega), nI_1]
        refine hnext _ (g12.si (by omega) (by simp)) (fun j hj => ?_) _ rfl
        by_cases ej : j = u
        · rw [ej, xi_eq, if_neg (by omega)]; rfl
        · rw [xi_nk ej]; exact hG2 j (by omega)
      · rintro M16 rfl
        rw [nI_clamp (by omega), nI_1]
        refine hnext _ (g12.si (by omega) (by simp)) (fun j hj => ?_) _ rfl
        by_cases ej : j = u
        · rw [ej, xi_eq, if_pos (by omega)]; rfl
        · rw [xi_nk ej]; exact hG2 j (by omega)
    | succ t ih =>
      intro i hi M1 g hG hw
      obtain ⟨s1, z1, z2, q1⟩ := hm.fr g (by simp)
      refine vX12_good_15 _ _ _ _ _ ⟨s1.1, m + 12, s1.r12, by rw [s1.h12], by rw [s1.h12]; exact vp_in_nI hq (by omega), ?_⟩
      rw [nI_clamp (by omega), q1.1, nI_eq (show i < 2 ^ 31 by omega) (show u < 2 ^ 31 by omega)]
      refine ⟨fun c => absurd c (nI_ge (a := i) (b := m_n mc) (by omega) (by omega)), fun _ => ⟨m + 62, s1.r62, fun c => ⟨by rw [s1.h62], by rw [s1.h62]; exact vp_in_nI (show i < 40 by omega) (by omega), ?_⟩, fun c => ⟨by rw [s1.h62], by rw [s1.h62]; exact vp_in_nI (show i < 40 by omega) (by omega), ?_⟩⟩⟩
      · rintro M21 rfl
        rw [nI_clamp (by omega), nI_1]
        refine ih (i + 1) (by omega) _ (g.sl (by omega) (by simp)) hG (fun j hj => ?_)
        by_cases e : j = i
        · rw [e, xl_eq]
          unfold esN
          rw [if_neg (fun z => c z.symm)]
          rfl
        · rw [xl_nk e]; exact hw j (by omega)
      · rintro M24 rfl
        rw [nI_clamp (by omega), nI_1]
        refine ih (i + 1) (by omega) _ (g.sl (by omega) (by simp)) hG (fun j hj => ?_)
        by_cases e : j = i
        · rw [e, xl_eq]
          unfold esN
          rw [if_pos c.symm]
          rfl
        · rw [xl_nk e]; exact hw j (by omega)
  have l2 : ∀ t u, u + t = m_n mc → ∀ M1, FrM M M1 m [] [62, 63, 64] → GdI M1 m b ap mc (dD b s p) u → ∀ z, c1 z = true → LX12_good_2 G (d + 4) 0 0 m (nI q) (nI p) (nI u) z M1 Q := by
    intro t
    induction t with
    | zero =>
      intro u hu M1 g hG z hz
      obtain ⟨s1, z1, z2, q1⟩ := hm.fr g (by simp)
      have e : u = m_n mc := by omega
      subst e
      refine vX12_good_2 _ _ _ _ _ hz ⟨s1.1, m + 12, s1.r12, by rw [s1.h12], by rw [s1.h12]; exact vp_in_nI hq (by omega), ?_⟩
      rw [nI_clamp (by omega), q1.1]
      exact ⟨fun _ => hQ M1 g hG, fun c => absurd (nI_le (Nat.le_refl _) (by omega)) c⟩
    | succ t ih =>
      intro u hu M1 g hG z hz
      obtain ⟨s1, z1, z2, q1⟩ := hm.fr g (by simp)
      refine vX12_good_2 _ _ _ _ _ hz ⟨s1.1, m + 12, s1.r12, by rw [s1.h12], by rw [s1.h12]; exact vp_in_nI hq (by omega), ?_⟩
      rw [nI_clamp (by omega), q1.1]
      exact ⟨fun c => absurd c (nI_ge (a := u) (b := m_n mc) (by omega) (by omega)), fun _ => l15 u (by omega) (fun M2 g2 hG2 z2 hz2 => ih (u + 1) (by omega) M2 g2 hG2 z2 hz2) (m_n mc) 0 (by omega) M1 g hG (fun j hj => absurd hj (Nat.not_lt_zero _))⟩
  exact eX12_good _ _ _ (l2 (m_n mc) 0 (by omega) M FrM.rf (fun j hj => absurd hj (Nat.not_lt_zero _)) none rfl)
theorem ur_howMany (d : Nat) (hg : ReHg M m b q nf ap mc) (hm : ReHm M m b q nf mc) {s p : Nat} (hp : p ≤ 110) (hs : s < 2 ^ 63) (hP : 0 < p → pc nf = 2 ∧ ap = b) (hQ : ∀ M1 res, FrM M M1 m [] [58, 62, 63, 64] → CtR b (m_n mc) (m_s mc) (m_k mc) ap (dD b s p) res → Q (some (.long res)) M1) : Call G (d + 6) 0 0 mX12_howMany [.ref m, .int (nI q), .long (lN s), .int (nI p)] M Q := by
  obtain ⟨hb, hq, hnf, h27, hfb, hap0, hn0, hn40, hcl, hk1, h00⟩ := id hg
  have hb1 : 1 < b := by omega
  have hcl2 : ∀ i, i < m_n mc → ∀ g, g < b → m_s mc i (g * ap) < m_n mc := fun i hi g hgb => hcl i hi _ (by
    have : (g + 1) * ap ≤ b * ap := Nat.mul_le_mul_right ap hgb
    rw [Nat.succ_mul] at this
    omega)
  generalize hds : dD b s p = ds at hQ
  have hstep : ∀ k, VcI M (m + 62) k (fun _ => 0) → True := fun _ _ => trivial
  have fr : ∀ {M1 : Mem}, FrM M M1 m [] [58, 62, 63, 64] → ReHm M1 m b q nf mc := fun g => hm.fr g (by simp)
  have e2n : (2 : Int32) * nI (m_n mc) + 1 = nI (2 * m_n mc + 1) := by rw [show (2 : Int32) = nI 2 from rfl, s_mul, nI_1]
  -- state kept through the lengths
  have l117 : ∀ u, u ≤ 2 * m_n mc → (∀ m', m_n mc ≤ m' → m' < u → nzC b (m_s mc) (m_k mc) ap m' ds = 0) → (∀ M1, FrM M M1 m [] [58, 62, 63, 64] → DsI M1 m b s p → GdI M1 m b ap mc ds (m_n mc) → (m_n mc ≤ u → nzC b (m_s mc) (m_k mc) ap u ds = 0) → ∀ z z', c1 z = true → c1 z' = true → LX12_howMany_35 G (d + 5) 0 0 m (nI q) (lN s) (nI p) (nI (m_n mc)) (lN (capN (nwC b (m_s mc) (m_k mc) ap ds 0 + sg (fun m => nzC b (m_s mc) (m_k mc) ap m ds) (u + 1)))) (nI (u + 1 + 1)) z z' M1 Q) → ∀ M1, FrM M M1 m [] [58, 62, 63, 64] → DsI M1 m b s p → GdI M1 m b ap mc ds (m_n mc) → VcI M1 (m + 62) (m_n mc) (wvF b (m_n mc) (m_s mc) ap u) → ∀ t i, i + t = m_n mc → ∀ fl : Nat, fl ≤ 1 → (fl = 1 ↔ ∃ j, j < i ∧ 0 < wvF b (m_n mc) (m_s mc) ap u j * nwC b (m_s mc) (m_k mc) ap ds j) → LX12_howMany_117 G (d + 5) 0 0 m (nI q) (lN s) (nI p) (nI (m_n mc)) (lN (capN (nwC b (m_s mc) (m_k mc) ap ds 0 + sg (fun m => nzC b (m_s mc) (m_k mc) ap m ds) u))) (nI (u + 1)) (nI fl) (nI i) M1 Q := by
    intro u hu hzero hnext M1 g hD hG hw t
    have m1 := fr g
    obtain ⟨s1, z1, z2, q1⟩ := id m1
    induction t with
    | zero =>
      intro i hi fl hfl hiff
      have e : i = m_n mc := by omega
      subst e
      have hnz : 0 < nzC b (m_s mc) (m_k mc) ap u ds ↔ fl = 1 := by
        rw [← wv_dot hcl2 hn0, sg_pos, hiff]
      refine vX12_howMany_117 _ _ _ _ _ _ _ _ _ ⟨fun _ => ⟨fun c => ?_, fun c => ⟨fun c2 => ⟨fun c3 => absurd c3 c, fun _ => ⟨s1.1, ?_⟩⟩, fun c2 => hQ M1 _ g (Or.inl ⟨⟨u, ?_, ?_⟩, rfl⟩)⟩⟩, fun c => absurd (nI_le (Nat.le_refl _) (by omega)) c⟩
      · have f0 : fl = 0 := (nI_eq (a := fl) (b := 0) (by omega) (by omega)).mp c
        have hz0 : nzC b (m_s mc) (m_k mc) ap u ds = 0 := by omega
        refine ⟨fun _ => ?_, fun c2 => absurd c c2⟩
        have := hnext M1 g hD hG (fun _ => hz0) (some (.int (nI fl))) (some (.int (nI (m_n mc)))) rfl rfl
        rw [show sg (fun m => nzC b (m_s mc) (m_k mc) ap m ds) (u + 1) = sg (fun m => nzC b (m_s mc) (m_k mc) ap m ds) u + nzC b (m_s mc) (m_k mc) ap u ds from rfl, hz0, Nat.add_zero] at this
        rw [nI_1]
        exact this
      · rw [nI_leI (by omega) (by omega)] at c2
        refine ur_behind (d + 1) hg.id m1 hp hP hD hw (fun M2 g2 => ⟨_, rfl, ur_plus (d + 4) ⟨_, rfl, ?_⟩⟩)
        rw [hds, wv_dot hcl2 hn0, nI_1, Nat.add_assoc]
        have g12 : FrM M M2 m [] [58, 62, 63, 64] := g.tr (g2.wk (F := []) (A := [58, 62, 63, 64]) (by simp) (by simp)) (fun _ h => h) (fun _ h => h)
        exact hnext M2 g12 (fun k hk => by rw [g2.i (by omega) (by simp)]; exact hD k hk) (fun k hk => by rw [g2.i (by omega) (by simp)]; exact hG k hk) (fun h => by omega) _ _ rfl rfl
      · rw [nI_leI (by omega) (by omega)] at c2
        omega
      · rw [hnz]
        have : ¬ fl = 0 := fun z => c (by rw [z]; rfl)
        omega
    | succ t ih =>
      intro i hi fl hfl hiff
      have hin : i < m_n mc := by omega
      have hle := capN_le (wvF b (m_n mc) (m_s mc) ap u i)
      have hcp := cap_pos (x := wvF b (m_n mc) (m_s mc) ap u i)
      have go : ∀ f2 : Nat, f2 ≤ 1 → (f2 = 1 ↔ fl = 1 ∨ 0 < wvF b (m_n mc) (m_s mc) ap u i * nwC b (m_s mc) (m_k mc) ap ds i) → LX12_howMany_117 G (d + 5) 0 0 m (nI q) (lN s) (nI p) (nI (m_n mc)) (lN (capN (nwC b (m_s mc) (m_k mc) ap ds 0 + sg (fun m => nzC b (m_s mc) (m_k mc) ap m ds) u))) (nI (u + 1)) (nI f2) (nI i + 1) M1 Q := fun f2 h2 hi2 => by
        rw [nI_1]
        refine ih (i + 1) (by omega) f2 h2 ?_
        rw [hi2, hiff]
        constructor
        · rintro (⟨j, h3, h4⟩ | h3)
          · exact ⟨j, by omega, h4⟩
          · exact ⟨i, by omega, h3⟩
        · rintro ⟨j, h3, h4⟩
          by_cases c : j = i
          · rw [c] at h4; exact Or.inr h4
          · exact Or.inl ⟨j, by omega, h4⟩
      refine vX12_howMany_117 _ _ _ _ _ _ _ _ _ ⟨fun c => absurd c (nI_ge (a := i) (b := m_n mc) (by omega) (by omega)), fun _ => ⟨fun c => ?_, fun c => ⟨s1.1, m + 62, s1.r62, by rw [s1.h62], by rw [s1.h62]; exact vp_in_nI (show i < 40 by omega) (by omega), ?_⟩⟩⟩
      · have f1 : fl = 1 := by
          have : ¬ fl = 0 := fun z => c (by rw [z]; rfl)
          omega
        exact go 1 (by omega) ⟨fun _ => Or.inl f1, fun _ => rfl⟩
      · have f0 : fl = 0 := (nI_eq (a := fl) (b := 0) (by omega) (by omega)).mp c
        rw [nI_clamp (by omega), hw i hin, lg_cmp_le, show (0 : Int64) = lN 0 from rfl, pk_lLE (by omega) (by omega)]
        refine ⟨fun c2 => go 0 (by omega) ⟨fun z => absurd z (by omega), fun z => ?_⟩, fun c2 => ⟨m + 64, s1.r64, by rw [s1.h64], by rw [s1.h64]; exact vp_in_nI (show i < 40 by omega) (by omega), ?_⟩⟩
        · rcases z with z | z
          · omega
          · have w0 : wvF b (m_n mc) (m_s mc) ap u i = 0 := by omega
            rw [w0, Nat.zero_mul] at z
            omega
        · rw [hG i hin]
          by_cases cg : 0 < nwC b (m_s mc) (m_k mc) ap ds i
          · rw [if_pos cg]
            exact ⟨fun z => absurd z (by decide), fun _ => go 1 (by omega) ⟨fun _ => Or.inr (Nat.mul_pos (by omega) cg), fun _ => rfl⟩⟩
          · rw [if_neg cg]
            refine ⟨fun _ => go 0 (by omega) ⟨fun z => absurd z (by omega), fun z => ?_⟩, fun z => absurd rfl z⟩
            rcases z with z | z
            · omega
            · rw [show nwC b (m_s mc) (m_k mc) ap ds i = 0 by omega, Nat.mul_zero] at z
              omega
  have l82 : ∀ u, u ≤ 2 * m_n mc → ∀ lc, (∀ M1, FrM M M1 m [] [58, 62, 63, 64] → DsI M1 m b s p → GdI M1 m b ap mc ds (m_n mc) → VcI M1 (m + 62) (m_n mc) (wvF b (m_n mc) (m_s mc) ap u) → LX12_howMany_117 G (d + 5) 0 0 m (nI q) (lN s) (nI p) (nI (m_n mc)) lc (nI (u + 1)) (nI 0) (nI 0) M1 Q) → ∀ t c, c + t = u → ∀ M1, FrM M M1 m [] [58, 62, 63, 64] → DsI M1 m b s p → GdI M1 m b ap mc ds (m_n mc) → VcI M1 (m + 62) (m_n mc) (wvF b (m_n mc) (m_s mc) ap c) → ∀ z, c1 z = true → LX12_howMany_82 G (d + 5) 0 0 m (nI q) (lN s) (nI p) (nI (m_n mc)) lc (nI (u + 1)) (nI (c + 1)) z M1 Q := by
    intro u hu lc hnext t
    induction t with
    | zero =>
      intro c hc M1 g hD hG hw z hz
      have e : c = u := by omega
      subst e
      exact vX12_howMany_82 _ _ _ _ _ _ _ _ _ hz ⟨fun _ => hnext M1 g hD hG hw, fun y => absurd (nI_le (Nat.le_refl _) (by omega)) y⟩
    | succ t ih =>
      intro c hc M1 g hD hG hw z hz
      have m1 := fr g
      refine vX12_howMany_82 _ _ _ _ _ _ _ _ _ hz ⟨fun y => absurd y (nI_ge (a := c + 1) (b := u + 1) (by omega) (by omega)), fun _ => ⟨fun _ => ⟨m1.1.1, ?_⟩, fun y => absurd ((nI_eq (a := c + 1) (b := 0) (by omega) (by omega)).mp y) (by omega)⟩⟩
      show Call G (d + 5) 0 0 mX12_goes [.ref m, .int (nI q), .int (nI 0), .int (nI 0)] M1 _
      refine ur_goes (d + 2) hg.id m1 (Nat.zero_le _) hap0 hw (fun M2 g2 hw2 => ⟨rfl, ?_⟩)
      rw [nI_1]
      have g12 : FrM M M2 m [] [58, 62, 63, 64] := g.tr (g2.wk (F := []) (A := [58, 62, 63, 64]) (by simp) (by simp)) (fun _ h => h) (fun _ h => h)
      exact ih (c + 1) (by omega) M2 g12 (fun k hk => by rw [g2.i (by omega) (by simp)]; exact hD k hk) (fun k hk => by rw [g2.i (by omega) (by simp)]; exact hG k hk) hw2 z hz
  have l82a : ∀ u, u ≤ 2 * m_n mc → ∀ lc, (∀ M1, FrM M M1 m [] [58, 62, 63, 64] → DsI M1 m b s p → GdI M1 m b ap mc ds (m_n mc) → VcI M1 (m + 62) (m_n mc) (wvF b (m_n mc) (m_s mc) ap u) → LX12_howMany_117 G (d + 5) 0 0 m (nI q) (lN s) (nI p) (nI (m_n mc)) lc (nI (u + 1)) (nI 0) (nI 0) M1 Q) → ∀ M1, FrM M M1 m [] [58, 62, 63, 64] → DsI M1 m b s p → GdI M1 m b ap mc ds (m_n mc) → VcI M1 (m + 62) (m_n mc) (esN 0) → ∀ z, c1 z = true → LX12_howMany_82 G (d + 5) 0 0 m (nI q) (lN s) (nI p) (nI (m_n mc)) lc (nI (u + 1)) (nI 0) z M1 Q := by
    intro u hu lc hnext M1 g hD hG hw z hz
    have m1 := fr g
    refine vX12_howMany_82 _ _ _ _ _ _ _ _ _ hz ⟨fun y => absurd y (nI_ge (a := 0) (b := u + 1) (by omega) (by omega)), fun _ => ⟨fun y => absurd rfl y, fun _ => ⟨m1.1.1, ?_⟩⟩⟩
    show Call G (d + 5) 0 0 mX12_goes [.ref m, .int (nI q), .int (nI 1), .int (nI 0)] M1 _
    refine ur_goes (d + 2) hg.id m1 (by omega) hap0 hw (fun M2 g2 hw2 => ⟨rfl, ?_⟩)
    have g12 : FrM M M2 m [] [58, 62, 63, 64] := g.tr (g2.wk (F := []) (A := [58, 62, 63, 64]) (by simp) (by simp)) (fun _ h => h) (fun _ h => h)
    refine l82 u hu lc hnext u 0 (by omega) M2 g12 (fun k hk => by rw [g2.i (by omega) (by simp)]; exact hD k hk) (fun k hk => by rw [g2.i (by omega) (by simp)]; exact hG k hk) (fun j hj => ?_) z hz
    rw [hw2 j hj]
    have : pushN (fun i g => m_s mc i (g * ap + 0)) (esN 0) 1 (b - 1) (m_n mc) j = rsN (sd0 (m_s mc) ap) 0 1 j (b - 1) := by
      have := sg_1 (x := fun i' => rsN (sd0 (m_s mc) ap) i' 1 j (b - 1)) (a := 0) (k := m_n mc)
      rw [if_pos hn0] at this
      exact this
    show lN (capN (pushN (fun i g => m_s mc i (g * ap + 0)) (esN 0) 1 (b - 1) (m_n mc) j)) = lN (capN (rsN (sd0 (m_s mc) ap) 0 1 j (b - 1)))
    rw [this]
  have l49 : ∀ u, u ≤ 2 * m_n mc → ∀ lc, (∀ M1, FrM M M1 m [] [58, 62, 63, 64] → DsI M1 m b s p → GdI M1 m b ap mc ds (m_n mc) → VcI M1 (m + 62) (m_n mc) (wvF b (m_n mc) (m_s mc) ap u) → LX12_howMany_117 G (d + 5) 0 0 m (nI q) (lN s) (nI p) (nI (m_n mc)) lc (nI (u + 1)) (nI 0) (nI 0) M1 Q) → ∀ t i, i + t = m_n mc → ∀ M1, FrM M M1 m [] [58, 62, 63, 64] → DsI M1 m b s p → GdI M1 m b ap mc ds (m_n mc) → (∀ j, j < i → x_l M1 (m + 62) j = lN (capN (esN 0 j))) → ∀ z, c1 z = true → LX12_howMany_49 G (d + 5) 0 0 m (nI q) (lN s) (nI p) (nI (m_n mc)) lc (nI (u + 1)) (nI i) z M1 Q := by
    intro u hu lc hnext t
    induction t with
    | zero =>
      intro i hi M1 g hD hG hw z hz
      exact vX12_howMany_49 _ _ _ _ _ _ _ _ _ hz ⟨fun _ => l82a u hu lc hnext M1 g hD hG (fun j hj => hw j (by omega)) z hz, fun c => absurd (nI_le (show m_n mc ≤ i by omega) (by omega)) c⟩
    | succ t ih =>
      intro i hi M1 g hD hG hw z hz
      obtain ⟨s1, z1, z2, q1⟩ := fr g
      refine vX12_howMany_49 _ _ _ _ _ _ _ _ _ hz ⟨fun c => absurd c (nI_ge (a := i) (b := m_n mc) (by omega) (by omega)), fun _ => ⟨s1.1, m + 62, s1.r62, fun c => ⟨by rw [s1.h62], by rw [s1.h62]; exact vp_in_nI (show i < 40 by omega) (by omega), ?_⟩, fun c => ⟨by rw [s1.h62], by rw [s1.h62]; exact vp_in_nI (show i < 40 by omega) (by omega), ?_⟩⟩⟩
      · rintro M7 rfl
        rw [nI_clamp (by omega), nI_1]
        refine ih (i + 1) (by omega) _ (g.sl (by omega) (by simp)) hD hG (fun j hj => ?_) z hz
        by_cases e : j = i
        · rw [e, xl_eq]
          have : i ≠ 0 := fun z => c (by rw [z]; rfl)
          unfold esN
          rw [if_neg (fun z => this z.symm)]
          rfl
        · rw [xl_nk e]; exact hw j (by omega)
      · rintro M10 rfl
        rw [nI_clamp (by omega), nI_1]
        have e0 : i = 0 := (nI_eq (a := i) (b := 0) (by omega) (by omega)).mp c
        refine ih (i + 1) (by omega) _ (g.sl (by omega) (by simp)) hD hG (fun j hj => ?_) z hz
        have ej : j = i := by omega
        rw [ej, xl_eq, e0]
        rfl
  have l35 : ∀ t u, u + t = 2 * m_n mc + 1 → ∀ M1, FrM M M1 m [] [58, 62, 63, 64] → DsI M1 m b s p → GdI M1 m b ap mc ds (m_n mc) → (∀ m', m_n mc ≤ m' → m' < u → nzC b (m_s mc) (m_k mc) ap m' ds = 0) → ∀ z z', c1 z = true → c1 z' = true → LX12_howMany_35 G (d + 5) 0 0 m (nI q) (lN s) (nI p) (nI (m_n mc)) (lN (capN (nwC b (m_s mc) (m_k mc) ap ds 0 + sg (fun m => nzC b (m_s mc) (m_k mc) ap m ds) u))) (nI (u + 1)) z z' M1 Q := by
    intro t
    induction t with
    | zero =>
      intro u hu M1 g hD hG hzero z z' hz hz'
      have e : u = 2 * m_n mc + 1 := by omega
      subst e
      have hninf : ¬ InfC b (m_n mc) (m_s mc) (m_k mc) ap ds := fun h => by
        obtain ⟨m', h1, h2, h3⟩ := inf_from hcl2 hn0 h (k := m_n mc) (Nat.le_refl _)
        rw [hzero m' h1 (by omega)] at h3
        omega
      have hfin := hQ M1 _ g (Or.inr ⟨hninf, 2 * m_n mc + 1, by omega, rfl⟩)
      rw [nw_total hb1 h00, ← dfA_cap] at hfin
      have hle := capN_le (nwC b (m_s mc) (m_k mc) ap ds 0 + sg (fun m => nzC b (m_s mc) (m_k mc) ap m ds) (2 * m_n mc + 1))
      refine vX12_howMany_35 _ _ _ _ _ _ _ _ _ hz hz' ?_
      rw [e2n, nI_ltI (by omega) (by omega)]
      refine ⟨fun _ => ?_, fun c => absurd (by omega) c⟩
      rw [lg_cmp_le, show (4611686018427387904 : Int64) = lN 4611686018427387904 from rfl, pk_lLE (by omega) (by omega)]
      refine ⟨fun c => ?_, fun c => ?_⟩
      · rw [if_pos c] at hfin; exact hfin
      · rw [if_neg c] at hfin; exact hfin
    | succ t ih =>
      intro u hu M1 g hD hG hzero z z' hz hz'
      refine vX12_howMany_35 _ _ _ _ _ _ _ _ _ hz hz' ?_
      rw [e2n, nI_ltI (by omega) (by omega)]
      refine ⟨fun c => absurd c (by omega), fun _ => ?_⟩
      refine l49 u (by omega) _ (fun M2 g2 hD2 hG2 hw2 => ?_) (m_n mc) 0 (by omega) M1 g hD hG (fun j hj => absurd hj (Nat.not_lt_zero _)) z' hz'
      refine l117 u (by omega) hzero (fun M3 g3 hD3 hG3 h0 z3 z4 hz3 hz4 => ih (u + 1) (by omega) M3 g3 hD3 hG3 (fun m' h1 h2 => ?_) z3 z4 hz3 hz4) M2 g2 hD2 hG2 hw2 (m_n mc) 0 (by omega) 0 (by omega) ⟨fun z => absurd z (by omega), fun ⟨j, h1, _⟩ => absurd h1 (Nat.not_lt_zero _)⟩
      by_cases c : m' = u
      · rw [c]; exact h0 (by omega)
      · exact hzero m' h1 (by omega)
  obtain ⟨s0, z0, z9, q0⟩ := id hm
  have digs : ∀ (Q' : Option Value → Mem → Prop), (∀ M1, FrM M M1 m [] [58] → DsI M1 m b s p → Q' none M1) → Call G (d + 5) 0 0 mX12_digitsOf [.ref m, .int 1, .long (lN s), .int (nI p)] M Q' := fun Q' h => by
    rcases Nat.eq_zero_or_pos p with c | c
    · subst c
      refine eX12_digitsOf m _ _ _ (vX12_digitsOf_9 _ _ _ _ _ _ ⟨fun _ => h M FrM.rf (fun k hk => absurd hk (Nat.not_lt_zero _)), fun c => absurd (show nI 0 - 1 < 0 by decide) c⟩)
    · show Call G (d + 5) 0 0 mX12_digitsOf [.ref m, .int (nI 1), .long (lN s), .int (nI p)] M Q'
      exact ur_digitsOf (b := b) (w := 1) (places := p) (v := s) (d + 4) s0 hb1 (by omega) z0 (by omega) c hp hs (fun M1 g hdg _ => h M1 g (fun k hk => hdg k hk))
  refine eX12_howMany _ _ _ _ ⟨s0.1, m + 12, s0.r12, by rw [s0.h12], by rw [s0.h12]; exact vp_in_nI hq (by omega), ?_⟩
  rw [nI_clamp (by omega), q0.1]
  refine digs _ (fun M1 g1 hD1 => ⟨rfl, (g1.S s0).1, ?_⟩)
  have m1 := hm.fr g1 (by simp)
  refine ur_good d hg.id m1 hp hP hD1 (fun M2 g2 hG2 => ⟨rfl, (g2.S m1.1).1, ?_⟩)
  have m2 := m1.fr g2 (by simp)
  have hD2 : DsI M2 m b s p := fun k hk => by rw [g2.i (by omega) (by simp)]; exact hD1 k hk
  refine ur_start d hg.id m2 hp hP hD2 (fun M3 g3 => ⟨_, rfl, ?_⟩)
  rw [hds] at hG2 ⊢
  have g13 : FrM M M3 m [] [58, 62, 63, 64] := ((g1.wk (F := []) (A := [58, 62, 63, 64]) (by simp) (by simp)).tr (g2.wk (F := []) (A := [58, 62, 63, 64]) (by simp) (by simp)) (fun _ h => h) (fun _ h => h)).tr (g3.wk (F := []) (A := [58, 62, 63, 64]) (by simp) (by simp)) (fun _ h => h) (fun _ h => h)
  exact l35 (2 * m_n mc + 1) 0 (by omega) M3 g13 (fun k hk => by rw [g3.i (by omega) (by simp)]; exact hD2 k hk) (fun k hk => by rw [g3.i (by omega) (by simp)]; exact hG2 k hk) (fun m' _ h => absurd h (Nat.not_lt_zero _)) none none rfl rfl
end RManyC
