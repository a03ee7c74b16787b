/-! ===== both alike: next ===== -/
section OpNext
variable {G : GG} {M M' : Mem} {e m b q : Nat} {mc : Mc} {S : Sg} {R K : Nat → Mc} {Q : Option Value → Mem → Prop}
/-- above is told by what comes behind it -/
def nxV (l : Int64) (a : Nat) : Prop := (l = -1 ∧ a = 0) ∨ ∃ A, A ≤ 4611686018427387904 ∧ l = lN A ∧ a = A + 1
theorem nxm1 {A : Nat} (hA : A ≤ 4611686018427387904) : lN A ≠ -1 := fun c => by
  have h1 := pk_lT (n := A) (by omega)
  rw [c] at h1
  have h2 : (-1 : Int64).toInt = -1 := rfl
  rw [h2] at h1
  omega
theorem nxV.one {l : Int64} {a a' : Nat} (h : nxV l a) (h' : nxV l a') : a = a' := by
  rcases h with ⟨h1, h2⟩ | ⟨A, h1, h2, h3⟩
  · rcases h' with ⟨g1, g2⟩ | ⟨A', g1, g2, g3⟩
    · rw [h2, g2]
    · exact absurd (g2.symm.trans h1) (nxm1 g1)
  · rcases h' with ⟨g1, g2⟩ | ⟨A', g1, g2, g3⟩
    · exact absurd (h2.symm.trans g1) (nxm1 h1)
    · have := (pk_lEQ (by omega) (by omega)).mp (h2.symm.trans g2)
      omega
theorem nxV.add {l : Int64} {a : Nat} (h : nxV l a) : l + 1 = lN a ∧ a ≤ 4611686018427387905 := by
  rcases h with ⟨h1, h2⟩ | ⟨A, h1, h2, h3⟩
  · rw [h1, h2]; exact ⟨by decide, by omega⟩
  · rw [h2, h3, show (1 : Int64) = lN 1 from rfl, lN_add]; exact ⟨rfl, by omega⟩
theorem nxV.rng {l : Int64} {a : Nat} (h : nxV l a) : ¬ l < -1 ∧ l ≤ 4611686018427387904 := by
  rcases h with ⟨h1, h2⟩ | ⟨A, h1, h2, h3⟩
  · rw [h1]; exact ⟨by decide, by decide⟩
  · have e1 := pk_lT (n := A) (by omega)
    refine ⟨fun c => ?_, ?_⟩
    · rw [Int64.lt_iff_toInt_lt, h2, e1, show (-1 : Int64).toInt = -1 from rfl] at c
      omega
    · rw [h2, show (4611686018427387904 : Int64) = lN 4611686018427387904 from rfl, pk_lLE (by omega) (by omega)]
      exact h1
theorem nxV.ex {l : Int64} (h1 : ¬ l < -1) (h2 : l ≤ 4611686018427387904) : ∃ a, nxV l a := by
  by_cases c : l < 0
  · refine ⟨0, Or.inl ⟨Int64.toInt_inj.mp ?_, rfl⟩⟩
    rw [Int64.lt_iff_toInt_lt, show (-1 : Int64).toInt = -1 from rfl] at h1
    rw [Int64.lt_iff_toInt_lt, show (0 : Int64).toInt = 0 from rfl] at c
    rw [show (-1 : Int64).toInt = -1 from rfl]
    omega
  · obtain ⟨A, hA, rfl⟩ := pk_lOf c
    rw [show (4611686018427387904 : Int64) = lN 4611686018427387904 from rfl, pk_lLE hA (by omega)] at h2
    exact ⟨A + 1, Or.inr ⟨A, h2, rfl, rfl⟩⟩
theorem ur_next48 (d : Nat) (hs : ReS M m) (h0 : x_i M m 0 = nI b) (hg : ReG b q mc) (hM : ReQ M m q b mc) {l : Int64} {A : Nat} (hA : A ≤ 4611686018427387904) (hl : (l = -1 ∧ A = 0) ∨ l = lN A) (hQ : ∀ M1 res, FrM M M1 m [] [58, 60, 61] → NxR b (m_s mc) (m_k mc) (A + 1) res → Q (some (.long res)) M1) : LX12_next__48 G (d + 2) 0 0 m (nI q) l M Q := by
  obtain ⟨hb, hq, hn0, hn40, hcl, hk1, h00⟩ := id hg
  have hb1 : 1 < b := by omega
  have fl : ∀ k i, i < m_n mc → ldB b (m_s mc) (m_k mc) k i ≤ 1 := fun k i hi => ldB_le (n := m_n mc) hk1 k i hi
  have hA63 : A < b ^ 63 := by
    have : 2 ^ 63 ≤ b ^ 63 := Nat.pow_le_pow_left hb1 63
    omega
  have hA110 : A < b ^ 110 := Nat.lt_of_lt_of_le hA63 (Nat.pow_le_pow_right (by omega) (by omega))
  have body : ∀ M1, FrM M M1 m [] [58, 60, 61] → (∀ k, k ≤ 110 → LdI M1 m b mc k) → (∀ k, k < 110 → x_i M1 (m + 58) k = nI (A / b ^ (109 - k) % b)) → LX12_next__81 G (d + 2) 0 0 m (nI q) l 0 (x_si M1 (m + 61) 0 0) Q := by
    intro M1 g1 hld hdg
    have l81 : ∀ t k, k + t = 110 → ∀ M2, FrM M1 M2 m [] [61] → (∀ k', k' ≤ k → x_i M2 (m + 61) k' = nI (svN b (m_s mc) (A / b ^ (110 - k')))) → LX12_next__81 G (d + 2) 0 0 m (nI q) l (nI k) M2 Q := by
      intro t
      induction t with
      | zero =>
        intro k hk M2 g2 hp
        have ek : k = 110 := by omega
        subst ek
        have g12 : FrM M M2 m [] [58, 60, 61] := g1.tr (g2.wk (F := []) (A := [58, 60, 61]) (by simp) (by simp)) (fun _ h => h) (fun _ h => h)
        have s2 := g12.S hs
        have z2 : x_i M2 m 0 = nI b := by rw [g12.fm (by simp)]; exact h0
        have q2 := hM.fr g12 (by simp)
        have ld2 : ∀ k, k ≤ 110 → LdI M2 m b mc k := fun k hk i hi => by rw [g2.i (by omega) (by simp)]; exact hld k hk i hi
        have dg2 : ∀ k, k < 110 → x_i M2 (m + 58) k = nI (A / b ^ (109 - k) % b) := fun k hk => by rw [g2.i (by omega) (by simp)]; exact hdg k hk
        have l126 : ∀ t e, e + t = 110 → (∀ e', e' < e → ∀ d', ¬ nxC b (m_s mc) (m_k mc) A e' d') → ∀ z z', c1 z = true → c1 z' = true → LX12_next__126 G (d + 2) 0 0 m (nI q) l (xr_ t) z z' M2 Q := by
          intro t
          induction t with
          | zero =>
            intro e he hno z z' hz hz'
            have ee : e = 110 := by omega
            subst ee
            exact vX12_next__126 _ _ _ _ _ _ hz hz' ⟨fun _ => hQ M2 _ g12 (Or.inr ⟨fun y hy => nx_none hb1 h00 hn0 hcl hA63 (by omega) hno y (by omega), rfl⟩), fun c => absurd (show (-1 : Int32) < 0 by decide) c⟩
          | succ t ih =>
            intro e he hno z z' hz hz'
            have hdl : A / b ^ e % b < b := Nat.mod_lt _ (by omega)
            have hsv := svN_lt hb1 hn0 hcl (A / b ^ (e + 1))
            refine vX12_next__126 _ _ _ _ _ _ hz hz' ⟨fun c => absurd c (nI_pos (n := t) (by omega)), fun _ => ⟨s2.1, m + 58, s2.r58, by rw [s2.h58], by rw [s2.h58]; exact vp_in_nI (show t < 330 by omega) (by omega), ?_⟩⟩
            show LX12_next__142 G (d + 2) 0 0 m (nI q) l (nI t) (x_i M2 (m + 58) (nI t).toNatClampNeg + 1) z' M2 Q
            rw [nI_clamp (by omega), dg2 t (by omega), nI_1, show 109 - t = e by omega]
            have ea : ∀ i', (40 : Int32) * (109 - nI t) + nI i' = nI (40 * e + i') := fun i' => by
              rw [show (40 : Int32) = nI 40 from rfl, show (109 : Int32) = nI 109 from rfl, s_sub (by omega), s_mul, nI_add, show 109 - t = e by omega]
            have l142 : ∀ u g, g + u = b → A / b ^ e % b < g → (∀ d', d' < g → ¬ nxC b (m_s mc) (m_k mc) A e d') → ∀ z, c1 z = true → LX12_next__142 G (d + 2) 0 0 m (nI q) l (nI t) (nI g) z M2 Q := by
              intro u
              induction u with
              | zero =>
                intro g hg' hlt hno2 z hz
                refine vX12_next__142 _ _ _ _ _ _ hz ⟨s2.1, fun _ => ?_, fun c => absurd (by rw [z2]; exact nI_le (show b ≤ g by omega) (by omega)) c⟩
                rw [xr_s]
                refine ih (e + 1) (by omega) (fun e' he' d' hc => ?_) _ _ rfl hz
                by_cases ee : e' = e
                · subst ee
                  exact hno2 d' (by have := hc.2.1; omega) hc
                · exact hno e' (by omega) d' hc
              | succ u ihu =>
                intro g hg' hlt hno2 z hz
                have hgb : g < b := by omega
                have hsg := hcl _ hsv g hgb
                have hflg := fl e _ hsg
                refine vX12_next__142 _ _ _ _ _ _ hz ⟨s2.1, fun c => absurd (by rw [z2] at c; exact c) (nI_ge (a := g) (b := b) hgb (by omega)), fun _ => ⟨m + 61, s2.r61, by rw [s2.h61], by rw [s2.h61]; exact vp_in_nI (show t < 111 by omega) (by omega), ?_⟩⟩
                rw [nI_clamp (by omega), hp t (by omega), show 110 - t = e + 1 by omega]
                refine ur_to (d + 1) s2 q2 hq hn40 (by omega) hsv hgb ⟨_, rfl, s2.1, m + 60, s2.r60, by rw [s2.h60], by rw [s2.h60, ea]; exact vp_in_nI (show 40 * e + m_s mc (svN b (m_s mc) (A / b ^ (e + 1))) g < 4440 by omega) (by omega), ?_⟩
                rw [ea, nI_clamp (by omega), ld2 e (by omega) _ hsg, show (0 : Int32) = nI 0 from rfl, nI_eq (by omega) (by omega), nI_1]
                refine ⟨fun c => ihu (g + 1) (by omega) (by omega) (fun d' hd' hc => ?_) _ rfl, fun c => ?_⟩
                · by_cases ee : d' = g
                  · subst ee
                    have := (ldB_1 (b := b) (st := m_s mc) (mk := m_k mc) e _).mpr hc.2.2
                    omega
                  · exact hno2 d' (by omega) hc
                · have hl1 := (ldB_1 (b := b) (st := m_s mc) (mk := m_k mc) e (m_s mc (svN b (m_s mc) (A / b ^ (e + 1))) g)).mp (by omega)
                  have et : t = 109 - e := by omega
                  subst et
                  refine ur_lowest d s2 z2 hg q2 ld2 hA110 dg2 (by omega) hgb hsg hl1 (fun y hy => ⟨_, rfl, ?_⟩)
                  obtain ⟨f1, f2, f3⟩ := nx_found hb1 h00 hlt hgb hno2 hno hy
                  exact hQ M2 _ g12 (Or.inl ⟨_, f1, f2, fun y' hy1 hy2 hac => by have := f3 y' hy1 hac; omega, rfl⟩)
            exact l142 (b - (A / b ^ e % b + 1)) _ (by omega) (by omega) (fun d' hd' hc => by have := hc.1; omega) z' hz'
        refine vX12_next__81 _ _ _ _ ⟨fun _ => l126 110 0 (by omega) (fun e' he' => absurd he' (Nat.not_lt_zero _)) none none rfl rfl, fun c => absurd (nI_le (show 110 ≤ 110 by omega) (by omega)) c⟩
      | succ t ih =>
        intro k hk M2 g2 hp
        have g12 : FrM M M2 m [] [58, 60, 61] := g1.tr (g2.wk (F := []) (A := [58, 60, 61]) (by simp) (by simp)) (fun _ h => h) (fun _ h => h)
        have s2 := g12.S hs
        have q2 := hM.fr g12 (by simp)
        have hsv := svN_lt hb1 hn0 hcl (A / b ^ (110 - k))
        have hdl : A / b ^ (109 - k) % b < b := Nat.mod_lt _ (by omega)
        refine vX12_next__81 _ _ _ _ ⟨fun c => absurd c (nI_ge (a := k) (b := 110) (by omega) (by omega)), fun _ => ⟨s2.1, m + 61, s2.r61, by rw [s2.h61], by rw [s2.h61]; exact vp_in_nI (show k < 111 by omega) (by omega), m + 58, s2.r58, by rw [s2.h58], by rw [s2.h58]; exact vp_in_nI (show k < 330 by omega) (by omega), ?_⟩⟩
        rw [nI_clamp (by omega), hp k (Nat.le_refl _), g2.i (o := 58) (by omega) (by simp), hdg k (by omega), nI_1]
        refine ur_to (d + 1) s2 q2 hq hn40 (by omega) hsv hdl ⟨_, rfl, by rw [s2.h61], by rw [s2.h61]; exact vp_in_nI (show k + 1 < 111 by omega) (by omega), ?_⟩
        rintro M14 rfl
        rw [nI_clamp (by omega)]
        refine ih (k + 1) (by omega) _ (g2.si (by omega) (by simp)) (fun k' hk' => ?_)
        by_cases c : k' = k + 1
        · rw [c, xi_eq, ← svN_s hb1 h00 hdl]
          have := dv_s (b := b) (x := A) (e := 109 - k)
          rw [show 109 - k + 1 = 110 - k by omega] at this
          rw [← this, show 110 - (k + 1) = 109 - k by omega]
        · rw [xi_nk (by omega)]; exact hp k' (by omega)
    refine l81 110 0 (by omega) _ (FrM.rf.si (by omega) (by simp)) (fun k' hk' => ?_)
    have : k' = 0 := by omega
    subst this
    rw [xi_eq, Nat.sub_zero, Nat.div_eq_of_lt hA110, svN_0]
    rfl
  refine vX12_next__48 _ _ _ ⟨hs.1, ur_leadsAll d hs h0 hg hM (fun M1 g1 hld => ⟨rfl, ?_⟩)⟩
  have s1 := g1.S hs
  have z1 : x_i M1 m 0 = nI b := by rw [g1.fm (by simp)]; exact h0
  have dig : ∀ v, v = lN A → Call G (d + 2) 0 0 mX12_digitsOf [.ref m, .int 0, .long v, .int 110] M1 (fun r6 M7 => r6 = none ∧ (x_h M7 m).1 = 28 ∧ (∃ b9, x_r M7 m 88 = some b9 ∧ (x_h M7 b9).1 = 1 ∧ vp_in 0 (x_h M7 b9).2 ∧ (∀ M12, M12 = x_si M7 b9 (0 : Int32).toNatClampNeg 0 → LX12_next__81 G (d + 2) 0 0 m (nI q) l 0 M12 Q))) := by
    rintro _ rfl
    refine ur_digitsOf (b := b) (w := 0) (places := 110) (v := A) (d + 1) s1 hb1 (by omega) z1 (by omega) (by omega) (by omega) (by omega) (fun M2 g2 hdg hkp => ?_)
    have s2 := g2.S s1
    refine ⟨rfl, s2.1, m + 61, s2.r61, by rw [s2.h61], by rw [s2.h61]; exact vp_in_nI (n := 0) (by omega) (by omega), ?_⟩
    rintro M12 rfl
    have g12 : FrM M M2 m [] [58, 60, 61] := (g1.wk (F := []) (A := [58, 60, 61]) (by simp) (by simp)).tr (g2.wk (F := []) (A := [58, 60, 61]) (by simp) (by simp)) (fun _ h => h) (fun _ h => h)
    refine body M2 g12 (fun k hk i hi => by rw [g2.i (by omega) (by simp)]; exact hld k hk i hi) (fun k hk => ?_)
    have := hdg k hk
    rw [show 110 * 0 + k = k by omega, show 110 - 1 - k = 109 - k by omega] at this
    exact this
  refine ⟨fun c => ⟨s1.1, dig l ?_⟩, fun c => ⟨s1.1, dig 0 ?_⟩⟩
  · rcases hl with ⟨e1, -⟩ | e1
    · rw [e1] at c
      exact absurd c (by decide)
    · exact e1
  · rcases hl with ⟨-, e1⟩ | e1
    · rw [e1]; rfl
    · rw [e1, lg_cmp_ge, show (0 : Int64) = lN 0 from rfl, pk_lLE (by omega) (by omega)] at c
      omega
end OpNext
