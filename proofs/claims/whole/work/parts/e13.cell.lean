/-! ===== both alike: cell ===== -/
section OpCell
variable {G : GG} {M M' : Mem} {e m b : Nat} {S S' : Sg} {R K : Nat → Mc} {Q : Option Value → Mem → Prop}
def ceR (S : Sg) (x y z : Int32) (c : Int32) : Prop := (c = 1 ∧ ((∀ s, s < 6 → x ≠ nI s) ∨ ∀ v, v ≤ 100 → z ≠ nI v)) ∨ ∃ s v, s < 6 ∧ x = nI s ∧ v ≤ 100 ∧ z = nI v ∧ ((c = 10 ∧ y_so S s = -1) ∨ (c = 12 ∧ y_so S s ≠ -1 ∧ ∀ i, i < y_sz S s → y ≠ nI i))
def ceG (S : Sg) (x y z : Int32) (s i v : Nat) : Prop := s < 6 ∧ x = nI s ∧ v ≤ 100 ∧ z = nI v ∧ y_so S s ≠ -1 ∧ i < y_sz S s ∧ y = nI i
theorem ceR.one {x y z c c' : Int32} (h : ceR S x y z c) (h' : ceR S x y z c') : c = c' := by
  rcases h with ⟨rfl, h⟩ | ⟨s, v, h1, h2, h3, h4, h5⟩
  · rcases h' with ⟨rfl, -⟩ | ⟨s, v, h1, h2, h3, h4, h5⟩
    · rfl
    · rcases h with h | h
      · exact absurd h2 (h s h1)
      · exact absurd h4 (h v h3)
  · rcases h' with ⟨rfl, h⟩ | ⟨s', v', g1, g2, g3, g4, g5⟩
    · rcases h with h | h
      · exact absurd h2 (h s h1)
      · exact absurd h4 (h v h3)
    · have := nI_same h2 g2 (by omega) (by omega)
      subst this
      rcases h5 with ⟨rfl, a⟩ | ⟨rfl, a, -⟩
      · rcases g5 with ⟨rfl, a'⟩ | ⟨rfl, a', -⟩
        · rfl
        · exact absurd a a'
      · rcases g5 with ⟨rfl, a'⟩ | ⟨rfl, a', -⟩
        · exact absurd a' a
        · rfl
theorem ceR.no {x y z c : Int32} {s i v : Nat} (h : ceR S x y z c) (g : ceG S x y z s i v) : False := by
  obtain ⟨g1, g2, g3, g4, g5, g6, g7⟩ := g
  rcases h with ⟨rfl, h⟩ | ⟨s', v', h1, h2, h3, h4, h5⟩
  · rcases h with h | h
    · exact h s g1 g2
    · exact h v g3 g4
  · have := nI_same h2 g2 (by omega) (by omega)
    subst this
    rcases h5 with ⟨-, a⟩ | ⟨-, -, a⟩
    · exact g5 a
    · exact a i g6 g7
theorem ceG.one (hW : SgW S) {x y z : Int32} {s i v s' i' v' : Nat} (h : ceG S x y z s i v) (g : ceG S x y z s' i' v') : s = s' ∧ i = i' ∧ v = v' := by
  obtain ⟨g1, g2, g3, g4, g5, g6, g7⟩ := g
  obtain ⟨h1, h2, h3, h4, h5, h6, h7⟩ := h
  have := (hW.2.2.2.1 s h1).1
  have := (hW.2.2.2.1 s' g1).1
  exact ⟨nI_same h2 g2 (by omega) (by omega), nI_same h7 g7 (by omega) (by omega), nI_same h4 g4 (by omega) (by omega)⟩
theorem w_cell (d : Nat) (hS : CoS M e) (hW : SgW S) (hH : CoH M e S) {x y z : Int32} (hQ0 : ∀ c, ceR S x y z c → Q (some (.int (-1))) (x_si M e 15 c)) (hQ1 : ∀ s i v, ceG S x y z s i v → Q (some (.int 1)) (x_si (x_si M (e + 5 + s) i (nI v)) e 15 0)) : Call G (d + 2) 0 0 mX11_cell [.ref e, .int x, .int y, .int z] M Q := by
  obtain ⟨a1, a2, a3, a4, a5, a6, a7, a8, a9, a10, a11, a12, b1, b2, b3, b4, b5, b6, b7, b8, -⟩ := hS
  have refuse : ∀ c, ceR S x y z c → Call G (d + 1) 0 0 mX11_refuse [.ref e, .int c] M (fun r6 M7 => ∃ v8 : Int32, r6 = some (.int v8) ∧ Q (some (.int v8)) M7) := fun c h => w_refuse d a1 ⟨_, rfl, hQ0 c h⟩
  refine eX11_cell e x y z ?_
  show Call G (d + 1) 0 0 mX11_within [.int x, .int (nI 6)] M _
  refine w_in0 d (by omega) (fun h => ⟨0, rfl, fun _ => ⟨a1, refuse 1 (Or.inl ⟨rfl, Or.inl h⟩)⟩, fun c => absurd rfl c⟩) (fun s hs es => ⟨1, rfl, fun c => absurd c (by decide), fun _ => ⟨fun zneg => ⟨a1, refuse 1 (Or.inl ⟨rfl, Or.inr (fun v hv ez => ?_)⟩)⟩, fun zn => ⟨fun z1 => ?_, fun z1 => ⟨a1, refuse 1 (Or.inl ⟨rfl, Or.inr (fun v hv ez => ?_)⟩)⟩⟩⟩⟩)
  · rw [ez, Int32.lt_iff_toInt_lt, nI_toInt (by omega), show (0 : Int32).toInt = 0 from rfl] at zneg
    omega
  · rw [Int32.lt_iff_toInt_lt, show (0 : Int32).toInt = 0 from rfl] at zn
    rw [Int32.le_iff_toInt_le, show (100 : Int32).toInt = 100 from rfl] at z1
    obtain ⟨v, hv, ez⟩ := nI_ofInt (x := z) (n := 101) (by omega) (by omega) (by omega)
    have hcl : x.toNatClampNeg = s := by rw [es, nI_clamp (by omega)]
    have hin : vp_in x 6 := by rw [es]; exact vp_in_nI hs (by omega)
    obtain ⟨v1, v2, v3⟩ := hH.1 s hs
    obtain ⟨w1, -⟩ := hW.2.2.2.1 s hs
    refine ⟨a1, e + 11, a6, by rw [b6], by rw [b6]; exact hin, ?_⟩
    rw [hcl, v1]
    refine ⟨fun so => ⟨e + 12, a7, by rw [b7], by rw [b7]; exact hin, ?_⟩, fun so => refuse 10 (Or.inr ⟨s, v, hs, es, by omega, ez, Or.inl ⟨rfl, so⟩⟩)⟩
    rw [v2]
    refine w_in0 d (by omega) (fun h => ⟨0, rfl, fun c => absurd rfl c, fun _ => ⟨a1, refuse 12 (Or.inr ⟨s, v, hs, es, by omega, ez, Or.inr ⟨rfl, so, h⟩⟩)⟩⟩) (fun i hi ei => ⟨1, rfl, fun _ => ⟨a1, e + 4, a5, by rw [b4]; exact ⟨by decide, by decide⟩, by rw [b4]; exact hin, e + 5 + s, (b5 s hs).1, by rw [(b5 s hs).2], by rw [ei, (b5 s hs).2]; exact vp_in_nI (show i < 40 by omega) (by omega), ?_⟩, fun c => absurd c (by decide)⟩)
    rintro M34 rfl
    rw [ei, nI_clamp (by omega), ez]
    refine w_done d ?_ ?_
    · exact a1
    exact ⟨_, rfl, hQ1 s i v ⟨hs, es, by omega, ez, so, hi, ei⟩⟩
  · rw [ez, Int32.le_iff_toInt_le, nI_toInt (by omega), show (100 : Int32).toInt = 100 from rfl] at z1
    omega
theorem ur_cell (d : Nat) (hS : ReS M m) (hW : SgW S) (hH : ReH M m S) {x y z : Int32} (hQ0 : ∀ c, ceR S x y z c → Q (some (.int (-1))) (x_si M m 22 c)) (hQ1 : ∀ s i v, ceG S x y z s i v → Q (some (.int 1)) (x_si (x_si M (m + 18) (40 * s + i) (nI v)) m 22 0)) : Call G (d + 2) 0 0 mX12_cell [.ref m, .int x, .int y, .int z] M Q := by
  have refuse : ∀ c, ceR S x y z c → Call G (d + 1) 0 0 mX12_refused [.ref m, .int c] M (fun r6 M7 => ∃ v8 : Int32, r6 = some (.int v8) ∧ Q (some (.int v8)) M7) := fun c h => u_refused d hS ⟨_, rfl, hQ0 c h⟩
  refine eX12_cell m x y z ?_
  show Call G (d + 1) 0 0 mX12_in [.int x, .int 0, .int (nI 6 - 1)] M _
  refine ur_in0 d (by omega) (fun h => ⟨0, rfl, fun _ => ⟨hS.1, refuse 1 (Or.inl ⟨rfl, Or.inl h⟩)⟩, fun c => absurd rfl c⟩) (fun s hs es => ⟨1, rfl, fun c => absurd c (by decide), fun _ => ?_⟩)
  show Call G (d + 1) 0 0 mX12_in [.int z, .int 0, .int (nI 101 - 1)] M _
  have hcl : x.toNatClampNeg = s := by rw [es, nI_clamp (by omega)]
  have hin : vp_in x 6 := by rw [es]; exact vp_in_nI hs (by omega)
  obtain ⟨v1, v2, v3⟩ := hH s hs
  obtain ⟨w1, -⟩ := hW.2.2.2.1 s hs
  refine ur_in0 d (by omega) (fun h => ⟨0, rfl, fun c => absurd rfl c, fun _ => ⟨hS.1, refuse 1 (Or.inl ⟨rfl, Or.inr (fun v hv => h v (by omega))⟩)⟩⟩) (fun v hv ez => ⟨1, rfl, fun _ => ⟨hS.1, m + 16, hS.r16, by rw [hS.h16], by rw [hS.h16]; exact hin, ?_⟩, fun c => absurd c (by decide)⟩)
  rw [hcl, v1]
  refine ⟨fun so => ⟨m + 17, hS.r17, by rw [hS.h17], by rw [hS.h17]; exact hin, ?_⟩, fun so => refuse 10 (Or.inr ⟨s, v, hs, es, by omega, ez, Or.inl ⟨rfl, so⟩⟩)⟩
  rw [v2]
  refine ur_in0 d (by omega) (fun h => ⟨0, rfl, fun c => absurd rfl c, fun _ => ⟨hS.1, refuse 12 (Or.inr ⟨s, v, hs, es, by omega, ez, Or.inr ⟨rfl, so, h⟩⟩)⟩⟩) (fun i hi ei => ⟨1, rfl, fun _ => ⟨hS.1, m + 18, hS.r18, by rw [hS.h18], by rw [es, ei, e40_, hS.h18]; exact vp_in_nI (show 40 * s + i < 240 by omega) (by omega), ?_⟩, fun c => absurd c (by decide)⟩)
  rintro M29 rfl
  have ec : ((40 : Int32) * x + y).toNatClampNeg = 40 * s + i := by rw [es, ei, e40_, nI_clamp (by omega)]
  rw [ec, ez]
  refine u_done d ?_ ?_
  · exact hS.eq rfl rfl
  exact ⟨_, rfl, hQ1 s i v ⟨hs, es, by omega, ez, so, hi, ei⟩⟩
def ceT (S : Sg) (s i v : Nat) : Sg := (y_b S, y_L S, y_t S, y_so S, y_sz S, (fun j k => if j = s ∧ k = i then v else y_cf S j k), y_rc S, y_kd S, y_oq S, y_qc S, y_q S, y_tr S, 0)
theorem op_cell (d : Nat) {x y z : Int32} : COp G (d + 2) e m mX11_cell mX12_cell [.int x, .int y, .int z] := by
  intro M hC0
  obtain ⟨hem, S, R, K, hW, hM, hCo, hRe⟩ := hC0.one
  obtain ⟨cS, cB, cT, cH, cR, cQ, cA⟩ := id hCo
  have hrc := hW.2.2.2.2.1
  have hqc := hW.2.2.2.2.2.2.1
  refine w_cell d cS hW cH (fun c hc => ?_) (fun s i v hg => ?_)
  · refine ⟨_, rfl, ?_⟩
    obtain ⟨rS, rB, rT, rH, rR, rQ, rA⟩ := hRe.lo (q := e) (k := 15) (v := c) (by omega)
    exact ur_cell d rS hW rH (fun c' hc' => ⟨rfl, by rw [hc'.one hc]; exact hC0.st2⟩) (fun s i v hg => (hc.no hg).elim)
  refine ⟨_, rfl, ?_⟩
  have hs : s < 6 := hg.1
  have hv : v ≤ 100 := hg.2.2.1
  have hi : i < y_sz S s := hg.2.2.2.2.2.1
  have h40 := (hW.2.2.2.1 s hs).1
  have hW' : SgW (ceT S s i v) := by
    obtain ⟨w1, w2, w3, w4, w5, w6, w7, w8, w9⟩ := hW
    refine ⟨w1, w2, w3, fun j hj => ?_, w5, w6, w7, w8, w9⟩
    obtain ⟨v1, v2, v3, v4⟩ := w4 j hj
    refine ⟨v1, v2, v3, fun k hk => ?_⟩
    show (if j = s ∧ k = i then v else y_cf S j k) ≤ 100
    by_cases c : j = s ∧ k = i
    · rw [if_pos c]; exact hv
    · rw [if_neg c]; exact v4 k hk
  have hM' : MaW (ceT S s i v) R K := hM
  have oC : ∀ q, q ≠ e → q ≠ e + 5 + s → x_i (x_si (x_si M (e + 5 + s) i (nI v)) e 15 0) q = x_i M q := fun q h1 h4 => by
    funext j
    rw [xi_na h1, xi_na h4]
  have hR4 : ReAll (x_si (x_si M (e + 5 + s) i (nI v)) e 15 0) m S R K := hRe.up rfl rfl (fun q hq => oC q (by omega) (by omega))
  have hC4 : CoAll (x_si (x_si M (e + 5 + s) i (nI v)) e 15 0) e (ceT S s i v) R K := by
    obtain ⟨f11, f12, f13, f14, f15⟩ := cB
    have ee : ∀ k, k ≠ 15 → x_i (x_si (x_si M (e + 5 + s) i (nI v)) e 15 0) e k = x_i M e k := fun k hk => by rw [xi_nk hk, xi_na (by omega)]
    refine ⟨cS.eq rfl rfl, ⟨(ee 11 (by omega)).trans f11, (ee 12 (by omega)).trans f12, (ee 13 (by omega)).trans f13, (ee 14 (by omega)).trans f14, xi_eq⟩, cT.fr (oC _ (by omega) (by omega)) rfl rfl, ⟨fun j hj => ?_, fun k hk => ?_⟩, cR.fr hrc (fun q h1 _ => oC q (by omega) (by omega)) rfl rfl rfl (Nat.le_refl _), cQ.fr hqc (fun q h1 _ => oC q (by omega) (by omega)) rfl rfl (Nat.le_refl _), cA.fr (fun q h1 _ => oC q (by omega) (by omega)) rfl⟩
    · obtain ⟨v1, v2, v3⟩ := cH.1 j hj
      refine ⟨by rw [oC (e + 11) (by omega) (by omega)]; exact v1, by rw [oC (e + 12) (by omega) (by omega)]; exact v2, fun k hk => ?_⟩
      show x_i _ (e + 5 + j) k = nI (if j = s ∧ k = i then v else y_cf S j k)
      rw [xi_na (by omega)]
      by_cases c : j = s ∧ k = i
      · rw [if_pos c, c.1, c.2, xi_eq]
      · rw [if_neg c]
        by_cases c2 : j = s
        · rw [xi_nk (fun c3 => c ⟨c2, c3⟩)]; exact v3 k hk
        · rw [xi_na (by omega)]; exact v3 k hk
    · rw [oC (e + 13) (by omega) (by omega)]
      exact cH.2 k hk
  generalize x_si (x_si M (e + 5 + s) i (nI v)) e 15 0 = M5 at hR4 hC4 ⊢
  obtain ⟨rS, rB, rT, rH, rR, rQ, rA⟩ := hR4
  refine ur_cell d rS hW rH (fun c hc => (hc.no hg).elim) (fun s' i' v' hg' => ⟨rfl, ?_⟩)
  obtain ⟨e1, e2, e3⟩ := hg.one hW hg'
  subst e1
  subst e2
  subst e3
  have oR : ∀ q, q ≠ 0 → q ≠ 18 → x_i (x_si (x_si M5 (m + 18) (40 * s + i) (nI v)) m 22 0) (m + q) = x_i M5 (m + q) := fun q h1 h4 => by
    funext j
    rw [xi_na (by omega), xi_na (by omega)]
  have er : ∀ k, k ≠ 22 → x_i (x_si (x_si M5 (m + 18) (40 * s + i) (nI v)) m 22 0) m k = x_i M5 m k := fun k hk => by rw [xi_nk hk, xi_na (by omega)]
  obtain ⟨b0, b1, b7, b18, b22, b24⟩ := rB
  refine CRel.mk1 (S := ceT S s i v) (R := R) (K := K) hem hW' hM' ((hC4.hi hW' (by omega)).hi hW' (by omega)) ⟨rS.eq rfl rfl, ⟨(er 0 (by omega)).trans b0, (er 1 (by omega)).trans b1, (er 7 (by omega)).trans b7, (er 18 (by omega)).trans b18, xi_eq, (er 24 (by omega)).trans b24⟩, rT.fr (oR _ (by omega) (by omega)) rfl rfl, fun j hj => ?_, rR.fr (fun q h1 h2 => oR q (by omega) (by omega)) rfl rfl rfl (Nat.le_refl _), rQ.fr (fun q h1 h2 => oR q (by omega) (by omega)) rfl rfl (Nat.le_refl _), rA.fr (oR _ (by omega) (by omega)) rfl⟩
  obtain ⟨v1, v2, v3⟩ := rH j hj
  refine ⟨by rw [oR 16 (by omega) (by omega)]; exact v1, by rw [oR 17 (by omega) (by omega)]; exact v2, fun k hk => ?_⟩
  show x_i _ (m + 18) (40 * j + k) = nI (if j = s ∧ k = i then v else y_cf S j k)
  rw [xi_na (by omega)]
  by_cases c : j = s ∧ k = i
  · rw [if_pos c, c.1, c.2, xi_eq]
  · rw [if_neg c, xi_nk (by omega)]; exact v3 k hk
end OpCell
