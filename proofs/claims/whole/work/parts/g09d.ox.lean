section OpsLaw
variable {G : GG} {M M' : Mem} {e m b : Nat} {S S' : Sg} {R K R' K' : Nat → Mc} {Q : Option Value → Mem → Prop}
theorem ox_cell (d : Nat) {x y z : Int32} : COi G (d + 2) e m mX11_cell mX12_cell [.int x, .int y, .int z] := by
  intro M hC0
  obtain ⟨hem, S, R, K, hW, hM, hCo, hRe⟩ := hC0.one
  obtain ⟨cS, cB, cT, cH, cR, cQ, cA⟩ := id hCo
  have hrc := hW.2.2.2.2.1
  have hqc := hW.2.2.2.2.2.2.1
  refine w_cell d cS hW cH (fun c hc => ?_) (fun s i v hg => ?_)
  · refine ⟨_, rfl, (by first | exact hC0.h28 | (show (x_h M1 m).1 = 28; rw [fr.h]; exact hC0.h28) | (show (x_h M1 m).1 = 28; rw [g.h]; exact hC0.h28) | exact hC1.h28 | (rw [g.h]; exact hC0.h28) | (rw [fr.h]; exact hC0.h28) | (rw [hA.1]; exact hC0.h28) | exact rS.1), ?_⟩
    obtain ⟨rS, rB, rT, rH, rR, rQ, rA⟩ := hRe.lo (q := e) (k := 15) (v := c) (by omega)
    exact ur_cell d rS hW rH (fun c' hc' => ⟨rfl, by rw [hc'.one hc]; exact hC0.st2⟩) (fun s i v hg => (hc.no hg).elim)
  refine ⟨_, rfl, (by first | exact hC0.h28 | (show (x_h M1 m).1 = 28; rw [fr.h]; exact hC0.h28) | (show (x_h M1 m).1 = 28; rw [g.h]; exact hC0.h28) | exact hC1.h28 | (rw [g.h]; exact hC0.h28) | (rw [fr.h]; exact hC0.h28) | (rw [hA.1]; exact hC0.h28) | exact rS.1), ?_⟩
  have hs : s < 6 := hg.1
  have hv : v ≤ 100 := hg.2.2.1
  have hi : i < y_sz S s := hg.2.2.2.2.2.1
  have h40 := (hW.2.2.2.1 s hs).1
  have hW' : SgW (ceT S s i v) := by
    obtain ⟨w1, w2, w3, w4, w5, w6, w7, w8, w9⟩ := hW
    refine ⟨w1, w2, w3, fun j hj => ?_, w5, w6, w7, w8, w9⟩
    obtain ⟨v1, v2, v3, v4⟩ := w4 j hj
    refine ⟨v1, v2, v3, fun k hk => ?_⟩
    show (if j = s ∧ k = i then v else y_cf S j k) ≤ 100
    by_cases c : j = s ∧ k = i
    · rw [if_pos c]; exact hv
    · rw [if_neg c]; exact v4 k hk
  have hM' : MaW (ceT S s i v) R K := hM
  have oC : ∀ q, q ≠ e → q ≠ e + 5 + s → x_i (x_si (x_si M (e + 5 + s) i (nI v)) e 15 0) q = x_i M q := fun q h1 h4 => by
    funext j
    rw [xi_na h1, xi_na h4]
  have hR4 : ReAll (x_si (x_si M (e + 5 + s) i (nI v)) e 15 0) m S R K := hRe.up rfl rfl (fun q hq => oC q (by omega) (by omega))
  have hC4 : CoAll (x_si (x_si M (e + 5 + s) i (nI v)) e 15 0) e (ceT S s i v) R K := by
    obtain ⟨f11, f12, f13, f14, f15⟩ := cB
    have ee : ∀ k, k ≠ 15 → x_i (x_si (x_si M (e + 5 + s) i (nI v)) e 15 0) e k = x_i M e k := fun k hk => by rw [xi_nk hk, xi_na (by omega)]
    refine ⟨cS.eq rfl rfl, ⟨(ee 11 (by omega)).trans f11, (ee 12 (by omega)).trans f12, (ee 13 (by omega)).trans f13, (ee 14 (by omega)).trans f14, xi_eq⟩, cT.fr (oC _ (by omega) (by omega)) rfl rfl, ⟨fun j hj => ?_, fun k hk => ?_⟩, cR.fr hrc (fun q h1 _ => oC q (by omega) (by omega)) rfl rfl rfl (Nat.le_refl _), cQ.fr hqc (fun q h1 _ => oC q (by omega) (by omega)) rfl rfl (Nat.le_refl _), cA.fr (fun q h1 _ => oC q (by omega) (by omega)) rfl⟩
    · obtain ⟨v1, v2, v3⟩ := cH.1 j hj
      refine ⟨by rw [oC (e + 11) (by omega) (by omega)]; exact v1, by rw [oC (e + 12) (by omega) (by omega)]; exact v2, fun k hk => ?_⟩
      show x_i _ (e + 5 + j) k = nI (if j = s ∧ k = i then v else y_cf S j k)
      rw [xi_na (by omega)]
      by_cases c : j = s ∧ k = i
      · rw [if_pos c, c.1, c.2, xi_eq]
      · rw [if_neg c]
        by_cases c2 : j = s
        · rw [xi_nk (fun c3 => c ⟨c2, c3⟩)]; exact v3 k hk
        · rw [xi_na (by omega)]; exact v3 k hk
    · rw [oC (e + 13) (by omega) (by omega)]
      exact cH.2 k hk
  generalize x_si (x_si M (e + 5 + s) i (nI v)) e 15 0 = M5 at hR4 hC4 ⊢
  obtain ⟨rS, rB, rT, rH, rR, rQ, rA⟩ := hR4
  refine ur_cell d rS hW rH (fun c hc => (hc.no hg).elim) (fun s' i' v' hg' => ⟨rfl, ?_⟩)
  obtain ⟨e1, e2, e3⟩ := hg.one hW hg'
  subst e1
  subst e2
  subst e3
  have oR : ∀ q, q ≠ 0 → q ≠ 18 → x_i (x_si (x_si M5 (m + 18) (40 * s + i) (nI v)) m 22 0) (m + q) = x_i M5 (m + q) := fun q h1 h4 => by
    funext j
    rw [xi_na (by omega), xi_na (by omega)]
  have er : ∀ k, k ≠ 22 → x_i (x_si (x_si M5 (m + 18) (40 * s + i) (nI v)) m 22 0) m k = x_i M5 m k := fun k hk => by rw [xi_nk hk, xi_na (by omega)]
  obtain ⟨b0, b1, b7, b18, b22, b24⟩ := rB
  refine CRel.mk1 (S := ceT S s i v) (R := R) (K := K) hem hW' hM' ((hC4.hi hW' (by omega)).hi hW' (by omega)) ⟨rS.eq rfl rfl, ⟨(er 0 (by omega)).trans b0, (er 1 (by omega)).trans b1, (er 7 (by omega)).trans b7, (er 18 (by omega)).trans b18, xi_eq, (er 24 (by omega)).trans b24⟩, rT.fr (oR _ (by omega) (by omega)) rfl rfl, fun j hj => ?_, rR.fr (fun q h1 h2 => oR q (by omega) (by omega)) rfl rfl rfl (Nat.le_refl _), rQ.fr (fun q h1 h2 => oR q (by omega) (by omega)) rfl rfl (Nat.le_refl _), rA.fr (oR _ (by omega) (by omega)) rfl⟩
  obtain ⟨v1, v2, v3⟩ := rH j hj
  refine ⟨by rw [oR 16 (by omega) (by omega)]; exact v1, by rw [oR 17 (by omega) (by omega)]; exact v2, fun k hk => ?_⟩
  show x_i _ (m + 18) (40 * j + k) = nI (if j = s ∧ k = i then v else y_cf S j k)
  rw [xi_na (by omega)]
  by_cases c : j = s ∧ k = i
  · rw [if_pos c, c.1, c.2, xi_eq]
  · rw [if_neg c, xi_nk (by omega)]; exact v3 k hk
theorem ox_feed (d : Nat) {x : Int32} {l : Int64} : COi G (d + 2) e m mX11_feed mX12_feed [.int x, .long l] := by
  intro M hC0
  obtain ⟨hem, S, R, K, hW, hM, hCo, hRe⟩ := hC0.one
  obtain ⟨cS, cB, cT, cH, cR, cQ, cA⟩ := id hCo
  have hrc := hW.2.2.2.2.1
  have hqc := hW.2.2.2.2.2.2.1
  refine w_feed d cS hW cB (fun c hc => ?_) (fun n hg M1 fr ef e14 e15 hold hnew => ?_)
  · refine ⟨_, rfl, (by first | exact hC0.h28 | (show (x_h M1 m).1 = 28; rw [fr.h]; exact hC0.h28) | (show (x_h M1 m).1 = 28; rw [g.h]; exact hC0.h28) | exact hC1.h28 | (rw [g.h]; exact hC0.h28) | (rw [fr.h]; exact hC0.h28) | (rw [hA.1]; exact hC0.h28) | exact rS.1), ?_⟩
    obtain ⟨rS, rB, rT, rH, rR, rQ, rA⟩ := hRe.lo (q := e) (k := 15) (v := c) (by omega)
    exact ur_feed d rS hW rB (fun c' hc' => ⟨rfl, by rw [hc'.one hc]; exact hC0.st2⟩) (fun n hg => (hc.no hg).elim)
  refine ⟨_, rfl, (by first | exact hC0.h28 | (show (x_h M1 m).1 = 28; rw [fr.h]; exact hC0.h28) | (show (x_h M1 m).1 = 28; rw [g.h]; exact hC0.h28) | exact hC1.h28 | (rw [g.h]; exact hC0.h28) | (rw [fr.h]; exact hC0.h28) | (rw [hA.1]; exact hC0.h28) | exact rS.1), ?_⟩
  have hL' : y_L S + n ≤ 120 := hg.2.2.2
  have hW' : SgW (feT S n l) := by
    obtain ⟨w1, w2, w3, w4, w5, w6, w7, w8, w9⟩ := hW
    refine ⟨w1, hL', fun i hi => ?_, w4, w5, w6, w7, w8, w9⟩
    show (if i < y_L S then y_t S i else byt l (i - y_L S)) < 256
    by_cases c : i < y_L S
    · rw [if_pos c]; exact w3 i c
    · rw [if_neg c]; exact byt_lt
  have hM' : MaW (feT S n l) R K := hM
  have oC : ∀ q, q ≠ e → q ≠ e + 3 → x_i M1 q = x_i M q := fun q h1 h2 => fr.i (by simp; omega)
  have hR4 : ReAll M1 m S R K := hRe.up fr.h (by rw [fr.r]) (fun q hq => oC q (by omega) (by omega))
  have hC4 : CoAll M1 e (feT S n l) R K := by
    obtain ⟨f11, f12, f13, f14, f15⟩ := cB
    refine ⟨cS.eq fr.h fr.r, ⟨(ef 11 (by omega) (by omega)).trans f11, (ef 12 (by omega) (by omega)).trans f12, (ef 13 (by omega) (by omega)).trans f13, e14, e15⟩, fun i hi => ?_, cH.fr (fun q h1 _ => oC q (by omega) (by omega)) rfl rfl rfl, cR.fr hrc (fun q h1 _ => oC q (by omega) (by omega)) rfl rfl rfl (Nat.le_refl _), cQ.fr hqc (fun q h1 _ => oC q (by omega) (by omega)) rfl rfl (Nat.le_refl _), cA.fr (fun q h1 _ => oC q (by omega) (by omega)) rfl⟩
    have hi' : i < y_L S + n := hi
    show x_i M1 (e + 3) i = nI (if i < y_L S then y_t S i else byt l (i - y_L S))
    by_cases c : i < y_L S
    · rw [if_pos c, hold i c]; exact cT i c
    · rw [if_neg c]
      have := hnew (i - y_L S) (by omega)
      rw [show y_L S + (i - y_L S) = i by omega] at this
      exact this
  obtain ⟨rS, rB, rT, rH, rR, rQ, rA⟩ := hR4
  refine ur_feed d rS hW rB (fun c hc => (hc.no hg).elim) (fun n' hg' M2 g2 e18 e22 hold2 hnew2 => ?_)
  have e1 := hg.one hg'
  subst e1
  have oR : ∀ q, q ≠ 0 → q ≠ 15 → x_i M2 (m + q) = x_i M1 (m + q) := fun q h1 h2 => g2.i h1 (by simp; omega)
  obtain ⟨b0, b1, b7, b18, b22, b24⟩ := rB
  refine ⟨rfl, CRel.mk1 (S := feT S n l) (R := R) (K := K) hem hW' hM' (hC4.fM hW' hem g2) ⟨g2.S rS, ⟨(g2.fm (by decide)).trans b0, (g2.fm (by decide)).trans b1, (g2.fm (by decide)).trans b7, e18, e22, (g2.fm (by decide)).trans b24⟩, fun i hi => ?_, rH.fr (fun q h1 h2 => oR q (by omega) (by omega)) rfl rfl rfl, rR.fr (fun q h1 h2 => oR q (by omega) (by omega)) rfl rfl rfl (Nat.le_refl _), rQ.fr (fun q h1 h2 => oR q (by omega) (by omega)) rfl rfl (Nat.le_refl _), rA.fr (oR _ (by omega) (by omega)) rfl⟩⟩
  have hi' : i < y_L S + n := hi
  show x_i M2 (m + 15) i = nI (if i < y_L S then y_t S i else byt l (i - y_L S))
  by_cases c : i < y_L S
  · rw [if_pos c, hold2 i c]; exact rT i c
  · rw [if_neg c]
    have := hnew2 (i - y_L S) (by omega)
    rw [show y_L S + (i - y_L S) = i by omega] at this
    exact this
theorem ox_act (d : Nat) {x a y : Int32} : COi G (d + 9) e m mX11_act mX12_act [.int x, .int a, .int y] := by
  intro M hC0
  obtain ⟨hem, S, R, K, hW, hM, hCo, hRe⟩ := hC0.one
  obtain ⟨cS, cB, cT, cH, cR, cQ, cA⟩ := id hCo
  have hrc := hW.2.2.2.2.1
  have hqc := hW.2.2.2.2.2.2.1
  refine w_act d cS hW cB cR (fun h => ?_) (fun k hk ek c hc ec M1 fr hA => ?_)
  · refine ⟨_, rfl, (by first | exact hC0.h28 | (show (x_h M1 m).1 = 28; rw [fr.h]; exact hC0.h28) | (show (x_h M1 m).1 = 28; rw [g.h]; exact hC0.h28) | exact hC1.h28 | (rw [g.h]; exact hC0.h28) | (rw [fr.h]; exact hC0.h28) | (rw [hA.1]; exact hC0.h28) | exact rS.1), ?_⟩
    obtain ⟨rS, rB, rT, rH, rR, rQ, rA⟩ := hRe.lo (q := e) (k := 15) (v := 1) (by omega)
    refine ur_act d rS hW rB rR (fun _ => ⟨rfl, hC0.st2⟩) (fun k hk ek c hc ec M1 _ _ _ _ => ?_)
    rcases h with h | h
    · exact absurd ek (h k hk)
    · exact absurd ec (h c hc)
  refine ⟨_, rfl, (by first | exact hC0.h28 | (show (x_h M1 m).1 = 28; rw [fr.h]; exact hC0.h28) | (show (x_h M1 m).1 = 28; rw [g.h]; exact hC0.h28) | exact hC1.h28 | (rw [g.h]; exact hC0.h28) | (rw [fr.h]; exact hC0.h28) | (rw [hA.1]; exact hC0.h28) | exact rS.1), ?_⟩
  have hl := sAct_len (nI (y_kd S k)) (nI k) (nI (m_n (R k))) a y
  obtain ⟨p1, p2, p3, p4, p5, -⟩ := hA
  have hW' : SgW (acT S (sAct (nI (y_kd S k)) (nI k) (nI (m_n (R k))) a y).2) := by
    obtain ⟨w1, w2, w3, w4, w5, w6, w7, w8, w9⟩ := hW
    exact ⟨w1, w2, w3, w4, w5, w6, w7, w8, Nat.le_trans hl (by decide)⟩
  have hM' : MaW (acT S (sAct (nI (y_kd S k)) (nI k) (nI (m_n (R k))) a y).2) R K := hM
  have oC : ∀ q, q ≠ e → q ≠ e + 534 → q ≠ e + 535 → x_i (x_si M1 e 15 0) q = x_i M q := fun q h1 h2 h3 => by
    funext j
    rw [xi_na h1, fr.i (by simp; omega)]
  have hR4 : ReAll (x_si M1 e 15 0) m S R K := hRe.up fr.h (by show x_r M1 m = _; rw [fr.r]) (fun q hq => oC q (by omega) (by omega) (by omega))
  have hC4 : CoAll (x_si M1 e 15 0) e (acT S (sAct (nI (y_kd S k)) (nI k) (nI (m_n (R k))) a y).2) R K := by
    obtain ⟨f11, f12, f13, f14, f15⟩ := cB
    have o : ∀ j, j ≠ 15 → x_i (x_si M1 e 15 0) e j = x_i M e j := fun j hj => by rw [xi_nk hj, fr.i (by simp)]
    refine ⟨cS.eq fr.h fr.r, ⟨(o 11 (by omega)).trans f11, (o 12 (by omega)).trans f12, (o 13 (by omega)).trans f13, (o 14 (by omega)).trans f14, xi_eq⟩, cT.fr (oC _ (by omega) (by omega) (by omega)) rfl rfl, cH.fr (fun q h1 h2 => oC q (by omega) (by omega) (by omega)) rfl rfl rfl, cR.fr hrc (fun q h1 _ => oC q (by omega) (by omega) (by omega)) rfl rfl rfl (Nat.le_refl _), cQ.fr hqc (fun q h1 _ => oC q (by omega) (by omega) (by omega)) rfl rfl (Nat.le_refl _), ?_, fun j hj => ?_⟩
    · rw [xi_na (by omega)]; exact p4
    · rw [xi_na (by omega)]; exact p5 j hj
  obtain ⟨rS, rB, rT, rH, rR, rQ, rA⟩ := hR4
  refine ur_act d rS hW rB rR (fun h => ?_) (fun k' hk' ek' c' hc' ec' M2 g2 e22 e24 etr => ?_)
  · rcases h with h | h
    · exact absurd ek (h k hk)
    · exact absurd ec (h c hc)
  have := nI_same ek ek' (by omega) (by omega)
  subst this
  have oR : ∀ q, q ≠ 0 → q ≠ 19 → x_i M2 (m + q) = x_i (x_si M1 e 15 0) (m + q) := fun q h1 h2 => g2.i h1 (by simp; omega)
  obtain ⟨b0, b1, b7, b18, b22, b24⟩ := rB
  exact ⟨rfl, CRel.mk1 (R := R) (K := K) hem hW' hM' (hC4.fM hW' hem g2) ⟨g2.S rS, ⟨(g2.fm (by decide)).trans b0, (g2.fm (by decide)).trans b1, (g2.fm (by decide)).trans b7, (g2.fm (by decide)).trans b18, e22, e24⟩, rT.fr (oR _ (by omega) (by omega)) rfl rfl, rH.fr (fun q h1 h2 => oR q (by omega) (by omega)) rfl rfl rfl, rR.fr (fun q h1 h2 => oR q (by omega) (by omega)) rfl rfl rfl (Nat.le_refl _), rQ.fr (fun q h1 h2 => oR q (by omega) (by omega)) rfl rfl (Nat.le_refl _), etr⟩⟩
theorem ox_forge (d : Nat) {a n k : Int32} : COi G (d + 4) e m mX11_forge mX12_forge [.int a, .int n, .int k] := by
  intro M hC0
  obtain ⟨hem, S, R, K, hW, hM, hCo, hRe⟩ := hC0.one
  obtain ⟨cS, cB, cT, cH, cR, cQ, cA⟩ := hCo
  refine w_forge d cS hW cB cH cR (fun h => ?_) (fun h => ?_)
  · refine ⟨_, rfl, (by first | exact hC0.h28 | (show (x_h M1 m).1 = 28; rw [fr.h]; exact hC0.h28) | (show (x_h M1 m).1 = 28; rw [g.h]; exact hC0.h28) | exact hC1.h28 | (rw [g.h]; exact hC0.h28) | (rw [fr.h]; exact hC0.h28) | (rw [hA.1]; exact hC0.h28) | exact rS.1), ?_⟩
    obtain ⟨rS, rB, rT, rH, rR, rQ, rA⟩ := hRe.lo (q := e) (k := 15) (v := 1) (by omega)
    exact ur_forge d rS hW rB rH rR (fun _ => ⟨rfl, hC0.st2⟩) (fun h2 => absurd h2 h)
  · refine ⟨_, rfl, (by first | exact hC0.h28 | (show (x_h M1 m).1 = 28; rw [fr.h]; exact hC0.h28) | (show (x_h M1 m).1 = 28; rw [g.h]; exact hC0.h28) | exact hC1.h28 | (rw [g.h]; exact hC0.h28) | (rw [fr.h]; exact hC0.h28) | (rw [hA.1]; exact hC0.h28) | exact rS.1), ?_⟩
    obtain ⟨rS, rB, rT, rH, rR, rQ, rA⟩ := hRe.lo (q := e) (k := 15) (v := (fgO S a n k).2) (by omega)
    exact ur_forge d rS hW rB rH rR (fun h2 => absurd h h2) (fun _ => ⟨rfl, hC0.st2⟩)
theorem ox_holds (d : Nat) {x : Int32} {A B C : Int64} : COi G (d + 4) e m mX11_holds mX12_holds [.int x, .long A, .long B, .long C] := by
  intro M hC0
  obtain ⟨hem, S, R, K, hW, hM, ⟨cS, cB, cT, cH, cR, cQ, cA⟩, ⟨rS, rB, rT, rH, rR, rQ, rA⟩⟩ := hC0.one
  obtain ⟨a1, a2, a3, a4, a5, a6, a7, a8, a9, a10, a11, a12, b1, b2, -⟩ := cS
  have hqc := hW.2.2.2.2.2.2.1
  have hb := hW.1
  have t1 : ∀ k, k < y_qc S → (x_i M (e + 540 + 8 * k) 1 = 0 ↔ x_i M (m + 6) k = 0) := fun k hk => (ask_c hW cQ hk).1.trans (ask_r hW rQ hk).1.symm
  have t2 : ∀ k, k < y_qc S → (x_i M (e + 540 + 8 * k) 3 = -1 ↔ x_i M (m + 8) k = -1) := fun k hk => (ask_c hW cQ hk).2.trans (ask_r hW rQ hk).2.symm
  have okr := fun k (hk : k < y_qc S) g1 g2 => ok_r hW hM rQ hk g1 g2
  refine w_holds (b := y_b S) (nf := fun k => qd_n (y_q S k)) (mq := K) d a1 hb a3 b2 cB.1 cB.2.2.1 hqc (fun k hk g1 g2 => ok_c hW hM cQ hk g1 g2) (fun h => ⟨_, rfl, (by first | exact hC0.h28 | (show (x_h M1 m).1 = 28; rw [fr.h]; exact hC0.h28) | (show (x_h M1 m).1 = 28; rw [g.h]; exact hC0.h28) | exact hC1.h28 | (rw [g.h]; exact hC0.h28) | (rw [fr.h]; exact hC0.h28) | (rw [hA.1]; exact hC0.h28) | exact rS.1), ur_holds (b := y_b S) (nf := fun k => qd_n (y_q S k)) (mq := K) (d + 1) rS hb rB.1 rB.2.2.1 hqc okr (fun _ => ⟨rfl, hC0⟩) (fun k hk ek g1 g2 _ => ?_) (fun k hk ek g1 g2 u v w _ _ _ M1 _ => ?_)⟩) (fun k hk ek g1 g2 hbad => ⟨_, rfl, (by first | exact hC0.h28 | (show (x_h M1 m).1 = 28; rw [fr.h]; exact hC0.h28) | (show (x_h M1 m).1 = 28; rw [g.h]; exact hC0.h28) | exact hC1.h28 | (rw [g.h]; exact hC0.h28) | (rw [fr.h]; exact hC0.h28) | (rw [hA.1]; exact hC0.h28) | exact rS.1), ur_holds (b := y_b S) (nf := fun k => qd_n (y_q S k)) (mq := K) (d + 1) rS hb rB.1 rB.2.2.1 hqc okr (fun h => ?_) (fun k' hk' ek' g1' g2' _ => ⟨rfl, hC0⟩) (fun k' hk' ek' g1' g2' u v w hu hv hw M1 _ => ?_)⟩) (fun k hk ek g1 g2 u v w hu hv hw => ⟨_, rfl, (by first | exact hC0.h28 | (show (x_h M1 m).1 = 28; rw [fr.h]; exact hC0.h28) | (show (x_h M1 m).1 = 28; rw [g.h]; exact hC0.h28) | exact hC1.h28 | (rw [g.h]; exact hC0.h28) | (rw [fr.h]; exact hC0.h28) | (rw [hA.1]; exact hC0.h28) | exact rS.1), ur_holds (b := y_b S) (nf := fun k => qd_n (y_q S k)) (mq := K) (d + 1) rS hb rB.1 rB.2.2.1 hqc okr (fun h => ?_) (fun k' hk' ek' g1' g2' hbad => ?_) (fun k' hk' ek' g1' g2' u' v' w' hu' hv' hw' M1 g => ?_)⟩)
  · exact absurd ⟨(t1 k hk).mpr g1, (t2 k hk).mpr g2⟩ (h k hk ek)
  · exact absurd ⟨(t1 k hk).mpr g1, (t2 k hk).mpr g2⟩ (h k hk ek)
  · exact absurd ⟨(t1 k hk).mp g1, (t2 k hk).mp g2⟩ (h k hk ek)
  · have := nI_same ek ek' (by omega) (by omega)
    subst this
    rcases hbad with c | c | c
    · exact (hu.no c).elim
    · exact (hv.no c).elim
    · exact (hw.no c).elim
  · exact absurd ⟨(t1 k hk).mp g1, (t2 k hk).mp g2⟩ (h k hk ek)
  · have := nI_same ek ek' (by omega) (by omega)
    subst this
    rcases hbad with c | c | c
    · exact (hu.no c).elim
    · exact (hv.no c).elim
    · exact (hw.no c).elim
  · have := nI_same ek ek' (by omega) (by omega)
    subst this
    have e1 := hu.one hu'
    have e2 := hv.one hv'
    have e3 := hw.one hw'
    subst e1 e2 e3
    exact ⟨rfl, hC0.fM g (by simp) (by simp)⟩
end OpsLaw
