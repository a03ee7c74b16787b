section OpsLaw
variable {G : GG} {M M' : Mem} {e m b : Nat} {S S' : Sg} {R K R' K' : Nat → Mc} {Q : Option Value → Mem → Prop}
theorem ox_drop (d : Nat) {x : Int32} : COi G (d + 3) e m mX11_drop mX12_drop [.int x] := by
  intro M hC0
  obtain ⟨hem, S, R, K, hW, hM, hCo, hRe⟩ := hC0.one
  obtain ⟨cS, cB, cT, cH, cR, cQ, cA⟩ := id hCo
  have hrc := hW.2.2.2.2.1
  have hqc := hW.2.2.2.2.2.2.1
  refine eX11_drop e x ⟨fun n0 => ⟨fun n1 => ⟨cS.1, w_refuse (d + 1) cS.1 ?_⟩, fun h1 => ⟨cS.1, ?_⟩⟩, fun h0 => ⟨cS.1, ?_⟩⟩
  · refine ⟨_, rfl, _, rfl, (by first | exact hC0.h28 | exact hC1.h28 | (rw [g.h]; exact hC0.h28) | (rw [fr.h]; exact hC0.h28) | (rw [hA.1]; exact hC0.h28) | exact rS.1), ?_⟩
    have hR4 := hRe.lo (q := e) (k := 15) (v := 1) (by omega)
    refine eX12_drop m _ (u_inI (d + 1) (x := x) (y := 0) (z := 1) (by omega) (by omega) (by omega) (by omega) ?_)
    rw [if_neg ?_]
    · exact ⟨_, rfl, fun c => absurd rfl c, fun _ => ⟨hR4.1.1, u_refused (d + 1) hR4.1 ⟨_, rfl, rfl, hC0.st2⟩⟩⟩
    · rintro ⟨h1, h2⟩
      have : x.toInt = 0 ∨ x.toInt = 1 := by omega
      rcases this with c | c
      · exact n0 (Int32.toInt_inj.mp c)
      · exact n1 (Int32.toInt_inj.mp c)
  · subst h1
    refine w_dropQuestion d cS hW cB cR (fun hf => ?_) (fun hf => ?_)
    · refine ⟨_, rfl, _, rfl, (by first | exact hC0.h28 | exact hC1.h28 | (rw [g.h]; exact hC0.h28) | (rw [fr.h]; exact hC0.h28) | (rw [hA.1]; exact hC0.h28) | exact rS.1), ?_⟩
      obtain ⟨rS, rB, rT, rH, rR, rQ, rA⟩ := hRe.lo (q := e) (k := 15) (v := 3) (by omega)
      exact ur_dropQ (d + 1) rS hW rB rR (fun _ => ⟨rfl, hC0.st2⟩) (fun h => absurd h hf)
    · refine ⟨_, rfl, _, rfl, (by first | exact hC0.h28 | exact hC1.h28 | (rw [g.h]; exact hC0.h28) | (rw [fr.h]; exact hC0.h28) | (rw [hA.1]; exact hC0.h28) | exact rS.1), ?_⟩
      have hW' : SgW (lsQ S) := by
        obtain ⟨w1, w2, w3, w4, w5, w6, w7, w8, w9⟩ := hW
        exact ⟨w1, w2, w3, w4, w5, w6, Nat.le_trans (Nat.sub_le _ _) w7, fun k hk => w8 k (Nat.lt_of_lt_of_le hk (Nat.sub_le _ _)), w9⟩
      have hM' : MaW (lsQ S) R K := ⟨hM.1, fun k hk => hM.2 k (Nat.lt_of_lt_of_le hk (Nat.sub_le _ _))⟩
      have hR4 := (hRe.lo (q := e) (k := 13) (v := nI (y_qc S - 1)) (by omega)).lo (q := e) (k := 15) (v := 0) (by omega)
      have hC4 : CoAll (x_si (x_si M e 13 (nI (y_qc S - 1))) e 15 0) e (lsQ S) R K := by
        have o : ∀ q, q ≠ e → x_i (x_si (x_si M e 13 (nI (y_qc S - 1))) e 15 0) q = x_i M q := fun q hq => by funext j; rw [xi_na hq, xi_na hq]
        obtain ⟨f11, f12, f13, f14, f15⟩ := cB
        refine ⟨cS.eq rfl rfl, ⟨?_, ?_, ?_, ?_, xi_eq⟩, cT.fr (o _ (by omega)) rfl rfl, cH.fr (fun q h1 _ => o q (by omega)) rfl rfl rfl, cR.fr hrc (fun q h1 _ => o q (by omega)) rfl rfl rfl (Nat.le_refl _), cQ.fr hqc (fun q h1 _ => o q (by omega)) rfl rfl (Nat.sub_le _ _), cA.fr (fun q h1 _ => o q (by omega)) rfl⟩
        · rw [xi_nk (by omega), xi_nk (by omega)]; exact f11
        · rw [xi_nk (by omega), xi_nk (by omega)]; exact f12
        · rw [xi_nk (by omega), xi_eq]; rfl
        · rw [xi_nk (by omega), xi_nk (by omega)]; exact f14
      generalize x_si (x_si M e 13 (nI (y_qc S - 1))) e 15 0 = M5 at hR4 hC4 ⊢
      obtain ⟨rS, rB, rT, rH, rR, rQ, rA⟩ := hR4
      refine ur_dropQ (d + 1) rS hW rB rR (fun h => absurd hf h) (fun _ => ⟨rfl, CRel.mk1 (S := lsQ S) hem hW' hM' (((hC4.hi hW' (by omega)).hi hW' (by omega)).hi hW' (by omega)) ?_⟩)
      have o : ∀ q, q ≠ 0 → x_i (x_si (x_si (x_si M5 m 1 (nI (y_rc S))) m 7 (nI (y_qc S - 1))) m 22 0) (m + q) = x_i M5 (m + q) := fun q hq => by funext j; rw [xi_na (by omega), xi_na (by omega), xi_na (by omega)]
      obtain ⟨b0, b1, b7, b18, b22, b24⟩ := rB
      refine ⟨rS.eq rfl rfl, ⟨?_, ?_, ?_, ?_, xi_eq, ?_⟩, rT.fr (o _ (by omega)) rfl rfl, rH.fr (fun q h1 _ => o q (by omega)) rfl rfl rfl, rR.fr (fun q h1 _ => o q (by omega)) rfl rfl rfl (Nat.le_refl _), rQ.fr (fun q h1 _ => o q (by omega)) rfl rfl (Nat.sub_le _ _), rA.fr (o _ (by omega)) rfl⟩
      · rw [xi_nk (by omega), xi_nk (by omega), xi_nk (by omega)]; exact b0
      · rw [xi_nk (by omega), xi_nk (by omega), xi_eq]; rfl
      · rw [xi_nk (by omega), xi_eq]; rfl
      · rw [xi_nk (by omega), xi_nk (by omega), xi_nk (by omega)]; exact b18
      · rw [xi_nk (by omega), xi_nk (by omega), xi_nk (by omega)]; exact b24
  · subst h0
    refine w_dropRow d cS hW cB cQ (fun hf => ?_) (fun hf => ?_)
    · refine ⟨_, rfl, _, rfl, (by first | exact hC0.h28 | exact hC1.h28 | (rw [g.h]; exact hC0.h28) | (rw [fr.h]; exact hC0.h28) | (rw [hA.1]; exact hC0.h28) | exact rS.1), ?_⟩
      obtain ⟨rS, rB, rT, rH, rR, rQ, rA⟩ := hRe.lo (q := e) (k := 15) (v := 3) (by omega)
      exact ur_dropRow (d + 1) rS hW rB rQ (fun _ => ⟨rfl, hC0.st2⟩) (fun h => absurd h hf)
    · refine ⟨_, rfl, _, rfl, (by first | exact hC0.h28 | exact hC1.h28 | (rw [g.h]; exact hC0.h28) | (rw [fr.h]; exact hC0.h28) | (rw [hA.1]; exact hC0.h28) | exact rS.1), ?_⟩
      have hW' : SgW (lsR S) := by
        obtain ⟨w1, w2, w3, w4, w5, w6, w7, w8, w9⟩ := hW
        exact ⟨w1, w2, w3, w4, Nat.le_trans (Nat.sub_le _ _) w5, fun i hi => w6 i (Nat.lt_of_lt_of_le hi (Nat.sub_le _ _)), w7, w8, w9⟩
      have hM' : MaW (lsR S) R K := ⟨fun i hi => hM.1 i (Nat.lt_of_lt_of_le hi (Nat.sub_le _ _)), hM.2⟩
      have hR4 := (hRe.lo (q := e) (k := 12) (v := nI (y_rc S - 1)) (by omega)).lo (q := e) (k := 15) (v := 0) (by omega)
      have hC4 : CoAll (x_si (x_si M e 12 (nI (y_rc S - 1))) e 15 0) e (lsR S) R K := by
        have o : ∀ q, q ≠ e → x_i (x_si (x_si M e 12 (nI (y_rc S - 1))) e 15 0) q = x_i M q := fun q hq => by funext j; rw [xi_na hq, xi_na hq]
        obtain ⟨f11, f12, f13, f14, f15⟩ := cB
        refine ⟨cS.eq rfl rfl, ⟨?_, ?_, ?_, ?_, xi_eq⟩, cT.fr (o _ (by omega)) rfl rfl, cH.fr (fun q h1 _ => o q (by omega)) rfl rfl rfl, cR.fr hrc (fun q h1 _ => o q (by omega)) rfl rfl rfl (Nat.sub_le _ _), cQ.fr hqc (fun q h1 _ => o q (by omega)) rfl rfl (Nat.le_refl _), cA.fr (fun q h1 _ => o q (by omega)) rfl⟩
        · rw [xi_nk (by omega), xi_nk (by omega)]; exact f11
        · rw [xi_nk (by omega), xi_eq]; rfl
        · rw [xi_nk (by omega), xi_nk (by omega)]; exact f13
        · rw [xi_nk (by omega), xi_nk (by omega)]; exact f14
      generalize x_si (x_si M e 12 (nI (y_rc S - 1))) e 15 0 = M5 at hR4 hC4 ⊢
      obtain ⟨rS, rB, rT, rH, rR, rQ, rA⟩ := hR4
      refine ur_dropRow (d + 1) rS hW rB rQ (fun h => absurd hf h) (fun _ => ⟨rfl, CRel.mk1 (S := lsR S) hem hW' hM' (((hC4.hi hW' (by omega)).hi hW' (by omega)).hi hW' (by omega)) ?_⟩)
      have o : ∀ q, q ≠ 0 → x_i (x_si (x_si (x_si M5 m 1 (nI (y_rc S - 1))) m 7 (nI (y_qc S))) m 22 0) (m + q) = x_i M5 (m + q) := fun q hq => by funext j; rw [xi_na (by omega), xi_na (by omega), xi_na (by omega)]
      obtain ⟨b0, b1, b7, b18, b22, b24⟩ := rB
      refine ⟨rS.eq rfl rfl, ⟨?_, ?_, ?_, ?_, xi_eq, ?_⟩, rT.fr (o _ (by omega)) rfl rfl, rH.fr (fun q h1 _ => o q (by omega)) rfl rfl rfl, rR.fr (fun q h1 _ => o q (by omega)) rfl rfl rfl (Nat.sub_le _ _), rQ.fr (fun q h1 _ => o q (by omega)) rfl rfl (Nat.le_refl _), rA.fr (o _ (by omega)) rfl⟩
      · rw [xi_nk (by omega), xi_nk (by omega), xi_nk (by omega)]; exact b0
      · rw [xi_nk (by omega), xi_nk (by omega), xi_eq]; rfl
      · rw [xi_nk (by omega), xi_eq]; rfl
      · rw [xi_nk (by omega), xi_nk (by omega), xi_nk (by omega)]; exact b18
      · rw [xi_nk (by omega), xi_nk (by omega), xi_nk (by omega)]; exact b24
theorem ox_sheet (d : Nat) {x y z : Int32} : COi G (d + 2) e m mX11_sheet mX12_sheet [.int x, .int y, .int z] := by
  intro M hC0
  obtain ⟨hem, S, R, K, hW, hM, hCo, hRe⟩ := hC0.one
  obtain ⟨cS, cB, cT, cH, cR, cQ, cA⟩ := id hCo
  have hrc := hW.2.2.2.2.1
  have hqc := hW.2.2.2.2.2.2.1
  refine w_sheet d cS (fun hn => ?_) (fun s n hg => ?_)
  · refine ⟨_, rfl, (by first | exact hC0.h28 | exact hC1.h28 | (rw [g.h]; exact hC0.h28) | (rw [fr.h]; exact hC0.h28) | (rw [hA.1]; exact hC0.h28) | exact rS.1), ?_⟩
    have hR4 := hRe.lo (q := e) (k := 15) (v := 1) (by omega)
    exact ur_sheet d hR4.1 (fun _ => ⟨rfl, hC0.st2⟩) (fun s n hg => absurd hg (hn s n))
  refine ⟨_, rfl, (by first | exact hC0.h28 | exact hC1.h28 | (rw [g.h]; exact hC0.h28) | (rw [fr.h]; exact hC0.h28) | (rw [hA.1]; exact hC0.h28) | exact rS.1), ?_⟩
  have hs : s < 6 := hg.1
  have hW' : SgW (shT S s n y) := by
    obtain ⟨w1, w2, w3, w4, w5, w6, w7, w8, w9⟩ := hW
    refine ⟨w1, w2, w3, fun j hj => ?_, w5, w6, w7, w8, w9⟩
    obtain ⟨v1, v2, v3, v4⟩ := w4 j hj
    show (if j = s then n else y_sz S j) ≤ 40 ∧ ((if j = s then y else y_so S j) = -1 ∨ (if j = s then y else y_so S j) = 0 ∨ (if j = s then y else y_so S j) = 1 ∨ (if j = s then y else y_so S j) = 2) ∧ ((if j = s then y else y_so S j) = -1 → (if j = s then n else y_sz S j) = 0) ∧ ∀ i, i < 40 → (if j = s then 0 else y_cf S j i) ≤ 100
    by_cases c : j = s
    · simp only [if_pos c, if_true]
      rcases hg.2.2 with ⟨a, b⟩ | ⟨a, b, c2, d2⟩
      · exact ⟨by omega, Or.inl a, fun _ => b, fun i _ => Nat.zero_le _⟩
      · exact ⟨c2, Or.inr b, fun q => absurd q a, fun i _ => Nat.zero_le _⟩
    · simp only [if_neg c]
      exact ⟨v1, v2, v3, v4⟩
  have hM' : MaW (shT S s n y) R K := hM
  have oC : ∀ q, q ≠ e → q ≠ e + 11 → q ≠ e + 12 → q ≠ e + 5 + s → x_i (x_si (x_fi (x_si (x_si M (e + 11) s y) (e + 12) s (nI n)) (e + 5 + s) 0 40 0) e 15 0) q = x_i M q := fun q h1 h2 h3 h4 => by
    funext j
    rw [xi_na h1, xf_na h4, xi_na h3, xi_na h2]
  have hR4 : ReAll (x_si (x_fi (x_si (x_si M (e + 11) s y) (e + 12) s (nI n)) (e + 5 + s) 0 40 0) e 15 0) m S R K := hRe.up rfl rfl (fun q hq => oC q (by omega) (by omega) (by omega) (by omega))
  have hC4 : CoAll (x_si (x_fi (x_si (x_si M (e + 11) s y) (e + 12) s (nI n)) (e + 5 + s) 0 40 0) e 15 0) e (shT S s n y) R K := by
    obtain ⟨f11, f12, f13, f14, f15⟩ := cB
    have ee : ∀ k, k ≠ 15 → x_i (x_si (x_fi (x_si (x_si M (e + 11) s y) (e + 12) s (nI n)) (e + 5 + s) 0 40 0) e 15 0) e k = x_i M e k := fun k hk => by rw [xi_nk hk, xf_na (by omega), xi_na (by omega), xi_na (by omega)]
    refine ⟨cS.eq rfl rfl, ⟨(ee 11 (by omega)).trans f11, (ee 12 (by omega)).trans f12, (ee 13 (by omega)).trans f13, (ee 14 (by omega)).trans f14, xi_eq⟩, cT.fr (oC _ (by omega) (by omega) (by omega) (by omega)) rfl rfl, ⟨fun j hj => ?_, fun i hi => ?_⟩, cR.fr hrc (fun q h1 _ => oC q (by omega) (by omega) (by omega) (by omega)) rfl rfl rfl (Nat.le_refl _), cQ.fr hqc (fun q h1 _ => oC q (by omega) (by omega) (by omega) (by omega)) rfl rfl (Nat.le_refl _), cA.fr (fun q h1 _ => oC q (by omega) (by omega) (by omega) (by omega)) rfl⟩
    · obtain ⟨v1, v2, v3⟩ := cH.1 j hj
      show x_i _ (e + 11) j = (if j = s then y else y_so S j) ∧ x_i _ (e + 12) j = nI (if j = s then n else y_sz S j) ∧ ∀ i, i < 40 → x_i _ (e + 5 + j) i = nI (if j = s then 0 else y_cf S j i)
      by_cases c : j = s
      · subst c
        simp only [if_pos rfl]
        refine ⟨?_, ?_, fun i hi => ?_⟩
        · rw [xi_na (by omega), xf_na (by omega), xi_na (by omega), xi_eq]; exact (if_pos trivial).symm
        · rw [xi_na (by omega), xf_na (by omega), xi_eq]; exact congrArg nI (if_pos trivial).symm
        · rw [xi_na (by omega), xf_in (by omega) hi]; rfl
      · simp only [if_neg c]
        refine ⟨?_, ?_, fun i hi => ?_⟩
        · rw [xi_na (by omega), xf_na (by omega), xi_na (by omega), xi_nk c]; exact v1
        · rw [xi_na (by omega), xf_na (by omega), xi_nk c, xi_na (by omega)]; exact v2
        · rw [xi_na (by omega), xf_na (by omega), xi_na (by omega), xi_na (by omega)]; exact v3 i hi
    · rw [oC (e + 13) (by omega) (by omega) (by omega) (by omega)]
      exact cH.2 i hi
  generalize x_si (x_fi (x_si (x_si M (e + 11) s y) (e + 12) s (nI n)) (e + 5 + s) 0 40 0) e 15 0 = M5 at hR4 hC4 ⊢
  obtain ⟨rS, rB, rT, rH, rR, rQ, rA⟩ := hR4
  refine ur_sheet d rS (fun h => absurd hg (h s n)) (fun s' n' hg' => ⟨rfl, ?_⟩)
  obtain ⟨e1, e2⟩ := hg.one hg'
  subst e1
  subst e2
  have oR : ∀ q, q ≠ 0 → q ≠ 16 → q ≠ 17 → q ≠ 18 → x_i (x_si (x_fi (x_si (x_si M5 (m + 16) s y) (m + 17) s (nI n)) (m + 18) (40 * s) (40 * s + 40) 0) m 22 0) (m + q) = x_i M5 (m + q) := fun q h1 h2 h3 h4 => by
    funext j
    rw [xi_na (by omega), xf_na (by omega), xi_na (by omega), xi_na (by omega)]
  have er : ∀ k, k ≠ 22 → x_i (x_si (x_fi (x_si (x_si M5 (m + 16) s y) (m + 17) s (nI n)) (m + 18) (40 * s) (40 * s + 40) 0) m 22 0) m k = x_i M5 m k := fun k hk => by rw [xi_nk hk, xf_na (by omega), xi_na (by omega), xi_na (by omega)]
  obtain ⟨b0, b1, b7, b18, b22, b24⟩ := rB
  refine CRel.mk1 (S := shT S s n y) (R := R) (K := K) hem hW' hM' (hC4.up hW' rfl rfl (fun q hq => ?_)) ⟨rS.eq rfl rfl, ⟨(er 0 (by omega)).trans b0, (er 1 (by omega)).trans b1, (er 7 (by omega)).trans b7, (er 18 (by omega)).trans b18, xi_eq, (er 24 (by omega)).trans b24⟩, rT.fr (oR _ (by omega) (by omega) (by omega) (by omega)) rfl rfl, fun j hj => ?_, rR.fr (fun q h1 h2 => oR q (by omega) (by omega) (by omega) (by omega)) rfl rfl rfl (Nat.le_refl _), rQ.fr (fun q h1 h2 => oR q (by omega) (by omega) (by omega) (by omega)) rfl rfl (Nat.le_refl _), rA.fr (oR _ (by omega) (by omega) (by omega) (by omega)) rfl⟩
  · funext j
    rw [xi_na (by omega), xf_na (by omega), xi_na (by omega), xi_na (by omega)]
  · obtain ⟨v1, v2, v3⟩ := rH j hj
    show x_i _ (m + 16) j = (if j = s then y else y_so S j) ∧ x_i _ (m + 17) j = nI (if j = s then n else y_sz S j) ∧ ∀ i, i < 40 → x_i _ (m + 18) (40 * j + i) = nI (if j = s then 0 else y_cf S j i)
    by_cases c : j = s
    · subst c
      simp only [if_pos rfl]
      refine ⟨?_, ?_, fun i hi => ?_⟩
      · rw [xi_na (by omega), xf_na (by omega), xi_na (by omega), xi_eq]; exact (if_pos trivial).symm
      · rw [xi_na (by omega), xf_na (by omega), xi_eq]; exact congrArg nI (if_pos trivial).symm
      · rw [xi_na (by omega), xf_in (by omega) (by omega)]; rfl
    · simp only [if_neg c]
      refine ⟨?_, ?_, fun i hi => ?_⟩
      · rw [xi_na (by omega), xf_na (by omega), xi_na (by omega), xi_nk c]; exact v1
      · rw [xi_na (by omega), xf_na (by omega), xi_nk c, xi_na (by omega)]; exact v2
      · rw [xi_na (by omega), xf_nk (by omega), xi_na (by omega), xi_na (by omega)]; exact v3 i hi
end OpsLaw
