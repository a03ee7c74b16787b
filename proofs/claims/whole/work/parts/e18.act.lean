/-! ===== both: act ===== -/
section OpAct
variable {G : GG} {M M' : Mem} {e m b : Nat} {S S' : Sg} {R K : Nat → Mc} {Q : Option Value → Mem → Prop}
theorem ReS.MS (h : ReS M m) : MS M m := by
  have key : ∀ k : Fin 96, ∀ x ∈ mTab[k.1]?, x.1 ≠ 0 → rfT k.1 = some x := by decide +kernel
  refine ⟨h.1, fun k of kd ln hk h0 => ?_⟩
  have hl : k < mTab.length := by
    rcases Nat.lt_or_ge k mTab.length with c | c
    · exact c
    · rw [List.getElem?_eq_none c] at hk; cases hk
  have hl2 : k < 96 := Nat.lt_of_lt_of_le hl (by decide)
  exact h.2 k of kd ln (key ⟨k, hl2⟩ _ hk h0)
theorem sAct_len (kd nu wi a x : Int32) : (sAct kd nu wi a x).2.length ≤ 10 := by
  have r1 := sRead_len kd nu x
  have s1 := sStep_len kd nu x
  have s2 := sStep_len kd nu (x + 1)
  have j1 := sJoin_len kd nu wi x
  have j2 := sJoin_len kd nu wi (x + 1)
  unfold sAct
  split
  · omega
  split
  · omega
  split
  · omega
  unfold sTell sPlainTell
  split
  · simp only [List.length_cons, List.length_append]; omega
  split
  · simp only [List.length_cons, List.length_append]; omega
  · simp only [List.length_cons, List.length_append]; omega
theorem w_act (d : Nat) (hS : CoS M e) (hW : SgW S) (hB : CoB M e S) (hR : CoR M e S R) {x a y : Int32} (hQ0 : ((∀ k, k < y_rc S → x ≠ nI k) ∨ ∀ c, c < 4 → a ≠ nI c) → Q (some (.int (-1))) (x_si M e 15 1))
    (hQ1 : ∀ k, k < y_rc S → x = nI k → ∀ c, c < 4 → a = nI c → ∀ M1, FrI M M1 [e + 534, e + 535] → AA M1 (e + 534) (e + 535) (nI (y_kd S k)) (nI k) (nI (m_n (R k))) (sAct (nI (y_kd S k)) (nI k) (nI (m_n (R k))) a y).2 → Q (some (.int (sAct (nI (y_kd S k)) (nI k) (nI (m_n (R k))) a y).1)) (x_si M1 e 15 0)) : Call G (d + 9) 0 0 mX11_act [.ref e, .int x, .int a, .int y] M Q := by
  obtain ⟨a1, a2, a3, a4, a5, a6, a7, a8, a9, a10, a11, a12, b1, b2, b3, b4, b5, b6, b7, b8, c1, c2, c3, c4, c5, c6, c7, d1, d2, d3⟩ := hS
  obtain ⟨f11, f12, f13, f14, f15⟩ := hB
  have hrc := hW.2.2.2.2.1
  have refuse : ((∀ k, k < y_rc S → x ≠ nI k) ∨ ∀ c, c < 4 → a ≠ nI c) → Call G (d + 8) 0 0 mX11_refuse [.ref e, .int 1] M (fun r6 M7 => ∃ v8 : Int32, r6 = some (.int v8) ∧ Q (some (.int v8)) M7) := fun h => w_refuse (d + 7) a1 ⟨_, rfl, hQ0 h⟩
  refine eX11_act e x a y ⟨a1, ?_⟩
  rw [f12]
  refine w_in0 (d + 7) (by omega) (fun h => ⟨0, rfl, fun _ => ⟨a1, refuse (Or.inl h)⟩, fun c => absurd rfl c⟩) (fun k hk ek => ⟨1, rfl, fun c => absurd c (by decide), fun _ => ?_⟩)
  show Call G (d + 8) 0 0 mX11_within [.int a, .int (nI 4)] M _
  refine w_in0 (d + 7) (by omega) (fun h => ⟨0, rfl, fun c => absurd rfl c, fun _ => ⟨a1, refuse (Or.inr h)⟩⟩) (fun c hc ec => ⟨1, rfl, fun _ => ?_, fun c => absurd c (by decide)⟩)
  have hq1 := hQ1 k hk ek c hc ec
  obtain ⟨r1, r2, r3, r4⟩ := b1.2 k (by omega)
  obtain ⟨k1, k2, k3⟩ := hR k hk
  refine ⟨a1, e + 534, a12, e + 1, a2, by rw [b1.1]; exact ⟨by decide, by decide⟩, by rw [ek, b1.1]; exact vp_in_nI (show k < 10 by omega) (by omega), e + 536 + 8 * k, by rw [ek, nI_clamp (by omega)]; exact r1, r2, e + 536 + 8 * k, by rw [ek, nI_clamp (by omega)]; exact r1, r2, e + 536 + 8 * k + 1, r3, r4.1, d1, ?_⟩
  rw [k1, k3.1, ek]
  refine Call.mono (k_run d d1 d2 d3 (by omega) _ _ _ _ _) ?_
  rintro r M1 ⟨rfl, hA, fr⟩
  refine ⟨_, rfl, by rw [fr.h]; exact a1, w_done (d + 7) (by rw [fr.h]; exact a1) ⟨_, rfl, hq1 M1 fr hA⟩⟩
theorem ur_act (d : Nat) (hS : ReS M m) (hW : SgW S) (hB : ReB M m S) (hR : ReRw M m S R) {x a y : Int32} (hQ0 : ((∀ k, k < y_rc S → x ≠ nI k) ∨ ∀ c, c < 4 → a ≠ nI c) → Q (some (.int (-1))) (x_si M m 22 1))
    (hQ1 : ∀ k, k < y_rc S → x = nI k → ∀ c, c < 4 → a = nI c → ∀ M1, FrM M M1 m [22, 24] [19] → x_i M1 m 22 = 0 → x_i M1 m 24 = nI (sAct (nI (y_kd S k)) (nI k) (nI (m_n (R k))) a y).2.length → (∀ j, j < (sAct (nI (y_kd S k)) (nI k) (nI (m_n (R k))) a y).2.length → x_i M1 (m + 19) j = (sAct (nI (y_kd S k)) (nI k) (nI (m_n (R k))) a y).2.getD j 0) → Q (some (.int (sAct (nI (y_kd S k)) (nI k) (nI (m_n (R k))) a y).1)) M1) : Call G (d + 9) 0 0 mX12_act [.ref m, .int x, .int a, .int y] M Q := by
  obtain ⟨g0, g1, g7, g18, g22, g24⟩ := hB
  have hrc := hW.2.2.2.2.1
  have refuse : ((∀ k, k < y_rc S → x ≠ nI k) ∨ ∀ c, c < 4 → a ≠ nI c) → Call G (d + 8) 0 0 mX12_refused [.ref m, .int 1] M (fun r6 M7 => ∃ v8 : Int32, r6 = some (.int v8) ∧ Q (some (.int v8)) M7) := fun h => u_refused (d + 7) hS ⟨_, rfl, hQ0 h⟩
  refine eX12_act m x a y ⟨hS.1, ur_isRow (d + 6) hS g1 hrc (fun h => ⟨0, rfl, fun _ => ⟨hS.1, refuse (Or.inl h)⟩, fun c => absurd rfl c⟩) (fun k hk ek => ⟨1, rfl, fun c => absurd c (by decide), fun _ => ?_⟩)⟩
  show Call G (d + 8) 0 0 mX12_in [.int a, .int 0, .int (nI 4 - 1)] M _
  refine ur_in0 (d + 7) (by omega) (fun h => ⟨0, rfl, fun c => absurd rfl c, fun _ => ⟨hS.1, refuse (Or.inr h)⟩⟩) (fun c hc ec => ⟨1, rfl, fun _ => ⟨hS.1, ?_⟩, fun c => absurd c (by decide)⟩)
  have hq1 := hQ1 k hk ek c hc ec
  obtain ⟨k1, k2, k3⟩ := hR k hk
  rintro M15 rfl
  have hs2 : ReS (x_si M m 24 0) m := hS.eq rfl rfl
  have h0 : RB (x_i M m) (x_si M m 24 0) m k (nI (y_kd S k)) (nI (m_n (R k))) [] := ⟨⟨hS.1, hs2.MS, fun j hj => xi_nk hj⟩, xi_eq, fun j hj => absurd hj (Nat.not_lt_zero j), by rw [xi_na (by omega)]; exact k1, by rw [xi_na (by omega)]; exact k3.1, by omega⟩
  have fin : ∀ M2 res, sAct (nI (y_kd S k)) (nI k) (nI (m_n (R k))) a y = res → RB (x_i M m) M2 m k (nI (y_kd S k)) (nI (m_n (R k))) ([] ++ res.2) → FrI (x_si M m 24 0) M2 [m, m + 19] → ∃ v21 : Int32, (some (.int res.1) : Option Value) = some (.int v21) ∧ (x_h M2 m).1 = 28 ∧ Call G (d + 8) 0 0 mX12_done [.ref m, .int v21] M2 (fun r23 M24 => ∃ v25 : Int32, r23 = some (.int v25) ∧ Q (some (.int v25)) M24) := by
    intro M2 res er hb fr
    have hs3 : ReS M2 m := hs2.eq fr.h fr.r
    refine ⟨_, rfl, hs3.1, u_done (d + 7) hs3 ⟨_, rfl, ?_⟩⟩
    obtain ⟨⟨-, -, t1⟩, t2, t3, -⟩ := hb
    rw [List.nil_append] at t2 t3
    subst er
    have f2 : FrM M M2 m [22, 24] [19] := by
      obtain ⟨f, rfl, hf⟩ := fr
      refine ⟨f, x_l M, rfl, fun q h1 h2 => ⟨?_, rfl⟩, fun j hj => t1 j (fun c => hj (by rw [c]; decide))⟩
      rw [hf q (by have := h2 19 (by decide); simp; omega)]
      funext j
      exact xi_na h1
    exact hq1 _ (f2.sm (by decide)) xi_eq (by rw [xi_nk (by omega)]; exact t2) (fun j hj => by rw [xi_na (by omega)]; exact t3 j hj)
  subst ek
  refine ⟨fun n0 => ⟨fun n1 => ⟨fun n2 => ?_, fun c2 => ?_⟩, fun c1 => ?_⟩, fun c0 => ?_⟩
  · refine Call.mono (q2_tell0 (d + 3) h0 (by decide) y) ?_
    rintro z M2 ⟨rfl, h4, h5⟩
    exact fin M2 _ (by rw [sAct, if_neg n0, if_neg n1, if_neg n2]) h4 h5
  · refine Call.mono (q2_join0 (d + 6) h0 (by decide) y) ?_
    rintro z M2 ⟨rfl, h4, h5⟩
    exact fin M2 _ (by rw [sAct, if_neg n0, if_neg n1, if_pos c2]) h4 h5
  · refine Call.mono (q2_step0 (d + 5) h0 (by decide) y) ?_
    rintro z M2 ⟨rfl, h4, h5⟩
    exact fin M2 _ (by rw [sAct, if_neg n0, if_pos c1]) h4 h5
  · refine Call.mono (q2_read0 (d + 6) h0 (by decide) y) ?_
    rintro z M2 ⟨rfl, h4, h5⟩
    exact fin M2 _ (by rw [sAct, if_pos c0]) h4 h5
def acT (S : Sg) (l : List Int32) : Sg := (y_b S, y_L S, y_t S, y_so S, y_sz S, y_cf S, y_rc S, y_kd S, y_oq S, y_qc S, y_q S, l, 0)
theorem op_act (d : Nat) {x a y : Int32} : COp G (d + 9) e m mX11_act mX12_act [.int x, .int a, .int y] := by
  intro M hC0
  obtain ⟨hem, S, R, K, hW, hM, hCo, hRe⟩ := hC0.one
  obtain ⟨cS, cB, cT, cH, cR, cQ, cA⟩ := id hCo
  have hrc := hW.2.2.2.2.1
  have hqc := hW.2.2.2.2.2.2.1
  refine w_act d cS hW cB cR (fun h => ?_) (fun k hk ek c hc ec M1 fr hA => ?_)
  · refine ⟨_, rfl, ?_⟩
    obtain ⟨rS, rB, rT, rH, rR, rQ, rA⟩ := hRe.lo (q := e) (k := 15) (v := 1) (by omega)
    refine ur_act d rS hW rB rR (fun _ => ⟨rfl, hC0.st2⟩) (fun k hk ek c hc ec M1 _ _ _ _ => ?_)
    rcases h with h | h
    · exact absurd ek (h k hk)
    · exact absurd ec (h c hc)
  refine ⟨_, rfl, ?_⟩
  have hl := sAct_len (nI (y_kd S k)) (nI k) (nI (m_n (R k))) a y
  obtain ⟨p1, p2, p3, p4, p5, -⟩ := hA
  have hW' : SgW (acT S (sAct (nI (y_kd S k)) (nI k) (nI (m_n (R k))) a y).2) := by
    obtain ⟨w1, w2, w3, w4, w5, w6, w7, w8, w9⟩ := hW
    exact ⟨w1, w2, w3, w4, w5, w6, w7, w8, Nat.le_trans hl (by decide)⟩
  have hM' : MaW (acT S (sAct (nI (y_kd S k)) (nI k) (nI (m_n (R k))) a y).2) R K := hM
  have oC : ∀ q, q ≠ e → q ≠ e + 534 → q ≠ e + 535 → x_i (x_si M1 e 15 0) q = x_i M q := fun q h1 h2 h3 => by
    funext j
    rw [xi_na h1, fr.i (by simp; omega)]
  have hR4 : ReAll (x_si M1 e 15 0) m S R K := hRe.up fr.h (by show x_r M1 m = _; rw [fr.r]) (fun q hq => oC q (by omega) (by omega) (by omega))
  have hC4 : CoAll (x_si M1 e 15 0) e (acT S (sAct (nI (y_kd S k)) (nI k) (nI (m_n (R k))) a y).2) R K := by
    obtain ⟨f11, f12, f13, f14, f15⟩ := cB
    have o : ∀ j, j ≠ 15 → x_i (x_si M1 e 15 0) e j = x_i M e j := fun j hj => by rw [xi_nk hj, fr.i (by simp)]
    refine ⟨cS.eq fr.h fr.r, ⟨(o 11 (by omega)).trans f11, (o 12 (by omega)).trans f12, (o 13 (by omega)).trans f13, (o 14 (by omega)).trans f14, xi_eq⟩, cT.fr (oC _ (by omega) (by omega) (by omega)) rfl rfl, cH.fr (fun q h1 h2 => oC q (by omega) (by omega) (by omega)) rfl rfl rfl, cR.fr hrc (fun q h1 _ => oC q (by omega) (by omega) (by omega)) rfl rfl rfl (Nat.le_refl _), cQ.fr hqc (fun q h1 _ => oC q (by omega) (by omega) (by omega)) rfl rfl (Nat.le_refl _), ?_, fun j hj => ?_⟩
    · rw [xi_na (by omega)]; exact p4
    · rw [xi_na (by omega)]; exact p5 j hj
  obtain ⟨rS, rB, rT, rH, rR, rQ, rA⟩ := hR4
  refine ur_act d rS hW rB rR (fun h => ?_) (fun k' hk' ek' c' hc' ec' M2 g2 e22 e24 etr => ?_)
  · rcases h with h | h
    · exact absurd ek (h k hk)
    · exact absurd ec (h c hc)
  have := nI_same ek ek' (by omega) (by omega)
  subst this
  have oR : ∀ q, q ≠ 0 → q ≠ 19 → x_i M2 (m + q) = x_i (x_si M1 e 15 0) (m + q) := fun q h1 h2 => g2.i h1 (by simp; omega)
  obtain ⟨b0, b1, b7, b18, b22, b24⟩ := rB
  exact ⟨rfl, CRel.mk1 (R := R) (K := K) hem hW' hM' (hC4.fM hW' hem g2) ⟨g2.S rS, ⟨(g2.fm (by decide)).trans b0, (g2.fm (by decide)).trans b1, (g2.fm (by decide)).trans b7, (g2.fm (by decide)).trans b18, e22, e24⟩, rT.fr (oR _ (by omega) (by omega)) rfl rfl, rH.fr (fun q h1 h2 => oR q (by omega) (by omega)) rfl rfl rfl, rR.fr (fun q h1 h2 => oR q (by omega) (by omega)) rfl rfl rfl (Nat.le_refl _), rQ.fr (fun q h1 h2 => oR q (by omega) (by omega)) rfl rfl (Nat.le_refl _), etr⟩⟩
end OpAct
