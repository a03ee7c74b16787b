/-! ===== both alike: refusals, begin ===== -/
section OpBegin
variable {G : GG} {M M' : Mem} {e m b : Nat} {S S' : Sg} {R K : Nat → Mc} {Q : Option Value → Mem → Prop}
theorem CoR.fr (h : CoR M e S R) (hrc : y_rc S ≤ 10) (g : ∀ q, e + 536 ≤ q → q < e + 616 → x_i M' q = x_i M q) (h1 : y_b S' = y_b S) (h2 : y_kd S' = y_kd S) (h3 : y_oq S' = y_oq S) (h4 : y_rc S' ≤ y_rc S) : CoR M' e S' R := by
  intro i hi
  have := h i (by omega)
  rw [h1, h2, h3]
  unfold RowI LeI at this ⊢
  rw [g (e + 536 + 8 * i) (by omega) (by omega), g (e + 536 + 8 * i + 1) (by omega) (by omega), g (e + 536 + 8 * i + 2) (by omega) (by omega), g (e + 536 + 8 * i + 3) (by omega) (by omega)]
  exact this
theorem CoQ.fr (h : CoQ M e S K) (hqc : y_qc S ≤ 10) (g : ∀ q, e + 536 ≤ q → q < e + 616 → x_i M' q = x_i M q) (h1 : y_b S' = y_b S) (h2 : y_q S' = y_q S) (h4 : y_qc S' ≤ y_qc S) : CoQ M' e S' K := by
  intro k hk
  have := h k (by omega)
  rw [h1, h2]
  unfold CoK LeI at this ⊢
  rw [g (e + 540 + 8 * k) (by omega) (by omega), g (e + 540 + 8 * k + 1) (by omega) (by omega), g (e + 540 + 8 * k + 2) (by omega) (by omega), g (e + 540 + 8 * k + 3) (by omega) (by omega)]
  exact this
theorem CoT.fr (h : CoT M e S) (g : x_i M' (e + 3) = x_i M (e + 3)) (h1 : y_L S' = y_L S) (h2 : y_t S' = y_t S) : CoT M' e S' := by
  unfold CoT at h ⊢
  rw [g, h1, h2]
  exact h
theorem CoH.fr (h : CoH M e S) (g : ∀ q, e + 5 ≤ q → q ≤ e + 13 → x_i M' q = x_i M q) (h1 : y_so S' = y_so S) (h2 : y_sz S' = y_sz S) (h3 : y_cf S' = y_cf S) : CoH M' e S' := by
  refine ⟨fun s hs => ?_, fun i hi => by rw [g (e + 13) (by omega) (by omega)]; exact h.2 i hi⟩
  rw [g (e + 11) (by omega) (by omega), g (e + 12) (by omega) (by omega), g (e + 5 + s) (by omega) (by omega), h1, h2, h3]
  exact h.1 s hs
theorem CoA.fr (h : CoA M e S) (g : ∀ q, e + 534 ≤ q → q ≤ e + 535 → x_i M' q = x_i M q) (h1 : y_tr S' = y_tr S) : CoA M' e S' := by
  unfold CoA at h ⊢
  rw [g (e + 534) (by omega) (by omega), g (e + 535) (by omega) (by omega), h1]
  exact h
theorem ReRw.fr (h : ReRw M m S R) (g : ∀ o, 1 ≤ o → o ≤ 5 → x_i M' (m + o) = x_i M (m + o)) (h1 : y_b S' = y_b S) (h2 : y_kd S' = y_kd S) (h3 : y_oq S' = y_oq S) (h4 : y_rc S' ≤ y_rc S) : ReRw M' m S' R := by
  intro i hi
  have := h i (by omega)
  rw [h1, h2, h3]
  unfold ReR at this ⊢
  rw [g 1 (by omega) (by omega), g 2 (by omega) (by omega), g 3 (by omega) (by omega), g 4 (by omega) (by omega), g 5 (by omega) (by omega)]
  exact this
theorem ReQs.fr (h : ReQs M m S K) (g : ∀ o, 6 ≤ o → o ≤ 14 → x_i M' (m + o) = x_i M (m + o)) (h1 : y_b S' = y_b S) (h2 : y_q S' = y_q S) (h4 : y_qc S' ≤ y_qc S) : ReQs M' m S' K := by
  intro k hk
  have := h k (by omega)
  rw [h1, h2]
  unfold ReK ReQ at this ⊢
  rw [g 6 (by omega) (by omega), g 7 (by omega) (by omega), g 8 (by omega) (by omega), g 9 (by omega) (by omega), g 10 (by omega) (by omega), g 11 (by omega) (by omega), g 12 (by omega) (by omega), g 13 (by omega) (by omega), g 14 (by omega) (by omega)]
  exact this
theorem ReT.fr (h : ReT M m S) (g : x_i M' (m + 15) = x_i M (m + 15)) (h1 : y_L S' = y_L S) (h2 : y_t S' = y_t S) : ReT M' m S' := by
  unfold ReT at h ⊢
  rw [g, h1, h2]
  exact h
theorem ReH.fr (h : ReH M m S) (g : ∀ o, 16 ≤ o → o ≤ 18 → x_i M' (m + o) = x_i M (m + o)) (h1 : y_so S' = y_so S) (h2 : y_sz S' = y_sz S) (h3 : y_cf S' = y_cf S) : ReH M' m S' := by
  intro s hs
  rw [g 16 (by omega) (by omega), g 17 (by omega) (by omega), g 18 (by omega) (by omega), h1, h2, h3]
  exact h s hs
theorem ReA.fr (h : ReA M m S) (g : x_i M' (m + 19) = x_i M (m + 19)) (h1 : y_tr S' = y_tr S) : ReA M' m S' := by
  unfold ReA at h ⊢
  rw [g, h1]
  exact h
/-- another status -/
def nwS (S : Sg) (v : Int32) : Sg := (y_b S, y_L S, y_t S, y_so S, y_sz S, y_cf S, y_rc S, y_kd S, y_oq S, y_qc S, y_q S, y_tr S, v)
theorem CoAll.st (h : CoAll M e S R K) (hW : SgW S) {v : Int32} : CoAll (x_si M e 15 v) e (nwS S v) R K := by
  obtain ⟨a1, ⟨f11, f12, f13, f14, f15⟩, a3, a4, a5, a6, a7⟩ := h
  have o : ∀ q, q ≠ e → x_i (x_si M e 15 v) q = x_i M q := fun q hq => by funext j; rw [xi_na hq]
  exact ⟨a1.eq rfl rfl, ⟨by rw [xi_nk (by omega)]; exact f11, by rw [xi_nk (by omega)]; exact f12, by rw [xi_nk (by omega)]; exact f13, by rw [xi_nk (by omega)]; exact f14, xi_eq⟩, a3.fr (o _ (by omega)) rfl rfl, a4.fr (fun q h1 _ => o q (by omega)) rfl rfl rfl, a5.fr hW.2.2.2.2.1 (fun q h1 _ => o q (by omega)) rfl rfl rfl (Nat.le_refl _), a6.fr hW.2.2.2.2.2.2.1 (fun q h1 _ => o q (by omega)) rfl rfl (Nat.le_refl _), a7.fr (fun q h1 _ => o q (by omega)) rfl⟩
theorem ReAll.st (h : ReAll M m S R K) {v : Int32} : ReAll (x_si M m 22 v) m (nwS S v) R K := by
  obtain ⟨a1, ⟨b0, b1, b7, b18, b22, b24⟩, a3, a4, a5, a6, a7⟩ := h
  have o : ∀ q, q ≠ 0 → x_i (x_si M m 22 v) (m + q) = x_i M (m + q) := fun q hq => by funext j; rw [xi_na (by omega)]
  exact ⟨a1.eq rfl rfl, ⟨by rw [xi_nk (by omega)]; exact b0, by rw [xi_nk (by omega)]; exact b1, by rw [xi_nk (by omega)]; exact b7, by rw [xi_nk (by omega)]; exact b18, xi_eq, by rw [xi_nk (by omega)]; exact b24⟩, a3.fr (o _ (by omega)) rfl rfl, a4.fr (fun q h1 _ => o q (by omega)) rfl rfl rfl, a5.fr (fun q h1 _ => o q (by omega)) rfl rfl rfl (Nat.le_refl _), a6.fr (fun q h1 _ => o q (by omega)) rfl rfl (Nat.le_refl _), a7.fr (o _ (by omega)) rfl⟩
theorem ReAll.lo (h : ReAll M m S R K) {q k : Nat} {v : Int32} (hq : q < m) : ReAll (x_si M q k v) m S R K := h.up rfl rfl (fun x hx => by funext j; rw [xi_na (by omega)])
theorem CoAll.hi (h : CoAll M e S R K) (hW : SgW S) {q k : Nat} {v : Int32} (hq : e + 615 < q) : CoAll (x_si M q k v) e S R K := h.up hW rfl rfl (fun x hx => by funext j; rw [xi_na (by omega)])
/-- both refuse, for one reason -/
theorem CRel.st2 (h : CRel M e m) {v : Int32} : CRel (x_si (x_si M e 15 v) m 22 v) e m := by
  obtain ⟨hem, S, R, K, R', K', hW, hM, hM', hE, hC, hR⟩ := h
  have hW' : SgW (nwS S v) := hW
  exact ⟨hem, nwS S v, R, K, R', K', hW', hM, hM', hE, (hC.st (v := v) hW).hi hW' (by omega), (hR.lo (by omega)).st⟩
/-- emptied, for another base -/
def bgS (S : Sg) (b : Nat) : Sg := (b, y_L S, y_t S, y_so S, y_sz S, y_cf S, 0, y_kd S, y_oq S, 0, y_q S, y_tr S, 0)
theorem op_begin (d : Nat) {x : Int32} : COp G (d + 2) e m mX11_begin mX12_begin [.int x] := by
  intro M hC0
  obtain ⟨hem, S, R, K, hW, hM, hCo, hRe⟩ := hC0.one
  have good : ∀ b, b = 2 ∨ b = 3 → x = nI b → (∀ M3, M3 = x_si M e 11 x → ∀ M4, M4 = x_si M3 e 12 0 → ∀ M5, M5 = x_si M4 e 13 0 → Call G (d + 1) 0 0 mX11_done [.ref e, .int 1] M5 (fun r6 M7 => ∃ v8 : Int32, r6 = some (.int v8) ∧ ∃ v, (some (.int v8) : Option Value) = some v ∧ Call G (d + 2) 0 0 mX12_begin [.ref m, .int x] M7 (fun r2 M2 => r2 = some v ∧ CRel M2 e m))) := by
    rintro b hb rfl M3 rfl M4 rfl M5 rfl
    refine w_done d ?_ ?_
    · exact hCo.1.1
    refine ⟨_, rfl, _, rfl, ?_⟩
    have hR4 := (((hRe.lo (q := e) (k := 11) (v := nI b) (by omega)).lo (q := e) (k := 12) (v := 0) (by omega)).lo (q := e) (k := 13) (v := 0) (by omega)).lo (q := e) (k := 15) (v := 0) (by omega)
    obtain ⟨c1, ⟨f11, f12, f13, f14, f15⟩, c3, c4, c5, c6, c7⟩ := hCo
    have hC4 : CoAll (x_si (x_si (x_si (x_si M e 11 (nI b)) e 12 0) e 13 0) e 15 0) e (bgS S b) R K := by
      have o : ∀ q, q ≠ e → x_i (x_si (x_si (x_si (x_si M e 11 (nI b)) e 12 0) e 13 0) e 15 0) q = x_i M q := fun q hq => by funext j; rw [xi_na hq, xi_na hq, xi_na hq, xi_na hq]
      refine ⟨c1.eq rfl rfl, ⟨?_, ?_, ?_, ?_, xi_eq⟩, c3.fr (o _ (by omega)) rfl rfl, c4.fr (fun q h1 _ => o q (by omega)) rfl rfl rfl, fun i hi => absurd hi (Nat.not_lt_zero i), fun i hi => absurd hi (Nat.not_lt_zero i), c7.fr (fun q h1 _ => o q (by omega)) rfl⟩
      · rw [xi_nk (by omega), xi_nk (by omega), xi_nk (by omega), xi_eq]; rfl
      · rw [xi_nk (by omega), xi_nk (by omega), xi_eq]; rfl
      · rw [xi_nk (by omega), xi_eq]; rfl
      · rw [xi_nk (by omega), xi_nk (by omega), xi_nk (by omega), xi_nk (by omega)]; exact f14
    generalize x_si (x_si (x_si (x_si M e 11 (nI b)) e 12 0) e 13 0) e 15 0 = M5 at hR4 hC4 ⊢
    obtain ⟨r1, ⟨b0, b1, b7, b18, b22, b24⟩, r3, r4, r5, r6, r7⟩ := hR4
    refine eX12_begin m _ (u_in d (x := b) (y := 2) (z := 3) (by omega) (by omega) (by omega) ?_)
    rw [if_pos (by omega)]
    refine ⟨_, rfl, fun _ => ⟨r1.1, ?_⟩, fun c => absurd c (by decide)⟩
    rintro M6 rfl M7 rfl M8 rfl
    refine u_done d ?_ ?_
    · exact r1.eq rfl rfl
    refine ⟨_, rfl, rfl, hem, bgS S b, R, K, R, K, ?_, ?_, ?_, ?_, ?_, ?_⟩
    · obtain ⟨w1, w2, w3, w4, w5, w6, w7, w8, w9⟩ := hW
      exact ⟨hb, w2, w3, w4, Nat.zero_le _, fun i hi => absurd hi (Nat.not_lt_zero i), Nat.zero_le _, fun i hi => absurd hi (Nat.not_lt_zero i), w9⟩
    · exact ⟨fun i hi => absurd hi (Nat.not_lt_zero i), fun i hi => absurd hi (Nat.not_lt_zero i)⟩
    · exact ⟨fun i hi => absurd hi (Nat.not_lt_zero i), fun i hi => absurd hi (Nat.not_lt_zero i)⟩
    · exact MaE.rf
    · have hW' : SgW (bgS S b) := by
        obtain ⟨w1, w2, w3, w4, w5, w6, w7, w8, w9⟩ := hW
        exact ⟨hb, w2, w3, w4, Nat.zero_le _, fun i hi => absurd hi (Nat.not_lt_zero i), Nat.zero_le _, fun i hi => absurd hi (Nat.not_lt_zero i), w9⟩
      exact (((hC4.hi hW' hem).hi hW' hem).hi hW' hem).hi hW' hem
    · have o : ∀ q, q ≠ 0 → x_i (x_si (x_si (x_si (x_si M5 m 0 (nI b)) m 1 0) m 7 0) m 22 0) (m + q) = x_i M5 (m + q) := fun q hq => by funext j; rw [xi_na (by omega), xi_na (by omega), xi_na (by omega), xi_na (by omega)]
      refine ⟨r1.eq rfl rfl, ⟨?_, ?_, ?_, ?_, xi_eq, ?_⟩, r3.fr (o _ (by omega)) rfl rfl, r4.fr (fun q h1 _ => o q (by omega)) rfl rfl rfl, fun i hi => absurd hi (Nat.not_lt_zero i), fun i hi => absurd hi (Nat.not_lt_zero i), r7.fr (o _ (by omega)) rfl⟩
      · rw [xi_nk (by omega), xi_nk (by omega), xi_nk (by omega), xi_eq]; rfl
      · rw [xi_nk (by omega), xi_nk (by omega), xi_eq]; rfl
      · rw [xi_nk (by omega), xi_eq]; rfl
      · rw [xi_nk (by omega), xi_nk (by omega), xi_nk (by omega), xi_nk (by omega)]; exact b18
      · rw [xi_nk (by omega), xi_nk (by omega), xi_nk (by omega), xi_nk (by omega)]; exact b24
  refine eX11_begin e x ⟨fun h2 => ⟨hCo.1.1, good 2 (Or.inl rfl) h2⟩, fun n2 => ⟨fun h3 => ⟨hCo.1.1, good 3 (Or.inr rfl) h3⟩, fun n3 => ⟨hCo.1.1, w_refuse d hCo.1.1 ?_⟩⟩⟩
  refine ⟨_, rfl, _, rfl, ?_⟩
  have hR4 := hRe.lo (q := e) (k := 15) (v := 1) (by omega)
  refine eX12_begin m _ (u_inI d (x := x) (y := 2) (z := 3) (by omega) (by omega) (by omega) (by omega) ?_)
  rw [if_neg ?_]
  · exact ⟨_, rfl, fun c => absurd rfl c, fun _ => ⟨hR4.1.1, u_refused d hR4.1 ⟨_, rfl, rfl, hC0.st2⟩⟩⟩
  · rintro ⟨h1, h2⟩
    have : x.toInt = 2 ∨ x.toInt = 3 := by omega
    rcases this with c | c
    · exact n2 (Int32.toInt_inj.mp c)
    · exact n3 (Int32.toInt_inj.mp c)
end OpBegin
