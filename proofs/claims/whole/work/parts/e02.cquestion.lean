/-! ===== the class: question ===== -/
section CQuestC
/-- what becomes of a question, out of what was read and where it was spent -/
def quD (res : PRt) (k : Option Nat) : Qd := match res with
  | .inl p => (1, some p, none, 0, 0, 0)
  | .inr (a, s) => ((ftR (.inr (a, s))).1, (ftR (.inr (a, s))).2, (if (ftR (.inr (a, s))).1 = 0 then k.map (fun j => p_p (q_D s j)) else none), p_s (q_D s (q_c s - 1)), q_c s, rowsOf (q_D s) (q_c s))
def lastM (res : PRt) (Ms : Nat → Mc) : Mc := match res with
  | .inl _ => Ms 0
  | .inr (_, s) => Ms (q_c s - 1)
/-- the question that the text of the tape tells -/
def quR (S : Sg) (R : Nat → Mc) : PRt := rdP (y_L S) (y_rc S) (fun i => m_n (R i)) (tl (y_t S) (y_L S) 0)
def QPF (e c x : Nat) : Prop := x = e ∨ (e + 14 ≤ x ∧ x ≤ e + 523) ∨ (e + 540 + 8 * c ≤ x ∧ x ≤ e + 543 + 8 * c)
theorem quD_f {res : PRt} {k : Option Nat} : qd_f (quD res k) = (ftR res).1 ∧ qd_p (quD res k) = (ftR res).2 := by
  cases res with
  | inl p => exact ⟨rfl, rfl⟩
  | inr as => exact ⟨rfl, rfl⟩
variable {G : GG} {M : Mem} {e : Nat} {S : Sg} {R K : Nat → Mc} {Q : Option Value → Mem → Prop}
theorem w_question (d : Nat) (hSO : SOK G) (hC : CoS M e) (hW : SgW S) (hM : MaW S R K) (hB : CoB M e S) (hT : CoT M e S) (hR : CoR M e S R)
    (hQ0 : y_qc S = 10 → Q (some (.int (-1))) (x_si (x_si M e 14 0) e 15 2))
    (hQ1 : y_qc S < 10 → ∀ M' k Ms, FrP (rdM M (e + 14) (e + 15) (e + 3) (e + 1)) M' (QPF e (y_qc S)) → (x_i M' e 11 = nI (y_b S) ∧ x_i M' e 12 = nI (y_rc S) ∧ x_i M' e 13 = nI (y_qc S + 1) ∧ x_i M' e 14 = 0 ∧ x_i M' e 15 = 0) → (∀ a s, quR S R = .inr (a, s) → (ftR (quR S R)).1 = 0 → DecO (y_b S) R (q_D s) (q_c s) k Ms) → CoK M' e (y_b S) (y_qc S) (quD (quR S R) k) (lastM (quR S R) Ms) → Q (some (.int (nI (y_qc S)))) M') :
    Call G (d + 1450) 0 0 mX11_question [.ref e] M Q := by
  obtain ⟨W1, W2, W3, W4, W5, W6, W7, W8, W9⟩ := hW
  obtain ⟨B1, B2, B3, B4, B5⟩ := hB
  obtain ⟨hM1, hM2⟩ := hM
  have hC0 := hC
  obtain ⟨a1, a2, a3, a4, a5, a6, a7, a8, a9, a10, a11, a12, b1, b2, b3, b4, b5, b6, b7, b8, c1, c2, c3, c4, c5, c6, c7, d1, d2, d3⟩ := hC
  refine eX11_question e ⟨a1, ?_⟩
  rintro M2 rfl
  have e12 : x_i (x_si M e 14 0) e 12 = nI (y_rc S) := by rw [xi_nk (by omega)]; exact B2
  have e13 : x_i (x_si M e 14 0) e 13 = nI (y_qc S) := by rw [xi_nk (by omega)]; exact B3
  rw [B4, e12, e13, show (10 : Int32) = nI 10 from rfl, nI_ltI (by omega) (by omega)]
  refine ⟨fun hq => ?_, fun hq => ?_⟩
  rotate_left
  · refine w_refuse (M := x_si M e 14 0) (d + 1448) a1 ?_
    exact ⟨_, rfl, hQ0 (by omega)⟩
  have hcl : (nI (y_qc S)).toNatClampNeg = y_qc S := nI_clamp (by omega)
  obtain ⟨u1, u2⟩ := b2.2 (y_qc S) hq
  refine ⟨e + 2, a3, by rw [b2.1]; exact ⟨by decide, by decide⟩, by rw [b2.1]; exact vp_in_nI hq (by omega), e + 540 + 8 * y_qc S, by rw [hcl]; exact u1, e + 14, a9, e + 3, a4, e + 1, a2, c1, ?_⟩
  have hne : ∀ i, i < 10 → e + 540 + 8 * y_qc S ≠ e + 536 + 8 * i + 1 := fun i hi => by omega
  have hrow : ∀ i, i < y_rc S → x_i (x_si M e 14 0) (e + 536 + 8 * i + 1) 2 = nI (m_n (R i)) ∧ m_n (R i) < 2 ^ 20 := fun i hi => by
    have h60 := (hM1 i hi).2.1
    refine ⟨?_, by omega⟩
    rw [xi_na (by omega)]
    exact (hR i hi).2.2.1
  refine w_readText (r := e + 14) (k := e + 15) (pa := e + 20) (p0 := e + 22) (ra := e + 1) (r0 := e + 536) (tx := e + 3) (q := e + 540 + 8 * y_qc S) (wd := fun i => m_n (R i)) (t := y_t S) (R := R) (d + 8) hSO ⟨c1, c2, c3, c4, c5, b1, by omega, by omega, by omega, by omega, by omega, by omega⟩ (by omega) b3 W2 (fun i hi => by rw [xi_na (by omega)]; exact hT i hi) W3 W5 (fun i => rfl) hrow u2.1 (by omega) (by omega) (by omega) (fun i hi => hne i (by omega)) (fun M13 g13 hq13 => ⟨rfl, ?_⟩)
  have g0 : FrP (rdM M (e + 14) (e + 15) (e + 3) (e + 1)) (rdM (x_si M e 14 0) (e + 14) (e + 15) (e + 3) (e + 1)) (QPF e (y_qc S)) := Fr.P (A := [e]) (Fr.rf.si (by simp)) (fun x hx => Or.inl (List.mem_singleton.mp hx))
  have gsub : ∀ x, RPQ (e + 14) (e + 15) (e + 22) (e + 540 + 8 * y_qc S) x → QPF e (y_qc S) x := fun x hx => by unfold RPQ RPF at hx; unfold QPF; omega
  have g013 := g0.tr g13 gsub
  have hC13 : CoS M13 e := (hC0.rd (tx := e + 3) (ra := e + 1)).eq g013.h g013.r
  have i13 : ∀ x, ¬ RPQ (e + 14) (e + 15) (e + 22) (e + 540 + 8 * y_qc S) x → x_i M13 x = x_i (x_si M e 14 0) x := fun x hx => g13.i hx
  have eo : x_i M13 e = x_i (x_si M e 14 0) e := i13 e (by unfold RPQ RPF; omega)
  have o11 : x_i M13 e 11 = nI (y_b S) := by rw [eo, xi_nk (by omega)]; exact B1
  have o12 : x_i M13 e 12 = nI (y_rc S) := by rw [eo]; exact e12
  have o13 : x_i M13 e 13 = nI (y_qc S) := by rw [eo]; exact e13
  have o14 : x_i M13 e 14 = 0 := by rw [eo, xi_eq]
  have hq13' : QuT M13 (e + 540 + 8 * y_qc S) (e + 22) (quR S R) := hq13
  obtain ⟨q1, q2, q3, q4⟩ := hq13'
  have hf3 : (ftR (quR S R)).1 ≤ 3 := by
    cases quR S R with
    | inl p => show 1 ≤ 3; omega
    | inr as =>
      obtain ⟨a, s⟩ := as
      show (match q_o s with | some p => (2, some p) | none => (match crF (q_D s) (q_c s) 0 with | some p => (3, some p) | none => (0, none)) : Nat × Option Nat).1 ≤ 3
      split
      · show 2 ≤ 3; omega
      · split
        · show 3 ≤ 3; omega
        · show 0 ≤ 3; omega
  have ff := quD_f (res := quR S R) (k := none)
  -- the end
  have fin : ∀ M29, FrP M13 M29 (QPF e (y_qc S)) → x_i M29 e = x_i M13 e → ∀ k Ms, (∀ a s, quR S R = .inr (a, s) → (ftR (quR S R)).1 = 0 → DecO (y_b S) R (q_D s) (q_c s) k Ms) → CoK M29 e (y_b S) (y_qc S) (quD (quR S R) k) (lastM (quR S R) Ms) → (x_h M29 e).1 = 27 ∧ ∀ M31, M31 = x_si M29 e 13 ((x_i M29 e 13) + 1) → Call G (d + 1449) 0 0 mX11_done [.ref e, .int ((x_i M31 e 13) - 1)] M31 (fun r32 M33 => ∃ v34 : Int32, r32 = some (.int v34) ∧ Q (some (.int v34)) M33) := by
    intro M29 g29 e29 k Ms hD hK
    have h29 : (x_h M29 e).1 = 27 := by rw [g29.h]; exact hC13.1
    refine ⟨h29, ?_⟩
    rintro M31 rfl
    have ev : x_i (x_si M29 e 13 (x_i M29 e 13 + 1)) e 13 - 1 = nI (y_qc S) := by
      rw [xi_eq, e29, o13]
      exact p1m1
    rw [ev]
    refine w_done (M := x_si M29 e 13 (x_i M29 e 13 + 1)) (d + 1448) h29 ?_
    refine ⟨_, rfl, ?_⟩
    have gE : FrP M29 (x_si (x_si M29 e 13 (x_i M29 e 13 + 1)) e 15 0) (QPF e (y_qc S)) := Fr.P (A := [e]) ((Fr.rf.si (by simp)).si (by simp)) (fun x hx => Or.inl (List.mem_singleton.mp hx))
    refine hQ1 hq _ k Ms ((g013.tr g29 (fun _ h => h)).tr gE (fun _ h => h)) ⟨?_, ?_, ?_, ?_, xi_eq⟩ hD ?_
    · rw [xi_nk (by omega), xi_nk (by omega), e29]; exact o11
    · rw [xi_nk (by omega), xi_nk (by omega), e29]; exact o12
    · rw [xi_nk (by omega), xi_eq, e29, o13, nI_1]
    · rw [xi_nk (by omega), xi_nk (by omega), e29]; exact o14
    · have ex : ∀ x, x ≠ e → x_i (x_si (x_si M29 e 13 (x_i M29 e 13 + 1)) e 15 0) x = x_i M29 x := fun x hx => by
        funext j
        rw [xi_na hx, xi_na hx]
      unfold CoK LeI at hK ⊢
      rw [ex _ (by omega), ex _ (by omega), ex _ (by omega), ex _ (by omega)]
      exact hK
  have h20 : (x_h M13 (e + 540 + 8 * y_qc S)).1 = 20 := ((hC13.2.2.2.2.2.2.2.2.2.2.2.2.2.1).2 (y_qc S) hq).2.1
  refine ⟨h20, fun hz => ?_, fun hz => ?_⟩
  · rw [q1] at hz
    have hz' : (ftR (quR S R)).1 ≠ 0 := fun z => hz (by rw [z]; rfl)
    refine fin M13 FrP.rf rfl none (fun _ => (0, fun _ _ => 0, fun _ => 0)) (fun a s _ z => absurd z hz') ⟨by rw [ff.1]; exact q1, by rw [ff.2]; exact q2, ?_, fun z => absurd (ff.1.symm.trans z) hz', fun z => absurd (ff.1.symm.trans z) hz'⟩
    have : qd_s (quD (quR S R) none) = none := by
      cases quR S R with
      | inl p => rfl
      | inr as =>
        show (if _ then _ else _) = none
        split <;> rfl
    rw [this]
    exact q3
  · rw [q1] at hz
    have hz' : (ftR (quR S R)).1 = 0 := by
      have := (nI_eq (a := (ftR (quR S R)).1) (b := 0) (by omega) (by omega)).mp hz
      exact this
    obtain ⟨a, s, hr, k1, k2, k3, k4⟩ := rd_ok (R := R) (wd := fun i => m_n (R i)) (rc := y_rc S) (t := y_t S) (fun i => rfl) W2 hz'
    have hr' : quR S R = .inr (a, s) := hr
    obtain ⟨p4, p5, p6, p7⟩ := q4 a s hr' hz'
    rw [k4] at p6
    have eD : ∀ k, quD (quR S R) k = (0, (ftR (quR S R)).2, k.map (fun j => p_p (q_D s j)), p_s (q_D s (q_c s - 1)), q_c s, rowsOf (q_D s) (q_c s)) := fun k => by
      have z2 := hz'
      rw [hr'] at z2 ⊢
      show ((ftR (.inr (a, s))).1, _, (if (ftR (.inr (a, s))).1 = 0 then _ else _), _, _, _) = _
      rw [z2, if_pos rfl]
    have eM : ∀ Ms : Nat → Mc, lastM (quR S R) Ms = Ms (q_c s - 1) := fun Ms => by rw [hr']; rfl
    refine ⟨hC13.1, e + 502, hC13.2.2.2.2.2.2.2.2.2.1, e + 14, hC13.2.2.2.2.2.2.2.2.1, hC13.2.2.2.2.2.2.2.2.2.2.2.2.2.2.2.2.2.2.2.2.1, e + 20, hC13.2.2.2.2.2.2.2.2.2.2.2.2.2.2.2.2.2.2.2.2.2.2.1, e + 1, hC13.2.1, hC13.2.2.2.2.2.2.2.2.2.2.2.2.2.2.2.2.2.2.2.2.2.2.2.2.2.1.1, ?_⟩
    rw [o11, o12]
    have hrow13 : ∀ i, i < y_rc S → RowG (y_b S) (R i) ∧ RowI M13 (e + 536 + 8 * i) (y_b S) (R i) := fun i hi => by
      refine ⟨hM1 i hi, ?_⟩
      have := (hR i hi).2.2
      have ei : ∀ x, e + 536 + 8 * i + 1 ≤ x → x ≤ e + 536 + 8 * i + 3 → x_i M13 x = x_i M x := fun x g1 g2 => by
        rw [i13 x (by unfold RPQ RPF; omega)]
        funext j
        exact xi_na (by omega)
      unfold RowI LeI at this ⊢
      rw [ei _ (by omega) (by omega), ei _ (by omega) (by omega), ei _ (by omega) (by omega)]
      exact this
    have hWe : WeS M13 (e + 502) := hC13.2.2.2.2.2.2.2.2.2.2.2.2.2.2.2.2.2.2.2.2.2.2.2.2.2.1
    have hPa : PartsS M13 (e + 20) (e + 22) := hC13.2.2.2.2.2.2.2.2.2.2.2.2.2.2.2.2.2.2.2.2.2.2.2.2.1
    have hRo : RowsS M13 (e + 1) (e + 536) := hC13.2.2.2.2.2.2.2.2.2.2.2.2.1
    have hQu : QueS M13 (e + 540 + 8 * y_qc S) := ((hC13.2.2.2.2.2.2.2.2.2.2.2.2.2.1).2 (y_qc S) hq).2
    have dsub : ∀ x, DFr (e + 502) (e + 22) (e + 540 + 8 * y_qc S) x → QPF e (y_qc S) x := fun x hx => by
      unfold DFr at hx
      unfold QPF
      rcases hx with hx | ⟨i, k, i1, i2, i3, rfl⟩ | hx
      · omega
      · omega
      · omega
    have dne : ¬ DFr (e + 502) (e + 22) (e + 540 + 8 * y_qc S) e := fun hx => by
      unfold DFr at hx
      rcases hx with hx | ⟨i, k, i1, i2, i3, hx⟩ | hx
      · omega
      · omega
      · omega
    refine cd_ (d' := d + 1441 + 8) (by omega) (w_decide (p0 := e + 22) (r0 := e + 536) (D := q_D s) (cnt := q_c s) (d + 1441) hWe W1 hPa (by omega) W5 hRo (by omega) hrow13 k2 k1 (fun j hj => ⟨p7 j hj, (k3 j hj).2⟩) hQu (by omega) (fun i hi => by omega) p5 (fun M29 Ms k hk g29 hx h3 hu hp => ⟨rfl, ?_⟩) (fun M29 Ms g29 hx hu hms hl => ⟨rfl, ?_⟩))
    · refine fin M29 (g29.wk dsub) (g29.i dne) (some k) Ms (fun a' s' e1 _ => ?_) ?_
      · have ess : s' = s := by rw [hr'] at e1; cases e1; rfl
        rw [ess]
        exact ⟨hk, hu, hp⟩
      · rw [eD, eM]
        refine ⟨by rw [hx 1 (by omega), q1, hz']; rfl, by rw [hx 2 (by omega)]; exact q2, h3, fun _ => ⟨by rw [hx 4 (by omega)]; exact p4, by rw [hx 5 (by omega)]; exact p5, by rw [hx 6 (by omega)]; exact p6⟩, fun _ z => (by cases z)⟩
    · refine fin M29 (g29.wk dsub) (g29.i dne) none Ms (fun a' s' e1 _ => ?_) ?_
      · have ess : s' = s := by rw [hr'] at e1; cases e1; rfl
        rw [ess]
        exact hu
      · rw [eD, eM]
        refine ⟨by rw [hx 1, q1, hz']; rfl, by rw [hx 2]; exact q2, by rw [hx 3]; exact q3, fun _ => ⟨by rw [hx 4]; exact p4, by rw [hx 5]; exact p5, by rw [hx 6]; exact p6⟩, fun _ _ => hl⟩
end CQuestC
