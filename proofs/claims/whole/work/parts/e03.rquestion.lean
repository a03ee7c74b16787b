/-! ===== the reference: its state; question ===== -/
section RQuestC
def ReB (M : Mem) (m : Nat) (S : Sg) : Prop := x_i M m 0 = nI (y_b S) ∧ x_i M m 1 = nI (y_rc S) ∧ x_i M m 7 = nI (y_qc S) ∧ x_i M m 18 = nI (y_L S) ∧ x_i M m 22 = y_st S ∧ x_i M m 24 = nI (y_tr S).length
def ReT (M : Mem) (m : Nat) (S : Sg) : Prop := ∀ i, i < y_L S → x_i M (m + 15) i = nI (y_t S i)
def ReH (M : Mem) (m : Nat) (S : Sg) : Prop := ∀ s, s < 6 → x_i M (m + 16) s = y_so S s ∧ x_i M (m + 17) s = nI (y_sz S s) ∧ ∀ i, i < 40 → x_i M (m + 18) (40 * s + i) = nI (y_cf S s i)
def ReRw (M : Mem) (m : Nat) (S : Sg) (R : Nat → Mc) : Prop := ∀ i, i < y_rc S → x_i M (m + 1) i = nI (y_kd S i) ∧ (y_kd S i = 4 → x_i M (m + 5) i = y_oq S i) ∧ ReR M m i (y_b S) (R i)
def ReK (M : Mem) (m b k : Nat) (q : Qd) (mc : Mc) : Prop := x_i M (m + 6) k = nI (qd_f q) ∧ x_i M (m + 7) k = nbI (qd_p q) ∧ x_i M (m + 8) k = nbI (qd_s q) ∧ (qd_f q = 0 → x_i M (m + 9) k = nI (qd_n q) ∧ x_i M (m + 10) k = nI (qd_k q) ∧ x_i M (m + 11) k = nI (qd_r q)) ∧ (qd_f q = 0 → qd_s q = none → ReQ M m k (fn b (qd_n q)) mc)
def ReQs (M : Mem) (m : Nat) (S : Sg) (K : Nat → Mc) : Prop := ∀ k, k < y_qc S → ReK M m (y_b S) k (y_q S k) (K k)
def ReA (M : Mem) (m : Nat) (S : Sg) : Prop := ∀ j, j < (y_tr S).length → x_i M (m + 19) j = (y_tr S).getD j 0
abbrev FQr : List Nat := [7, 18, 22, 25, 26, 29, 78, 38, 39, 40, 41, 42, 43, 44, 45, 46, 47, 66, 67, 68, 69, 70, 71, 72]
abbrev AQr : List Nat := [6, 7, 8, 9, 10, 11, 12, 13, 14, 20, 21, 22, 23, 24, 25, 26, 27, 28, 29, 30, 31, 32, 33, 34, 35, 36, 37, 38, 39, 40, 41, 42, 43, 44, 45, 46, 47, 48, 49, 50, 51, 52, 53, 54, 55, 56, 57]
variable {G : GG} {M : Mem} {m : Nat} {S : Sg} {R K : Nat → Mc} {Q : Option Value → Mem → Prop}
theorem ur_question (d : Nat) (hs : ReS M m) (hW : SgW S) (hM : MaW S R K) (hB : ReB M m S) (hT : ReT M m S) (hR : ReRw M m S R)
    (hQ0 : y_qc S = 10 → Q (some (.int (-1))) (x_si (x_si M m 18 0) m 22 2))
    (hQ1 : y_qc S < 10 → ∀ M' k Ms, FrM M M' m FQr AQr → QuK M M' m (y_qc S) → (x_i M' m 7 = nI (y_qc S + 1) ∧ x_i M' m 18 = 0 ∧ x_i M' m 22 = 0) → (∀ a s, quR S R = .inr (a, s) → (ftR (quR S R)).1 = 0 → DecO (y_b S) R (q_D s) (q_c s) k Ms) → ReK M' m (y_b S) (y_qc S) (quD (quR S R) k) (lastM (quR S R) Ms) → Q (some (.int (nI (y_qc S)))) M') :
    Call G (d + 1471) 0 0 mX12_question [.ref m] M Q := by
  obtain ⟨W1, W2, W3, W4, W5, W6, W7, W8, W9⟩ := hW
  obtain ⟨B0, B1, B7, B18, B22, B24⟩ := hB
  obtain ⟨hM1, hM2⟩ := hM
  have hcl : (nI (y_qc S)).toNatClampNeg = y_qc S := nI_clamp (by omega)
  refine eX12_question m ⟨hs.1, fun hq => ?_, fun hq => ?_⟩
  rotate_left
  · rintro M39 rfl
    rw [B7, show (10 : Int32) = nI 10 from rfl, nI_eq (by omega) (by omega)] at hq
    refine u_refused (M := x_si M m 18 0) (d + 1469) (hs.eq rfl rfl) ?_
    exact ⟨_, rfl, hQ0 hq⟩
  rw [B7, show (10 : Int32) = nI 10 from rfl, nI_eq (by omega) (by omega)] at hq
  have hq10 : y_qc S < 10 := by omega
  rintro M3 rfl
  rw [B7, nI_1]
  have g3 : FrM M (x_si M m 7 (nI (y_qc S + 1))) m [7] [] := FrM.rf.sm (by decide)
  have i7 : x_i (x_si M m 7 (nI (y_qc S + 1))) m 7 = nI (y_qc S + 1) := xi_eq
  generalize x_si M m 7 (nI (y_qc S + 1)) = M3 at g3 i7 ⊢
  have s3 := g3.S hs
  have hE3 : RfE M3 m (y_L S) (y_rc S) (y_t S) (fun i => m_n (R i)) := by
    refine ⟨⟨s3, by rw [g3.fm (by decide)]; exact B18, W2, fun i hi => by rw [g3.i (by omega) (by decide)]; exact hT i hi, W3⟩, by rw [g3.fm (by decide)]; exact B1, W5, fun i hi => ?_⟩
    have h60 := (hM1 i hi).2.1
    refine ⟨?_, by show m_n (R i) < 2 ^ 20; omega⟩
    rw [g3.i (by omega) (by decide)]
    exact (hR i hi).2.2.1
  refine ur_read d hE3 (fun M5 g5 hq5 => ⟨rfl, ?_⟩)
  have s5 := g5.S s3
  have g5' : FrM M M5 m FQr AQr := (g3.wk (by decide) (by decide)).tr g5 (by decide) (by decide)
  refine ⟨s5.1, ?_⟩
  rintro M7 rfl
  have hq5' : RqT M5 m (quR S R) := hq5
  obtain ⟨q1, q2, ⟨c0, hc0, q3⟩, q4⟩ := hq5'
  have hf3 : (ftR (quR S R)).1 ≤ 3 := by
    cases quR S R with
    | inl p => show 1 ≤ 3; omega
    | inr as =>
      obtain ⟨a, s⟩ := as
      show (match q_o s with | some p => (2, some p) | none => (match crF (q_D s) (q_c s) 0 with | some p => (3, some p) | none => (0, none)) : Nat × Option Nat).1 ≤ 3
      split
      · show 2 ≤ 3; omega
      · split
        · show 3 ≤ 3; omega
        · show 0 ≤ 3; omega
  have ff := quD_f (res := quR S R) (k := none)
  rw [hcl]
  have iv : ∀ {o : Nat}, x_h M5 (m + o) = (1, 10) → (x_h M5 (m + o)).1 = 1 ∧ vp_in (nI (y_qc S)) (x_h M5 (m + o)).2 := fun h => by rw [h]; exact ⟨rfl, vp_in_nI (show y_qc S < 10 by omega) (by omega)⟩
  refine ⟨m + 6, s5.r6, (iv s5.h6).1, (iv s5.h6).2, ?_⟩
  rintro M11 rfl
  refine ⟨m + 7, s5.r7, (iv s5.h7).1, (iv s5.h7).2, ?_⟩
  rintro M15 rfl
  refine ⟨m + 8, s5.r8, (iv s5.h8).1, (iv s5.h8).2, ?_⟩
  rintro M19 rfl
  refine ⟨m + 10, s5.r10, (iv s5.h10).1, (iv s5.h10).2, ?_⟩
  rintro M23 rfl
  refine ⟨m + 11, s5.r11, (iv s5.h11).1, (iv s5.h11).2, ?_⟩
  rintro M27 rfl
  have v45 : x_i (x_si M5 m 18 0) m 45 = nI (ftR (quR S R)).1 := by rw [xi_nk (by omega)]; exact q1
  rw [v45]
  have v46 : x_i (x_si (x_si M5 m 18 0) (m + 6) (y_qc S) (nI (ftR (quR S R)).1)) m 46 = nbI (ftR (quR S R)).2 := by rw [xi_na (by omega), xi_nk (by omega)]; exact q2
  rw [v46]
  have v47 : x_i (x_si (x_si (x_si (x_si M5 m 18 0) (m + 6) (y_qc S) (nI (ftR (quR S R)).1)) (m + 7) (y_qc S) (nbI (ftR (quR S R)).2)) (m + 8) (y_qc S) (-1)) m 47 = nI c0 := by rw [xi_na (by omega), xi_na (by omega), xi_na (by omega), xi_nk (by omega)]; exact q3
  rw [v47]
  have g27 : FrM M5 (x_si (x_si (x_si (x_si (x_si (x_si M5 m 18 0) (m + 6) (y_qc S) (nI (ftR (quR S R)).1)) (m + 7) (y_qc S) (nbI (ftR (quR S R)).2)) (m + 8) (y_qc S) (-1)) (m + 10) (y_qc S) (nI c0)) (m + 11) (y_qc S) 0) m [18] [6, 7, 8, 10, 11] := (((((FrM.rf.sm (by decide)).si (by omega) (by decide)).si (by omega) (by decide)).si (by omega) (by decide)).si (by omega) (by decide)).si (by omega) (by decide)
  have k27 : QuK M5 (x_si (x_si (x_si (x_si (x_si (x_si M5 m 18 0) (m + 6) (y_qc S) (nI (ftR (quR S R)).1)) (m + 7) (y_qc S) (nbI (ftR (quR S R)).2)) (m + 8) (y_qc S) (-1)) (m + 10) (y_qc S) (nI c0)) (m + 11) (y_qc S) 0) m (y_qc S) :=
    (((((QuK.of (F := [18]) (A := []) (FrM.rf.sm (by decide)) (by decide)).tr (QuK.si (by omega) (by omega))).tr (QuK.si (by omega) (by omega))).tr (QuK.si (by omega) (by omega))).tr (QuK.si (by omega) (by omega))).tr (QuK.si (by omega) (by omega))
  have w6 : x_i (x_si (x_si (x_si (x_si (x_si (x_si M5 m 18 0) (m + 6) (y_qc S) (nI (ftR (quR S R)).1)) (m + 7) (y_qc S) (nbI (ftR (quR S R)).2)) (m + 8) (y_qc S) (-1)) (m + 10) (y_qc S) (nI c0)) (m + 11) (y_qc S) 0) (m + 6) (y_qc S) = nI (ftR (quR S R)).1 := by rw [xi_na (by omega), xi_na (by omega), xi_na (by omega), xi_na (by omega), xi_eq]
  have w7 : x_i (x_si (x_si (x_si (x_si (x_si (x_si M5 m 18 0) (m + 6) (y_qc S) (nI (ftR (quR S R)).1)) (m + 7) (y_qc S) (nbI (ftR (quR S R)).2)) (m + 8) (y_qc S) (-1)) (m + 10) (y_qc S) (nI c0)) (m + 11) (y_qc S) 0) (m + 7) (y_qc S) = nbI (ftR (quR S R)).2 := by rw [xi_na (by omega), xi_na (by omega), xi_na (by omega), xi_eq]
  have w8 : x_i (x_si (x_si (x_si (x_si (x_si (x_si M5 m 18 0) (m + 6) (y_qc S) (nI (ftR (quR S R)).1)) (m + 7) (y_qc S) (nbI (ftR (quR S R)).2)) (m + 8) (y_qc S) (-1)) (m + 10) (y_qc S) (nI c0)) (m + 11) (y_qc S) 0) (m + 8) (y_qc S) = -1 := by rw [xi_na (by omega), xi_na (by omega), xi_eq]
  have w10 : x_i (x_si (x_si (x_si (x_si (x_si (x_si M5 m 18 0) (m + 6) (y_qc S) (nI (ftR (quR S R)).1)) (m + 7) (y_qc S) (nbI (ftR (quR S R)).2)) (m + 8) (y_qc S) (-1)) (m + 10) (y_qc S) (nI c0)) (m + 11) (y_qc S) 0) (m + 10) (y_qc S) = nI c0 := by rw [xi_na (by omega), xi_eq]
  have w11 : x_i (x_si (x_si (x_si (x_si (x_si (x_si M5 m 18 0) (m + 6) (y_qc S) (nI (ftR (quR S R)).1)) (m + 7) (y_qc S) (nbI (ftR (quR S R)).2)) (m + 8) (y_qc S) (-1)) (m + 10) (y_qc S) (nI c0)) (m + 11) (y_qc S) 0) (m + 11) (y_qc S) = 0 := xi_eq
  have w18 : x_i (x_si (x_si (x_si (x_si (x_si (x_si M5 m 18 0) (m + 6) (y_qc S) (nI (ftR (quR S R)).1)) (m + 7) (y_qc S) (nbI (ftR (quR S R)).2)) (m + 8) (y_qc S) (-1)) (m + 10) (y_qc S) (nI c0)) (m + 11) (y_qc S) 0) m 18 = 0 := by rw [xi_na (by omega), xi_na (by omega), xi_na (by omega), xi_na (by omega), xi_na (by omega), xi_eq]
  generalize x_si (x_si (x_si (x_si (x_si (x_si M5 m 18 0) (m + 6) (y_qc S) (nI (ftR (quR S R)).1)) (m + 7) (y_qc S) (nbI (ftR (quR S R)).2)) (m + 8) (y_qc S) (-1)) (m + 10) (y_qc S) (nI c0)) (m + 11) (y_qc S) 0 = M27 at g27 k27 w6 w7 w8 w10 w11 w18 ⊢
  have g27' : FrM M M27 m FQr AQr := g5'.tr g27 (by decide) (by decide)
  have s27 := g27'.S hs
  have kA : QuK M M27 m (y_qc S) := ((QuK.of g3 (by decide)).tr (QuK.of g5 (by decide))).tr k27
  have e45 : x_i M27 m 45 = nI (ftR (quR S R)).1 := by rw [g27.fm (by decide)]; exact q1
  have e47 : x_i M27 m 47 = nI c0 := by rw [g27.fm (by decide)]; exact q3
  have e7 : x_i M27 m 7 = nI (y_qc S + 1) := by rw [g27.fm (by decide), g5.fm (by decide)]; exact i7
  have e0 : x_i M27 m 0 = nI (y_b S) := by rw [g27'.fm (by decide)]; exact B0
  -- the end
  have fin : ∀ M29 k Ms, FrM M27 M29 m FQr AQr → QuK M27 M29 m (y_qc S) → x_i M29 m 7 = x_i M27 m 7 → x_i M29 m 18 = x_i M27 m 18 → (∀ a s, quR S R = .inr (a, s) → (ftR (quR S R)).1 = 0 → DecO (y_b S) R (q_D s) (q_c s) k Ms) → ReK M29 m (y_b S) (y_qc S) (quD (quR S R) k) (lastM (quR S R) Ms) → ∀ d', Call G (d' + 1) 0 0 mX12_done [.ref m, .int (nI (y_qc S))] M29 (fun r36 M37 => ∃ v38 : Int32, r36 = some (.int v38) ∧ Q (some (.int v38)) M37) := by
    intro M29 k Ms g29 k29 e1 e2 hD hK d'
    refine u_done (M := M29) d' (g29.S s27) ?_
    have gE : FrM M29 (x_si M29 m 22 0) m [22] [] := FrM.rf.sm (by decide)
    refine ⟨_, rfl, hQ1 hq10 _ k Ms ((g27'.tr g29 (fun _ h => h) (fun _ h => h)).tr gE (by decide) (by decide)) ((kA.tr k29).tr (QuK.of gE (by decide))) ⟨by rw [xi_nk (by omega), e1]; exact e7, by rw [xi_nk (by omega), e2]; exact w18, xi_eq⟩ hD ?_⟩
    have ex : ∀ o, o ≠ 0 → x_i (x_si M29 m 22 0) (m + o) = x_i M29 (m + o) := fun o ho => gE.i ho (by simp)
    unfold ReK ReQ at hK ⊢
    rw [ex 6 (by omega), ex 7 (by omega), ex 8 (by omega), ex 9 (by omega), ex 10 (by omega), ex 11 (by omega), ex 12 (by omega), ex 13 (by omega), ex 14 (by omega)]
    exact hK
  refine ⟨fun hz => ?_, fun hz => ?_⟩
  rotate_left
  · rw [e45] at hz
    have hz' : (ftR (quR S R)).1 ≠ 0 := fun z => hz (by rw [z]; rfl)
    refine fin M27 none (fun _ => (0, fun _ _ => 0, fun _ => 0)) FrM.rf QuK.rf rfl rfl (fun a s _ z => absurd z hz') ⟨by rw [ff.1]; exact w6, by rw [ff.2]; exact w7, ?_, fun z => absurd (ff.1.symm.trans z) hz', fun z => absurd (ff.1.symm.trans z) hz'⟩ (d + 1469)
    have : qd_s (quD (quR S R) none) = none := by
      cases quR S R with
      | inl p => rfl
      | inr as =>
        show (if _ then _ else _) = none
        split <;> rfl
    rw [this]
    exact w8
  rw [e45] at hz
  have hz' : (ftR (quR S R)).1 = 0 := (nI_eq (a := (ftR (quR S R)).1) (b := 0) (by omega) (by omega)).mp hz
  obtain ⟨a, s, hr, k1, k2, k3, k4⟩ := rd_ok (R := R) (wd := fun i => m_n (R i)) (rc := y_rc S) (t := y_t S) (fun i => rfl) W2 hz'
  have hr' : quR S R = .inr (a, s) := hr
  obtain ⟨p1, p2⟩ := q4 a s hr' hz'
  have ec : c0 = q_c s := by
    rw [q3] at p1
    exact (nI_eq (by omega) (by omega)).mp p1
  rw [e47, ec]
  have ecm : (nI (q_c s) - 1 : Int32) = nI (q_c s - 1) := pk_sub (b := 1) (by omega)
  rw [ecm]
  refine ⟨m + 9, s27.r9, m + 35, s27.r35, by rw [s5.h35], by rw [s5.h35]; exact vp_in_nI (show q_c s - 1 < 130 by omega) (by omega), by rw [s5.h9], by rw [s5.h9]; exact vp_in_nI (show y_qc S < 10 by omega) (by omega), ?_⟩
  have hD27 : ∀ j, j < q_c s → ReD M27 m (q_D s) j := fun j hj => (p2 j hj).fr g27 (by decide)
  have e35 : x_i M27 (m + 35) (nI (q_c s - 1)).toNatClampNeg = nI (p_s (q_D s (q_c s - 1))) := by
    rw [nI_clamp (by omega)]
    exact (hD27 (q_c s - 1) (by omega)).2.2.1
  rintro M35 rfl
  rw [e35]
  have g35 : FrM M27 (x_si M27 (m + 9) (y_qc S) (nI (p_s (q_D s (q_c s - 1))))) m [] [9] := FrM.rf.si (by omega) (by decide)
  have k35 : QuK M27 (x_si M27 (m + 9) (y_qc S) (nI (p_s (q_D s (q_c s - 1))))) m (y_qc S) := QuK.si (by omega) (by omega)
  have w9 : x_i (x_si M27 (m + 9) (y_qc S) (nI (p_s (q_D s (q_c s - 1))))) (m + 9) (y_qc S) = nI (p_s (q_D s (q_c s - 1))) := xi_eq
  generalize x_si M27 (m + 9) (y_qc S) (nI (p_s (q_D s (q_c s - 1)))) = M35 at g35 k35 w9 ⊢
  have s35 := g35.S s27
  have h47 : x_i M35 m 47 = nI (q_c s) := by rw [g35.fm (by decide), e47, ec]
  have hD35 : ∀ j, j < q_c s → ReD M35 m (q_D s) j ∧ PWf R (y_rc S) (q_D s) j := fun j hj => ⟨(hD27 j hj).fr g35 (by decide), (k3 j hj).2⟩
  have i35 : ∀ o, o ≠ 0 → o ≠ 9 → x_i M35 (m + o) = x_i M27 (m + o) := fun o h0 h9 => g35.i h0 (by simp only [List.mem_cons, List.not_mem_nil, or_false]; exact h9)
  have eD : ∀ k, quD (quR S R) k = (0, (ftR (quR S R)).2, k.map (fun j => p_p (q_D s j)), p_s (q_D s (q_c s - 1)), q_c s, rowsOf (q_D s) (q_c s)) := fun k => by
    have z2 := hz'
    rw [hr'] at z2 ⊢
    show ((ftR (.inr (a, s))).1, _, (if (ftR (.inr (a, s))).1 = 0 then _ else _), _, _, _) = _
    rw [z2, if_pos rfl]
  have eM : ∀ Ms : Nat → Mc, lastM (quR S R) Ms = Ms (q_c s - 1) := fun Ms => by rw [hr']; rfl
  have hrow : ∀ M', FrM M27 M' m FQr AQr → ∀ i, i < y_rc S → RowG (y_b S) (R i) ∧ ReR M' m i (y_b S) (R i) := fun M' g i hi => by
    refine ⟨hM1 i hi, ?_⟩
    have := (hR i hi).2.2
    have gg := g27'.tr g (fun _ h => h) (fun _ h => h)
    unfold ReR at this ⊢
    rw [gg.i (by omega) (by decide), gg.i (by omega) (by decide), gg.i (by omega) (by decide)]
    exact this
  refine ur_qrows (R := R) (d + 1462) s35 hq10 W5 k2 h47 hD35 (by rw [i35 11 (by omega) (by omega)]; exact w11) (fun M2 g2 k2' e11 => ?_)
  have s2 := g2.S s35
  have g2' : FrM M27 M2 m FQr AQr := (g35.wk (by decide) (by decide)).tr g2 (by decide) (by decide)
  have i2 : ∀ o, o ≠ 0 → o ≠ 11 → x_i M2 (m + o) = x_i M35 (m + o) := fun o h0 h9 => g2.i h0 (by simp only [List.mem_cons, List.not_mem_nil, or_false]; exact h9)
  refine ur_qdec (d + 1462) s2 W1 (by rw [g2.fm (by decide), g35.fm (by decide)]; exact e0) hq10 W5 (hrow M2 g2') k2 k1 (by rw [g2.fm (by decide)]; exact h47) (fun j hj => ⟨(hD35 j hj).1.fr g2 (by decide), (hD35 j hj).2⟩) (fun j hj => by have := (k3 j hj).1; omega) (by rw [i2 8 (by omega) (by omega), i35 8 (by omega) (by omega)]; exact w8) (fun M' Ms k hk g' kq h8 hu hp => ?_) (fun M' Ms g' kq h8 hu hms hl => ?_)
  · have gg : FrM M27 M' m FQr AQr := g2'.tr g' (by decide) (by decide)
    have io : ∀ o, o ≠ 0 → o ∉ [8, 12, 20, 21, 22, 23, 24, 25, 26, 27, 28, 29, 48, 49, 50, 51, 52, 53, 54, 55, 56, 57] → x_i M' (m + o) = x_i M2 (m + o) := fun o h0 h1 => g'.i h0 h1
    refine fin M' (some k) Ms gg ((k35.tr k2').tr kq) (by rw [g'.fm (by decide), g2.fm (by decide), g35.fm (by decide)]) (by rw [g'.fm (by decide), g2.fm (by decide), g35.fm (by decide)]) (fun a' s' e1 _ => ?_) ?_ _
    · have ess : s' = s := by rw [hr'] at e1; cases e1; rfl
      rw [ess]
      exact ⟨hk, hu, hp⟩
    · rw [eD, eM]
      refine ⟨?_, ?_, h8, fun _ => ⟨?_, ?_, ?_⟩, fun _ z => (by cases z)⟩
      · rw [io 6 (by omega) (by decide), i2 6 (by omega) (by omega), i35 6 (by omega) (by omega), w6, hz']; rfl
      · rw [io 7 (by omega) (by decide), i2 7 (by omega) (by omega), i35 7 (by omega) (by omega)]; exact w7
      · rw [io 9 (by omega) (by decide), i2 9 (by omega) (by omega)]; exact w9
      · rw [io 10 (by omega) (by decide), i2 10 (by omega) (by omega), i35 10 (by omega) (by omega), w10, ec]; rfl
      · rw [io 11 (by omega) (by decide)]; exact e11
  · have gg : FrM M27 M' m FQr AQr := g2'.tr g' (by decide) (by decide)
    have io : ∀ o, o ≠ 0 → o ∉ [8, 12, 13, 14, 20, 21, 22, 23, 24, 25, 26, 27, 28, 29, 48, 49, 50, 51, 52, 53, 54, 55, 56, 57] → x_i M' (m + o) = x_i M2 (m + o) := fun o h0 h1 => g'.i h0 h1
    refine fin M' none Ms gg ((k35.tr k2').tr kq) (by rw [g'.fm (by decide), g2.fm (by decide), g35.fm (by decide)]) (by rw [g'.fm (by decide), g2.fm (by decide), g35.fm (by decide)]) (fun a' s' e1 _ => ?_) ?_ _
    · have ess : s' = s := by rw [hr'] at e1; cases e1; rfl
      rw [ess]
      exact hu
    · rw [eD, eM]
      refine ⟨?_, ?_, h8, fun _ => ⟨?_, ?_, ?_⟩, fun _ _ => hl⟩
      · rw [io 6 (by omega) (by decide), i2 6 (by omega) (by omega), i35 6 (by omega) (by omega), w6, hz']; rfl
      · rw [io 7 (by omega) (by decide), i2 7 (by omega) (by omega), i35 7 (by omega) (by omega)]; exact w7
      · rw [io 9 (by omega) (by decide), i2 9 (by omega) (by omega)]; exact w9
      · rw [io 10 (by omega) (by decide), i2 10 (by omega) (by omega), i35 10 (by omega) (by omega), w10, ec]; rfl
      · rw [io 11 (by omega) (by decide)]; exact e11
end RQuestC
