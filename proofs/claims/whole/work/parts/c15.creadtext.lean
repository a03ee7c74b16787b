/-! ===== the class: readText ===== -/
section ReadTextC
variable {G : GG} {M : Mem} {r k pa p0 ra r0 L rc tx q : Nat} {t : Nat → Nat} {wd : Nat → Nat} {R : Nat → Mc} {Q : Option Value → Mem → Prop}
def st0 (l : List Tk) : PSt := (l, 0, fun _ => (0, 0, 0, 0, 0, 0, s0D, s0D), none, 0, 0)
theorem Fr.srr {M M' : Mem} {A : List Nat} {a j : Nat} {v : Option Nat} (h : Fr M M' A) : Fr (x_sr M a j v) (x_sr M' a j v) A := by
  obtain ⟨f, g, rfl, hf⟩ := h
  exact ⟨f, g, rfl, hf⟩
theorem xr_o {M : Mem} {a j b i : Nat} {v : Option Nat} (h : b ≠ a ∨ i ≠ j) : x_r (x_sr M a j v) b i = x_r M b i := if_neg (fun e => by omega)
theorem xr_e {M : Mem} {a j : Nat} {v : Option Nat} : x_r (x_sr M a j v) a j = v := if_pos ⟨rfl, rfl⟩
/-- the court with its text and its rows in the reader's hand -/
def rdM (M : Mem) (r k tx ra : Nat) : Mem := x_sr (x_sr M k 3 (some tx)) r 2 (some ra)
theorem TokS.sr {a j : Nat} {v : Option Nat} (h : TokS M k) (hj : a ≠ k ∨ 3 ≤ j) : TokS (x_sr M a j v) k := by
  obtain ⟨a1, a2, a3, a4, a5⟩ := h
  exact ⟨a1, by rw [xr_o (by omega)]; exact a2, by rw [xr_o (by omega)]; exact a3, by rw [xr_o (by omega)]; exact a4, a5⟩
theorem PartsS.sr {a j : Nat} {v : Option Nat} (h : PartsS M pa p0) (h1 : a ≠ pa) (h2 : a < p0 ∨ p0 + 480 ≤ a) : PartsS (x_sr M a j v) pa p0 := by
  refine ⟨h.1, fun i hi => ?_⟩
  obtain ⟨e1, e2⟩ := h.2 i hi
  refine ⟨by rw [xr_o (Or.inl (Ne.symm h1))]; exact e1, ?_⟩
  have e : ∀ x, p0 ≤ x → x < p0 + 480 → x_r (x_sr M a j v) x = x_r M x := fun x g1 g2 => by funext y; exact xr_o (by omega)
  have eh : x_h (x_sr M a j v) = x_h M := rfl
  unfold PaS SiS LeS at e2 ⊢
  rw [eh, e (p0 + 8 * i) (by omega) (by omega), e (p0 + 8 * i + 1) (by omega) (by omega), e (p0 + 8 * i + 3) (by omega) (by omega), e (p0 + 8 * i + 5) (by omega) (by omega)]
  exact e2
theorem RowsS.sr {a j : Nat} {v : Option Nat} (h : RowsS M ra r0) (h1 : a ≠ ra) (h2 : a < r0) : RowsS (x_sr M a j v) ra r0 := by
  refine ⟨h.1, fun i hi => ?_⟩
  obtain ⟨e1, e2⟩ := h.2 i hi
  refine ⟨by rw [xr_o (Or.inl (Ne.symm h1))]; exact e1, ?_⟩
  have e : ∀ x, r0 ≤ x → x_r (x_sr M a j v) x = x_r M x := fun x g1 => by funext y; exact xr_o (by omega)
  have eh : x_h (x_sr M a j v) = x_h M := rfl
  unfold RowS LeS at e2 ⊢
  rw [eh, e (r0 + 8 * i) (by omega), e (r0 + 8 * i + 1) (by omega)]
  exact e2
/-- before a text is read -/
def RdZ (M : Mem) (r k pa p0 ra r0 : Nat) : Prop := (x_h M r).1 = 21 ∧ x_r M r 0 = some k ∧ x_r M r 1 = some pa ∧ TokS M k ∧ PartsS M pa p0 ∧ RowsS M ra r0 ∧ r < k ∧ k + 3 < p0 ∧ p0 + 480 ≤ r0 ∧ (pa < r ∨ k + 3 < pa) ∧ (ra < r ∨ k + 3 < ra) ∧ (pa < p0 ∨ p0 + 480 ≤ pa)
def RPQ (r k p0 q x : Nat) : Prop := RPF r p0 x ∨ (k ≤ x ∧ x ≤ k + 3) ∨ x = q
theorem w_readText (d : Nat) (hS : SOK G) (hZ : RdZ M r k pa p0 ra r0) (htx : tx < r) (hh : x_h M tx = (1, 120)) (hL : L ≤ 120) (ht : ∀ i, i < L → x_i M tx i = nI (t i)) (htb : ∀ i, i < L → t i < 256) (hrc : rc ≤ 10) (hwd : ∀ i, wd i = m_n (R i)) (hrow : ∀ i, i < rc → x_i M (r0 + 8 * i + 1) 2 = nI (wd i) ∧ wd i < 2 ^ 20) (hq : (x_h M q).1 = 20) (hqr : q ≠ r) (hqk : q < k ∨ k + 3 < q) (hqp : q < p0 ∨ p0 + 480 ≤ q) (hq0 : ∀ i, i < rc → q ≠ r0 + 8 * i + 1)
    (hQ : ∀ M', FrP (rdM M r k tx ra) M' (RPQ r k p0 q) → QuT M' q p0 (rdP L rc wd (tl t L 0)) → Q none M') :
    Call G (d + 1441) 0 0 mX5_readText [.ref r, .ref tx, .int (nI L), .ref ra, .int (nI rc), .ref q] M Q := by
  obtain ⟨z1, z2, z3, z4, z5, z6, z7, z8, z9, z10, z11, z12⟩ := hZ
  refine eX5_readText r tx _ ra _ q ⟨z1, k, z2, z4.1, ?_⟩
  refine w_cut (t := t) (d + 1431) hS z4 (by simp only [List.mem_cons, List.not_mem_nil, or_false]; omega) hh hL ht htb (fun M5 g5 hT5 => ⟨rfl, by rw [g5.h]; exact z1, ?_⟩)
  rintro M7 rfl
  have g7 : Fr (rdM M r k tx ra) (x_sr M5 r 2 (some ra)) [k, k + 1, k + 2, k + 3] := g5.srr
  have h7 : x_h (x_sr M5 r 2 (some ra)) = x_h M := g7.h
  have r7 : x_r (x_sr M5 r 2 (some ra)) = x_r (rdM M r k tx ra) := g7.r
  have i7 : ∀ x, x ∉ [k, k + 1, k + 2, k + 3] → x_i (x_sr M5 r 2 (some ra)) x = x_i M x := fun x hx => g7.i hx
  have hS7 : RdS (rdM M r k tx ra) r k pa p0 ra r0 := by
    refine ⟨z1, ?_, ?_, xr_e, (z4.sr (Or.inr (by omega))).sr (Or.inl (by omega)), ?_, ?_, z7, z8, z9⟩
    · unfold rdM; rw [xr_o (Or.inr (by omega)), xr_o (Or.inl (by omega))]; exact z2
    · unfold rdM; rw [xr_o (Or.inr (by omega)), xr_o (Or.inl (by omega))]; exact z3
    · exact (z5.sr (by omega) (by omega)).sr (by omega) (by omega)
    · exact (z6.sr (by omega) (by omega)).sr (by omega) (by omega)
  obtain ⟨gd1, gd2⟩ := gd_tl (t := t) (L := L) L 0 (by omega) (Nat.zero_le _)
  refine ⟨by rw [g5.h]; show 1 ≤ (x_h M ra).1 ∧ (x_h M ra).1 < 8; rw [z6.1]; exact ⟨by decide, by decide⟩, ?_⟩
  have e10 : (x_h M5 ra).2 = 10 := by rw [g5.h]; show (x_h M ra).2 = 10; rw [z6.1]
  rw [e10]
  refine w_min (d + 1439) (i := rc) (n := 10) (by omega) (by omega) ⟨_, rfl, by rw [h7]; exact z1, ?_⟩
  rw [Nat.min_eq_left (by omega)]
  rintro M13 rfl M14 rfl M15 rfl M16 rfl M17 rfl M18 rfl M19 rfl
  generalize hM19 : x_si (x_si (x_si (x_si (x_si (x_si (x_si (x_sr M5 r 2 (some ra)) r 3 (nI rc)) r 4 0) r 5 0) r 6 (-1)) r 7 (-1)) r 8 0) r 9 0 = M19
  have g19 : Fr (x_sr M5 r 2 (some ra)) M19 [r] := by rw [← hM19]; exact ((((((Fr.rf.si (by simp)).si (by simp)).si (by simp)).si (by simp)).si (by simp)).si (by simp)).si (by simp)
  have g019 : FrP (rdM M r k tx ra) M19 (RPQ r k p0 q) := (g7.P (fun x hx => Or.inr (Or.inl (by simp only [List.mem_cons, List.not_mem_nil, or_false] at hx; omega)))).tr (g19.P (P := RPQ r k p0 q) (fun x hx => Or.inl (Or.inl (List.mem_singleton.mp hx)))) (fun _ h => h)
  have hE19 : RdE M19 r k pa p0 ra r0 L rc wd (tl t L 0) := by
    refine ⟨hS7.eq g019.h g019.r, ?_, hrc, fun i hi => ?_, gd1, hL⟩
    · unfold TkA TkC at hT5 ⊢
      rw [g19.i (show k ∉ [r] by rw [List.mem_singleton]; omega), g19.i (show k + 1 ∉ [r] by rw [List.mem_singleton]; omega), g19.i (show k + 2 ∉ [r] by rw [List.mem_singleton]; omega), g19.i (show k + 3 ∉ [r] by rw [List.mem_singleton]; omega)]
      exact hT5
    · rw [g19.i (by rw [List.mem_singleton]; omega), i7 _ (by simp only [List.mem_cons, List.not_mem_nil, or_false]; omega)]
      exact hrow i hi
  have hI19 : RdI M19 r p0 rc (tl t L 0) (tl t L 0, 0, fun _ => (0, 0, 0, 0, 0, 0, s0D, s0D), none, 0, 0) := by
    refine ⟨⟨?_, ?_, ⟨0, rfl, Nat.zero_le _, ?_⟩, ?_, ?_, ?_, ?_⟩, ⟨Nat.zero_le _, fun j hj => absurd hj (Nat.not_lt_zero j), (by show 0 < 256; omega), (by show 0 < 1024; omega), fun p hp => (by cases hp)⟩, fun j hj => absurd hj (Nat.not_lt_zero j)⟩
    · rw [← hM19, xi_nk (by omega), xi_nk (by omega), xi_nk (by omega), xi_nk (by omega), xi_nk (by omega), xi_nk (by omega), xi_eq]
    · rw [← hM19, xi_nk (by omega), xi_nk (by omega), xi_nk (by omega), xi_nk (by omega), xi_nk (by omega), xi_eq]; rfl
    · rw [← hM19, xi_nk (by omega), xi_nk (by omega), xi_nk (by omega), xi_nk (by omega), xi_eq]; rfl
    · rw [← hM19, xi_nk (by omega), xi_nk (by omega), xi_nk (by omega), xi_eq]
    · rw [← hM19, xi_nk (by omega), xi_nk (by omega), xi_eq]; rfl
    · rw [← hM19, xi_nk (by omega), xi_eq]; rfl
    · rw [← hM19, xi_eq]; rfl
  have hplL : ∀ l, GdT L l → plT L l ≤ 120 := fun l hl => by have := gd_le l hl; omega
  have tell : ∀ M' res, rdP L rc wd (tl t L 0) = res → FrP M19 M' (RPF r p0) → RdO M' r p0 rc L (tl t L 0) res → (∀ p, res = .inl p → p ≤ 120) → (∀ a s, res = .inr (a, s) → 0 < q_c s ∧ ∀ j, j < q_c s → p_p (q_D s j) ≤ L) → (x_h M' r).1 = 21 ∧ Call G (d + 1440) 0 0 mX5_tell [.ref r, .ref q] M' (fun r25 M26 => r25 = none ∧ Q none M26) := by
    intro M' res er g hO h1 h2
    have hE' := hE19.fr g
    refine ⟨hE'.1.1, w_tell (d + 1437) hE' (by rw [g.h, g019.h]; exact hq) hqr hqk hqp hq0 hO h1 h2 (fun M26 g26 hT => ⟨rfl, hQ M26 ?_ (by rw [er]; exact hT)⟩)⟩
    exact (g019.tr g (fun x hx => Or.inl hx)).tr (g26.P (P := RPQ r k p0 q) (fun x hx => Or.inr (Or.inr (List.mem_singleton.mp hx)))) (fun _ h => h)
  have hg10 := pcP_pg (L := L) (rc := rc) (wd := wd) 10
  refine w_formula0 d hE19 hI19 gd1 rfl (fun M21 g21 h21 => ⟨_, rfl, ?_⟩)
  have hE21 := hE19.fr g21
  have eR : rdP L rc wd (tl t L 0) = (match soG L (pcP L rc wd 10) 122 (tl t L 0, 0, fun _ => (0, 0, 0, 0, 0, 0, s0D, s0D), none, 0, 0) with | .inl p => .inl p | .inr (a, s) => if kdT (q_l s) = 0 then .inr (a, s) else .inl (plT L (q_l s))) := rfl
  cases hgs : soG L (pcP L rc wd 10) 122 (tl t L 0, 0, fun _ => (0, 0, 0, 0, 0, 0, s0D, s0D), none, 0, 0) with
  | inl p =>
    rw [hgs] at h21 eR
    refine ⟨fun _ => tell M21 (.inl p) eR g21 h21 (fun p' e => ?_) (fun a s e => (by cases e)), fun x => absurd (show (-1 : Int32) < 0 by decide) x⟩
    cases e
    obtain ⟨-, -, i, -, -, i3⟩ := h21
    rw [← i3]
    have key : ∀ (i : Nat) (l : List Tk), GdT L l → GdT L (l.drop i) := by
      intro i
      induction i with
      | zero => intro l hl; exact hl
      | succ i ih =>
        intro l hl
        cases l with
        | nil => exact trivial
        | cons x l => exact ih l hl.2.2
    exact hplL _ (key i _ gd1)
  | inr as =>
    obtain ⟨a, s⟩ := as
    rw [hgs] at h21 eR
    simp only at eR
    obtain ⟨⟨⟨w1, w2, w3, w4, w5, w6⟩, v1, v2, v3, v4⟩, -⟩ := soG_pg hg10 122 (st0 (tl t L 0)) a s gd1 hgs
    have hw := soG_wf (R := R) hg10 (pcP_wf hwd 10) 122 (st0 (tl t L 0)) a s gd1 hL ⟨fun j hj => absurd hj (Nat.not_lt_zero j), fun _ => ⟨fun j hj => absurd hj (Nat.not_lt_zero j), rfl⟩⟩ hgs
    have hI21 : RdI M21 r p0 rc (tl t L 0) s := h21
    have hc60 := hI21.2.1.1
    refine ⟨fun x => absurd x (RdI.roV0 (a := a) (by omega)).1, fun _ => ⟨hE21.1.1, w_peek (d + 1439) hE21 hI21.1.2.2.1 ⟨_, rfl, ?_⟩⟩⟩
    have hkd := kd_le w1
    rw [show (0 : Int32) = nI 0 from rfl, nI_eq (by omega) (by omega)]
    refine ⟨fun c => ?_, fun c => ⟨hE21.1.1, w_fail (d + 1438) hE21 hI21 (fun M37 g37 f37 => ⟨_, rfl, ?_⟩)⟩⟩
    · rw [if_pos c] at eR
      exact tell M21 _ eR g21 hI21 (fun p e => (by cases e)) (fun a' s' e => by cases e; exact ⟨by omega, fun j hj => (hw.1 j hj).1⟩)
    · rw [if_neg c] at eR
      exact tell M37 _ eR (g21.tr (g37.R1 (p0 := p0)) (fun _ h => h)) f37 (fun p e => by cases e; exact hplL _ w1) (fun a' s' e => (by cases e))
/-- a text without a fault: its parts are well made -/
theorem rd_ok (hwd : ∀ i, wd i = m_n (R i)) (hL : L ≤ 120) (h0 : (ftR (rdP L rc wd (tl t L 0))).1 = 0) : ∃ a s, rdP L rc wd (tl t L 0) = .inr (a, s) ∧ 0 < q_c s ∧ q_c s ≤ 60 ∧ (∀ j, j < q_c s → p_p (q_D s j) ≤ L ∧ PWf R rc (q_D s) j) ∧ q_m s = rowsOf (q_D s) (q_c s) := by
  have hg10 := pcP_pg (L := L) (rc := rc) (wd := wd) 10
  obtain ⟨gd1, gd2⟩ := gd_tl (t := t) (L := L) L 0 (by omega) (Nat.zero_le _)
  have eR : rdP L rc wd (tl t L 0) = (match soG L (pcP L rc wd 10) 122 (tl t L 0, 0, fun _ => (0, 0, 0, 0, 0, 0, s0D, s0D), none, 0, 0) with | .inl p => .inl p | .inr (a, s) => if kdT (q_l s) = 0 then .inr (a, s) else .inl (plT L (q_l s))) := rfl
  cases hgs : soG L (pcP L rc wd 10) 122 (tl t L 0, 0, fun _ => (0, 0, 0, 0, 0, 0, s0D, s0D), none, 0, 0) with
  | inl p =>
    rw [hgs] at eR
    rw [eR] at h0
    exact absurd h0 (by show ¬ 1 = 0; omega)
  | inr as =>
    obtain ⟨a, s⟩ := as
    rw [hgs] at eR
    simp only at eR
    obtain ⟨⟨⟨w1, w2, w3, w4, w5, w6⟩, v1, v2, v3, v4⟩, -⟩ := soG_pg hg10 122 (st0 (tl t L 0)) a s gd1 hgs
    have hw := soG_wf (R := R) hg10 (pcP_wf hwd 10) 122 (st0 (tl t L 0)) a s gd1 hL ⟨fun j hj => absurd hj (Nat.not_lt_zero j), fun _ => ⟨fun j hj => absurd hj (Nat.not_lt_zero j), rfl⟩⟩ hgs
    have hle := gd_le _ w1
    by_cases c : kdT (q_l s) = 0
    · rw [if_pos c] at eR
      rw [eR] at h0
      have h0' : (match q_o s with | some p => (2, some p) | none => (match crF (q_D s) (q_c s) 0 with | some p => (3, some p) | none => (0, none)) : Nat × Option Nat).1 = 0 := h0
      cases ho : q_o s with
      | some p => rw [ho] at h0'; exact absurd h0' (by show ¬ 2 = 0; omega)
      | none =>
        rw [ho] at h0'
        cases hc : crF (q_D s) (q_c s) 0 with
        | some p => simp only [hc] at h0'; exact absurd h0' (by omega)
        | none =>
          have hno := crF_no _ _ hc
          have w4' : 2 * q_c s + plT L (tl t L 0) ≤ 2 * 0 + plT L (q_l s) := w4
          exact ⟨a, s, eR, by omega, by omega, fun j hj => ⟨(hw.1 j hj).1, (hw.2 ho).1 j hj (hno j (Nat.zero_le _) (by omega))⟩, (hw.2 ho).2⟩
    · rw [if_neg c] at eR
      rw [eR] at h0
      exact absurd h0 (by show ¬ 1 = 0; omega)
end ReadTextC
