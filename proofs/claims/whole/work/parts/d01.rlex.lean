/-! ===== the reference: its tokens ===== -/
section RLexC
variable {G : GG} {M : Mem} {m L : Nat} {t : Nat → Nat} {Q : Option Value → Mem → Prop}
/-- the text stands on the tape -/
def RxS (M : Mem) (m L : Nat) (t : Nat → Nat) : Prop := ReS M m ∧ x_i M m 18 = nI L ∧ L ≤ 120 ∧ (∀ i, i < L → x_i M (m + 15) i = nI (t i)) ∧ ∀ i, i < L → t i < 256
theorem RxS.fr {M' : Mem} {F A : List Nat} (h : RxS M m L t) (g : FrM M M' m F A) (h1 : 18 ∉ F) (h2 : 15 ∉ A) : RxS M' m L t := by
  obtain ⟨a1, a2, a3, a4, a5⟩ := h
  exact ⟨g.S a1, by rw [g.fm h1]; exact a2, a3, fun i hi => by rw [g.i (by omega) h2]; exact a4 i hi, a5⟩
/-- the reference's own number of a token, and what it tells of it -/
def rtK (k : Nat) : Nat := if k = 0 then 0 else if k ≤ 10 then k - 1 else if k = 18 then 11 else 10
def chK (k : Nat) : Nat := if k = 11 then 40 else if k = 12 then 41 else if k = 13 then 91 else if k = 14 then 93 else if k = 15 then 43 else if k = 16 then 61 else 60
def RtkI (M : Mem) (m L : Nat) (l : List Tk) : Prop := x_i M m 41 = nI (plT L l) ∧ x_i M m 39 = nI (rtK (kdT l)) ∧ (kdT l = 2 ∨ kdT l = 3 ∨ kdT l = 4 → x_i M m 40 = nI (woT l)) ∧ (11 ≤ kdT l ∧ kdT l ≤ 17 → x_i M m 40 = nI (chK (kdT l)))
def RfF (M : Mem) (m p : Nat) : Prop := x_i M m 42 = 1 ∧ x_i M m 45 = 1 ∧ x_i M m 46 = nI p ∧ x_i M m 39 = 0
theorem isDi_lt0 {i : Nat} (h : isDi (byA t L i)) : i < L := byA_lt (j := 57) (by decide) h.2
theorem isLe_lt0 {i : Nat} (h : isLe (byA t L i)) : i < L := byA_lt (j := 122) (by decide) h.2
theorem ur_byteAt (d : Nat) (h : RxS M m L t) {i : Nat} (hi : i < 2 ^ 20) (hQ : Q (some (.int (bI (byA t L i)))) M) : Call G (d + 1) 0 0 mX12_byteAt [.ref m, .int (nI i)] M Q := by
  obtain ⟨a1, a4, a5, a6, a7⟩ := h
  refine eX12_byteAt m _ ⟨a1.1, ?_⟩
  rw [a4, nI_leI (by omega) (by omega)]
  refine ⟨fun c => ?_, fun c => ⟨m + 15, a1.r15, by rw [a1.h15], by rw [a1.h15]; exact vp_in_nI (show i < 120 by omega) (by omega), ?_⟩⟩
  · rw [byA_out c] at hQ
    exact hQ
  · rw [nI_clamp (by omega), a6 i (by omega)]
    rw [byA_in (by omega), bI_n (a7 i (by omega))] at hQ
    exact hQ
theorem ur_isDigit (d : Nat) {x : Nat} (hx : x ≤ 256) (hQ1 : isDi x → Q (some (.int 1)) M) (hQ0 : ¬ isDi x → Q (some (.int 0)) M) : Call G (d + 2) 0 0 mX12_isDigit [.int (bI x)] M Q := by
  refine eX12_isDigit _ (eX12_in _ _ _ ?_)
  rw [show (48 : Int32) = nI 48 from rfl, bI_lt hx (by omega), show (57 : Int32) = nI 57 from rfl, bI_gt hx (by omega)]
  exact ⟨fun c => ⟨0, rfl, Or.inl rfl, hQ0 (by unfold isDi; omega)⟩, fun c => ⟨fun c2 => ⟨0, rfl, Or.inl rfl, hQ0 (by unfold isDi; omega)⟩, fun c2 => ⟨1, rfl, Or.inr rfl, hQ1 (by unfold isDi; omega)⟩⟩⟩
theorem ur_isLetter (d : Nat) {x : Nat} (hx : x ≤ 256) (hQ1 : isLe x → Q (some (.int 1)) M) (hQ0 : ¬ isLe x → Q (some (.int 0)) M) : Call G (d + 2) 0 0 mX12_isLetter [.int (bI x)] M Q := by
  refine eX12_isLetter _ (eX12_in _ _ _ ?_)
  rw [show (97 : Int32) = nI 97 from rfl, bI_lt hx (by omega), show (122 : Int32) = nI 122 from rfl, bI_gt hx (by omega)]
  exact ⟨fun c => ⟨0, rfl, Or.inl rfl, hQ0 (by unfold isLe; omega)⟩, fun c => ⟨fun c2 => ⟨0, rfl, Or.inl rfl, hQ0 (by unfold isLe; omega)⟩, fun c2 => ⟨1, rfl, Or.inr rfl, hQ1 (by unfold isLe; omega)⟩⟩⟩
/-- the first fault of kind 1; later ones leave it -/
theorem ur_cannot (d : Nat) (hs : (x_h M m).1 = 28) {p : Nat} (h : (x_i M m 42 = 0 ∧ x_i M m 41 = nI p) ∨ RfF M m p) (hQ : ∀ M', FrM M M' m [39, 42, 45, 46] [] → RfF M' m p → Q none M') : Call G (d + 1) 0 0 mX12_cannot [.ref m] M Q := by
  refine eX12_cannot m ⟨hs, fun c => ?_, fun c => ?_⟩
  · rintro M3 rfl
    rcases h with h | ⟨h1, h2, h3, h4⟩
    · exact absurd h.1 c
    · refine hQ _ (FrM.rf.sm (by decide)) ⟨?_, ?_, ?_, xi_eq⟩
      · rw [xi_nk (by omega)]; exact h1
      · rw [xi_nk (by omega)]; exact h2
      · rw [xi_nk (by omega)]; exact h3
  · rintro M4 rfl M5 rfl M6 rfl M7 rfl
    rcases h with h | h
    · refine hQ _ ((((FrM.rf.sm (by decide)).sm (by decide)).sm (by decide)).sm (by decide)) ⟨?_, ?_, ?_, xi_eq⟩
      · rw [xi_nk (by omega), xi_nk (by omega), xi_nk (by omega), xi_eq]
      · rw [xi_nk (by omega), xi_nk (by omega), xi_eq]
      · rw [xi_nk (by omega), xi_eq, xi_nk (by omega), xi_nk (by omega)]; exact h.2
    · rw [h.1] at c
      exact absurd c (by decide)
/-- what next() leaves: the token that begins behind p, or a fault there -/
def RnO (M M' : Mem) (m L : Nat) (t : Nat → Nat) (l : List Tk) : Prop := (kdT l ≠ 1 → FrM M M' m [38, 39, 40, 41] [] ∧ RtkI M' m L l ∧ ∃ p, p ≤ L ∧ x_i M' m 38 = nI p ∧ tl t L p = l.tail) ∧ (kdT l = 1 → RfF M' m (plT L l))
theorem ur_digits (d : Nat) (hx : RxS M m L t) {s : Nat} (hs : s < L) (h38 : x_i M m 38 = nI s) (h41 : x_i M m 41 = nI s) (h42 : x_i M m 42 = 0) (h32 : t s ≠ 32) (hle : ¬ isLe (t s)) (hdi : isDi (t s))
    (hQ : ∀ M', FrM M M' m [38, 39, 40, 42, 45, 46] [] → (kdT (tl t L s) ≠ 1 → FrM M M' m [38, 39, 40] []) → RnO M M' m L t (tl t L s) → Q none M') : Call G (d + 3) 0 0 mX12_digits [.ref m] M Q := by
  have hL := hx.2.2.1
  have hb := hx.2.2.2.2
  have e := tl_tk (t := t) hs h32
  have eN : tkN t L s = enD t L s := by unfold tkN; rw [if_neg hle, if_pos hdi]
  have eN2 : enD t L s ≤ L := enE_le (by decide) (Nat.le_of_lt hs)
  have eN3 : s < enD t L s := enE_gt (by decide) (by rw [byA_in hs]; exact hdi)
  have key : ∀ r i w M', i + r = L → s ≤ i → enD t L i = enD t L s → w < 20000 → (i = s → w = 0) → (i = s + 1 → w = t s - 48) → (i = s + 2 → w = (t s - 48) * 10 + (t (s + 1) - 48)) → FrM M M' m [38, 40] [] → x_i M' m 38 = nI i → x_i M' m 40 = nI w → LX12_digits_5 G (d + 2) 0 0 m M' Q := by
    have fin : ∀ i w M', enD t L s = i → (i = s + 1 → w = t s - 48) → (i = s + 2 → w = (t s - 48) * 10 + (t (s + 1) - 48)) → FrM M M' m [38, 40] [] → x_i M' m 38 = nI i → x_i M' m 40 = nI w → ∀ M10, M10 = x_si M' m 39 1 → ((x_i M10 m 38 - x_i M10 m 41) ≤ 2 → Q none M10) ∧ (¬ (x_i M10 m 38 - x_i M10 m 41) ≤ 2 → Call G (d + 2) 0 0 mX12_cannot [.ref m] M10 (fun r12 M13 => r12 = none ∧ Q none M13)) := by
      rintro i w M' ei w1 w2 g e38 e40 M10 rfl
      have g10 : FrM M (x_si M' m 39 1) m [38, 39, 40] [] := (g.wk (by decide) (by decide)).sm (by decide)
      have e41 : x_i (x_si M' m 39 1) m 41 = nI s := by rw [g10.fm (by decide)]; exact h41
      have e38' : x_i (x_si M' m 39 1) m 38 = nI i := by rw [xi_nk (by omega)]; exact e38
      rw [e38', e41, pk_sub (by omega), show (2 : Int32) = nI 2 from rfl, nI_leI (by omega) (by omega)]
      refine ⟨fun c => ?_, fun c => ?_⟩
      · have hk : tkK t L s = 2 := by unfold tkK; rw [if_neg hle, if_pos hdi, if_pos (by omega)]
        have hw : tkW t L s = w := by
          unfold tkW
          rw [if_neg hle, if_pos hdi]
          by_cases c2 : enD t L s = s + 1
          · rw [if_pos c2]; exact (w1 (by omega)).symm
          · rw [if_neg c2]; exact (w2 (by omega)).symm
        refine hQ _ (g10.wk (by decide) (by decide)) (fun _ => g10) ⟨fun _ => ⟨g10.wk (by decide) (by decide), ⟨?_, ?_, fun _ => ?_, fun q => ?_⟩, i, by omega, e38', ?_⟩, fun q => ?_⟩
        · rw [e]; exact e41
        · rw [e, xi_eq]; show _ = nI (rtK (tkK t L s)); rw [hk]; rfl
        · rw [e, xi_nk (by omega), e40]; show _ = nI (tkW t L s); rw [hw]
        · rw [e] at q; have q' : 11 ≤ tkK t L s := q.1; omega
        · rw [e]; show tl t L i = tl t L (tkN t L s); rw [eN, ei]
        · rw [e] at q; have q' : tkK t L s = 1 := q; omega
      · have hk : tkK t L s = 1 := by unfold tkK; rw [if_neg hle, if_pos hdi, if_neg (by omega)]
        have hkk : kdT (tl t L s) = 1 := by rw [e]; exact hk
        refine ur_cannot (p := s) (d + 1) (by show (x_h M' m).1 = 28; rw [g.h]; exact hx.1.1) (Or.inl ⟨by rw [g10.fm (by decide)]; exact h42, e41⟩) (fun M13 g13 f13 => ⟨rfl, hQ M13 ?_ (fun q => absurd hkk q) ⟨fun q => absurd hkk q, fun _ => ?_⟩⟩)
        · exact (g10.wk (by decide) (by decide)).tr g13 (by decide) (by decide)
        · rw [e]; exact f13
    intro r
    induction r with
    | zero =>
      intro i w M' hi hsi he hw w0 w1 w2 g e38 e40
      have hx' := hx.fr g (by decide) (by decide)
      have ei : enD t L s = i := by rw [← he]; exact enE_z (by rw [byA_out (by omega)]; omega)
      refine vX12_digits_5 _ ⟨hx'.1.1, ?_⟩
      rw [e38]
      refine ur_byteAt (d + 1) hx' (by omega) ⟨_, rfl, ur_isDigit d (byA_256 hb).1 (fun c => absurd (isDi_lt0 c) (by omega)) (fun c => ⟨0, rfl, fun _ => ⟨hx'.1.1, fin i w M' ei w1 w2 g e38 e40⟩, fun q => absurd rfl q⟩)⟩
    | succ r ih =>
      intro i w M' hi hsi he hw w0 w1 w2 g e38 e40
      have hx' := hx.fr g (by decide) (by decide)
      have hti : byA t L i = t i := byA_in (by omega)
      have hti2 := hb i (by omega)
      refine vX12_digits_5 _ ⟨hx'.1.1, ?_⟩
      rw [e38]
      refine ur_byteAt (d + 1) hx' (by omega) ⟨_, rfl, ur_isDigit d (byA_256 hb).1 (fun c => ⟨1, rfl, fun q => absurd q (by decide), fun _ => ⟨hx'.1.1, ?_⟩⟩) (fun c => ⟨0, rfl, fun _ => ⟨hx'.1.1, fin i w M' (by rw [← he]; exact enE_z c) w1 w2 g e38 e40⟩, fun q => absurd rfl q⟩)⟩
      have he' : enD t L (i + 1) = enD t L s := by rw [← he]; exact (enE_s (by decide) c).symm
      rw [e40, show (1000 : Int32) = nI 1000 from rfl, nI_leI (by omega) (by omega)]
      refine ⟨fun c2 => ?_, fun c2 => ?_⟩
      · rintro M16 rfl M17 rfl
        rw [xi_nk (by omega), e38, nI_1]
        refine ih (i + 1) w _ (by omega) (by omega) he' hw (fun q => by omega) (fun q => ?_) (fun q => ?_) ((g.sm (by decide)).sm (by decide)) xi_eq (by rw [xi_nk (by omega), xi_eq])
        · have := w0 (by omega); omega
        · have := w1 (by omega)
          have := hdi
          omega
      · rw [e38]
        refine ur_byteAt (d + 1) hx' (by omega) ⟨_, rfl, hx'.1.1, ?_⟩
        rintro M22 rfl M23 rfl
        rw [hti] at c
        rw [hti, bI_n hti2, xi_nk (by omega), e38, nI_1, show (10 : Int32) = nI 10 from rfl, show (48 : Int32) = nI 48 from rfl, s_mul, s_add, pk_sub (by omega)]
        refine ih (i + 1) (10 * w + t i - 48) _ (by omega) (by omega) he' (by omega) (fun q => by omega) (fun q => ?_) (fun q => ?_) ((g.sm (by decide)).sm (by decide)) xi_eq (by rw [xi_nk (by omega), xi_eq])
        · have e2 : i = s := by omega
          rw [w0 e2, e2]; omega
        · have e2 : i = s + 1 := by omega
          rw [w1 e2, e2]
          rw [e2] at c
          have := hdi
          omega
  refine eX12_digits m ⟨hx.1.1, ?_⟩
  rintro M2 rfl
  exact key (L - s) s 0 _ (by omega) (Nat.le_refl _) rfl (by omega) (fun _ => rfl) (fun q => by omega) (fun q => by omega) (FrM.rf.sm (by decide)) (by rw [xi_nk (by omega)]; exact h38) xi_eq
theorem ur_isWord (d : Nat) (hx : RxS M m L t) {s e n a b c : Nat} (h38 : x_i M m 38 = nI e) (h41 : x_i M m 41 = nI s) (hse : s ≤ e) (he : e ≤ L) (hn : n = 2 ∨ n = 3) (ha : a < 256) (hb : b < 256) (hc : c < 256)
    (hQ1 : (e = s + n ∧ byA t L s = a ∧ byA t L (s + 1) = b ∧ (n = 3 → byA t L (s + 2) = c)) → Q (some (.int 1)) M) (hQ0 : ¬ (e = s + n ∧ byA t L s = a ∧ byA t L (s + 1) = b ∧ (n = 3 → byA t L (s + 2) = c)) → Q (some (.int 0)) M) :
    Call G (d + 2) 0 0 mX12_isWord [.ref m, .int (nI n), .int (nI a), .int (nI b), .int (nI c)] M Q := by
  have hL := hx.2.2.1
  have hby := hx.2.2.2.2
  refine eX12_isWord m _ _ _ _ ⟨hx.1.1, ?_⟩
  rw [h38, h41, pk_sub hse, nI_eq (by omega) (by omega)]
  refine ⟨fun q => hQ0 (fun z => q (by omega)), fun q => ur_byteAt d hx (by omega) ⟨_, rfl, ?_⟩⟩
  rw [bI_eq (byA_256 hby).1 ha]
  refine ⟨fun q2 => hQ0 (fun z => q2 z.2.1), fun q2 => ⟨fun q3 => absurd q3 (by rw [show (2 : Int32) = nI 2 from rfl, nI_ltI (by omega) (by omega)]; omega), fun _ => ⟨hx.1.1, ?_⟩⟩⟩
  rw [h41, nI_1]
  refine ur_byteAt d hx (by omega) ⟨_, rfl, ?_⟩
  rw [bI_eq (byA_256 hby).1 hb, show (3 : Int32) = nI 3 from rfl, nI_ltI (by omega) (by omega)]
  refine ⟨fun q3 => hQ0 (fun z => q3 z.2.2.1), fun q3 => ⟨fun q4 => hQ1 ⟨by omega, q2, q3, fun z => by omega⟩, fun q4 => ⟨hx.1.1, ?_⟩⟩⟩
  rw [h41, show (2 : Int32) = nI 2 from rfl, nI_add]
  refine ur_byteAt d hx (by omega) ⟨_, rfl, ?_⟩
  rw [bI_eq (byA_256 hby).1 hc]
  exact ⟨fun q5 => hQ0 (fun z => q5 (z.2.2.2 (by omega))), fun q5 => hQ1 ⟨by omega, q2, q3, fun _ => q5⟩⟩
end RLexC
