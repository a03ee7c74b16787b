/-! ===== the class: a text is cut ===== -/
section CutC
variable {G : GG} {M : Mem} {k tx L : Nat} {t : Nat → Nat} {Q : Option Value → Mem → Prop}
/-- n tokens of W have been cut; what is left begins at s -/
def CuI (M : Mem) (k L : Nat) (t : Nat → Nat) (W : List Tk) (n s : Nat) : Prop := x_i M k 5 = nI n ∧ W.drop n = tl t L s ∧ (∀ j, j < n → TkC M k L W j) ∧ n + (tl t L s).length = W.length
theorem w_addT (d : Nat) (hT : TokS M k) (hX : TxS M k tx L t) (htx : tx ∉ [k, k + 1, k + 2, k + 3]) {W : List Tk} {n s : Nat} (hW : W.length ≤ 120) (h : CuI M k L t W n s) (hs : s < L) (h32 : t s ≠ 32) {c : Int32} (hc : tkK t L s = 2 ∨ tkK t L s = 3 ∨ tkK t L s = 4 → c = nI (tkW t L s))
    (hQ : ∀ M', Fr M M' [k, k + 1, k + 2, k + 3] → TxS M' k tx L t → CuI M' k L t W (n + 1) (tkN t L s) → Q none M') :
    Call G (d + 1) 0 0 mX9_add [.ref k, .int (nI (tkK t L s)), .int (nI s), .int c] M Q := by
  obtain ⟨h5, hd, hj, hl⟩ := h
  have e := tl_tk hs h32
  have hn : n < W.length := by rw [e] at hl; simp at hl; omega
  refine w_add d hT (n := n) (by omega) h5 (fun M' fr e4 e5 e1 e2 e3 eo => hQ M' fr (hX.fr fr e4 htx) ⟨e5, ?_, fun j hj2 => ?_, ?_⟩)
  · rw [← List.tail_drop, hd, e]
    rfl
  · by_cases c2 : j = n
    · rw [c2]
      unfold TkC
      rw [hd, e]
      exact ⟨e1, e2, fun q => by rw [e3]; exact hc q⟩
    · obtain ⟨o1, o2, o3⟩ := eo j c2
      have := hj j (by omega)
      unfold TkC at this ⊢
      rw [o1, o2, o3]
      exact this
  · rw [e] at hl
    simp at hl
    omega
theorem w_cutNumber (d : Nat) (hT : TokS M k) (hX : TxS M k tx L t) (htx : tx ∉ [k, k + 1, k + 2, k + 3]) {W : List Tk} {n s : Nat} (hW : W.length ≤ 120) (h : CuI M k L t W n s) (hs : s < L) (h32 : t s ≠ 32) (hle : ¬ isLe (t s)) (hdi : isDi (t s))
    (hQ : ∀ M', Fr M M' [k, k + 1, k + 2, k + 3] → TxS M' k tx L t → CuI M' k L t W (n + 1) (tkN t L s) → Q (some (.int (nI (tkN t L s)))) M') :
    Call G (d + 3) 0 0 mX9_cutNumber [.ref k, .int (nI s)] M Q := by
  have hL := hX.2.2.2.2.1
  have h4 := hX.2.2.2.1
  have hbs := hX.2.2.2.2.2.2
  have eN : tkN t L s = enD t L s := by unfold tkN; rw [if_neg hle, if_pos hdi]
  have eN2 : enD t L s ≤ L := enE_le (by decide) (Nat.le_of_lt hs)
  have hbad : ∀ (w : Nat), (enD t L s ≤ s + 2 → w = tkW t L s) → (enD t L s - s ≤ 2 → Call G (d + 2) 0 0 mX9_add [.ref k, .int 2, .int (nI s), .int (nI w)] M (fun r4 M5 => r4 = none ∧ Q (some (.int (nI (enD t L s)))) M5)) ∧ (¬ enD t L s - s ≤ 2 → Call G (d + 2) 0 0 mX9_add [.ref k, .int 1, .int (nI s), .int (nI w)] M (fun r4 M5 => r4 = none ∧ Q (some (.int (nI (enD t L s)))) M5)) := by
    intro w hw
    rw [eN] at hQ
    have hk : tkK t L s = if enD t L s ≤ s + 2 then 2 else 1 := by unfold tkK; rw [if_neg hle, if_pos hdi]
    refine ⟨fun c => ?_, fun c => ?_⟩
    · rw [if_pos (by omega)] at hk
      have := w_addT (G := G) (Q := fun r4 M5 => r4 = none ∧ Q (some (.int (nI (enD t L s)))) M5) (d + 1) hT hX htx hW h hs h32 (c := nI w) (fun _ => by rw [hw (by omega)]) (fun M' f1 f2 f3 => ⟨rfl, hQ M' f1 f2 (by rw [← eN]; exact f3)⟩)
      rw [hk] at this
      exact this
    · rw [if_neg (by omega)] at hk
      have := w_addT (G := G) (Q := fun r4 M5 => r4 = none ∧ Q (some (.int (nI (enD t L s)))) M5) (d + 1) hT hX htx hW h hs h32 (c := nI w) (fun q => by omega) (fun M' f1 f2 f3 => ⟨rfl, hQ M' f1 f2 (by rw [← eN]; exact f3)⟩)
      rw [hk] at this
      exact this
  have key : ∀ r i w, i + r = L → s ≤ i → enD t L i = enD t L s → w < 100 → (i = s → w = 0) → (i = s + 1 → w = t s - 48) → (i = s + 2 → w = (t s - 48) * 10 + (t (s + 1) - 48)) → LX9_cutNumber_4 G (d + 2) 0 0 k (nI s) (nI i) (nI w) M Q := by
    intro r
    induction r with
    | zero =>
      intro i w hi hsi he hw w0 w1 w2
      have ei : enD t L s = i := by rw [← he]; exact enE_z (by rw [byA_out (by omega)]; omega)
      refine vX9_cutNumber_4 _ _ _ _ ⟨hT.1, fun _ => ?_, fun c => absurd (by rw [h4, nI_leI (by omega) (by omega)]; omega) c⟩
      rw [pk_sub hsi, show (2 : Int32) = nI 2 from rfl, nI_leI (by omega) (by omega), ← ei]
      refine hbad w (fun c => ?_)
      have : ¬ i = s := by omega
      unfold tkW
      rw [if_neg hle, if_pos hdi, ei]
      by_cases c2 : i = s + 1
      · rw [if_pos c2]; exact w1 c2
      · rw [if_neg c2]; exact w2 (by omega)
    | succ r ih =>
      intro i w hi hsi he hw w0 w1 w2
      refine vX9_cutNumber_4 _ _ _ _ ⟨hT.1, fun c => absurd (by rw [h4] at c; exact c) (nI_ge (a := i) (b := L) (by omega) (by omega)), fun _ => w_isDigitT d hX (by omega) (fun c => ⟨1, rfl, fun x => absurd x (by decide), fun _ => ⟨hT.1, w_byteAt (d + 1) hX (by omega) ⟨_, rfl, ?_⟩⟩⟩) (fun c => ⟨0, rfl, fun _ => ?_, fun x => absurd rfl x⟩)⟩
      · have hti : byA t L i = t i := byA_in (by omega)
        rw [hti] at c ⊢
        have hti2 := hbs i (by omega)
        rw [bI_n hti2, nI_1, show (48 : Int32) = nI 48 from rfl, show (10 : Int32) = nI 10 from rfl, show (100 : Int32) = nI 100 from rfl, s_mul, s_add, pk_sub (by omega), s_rem (by omega) (by omega) (by omega)]
        refine ih (i + 1) _ (by omega) (by omega) (by rw [← he]; exact (enE_s (by decide) (by rw [hti]; exact c)).symm) (Nat.mod_lt _ (by omega)) (fun x => by omega) (fun x => ?_) (fun x => ?_)
        · have e2 : i = s := by omega
          rw [w0 e2, e2]
          have := hdi
          rw [Nat.mod_eq_of_lt (by omega)]
          omega
        · have e2 : i = s + 1 := by omega
          rw [w1 e2, e2]
          rw [e2] at c
          have := hdi
          rw [Nat.mod_eq_of_lt (by omega)]
          omega
      · have ei : enD t L s = i := by rw [← he]; exact enE_z c
        rw [pk_sub hsi, show (2 : Int32) = nI 2 from rfl, nI_leI (by omega) (by omega), ← ei]
        obtain ⟨b1, b2⟩ := hbad w (fun c3 => by
          have : ¬ i = s := fun x => by rw [x, byA_in hs] at c; exact c hdi
          unfold tkW
          rw [if_neg hle, if_pos hdi, ei]
          by_cases c2 : i = s + 1
          · rw [if_pos c2]; exact w1 c2
          · rw [if_neg c2]; exact w2 (by omega))
        exact ⟨fun x => ⟨hT.1, b1 x⟩, fun x => ⟨hT.1, b2 x⟩⟩
  exact eX9_cutNumber k _ (key (L - s) s 0 (by omega) (Nat.le_refl _) rfl (by omega) (fun _ => rfl) (fun x => by omega) (fun x => by omega))
theorem w_cutLetters (d : Nat) (hS : SOK G) (hT : TokS M k) (hX : TxS M k tx L t) (htx : tx ∉ [k, k + 1, k + 2, k + 3]) {W : List Tk} {n s : Nat} (hW : W.length ≤ 120) (h : CuI M k L t W n s) (hs : s < L) (h32 : t s ≠ 32) (hle : isLe (t s))
    (hQ : ∀ M', Fr M M' [k, k + 1, k + 2, k + 3] → TxS M' k tx L t → CuI M' k L t W (n + 1) (tkN t L s) → Q (some (.int (nI (tkN t L s)))) M') :
    Call G (d + 7) 0 0 mX9_cutLetters [.ref k, .int (nI s)] M Q := by
  have hL := hX.2.2.2.2.1
  have h4 := hX.2.2.2.1
  have hbs := hX.2.2.2.2.2.2
  have hbs0 := hbs s hs
  have eN2 : enL t L s ≤ L := enE_le (by decide) (Nat.le_of_lt hs)
  have eN3 : s < enL t L s := enE_gt (by decide) (by rw [byA_in hs]; exact hle)
  have hb0 : bI (byA t L s) = nI (t s) := by rw [byA_in hs, bI_n hbs0]
  have r67 : ¬ isRo t L s → LX9_cutLetters_67 G (d + 6) 0 0 k (nI s) (nI (enL t L s)) M Q := by
    intro hr
    have eN : tkN t L s = enL t L s := by unfold tkN; rw [if_pos hle, if_neg hr]
    rw [eN] at hQ
    have hky : ¬ (enL t L s = s + 1 ∧ t s ≤ 104) → Call G (d + 6) 0 0 mX9_key [.ref k, .int (nI s), .int (nI (enL t L s))] M (fun r3 M4 => ∃ v5 : Int32, r3 = some (.int v5) ∧ (x_h M4 k).1 = 25 ∧ Call G (d + 6) 0 0 mX9_add [.ref k, .int v5, .int (nI s), .int 0] M4 (fun r7 M8 => r7 = none ∧ Q (some (.int (nI (enL t L s)))) M8)) := by
      intro c
      have hk : tkK t L s = kyK t s (enL t L s) := by unfold tkK; rw [if_pos hle, if_neg hr, if_neg c]
      have ky := (ky_ok (t := t) eN3).2.2.1
      refine w_key d hS hX (Nat.le_of_lt eN3) eN2 ⟨_, rfl, hT.1, ?_⟩
      have := w_addT (G := G) (Q := fun r4 M5 => r4 = none ∧ Q (some (.int (nI (enL t L s)))) M5) (d + 5) hT hX htx hW h hs h32 (c := 0) (fun q => by omega) (fun M' f1 f2 f3 => ⟨rfl, hQ M' f1 f2 (by rw [← eN]; exact f3)⟩)
      rw [hk] at this
      exact this
    refine vX9_cutLetters_67 _ _ _ ?_
    rw [nI_1, nI_eq (by omega) (by omega)]
    refine ⟨fun c => ⟨hT.1, hky (fun x => c x.1)⟩, fun c => ⟨hT.1, w_byteAt (d + 5) hX (by omega) ⟨_, rfl, ?_⟩⟩⟩
    rw [hb0, show (104 : Int32) = nI 104 from rfl, nI_ltI (by omega) (by omega)]
    refine ⟨fun c2 => ⟨hT.1, hky (fun x => by omega)⟩, fun c2 => ⟨hT.1, w_byteAt (d + 5) hX (by omega) ⟨_, rfl, hT.1, ?_⟩⟩⟩
    have hk : tkK t L s = 3 := by unfold tkK; rw [if_pos hle, if_neg hr, if_pos ⟨c, by omega⟩]
    have hw : tkW t L s = t s - 97 := by unfold tkW; rw [if_pos hle, if_neg hr]
    have := w_addT (G := G) (Q := fun r4 M5 => r4 = none ∧ Q (some (.int (nI (enL t L s)))) M5) (d + 5) hT hX htx hW h hs h32 (c := nI (t s - 97)) (fun q => by rw [hw]) (fun M' f1 f2 f3 => ⟨rfl, hQ M' f1 f2 (by rw [← eN]; exact f3)⟩)
    rw [hk] at this
    rw [hb0, show (97 : Int32) = nI 97 from rfl, pk_sub hle.1]
    exact this
  have r24 : LX9_cutLetters_24 G (d + 6) 0 0 k (nI s) (nI (enL t L s)) M Q := by
    refine vX9_cutLetters_24 _ _ _ ?_
    rw [nI_1, nI_eq (by omega) (by omega)]
    refine ⟨fun c => r67 (fun x => c x.1), fun c => ⟨hT.1, w_byteAt (d + 5) hX (by omega) ⟨_, rfl, ?_⟩⟩⟩
    rw [hb0, show (114 : Int32) = nI 114 from rfl, nI_eq (by omega) (by omega)]
    refine ⟨fun c2 => r67 (fun x => c2 x.2.1), fun c2 => ⟨hT.1, ?_⟩⟩
    rw [c]
    refine w_isDigitT (d + 4) hX (by omega) (fun c3 => ⟨1, rfl, fun x => absurd x (by decide), fun _ => ⟨hT.1, w_byteAt (d + 5) hX (by omega) ⟨_, rfl, hT.1, ?_⟩⟩⟩) (fun c3 => ⟨0, rfl, fun _ => by have := r67 (fun x => c3 x.2.2); rw [c] at this; exact this, fun x => absurd rfl x⟩)
    have hro : isRo t L s := ⟨c, c2, c3⟩
    have hk : tkK t L s = 4 := by unfold tkK; rw [if_pos hle, if_pos hro]
    have hw : tkW t L s = byA t L (s + 1) - 48 := by unfold tkW; rw [if_pos hle, if_pos hro]
    have eN : tkN t L s = s + 2 := by unfold tkN; rw [if_pos hle, if_pos hro]
    rw [eN] at hQ
    have hb1 := c3.2
    have := w_addT (G := G) (Q := fun r4 M5 => r4 = none ∧ Q (some (.int (nI (s + 2)))) M5) (d + 5) hT hX htx hW h hs h32 (c := nI (byA t L (s + 1) - 48)) (fun q => by rw [hw]) (fun M' f1 f2 f3 => ⟨rfl, hQ M' f1 f2 (by rw [← eN]; exact f3)⟩)
    rw [hk] at this
    rw [bI_n (by omega), show (48 : Int32) = nI 48 from rfl, pk_sub c3.1, nI_1]
    exact this
  have key : ∀ r i, i + r = L → s ≤ i → enL t L i = enL t L s → LX9_cutLetters_2 G (d + 6) 0 0 k (nI s) (nI i) M Q := by
    intro r
    induction r with
    | zero =>
      intro i hi hsi he
      have ei : enL t L s = i := by rw [← he]; exact enE_z (by rw [byA_out (by omega)]; omega)
      rw [ei] at r24
      exact vX9_cutLetters_2 _ _ _ ⟨hT.1, fun _ => r24, fun c => absurd (by rw [h4, nI_leI (by omega) (by omega)]; omega) c⟩
    | succ r ih =>
      intro i hi hsi he
      refine vX9_cutLetters_2 _ _ _ ⟨hT.1, fun c => absurd (by rw [h4] at c; exact c) (nI_ge (a := i) (b := L) (by omega) (by omega)), fun _ => w_isLetterT (d + 4) hX (by omega) (fun c => ⟨1, rfl, fun x => absurd x (by decide), fun _ => ?_⟩) (fun c => ⟨0, rfl, fun _ => ?_, fun x => absurd rfl x⟩)⟩
      · rw [nI_1]
        exact ih (i + 1) (by omega) (by omega) (by rw [← he]; exact (enE_s (by decide) c).symm)
      · have ei : enL t L s = i := by rw [← he]; exact enE_z c
        rw [ei] at r24
        exact r24
  exact eX9_cutLetters k _ (key (L - s) s (by omega) (Nat.le_refl _) rfl)
theorem w_signT (d : Nat) {c : Nat} (hc : c < 256) (hQ : Q (some (.int (nI (sgK c)))) M) : Call G (d + 1) 0 0 mX9_sign [.int (nI c)] M Q := by
  unfold sgK at hQ
  refine eX9_sign _ ?_
  rw [show (40 : Int32) = nI 40 from rfl, show (41 : Int32) = nI 41 from rfl, show (43 : Int32) = nI 43 from rfl, show (60 : Int32) = nI 60 from rfl, show (61 : Int32) = nI 61 from rfl, show (91 : Int32) = nI 91 from rfl, show (93 : Int32) = nI 93 from rfl]
  rw [nI_eq (by omega) (by omega), nI_eq (by omega) (by omega), nI_eq (by omega) (by omega), nI_eq (by omega) (by omega), nI_eq (by omega) (by omega), nI_eq (by omega) (by omega), nI_eq (by omega) (by omega)]
  refine ⟨fun e => ?_, fun e => ?_, fun e => ?_, fun e => ?_, fun e => ?_, fun e => ?_, fun e => ?_, fun e => ?_⟩
  · subst e; exact hQ
  · subst e; exact hQ
  · subst e; exact hQ
  · subst e; exact hQ
  · subst e; exact hQ
  · subst e; exact hQ
  · subst e; exact hQ
  · rw [if_neg e.1, if_neg e.2.1, if_neg e.2.2.2.2.2.1, if_neg e.2.2.2.2.2.2, if_neg e.2.2.1, if_neg e.2.2.2.2.1, if_neg e.2.2.2.1] at hQ
    exact hQ
theorem w_cutOne (d : Nat) (hS : SOK G) (hT : TokS M k) (hX : TxS M k tx L t) (htx : tx ∉ [k, k + 1, k + 2, k + 3]) {W : List Tk} {n s : Nat} (hW : W.length ≤ 120) (h : CuI M k L t W n s) (hs : s < L) (h32 : t s ≠ 32)
    (hQ : ∀ M', Fr M M' [k, k + 1, k + 2, k + 3] → TxS M' k tx L t → CuI M' k L t W (n + 1) (tkN t L s) → Q (some (.int (nI (tkN t L s)))) M') :
    Call G (d + 8) 0 0 mX9_cutOne [.ref k, .int (nI s)] M Q := by
  have hL := hX.2.2.2.2.1
  have hbs0 := hX.2.2.2.2.2.2 s hs
  have hb0 : bI (byA t L s) = nI (t s) := by rw [byA_in hs, bI_n hbs0]
  have hb1 := (byA_256 (L := L) (i := s + 1) hX.2.2.2.2.2.2).1
  refine eX9_cutOne k _ ⟨hT.1, w_isLetterT (d + 5) hX (by omega) (fun c => ⟨1, rfl, fun x => absurd x (by decide), fun _ => ⟨hT.1, ?_⟩⟩) (fun c => ⟨0, rfl, fun _ => ⟨hT.1, ?_⟩, fun x => absurd rfl x⟩)⟩
  · rw [byA_in hs] at c
    exact w_cutLetters d hS hT hX htx hW h hs h32 c (fun M' f1 f2 f3 => ⟨_, rfl, hQ M' f1 f2 f3⟩)
  rw [byA_in hs] at c
  refine w_isDigitT (d + 5) hX (by omega) (fun c2 => ⟨1, rfl, fun x => absurd x (by decide), fun _ => ⟨hT.1, ?_⟩⟩) (fun c2 => ⟨0, rfl, fun _ => ⟨hT.1, ?_⟩, fun x => absurd rfl x⟩)
  · rw [byA_in hs] at c2
    exact w_cutNumber (d + 4) hT hX htx hW h hs h32 c c2 (fun M' f1 f2 f3 => ⟨_, rfl, hQ M' f1 f2 f3⟩)
  rw [byA_in hs] at c2
  have plain : ¬ isUp t L s → LX9_cutOne_55 G (d + 7) 0 0 k (nI s) 0 M Q := by
    intro c3
    have hk : tkK t L s = sgK (t s) := by unfold tkK; rw [if_neg c, if_neg c2, if_neg c3]
    have eN : tkN t L s = s + 1 := by unfold tkN; rw [if_neg c, if_neg c2, if_neg c3]
    have ks := (sg_ok (t s)).2.2.1
    refine vX9_cutOne_55 _ _ _ ⟨fun _ => ⟨hT.1, w_byteAt (d + 6) hX (by omega) ⟨_, rfl, ?_⟩⟩, fun x => absurd rfl x⟩
    rw [hb0]
    refine w_signT (d + 6) hbs0 ⟨_, rfl, hT.1, ?_⟩
    rw [nI_1, ← hk]
    rw [eN] at hQ
    exact w_addT (d + 6) hT hX htx hW h hs h32 (c := 0) (fun q => by omega) (fun M' f1 f2 f3 => ⟨rfl, fun _ => hQ M' f1 f2 (by rw [← eN]; exact f3), fun x => absurd rfl x⟩)
  refine w_byteAt (d + 6) hX (by omega) ⟨_, rfl, ?_⟩
  rw [hb0, show (60 : Int32) = nI 60 from rfl, nI_eq (by omega) (by omega)]
  refine ⟨fun c3 => plain (fun x => c3 x.1), fun c3 => ⟨hT.1, ?_⟩⟩
  rw [nI_1]
  refine w_byteAt (d + 6) hX (by omega) ⟨_, rfl, ?_⟩
  rw [show (61 : Int32) = nI 61 from rfl, bI_eq hb1 (by omega)]
  refine ⟨fun c4 => plain (fun x => c4 x.2), fun c4 => ?_⟩
  have hup : isUp t L s := ⟨c3, c4⟩
  have hk : tkK t L s = 18 := by unfold tkK; rw [if_neg c, if_neg c2, if_pos hup]
  have eN : tkN t L s = s + 2 := by unfold tkN; rw [if_neg c, if_neg c2, if_pos hup]
  have := w_addT (G := G) (Q := fun r14 M15 => r14 = none ∧ ((1 : Int32) = 0 → Q (some (.int (nI s + 1))) M15) ∧ (¬ (1 : Int32) = 0 → Q (some (.int (nI s + 2))) M15)) (d + 6) hT hX htx hW h hs h32 (c := 0) (fun q => by omega) (fun M' f1 f2 f3 => ⟨rfl, fun x => absurd x (by decide), fun _ => by rw [show (2 : Int32) = nI 2 from rfl, s_add, ← eN]; exact hQ M' f1 f2 f3⟩)
  rw [hk] at this
  exact vX9_cutOne_55 _ _ _ ⟨fun x => absurd x (by decide), fun _ => ⟨hT.1, this⟩⟩
/-- all tokens of W stand in the class's arrays, and the end behind them -/
def TkA (M : Mem) (k L : Nat) (W : List Tk) : Prop := x_i M k 4 = nI L ∧ x_i M k 5 = nI (W.length + 1) ∧ ∀ j, j ≤ W.length → TkC M k L W j
theorem w_cut (d : Nat) (hS : SOK G) (hT : TokS M k) (htx : tx ∉ [k, k + 1, k + 2, k + 3]) (hh : x_h M tx = (1, 120)) (hL : L ≤ 120) (ht : ∀ i, i < L → x_i M tx i = nI (t i)) (htb : ∀ i, i < L → t i < 256)
    (hQ : ∀ M', Fr (x_sr M k 3 (some tx)) M' [k, k + 1, k + 2, k + 3] → TkA M' k L (tl t L 0) → Q none M') :
    Call G (d + 9) 0 0 mX9_cut [.ref k, .ref tx, .int (nI L)] M Q := by
  have hW : (tl t L 0).length ≤ 120 := by
    have := gd_len _ (gd_tl (t := t) (L := L) L 0 (by omega) (Nat.zero_le _)).1
    omega
  refine eX9_cut k tx _ ⟨hT.1, ?_⟩
  rintro M2 rfl
  have hT2 : TokS (x_sr M k 3 (some tx)) k := by
    obtain ⟨a1, a2, a3, a4, a5⟩ := hT
    refine ⟨a1, ?_, ?_, ?_, a5⟩
    · show up2 _ _ _ _ _ _ = _
      rw [up2_nj (by omega)]; exact a2
    · show up2 _ _ _ _ _ _ = _
      rw [up2_nj (by omega)]; exact a3
    · show up2 _ _ _ _ _ _ = _
      rw [up2_nj (by omega)]; exact a4
  have hr3 : x_r (x_sr M k 3 (some tx)) k 3 = some tx := if_pos ⟨rfl, rfl⟩
  refine ⟨by rw [hh]; exact k18, ?_⟩
  rw [hh]
  refine w_min (d + 7) (i := 120) (n := 120) (by omega) (by omega) ⟨_, rfl, w_min (d + 7) (i := L) (n := min 120 120) (by omega) (by omega) ⟨_, rfl, hT2.1, ?_⟩⟩
  rw [show min L (min 120 120) = L by omega]
  rintro M11 rfl M12 rfl
  have fr0 : Fr (x_sr M k 3 (some tx)) (x_si (x_si (x_sr M k 3 (some tx)) k 4 (nI L)) k 5 0) [k, k + 1, k + 2, k + 3] := (Fr.rf.si (by simp)).si (by simp)
  have hX0 : TxS (x_si (x_si (x_sr M k 3 (some tx)) k 4 (nI L)) k 5 0) k tx L t := by
    refine ⟨hT2.1, hr3, hh, ?_, hL, fun i hi => ?_, htb⟩
    · simp (disch := omega) only [ne_eq, true_and, and_true, false_and, and_false, true_or, or_true, false_or, or_false, not_true_eq_false, not_false_eq_true, forall_eq, exists_eq_left, exists_eq_left', exists_eq_right, true_implies, false_implies, implies_true, forall_const, Option.some.injEq, Value.int.injEq, Value.long.injEq, Value.ref.injEq, reduceCtorEq, exists_const, and_self, s_lit, s_m1, s_add, s_mul, s_sub, s_lt, s_le, s_eq, s_nm1, s_m1n, s_eqm1, s_cl, s_in, s_ltm1, s_div, s_rem, s_rem2, s_hsi, s_rsi, s_lsi, s_nsi, s_hsl, s_rsl, s_isl, s_nsl, xi_eq, xi_na, xi_nk, xl_eq, xl_na, xl_nk, s_k18, s_hfi, s_rfi, s_lfi, s_nfi, s_hfl, s_rfl, s_ifl, s_nfl, xf_in, xf_na, xf_nk, xg_in, xg_na, xg_nk]
    · rw [fr0.i htx]; exact ht i hi
  have hC0 : CuI (x_si (x_si (x_sr M k 3 (some tx)) k 4 (nI L)) k 5 0) k L t (tl t L 0) 0 0 := ⟨xi_eq, rfl, fun j hj => absurd hj (Nat.not_lt_zero j), Nat.zero_add _⟩
  have fin : ∀ M' n s, Fr (x_sr M k 3 (some tx)) M' [k, k + 1, k + 2, k + 3] → TxS M' k tx L t → CuI M' k L t (tl t L 0) n s → L ≤ s → Call G (d + 8) 0 0 mX9_add [.ref k, .int 0, .int (x_i M' k 4), .int 0] M' (fun r3 M4 => r3 = none ∧ Q none M4) := by
    intro M' n s fr hX ⟨c1, c2, c3, c4⟩ hs
    rw [tl_end hs] at c2 c4
    have hn : n = (tl t L 0).length := by simpa using c4
    refine w_add (d + 7) (hT2.eq fr.h fr.r) (n := n) (by omega) c1 (fun M4 f4 e4 e5 e1 e2 e3 eo => ⟨rfl, hQ M4 (fr.tr f4 (fun _ h => h)) ⟨by rw [e4]; exact hX.2.2.2.1, by rw [e5, hn], fun j hj => ?_⟩⟩)
    by_cases c : j = n
    · rw [c]
      unfold TkC
      rw [c2]
      exact ⟨e1, e2.trans hX.2.2.2.1, fun q => by simp [kdT] at q⟩
    · obtain ⟨o1, o2, o3⟩ := eo j c
      have := c3 j (by omega)
      unfold TkC at this ⊢
      rw [o1, o2, o3]
      exact this
  have key : ∀ r i M' n s, i + r = 120 → i ≤ s → s ≤ L → Fr (x_sr M k 3 (some tx)) M' [k, k + 1, k + 2, k + 3] → TxS M' k tx L t → CuI M' k L t (tl t L 0) n s → LX9_cut_30 G (d + 8) 0 0 k tx (nI L) (nI s) (nI i) M' Q := by
    intro r
    induction r with
    | zero =>
      intro i M' n s hi his hsL fr hX hC
      refine vX9_cut_30 _ _ _ _ _ ⟨fun _ => ⟨hX.1, fin M' n s fr hX hC (by omega)⟩, fun c => absurd (by rw [show i = 120 by omega]; decide) c⟩
    | succ r ih =>
      intro i M' n s hi his hsL fr hX hC
      refine vX9_cut_30 _ _ _ _ _ ⟨fun c => absurd c (nI_ge (a := i) (b := 120) (by omega) (by omega)), fun _ => ⟨hX.1, ?_⟩⟩
      rw [hX.2.2.2.1, nI_leI (by omega) (by omega)]
      refine ⟨fun c => by have := fin M' n s fr hX hC c; rw [hX.2.2.2.1] at this; exact this, fun c => w_byteAt (d + 7) hX (by omega) ⟨_, rfl, ?_⟩⟩
      have hb := hX.2.2.2.2.2.2 s (by omega)
      rw [byA_in (by omega), bI_n hb, show (32 : Int32) = nI 32 from rfl, nI_eq (by omega) (by omega), nI_1]
      refine ⟨fun c2 => ⟨hX.1, w_cutOne d hS (hT2.eq fr.h fr.r) hX htx hW hC (by omega) c2 (fun M15 f1 f2 f3 => ⟨_, rfl, ?_⟩)⟩, fun c2 => ?_⟩
      · have h1 := tk_gt (t := t) (show s < L by omega)
        have h2 := (tk_ok (t := t) (show s < L by omega)).2.2
        exact ih (i + 1) M15 (n + 1) _ (by omega) (by omega) h2 (fr.tr f1 (fun _ h => h)) f2 f3
      · rw [nI_1]
        obtain ⟨c1, c2', c3, c4⟩ := hC
        exact ih (i + 1) M' n (s + 1) (by omega) (by omega) (by omega) fr hX ⟨c1, by rw [c2', tl_sp (by omega) c2], c3, by rw [← tl_sp (by omega) c2]; exact c4⟩
  exact key 120 0 _ 0 0 (Nat.zero_add _) (Nat.le_refl _) (Nat.zero_le _) fr0 hX0 hC0
end CutC
