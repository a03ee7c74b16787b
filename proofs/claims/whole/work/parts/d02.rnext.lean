/-! ===== the reference: the next token ===== -/
section RNextC
variable {G : GG} {M : Mem} {m L : Nat} {t : Nat → Nat} {Q : Option Value → Mem → Prop}
/-- the token at s is known: kind, where it ends -/
theorem rn_ok {M' : Mem} {s e : Nat} (hs : s < L) (h32 : t s ≠ 32) (g : FrM M M' m [38, 39, 40, 41] []) (h1 : tkK t L s ≠ 1) (e41 : x_i M' m 41 = nI s) (e39 : x_i M' m 39 = nI (rtK (tkK t L s))) (e40 : tkK t L s = 2 ∨ tkK t L s = 3 ∨ tkK t L s = 4 → x_i M' m 40 = nI (tkW t L s)) (e40' : 11 ≤ tkK t L s ∧ tkK t L s ≤ 17 → x_i M' m 40 = nI (chK (tkK t L s))) (e38 : x_i M' m 38 = nI e) (he : tkN t L s = e) : RnO M M' m L t (tl t L s) := by
  have ee := tl_tk (t := t) hs h32
  have h3 := (tk_ok (t := t) hs).2.2
  rw [ee]
  exact ⟨fun _ => ⟨g, ⟨e41, e39, e40, e40'⟩, e, by omega, e38, by rw [← he]; rfl⟩, fun q => absurd q h1⟩
theorem rn_bad {M' : Mem} {s : Nat} (hs : s < L) (h32 : t s ≠ 32) (h1 : tkK t L s = 1) (f : RfF M' m s) : RnO M M' m L t (tl t L s) := by
  have ee := tl_tk (t := t) hs h32
  rw [ee]
  exact ⟨fun q => absurd h1 q, fun _ => f⟩
theorem ur_letters (d : Nat) (hx : RxS M m L t) {s : Nat} (hs : s < L) (h38 : x_i M m 38 = nI s) (h41 : x_i M m 41 = nI s) (h42 : x_i M m 42 = 0) (h32 : t s ≠ 32) (hle : isLe (t s))
    (hQ : ∀ M', FrM M M' m [38, 39, 40, 42, 45, 46] [] → RnO M M' m L t (tl t L s) → Q none M') : Call G (d + 3) 0 0 mX12_letters [.ref m] M Q := by
  have hL := hx.2.2.1
  have hb := hx.2.2.2.2
  have hbs := hb s hs
  have hb0 : bI (byA t L s) = nI (t s) := by rw [byA_in hs, bI_n hbs]
  have eN2 : enL t L s ≤ L := enE_le (by decide) (Nat.le_of_lt hs)
  have eN3 : s < enL t L s := enE_gt (by decide) (by rw [byA_in hs]; exact hle)
  have r131 : ¬ isRo t L s → ¬ (enL t L s = s + 1 ∧ t s ≤ 104) → ∀ M', FrM M M' m [38] [] → x_i M' m 38 = nI (enL t L s) → LX12_letters_131 G (d + 2) 0 0 m (nI (t s)) M' Q := by
    intro hr hnm M' g e38
    have hx' := hx.fr g (by decide) (by decide)
    have e41 : x_i M' m 41 = nI s := by rw [g.fm (by decide)]; exact h41
    have eN : tkN t L s = enL t L s := by unfold tkN; rw [if_pos hle, if_neg hr]
    have hk : tkK t L s = kyK t s (enL t L s) := by unfold tkK; rw [if_pos hle, if_neg hr, if_neg hnm]
    have tok : ∀ (k : Nat), kyK t s (enL t L s) = k → 5 ≤ k → k ≤ 10 → ∀ v : Int32, v = nI (rtK k) → Q none (x_si M' m 39 v) := by
      intro k hkk k5 k10 v hv
      have hk' : tkK t L s = k := hk.trans hkk
      refine hQ _ ((g.wk (by decide) (by decide)).sm (by decide)) (rn_ok hs h32 ((g.wk (by decide) (by decide)).sm (by decide)) (by omega) ?_ ?_ (fun q => by omega) (fun q => by omega) ?_ eN)
      · rw [xi_nk (by omega)]; exact e41
      · rw [xi_eq, hv, hk']
      · rw [xi_nk (by omega)]; exact e38
    have wq : ∀ {a b c n : Nat} (P : Prop), ((enL t L s = s + n ∧ byA t L s = a ∧ byA t L (s + 1) = b ∧ (n = 3 → byA t L (s + 2) = c)) ↔ (enL t L s = s + n ∧ t s = a ∧ t (s + 1) = b ∧ (n = 3 → t (s + 2) = c))) ∨ ¬ (n = 2 ∨ n = 3) := by
      intro a b c n P
      by_cases hn : n = 2 ∨ n = 3
      · refine Or.inl ⟨fun ⟨x, y0, y1, y2⟩ => ?_, fun ⟨x, y0, y1, y2⟩ => ?_⟩
        · rw [byA_in (by omega)] at y0 y1
          exact ⟨x, y0, y1, fun z => by have := y2 z; rw [byA_in (by omega)] at this; exact this⟩
        · exact ⟨x, by rw [byA_in (by omega)]; exact y0, by rw [byA_in (by omega)]; exact y1, fun z => by rw [byA_in (by omega)]; exact y2 z⟩
      · exact Or.inr hn
    have wi : ∀ (a b c n : Nat), (n = 2 ∨ n = 3) → ((enL t L s = s + n ∧ byA t L s = a ∧ byA t L (s + 1) = b ∧ (n = 3 → byA t L (s + 2) = c)) ↔ (enL t L s = s + n ∧ t s = a ∧ t (s + 1) = b ∧ (n = 3 → t (s + 2) = c))) := fun a b c n hn => (wq True).resolve_right (fun h => h hn)
    refine vX12_letters_131 _ _ ⟨hx'.1.1, ur_isWord (s := s) (e := enL t L s) (n := 3) (a := 97) (b := 108) (c := 108) d hx' e38 e41 (Nat.le_of_lt eN3) eN2 (by omega) (by omega) (by omega) (by omega) (fun q => ⟨1, rfl, fun z => absurd z (by decide), fun _ => ⟨hx'.1.1, ?_⟩⟩) (fun q => ⟨0, rfl, fun _ => ⟨hx'.1.1, ?_⟩, fun z => absurd rfl z⟩)⟩
    · rintro M45 rfl
      obtain ⟨x, y, z, w⟩ := (wi 97 108 108 3 (Or.inr rfl)).mp q
      exact tok 5 (by unfold kyK; rw [if_pos ⟨x, y, z, w rfl⟩]) (by omega) (by omega) 4 rfl
    have c1 : ¬ (enL t L s = s + 3 ∧ t s = 97 ∧ t (s + 1) = 108 ∧ t (s + 2) = 108) := fun ⟨x, y, z, w⟩ => q ((wi 97 108 108 3 (Or.inr rfl)).mpr ⟨x, y, z, fun _ => w⟩)
    refine ur_isWord (s := s) (e := enL t L s) (n := 2) (a := 105) (b := 115) (c := 0) d hx' e38 e41 (Nat.le_of_lt eN3) eN2 (by omega) (by omega) (by omega) (by omega) (fun q => ⟨1, rfl, fun z => absurd z (by decide), fun _ => ⟨hx'.1.1, ?_⟩⟩) (fun q => ⟨0, rfl, fun _ => ⟨hx'.1.1, ?_⟩, fun z => absurd rfl z⟩)
    · rintro M43 rfl
      obtain ⟨x, y, z, w⟩ := (wi 105 115 0 2 (Or.inl rfl)).mp q
      exact tok 6 (by unfold kyK; rw [if_neg c1, if_pos ⟨x, y, z⟩]) (by omega) (by omega) 5 rfl
    have c2 : ¬ (enL t L s = s + 2 ∧ t s = 105 ∧ t (s + 1) = 115) := fun ⟨x, y, z⟩ => q ((wi 105 115 0 2 (Or.inl rfl)).mpr ⟨x, y, z, fun w => by omega⟩)
    refine ur_isWord (s := s) (e := enL t L s) (n := 3) (a := 110) (b := 111) (c := 116) d hx' e38 e41 (Nat.le_of_lt eN3) eN2 (by omega) (by omega) (by omega) (by omega) (fun q => ⟨1, rfl, fun z => absurd z (by decide), fun _ => ⟨hx'.1.1, ?_⟩⟩) (fun q => ⟨0, rfl, fun _ => ⟨hx'.1.1, ?_⟩, fun z => absurd rfl z⟩)
    · rintro M41 rfl
      obtain ⟨x, y, z, w⟩ := (wi 110 111 116 3 (Or.inr rfl)).mp q
      exact tok 7 (by unfold kyK; rw [if_neg c1, if_neg c2, if_pos ⟨x, y, z, w rfl⟩]) (by omega) (by omega) 6 rfl
    have c3 : ¬ (enL t L s = s + 3 ∧ t s = 110 ∧ t (s + 1) = 111 ∧ t (s + 2) = 116) := fun ⟨x, y, z, w⟩ => q ((wi 110 111 116 3 (Or.inr rfl)).mpr ⟨x, y, z, fun _ => w⟩)
    refine ur_isWord (s := s) (e := enL t L s) (n := 3) (a := 97) (b := 110) (c := 100) d hx' e38 e41 (Nat.le_of_lt eN3) eN2 (by omega) (by omega) (by omega) (by omega) (fun q => ⟨1, rfl, fun z => absurd z (by decide), fun _ => ⟨hx'.1.1, ?_⟩⟩) (fun q => ⟨0, rfl, fun _ => ⟨hx'.1.1, ?_⟩, fun z => absurd rfl z⟩)
    · rintro M39 rfl
      obtain ⟨x, y, z, w⟩ := (wi 97 110 100 3 (Or.inr rfl)).mp q
      exact tok 8 (by unfold kyK; rw [if_neg c1, if_neg c2, if_neg c3, if_pos ⟨x, y, z, w rfl⟩]) (by omega) (by omega) 7 rfl
    have c4 : ¬ (enL t L s = s + 3 ∧ t s = 97 ∧ t (s + 1) = 110 ∧ t (s + 2) = 100) := fun ⟨x, y, z, w⟩ => q ((wi 97 110 100 3 (Or.inr rfl)).mpr ⟨x, y, z, fun _ => w⟩)
    refine ur_isWord (s := s) (e := enL t L s) (n := 2) (a := 111) (b := 114) (c := 0) d hx' e38 e41 (Nat.le_of_lt eN3) eN2 (by omega) (by omega) (by omega) (by omega) (fun q => ⟨1, rfl, fun z => absurd z (by decide), fun _ => ⟨hx'.1.1, ?_⟩⟩) (fun q => ⟨0, rfl, fun _ => ⟨hx'.1.1, ?_⟩, fun z => absurd rfl z⟩)
    · rintro M37 rfl
      obtain ⟨x, y, z, w⟩ := (wi 111 114 0 2 (Or.inl rfl)).mp q
      exact tok 9 (by unfold kyK; rw [if_neg c1, if_neg c2, if_neg c3, if_neg c4, if_pos ⟨x, y, z⟩]) (by omega) (by omega) 8 rfl
    have c5 : ¬ (enL t L s = s + 2 ∧ t s = 111 ∧ t (s + 1) = 114) := fun ⟨x, y, z⟩ => q ((wi 111 114 0 2 (Or.inl rfl)).mpr ⟨x, y, z, fun w => by omega⟩)
    refine ur_isWord (s := s) (e := enL t L s) (n := 2) (a := 115) (b := 111) (c := 0) d hx' e38 e41 (Nat.le_of_lt eN3) eN2 (by omega) (by omega) (by omega) (by omega) (fun q => ⟨1, rfl, fun z => absurd z (by decide), fun _ => ⟨hx'.1.1, ?_⟩⟩) (fun q => ⟨0, rfl, fun _ => ⟨hx'.1.1, ?_⟩, fun z => absurd rfl z⟩)
    · rintro M35 rfl
      obtain ⟨x, y, z, w⟩ := (wi 115 111 0 2 (Or.inl rfl)).mp q
      exact tok 10 (by unfold kyK; rw [if_neg c1, if_neg c2, if_neg c3, if_neg c4, if_neg c5, if_pos ⟨x, y, z⟩]) (by omega) (by omega) 9 rfl
    have c6 : ¬ (enL t L s = s + 2 ∧ t s = 115 ∧ t (s + 1) = 111) := fun ⟨x, y, z⟩ => q ((wi 115 111 0 2 (Or.inl rfl)).mpr ⟨x, y, z, fun w => by omega⟩)
    have hk1 : tkK t L s = 1 := by rw [hk]; unfold kyK; rw [if_neg c1, if_neg c2, if_neg c3, if_neg c4, if_neg c5, if_neg c6]
    exact ur_cannot (p := s) (d + 1) hx'.1.1 (Or.inl ⟨by rw [g.fm (by decide)]; exact h42, e41⟩) (fun M13 g13 f13 => ⟨rfl, hQ M13 ((g.wk (by decide) (by decide)).tr g13 (by decide) (by decide)) (rn_bad hs h32 hk1 f13)⟩)
  have r64 : ¬ isRo t L s → ∀ r i M', i + r = L → s ≤ i → enL t L i = enL t L s → FrM M M' m [38] [] → x_i M' m 38 = nI i → LX12_letters_64 G (d + 2) 0 0 m (nI (t s)) M' Q := by
    intro hr r
    have fin : ∀ i M', enL t L s = i → FrM M M' m [38] [] → x_i M' m 38 = nI i → (¬ (x_i M' m 38 - x_i M' m 41) = 1 → LX12_letters_131 G (d + 2) 0 0 m (nI (t s)) M' Q) ∧ ((x_i M' m 38 - x_i M' m 41) = 1 → Call G (d + 2) 0 0 mX12_in [.int (nI (t s)), .int 97, .int 104] M' (fun r11 M12 => ∃ v13 : Int32, r11 = some (.int v13) ∧ (v13 = 0 → LX12_letters_131 G (d + 2) 0 0 m (nI (t s)) M12 Q) ∧ (¬ v13 = 0 → (x_h M12 m).1 = 28 ∧ (∀ M16, M16 = x_si M12 m 39 2 → ∀ M17, M17 = x_si M16 m 40 (nI (t s) - 97) → Q none M17)))) := by
      intro i M' ei g e38
      have hx' := hx.fr g (by decide) (by decide)
      have e41 : x_i M' m 41 = nI s := by rw [g.fm (by decide)]; exact h41
      have e38L : x_i M' m 38 = nI (enL t L s) := by rw [ei]; exact e38
      rw [e38, e41, pk_sub (by omega), show (1 : Int32) = nI 1 from rfl, nI_eq (by omega) (by omega)]
      refine ⟨fun q => r131 hr (fun z => by omega) M' g e38L, fun q => u_in (x := t s) (y := 97) (z := 104) (d + 1) (by omega) (by omega) (by omega) ?_⟩
      by_cases c : 97 ≤ t s ∧ t s ≤ 104
      · rw [if_pos c]
        refine ⟨1, rfl, fun z => absurd z (by decide), fun _ => ⟨hx'.1.1, ?_⟩⟩
        rintro M16 rfl M17 rfl
        have hk : tkK t L s = 3 := by unfold tkK; rw [if_pos hle, if_neg hr, if_pos ⟨by omega, c.2⟩]
        have hw : tkW t L s = t s - 97 := by unfold tkW; rw [if_pos hle, if_neg hr]
        have eN : tkN t L s = enL t L s := by unfold tkN; rw [if_pos hle, if_neg hr]
        refine hQ _ (((g.wk (by decide) (by decide)).sm (by decide)).sm (by decide)) (rn_ok hs h32 (((g.wk (by decide) (by decide)).sm (by decide)).sm (by decide)) (by omega) ?_ ?_ (fun _ => ?_) (fun q => by omega) ?_ eN)
        · rw [xi_nk (by omega), xi_nk (by omega)]; exact e41
        · rw [xi_nk (by omega), xi_eq, hk]; rfl
        · rw [xi_eq, hw, show (97 : Int32) = nI 97 from rfl, pk_sub c.1]
        · rw [xi_nk (by omega), xi_nk (by omega)]; exact e38L
      · rw [if_neg c]
        exact ⟨0, rfl, fun _ => r131 hr (fun z => by have := hle.1; omega) M' g e38L, fun z => absurd rfl z⟩
    induction r with
    | zero =>
      intro i M' hi hsi he g e38
      have hx' := hx.fr g (by decide) (by decide)
      have ei : enL t L s = i := by rw [← he]; exact enE_z (by rw [byA_out (by omega)]; omega)
      refine vX12_letters_64 _ _ ⟨hx'.1.1, ?_⟩
      rw [e38]
      exact ur_byteAt (d + 1) hx' (by omega) ⟨_, rfl, ur_isLetter d (byA_256 hb).1 (fun c => absurd (isLe_lt0 c) (by omega)) (fun c => ⟨0, rfl, fun _ => ⟨hx'.1.1, fin i M' ei g e38⟩, fun q => absurd rfl q⟩)⟩
    | succ r ih =>
      intro i M' hi hsi he g e38
      have hx' := hx.fr g (by decide) (by decide)
      refine vX12_letters_64 _ _ ⟨hx'.1.1, ?_⟩
      rw [e38]
      refine ur_byteAt (d + 1) hx' (by omega) ⟨_, rfl, ur_isLetter d (byA_256 hb).1 (fun c => ⟨1, rfl, fun q => absurd q (by decide), fun _ => ⟨hx'.1.1, ?_⟩⟩) (fun c => ⟨0, rfl, fun _ => ⟨hx'.1.1, fin i M' (by rw [← he]; exact enE_z c) g e38⟩, fun q => absurd rfl q⟩)⟩
      rintro M19 rfl
      rw [e38, nI_1]
      exact ih (i + 1) _ (by omega) (by omega) (by rw [← he]; exact (enE_s (by decide) c).symm) (g.sm (by decide)) xi_eq
  have s64 : ¬ isRo t L s → LX12_letters_64 G (d + 2) 0 0 m (nI (t s)) M Q := fun hr => r64 hr (L - s) s M (by omega) (Nat.le_refl _) rfl FrM.rf h38
  refine eX12_letters m ⟨hx.1.1, ?_⟩
  rw [h38]
  refine ur_byteAt (d + 1) hx (by omega) ⟨_, rfl, ?_⟩
  rw [hb0, show (114 : Int32) = nI 114 from rfl, nI_eq (by omega) (by omega)]
  refine ⟨fun c => s64 (fun z => c z.2.1), fun c => ⟨hx.1.1, ?_⟩⟩
  rw [h38, nI_1]
  refine ur_byteAt (d + 1) hx (by omega) ⟨_, rfl, ur_isDigit d (byA_256 hb).1 (fun c2 => ⟨1, rfl, fun q => absurd q (by decide), fun _ => ⟨hx.1.1, ?_⟩⟩) (fun c2 => ⟨0, rfl, fun _ => s64 (fun z => c2 z.2.2), fun q => absurd rfl q⟩)⟩
  rintro M15 rfl
  have hx15 : RxS (x_si M m 39 3) m L t := hx.fr (F := [39]) (A := []) (FrM.rf.sm (by decide)) (by decide) (by decide)
  have en : enL t L s = s + 1 := by
    show enE 97 122 t L s = s + 1
    rw [enE_s (by decide) (by rw [byA_in hs]; exact hle)]
    exact enE_z (by have := c2.2; omega)
  have hro : isRo t L s := ⟨en, c, c2⟩
  have hk : tkK t L s = 4 := by unfold tkK; rw [if_pos hle, if_pos hro]
  have hw : tkW t L s = byA t L (s + 1) - 48 := by unfold tkW; rw [if_pos hle, if_pos hro]
  have eN : tkN t L s = s + 2 := by unfold tkN; rw [if_pos hle, if_pos hro]
  rw [xi_nk (by omega), h38, nI_1]
  refine ur_byteAt (d + 1) hx15 (by omega) ⟨_, rfl, hx.1.1, ?_⟩
  rintro M20 rfl M21 rfl
  have hb1 := c2.2
  refine hQ _ (((FrM.rf.sm (by decide)).sm (by decide)).sm (by decide)) (rn_ok (e := s + 2) hs h32 (((FrM.rf.sm (by decide)).sm (by decide)).sm (by decide)) (by omega) ?_ ?_ (fun _ => ?_) (fun q => by omega) ?_ eN)
  · rw [xi_nk (by omega), xi_nk (by omega), xi_nk (by omega)]; exact h41
  · rw [xi_nk (by omega), xi_nk (by omega), xi_eq, hk]; rfl
  · rw [xi_nk (by omega), xi_eq, hw, bI_n (by omega), show (48 : Int32) = nI 48 from rfl, pk_sub c2.1]
  · rw [xi_eq, xi_nk (by omega), xi_nk (by omega), h38, show (2 : Int32) = nI 2 from rfl, nI_add]
theorem ur_next (d : Nat) (hx : RxS M m L t) {p : Nat} (hp : p ≤ L) (h38 : x_i M m 38 = nI p) (h42 : x_i M m 42 = 0)
    (hQ : ∀ M', FrM M M' m [38, 39, 40, 41, 42, 45, 46] [] → RnO M M' m L t (tl t L p) → Q none M') : Call G (d + 4) 0 0 mX12_next [.ref m] M Q := by
  have hL := hx.2.2.1
  have hb := hx.2.2.2.2
  have key : ∀ r i M', i + r = L → tl t L i = tl t L p → FrM M M' m [38] [] → x_i M' m 38 = nI i → LX12_next_0 G (d + 3) 0 0 m M' Q := by
    intro r
    induction r with
    | zero =>
      intro i M' hi hl g e38
      have hx' := hx.fr g (by decide) (by decide)
      have eL : i = L := by omega
      refine vX12_next_0 _ ⟨hx'.1.1, ?_⟩
      rw [e38]
      refine ur_byteAt (d + 2) hx' (by omega) ⟨_, rfl, ?_⟩
      rw [byA_out (by omega)]
      refine ⟨fun _ => ⟨hx'.1.1, ?_⟩, fun c => absurd (show bI 256 = 32 from c) (by decide)⟩
      rintro M7 rfl
      have hx7 : RxS (x_si M' m 41 (x_i M' m 38)) m L t := hx'.fr (F := [41]) (A := []) (FrM.rf.sm (by decide)) (by decide) (by decide)
      rw [xi_nk (by omega), e38]
      refine ur_byteAt (d + 2) (by rw [← e38]; exact hx7) (by omega) ⟨_, rfl, ?_⟩
      rw [byA_out (by omega)]
      refine ⟨fun c => absurd rfl c, fun _ => ⟨hx'.1.1, ?_⟩⟩
      rintro M38 rfl
      have ee : tl t L p = [] := by rw [← hl]; exact tl_end (by omega)
      have gg : FrM M (x_si (x_si M' m 41 (nI i)) m 39 0) m [38, 39, 40, 41] [] := ((g.wk (by decide) (by decide)).sm (by decide)).sm (by decide)
      refine hQ _ (gg.wk (by decide) (by decide)) ?_
      rw [ee]
      refine ⟨fun _ => ⟨gg, ⟨?_, ?_, fun q => ?_, fun q => ?_⟩, L, Nat.le_refl _, ?_, ?_⟩, fun q => ?_⟩
      · rw [xi_nk (by omega), xi_eq, eL]; rfl
      · rw [xi_eq]; rfl
      · simp [kdT] at q
      · simp [kdT] at q
      · rw [xi_nk (by omega), xi_nk (by omega), e38, eL]
      · rw [tl_end (Nat.le_refl _)]; rfl
      · simp [kdT] at q
    | succ r ih =>
      intro i M' hi hl g e38
      have hx' := hx.fr g (by decide) (by decide)
      have hti := hb i (by omega)
      have hb0 : bI (byA t L i) = nI (t i) := by rw [byA_in (by omega), bI_n hti]
      refine vX12_next_0 _ ⟨hx'.1.1, ?_⟩
      rw [e38]
      refine ur_byteAt (d + 2) hx' (by omega) ⟨_, rfl, ?_⟩
      rw [hb0, show (32 : Int32) = nI 32 from rfl, nI_eq (by omega) (by omega)]
      refine ⟨fun c => ⟨hx'.1.1, ?_⟩, fun c => ⟨hx'.1.1, ?_⟩⟩
      · rw [e38]
        rintro M7 rfl
        have g7 : FrM M (x_si M' m 41 (nI i)) m [38, 41] [] := (g.wk (by decide) (by decide)).sm (by decide)
        have hx7 := hx.fr g7 (by decide) (by decide)
        have e38' : x_i (x_si M' m 41 (nI i)) m 38 = nI i := by rw [xi_nk (by omega)]; exact e38
        have e41' : x_i (x_si M' m 41 (nI i)) m 41 = nI i := xi_eq
        have e42' : x_i (x_si M' m 41 (nI i)) m 42 = 0 := by rw [g7.fm (by decide)]; exact h42
        generalize x_si M' m 41 (nI i) = M7 at g7 hx7 e38' e41' e42' ⊢
        rw [e38']
        refine ur_byteAt (d + 2) hx7 (by omega) ⟨_, rfl, ?_⟩
        have up : ∀ M2, FrM M7 M2 m [38, 39, 40, 42, 45, 46] [] → RnO M7 M2 m L t (tl t L i) → Q none M2 := fun M2 g2 h2 => hQ M2 ((g7.wk (by decide) (by decide)).tr g2 (by decide) (by decide)) (by
          rw [hl] at h2
          exact ⟨fun q => ⟨(g7.wk (by decide) (by decide)).tr (h2.1 q).1 (by decide) (by decide), (h2.1 q).2⟩, h2.2⟩)
        refine ⟨fun _ => ur_isDigit (d + 1) (byA_256 hb).1 (fun c2 => ⟨1, rfl, fun q => absurd q (by decide), fun _ => ⟨hx7.1.1, ?_⟩⟩) (fun c2 => ⟨0, rfl, fun _ => ur_isLetter (d + 1) (byA_256 hb).1 (fun c3 => ⟨1, rfl, fun q => absurd q (by decide), fun _ => ⟨hx7.1.1, ?_⟩⟩) (fun c3 => ⟨0, rfl, fun _ => ⟨hx7.1.1, ?_⟩, fun q => absurd rfl q⟩), fun q => absurd rfl q⟩), fun c1 => absurd c1 (by rw [hb0]; exact nI_m1 (by omega))⟩
        · rw [byA_in (by omega)] at c2
          exact ur_digits d hx7 (by omega) e38' e41' e42' c (fun z => by have := z.1; have := c2.2; omega) c2 (fun M2 g2 _ h2 => ⟨rfl, up M2 g2 h2⟩)
        · rw [byA_in (by omega)] at c3
          exact ur_letters d hx7 (by omega) e38' e41' e42' c c3 (fun M2 g2 h2 => ⟨rfl, up M2 g2 h2⟩)
        · rw [byA_in (by omega)] at c2 c3
          rw [hb0]
          rintro M21 rfl M22 rfl M23 rfl
          have ex : x_i (x_si (x_si M7 m 39 10) m 40 (nI (t i))) m 38 + 1 = nI (i + 1) := by rw [xi_nk (by omega), xi_nk (by omega), e38', nI_1]
          rw [ex]
          have g23 : FrM M7 (x_si (x_si (x_si M7 m 39 10) m 40 (nI (t i))) m 38 (nI (i + 1))) m [38, 39, 40] [] := ((FrM.rf.sm (by decide)).sm (by decide)).sm (by decide)
          have f39 : x_i (x_si (x_si (x_si M7 m 39 10) m 40 (nI (t i))) m 38 (nI (i + 1))) m 39 = 10 := by rw [xi_nk (by omega), xi_nk (by omega), xi_eq]
          have f40 : x_i (x_si (x_si (x_si M7 m 39 10) m 40 (nI (t i))) m 38 (nI (i + 1))) m 40 = nI (t i) := by rw [xi_nk (by omega), xi_eq]
          have f38 : x_i (x_si (x_si (x_si M7 m 39 10) m 40 (nI (t i))) m 38 (nI (i + 1))) m 38 = nI (i + 1) := xi_eq
          generalize x_si (x_si (x_si M7 m 39 10) m 40 (nI (t i))) m 38 (nI (i + 1)) = M23 at g23 f39 f40 f38 ⊢
          have hx23 := hx7.fr g23 (by decide) (by decide)
          have f41 : x_i M23 m 41 = nI i := by rw [g23.fm (by decide)]; exact e41'
          have hk0 : ¬ isUp t L i → tkK t L i = sgK (t i) ∧ tkN t L i = i + 1 := fun q => ⟨by unfold tkK; rw [if_neg c3, if_neg c2, if_neg q], by unfold tkN; rw [if_neg c3, if_neg c2, if_neg q]⟩
          have good : ∀ k, sgK (t i) = k → 11 ≤ k → k ≤ 17 → chK k = t i → ¬ t i = 60 → LX12_next_152 G (d + 3) 0 0 m (nI (t i)) 1 M23 Q := by
            intro k hk k1 k2 hch h60
            obtain ⟨hk1, hk2⟩ := hk0 (fun z => h60 z.1)
            refine vX12_next_152 _ _ _ ⟨fun _ => ?_, fun q => absurd q (by decide)⟩
            rw [show (60 : Int32) = nI 60 from rfl, nI_eq (by omega) (by omega)]
            refine ⟨fun _ => up M23 (g23.wk (by decide) (by decide)) (rn_ok (by omega) c (g23.wk (by decide) (by decide)) (by omega) f41 ?_ (fun q => by omega) (fun q => ?_) f38 hk2), fun q => absurd q h60⟩
            · rw [f39, hk1, hk]
              have : rtK k = 10 := by unfold rtK; rw [if_neg (by omega), if_neg (by omega), if_neg (by omega)]
              rw [this]; rfl
            · rw [f40, hk1, hk, hch]
          have lt60 : t i = 60 → LX12_next_152 G (d + 3) 0 0 m (nI (t i)) 1 M23 Q := by
            intro h60
            refine vX12_next_152 _ _ _ ⟨fun _ => ?_, fun q => absurd q (by decide)⟩
            rw [show (60 : Int32) = nI 60 from rfl, nI_eq (by omega) (by omega)]
            refine ⟨fun q => absurd h60 q, fun _ => ⟨hx23.1.1, ?_⟩⟩
            rw [f38]
            refine ur_byteAt (d + 2) hx23 (by omega) ⟨_, rfl, ?_⟩
            rw [show (61 : Int32) = nI 61 from rfl, bI_eq (byA_256 hb).1 (by omega)]
            refine ⟨fun q => ?_, fun q => ⟨hx23.1.1, ?_⟩⟩
            · obtain ⟨hk1, hk2⟩ := hk0 (fun z => q z.2)
              have hk : sgK (t i) = 17 := by rw [h60]; rfl
              refine up M23 (g23.wk (by decide) (by decide)) (rn_ok (by omega) c (g23.wk (by decide) (by decide)) (by omega) f41 ?_ (fun q => by omega) (fun q => ?_) f38 hk2)
              · rw [f39, hk1, hk]; rfl
              · rw [f40, hk1, hk, h60]; rfl
            · rintro M9 rfl M10 rfl
              have hup : isUp t L i := ⟨h60, q⟩
              have hk : tkK t L i = 18 := by unfold tkK; rw [if_neg c3, if_neg c2, if_pos hup]
              have eN : tkN t L i = i + 2 := by unfold tkN; rw [if_neg c3, if_neg c2, if_pos hup]
              have g10 : FrM M7 (x_si (x_si M23 m 39 11) m 38 (x_i (x_si M23 m 39 11) m 38 + 1)) m [38, 39, 40] [] := (g23.sm (by decide)).sm (by decide)
              refine up _ (g10.wk (by decide) (by decide)) (rn_ok (by omega) c (g10.wk (by decide) (by decide)) (by omega) ?_ ?_ (fun q => by omega) (fun q => by omega) ?_ eN)
              · rw [xi_nk (by omega), xi_nk (by omega)]; exact f41
              · rw [xi_nk (by omega), xi_eq, hk]; rfl
              · rw [xi_eq, xi_nk (by omega), f38, nI_1]
          have bad : ¬ t i = 40 → ¬ t i = 41 → ¬ t i = 91 → ¬ t i = 93 → ¬ t i = 43 → ¬ t i = 61 → ¬ t i = 60 → LX12_next_152 G (d + 3) 0 0 m (nI (t i)) 0 M23 Q := by
            intro n1 n2 n3 n4 n5 n6 n7
            obtain ⟨hk1, hk2⟩ := hk0 (fun z => n7 z.1)
            have hk : tkK t L i = 1 := by rw [hk1]; unfold sgK; rw [if_neg n1, if_neg n2, if_neg n3, if_neg n4, if_neg n5, if_neg n6, if_neg n7]
            refine vX12_next_152 _ _ _ ⟨fun q => absurd rfl q, fun _ => ⟨hx23.1.1, ur_cannot (p := i) (d + 2) hx23.1.1 (Or.inl ⟨by rw [g23.fm (by decide)]; exact e42', f41⟩) (fun M13 g13 f13 => ⟨rfl, up M13 ((g23.wk (by decide) (by decide)).tr g13 (by decide) (by decide)) (rn_bad (by omega) c hk f13)⟩)⟩⟩
          rw [show (40 : Int32) = nI 40 from rfl, show (41 : Int32) = nI 41 from rfl, show (91 : Int32) = nI 91 from rfl, show (93 : Int32) = nI 93 from rfl, show (43 : Int32) = nI 43 from rfl, show (61 : Int32) = nI 61 from rfl, show (60 : Int32) = nI 60 from rfl, nI_eq (by omega) (by omega), nI_eq (by omega) (by omega), nI_eq (by omega) (by omega), nI_eq (by omega) (by omega), nI_eq (by omega) (by omega), nI_eq (by omega) (by omega), nI_eq (by omega) (by omega)]
          refine ⟨fun q => good 11 (by rw [q]; rfl) (by omega) (by omega) (by rw [q]; rfl) (by omega), fun n1 => ⟨fun q => good 12 (by rw [q]; rfl) (by omega) (by omega) (by rw [q]; rfl) (by omega), fun n2 => ⟨fun q => good 13 (by rw [q]; rfl) (by omega) (by omega) (by rw [q]; rfl) (by omega), fun n3 => ⟨fun q => good 14 (by rw [q]; rfl) (by omega) (by omega) (by rw [q]; rfl) (by omega), fun n4 => ⟨fun q => good 15 (by rw [q]; rfl) (by omega) (by omega) (by rw [q]; rfl) (by omega), fun n5 => ⟨fun q => good 16 (by rw [q]; rfl) (by omega) (by omega) (by rw [q]; rfl) (by omega), fun n6 => ⟨fun q => bad n1 n2 n3 n4 n5 n6 q, fun q => lt60 q⟩⟩⟩⟩⟩⟩⟩
      · rintro M40 rfl
        rw [e38, nI_1]
        exact ih (i + 1) _ (by omega) (by rw [← hl]; exact (tl_sp (by omega) c).symm) (g.sm (by decide)) xi_eq
  refine call_of (by decide) (Nat.le_of_ble_eq_true rfl) ?_
  exact key (L - p) p M (by omega) rfl FrM.rf h38
end RNextC
