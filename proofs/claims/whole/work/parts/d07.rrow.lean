/-! ===== the reference: a row with its index ===== -/
section RRowC
variable {G : GG} {M : Mem} {m L rc : Nat} {t wd : Nat → Nat} {Q : Option Value → Mem → Prop}
abbrev FRp : List Nat := [38, 39, 40, 41, 42, 45, 46, 69, 70, 71, 72]
theorem blO_comm {o : Option Nat} {a b : Nat} : blO (blO o a) b = blO (blO o b) a := by
  cases o with
  | none => show some (min b a) = some (min a b); rw [Nat.min_comm]
  | some q =>
    show some (min b (min a q)) = some (min a (min b q))
    congr 1
    omega
/-- need(']') in every state -/
theorem ur_needX (d : Nat) (hE : RfE M m L rc t wd) {s : PSt} (hX : RfX M m L t s) {k : Nat} (h1 : 11 ≤ k) (h2 : k ≤ 17) (hQ1 : kdT (q_l s) = k → ∀ M', FrM M M' m [38, 39, 40, 41, 42, 45, 46] [] → RfX M' m L t (tlS s) → Q none M') (hQ0 : kdT (q_l s) ≠ k → ∀ M', FrM M M' m [38, 39, 40, 41, 42, 45, 46] [] → RfG M' m (plT L (q_l s)) → Q none M') : Call G (d + 5) 0 0 mX12_need [.ref m, .int (nI (chK k))] M Q := by
  by_cases cb : kdT (q_l s) = 1
  · exact ur_needG (d + 3) hE.1.1.1 (hX.2 cb) (hQ0 (by omega))
  · exact ur_need d hE (hX.1 cb) h1 h2 hQ1 hQ0
theorem ur_rp112 (d : Nat) (hE : RfE M m L rc t wd) {l : List Tk} {c : Nat} {D : Nat → PD} {o : Option Nat} {b nm w a : Nat} {x1 x2 : Int32} (hX : RfX M m L t (l, c, D, o, b, nm)) (h69 : x_i M m 69 = nI w) (h70 : x_i M m 70 = nI a) (h71 : x_i M m 71 = -1) (h72 : x_i M m 72 = 0)
    (hQ0 : ∀ p M', (¬ (kdT l = 2 ∨ kdT l = 3) ∧ p = plT L l) ∨ ((kdT l = 2 ∨ kdT l = 3) ∧ kdT l.tail ≠ 14 ∧ p = plT L l.tail) → FrM M M' m FRp [] → RfG M' m p → Q none M')
    (hQ1 : (kdT l = 2 ∨ kdT l = 3) → kdT l.tail = 14 → ∀ M', FrM M M' m FRp [] → RfX M' m L t (l.tail.tail, c, D, (if kdT l = 2 ∧ 3 < woT l then blO o (plT L l) else o), b, nm) → x_i M' m 69 = nI w → x_i M' m 70 = nI a → x_i M' m 71 = nbI (if kdT l = 3 then some (woT l) else none) → x_i M' m 72 = nI (if kdT l = 2 then woT l else 0) → Q none M') :
    LX12_rowPlace_112 G (d + 5) 0 0 m x1 x2 M Q := by
  have hs := hE.1.1
  by_cases cb : kdT l = 1
  · have hG := hX.2 cb
    refine vX12_rowPlace_112 _ _ _ ⟨hs.1, fun _ => ⟨fun _ => ur_cannotG (d + 4) hs.1 hG (fun M' g f => ⟨rfl, hQ0 _ M' (Or.inl ⟨by omega, rfl⟩) (g.wk (by decide) (by decide)) f⟩), fun q => absurd (hG.1.2.2.2.symm.trans q) (by decide)⟩, fun q => absurd (hG.1.2.2.2.symm.trans q) (by decide)⟩
  have hI := hX.1 cb
  have hGd : GdT L l := hI.1.2.2.1
  have hL := hE.1.2.2.1
  have hpl := gd_le l hGd
  have k2 : x_i M m 39 = 1 ↔ kdT l = 2 := hI.tk (j := 2) (by omega) (by omega) (by omega)
  have k3 : x_i M m 39 = 2 ↔ kdT l = 3 := hI.tk (j := 3) (by omega) (by omega) (by omega)
  have fin : ∀ M2 o2, (kdT l = 2 ∨ kdT l = 3) → FrM M M2 m FRp [] → RfI M2 m L t (l, c, D, o2, b, nm) → (if kdT l = 2 ∧ 3 < woT l then blO o (plT L l) else o) = o2 → x_i M2 m 69 = nI w → x_i M2 m 70 = nI a → x_i M2 m 71 = nbI (if kdT l = 3 then some (woT l) else none) → x_i M2 m 72 = nI (if kdT l = 2 then woT l else 0) → Call G (d + 5) 0 0 mX12_next [.ref m] M2 (fun r8 M9 => r8 = none ∧ (x_h M9 m).1 = 28 ∧ Call G (d + 5) 0 0 mX12_need [.ref m, .int 93] M9 (fun r11 M12 => r11 = none ∧ Q none M12)) := by
    intro M2 o2 hk g2 hI2 eo e69 e70 e71 e72
    have hE2 := hE.fr (g2.wk (by decide) (by decide))
    refine ur_nextS (d + 1) hE2 hI2 (show kdT l ≠ 0 by omega) (fun M9 g9 hX9 => ?_)
    have g9' : FrM M M9 m FRp [] := g2.tr g9 (by decide) (by decide)
    have hE9 := hE.fr (g9'.wk (by decide) (by decide))
    refine ⟨rfl, hE9.1.1.1, ur_needX (k := 14) d hE9 hX9 (by omega) (by omega) (fun e M' g f => ⟨rfl, ?_⟩) (fun e M' g f => ⟨rfl, hQ0 _ M' (Or.inr ⟨hk, e, rfl⟩) (g9'.tr g (by decide) (by decide)) f⟩)⟩
    have f70 : ∀ k, k ∉ [38, 39, 40, 41, 42, 45, 46] → x_i M' m k = x_i M2 m k := fun k hk => by rw [g.fm hk, g9.fm hk]
    refine hQ1 hk e M' (g9'.tr g (by decide) (by decide)) ?_ (by rw [f70 69 (by decide)]; exact e69) (by rw [f70 70 (by decide)]; exact e70) (by rw [f70 71 (by decide)]; exact e71) (by rw [f70 72 (by decide)]; exact e72)
    rw [eo]
    exact f
  refine vX12_rowPlace_112 _ _ _ ⟨hs.1, fun c3 => ⟨fun c2 => ?_, fun c2 => ?_⟩, fun c3 => ?_⟩
  · exact ur_cannotS (d + 4) hE hI (fun M' g f => ⟨rfl, hQ0 _ M' (Or.inl ⟨fun q => q.elim (fun z => c2 (k2.mpr z)) (fun z => c3 (k3.mpr z)), rfl⟩) (g.wk (by decide) (by decide)) f⟩)
  · have c2' := k2.mp c2
    have e40 : x_i M m 40 = nI (woT l) := hI.1.1.2.2.1 (Or.inl c2')
    have e41 : x_i M m 41 = nI (plT L l) := hI.1.1.1
    have hw : woT l < 100 := (gd_tail hGd (by omega)).2.2.2.2.2.1 c2'
    rintro M6 rfl
    have g6 : FrM M (x_si M m 72 (x_i M m 40)) m [72] [] := FrM.rf.sm (by decide)
    have hI6 : RfI (x_si M m 72 (x_i M m 40)) m L t (l, c, D, o, b, nm) := hI.fr g6 (by decide) (by decide)
    have hE6 := hE.fr (g6.wk (by decide) (by decide))
    have e72 : x_i (x_si M m 72 (x_i M m 40)) m 72 = nI (if kdT l = 2 then woT l else 0) := by rw [xi_eq, e40, if_pos c2']
    have e71 : x_i (x_si M m 72 (x_i M m 40)) m 71 = nbI (if kdT l = 3 then some (woT l) else none) := by rw [xi_nk (by omega), h71, if_neg (by omega)]; rfl
    have e70 : x_i (x_si M m 72 (x_i M m 40)) m 70 = nI a := by rw [xi_nk (by omega)]; exact h70
    have e69 : x_i (x_si M m 72 (x_i M m 40)) m 69 = nI w := by rw [xi_nk (by omega)]; exact h69
    have e40' : x_i (x_si M m 72 (x_i M m 40)) m 40 = nI (woT l) := by rw [xi_nk (by omega)]; exact e40
    have e41' : x_i (x_si M m 72 (x_i M m 40)) m 41 = nI (plT L l) := by rw [xi_nk (by omega)]; exact e41
    rw [e40', show (3 : Int32) = nI 3 from rfl, nI_leI (by omega) (by omega), e41']
    refine ⟨fun q => fin _ o (Or.inl c2') (g6.wk (by decide) (by decide)) hI6 (if_neg (by omega)) e69 e70 e71 e72, fun q => ur_notesS (d + 4) hE6 hI6 (by omega) (fun M14 g14 h14 => ⟨rfl, ?_⟩)⟩
    have g14' : FrM M M14 m FRp [] := (g6.wk (by decide) (by decide)).tr g14 (by decide) (by decide)
    exact ⟨(g14'.S hs).1, fin M14 _ (Or.inl c2') g14' h14 (if_pos ⟨c2', by omega⟩) (by rw [g14.fm (by decide)]; exact e69) (by rw [g14.fm (by decide)]; exact e70) (by rw [g14.fm (by decide)]; exact e71) (by rw [g14.fm (by decide)]; exact e72)⟩
  · have c3' := k3.mp c3
    have e40 : x_i M m 40 = nI (woT l) := hI.1.1.2.2.1 (Or.inr (Or.inl c3'))
    rintro M21 rfl
    have g6 : FrM M (x_si M m 71 (x_i M m 40)) m [71] [] := FrM.rf.sm (by decide)
    have hI6 : RfI (x_si M m 71 (x_i M m 40)) m L t (l, c, D, o, b, nm) := hI.fr g6 (by decide) (by decide)
    refine fin _ o (Or.inr c3') (g6.wk (by decide) (by decide)) hI6 (if_neg (by omega)) (by rw [xi_nk (by omega)]; exact h69) (by rw [xi_nk (by omega)]; exact h70) ?_ ?_
    · rw [xi_eq, e40, if_pos c3']; rfl
    · rw [xi_nk (by omega), h72, if_neg (by omega)]; rfl
theorem ur_rp31 (d : Nat) (hE : RfE M m L rc t wd) {l : List Tk} {c : Nat} {D : Nat → PD} {o o1 : Option Nat} {b nm : Nat} (hI : RfI M m L t (l, c, D, o1, b, nm)) (hk : kdT l = 4) (h69 : x_i M m 69 = nI (woT l)) (ho1 : o1 = if woT l < rc then o else blO o (plT L l))
    (hQ0 : ∀ p M', tEn L rc wd l o nm = .inl p → FrM M M' m FRp [] → RfG M' m p → Q none M')
    (hQ1 : ∀ S' l' o' nm' M', tEn L rc wd l o nm = .inr (S', l', o', nm') → FrM M M' m FRp [] → RfX M' m L t (l', c, D, o', b, nm') → (∃ w a mb v, S' = (some w, tfAB a mb, v, nsAB a mb) ∧ w < 10 ∧ a < 8 ∧ (∀ c, mb = some c → c < 8) ∧ v < 100 ∧ x_i M' m 69 = nI w ∧ x_i M' m 70 = nI a ∧ x_i M' m 71 = nbI mb ∧ x_i M' m 72 = nI v) → Q none M') :
    LX12_rowPlace_31 G (d + 5) 0 0 m (nI (plT L l)) (if woT l < rc then 1 else 0) M Q := by
  have hs := hE.1.1
  have hGd : GdT L l := hI.1.2.2.1
  have hL := hE.1.2.2.1
  have hpl := gd_le l hGd
  obtain ⟨t1, -, -, t4⟩ := gd_tail hGd (show kdT l ≠ 0 by omega)
  have hw : woT l < 10 := t4.2.2.2.2 hk
  have u2 : kdT l.tail ≠ 13 → tEn L rc wd l o nm = .inl (plT L l.tail) := fun e2 => by unfold tEn; rw [if_pos hk, if_neg e2]
  have u3 : kdT l.tail = 13 → kdT l.tail.tail ≠ 3 → tEn L rc wd l o nm = .inl (plT L l.tail.tail) := fun e2 e3 => by unfold tEn; rw [if_pos hk, if_pos e2, if_neg e3]
  have u4 : kdT l.tail = 13 → kdT l.tail.tail = 3 → kdT l.tail.tail.tail ≠ 15 → tEn L rc wd l o nm = tEz L rc wd (woT l) (plT L l) false (some (woT l), tfAB (woT l.tail.tail) none, 0, nsAB (woT l.tail.tail) none) l.tail.tail.tail o nm := fun e2 e3 e4 => by unfold tEn; rw [if_pos hk, if_pos e2, if_pos e3, if_neg e4, adN1]
  have u5 : kdT l.tail = 13 → kdT l.tail.tail = 3 → kdT l.tail.tail.tail = 15 → tEn L rc wd l o nm = (match tT L 3 (some (woT l), tfAB (woT l.tail.tail) none, 0, nsAB (woT l.tail.tail) none) l.tail.tail.tail.tail o with | .inl p => .inl p | .inr (S, l', o') => tEz L rc wd (woT l) (plT L l) true S l' o' nm) := fun e2 e3 e4 => by unfold tEn; rw [if_pos hk, if_pos e2, if_pos e3, if_pos e4, adN1]; rfl
  have stop : ∀ p M6, FrM M M6 m FRp [] → RfG M6 m p → tEn L rc wd l o nm = .inl p → (x_h M6 m).1 = 28 ∧ (∀ M8, M8 = x_si M6 m 71 (-1) → ∀ M9, M9 = x_si M8 m 72 0 → (x_i M9 m 39 = 0 ∧ Call G (d + 5) 0 0 mX12_cannot [.ref m] M9 (fun r33 M34 => r33 = none ∧ Q none M34))) := by
    intro p M6 g6 f6 e
    refine ⟨(g6.S hs).1, ?_⟩
    rintro M8 rfl M9 rfl
    have g9 : FrM M6 (x_si (x_si M6 m 71 (-1)) m 72 0) m [71, 72] [] := (FrM.rf.sm (by decide)).sm (by decide)
    have f9 := f6.fr g9 (by decide) (by decide) (by decide) (by decide) (by decide)
    have g9' : FrM M (x_si (x_si M6 m 71 (-1)) m 72 0) m FRp [] := g6.tr g9 (by decide) (by decide)
    exact ⟨f9.1.2.2.2, ur_cannotG (d + 4) (g9'.S hs).1 f9 (fun M' g f => ⟨rfl, hQ0 p M' e (g9'.tr g (by decide) (by decide)) f⟩)⟩
  refine vX12_rowPlace_31 _ _ _ ⟨hs.1, ur_nextS (d + 1) hE hI (show kdT l ≠ 0 by omega) (fun M3 g3 hX3 => ⟨rfl, ?_⟩)⟩
  have g3' : FrM M M3 m FRp [] := g3.wk (by decide) (by decide)
  have hE3 := hE.fr (g3'.wk (by decide) (by decide))
  refine ⟨hE3.1.1.1, ur_needX (k := 13) d hE3 hX3 (by omega) (by omega) (fun e13 M6 g6 hX6 => ⟨rfl, ?_⟩) (fun e13 M6 g6 f6 => ⟨rfl, ?_⟩)⟩
  rotate_left
  · obtain ⟨a1, a2⟩ := stop _ M6 (g3'.tr g6 (by decide) (by decide)) f6 (u2 e13)
    refine ⟨a1, fun M8 e8 M9 e9 => ?_⟩
    obtain ⟨b1, b2⟩ := a2 M8 e8 M9 e9
    exact ⟨fun q => absurd (b1.symm.trans q) (by decide), fun _ => b2⟩
  have e13' : kdT l.tail = 13 := e13
  obtain ⟨v1, -⟩ := gd_tail t1 (show kdT l.tail ≠ 0 by omega)
  have g6' : FrM M M6 m FRp [] := g3'.tr g6 (by decide) (by decide)
  by_cases cb6 : kdT l.tail.tail = 1
  · obtain ⟨a1, a2⟩ := stop _ M6 g6' (hX6.2 cb6) (u3 e13' (by omega))
    refine ⟨a1, fun M8 e8 M9 e9 => ?_⟩
    obtain ⟨b1, b2⟩ := a2 M8 e8 M9 e9
    exact ⟨fun q => absurd (b1.symm.trans q) (by decide), fun _ => b2⟩
  have hI6 : RfI M6 m L t (l.tail.tail, c, D, o1, b, nm) := hX6.1 cb6
  refine ⟨(g6'.S hs).1, ?_⟩
  rintro M8 rfl M9 rfl
  have g9 : FrM M6 (x_si (x_si M6 m 71 (-1)) m 72 0) m [71, 72] [] := (FrM.rf.sm (by decide)).sm (by decide)
  have g9' : FrM M (x_si (x_si M6 m 71 (-1)) m 72 0) m FRp [] := g6'.tr g9 (by decide) (by decide)
  have e71 : x_i (x_si (x_si M6 m 71 (-1)) m 72 0) m 71 = -1 := by rw [xi_nk (by omega), xi_eq]
  have e72 : x_i (x_si (x_si M6 m 71 (-1)) m 72 0) m 72 = 0 := xi_eq
  have e69 : x_i (x_si (x_si M6 m 71 (-1)) m 72 0) m 69 = nI (woT l) := by rw [xi_nk (by omega), xi_nk (by omega), g6.fm (by decide), g3.fm (by decide)]; exact h69
  have hI9 : RfI (x_si (x_si M6 m 71 (-1)) m 72 0) m L t (l.tail.tail, c, D, o1, b, nm) := hI6.fr g9 (by decide) (by decide)
  generalize x_si (x_si M6 m 71 (-1)) m 72 0 = M9 at g9' e71 e72 e69 hI9 ⊢
  have hE9 := hE.fr (g9'.wk (by decide) (by decide))
  have k3 : x_i M9 m 39 = 2 ↔ kdT l.tail.tail = 3 := hI9.tk (j := 3) (by omega) (by omega) (by omega)
  refine ⟨fun c3 => ?_, fun c3 => ur_cannotS (d + 4) hE9 hI9 (fun M' g f => ⟨rfl, hQ0 _ M' (u3 e13' (fun z => c3 (k3.mpr z))) (g9'.tr g (by decide) (by decide)) f⟩)⟩
  have c3' := k3.mp c3
  have e40 : x_i M9 m 40 = nI (woT l.tail.tail) := hI9.1.1.2.2.1 (Or.inr (Or.inl c3'))
  obtain ⟨x1, -, -, x4⟩ := gd_tail v1 (show kdT l.tail.tail ≠ 0 by omega)
  have ha : woT l.tail.tail < 8 := x4.2.2.2.1 c3'
  rintro M11 rfl
  rw [e40]
  have g11 : FrM M9 (x_si M9 m 70 (nI (woT l.tail.tail))) m [70] [] := FrM.rf.sm (by decide)
  have g11' : FrM M (x_si M9 m 70 (nI (woT l.tail.tail))) m FRp [] := g9'.tr g11 (by decide) (by decide)
  have hI11 : RfI (x_si M9 m 70 (nI (woT l.tail.tail))) m L t (l.tail.tail, c, D, o1, b, nm) := hI9.fr g11 (by decide) (by decide)
  have e70 : x_i (x_si M9 m 70 (nI (woT l.tail.tail))) m 70 = nI (woT l.tail.tail) := xi_eq
  have e69' : x_i (x_si M9 m 70 (nI (woT l.tail.tail))) m 69 = nI (woT l) := by rw [xi_nk (by omega)]; exact e69
  have e71' : x_i (x_si M9 m 70 (nI (woT l.tail.tail))) m 71 = -1 := by rw [xi_nk (by omega)]; exact e71
  have e72' : x_i (x_si M9 m 70 (nI (woT l.tail.tail))) m 72 = 0 := by rw [xi_nk (by omega)]; exact e72
  generalize x_si M9 m 70 (nI (woT l.tail.tail)) = M11 at g11' hI11 e70 e69' e71' e72' ⊢
  have hE11 := hE.fr (g11'.wk (by decide) (by decide))
  refine ur_nextS (d + 1) hE11 hI11 (show kdT l.tail.tail ≠ 0 by omega) (fun M13 g13 hX13 => ⟨rfl, ?_⟩)
  have g13' : FrM M M13 m FRp [] := g11'.tr g13 (by decide) (by decide)
  have hE13 := hE.fr (g13'.wk (by decide) (by decide))
  have f13 : ∀ k, k ∉ [38, 39, 40, 41, 42, 45, 46] → x_i M13 m k = x_i M11 m k := fun k hk => g13.fm hk
  have noplus : kdT l.tail.tail.tail ≠ 15 → Call G (d + 5) 0 0 mX12_need [.ref m, .int 93] M13 (fun r20 M21 => r20 = none ∧ Q none M21) := by
    intro c15
    have eu := u4 e13' c3' c15
    refine ur_needX (k := 14) d hE13 hX13 (by omega) (by omega) (fun e M' g f => ⟨rfl, ?_⟩) (fun e M' g f => ⟨rfl, hQ0 _ M' ?_ (g13'.tr g (by decide) (by decide)) f⟩)
    · have e' : kdT l.tail.tail.tail = 14 := e
      have f70 : ∀ k, k ∉ [38, 39, 40, 41, 42, 45, 46] → x_i M' m k = x_i M11 m k := fun k hk => by rw [g.fm hk, f13 k hk]
      have hX' : RfX M' m L t (l.tail.tail.tail.tail, c, D, o1, b, nm) := f
      have wit : ∃ w a mb v, ((some (woT l), tfAB (woT l.tail.tail) none, 0, nsAB (woT l.tail.tail) none) : SD) = (some w, tfAB a mb, v, nsAB a mb) ∧ w < 10 ∧ a < 8 ∧ (∀ c, mb = some c → c < 8) ∧ v < 100 ∧ x_i M' m 69 = nI w ∧ x_i M' m 70 = nI a ∧ x_i M' m 71 = nbI mb ∧ x_i M' m 72 = nI v :=
        ⟨woT l, woT l.tail.tail, none, 0, rfl, hw, ha, fun c h => (by cases h), by omega, by rw [f70 69 (by decide)]; exact e69', by rw [f70 70 (by decide)]; exact e70, by rw [f70 71 (by decide)]; exact e71', by rw [f70 72 (by decide)]; exact e72'⟩
      by_cases cw : woT l < rc
      · rw [if_pos cw] at ho1
        refine hQ1 _ _ o (nm ||| 2 ^ woT l) M' ?_ (g13'.tr g (by decide) (by decide)) (by rw [← ho1]; exact hX') wit
        rw [eu]; unfold tEz
        rw [if_pos e', if_neg (fun q => q.elim (fun z => by omega) (fun z => absurd z.1 (by decide)))]
      · rw [if_neg cw] at ho1
        refine hQ1 _ _ (blO o (plT L l)) nm M' ?_ (g13'.tr g (by decide) (by decide)) (by rw [← ho1]; exact hX') wit
        rw [eu]; unfold tEz
        rw [if_pos e', if_pos (Or.inl (by omega))]
    · have e' : ¬ kdT l.tail.tail.tail = 14 := e
      rw [eu]; unfold tEz
      rw [if_neg e']; rfl
  refine ⟨hE13.1.1.1, ?_⟩
  by_cases cb13 : kdT l.tail.tail.tail = 1
  · exact ur_isSignG (d + 4) hE13.1.1.1 (hX13.2 cb13) ⟨0, rfl, fun _ => ⟨hE13.1.1.1, noplus (by omega)⟩, fun q => absurd rfl q⟩
  have hI13 : RfI M13 m L t (l.tail.tail.tail, c, D, o1, b, nm) := hX13.1 cb13
  refine ur_isSign (k := 15) (d + 4) hE13 hI13 (by omega) (by omega) (fun c15 => ⟨1, rfl, fun q => absurd q (by decide), fun _ => ⟨hE13.1.1.1, ?_⟩⟩) (fun c15 => ⟨0, rfl, fun _ => ⟨hE13.1.1.1, noplus c15⟩, fun q => absurd rfl q⟩)
  have c15' : kdT l.tail.tail.tail = 15 := c15
  obtain ⟨y1, -⟩ := gd_tail x1 (show kdT l.tail.tail.tail ≠ 0 by omega)
  have eu := u5 e13' c3' c15'
  refine ur_nextS (d + 1) hE13 hI13 (show kdT l.tail.tail.tail ≠ 0 by omega) (fun M24 g24 hX24 => ⟨rfl, ?_⟩)
  have g24' : FrM M M24 m FRp [] := g13'.tr g24 (by decide) (by decide)
  have hE24 := hE.fr (g24'.wk (by decide) (by decide))
  have f24 : ∀ k, k ∉ [38, 39, 40, 41, 42, 45, 46] → x_i M24 m k = x_i M11 m k := fun k hk => by rw [g24.fm hk, f13 k hk]
  have go : ∀ M2 o2, FrM M M2 m FRp [] → RfX M2 m L t (l.tail.tail.tail.tail, c, D, o2, b, nm) → o2 = (if rc ≤ woT l ∨ 6 < wd (woT l) then blO o (plT L l) else o) → x_i M2 m 69 = nI (woT l) → x_i M2 m 70 = nI (woT l.tail.tail) → x_i M2 m 71 = -1 → x_i M2 m 72 = 0 → ∀ x2, LX12_rowPlace_112 G (d + 5) 0 0 m (nI (plT L l)) x2 M2 Q := by
    intro M2 o2 g2 hX2 eo2 i69 i70 i71 i72 x2
    refine ur_rp112 d (hE.fr (g2.wk (by decide) (by decide))) hX2 i69 i70 i71 i72 (fun p M' hp g f => hQ0 p M' ?_ (g2.tr g (by decide) (by decide)) f) (fun hk2 hk3 M' g f j69 j70 j71 j72 => ?_)
    · rw [eu]
      rcases hp with ⟨n1, rfl⟩ | ⟨n1, n2, rfl⟩
      · unfold tT
        rw [if_neg (fun z => n1 (Or.inl z)), if_neg (fun z => n1 (Or.inr z))]
      · unfold tT
        by_cases q2 : kdT l.tail.tail.tail.tail = 2
        · rw [if_pos q2]
          unfold tEz
          simp only
          rw [if_neg n2]
        · rw [if_neg q2, if_pos (by omega)]
          unfold tEz
          simp only
          rw [if_neg n2]
    · have hX' : RfX M' m L t (l.tail.tail.tail.tail.tail.tail, c, D, (if kdT l.tail.tail.tail.tail = 2 ∧ 3 < woT l.tail.tail.tail.tail then blO o2 (plT L l.tail.tail.tail.tail) else o2), b, nm) := f
      obtain ⟨z1, -, -, z4⟩ := gd_tail y1 (show kdT l.tail.tail.tail.tail ≠ 0 by omega)
      have hbad : (rc ≤ woT l ∨ ((true : Bool) = true ∧ 6 < wd (woT l))) ↔ (rc ≤ woT l ∨ 6 < wd (woT l)) := ⟨fun q => q.elim Or.inl (fun z => Or.inr z.2), fun q => q.elim Or.inl (fun z => Or.inr ⟨rfl, z⟩)⟩
      by_cases q2 : kdT l.tail.tail.tail.tail = 2
      · have hv : woT l.tail.tail.tail.tail < 100 := z4.2.2.1 q2
        rw [if_pos q2] at j72
        rw [if_neg (by omega)] at j71
        have eT : tT L 3 (some (woT l), tfAB (woT l.tail.tail) none, 0, nsAB (woT l.tail.tail) none) l.tail.tail.tail.tail o = .inr ((some (woT l), tfAB (woT l.tail.tail) none, 0 + woT l.tail.tail.tail.tail, nsAB (woT l.tail.tail) none), l.tail.tail.tail.tail.tail, if 0 + woT l.tail.tail.tail.tail ≤ 3 then o else blO o (plT L l.tail.tail.tail.tail)) := by
          unfold tT
          rw [if_pos q2]
          rfl
        rw [eT] at eu
        simp only at eu
        have wit : ∃ w a mb v, ((some (woT l), tfAB (woT l.tail.tail) none, 0 + woT l.tail.tail.tail.tail, nsAB (woT l.tail.tail) none) : SD) = (some w, tfAB a mb, v, nsAB a mb) ∧ w < 10 ∧ a < 8 ∧ (∀ c, mb = some c → c < 8) ∧ v < 100 ∧ x_i M' m 69 = nI w ∧ x_i M' m 70 = nI a ∧ x_i M' m 71 = nbI mb ∧ x_i M' m 72 = nI v :=
          ⟨woT l, woT l.tail.tail, none, 0 + woT l.tail.tail.tail.tail, rfl, hw, ha, fun c h => (by cases h), by omega, j69, j70, j71, by rw [Nat.zero_add]; exact j72⟩
        by_cases cB : rc ≤ woT l ∨ 6 < wd (woT l)
        · rw [if_pos cB] at eo2
          refine hQ1 _ l.tail.tail.tail.tail.tail.tail (blO (if 0 + woT l.tail.tail.tail.tail ≤ 3 then o else blO o (plT L l.tail.tail.tail.tail)) (plT L l)) nm M' ?_ (g2.tr g (by decide) (by decide)) ?_ wit
          · rw [eu]; unfold tEz; rw [if_pos hk3, if_pos (hbad.mpr cB)]
          · by_cases q3 : 3 < woT l.tail.tail.tail.tail
            · rw [if_pos ⟨q2, q3⟩, eo2, blO_comm] at hX'
              rw [if_neg (by omega)]
              exact hX'
            · rw [if_neg (fun z => q3 z.2), eo2] at hX'
              rw [if_pos (by omega)]
              exact hX'
        · rw [if_neg cB] at eo2
          refine hQ1 _ l.tail.tail.tail.tail.tail.tail (if 0 + woT l.tail.tail.tail.tail ≤ 3 then o else blO o (plT L l.tail.tail.tail.tail)) (nm ||| 2 ^ woT l) M' ?_ (g2.tr g (by decide) (by decide)) ?_ wit
          · rw [eu]; unfold tEz; rw [if_pos hk3, if_neg (fun z => cB (hbad.mp z))]
          · by_cases q3 : 3 < woT l.tail.tail.tail.tail
            · rw [if_pos ⟨q2, q3⟩, eo2] at hX'
              rw [if_neg (by omega)]
              exact hX'
            · rw [if_neg (fun z => q3 z.2), eo2] at hX'
              rw [if_pos (by omega)]
              exact hX'
      · have q3 : kdT l.tail.tail.tail.tail = 3 := by omega
        have hc8 : woT l.tail.tail.tail.tail < 8 := z4.2.2.2.1 q3
        rw [if_neg q2] at j72
        rw [if_pos q3] at j71
        rw [if_neg (fun z => q2 z.1), eo2] at hX'
        have eT : tT L 3 (some (woT l), tfAB (woT l.tail.tail) none, 0, nsAB (woT l.tail.tail) none) l.tail.tail.tail.tail o = .inr ((some (woT l), tfAB (woT l.tail.tail) (some (woT l.tail.tail.tail.tail)), 0, nsAB (woT l.tail.tail) (some (woT l.tail.tail.tail.tail))), l.tail.tail.tail.tail.tail, o) := by
          unfold tT
          rw [if_neg q2, if_pos q3, adN2]
        rw [eT] at eu
        simp only at eu
        have wit : ∃ w a mb v, ((some (woT l), tfAB (woT l.tail.tail) (some (woT l.tail.tail.tail.tail)), 0, nsAB (woT l.tail.tail) (some (woT l.tail.tail.tail.tail))) : SD) = (some w, tfAB a mb, v, nsAB a mb) ∧ w < 10 ∧ a < 8 ∧ (∀ c, mb = some c → c < 8) ∧ v < 100 ∧ x_i M' m 69 = nI w ∧ x_i M' m 70 = nI a ∧ x_i M' m 71 = nbI mb ∧ x_i M' m 72 = nI v :=
          ⟨woT l, woT l.tail.tail, some (woT l.tail.tail.tail.tail), 0, rfl, hw, ha, fun c h => (by cases h; exact hc8), by omega, j69, j70, j71, j72⟩
        by_cases cB : rc ≤ woT l ∨ 6 < wd (woT l)
        · rw [if_pos cB] at hX'
          refine hQ1 _ _ (blO o (plT L l)) nm M' ?_ (g2.tr g (by decide) (by decide)) hX' wit
          rw [eu]; unfold tEz; rw [if_pos hk3, if_pos (hbad.mpr cB)]
        · rw [if_neg cB] at hX'
          refine hQ1 _ _ o (nm ||| 2 ^ woT l) M' ?_ (g2.tr g (by decide) (by decide)) hX' wit
          rw [eu]; unfold tEz; rw [if_pos hk3, if_neg (fun z => cB (hbad.mp z))]
  have i69 : x_i M24 m 69 = nI (woT l) := by rw [f24 69 (by decide)]; exact e69'
  have i70 : x_i M24 m 70 = nI (woT l.tail.tail) := by rw [f24 70 (by decide)]; exact e70
  have i71 : x_i M24 m 71 = -1 := by rw [f24 71 (by decide)]; exact e71'
  have i72 : x_i M24 m 72 = 0 := by rw [f24 72 (by decide)]; exact e72'
  have hX24' : RfX M24 m L t (l.tail.tail.tail.tail, c, D, o1, b, nm) := hX24
  by_cases cw : woT l < rc
  · rw [if_pos cw] at ho1
    rw [if_pos cw]
    obtain ⟨w1, w2⟩ := hE24.2.2.2 _ cw
    refine ⟨fun q => absurd q (by decide), fun _ => ⟨hE24.1.1.1, m + 2, hE24.1.1.r2, by rw [hE24.1.1.h2], by rw [i69, hE24.1.1.h2]; exact vp_in_nI (show woT l < 10 by omega) (by omega), ?_⟩⟩
    rw [i69, nI_clamp (by omega), w1, show (6 : Int32) = nI 6 from rfl, nI_leI (by omega) (by omega)]
    refine ⟨fun q => go M24 o1 g24' hX24' (by rw [if_neg (by omega)]; exact ho1) i69 i70 i71 i72 _, fun q => ?_⟩
    by_cases cb24 : kdT l.tail.tail.tail.tail = 1
    · refine ur_notesG (d + 4) hE24.1.1.1 (hX24'.2 cb24) ⟨rfl, go M24 (blO o1 (plT L l)) g24' ⟨fun z => absurd cb24 z, fun z => hX24'.2 z⟩ ?_ i69 i70 i71 i72 _⟩
      rw [if_pos (Or.inr (by omega)), ho1]
    · refine ur_notesS (d + 4) hE24 (hX24'.1 cb24) (by omega) (fun M32 g32 h32 => ⟨rfl, go M32 (blO o1 (plT L l)) (g24'.tr g32 (by decide) (by decide)) ⟨fun _ => h32, fun z => absurd z cb24⟩ ?_ (by rw [g32.fm (by decide)]; exact i69) (by rw [g32.fm (by decide)]; exact i70) (by rw [g32.fm (by decide)]; exact i71) (by rw [g32.fm (by decide)]; exact i72) _⟩)
      rw [if_pos (Or.inr (by omega)), ho1]
  · rw [if_neg cw] at ho1
    rw [if_neg cw]
    exact ⟨fun _ => go M24 o1 g24' hX24' (by rw [if_pos (Or.inl (by omega))]; exact ho1) i69 i70 i71 i72 _, fun q => absurd rfl q⟩
theorem ur_rowPlace (d : Nat) (hE : RfE M m L rc t wd) {l : List Tk} {c : Nat} {D : Nat → PD} {o : Option Nat} {b nm : Nat} (hI : RfI M m L t (l, c, D, o, b, nm)) (hk : kdT l = 4)
    (hQ0 : ∀ p M', tEn L rc wd l o nm = .inl p → FrM M M' m FRp [] → RfG M' m p → Q none M')
    (hQ1 : ∀ S' l' o' nm' M', tEn L rc wd l o nm = .inr (S', l', o', nm') → FrM M M' m FRp [] → RfX M' m L t (l', c, D, o', b, nm') → (∃ w a mb v, S' = (some w, tfAB a mb, v, nsAB a mb) ∧ w < 10 ∧ a < 8 ∧ (∀ c, mb = some c → c < 8) ∧ v < 100 ∧ x_i M' m 69 = nI w ∧ x_i M' m 70 = nI a ∧ x_i M' m 71 = nbI mb ∧ x_i M' m 72 = nI v) → Q none M') :
    Call G (d + 6) 0 0 mX12_rowPlace [.ref m] M Q := by
  have hGd : GdT L l := hI.1.2.2.1
  have hL := hE.1.2.2.1
  have hpl := gd_le l hGd
  have e40 : x_i M m 40 = nI (woT l) := hI.1.1.2.2.1 (Or.inr (Or.inr hk))
  have e41 : x_i M m 41 = nI (plT L l) := hI.1.1.1
  have hw : woT l < 10 := (gd_tail hGd (by omega)).2.2.2.2.2.2.2 hk
  refine eX12_rowPlace m ⟨hE.1.1.1, ?_⟩
  rintro M2 rfl
  have g2 : FrM M (x_si M m 69 (x_i M m 40)) m [69] [] := FrM.rf.sm (by decide)
  have hI2 : RfI (x_si M m 69 (x_i M m 40)) m L t (l, c, D, o, b, nm) := hI.fr g2 (by decide) (by decide)
  have hE2 := hE.fr (g2.wk (by decide) (by decide))
  have e69 : x_i (x_si M m 69 (x_i M m 40)) m 69 = nI (woT l) := by rw [xi_eq]; exact e40
  have e40' : x_i (x_si M m 69 (x_i M m 40)) m 40 = nI (woT l) := by rw [xi_nk (by omega)]; exact e40
  have e41' : x_i (x_si M m 69 (x_i M m 40)) m 41 = nI (plT L l) := by rw [xi_nk (by omega)]; exact e41
  rw [e40', e41']
  have hrc := hE.2.2.1
  generalize x_si M m 69 (x_i M m 40) = M2 at g2 hI2 hE2 e69 e40' e41' ⊢
  have g2' : FrM M M2 m FRp [] := g2.wk (by decide) (by decide)
  refine ur_isRow (d + 3) hE2.1.1 hE2.2.1 hrc (fun hno => ⟨0, rfl, fun q => absurd rfl q, fun _ => ⟨hE2.1.1.1, ur_notesS (d + 4) hE2 hI2 (by omega) (fun M9 g9 h9 => ⟨rfl, ?_⟩)⟩⟩) (fun k hk2 e => ⟨1, rfl, fun _ => ?_, fun q => absurd q (by decide)⟩)
  · have cw : ¬ woT l < rc := fun z => hno _ z rfl
    have g9' : FrM M M9 m FRp [] := g2'.tr g9 (by decide) (by decide)
    have := ur_rp31 (G := G) (Q := Q) (l := l) (o := o) d (hE.fr (g9'.wk (by decide) (by decide))) h9 hk (by rw [g9.fm (by decide)]; exact e69) (if_neg cw).symm (fun p M' e g f => hQ0 p M' e (g9'.tr g (by decide) (by decide)) f) (fun S' l' o' nm' M' e g f w => hQ1 S' l' o' nm' M' e (g9'.tr g (by decide) (by decide)) f w)
    rw [if_neg cw] at this
    exact this
  · have cw : woT l < rc := by
      have := (nI_eq (a := woT l) (b := k) (by omega) (by omega)).mp e
      omega
    have := ur_rp31 (G := G) (Q := Q) (l := l) (o := o) d hE2 hI2 hk e69 (by rw [if_pos cw]) (fun p M' e g f => hQ0 p M' e (g2'.tr g (by decide) (by decide)) f) (fun S' l' o' nm' M' e g f w => hQ1 S' l' o' nm' M' e (g2'.tr g (by decide) (by decide)) f w)
    rw [if_pos cw] at this
    exact this
end RRowC
