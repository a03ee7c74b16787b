/-! ===== the reference: an atom of sums, whole ===== -/
section RAtom2C
variable {G : GG} {M : Mem} {m L rc : Nat} {t wd : Nat → Nat} {Q : Option Value → Mem → Prop}
abbrev FRx : List Nat := [38, 39, 40, 41, 42, 45, 46, 47, 66, 67, 68, 69, 70, 71, 72]
theorem ur_endG (d : Nat) (hs : ReS M m) {p : Nat} (hG : RfG M m p) {f x y z q pl how : Int32} (hQ : ∀ M' a, FrM M M' m [47] ARr → a < 130 → RfG M' m p → Q (some (.int (nI a))) M') : Call G (d + 2) 0 0 mX12_ended [.ref m, .int f, .int x, .int y, .int z, .int q] M (fun r40 M41 => ∃ v42 : Int32, r40 = some (.int v42) ∧ LX12_atom_128 G (d + 2) 0 0 m pl how v42 0 M41 Q) := by
  obtain ⟨hF, c, hc, h47⟩ := hG
  refine ur_ended (d + 1) hs hc h47 (fun M' g e47 _ _ _ _ _ _ => ⟨_, rfl, ?_⟩)
  refine ur_atom128 (d + 1) (g.S hs) hc (fun M2 g2 _ _ _ _ _ _ => hQ M2 c ((g.wk (by decide) (by decide)).tr g2 (by decide) (by decide)) (by omega) ⟨(hF.fr g (by decide) (by decide) (by decide) (by decide)).fr g2 (by decide) (by decide) (by decide) (by decide), (if c < 129 then c + 1 else c), by split <;> omega, by rw [g2.fm (by decide)]; exact e47⟩)
theorem ur_atomT (d : Nat) (hE : RfE M m L rc t wd) {s : PSt} {l : List Tk} {o : Option Nat} {A : SD} {κ : Nat} {how : Int32} (hI : RfI M m L t (l, q_c s, q_D s, o, q_b s, q_m s)) (hc : q_c s < 60) (hκ : kdT l = κ) (hκ2 : κ = 16 ∨ κ = 17 ∨ κ = 18) (hhow : how = nI (κ - 16)) (hA : s_s A < 256) (hT : TmI M m 1 (fun _ => 0) 0 0 A)
    (hQ0 : ∀ p M' a, tS L 121 s0D l.tail o = .inl p → FrM M M' m FRx ARr → a < 130 → RfG M' m p → Q (some (.int (nI a))) M')
    (hQ1 : ∀ B l' o' M' a, tS L 121 s0D l.tail o = .inr (B, l', o') → FrM M M' m FRx ARr → RfO M' m L t a (.inr (q_c s, enP (l', q_c s, q_D s, o', q_b s, q_m s) (0, plT L l, 0, 0, kdT l, s_s A ||| s_s B, A, B))) → Q (some (.int (nI a))) M') :
    Call G (d + 6) 0 0 mX12_next [.ref m] M (fun r34 M35 => r34 = none ∧ (x_h M35 m).1 = 28 ∧ Call G (d + 6) 0 0 mX12_sums [.ref m, .int (-1)] M35 (fun r37 M38 => r37 = none ∧ (x_h M38 m).1 = 28 ∧ Call G (d + 6) 0 0 mX12_ended [.ref m, .int 0, .int 0, .int 0, .int 0, .int (nI (plT L l))] M38 (fun r40 M41 => ∃ v42 : Int32, r40 = some (.int v42) ∧ LX12_atom_128 G (d + 6) 0 0 m (nI (plT L l)) how v42 0 M41 Q))) := by
  have hl0 : kdT l ≠ 0 := by omega
  refine ur_nextS (d + 2) hE hI hl0 (fun M35 g35 hX35 => ?_)
  have g35' : FrM M M35 m FRx ARr := g35.wk (by decide) (by decide)
  have hE35 := hE.fr (g35'.wk (by decide) (by decide))
  have hT35 := hT.fr g35 (by decide) (by decide) (by decide) (by decide)
  refine ⟨rfl, hE35.1.1.1, ?_⟩
  have fail : ∀ p M38, FrM M35 M38 m FRt [47] → RfG M38 m p → (∀ M' a, FrM M M' m FRx ARr → a < 130 → RfG M' m p → Q (some (.int (nI a))) M') → (x_h M38 m).1 = 28 ∧ Call G (d + 6) 0 0 mX12_ended [.ref m, .int 0, .int 0, .int 0, .int 0, .int (nI (plT L l))] M38 (fun r40 M41 => ∃ v42 : Int32, r40 = some (.int v42) ∧ LX12_atom_128 G (d + 6) 0 0 m (nI (plT L l)) how v42 0 M41 Q) := by
    intro p M38 g38 f38 hq
    have g38' : FrM M M38 m FRx ARr := g35'.tr g38 (by decide) (by decide)
    exact ⟨(g38'.S hE.1.1).1, ur_endG (d + 4) (g38'.S hE.1.1) f38 (fun M' a g' ha f' => hq M' a (g38'.tr g' (by decide) (by decide)) ha f')⟩
  by_cases cb : kdT l.tail = 1
  · refine ur_sumsG (d + 3) hE35.1.1.1 (hX35.2 cb) (fun M38 g38 f38 => ⟨rfl, fail _ M38 g38 f38 (fun M' a g' ha f' => hQ0 _ M' a (tS_bad cb) g' ha f')⟩)
  have hI35 : RfI M35 m L t (l.tail, q_c s, q_D s, o, q_b s, q_m s) := hX35.1 cb
  refine ur_sums (fm := fun k => 0 + 1 * (s_t A k : Int)) (fs := 0 + 1 * (s_n A : Int)) (fe := 0 ||| s_s A) (sg := -1) d hE35 hI35 (fun k hk => hT35.1 k hk) hT35.2.1 hT35.2.2.2 (Or.inr rfl) (fun p M38 e g38 f38 => ⟨rfl, fail _ M38 g38 f38 (fun M' a g' ha f' => hQ0 p M' a e g' ha f')⟩) (fun B l' o' M38 e g38 hX38 hT38 => ⟨rfl, ?_⟩)
  have g38' : FrM M M38 m FRx ARr := g35'.tr g38 (by decide) (by decide)
  have hs38 := g38'.S hE.1.1
  by_cases cb2 : kdT l' = 1
  · exact fail _ M38 g38 (hX38.2 cb2) (fun M' a g' ha f' => hQ1 B l' o' M' a e g' ⟨ha, ⟨fun q => absurd cb2 q, fun _ => f'⟩, fun q => absurd cb2 q⟩)
  have hI38 := hX38.1 cb2
  have h47 : x_i M38 m 47 = nI (q_c s) := hI38.1.2.2.2.2.2.2.2.2
  have hsB := tS_s _ hI35.1.2.2.1 (show s_s s0D < 256 by decide) e
  refine ⟨hs38.1, ur_ended (d + 5) hs38 (by omega) h47 (fun M41 g41 e47 e30 e31 e32 e33 e34 eo => ⟨_, rfl, ?_⟩)⟩
  rw [if_pos (by omega)] at e47
  refine ur_atom128 (d + 5) (g41.S hs38) (by omega) (fun M2 g2 k36 k37 k38 k35 ko k36o => ?_)
  have f41 : ∀ k, k ≠ 47 → x_i M41 m k = x_i M38 m k := fun k hk => g41.fm (by simp; exact hk)
  have t41 := hT38.fr g41 (by decide) (by decide) (by decide) (by decide)
  obtain ⟨u1, u2, u3, u4⟩ := t41
  have gall : FrM M M2 m FRx ARr := (g38'.tr g41 (by decide) (by decide)).tr g2 (by decide) (by decide)
  have eP : ∀ P, puD (q_D s) (q_c s) P (q_c s) = P := fun P => if_pos rfl
  refine hQ1 B l' o' M2 (q_c s) e gall ⟨by omega, ⟨fun _ => ?_, fun q => absurd q cb2⟩, fun _ => rfl⟩
  have n35 : ∀ o, 30 ≤ o → o ≤ 34 → x_i M2 (m + o) = x_i M41 (m + o) := fun o h1 h2 => g2.i (by omega) (by simp only [List.mem_cons, List.not_mem_nil, or_false]; omega)
  refine RfI.en (s := (l', q_c s, q_D s, o', q_b s, q_m s)) hI38 hc (fun k h1 h2 h3 => ?_) ?_ (fun o h1 h2 j hj => ?_) ?_ (fun q => absurd q (by show ¬ 2 ≤ 0; omega)) (or_256 hA hsB)
  · rw [g2.fm (by simp), f41 k (by omega)]
  · rw [g2.fm (by decide)]; exact e47
  · have hj' : (o ≠ 36 ∧ j ≠ q_c s) ∨ (o = 36 ∧ j < 8 * q_c s) := hj
    by_cases c34 : o ≤ 34
    · rw [n35 o h1 c34]
      exact eo o (by simp only [List.mem_cons, List.not_mem_nil, or_false]; omega) j (by omega)
    · have e41 : x_i M41 (m + o) = x_i M38 (m + o) := g41.i (by omega) (by simp only [List.mem_cons, List.not_mem_nil, or_false]; omega)
      rw [← e41]
      by_cases c36 : o = 36
      · rw [c36]; exact k36o j (by omega)
      · by_cases c38 : o ≤ 38
        · exact ko o (by simp only [List.mem_cons, List.not_mem_nil, or_false]; omega) j (by omega)
        · rw [g2.i (by omega) (by simp only [List.mem_cons, List.not_mem_nil, or_false]; omega)]
  · show ReD M2 m (puD (q_D s) (q_c s) _) (q_c s)
    unfold ReD
    rw [eP]
    refine ⟨?_, ?_, ?_, fun _ => ⟨fun n hn => ?_, ?_, ?_⟩, fun q => absurd q (by show ¬ 0 = 1; omega), fun q => absurd q (by show ¬ 2 ≤ 0; omega), fun q => absurd q.1 (by show ¬ 3 ≤ 0; omega), fun q => absurd q (by show ¬ (0 = 6 ∨ 0 = 7); omega)⟩
    · rw [n35 30 (by omega) (by omega)]; exact e30
    · rw [n35 34 (by omega) (by omega)]; exact e34
    · rw [k35, u4]
      show nI (0 ||| s_s A ||| s_s B) = nI (s_s A ||| s_s B)
      rw [Nat.zero_or]
    · rw [k36 n hn, u1 n hn]
      congr 1
      show 0 + 1 * (s_t A n : Int) + -1 * (s_t B n : Int) = (s_t A n : Int) - (s_t B n : Int)
      omega
    · rw [k37, u2]
      congr 1
      show 0 + 1 * (s_n A : Int) + -1 * (s_n B : Int) = (s_n A : Int) - (s_n B : Int)
      omega
    · rw [k38, hhow, ← hκ]
      rfl
theorem ur_atomS (d : Nat) (hE : RfE M m L rc t wd) {s : PSt} (hI : RfI M m L t s) (hk4 : kdT (q_l s) ≠ 4) (hc : kdT (q_l s) = 2 ∨ kdT (q_l s) = 3 → q_c s < 60) (hQ : ∀ M' a, FrM M M' m FRx ARr → RfO M' m L t a (saP L s) → Q (some (.int (nI a))) M') : Call G (d + 8) 0 0 mX12_atom [.ref m] M Q := by
  obtain ⟨l, c, D, o, b, mm⟩ := s
  have hG : GdT L l := hI.1.2.2.1
  have k3 : x_i M m 39 = 3 ↔ kdT l = 4 := hI.tk (j := 4) (by omega) (by omega) (by omega)
  refine eX12_atom m ⟨hE.1.1.1, fun _ => ?_, fun q => absurd (k3.mp q) hk4⟩
  refine ur_atom0 (d + 6) hE.1.1 (fun M0 g0 z47 z66 z68 => ?_)
  have g0' : FrM M M0 m FRx ARr := g0.wk (by decide) (by decide)
  have hE0 := hE.fr (g0'.wk (by decide) (by decide))
  have hI0 : RfI M0 m L t (l, c, D, o, b, mm) := hI.fr g0 (by decide) (by decide)
  have u0 : saP L (l, c, D, o, b, mm) = (match tS L 121 s0D l o with | .inl p => .inl p | .inr (A, l1, o1) => if kdT l1 = 16 ∨ kdT l1 = 17 ∨ kdT l1 = 18 then (match tS L 121 s0D l1.tail o1 with | .inl p => .inl p | .inr (B, l', o') => .inr (c, enP (l', c, D, o', b, mm) (0, plT L l1, 0, 0, kdT l1, s_s A ||| s_s B, A, B))) else .inl (plT L l1)) := rfl
  have badG : ∀ p M6, FrM M0 M6 m FRt [47] → RfG M6 m p → saP L (l, c, D, o, b, mm) = .inl p → (x_h M6 m).1 = 28 ∧ x_i M6 m 39 = 0 ∧ Call G (d + 7) 0 0 mX12_cannot [.ref m] M6 (fun r30 M31 => r30 = none ∧ Q (some (.int 0)) M31) := by
    intro p M6 g6 f6 e
    have g6' : FrM M M6 m FRx ARr := g0'.tr g6 (by decide) (by decide)
    have h6 := (g6'.S hE.1.1).1
    refine ⟨h6, f6.1.2.2.2, ur_cannotG (d + 6) h6 f6 (fun M' g f => ⟨rfl, ?_⟩)⟩
    have := hQ M' 0 (g6'.tr g (by decide) (by decide))
    rw [e] at this
    exact this ⟨by omega, f⟩
  have bad2 : ∀ p M6, FrM M0 M6 m FRt [47] → RfG M6 m p → saP L (l, c, D, o, b, mm) = .inl p → Call G (d + 7) 0 0 mX12_isSign [.ref m, .int 60] M6 (fun r9 M10 => ∃ v11 : Int32, r9 = some (.int v11) ∧ (v11 = 0 → (x_h M10 m).1 = 28 ∧ Call G (d + 7) 0 0 mX12_isSign [.ref m, .int 61] M10 (fun r14 M15 => ∃ v16 : Int32, r14 = some (.int v16) ∧ (v16 = 0 → (x_h M15 m).1 = 28 ∧ Call G (d + 7) 0 0 mX12_cannot [.ref m] M15 (fun r30 M31 => r30 = none ∧ Q (some (.int 0)) M31)) ∧ (¬ v16 = 0 → False))) ∧ (¬ v11 = 0 → False)) := by
    intro p M6 g6 f6 e
    obtain ⟨h6, -, hcan⟩ := badG p M6 g6 f6 e
    exact ur_isSignG (d + 6) h6 f6 ⟨0, rfl, fun _ => ⟨h6, ur_isSignG (d + 6) h6 f6 ⟨0, rfl, fun _ => ⟨h6, hcan⟩, fun q => absurd rfl q⟩⟩, fun q => absurd rfl q⟩
  refine ur_sums (fm := fun _ => 0) (fs := 0) (fe := 0) (sg := 1) (d + 1) hE0 hI0 (fun k hk => z47 k hk) z66 z68 (Or.inl rfl) (fun p M6 e g6 f6 => ⟨rfl, ?_⟩) (fun A l1 o1 M6 e g6 hX6 hT6 => ⟨rfl, ?_⟩)
  · have es : saP L (l, c, D, o, b, mm) = .inl p := by rw [u0, e]
    obtain ⟨h6, t6, -⟩ := badG p M6 g6 f6 es
    refine ⟨h6, fun _ => Call.mono (bad2 p M6 g6 f6 es) ?_, fun q => absurd (t6.symm.trans q) (by decide)⟩
    rintro r9 M10 ⟨v11, rfl, a1, a2⟩
    refine ⟨v11, rfl, fun q => ⟨(a1 q).1, Call.mono (a1 q).2 ?_⟩, fun q => (a2 q).elim⟩
    rintro r14 M15 ⟨v16, rfl, b1, b2⟩
    exact ⟨v16, rfl, b1, fun q => (b2 q).elim⟩
  have hk23 : kdT l = 2 ∨ kdT l = 3 := Classical.byContradiction fun z => by
    have e2 : tS L 121 s0D l o = .inl (plT L l) := by
      unfold tS tT
      rw [if_neg (fun y => z (Or.inl y)), if_neg (fun y => z (Or.inr y))]
    rw [e2] at e
    cases e
  have hc' : c < 60 := hc hk23
  rw [e] at u0
  simp only at u0
  obtain ⟨k1, k2, k3'⟩ := tS_pg _ hG e
  by_cases cb : kdT l1 = 1
  · have es : saP L (l, c, D, o, b, mm) = .inl (plT L l1) := by rw [u0, if_neg (by omega)]
    have f6 := hX6.2 cb
    obtain ⟨h6, t6, -⟩ := badG _ M6 g6 f6 es
    refine ⟨h6, fun _ => Call.mono (bad2 _ M6 g6 f6 es) ?_, fun q => absurd (t6.symm.trans q) (by decide)⟩
    rintro r9 M10 ⟨v11, rfl, a1, a2⟩
    refine ⟨v11, rfl, fun q => ⟨(a1 q).1, Call.mono (a1 q).2 ?_⟩, fun q => (a2 q).elim⟩
    rintro r14 M15 ⟨v16, rfl, b1, b2⟩
    exact ⟨v16, rfl, b1, fun q => (b2 q).elim⟩
  have hI6 : RfI M6 m L t (l1, c, D, o1, b, mm) := hX6.1 cb
  have g6' : FrM M M6 m FRx ARr := g0'.tr g6 (by decide) (by decide)
  have hE6 := hE.fr (g6'.wk (by decide) (by decide))
  have hsA := tS_s _ hG (show s_s s0D < 256 by decide) e
  have e41 : x_i M6 m 41 = nI (plT L l1) := hI6.1.1.1
  have k18 : x_i M6 m 39 = 11 ↔ kdT l1 = 18 := hI6.tk (j := 18) (by omega) (by omega) (by omega)
  rw [e41]
  have out : ∀ {M'} {a} (res : PRt), saP L (l, c, D, o, b, mm) = res → FrM M6 M' m FRx ARr → RfO M' m L t a res → Q (some (.int (nI a))) M' := fun res e2 g h => by rw [← e2] at h; exact hQ _ _ (g6'.tr g (fun _ h => h) (fun _ h => h)) h
  have tail : ∀ κ how, kdT l1 = κ → (κ = 16 ∨ κ = 17 ∨ κ = 18) → how = nI (κ - 16) → _ := fun κ how hκ hκ2 hhow =>
    ur_atomT (G := G) (Q := Q) (s := (l, c, D, o, b, mm)) (l := l1) (o := o1) (A := A) (κ := κ) (how := how) (d + 1) hE6 hI6 hc' hκ hκ2 hhow hsA hT6
      (fun p M' a e2 g ha f => out (.inl p) (by rw [u0, if_pos (by omega), e2]) g ⟨ha, f⟩)
      (fun B l' o' M' a e2 g h => out _ (by rw [u0, if_pos (by omega), e2]; rfl) g h)
  refine ⟨hE6.1.1.1, fun c18 => ?_, fun c18 => tail 18 2 (k18.mp c18) (by omega) rfl⟩
  refine ur_isSign (k := 17) (d + 6) hE6 hI6 (by omega) (by omega) (fun c17 => ⟨1, rfl, fun q => absurd q (by decide), fun _ => ⟨hE6.1.1.1, tail 17 1 c17 (by omega) rfl⟩⟩) (fun c17 => ⟨0, rfl, fun _ => ⟨hE6.1.1.1, ?_⟩, fun q => absurd rfl q⟩)
  refine ur_isSign (k := 16) (d + 6) hE6 hI6 (by omega) (by omega) (fun c16 => ⟨1, rfl, fun q => absurd q (by decide), fun _ => ⟨hE6.1.1.1, tail 16 0 c16 (by omega) rfl⟩⟩) (fun c16 => ⟨0, rfl, fun _ => ⟨hE6.1.1.1, ?_⟩, fun q => absurd rfl q⟩)
  have c18' : ¬ kdT l1 = 18 := fun q => c18 (k18.mpr q)
  have c17' : ¬ kdT l1 = 17 := c17
  have c16' : ¬ kdT l1 = 16 := c16
  exact ur_cannotS (d + 6) hE6 hI6 (fun M' g f => ⟨rfl, out (a := 0) (.inl (plT L l1)) (by rw [u0, if_neg (by omega)]) (g.wk (by decide) (by decide)) ⟨by omega, f⟩⟩)
/-- behind a fault an atom leaves all as it is -/
theorem ur_atomG (d : Nat) (hs : ReS M m) {p : Nat} (hG : RfG M m p) (hQ : ∀ M' a, FrM M M' m FRx ARr → a < 130 → RfG M' m p → Q (some (.int (nI a))) M') : Call G (d + 5) 0 0 mX12_atom [.ref m] M Q := by
  refine eX12_atom m ⟨hs.1, fun _ => ?_, fun q => absurd (hG.1.2.2.2.symm.trans q) (by decide)⟩
  refine ur_atom0 (d + 3) hs (fun M0 g0 z47 z66 z68 => ?_)
  have hs0 := g0.S hs
  have hG0 := hG.fr g0 (by decide) (by decide) (by decide) (by decide) (by decide)
  refine ur_sumsG (d + 1) hs0.1 hG0 (fun M6 g6 f6 => ⟨rfl, ?_⟩)
  have g6' : FrM M M6 m FRx ARr := (g0.wk (by decide) (by decide)).tr g6 (by decide) (by decide)
  have h6 := (g6'.S hs).1
  refine ⟨h6, fun _ => ur_isSignG (d + 3) h6 f6 ⟨0, rfl, fun _ => ⟨h6, ur_isSignG (d + 3) h6 f6 ⟨0, rfl, fun _ => ⟨h6, ur_cannotG (d + 3) h6 f6 (fun M' g f => ⟨rfl, hQ M' 0 (g6'.tr g (by decide) (by decide)) (by omega) f⟩)⟩, fun q => absurd rfl q⟩⟩, fun q => absurd rfl q⟩, fun q => absurd (f6.1.2.2.2.symm.trans q) (by decide)⟩
end RAtom2C
