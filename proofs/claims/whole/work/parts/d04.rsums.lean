/-! ===== the reference: the sums of an atom ===== -/
section RSumsC
variable {G : GG} {M : Mem} {m L rc : Nat} {t wd : Nat → Nat} {Q : Option Value → Mem → Prop}
abbrev FRt : List Nat := [38, 39, 40, 41, 42, 45, 46, 66, 67, 68]
/-- what has been summed so far: the numbers of S, counted sg, on top of fm, fs, fe -/
def TmI (M : Mem) (m : Nat) (sg : Int) (fm : Nat → Int) (fs : Int) (fe : Nat) (S : SD) : Prop := (∀ k, k < 8 → x_i M (m + 47) k = iI (fm k + sg * (s_t S k : Int))) ∧ x_i M m 66 = iI (fs + sg * (s_n S : Int)) ∧ x_i M m 67 = nI (s_n S) ∧ x_i M m 68 = nI (fe ||| s_s S)
theorem TmI.fr {M' : Mem} {sg : Int} {fm : Nat → Int} {fs : Int} {fe : Nat} {S : SD} {F A : List Nat} (h : TmI M m sg fm fs fe S) (g : FrM M M' m F A) (h1 : 66 ∉ F) (h2 : 67 ∉ F) (h3 : 68 ∉ F) (h4 : 47 ∉ A) : TmI M' m sg fm fs fe S := by
  obtain ⟨a1, a2, a3, a4⟩ := h
  exact ⟨fun k hk => by rw [g.i (by omega) h4]; exact a1 k hk, by rw [g.fm h1]; exact a2, by rw [g.fm h2]; exact a3, by rw [g.fm h3]; exact a4⟩
theorem tS_bad {n : Nat} {S : SD} {l : List Tk} {o : Option Nat} (h : kdT l = 1) : tS L n S l o = .inl (plT L l) := by
  cases n with
  | zero => rfl
  | succ n =>
    unfold tS tT
    rw [if_neg (by omega), if_neg (by omega)]
theorem ur_term (d : Nat) (hE : RfE M m L rc t wd) {l : List Tk} {c : Nat} {D : Nat → PD} {o : Option Nat} {b mm : Nat} {S : SD} {sg : Int} {fm : Nat → Int} {fs : Int} {fe : Nat} (hI : RfI M m L t (l, c, D, o, b, mm)) (hT : TmI M m sg fm fs fe S) (hsg : sg = 1 ∨ sg = -1) (hn : s_n S < 2 ^ 20)
    (hQ0 : ∀ p M', tT L 99 S l o = .inl p → FrM M M' m FRt [47] → RfG M' m p → Q none M')
    (hQ1 : ∀ S' l' o' M', tT L 99 S l o = .inr (S', l', o') → FrM M M' m FRt [47] → RfX M' m L t (l', c, D, o', b, mm) → TmI M' m sg fm fs fe S' → Q none M') :
    Call G (d + 5) 0 0 mX12_term [.ref m, .int (iI sg)] M Q := by
  have hs := hE.1.1
  have hG : GdT L l := hI.1.2.2.1
  have hL := hE.1.2.2.1
  have hpl := gd_le l hG
  have k2 : x_i M m 39 = 1 ↔ kdT l = 2 := hI.tk (j := 2) (by omega) (by omega) (by omega)
  have k3 : x_i M m 39 = 2 ↔ kdT l = 3 := hI.tk (j := 3) (by omega) (by omega) (by omega)
  have e41 : x_i M m 41 = nI (plT L l) := hI.1.1.1
  obtain ⟨t1, t2, t3, t4⟩ := hT
  unfold tT at hQ0 hQ1
  refine eX12_term m _ ⟨hs.1, fun c3 => ⟨fun c2 => ?_, fun c2 => ?_⟩, fun c3 => ?_⟩
  · rw [if_neg (fun q => c2 (k2.mpr q)), if_neg (fun q => c3 (k3.mpr q))] at hQ0
    exact ur_cannotS (d + 3) hE hI (fun M' g f => ⟨rfl, hQ0 _ M' rfl (g.wk (by decide) (by decide)) f⟩)
  · have c2' := k2.mp c2
    rw [if_pos c2'] at hQ1
    have e40 : x_i M m 40 = nI (woT l) := hI.1.1.2.2.1 (Or.inl c2')
    have hw : woT l < 100 := (gd_tail hG (by omega)).2.2.2.2.2.1 c2'
    rintro M6 rfl M7 rfl
    have e6 : x_i M m 66 + iI sg * x_i M m 40 = iI (fs + sg * ((s_n S + woT l : Nat) : Int)) := by
      rw [t2, e40, iI_n, iI_mul, iI_add]
      congr 1
      rcases hsg with rfl | rfl <;> omega
    have e7 : x_i (x_si M m 66 (x_i M m 66 + iI sg * x_i M m 40)) m 67 + x_i (x_si M m 66 (x_i M m 66 + iI sg * x_i M m 40)) m 40 = nI (s_n S + woT l) := by
      rw [xi_nk (by omega), xi_nk (by omega), t3, e40, nI_add]
    rw [e7, e6]
    have g7 : FrM M (x_si (x_si M m 66 (iI (fs + sg * ((s_n S + woT l : Nat) : Int)))) m 67 (nI (s_n S + woT l))) m [66, 67] [] := (FrM.rf.sm (by decide)).sm (by decide)
    have hT7 : TmI (x_si (x_si M m 66 (iI (fs + sg * ((s_n S + woT l : Nat) : Int)))) m 67 (nI (s_n S + woT l))) m sg fm fs fe (s_r S, s_t S, s_n S + woT l, s_s S) := by
      refine ⟨fun k hk => ?_, ?_, xi_eq, ?_⟩
      · rw [g7.i (by omega) (by decide)]; exact t1 k hk
      · rw [xi_nk (by omega), xi_eq]; rfl
      · rw [xi_nk (by omega), xi_nk (by omega)]; exact t4
    rw [xi_eq, show (99 : Int32) = nI 99 from rfl, nI_leI (by omega) (by omega)]
    generalize x_si (x_si M m 66 (iI (fs + sg * ((s_n S + woT l : Nat) : Int)))) m 67 (nI (s_n S + woT l)) = M7 at g7 hT7 ⊢
    have hE7 := hE.fr (g7.wk (by decide) (by decide))
    have hI7 : RfI M7 m L t (l, c, D, o, b, mm) := hI.fr g7 (by decide) (by decide)
    refine ⟨fun q => ?_, fun q => ?_⟩
    · rw [if_pos q] at hQ1
      exact ur_nextS d hE7 hI7 (show kdT l ≠ 0 by omega) (fun M' g f => ⟨rfl, hQ1 _ _ _ M' rfl ((g7.wk (by decide) (by decide)).tr g (by decide) (by decide)) f (hT7.fr g (by decide) (by decide) (by decide) (by decide))⟩)
    · rw [if_neg q] at hQ1
      have e41' : x_i M7 m 41 = nI (plT L l) := by rw [g7.fm (by decide)]; exact e41
      rw [e41']
      refine ur_notesS (d + 3) hE7 hI7 (by omega) (fun M12 g12 h12 => ⟨rfl, ?_⟩)
      have hE12 := hE7.fr (g12.wk (by decide) (by decide))
      refine ⟨hE12.1.1.1, ur_nextS d hE12 h12 (show kdT l ≠ 0 by omega) (fun M' g f => ⟨rfl, hQ1 _ _ _ M' rfl (((g7.wk (by decide) (by decide)).tr g12 (by decide) (by decide)).tr g (by decide) (by decide)) f ((hT7.fr g12 (by decide) (by decide) (by decide) (by decide)).fr g (by decide) (by decide) (by decide) (by decide))⟩)⟩
  · have c3' := k3.mp c3
    rw [if_neg (by omega), if_pos c3'] at hQ1
    have e40 : x_i M m 40 = nI (woT l) := hI.1.1.2.2.1 (Or.inr (Or.inl c3'))
    have hw : woT l < 8 := (gd_tail hG (by omega)).2.2.2.2.2.2.1 c3'
    have hcl : (nI (woT l)).toNatClampNeg = woT l := nI_clamp (by omega)
    refine ⟨m + 47, hs.r47, by rw [hs.h47], by rw [e40, hs.h47]; exact vp_in_nI hw (by omega), ?_⟩
    rintro M19 rfl M20 rfl
    have e40' : x_i (x_si M (m + 47) (x_i M m 40).toNatClampNeg (x_i M (m + 47) (x_i M m 40).toNatClampNeg + iI sg)) m 40 = nI (woT l) := by rw [xi_na (by omega)]; exact e40
    have e68' : x_i (x_si M (m + 47) (x_i M m 40).toNatClampNeg (x_i M (m + 47) (x_i M m 40).toNatClampNeg + iI sg)) m 68 = nI (fe ||| s_s S) := by rw [xi_na (by omega)]; exact t4
    rw [e40', e68', e40, hcl, sl_1 (by omega), nI_or, t1 _ hw, iI_add]
    have g20 : FrM M (x_si (x_si M (m + 47) (woT l) (iI (fm (woT l) + sg * (s_t S (woT l) : Int) + sg))) m 68 (nI (fe ||| s_s S ||| 2 ^ woT l))) m [68] [47] := (FrM.rf.si (by omega) (by decide)).sm (by decide)
    have hT20 : TmI (x_si (x_si M (m + 47) (woT l) (iI (fm (woT l) + sg * (s_t S (woT l) : Int) + sg))) m 68 (nI (fe ||| s_s S ||| 2 ^ woT l))) m sg fm fs fe (adN S (woT l)) := by
      refine ⟨fun k hk => ?_, ?_, ?_, ?_⟩
      · rw [xi_na (by omega)]
        show _ = iI (fm k + sg * ((if k = woT l then s_t S k + 1 else s_t S k : Nat) : Int))
        by_cases q : k = woT l
        · rw [if_pos q, q, xi_eq]
          congr 1
          rcases hsg with rfl | rfl <;> omega
        · rw [if_neg q, xi_nk q]
          exact t1 k hk
      · rw [xi_nk (by omega), xi_na (by omega)]; exact t2
      · rw [xi_nk (by omega), xi_na (by omega)]; exact t3
      · rw [xi_eq]
        show _ = nI (fe ||| (s_s S ||| 2 ^ woT l))
        rw [Nat.or_assoc]
    generalize x_si (x_si M (m + 47) (woT l) (iI (fm (woT l) + sg * (s_t S (woT l) : Int) + sg))) m 68 (nI (fe ||| s_s S ||| 2 ^ woT l)) = M20 at g20 hT20 ⊢
    have hE20 := hE.fr (g20.wk (by decide) (by decide))
    have hI20 : RfI M20 m L t (l, c, D, o, b, mm) := hI.fr g20 (by decide) (by decide)
    exact ur_nextS d hE20 hI20 (show kdT l ≠ 0 by omega) (fun M' g f => ⟨rfl, hQ1 _ _ _ M' rfl ((g20.wk (by decide) (by decide)).tr g (by decide) (by decide)) f (hT20.fr g (by decide) (by decide) (by decide) (by decide))⟩)
theorem ur_termG (d : Nat) (hs : (x_h M m).1 = 28) {p : Nat} (hG : RfG M m p) {v : Int32} (hQ : ∀ M', FrM M M' m FRt [47] → RfG M' m p → Q none M') : Call G (d + 2) 0 0 mX12_term [.ref m, .int v] M Q := by
  refine eX12_term m _ ⟨hs, fun _ => ⟨fun _ => ur_cannotG d hs hG (fun M' g h => ⟨rfl, hQ M' (g.wk (by decide) (by decide)) h⟩), fun c => absurd (hG.1.2.2.2.symm.trans c) (by decide)⟩, fun c => absurd (hG.1.2.2.2.symm.trans c) (by decide)⟩
theorem ur_sums10G (d : Nat) (hs : (x_h M m).1 = 28) {p : Nat} (hG : RfG M m p) {v : Int32} (hQ : Q none M) : LX12_sums_10 G (d + 1) 0 0 m v M Q :=
  vX12_sums_10 _ _ ⟨hs, ur_isSignG d hs hG ⟨0, rfl, fun _ => hQ, fun c => absurd rfl c⟩⟩
theorem ur_sums (d : Nat) (hE : RfE M m L rc t wd) {l : List Tk} {c : Nat} {D : Nat → PD} {o : Option Nat} {b mm : Nat} {sg : Int} {fm : Nat → Int} {fs : Int} {fe : Nat} (hI : RfI M m L t (l, c, D, o, b, mm)) (h47 : ∀ k, k < 8 → x_i M (m + 47) k = iI (fm k)) (h66 : x_i M m 66 = iI fs) (h68 : x_i M m 68 = nI fe) (hsg : sg = 1 ∨ sg = -1)
    (hQ0 : ∀ p M', tS L 121 s0D l o = .inl p → FrM M M' m FRt [47] → RfG M' m p → Q none M')
    (hQ1 : ∀ S' l' o' M', tS L 121 s0D l o = .inr (S', l', o') → FrM M M' m FRt [47] → RfX M' m L t (l', c, D, o', b, mm) → TmI M' m sg fm fs fe S' → Q none M') :
    Call G (d + 6) 0 0 mX12_sums [.ref m, .int (iI sg)] M Q := by
  have hL := hE.1.2.2.1
  have hlen := gd_len l hI.1.2.2.1
  refine eX12_sums m _ ⟨hE.1.1.1, ?_⟩
  rintro M2 rfl
  have g2 : FrM M (x_si M m 67 0) m [67] [] := FrM.rf.sm (by decide)
  have hE2 := hE.fr (g2.wk (by decide) (by decide))
  have hI2 : RfI (x_si M m 67 0) m L t (l, c, D, o, b, mm) := hI.fr g2 (by decide) (by decide)
  have hT2 : TmI (x_si M m 67 0) m sg fm fs fe s0D := by
    refine ⟨fun k hk => ?_, ?_, ?_, ?_⟩
    · rw [g2.i (by omega) (by decide), h47 k hk]
      congr 1
      show fm k = fm k + sg * ((0 : Nat) : Int)
      rcases hsg with rfl | rfl <;> omega
    · rw [g2.fm (by decide), h66]
      congr 1
      show fs = fs + sg * ((0 : Nat) : Int)
      rcases hsg with rfl | rfl <;> omega
    · rw [xi_eq]; rfl
    · rw [g2.fm (by decide), h68]
      show nI fe = nI (fe ||| 0)
      rw [Nat.or_zero]
  have key : ∀ n S l o M', l.length < n → s_n S + 100 * l.length ≤ 100000 → FrM M M' m FRt [47] → RfI M' m L t (l, c, D, o, b, mm) → TmI M' m sg fm fs fe S → (∀ p M', tS L n S l o = .inl p → FrM M M' m FRt [47] → RfG M' m p → Q none M') → (∀ S' l' o' M', tS L n S l o = .inr (S', l', o') → FrM M M' m FRt [47] → RfX M' m L t (l', c, D, o', b, mm) → TmI M' m sg fm fs fe S' → Q none M') → Call G (d + 5) 0 0 mX12_term [.ref m, .int (iI sg)] M' (fun r3 M4 => r3 = none ∧ LX12_sums_10 G (d + 5) 0 0 m (iI sg) M4 Q) := by
    intro n
    induction n with
    | zero => intro S l o M' hl; omega
    | succ n ih =>
      intro S l o M' hl hn g hI hT q0 q1
      have hE' := hE.fr (g.wk (by decide) (by decide))
      have hG : GdT L l := hI.1.2.2.1
      refine ur_term d hE' hI hT hsg (by omega) (fun p M4 e g4 f4 => ⟨rfl, ?_⟩) (fun S' l' o' M4 e g4 hX hT4 => ⟨rfl, ?_⟩)
      · have g4' := g.tr g4 (fun _ h => h) (fun _ h => h)
        exact ur_sums10G (d + 4) ((hE.fr (g4'.wk (by decide) (by decide))).1.1.1) f4 (q0 p M4 (by unfold tS; rw [e]) g4' f4)
      · have g4' := g.tr g4 (fun _ h => h) (fun _ h => h)
        have hE4 := hE.fr (g4'.wk (by decide) (by decide))
        obtain ⟨-, -, k1, k2, k3⟩ := tT_pg hG e
        have k4 := tT_n hG e
        have es : tS L (n + 1) S l o = (match tT L 99 S l o with | .inl p => .inl p | .inr (S', l', o') => if kdT l' = 15 then tS L n S' l'.tail o' else .inr (S', l', o')) := rfl
        rw [e] at es
        simp only at es
        by_cases cb : kdT l' = 1
        · rw [if_neg (by omega)] at es
          exact ur_sums10G (d + 4) hE4.1.1.1 (hX.2 cb) (q1 S' l' o' M4 es g4' hX hT4)
        · have hI4 := hX.1 cb
          refine vX12_sums_10 _ _ ⟨hE4.1.1.1, ur_isSign (k := 15) (d + 4) hE4 hI4 (by omega) (by omega) (fun e15 => ⟨1, rfl, fun q => absurd q (by decide), fun _ => ⟨hE4.1.1.1, ?_⟩⟩) (fun e15 => ⟨0, rfl, fun _ => ?_, fun q => absurd rfl q⟩)⟩
          · have e15' : kdT l' = 15 := e15
            rw [if_pos e15'] at es
            obtain ⟨t1, t2, t3, -⟩ := gd_tail k1 (show kdT l' ≠ 0 by omega)
            refine ur_nextS (d + 1) hE4 hI4 (show kdT l' ≠ 0 by omega) (fun M8 g8 h8 => ⟨rfl, ?_⟩)
            have g8' := g4'.tr (g8.wk (F' := [38, 39, 40, 41, 42, 45, 46]) (A' := []) (F := FRt) (A := [47]) (by decide) (by decide)) (fun _ h => h) (fun _ h => h)
            have hE8 := hE.fr (g8'.wk (by decide) (by decide))
            have hT8 := hT4.fr g8 (by decide) (by decide) (by decide) (by decide)
            refine ⟨hE8.1.1.1, ?_⟩
            by_cases cb2 : kdT l'.tail = 1
            · rw [tS_bad cb2] at es
              refine ur_termG (d + 3) hE8.1.1.1 (h8.2 cb2) (fun M11 g11 f11 => ⟨rfl, ?_⟩)
              have g11' := g8'.tr g11 (fun _ h => h) (fun _ h => h)
              exact ur_sums10G (d + 4) ((hE.fr (g11'.wk (by decide) (by decide))).1.1.1) f11 (q0 _ M11 es g11' f11)
            · exact ih S' l'.tail o' M8 (by omega) (by omega) g8' (h8.1 cb2) hT8 (fun p M' e' => q0 p M' (es.trans e')) (fun S5 l5 o5 M' e' => q1 S5 l5 o5 M' (es.trans e'))
          · have e15' : ¬ kdT l' = 15 := e15
            rw [if_neg e15'] at es
            exact q1 S' l' o' M4 es g4' hX hT4
  exact key 121 s0D l o _ (by omega) (by show 0 + 100 * l.length ≤ 100000; omega) (g2.wk (by decide) (by decide)) hI2 hT2 hQ0 hQ1
theorem ur_sumsG (d : Nat) (hs : (x_h M m).1 = 28) {p : Nat} (hG : RfG M m p) {v : Int32} (hQ : ∀ M', FrM M M' m FRt [47] → RfG M' m p → Q none M') : Call G (d + 3) 0 0 mX12_sums [.ref m, .int v] M Q := by
  refine eX12_sums m _ ⟨hs, ?_⟩
  rintro M2 rfl
  have g2 : FrM M (x_si M m 67 0) m [67] [] := FrM.rf.sm (by decide)
  have hG2 : RfG (x_si M m 67 0) m p := hG.fr g2 (by decide) (by decide) (by decide) (by decide) (by decide)
  refine ur_termG d (by exact hs) hG2 (fun M4 g4 f4 => ⟨rfl, ?_⟩)
  have g4' : FrM M M4 m FRt [47] := (g2.wk (by decide) (by decide)).tr g4 (fun _ h => h) (fun _ h => h)
  exact ur_sums10G (d + 1) (by rw [g4'.h]; exact hs) f4 (hQ M4 g4' f4)
end RSumsC
