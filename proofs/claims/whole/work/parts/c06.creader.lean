/-! ===== the class: its reader, token by token ===== -/
section ReaderC
def RdS (M : Mem) (r k pa p0 ra r0 : Nat) : Prop := (x_h M r).1 = 21 ∧ x_r M r 0 = some k ∧ x_r M r 1 = some pa ∧ x_r M r 2 = some ra ∧ TokS M k ∧ PartsS M pa p0 ∧ RowsS M ra r0 ∧ r < k ∧ k + 3 < p0 ∧ p0 + 480 ≤ r0
def RPF (r p0 q : Nat) : Prop := q = r ∨ (p0 ≤ q ∧ q < p0 + 480)
/-- what stays while a text is read -/
def RdE (M : Mem) (r k pa p0 ra r0 L rc : Nat) (wd : Nat → Nat) (W : List Tk) : Prop := RdS M r k pa p0 ra r0 ∧ TkA M k L W ∧ rc ≤ 10 ∧ (∀ i, i < rc → x_i M (r0 + 8 * i + 1) 2 = nI (wd i) ∧ wd i < 2 ^ 20) ∧ GdT L W ∧ L ≤ 120
def AtI (M : Mem) (r : Nat) (W l : List Tk) : Prop := ∃ i, l = W.drop i ∧ i ≤ W.length ∧ x_i M r 5 = nI i
def RdH (M : Mem) (r rc : Nat) (W : List Tk) (s : PSt) : Prop := x_i M r 3 = nI rc ∧ x_i M r 4 = nI (q_c s) ∧ AtI M r W (q_l s) ∧ x_i M r 6 = -1 ∧ x_i M r 7 = nbI (q_o s) ∧ x_i M r 8 = nI (q_b s) ∧ x_i M r 9 = nI (q_m s)
def RdB (s : PSt) : Prop := q_c s ≤ 60 ∧ (∀ j, j < q_c s → p_s (q_D s j) < 256) ∧ q_b s < 256 ∧ q_m s < 1024 ∧ ∀ p, q_o s = some p → p ≤ 120
def RdI (M : Mem) (r p0 rc : Nat) (W : List Tk) (s : PSt) : Prop := RdH M r rc W s ∧ RdB s ∧ ∀ j, j < q_c s → PaI M (p0 + 8 * j) (q_D s j)
def RdF (M : Mem) (r rc L : Nat) (W : List Tk) (p : Nat) : Prop := x_i M r 3 = nI rc ∧ (∃ c, c ≤ 60 ∧ x_i M r 4 = nI c) ∧ ∃ i, i ≤ W.length ∧ x_i M r 6 = nI i ∧ plT L (W.drop i) = p
def RdO (M : Mem) (r p0 rc L : Nat) (W : List Tk) : PRt → Prop
  | .inl p => RdF M r rc L W p
  | .inr (_, s) => RdI M r p0 rc W s
def roV : PRt → Int32
  | .inl _ => -1
  | .inr (a, _) => nI a
variable {G : GG} {M : Mem} {r k pa p0 ra r0 L rc : Nat} {wd : Nat → Nat} {W : List Tk} {Q : Option Value → Mem → Prop}
theorem RdS.eq {M' : Mem} (h : RdS M r k pa p0 ra r0) (h1 : x_h M' = x_h M) (h2 : x_r M' = x_r M) : RdS M' r k pa p0 ra r0 := by
  obtain ⟨a1, a2, a3, a4, a5, a6, a7, a8⟩ := h
  exact ⟨by rw [h1]; exact a1, by rw [h2]; exact a2, by rw [h2]; exact a3, by rw [h2]; exact a4, a5.eq h1 h2, a6.eq h1 h2, a7.eq h1 h2, a8⟩
theorem RdE.fr {M' : Mem} (h : RdE M r k pa p0 ra r0 L rc wd W) (g : FrP M M' (RPF r p0)) : RdE M' r k pa p0 ra r0 L rc wd W := by
  obtain ⟨a1, a2, a3, a4, a5⟩ := h
  have hd := a1.2.2.2.2.2.2.2
  have hk : ∀ q, k ≤ q → q ≤ k + 3 → x_i M' q = x_i M q := fun q h1 h2 => g.i (by unfold RPF; omega)
  refine ⟨a1.eq g.h g.r, ?_, a3, fun i hi => ?_, a5⟩
  · unfold TkA TkC at a2 ⊢
    rw [hk k (by omega) (by omega), hk (k + 1) (by omega) (by omega), hk (k + 2) (by omega) (by omega), hk (k + 3) (by omega) (by omega)]
    exact a2
  · rw [g.i (by unfold RPF; omega)]
    exact a4 i hi
theorem Fr.R {M' : Mem} {A : List Nat} (g : Fr M M' A) (h : ∀ q ∈ A, RPF r p0 q) : FrP M M' (RPF r p0) := g.P h
theorem Fr.R1 {M' : Mem} (g : Fr M M' [r]) : FrP M M' (RPF r p0) := g.P (fun q hq => by rw [List.mem_singleton.mp hq]; exact Or.inl rfl)
theorem drop_kd {i : Nat} (h : kdT (W.drop i) ≠ 0) : i < W.length := Classical.byContradiction fun c => h (by rw [List.drop_eq_nil_of_le (by omega)]; rfl)
theorem RdE.len (h : RdE M r k pa p0 ra r0 L rc wd W) : W.length ≤ 120 := by
  have := gd_len W h.2.2.2.2.1
  have := h.2.2.2.2.2
  omega
/-- where it stands: kind, place, worth -/
theorem w_peek (d : Nat) (h : RdE M r k pa p0 ra r0 L rc wd W) {l : List Tk} (ha : AtI M r W l) (hQ : Q (some (.int (nI (kdT l)))) M) : Call G (d + 1) 0 0 mX5_peek [.ref r] M Q := by
  have hl := h.len
  obtain ⟨⟨a1, a2, a3, a4, a5, -⟩, ⟨b1, b2, b3⟩, -⟩ := h
  obtain ⟨i, rfl, hi, h5⟩ := ha
  refine eX5_peek r ⟨a1, k, a2, a5.1, ?_⟩
  rw [b2, h5]
  refine ⟨fun c => absurd c (nI_ge (a := i) (b := W.length + 1) (by omega) (by omega)), fun _ => ⟨k + 1, a5.2.1, by rw [a5.2.2.2.2.1], by rw [a5.2.2.2.2.1]; exact vp_in_nI (show i < 121 by omega) (by omega), ?_⟩⟩
  rw [nI_clamp (by omega), (b3 i hi).1]
  exact hQ
theorem w_placeT (d : Nat) (h : RdE M r k pa p0 ra r0 L rc wd W) {l : List Tk} (ha : AtI M r W l) (hQ : Q (some (.int (nI (plT L l)))) M) : Call G (d + 1) 0 0 mX5_place [.ref r] M Q := by
  have hl := h.len
  obtain ⟨⟨a1, a2, a3, a4, a5, -⟩, ⟨b1, b2, b3⟩, -⟩ := h
  obtain ⟨i, rfl, hi, h5⟩ := ha
  refine eX5_place r ⟨a1, k, a2, a5.1, ?_⟩
  rw [b2, h5]
  refine ⟨fun c => absurd c (nI_ge (a := i) (b := W.length + 1) (by omega) (by omega)), fun _ => ⟨k + 2, a5.2.2.1, by rw [a5.2.2.2.2.2.1], by rw [a5.2.2.2.2.2.1]; exact vp_in_nI (show i < 121 by omega) (by omega), ?_⟩⟩
  rw [nI_clamp (by omega), (b3 i hi).2.1]
  exact hQ
theorem w_worth (d : Nat) (h : RdE M r k pa p0 ra r0 L rc wd W) {l : List Tk} (ha : AtI M r W l) (hQ : ∀ v, (kdT l = 2 ∨ kdT l = 3 ∨ kdT l = 4 → v = nI (woT l)) → Q (some (.int v)) M) : Call G (d + 1) 0 0 mX5_worth [.ref r] M Q := by
  have hl := h.len
  obtain ⟨⟨a1, a2, a3, a4, a5, -⟩, ⟨b1, b2, b3⟩, -⟩ := h
  obtain ⟨i, rfl, hi, h5⟩ := ha
  refine eX5_worth r ⟨a1, k, a2, a5.1, ?_⟩
  rw [b2, h5]
  refine ⟨fun c => absurd c (nI_ge (a := i) (b := W.length + 1) (by omega) (by omega)), fun _ => ⟨k + 3, a5.2.2.2.1, by rw [a5.2.2.2.2.2.2], by rw [a5.2.2.2.2.2.2]; exact vp_in_nI (show i < 121 by omega) (by omega), ?_⟩⟩
  rw [nI_clamp (by omega)]
  exact hQ _ (b3 i hi).2.2
theorem AtI.step {l : List Tk} (ha : AtI M r W l) (hk : kdT l ≠ 0) (hW : W.length ≤ 120) {M' : Mem} (e : x_i M' r 5 = x_i M r 5 + 1) : AtI M' r W l.tail := by
  obtain ⟨i, rfl, hi, h5⟩ := ha
  have := drop_kd hk
  exact ⟨i + 1, by rw [List.tail_drop], by omega, by rw [e, h5, nI_1]⟩
theorem RdH.si5 {s : PSt} (h : RdH M r rc W s) (hk : kdT (q_l s) ≠ 0) (hW : W.length ≤ 120) : RdH (x_si M r 5 (x_i M r 5 + 1)) r rc W (tlS s) := by
  obtain ⟨b1, b2, b3, b4, b5, b6, b7⟩ := h
  exact ⟨by rw [xi_nk (by omega)]; exact b1, by rw [xi_nk (by omega)]; exact b2, b3.step hk hW xi_eq, by rw [xi_nk (by omega)]; exact b4, by rw [xi_nk (by omega)]; exact b5, by rw [xi_nk (by omega)]; exact b6, by rw [xi_nk (by omega)]; exact b7⟩
theorem RdI.keep {M' : Mem} {s s' : PSt} (h : RdI M r p0 rc W s) (hr : r < p0) (g : Fr M M' [r]) (hH : RdH M' r rc W s') (hB : RdB s') (hc : q_c s' = q_c s) (hD : q_D s' = q_D s) : RdI M' r p0 rc W s' := by
  refine ⟨hH, hB, fun j hj => ?_⟩
  rw [hD]
  rw [hc] at hj
  exact (h.2.2 j hj).eq (fun q h1 h2 => g.i (by rw [List.mem_singleton]; omega))
theorem RdI.si5 {s : PSt} (h : RdI M r p0 rc W s) (hr : r < p0) (hk : kdT (q_l s) ≠ 0) (hW : W.length ≤ 120) : RdI (x_si M r 5 (x_i M r 5 + 1)) r p0 rc W (tlS s) :=
  h.keep hr (Fr.rf.si (by simp)) (h.1.si5 hk hW) h.2.1 rfl rfl
theorem w_fail (d : Nat) (h : RdE M r k pa p0 ra r0 L rc wd W) {s : PSt} (hI : RdI M r p0 rc W s) (hQ : ∀ M', Fr M M' [r] → RdF M' r rc L W (plT L (q_l s)) → Q (some (.int (-1))) M') : Call G (d + 2) 0 0 mX5_fail [.ref r] M Q := by
  have hl := h.len
  obtain ⟨⟨b1, b2, ⟨i, b3, b3', b3''⟩, b4, b5, b6, b7⟩, bB, -⟩ := hI
  refine eX5_fail r ⟨h.1.1, fun c => absurd b4 c, fun _ => ?_⟩
  rw [b3'']
  refine w_min d (i := i) (n := 120) (by omega) (by omega) ⟨_, rfl, h.1.1, ?_⟩
  rintro M7 rfl
  rw [Nat.min_eq_left (by omega)]
  exact hQ _ (Fr.rf.si (by simp)) ⟨by rw [xi_nk (by omega)]; exact b1, ⟨q_c s, bB.1, by rw [xi_nk (by omega)]; exact b2⟩, i, b3', xi_eq, by rw [b3]⟩
theorem w_eat (d : Nat) (h : RdE M r k pa p0 ra r0 L rc wd W) {s : PSt} (hI : RdI M r p0 rc W s) {kd : Nat} (hk0 : 1 ≤ kd) (hk1 : kd < 32)
    (hQ1 : kdT (q_l s) = kd → ∀ M', Fr M M' [r] → RdI M' r p0 rc W (tlS s) → Q (some (.int 1)) M')
    (hQ0 : kdT (q_l s) ≠ kd → ∀ M', Fr M M' [r] → RdF M' r rc L W (plT L (q_l s)) → Q (some (.int 0)) M') : Call G (d + 3) 0 0 mX5_eat [.ref r, .int (nI kd)] M Q := by
  have hl := h.len
  have hkd : kdT (q_l s) ≤ 18 := by
    have : GdT L (q_l s) := by
      obtain ⟨i, e, -, -⟩ := hI.1.2.2.1
      rw [e]
      have key : ∀ (i : Nat) (l : List Tk), GdT L l → GdT L (l.drop i) := by
        intro i
        induction i with
        | zero => intro l hl; exact hl
        | succ i ih =>
          intro l hl
          cases l with
          | nil => exact trivial
          | cons x l => exact ih l hl.2.2
      exact key i W h.2.2.2.2.1
    by_cases c : kdT (q_l s) = 0
    · omega
    · exact (gd_tail this c).2.2.2.2.1
  have hr : r < p0 := by have := h.1.2.2.2.2.2.2.2; omega
  refine eX5_eat r _ ⟨h.1.1, w_peek (d + 1) h hI.1.2.2.1 ⟨_, rfl, ?_⟩⟩
  rw [nI_eq (by omega) (by omega)]
  refine ⟨fun c => ⟨h.1.1, ?_⟩, fun c => ⟨h.1.1, w_fail d h hI (fun M' g f => ⟨_, rfl, hQ0 c M' g f⟩)⟩⟩
  rintro M7 rfl
  exact hQ1 c _ (Fr.rf.si (by simp)) (hI.si5 hr (by omega) hl)
theorem nbI_lt {o : Option Nat} {p : Nat} (ho : ∀ q, o = some q → q ≤ 120) (hp : p ≤ 120) : (nbI o = -1 ↔ o = none) ∧ (∀ q, o = some q → (nbI o ≤ nI p ↔ q ≤ p)) := by
  cases o with
  | none => exact ⟨⟨fun _ => rfl, fun _ => rfl⟩, fun q h => by cases h⟩
  | some q =>
    have := ho q rfl
    refine ⟨⟨fun e => absurd e (nI_m1 (by omega)), fun e => by cases e⟩, fun q' h => ?_⟩
    cases h
    exact nI_leI (by omega) (by omega)
theorem blO_le {o : Option Nat} {p : Nat} (ho : ∀ q, o = some q → q ≤ 120) (hp : p ≤ 120) : ∀ q, blO o p = some q → q ≤ 120 := by
  intro q h
  cases o with
  | none => cases h; exact hp
  | some q' => cases h; have := ho q' rfl; omega
def stO (s : PSt) (o : Option Nat) : PSt := (q_l s, q_c s, q_D s, o, q_b s, q_m s)
theorem w_blame (d : Nat) (h : RdE M r k pa p0 ra r0 L rc wd W) {s : PSt} (hI : RdI M r p0 rc W s) {p : Nat} (hp : p ≤ 120) (hQ : ∀ M', Fr M M' [r] → RdI M' r p0 rc W (stO s (blO (q_o s) p)) → Q none M') : Call G (d + 1) 0 0 mX5_blame [.ref r, .int (nI p)] M Q := by
  have hr : r < p0 := by have := h.1.2.2.2.2.2.2.2; omega
  obtain ⟨n1, n2⟩ := nbI_lt hI.2.1.2.2.2.2 hp
  have b5 := hI.1.2.2.2.2.1
  have hset : ∀ o', (∀ q, o' = some q → q ≤ 120) → nbI o' = nI p → blO (q_o s) p = o' → Q none (x_si M r 7 (nI p)) := by
    intro o' ho' e1 e2
    obtain ⟨⟨c1, c2, c3, c4, c5, c6, c7⟩, ⟨d1, d2, d3, d4, d5⟩, -⟩ := id hI
    refine hQ _ (Fr.rf.si (by simp)) (hI.keep hr (Fr.rf.si (by simp)) ⟨by rw [xi_nk (by omega)]; exact c1, by rw [xi_nk (by omega)]; exact c2, ?_, by rw [xi_nk (by omega)]; exact c4, ?_, by rw [xi_nk (by omega)]; exact c6, by rw [xi_nk (by omega)]; exact c7⟩ ⟨d1, d2, d3, d4, ?_⟩ rfl rfl)
    · obtain ⟨i, i1, i2, i3⟩ := c3
      exact ⟨i, i1, i2, by rw [xi_nk (by omega)]; exact i3⟩
    · rw [xi_eq, ← e1, ← e2]
      rfl
    · show ∀ q, blO (q_o s) p = some q → q ≤ 120
      rw [e2]
      exact ho'
  have hkeep : blO (q_o s) p = q_o s → Q none M := fun e => hQ M Fr.rf (by rw [e]; exact hI)
  refine eX5_blame r _ ⟨h.1.1, ?_⟩
  rw [b5, n1]
  refine ⟨fun c => ?_, fun c => ?_⟩
  · rintro M3 rfl
    exact hset (some p) (fun q e => by cases e; exact hp) rfl (by rw [c]; rfl)
  · cases ho : q_o s with
    | none => exact absurd ho c
    | some q =>
      rw [ho] at n2
      rw [n2 q rfl]
      refine ⟨fun c2 => hkeep (by rw [ho]; show some (min p q) = some q; rw [Nat.min_eq_right c2]), fun c2 => ?_⟩
      rintro M5 rfl
      exact hset (some p) (fun q e => by cases e; exact hp) rfl (by rw [ho]; show some (min p q) = some p; rw [Nat.min_eq_left (by omega)])
/-- the names of a part that may not be there -/
def oSD (D : Nat → PD) : Option Nat → Nat
  | none => 0
  | some x => p_s (D x)
theorem w_join (d : Nat) (h : RdE M r k pa p0 ra r0 L rc wd W) {s : PSt} (hI : RdI M r p0 rc W s) (hc : q_c s < 60) {f p : Int32} {a b : Option Nat} (ha : ∀ x, a = some x → x < q_c s) (hb : ∀ x, b = some x → x < q_c s)
    (hQ : ∀ M', Fr M M' [r, p0 + 8 * q_c s] → (∀ t, t ≠ 4 → x_i M' r t = x_i M r t) → x_i M' r 4 = nI (q_c s + 1) → x_i M' (p0 + 8 * q_c s) 3 = f → x_i M' (p0 + 8 * q_c s) 4 = p → x_i M' (p0 + 8 * q_c s) 5 = nbI a → x_i M' (p0 + 8 * q_c s) 6 = nbI b → x_i M' (p0 + 8 * q_c s) 8 = nI (oSD (q_D s) a ||| oSD (q_D s) b) → Q (some (.int (nI (q_c s)))) M') :
    Call G (d + 2) 0 0 mX5_join [.ref r, .int f, .int p, .int (nbI a), .int (nbI b)] M Q := by
  have hcl : (nI (q_c s)).toNatClampNeg = q_c s := nI_clamp (by omega)
  obtain ⟨⟨c1, c2, c3, c4, c5, c6, c7⟩, ⟨d1, d2, d3, d4, d5⟩, hP⟩ := hI
  obtain ⟨a1, a2, a3, a4, a5, a6, a7, a8, a9, a10⟩ := h.1
  obtain ⟨e1, e2⟩ := a6.2 (q_c s) hc
  refine eX5_join r _ _ _ _ ⟨a1, fun _ => ⟨pa, a3, by rw [a6.1]; exact ⟨by decide, by decide⟩, by rw [c2, a6.1]; exact vp_in_nI hc (by omega), p0 + 8 * q_c s, by rw [c2, hcl]; exact e1, e2.1, ?_⟩, fun c => absurd (by rw [c2, show (60 : Int32) = nI 60 from rfl, nI_ltI (by omega) (by omega)]; exact hc) c⟩
  rintro M8 rfl M9 rfl M10 rfl M11 rfl M12 rfl
  have hne : p0 + 8 * q_c s ≠ r := by omega
  have g0 : Fr M (x_si (x_si (x_si (x_si (x_si M (p0 + 8 * q_c s) 3 f) (p0 + 8 * q_c s) 4 p) (p0 + 8 * q_c s) 5 (nbI a)) (p0 + 8 * q_c s) 6 (nbI b)) (p0 + 8 * q_c s) 8 0) [p0 + 8 * q_c s] := ((((Fr.rf.si (by simp)).si (by simp)).si (by simp)).si (by simp)).si (by simp)
  generalize hM0 : x_si (x_si (x_si (x_si (x_si M (p0 + 8 * q_c s) 3 f) (p0 + 8 * q_c s) 4 p) (p0 + 8 * q_c s) 5 (nbI a)) (p0 + 8 * q_c s) 6 (nbI b)) (p0 + 8 * q_c s) 8 0 = M0 at g0 ⊢
  have f3 : x_i M0 (p0 + 8 * q_c s) 3 = f := by rw [← hM0]; simp (disch := omega) only [ne_eq, true_and, and_true, false_and, and_false, true_or, or_true, false_or, or_false, not_true_eq_false, not_false_eq_true, forall_eq, exists_eq_left, exists_eq_left', exists_eq_right, true_implies, false_implies, implies_true, forall_const, Option.some.injEq, Value.int.injEq, Value.long.injEq, Value.ref.injEq, reduceCtorEq, exists_const, and_self, s_lit, s_m1, s_add, s_mul, s_sub, s_lt, s_le, s_eq, s_nm1, s_m1n, s_eqm1, s_cl, s_in, s_ltm1, s_div, s_rem, s_rem2, s_hsi, s_rsi, s_lsi, s_nsi, s_hsl, s_rsl, s_isl, s_nsl, xi_eq, xi_na, xi_nk, xl_eq, xl_na, xl_nk, s_k18, s_hfi, s_rfi, s_lfi, s_nfi, s_hfl, s_rfl, s_ifl, s_nfl, xf_in, xf_na, xf_nk, xg_in, xg_na, xg_nk]
  have f4 : x_i M0 (p0 + 8 * q_c s) 4 = p := by rw [← hM0]; simp (disch := omega) only [ne_eq, true_and, and_true, false_and, and_false, true_or, or_true, false_or, or_false, not_true_eq_false, not_false_eq_true, forall_eq, exists_eq_left, exists_eq_left', exists_eq_right, true_implies, false_implies, implies_true, forall_const, Option.some.injEq, Value.int.injEq, Value.long.injEq, Value.ref.injEq, reduceCtorEq, exists_const, and_self, s_lit, s_m1, s_add, s_mul, s_sub, s_lt, s_le, s_eq, s_nm1, s_m1n, s_eqm1, s_cl, s_in, s_ltm1, s_div, s_rem, s_rem2, s_hsi, s_rsi, s_lsi, s_nsi, s_hsl, s_rsl, s_isl, s_nsl, xi_eq, xi_na, xi_nk, xl_eq, xl_na, xl_nk, s_k18, s_hfi, s_rfi, s_lfi, s_nfi, s_hfl, s_rfl, s_ifl, s_nfl, xf_in, xf_na, xf_nk, xg_in, xg_na, xg_nk]
  have f5 : x_i M0 (p0 + 8 * q_c s) 5 = nbI a := by rw [← hM0]; simp (disch := omega) only [ne_eq, true_and, and_true, false_and, and_false, true_or, or_true, false_or, or_false, not_true_eq_false, not_false_eq_true, forall_eq, exists_eq_left, exists_eq_left', exists_eq_right, true_implies, false_implies, implies_true, forall_const, Option.some.injEq, Value.int.injEq, Value.long.injEq, Value.ref.injEq, reduceCtorEq, exists_const, and_self, s_lit, s_m1, s_add, s_mul, s_sub, s_lt, s_le, s_eq, s_nm1, s_m1n, s_eqm1, s_cl, s_in, s_ltm1, s_div, s_rem, s_rem2, s_hsi, s_rsi, s_lsi, s_nsi, s_hsl, s_rsl, s_isl, s_nsl, xi_eq, xi_na, xi_nk, xl_eq, xl_na, xl_nk, s_k18, s_hfi, s_rfi, s_lfi, s_nfi, s_hfl, s_rfl, s_ifl, s_nfl, xf_in, xf_na, xf_nk, xg_in, xg_na, xg_nk]
  have f6 : x_i M0 (p0 + 8 * q_c s) 6 = nbI b := by rw [← hM0]; simp (disch := omega) only [ne_eq, true_and, and_true, false_and, and_false, true_or, or_true, false_or, or_false, not_true_eq_false, not_false_eq_true, forall_eq, exists_eq_left, exists_eq_left', exists_eq_right, true_implies, false_implies, implies_true, forall_const, Option.some.injEq, Value.int.injEq, Value.long.injEq, Value.ref.injEq, reduceCtorEq, exists_const, and_self, s_lit, s_m1, s_add, s_mul, s_sub, s_lt, s_le, s_eq, s_nm1, s_m1n, s_eqm1, s_cl, s_in, s_ltm1, s_div, s_rem, s_rem2, s_hsi, s_rsi, s_lsi, s_nsi, s_hsl, s_rsl, s_isl, s_nsl, xi_eq, xi_na, xi_nk, xl_eq, xl_na, xl_nk, s_k18, s_hfi, s_rfi, s_lfi, s_nfi, s_hfl, s_rfl, s_ifl, s_nfl, xf_in, xf_na, xf_nk, xg_in, xg_na, xg_nk]
  have f8 : x_i M0 (p0 + 8 * q_c s) 8 = 0 := by rw [← hM0]; simp (disch := omega) only [ne_eq, true_and, and_true, false_and, and_false, true_or, or_true, false_or, or_false, not_true_eq_false, not_false_eq_true, forall_eq, exists_eq_left, exists_eq_left', exists_eq_right, true_implies, false_implies, implies_true, forall_const, Option.some.injEq, Value.int.injEq, Value.long.injEq, Value.ref.injEq, reduceCtorEq, exists_const, and_self, s_lit, s_m1, s_add, s_mul, s_sub, s_lt, s_le, s_eq, s_nm1, s_m1n, s_eqm1, s_cl, s_in, s_ltm1, s_div, s_rem, s_rem2, s_hsi, s_rsi, s_lsi, s_nsi, s_hsl, s_rsl, s_isl, s_nsl, xi_eq, xi_na, xi_nk, xl_eq, xl_na, xl_nk, s_k18, s_hfi, s_rfi, s_lfi, s_nfi, s_hfl, s_rfl, s_ifl, s_nfl, xf_in, xf_na, xf_nk, xg_in, xg_na, xg_nk]
  have fr : ∀ t, x_i M0 r t = x_i M r t := fun t => by rw [g0.i (by rw [List.mem_singleton]; omega)]
  have r4 : x_i M0 r 4 = nI (q_c s) := by rw [fr]; exact c2
  rw [r4]
  have hs0 : RdS M0 r k pa p0 ra r0 := h.1.eq g0.h g0.r
  have part : ∀ M', Fr M M' [r, p0 + 8 * q_c s] → ∀ x, x < q_c s → x_i M' (p0 + 8 * x) 8 = nI (p_s (q_D s x)) := fun M' g x hx => by
    rw [g.i (by simp only [List.mem_cons, List.not_mem_nil, or_false]; omega)]
    exact (hP x hx).2.2.1
  have g01 := g0.wk (B := [r, p0 + 8 * q_c s]) (by simp)
  have second : ∀ M' v, Fr M M' [r, p0 + 8 * q_c s] → (∀ t, x_i M' r t = x_i M r t) → x_i M' (p0 + 8 * q_c s) 3 = f → x_i M' (p0 + 8 * q_c s) 4 = p → x_i M' (p0 + 8 * q_c s) 5 = nbI a → x_i M' (p0 + 8 * q_c s) 6 = nbI b → x_i M' (p0 + 8 * q_c s) 8 = nI v → (v ||| oSD (q_D s) b) = (oSD (q_D s) a ||| oSD (q_D s) b) → LX5_join_86 G (d + 1) 0 0 r f p (nbI a) (nbI b) (p0 + 8 * q_c s) M' Q := by
    intro M' v g hr h3 h4 h5 h6 h8 hv
    have hs1 : RdS M' r k pa p0 ra r0 := h.1.eq g.h g.r
    refine vX5_join_86 _ _ _ _ _ _ ⟨hs1.1, ?_⟩
    rw [hr 4, c2]
    cases b with
    | none =>
      refine w_within_m1 d ⟨0, rfl, fun _ => ⟨hs1.1, ?_⟩, fun c => absurd rfl c⟩
      rintro M7 rfl
      rw [xi_eq, hr 4, c2]
      rw [show (nI (q_c s) + 1 - 1 : Int32) = nI (q_c s) by rw [nI_1]; exact pk_sub (b := 1) (by omega)]
      refine hQ _ (g.si (by simp)) (fun t ht => by rw [xi_nk ht, hr t]) (by rw [xi_eq, nI_1]) ?_ ?_ ?_ ?_ ?_
      · rw [xi_na hne]; exact h3
      · rw [xi_na hne]; exact h4
      · rw [xi_na hne]; exact h5
      · rw [xi_na hne]; exact h6
      · rw [xi_na hne, h8, ← hv]; exact congrArg nI (Nat.or_zero v).symm
    | some x =>
      have hx := hb x rfl
      obtain ⟨p1, p2⟩ := hs1.2.2.2.2.2.1.2 x (by omega)
      refine w_within d (i := x) (n := q_c s) (by omega) (by omega) ?_
      rw [if_pos hx]
      refine ⟨1, rfl, fun c => absurd c (by decide), fun _ => ⟨by rw [g.h]; exact e2.1, hs1.1, pa, hs1.2.2.1, by rw [hs1.2.2.2.2.2.1.1]; exact ⟨by decide, by decide⟩, by rw [hs1.2.2.2.2.2.1.1]; exact vp_in_nI (show x < 60 by omega) (by omega), p0 + 8 * x, by rw [show (nbI (some x)).toNatClampNeg = x from nI_clamp (by omega)]; exact p1, p2.1, ?_⟩⟩
      rintro M15 rfl M16 rfl
      rw [xi_eq, xi_na (Ne.symm hne), hr 4, c2]
      rw [show (nI (q_c s) + 1 - 1 : Int32) = nI (q_c s) by rw [nI_1]; exact pk_sub (b := 1) (by omega)]
      rw [h8, part M' g x hx, nI_or]
      refine hQ _ ((g.si (by simp)).si (by simp)) (fun t ht => ?_) (by rw [xi_eq, nI_1]) ?_ ?_ ?_ ?_ ?_
      · rw [xi_nk ht, xi_na (Ne.symm hne), hr t]
      · rw [xi_na hne, xi_nk (by omega)]; exact h3
      · rw [xi_na hne, xi_nk (by omega)]; exact h4
      · rw [xi_na hne, xi_nk (by omega)]; exact h5
      · rw [xi_na hne, xi_nk (by omega)]; exact h6
      · rw [xi_na hne, xi_eq]; exact congrArg nI hv
  cases a with
  | none =>
    refine w_within_m1 d ⟨0, rfl, fun _ => ?_, fun c => absurd rfl c⟩
    exact second M0 0 g01 fr f3 f4 f5 f6 f8 rfl
  | some x =>
    have hx := ha x rfl
    obtain ⟨p1, p2⟩ := hs0.2.2.2.2.2.1.2 x (by omega)
    refine w_within d (i := x) (n := q_c s) (by omega) (by omega) ?_
    rw [if_pos hx]
    refine ⟨1, rfl, fun c => absurd c (by decide), fun _ => ⟨by rw [g0.h]; exact e2.1, hs0.1, pa, hs0.2.2.1, by rw [hs0.2.2.2.2.2.1.1]; exact ⟨by decide, by decide⟩, by rw [hs0.2.2.2.2.2.1.1]; exact vp_in_nI (show x < 60 by omega) (by omega), p0 + 8 * x, by rw [show (nbI (some x)).toNatClampNeg = x from nI_clamp (by omega)]; exact p1, p2.1, ?_⟩⟩
    rintro M24 rfl
    rw [f8, part M0 g01 x hx, show (0 : Int32) = nI 0 from rfl, nI_or, Nat.zero_or]
    refine second _ (p_s (q_D s x)) (g01.si (by simp)) (fun t => ?_) ?_ ?_ ?_ ?_ xi_eq rfl
    · rw [xi_na (Ne.symm hne)]; exact fr t
    · rw [xi_nk (by omega)]; exact f3
    · rw [xi_nk (by omega)]; exact f4
    · rw [xi_nk (by omega)]; exact f5
    · rw [xi_nk (by omega)]; exact f6
theorem RdI.endP {M' : Mem} {s : PSt} {P : PD} (h : RdI M r p0 rc W s) (hr : r < p0) (hc : q_c s < 60) (g : Fr M M' [r, p0 + 8 * q_c s, p0 + 8 * q_c s + 1, p0 + 8 * q_c s + 2, p0 + 8 * q_c s + 3, p0 + 8 * q_c s + 4]) (e : ∀ t, t ≠ 4 → x_i M' r t = x_i M r t) (e4 : x_i M' r 4 = nI (q_c s + 1)) (hP : PaI M' (p0 + 8 * q_c s) P) (h8 : p_s P < 256) : RdI M' r p0 rc W (enP s P) := by
  obtain ⟨⟨c1, c2, c3, c4, c5, c6, c7⟩, ⟨d1, d2, d3, d4, d5⟩, hP0⟩ := h
  refine ⟨⟨by rw [e 3 (by omega)]; exact c1, e4, ?_, by rw [e 6 (by omega)]; exact c4, by rw [e 7 (by omega)]; exact c5, by rw [e 8 (by omega)]; exact c6, by rw [e 9 (by omega)]; exact c7⟩, ⟨hc, fun j hj => ?_, d3, d4, d5⟩, fun j hj => ?_⟩
  · obtain ⟨i, i1, i2, i3⟩ := c3
    exact ⟨i, i1, i2, by rw [e 5 (by omega)]; exact i3⟩
  · show p_s (if j = q_c s then P else q_D s j) < 256
    by_cases c : j = q_c s
    · rw [if_pos c]; exact h8
    · rw [if_neg c]
      have : j < q_c s + 1 := hj
      exact d2 j (by omega)
  · show PaI M' (p0 + 8 * j) (if j = q_c s then P else q_D s j)
    by_cases c : j = q_c s
    · rw [if_pos c, c]; exact hP
    · rw [if_neg c]
      have : j < q_c s + 1 := hj
      exact (hP0 j (by omega)).eq (fun q h1 h2 => g.i (by simp only [List.mem_cons, List.not_mem_nil, or_false]; omega))
end ReaderC
