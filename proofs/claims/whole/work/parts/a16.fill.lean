/-! ===== Arrays.fill; a table's rows ===== -/
section Fill
/-- the ints of a from lo to hi are v -/
def x_fi (M : Mem) (a lo hi : Nat) (v : Int32) : Mem := (M.1, M.2.1, fun q k => if q = a ∧ lo ≤ k ∧ k < hi then v else M.2.2.1 q k, M.2.2.2.1, M.2.2.2.2)
def x_fl (M : Mem) (a lo hi : Nat) (v : Int64) : Mem := (M.1, M.2.1, M.2.2.1, fun q k => if q = a ∧ lo ≤ k ∧ k < hi then v else M.2.2.2.1 q k, M.2.2.2.2)
variable {G : GG} {M : Mem}
theorem s_hfi {a lo hi : Nat} {v : Int32} : x_h (x_fi M a lo hi v) = x_h M := rfl
theorem s_rfi {a lo hi : Nat} {v : Int32} : x_r (x_fi M a lo hi v) = x_r M := rfl
theorem s_lfi {a lo hi : Nat} {v : Int32} : x_l (x_fi M a lo hi v) = x_l M := rfl
theorem s_nfi {a lo hi : Nat} {v : Int32} : x_n (x_fi M a lo hi v) = x_n M := rfl
theorem s_hfl {a lo hi : Nat} {v : Int64} : x_h (x_fl M a lo hi v) = x_h M := rfl
theorem s_rfl {a lo hi : Nat} {v : Int64} : x_r (x_fl M a lo hi v) = x_r M := rfl
theorem s_ifl {a lo hi : Nat} {v : Int64} : x_i (x_fl M a lo hi v) = x_i M := rfl
theorem s_nfl {a lo hi : Nat} {v : Int64} : x_n (x_fl M a lo hi v) = x_n M := rfl
theorem xf_in {a lo hi k : Nat} {v : Int32} (h : lo ≤ k) (h2 : k < hi) : x_i (x_fi M a lo hi v) a k = v := if_pos ⟨rfl, h, h2⟩
theorem xf_na {a lo hi b k : Nat} {v : Int32} (h : b ≠ a) : x_i (x_fi M a lo hi v) b k = x_i M b k := if_neg (fun e => h e.1)
theorem xf_nk {a lo hi b k : Nat} {v : Int32} (h : k < lo ∨ hi ≤ k) : x_i (x_fi M a lo hi v) b k = x_i M b k := if_neg (fun e => by omega)
theorem xg_in {a lo hi k : Nat} {v : Int64} (h : lo ≤ k) (h2 : k < hi) : x_l (x_fl M a lo hi v) a k = v := if_pos ⟨rfl, h, h2⟩
theorem xg_na {a lo hi b k : Nat} {v : Int64} (h : b ≠ a) : x_l (x_fl M a lo hi v) b k = x_l M b k := if_neg (fun e => h e.1)
theorem xg_nk {a lo hi b k : Nat} {v : Int64} (h : k < lo ∨ hi ≤ k) : x_l (x_fl M a lo hi v) b k = x_l M b k := if_neg (fun e => by omega)
theorem xf_0 {a lo : Nat} {v : Int32} : x_fi M a lo lo v = M := by
  unfold x_fi
  have : (fun q k => if q = a ∧ lo ≤ k ∧ k < lo then v else M.2.2.1 q k) = M.2.2.1 := by
    funext q k
    exact if_neg (fun e => by omega)
  rw [this]
theorem xf_s {a lo i : Nat} {v : Int32} (h : lo ≤ i) : x_si (x_fi M a lo i v) a i v = x_fi M a lo (i + 1) v := by
  unfold x_si x_fi
  have : up2 (fun q k => if q = a ∧ lo ≤ k ∧ k < i then v else M.2.2.1 q k) a i v = (fun q k => if q = a ∧ lo ≤ k ∧ k < i + 1 then v else M.2.2.1 q k) := by
    funext q k
    show (if q = a ∧ k = i then v else if q = a ∧ lo ≤ k ∧ k < i then v else M.2.2.1 q k) = if q = a ∧ lo ≤ k ∧ k < i + 1 then v else M.2.2.1 q k
    by_cases h1 : q = a ∧ k = i
    · rw [if_pos h1, if_pos (by omega)]
    · rw [if_neg h1]
      by_cases h2 : q = a ∧ lo ≤ k ∧ k < i
      · rw [if_pos h2, if_pos (by omega)]
      · rw [if_neg h2, if_neg (by omega)]
  show (_, _, up2 _ a i v, _, _) = _
  rw [this]
theorem xg_0 {a lo : Nat} {v : Int64} : x_fl M a lo lo v = M := by
  unfold x_fl
  have : (fun q k => if q = a ∧ lo ≤ k ∧ k < lo then v else M.2.2.2.1 q k) = M.2.2.2.1 := by
    funext q k
    exact if_neg (fun e => by omega)
  rw [this]
theorem xg_s {a lo i : Nat} {v : Int64} (h : lo ≤ i) : x_sl (x_fl M a lo i v) a i v = x_fl M a lo (i + 1) v := by
  unfold x_sl x_fl
  have : up2 (fun q k => if q = a ∧ lo ≤ k ∧ k < i then v else M.2.2.2.1 q k) a i v = (fun q k => if q = a ∧ lo ≤ k ∧ k < i + 1 then v else M.2.2.2.1 q k) := by
    funext q k
    show (if q = a ∧ k = i then v else if q = a ∧ lo ≤ k ∧ k < i then v else M.2.2.2.1 q k) = if q = a ∧ lo ≤ k ∧ k < i + 1 then v else M.2.2.2.1 q k
    by_cases h1 : q = a ∧ k = i
    · rw [if_pos h1, if_pos (by omega)]
    · rw [if_neg h1]
      by_cases h2 : q = a ∧ lo ≤ k ∧ k < i
      · rw [if_pos h2, if_pos (by omega)]
      · rw [if_neg h2, if_neg (by omega)]
  show (_, _, _, up2 _ a i v, _) = _
  rw [this]
theorem Fr.fi {M' : Mem} {A : List Nat} {a lo hi : Nat} {v : Int32} (h : Fr M M' A) (ha : a ∈ A) : Fr M (x_fi M' a lo hi v) A := by
  obtain ⟨f, g, rfl, hf⟩ := h
  refine ⟨_, g, rfl, fun q hq => ?_⟩
  exact ⟨funext (fun k => (if_neg (fun e : q = a ∧ _ => hq (e.1 ▸ ha))).trans (congrFun (hf q hq).1 k)), (hf q hq).2⟩
theorem Fr.fl {M' : Mem} {A : List Nat} {a lo hi : Nat} {v : Int64} (h : Fr M M' A) (ha : a ∈ A) : Fr M (x_fl M' a lo hi v) A := by
  obtain ⟨f, g, rfl, hf⟩ := h
  refine ⟨f, _, rfl, fun q hq => ?_⟩
  exact ⟨(hf q hq).1, funext (fun k => (if_neg (fun e : q = a ∧ _ => hq (e.1 ▸ ha))).trans (congrFun (hf q hq).2 k))⟩
theorem w_fill3 (d : Nat) {a lo hi n : Nat} {v : Int32} {Q : Option Value → Mem → Prop} (hh : x_h M a = (1, n)) (h1 : lo ≤ hi) (h2 : hi ≤ n) (hn : n < 2 ^ 30) (hQ : Q none (x_fi M a lo hi v)) : Call G (d + 2) 0 0 mJ7_fill_fda19 [.ref a, .int (nI lo), .int (nI hi), .int v] M Q := by
  have key : ∀ (k i : Nat), i + k = hi → lo ≤ i → LJ7_fill_fda19_10 G (d + 1) 0 0 a (nI lo) (nI hi) v (nI i) (x_fi M a lo i v) Q := by
    intro k
    induction k with
    | zero =>
      intro i hi' hl
      have : i = hi := by omega
      subst this
      refine vJ7_fill_fda19_10 _ _ _ _ _ ?_
      simp (disch := omega) only [ne_eq, true_and, and_true, false_and, and_false, true_or, or_true, false_or, or_false, not_true_eq_false, not_false_eq_true, forall_eq, exists_eq_left, exists_eq_left', exists_eq_right, true_implies, false_implies, implies_true, forall_const, Option.some.injEq, Value.int.injEq, Value.long.injEq, Value.ref.injEq, reduceCtorEq, exists_const, and_self, s_lit, s_m1, s_add, s_mul, s_sub, s_lt, s_le, s_eq, s_nm1, s_m1n, s_eqm1, s_cl, s_in, s_ltm1, s_div, s_rem, s_rem2, s_hsi, s_rsi, s_lsi, s_nsi, s_hsl, s_rsl, s_isl, s_nsl, xi_eq, xi_na, xi_nk, xl_eq, xl_na, xl_nk, s_k18, Nat.le_refl, hQ]
    | succ k ih =>
      intro i hi' hl
      refine vJ7_fill_fda19_10 _ _ _ _ _ ?_
      have e : ¬ hi ≤ i := by omega
      simp (disch := omega) only [ne_eq, true_and, and_true, false_and, and_false, true_or, or_true, false_or, or_false, not_true_eq_false, not_false_eq_true, forall_eq, exists_eq_left, exists_eq_left', exists_eq_right, true_implies, false_implies, implies_true, forall_const, Option.some.injEq, Value.int.injEq, Value.long.injEq, Value.ref.injEq, reduceCtorEq, exists_const, and_self, s_lit, s_m1, s_add, s_mul, s_sub, s_lt, s_le, s_eq, s_nm1, s_m1n, s_eqm1, s_cl, s_in, s_ltm1, s_div, s_rem, s_rem2, s_hsi, s_rsi, s_lsi, s_nsi, s_hsl, s_rsl, s_isl, s_nsl, xi_eq, xi_na, xi_nk, xl_eq, xl_na, xl_nk, s_k18, hh, e, s_hfi]
      rw [xf_s hl]
      exact ih (i + 1) (by omega) (by omega)
  refine eJ7_fill_fda19 _ _ _ _ ?_
  simp (disch := omega) only [ne_eq, true_and, and_true, false_and, and_false, true_or, or_true, false_or, or_false, not_true_eq_false, not_false_eq_true, forall_eq, exists_eq_left, exists_eq_left', exists_eq_right, true_implies, false_implies, implies_true, forall_const, Option.some.injEq, Value.int.injEq, Value.long.injEq, Value.ref.injEq, reduceCtorEq, exists_const, and_self, s_lit, s_m1, s_add, s_mul, s_sub, s_lt, s_le, s_eq, s_nm1, s_m1n, s_eqm1, s_cl, s_in, s_ltm1, s_div, s_rem, s_rem2, s_hsi, s_rsi, s_lsi, s_nsi, s_hsl, s_rsl, s_isl, s_nsl, xi_eq, xi_na, xi_nk, xl_eq, xl_na, xl_nk, s_k18, hh]
  refine eJ7_rangeCheck_23922 _ _ _ ?_
  simp (disch := omega) only [ne_eq, true_and, and_true, false_and, and_false, true_or, or_true, false_or, or_false, not_true_eq_false, not_false_eq_true, forall_eq, exists_eq_left, exists_eq_left', exists_eq_right, true_implies, false_implies, implies_true, forall_const, Option.some.injEq, Value.int.injEq, Value.long.injEq, Value.ref.injEq, reduceCtorEq, exists_const, and_self, s_lit, s_m1, s_add, s_mul, s_sub, s_lt, s_le, s_eq, s_nm1, s_m1n, s_eqm1, s_cl, s_in, s_ltm1, s_div, s_rem, s_rem2, s_hsi, s_rsi, s_lsi, s_nsi, s_hsl, s_rsl, s_isl, s_nsl, xi_eq, xi_na, xi_nk, xl_eq, xl_na, xl_nk, s_k18, h1, h2, s_lit 0, Nat.zero_le]
  have := key (hi - lo) lo (by omega) (Nat.le_refl _)
  rw [xf_0] at this
  exact this
theorem w_fillI (d : Nat) {a n : Nat} {v : Int32} {Q : Option Value → Mem → Prop} (hh : x_h M a = (1, n)) (hn : n < 2 ^ 30) (hQ : Q none (x_fi M a 0 n v)) : Call G (d + 1) 0 0 mJ7_fill_53178 [.ref a, .int v] M Q := by
  have key : ∀ (k i : Nat), i + k = n → LJ7_fill_53178_5 G d 0 0 a v (nI i) (nI n) (x_fi M a 0 i v) Q := by
    intro k
    induction k with
    | zero =>
      intro i hi'
      have : i = n := by omega
      subst this
      refine vJ7_fill_53178_5 _ _ _ _ ?_
      simp (disch := omega) only [ne_eq, true_and, and_true, false_and, and_false, true_or, or_true, false_or, or_false, not_true_eq_false, not_false_eq_true, forall_eq, exists_eq_left, exists_eq_left', exists_eq_right, true_implies, false_implies, implies_true, forall_const, Option.some.injEq, Value.int.injEq, Value.long.injEq, Value.ref.injEq, reduceCtorEq, exists_const, and_self, s_lit, s_m1, s_add, s_mul, s_sub, s_lt, s_le, s_eq, s_nm1, s_m1n, s_eqm1, s_cl, s_in, s_ltm1, s_div, s_rem, s_rem2, s_hsi, s_rsi, s_lsi, s_nsi, s_hsl, s_rsl, s_isl, s_nsl, xi_eq, xi_na, xi_nk, xl_eq, xl_na, xl_nk, s_k18, Nat.le_refl, hQ]
    | succ k ih =>
      intro i hi'
      refine vJ7_fill_53178_5 _ _ _ _ ?_
      have e : ¬ n ≤ i := by omega
      simp (disch := omega) only [ne_eq, true_and, and_true, false_and, and_false, true_or, or_true, false_or, or_false, not_true_eq_false, not_false_eq_true, forall_eq, exists_eq_left, exists_eq_left', exists_eq_right, true_implies, false_implies, implies_true, forall_const, Option.some.injEq, Value.int.injEq, Value.long.injEq, Value.ref.injEq, reduceCtorEq, exists_const, and_self, s_lit, s_m1, s_add, s_mul, s_sub, s_lt, s_le, s_eq, s_nm1, s_m1n, s_eqm1, s_cl, s_in, s_ltm1, s_div, s_rem, s_rem2, s_hsi, s_rsi, s_lsi, s_nsi, s_hsl, s_rsl, s_isl, s_nsl, xi_eq, xi_na, xi_nk, xl_eq, xl_na, xl_nk, s_k18, hh, e, s_hfi]
      rw [xf_s (Nat.zero_le _)]
      exact ih (i + 1) (by omega)
  refine eJ7_fill_53178 _ _ ?_
  simp (disch := omega) only [ne_eq, true_and, and_true, false_and, and_false, true_or, or_true, false_or, or_false, not_true_eq_false, not_false_eq_true, forall_eq, exists_eq_left, exists_eq_left', exists_eq_right, true_implies, false_implies, implies_true, forall_const, Option.some.injEq, Value.int.injEq, Value.long.injEq, Value.ref.injEq, reduceCtorEq, exists_const, and_self, s_lit, s_m1, s_add, s_mul, s_sub, s_lt, s_le, s_eq, s_nm1, s_m1n, s_eqm1, s_cl, s_in, s_ltm1, s_div, s_rem, s_rem2, s_hsi, s_rsi, s_lsi, s_nsi, s_hsl, s_rsl, s_isl, s_nsl, xi_eq, xi_na, xi_nk, xl_eq, xl_na, xl_nk, s_k18, hh]
  have := key n 0 (by omega)
  rw [xf_0] at this
  exact this
theorem w_fillL (d : Nat) {a n : Nat} {v : Int64} {Q : Option Value → Mem → Prop} (hh : x_h M a = (2, n)) (hn : n < 2 ^ 30) (hQ : Q none (x_fl M a 0 n v)) : Call G (d + 1) 0 0 mJ7_fill_d0a16 [.ref a, .long v] M Q := by
  have key : ∀ (k i : Nat), i + k = n → LJ7_fill_d0a16_6 G d 0 0 a v (nI i) (nI n) (x_fl M a 0 i v) Q := by
    intro k
    induction k with
    | zero =>
      intro i hi'
      have : i = n := by omega
      subst this
      refine vJ7_fill_d0a16_6 _ _ _ _ ?_
      simp (disch := omega) only [ne_eq, true_and, and_true, false_and, and_false, true_or, or_true, false_or, or_false, not_true_eq_false, not_false_eq_true, forall_eq, exists_eq_left, exists_eq_left', exists_eq_right, true_implies, false_implies, implies_true, forall_const, Option.some.injEq, Value.int.injEq, Value.long.injEq, Value.ref.injEq, reduceCtorEq, exists_const, and_self, s_lit, s_m1, s_add, s_mul, s_sub, s_lt, s_le, s_eq, s_nm1, s_m1n, s_eqm1, s_cl, s_in, s_ltm1, s_div, s_rem, s_rem2, s_hsi, s_rsi, s_lsi, s_nsi, s_hsl, s_rsl, s_isl, s_nsl, xi_eq, xi_na, xi_nk, xl_eq, xl_na, xl_nk, s_k18, Nat.le_refl, hQ]
    | succ k ih =>
      intro i hi'
      refine vJ7_fill_d0a16_6 _ _ _ _ ?_
      have e : ¬ n ≤ i := by omega
      simp (disch := omega) only [ne_eq, true_and, and_true, false_and, and_false, true_or, or_true, false_or, or_false, not_true_eq_false, not_false_eq_true, forall_eq, exists_eq_left, exists_eq_left', exists_eq_right, true_implies, false_implies, implies_true, forall_const, Option.some.injEq, Value.int.injEq, Value.long.injEq, Value.ref.injEq, reduceCtorEq, exists_const, and_self, s_lit, s_m1, s_add, s_mul, s_sub, s_lt, s_le, s_eq, s_nm1, s_m1n, s_eqm1, s_cl, s_in, s_ltm1, s_div, s_rem, s_rem2, s_hsi, s_rsi, s_lsi, s_nsi, s_hsl, s_rsl, s_isl, s_nsl, xi_eq, xi_na, xi_nk, xl_eq, xl_na, xl_nk, s_k18, hh, e, s_hfl]
      rw [xg_s (Nat.zero_le _)]
      exact ih (i + 1) (by omega)
  refine eJ7_fill_d0a16 _ _ ?_
  simp (disch := omega) only [ne_eq, true_and, and_true, false_and, and_false, true_or, or_true, false_or, or_false, not_true_eq_false, not_false_eq_true, forall_eq, exists_eq_left, exists_eq_left', exists_eq_right, true_implies, false_implies, implies_true, forall_const, Option.some.injEq, Value.int.injEq, Value.long.injEq, Value.ref.injEq, reduceCtorEq, exists_const, and_self, s_lit, s_m1, s_add, s_mul, s_sub, s_lt, s_le, s_eq, s_nm1, s_m1n, s_eqm1, s_cl, s_in, s_ltm1, s_div, s_rem, s_rem2, s_hsi, s_rsi, s_lsi, s_nsi, s_hsl, s_rsl, s_isl, s_nsl, xi_eq, xi_na, xi_nk, xl_eq, xl_na, xl_nk, s_k18, hh]
  refine ⟨by decide, ?_⟩
  have := key n 0 (by omega)
  rw [xg_0] at this
  exact this
end Fill
