/-! ===== Loom ===== -/
section LoomC
/-- the object o of Loom, its rows behind it -/
def LoS (M : Mem) (o : Nat) : Prop := (x_h M o).1 = 18 ∧ x_r M o 0 = some (o + 1) ∧ x_r M o 1 = some (o + 2) ∧ x_r M o 2 = some (o + 3) ∧ x_r M o 3 = some (o + 4) ∧ x_r M o 4 = some (o + 5) ∧ x_r M o 5 = some (o + 6) ∧ x_r M o 6 = some (o + 7) ∧ x_h M (o + 1) = (1, 3600) ∧ x_h M (o + 2) = (1, 3600) ∧ x_h M (o + 3) = (1, 3600) ∧ x_h M (o + 4) = (1, 43200) ∧ x_h M (o + 5) = (1, 3600) ∧ x_h M (o + 6) = (1, 3600) ∧ x_h M (o + 7) = (1, 3600)
theorem LoS.eq {M M' : Mem} {o : Nat} (h : LoS M o) (h1 : x_h M' = x_h M) (h2 : x_r M' = x_r M) : LoS M' o := by
  unfold LoS
  rw [h1, h2]
  exact h
theorem LoS.fr {M M' : Mem} {o : Nat} {A : List Nat} (h : LoS M o) (f : Fr M M' A) : LoS M' o := h.eq f.h f.r
/-- the keys met so far -/
def LoD (M : Mem) (o room f : Nat) (K : List Nat) : Prop := x_i M o 7 = nI room ∧ x_i M o 8 = nI f ∧ x_i M o 9 = nI K.length ∧ (∀ k, k < room → x_i M (o + 2) k = if k ∈ K then nI (K.idxOf k) else -1) ∧ (∀ i, i < K.length → x_i M (o + 1) i = nI (K.getD i 0)) ∧ (∀ x ∈ K, x < room) ∧ K.Nodup ∧ room ≤ 3600
theorem LoD.len {M : Mem} {o room f : Nat} {K : List Nat} (h : LoD M o room f K) : K.length ≤ room := nd_len room K h.2.2.2.2.2.2.1 h.2.2.2.2.2.1
theorem LoD.fr {M M' : Mem} {o room f : Nat} {K : List Nat} {A : List Nat} (h : LoD M o room f K) (g : Fr M M' A) (h1 : o ∉ A) (h2 : o + 1 ∉ A) (h3 : o + 2 ∉ A) : LoD M' o room f K := by
  unfold LoD
  rw [g.i h1, g.i h2, g.i h3]
  exact h
variable {G : GG} {M : Mem} {o room f : Nat} {K : List Nat} {Q : Option Value → Mem → Prop}
theorem w_open (d : Nat) (hs : LoS M o) (hr : room ≤ 3600) (hQ : ∀ M', Fr M M' [o, o + 2] → LoD M' o room f [] → Q none M') : Call G (d + 3) 0 0 mX2_open [.ref o, .int (nI room), .int (nI f)] M Q := by
  obtain ⟨s0, s1, s2, s3, s4, s5, s6, s7, t1, t2, t3, t4, t5, t6, t7⟩ := hs
  refine eX2_open o _ _ ?_
  simp (disch := omega) only [ne_eq, true_and, and_true, false_and, and_false, true_or, or_true, false_or, or_false, not_true_eq_false, not_false_eq_true, forall_eq, exists_eq_left, exists_eq_left', exists_eq_right, true_implies, false_implies, implies_true, forall_const, Option.some.injEq, Value.int.injEq, Value.long.injEq, Value.ref.injEq, reduceCtorEq, exists_const, and_self, s_lit, s_m1, s_add, s_mul, s_sub, s_lt, s_le, s_eq, s_nm1, s_m1n, s_eqm1, s_cl, s_in, s_ltm1, s_div, s_rem, s_rem2, s_hsi, s_rsi, s_lsi, s_nsi, s_hsl, s_rsl, s_isl, s_nsl, xi_eq, xi_na, xi_nk, xl_eq, xl_na, xl_nk, s_k18, s_hfi, s_rfi, s_lfi, s_nfi, s_hfl, s_rfl, s_ifl, s_nfl, xf_in, xf_na, xf_nk, xg_in, xg_na, xg_nk, s0, s1, s2, s3, s4, s5, s6, s7, t1, t2, t3, t4, t5, t6, t7]
  refine w_min _ (by omega) (by omega) ?_
  simp (disch := omega) only [ne_eq, true_and, and_true, false_and, and_false, true_or, or_true, false_or, or_false, not_true_eq_false, not_false_eq_true, forall_eq, exists_eq_left, exists_eq_left', exists_eq_right, true_implies, false_implies, implies_true, forall_const, Option.some.injEq, Value.int.injEq, Value.long.injEq, Value.ref.injEq, reduceCtorEq, exists_const, and_self, s_lit, s_m1, s_add, s_mul, s_sub, s_lt, s_le, s_eq, s_nm1, s_m1n, s_eqm1, s_cl, s_in, s_ltm1, s_div, s_rem, s_rem2, s_hsi, s_rsi, s_lsi, s_nsi, s_hsl, s_rsl, s_isl, s_nsl, xi_eq, xi_na, xi_nk, xl_eq, xl_na, xl_nk, s_k18, s_hfi, s_rfi, s_lfi, s_nfi, s_hfl, s_rfl, s_ifl, s_nfl, xf_in, xf_na, xf_nk, xg_in, xg_na, xg_nk, s0, s1, s2, s3, s4, s5, s6, s7, t1, t2, t3, t4, t5, t6, t7]
  rw [Nat.min_eq_left (by omega)]
  refine w_max _ (by omega) (by omega) ?_
  simp (disch := omega) only [ne_eq, true_and, and_true, false_and, and_false, true_or, or_true, false_or, or_false, not_true_eq_false, not_false_eq_true, forall_eq, exists_eq_left, exists_eq_left', exists_eq_right, true_implies, false_implies, implies_true, forall_const, Option.some.injEq, Value.int.injEq, Value.long.injEq, Value.ref.injEq, reduceCtorEq, exists_const, and_self, s_lit, s_m1, s_add, s_mul, s_sub, s_lt, s_le, s_eq, s_nm1, s_m1n, s_eqm1, s_cl, s_in, s_ltm1, s_div, s_rem, s_rem2, s_hsi, s_rsi, s_lsi, s_nsi, s_hsl, s_rsl, s_isl, s_nsl, xi_eq, xi_na, xi_nk, xl_eq, xl_na, xl_nk, s_k18, s_hfi, s_rfi, s_lfi, s_nfi, s_hfl, s_rfl, s_ifl, s_nfl, xf_in, xf_na, xf_nk, xg_in, xg_na, xg_nk, s0, s1, s2, s3, s4, s5, s6, s7, t1, t2, t3, t4, t5, t6, t7]
  rw [Nat.max_eq_right (by omega)]
  refine w_fill3 _ (n := 3600) (by simp (disch := omega) only [ne_eq, true_and, and_true, false_and, and_false, true_or, or_true, false_or, or_false, not_true_eq_false, not_false_eq_true, forall_eq, exists_eq_left, exists_eq_left', exists_eq_right, true_implies, false_implies, implies_true, forall_const, Option.some.injEq, Value.int.injEq, Value.long.injEq, Value.ref.injEq, reduceCtorEq, exists_const, and_self, s_lit, s_m1, s_add, s_mul, s_sub, s_lt, s_le, s_eq, s_nm1, s_m1n, s_eqm1, s_cl, s_in, s_ltm1, s_div, s_rem, s_rem2, s_hsi, s_rsi, s_lsi, s_nsi, s_hsl, s_rsl, s_isl, s_nsl, xi_eq, xi_na, xi_nk, xl_eq, xl_na, xl_nk, s_k18, s_hfi, s_rfi, s_lfi, s_nfi, s_hfl, s_rfl, s_ifl, s_nfl, xf_in, xf_na, xf_nk, xg_in, xg_na, xg_nk, s0, s1, s2, s3, s4, s5, s6, s7, t1, t2, t3, t4, t5, t6, t7]) (by omega) (by omega) (by omega) ?_
  simp (disch := omega) only [ne_eq, true_and, and_true, false_and, and_false, true_or, or_true, false_or, or_false, not_true_eq_false, not_false_eq_true, forall_eq, exists_eq_left, exists_eq_left', exists_eq_right, true_implies, false_implies, implies_true, forall_const, Option.some.injEq, Value.int.injEq, Value.long.injEq, Value.ref.injEq, reduceCtorEq, exists_const, and_self, s_lit, s_m1, s_add, s_mul, s_sub, s_lt, s_le, s_eq, s_nm1, s_m1n, s_eqm1, s_cl, s_in, s_ltm1, s_div, s_rem, s_rem2, s_hsi, s_rsi, s_lsi, s_nsi, s_hsl, s_rsl, s_isl, s_nsl, xi_eq, xi_na, xi_nk, xl_eq, xl_na, xl_nk, s_k18, s_hfi, s_rfi, s_lfi, s_nfi, s_hfl, s_rfl, s_ifl, s_nfl, xf_in, xf_na, xf_nk, xg_in, xg_na, xg_nk, s0, s1, s2, s3, s4, s5, s6, s7, t1, t2, t3, t4, t5, t6, t7]
  refine hQ _ (((Fr.rf.si (by simp)).si (by simp)).si (by simp) |>.fi (by simp)) ⟨?_, ?_, ?_, fun k hk => ?_, fun i hi => absurd hi (Nat.not_lt_zero i), fun x hx => absurd hx (List.not_mem_nil), List.nodup_nil, hr⟩
  · simp (disch := omega) only [ne_eq, true_and, and_true, false_and, and_false, true_or, or_true, false_or, or_false, not_true_eq_false, not_false_eq_true, forall_eq, exists_eq_left, exists_eq_left', exists_eq_right, true_implies, false_implies, implies_true, forall_const, Option.some.injEq, Value.int.injEq, Value.long.injEq, Value.ref.injEq, reduceCtorEq, exists_const, and_self, s_lit, s_m1, s_add, s_mul, s_sub, s_lt, s_le, s_eq, s_nm1, s_m1n, s_eqm1, s_cl, s_in, s_ltm1, s_div, s_rem, s_rem2, s_hsi, s_rsi, s_lsi, s_nsi, s_hsl, s_rsl, s_isl, s_nsl, xi_eq, xi_na, xi_nk, xl_eq, xl_na, xl_nk, s_k18, s_hfi, s_rfi, s_lfi, s_nfi, s_hfl, s_rfl, s_ifl, s_nfl, xf_in, xf_na, xf_nk, xg_in, xg_na, xg_nk]
  · simp (disch := omega) only [ne_eq, true_and, and_true, false_and, and_false, true_or, or_true, false_or, or_false, not_true_eq_false, not_false_eq_true, forall_eq, exists_eq_left, exists_eq_left', exists_eq_right, true_implies, false_implies, implies_true, forall_const, Option.some.injEq, Value.int.injEq, Value.long.injEq, Value.ref.injEq, reduceCtorEq, exists_const, and_self, s_lit, s_m1, s_add, s_mul, s_sub, s_lt, s_le, s_eq, s_nm1, s_m1n, s_eqm1, s_cl, s_in, s_ltm1, s_div, s_rem, s_rem2, s_hsi, s_rsi, s_lsi, s_nsi, s_hsl, s_rsl, s_isl, s_nsl, xi_eq, xi_na, xi_nk, xl_eq, xl_na, xl_nk, s_k18, s_hfi, s_rfi, s_lfi, s_nfi, s_hfl, s_rfl, s_ifl, s_nfl, xf_in, xf_na, xf_nk, xg_in, xg_na, xg_nk]
  · simp (disch := omega) only [ne_eq, true_and, and_true, false_and, and_false, true_or, or_true, false_or, or_false, not_true_eq_false, not_false_eq_true, forall_eq, exists_eq_left, exists_eq_left', exists_eq_right, true_implies, false_implies, implies_true, forall_const, Option.some.injEq, Value.int.injEq, Value.long.injEq, Value.ref.injEq, reduceCtorEq, exists_const, and_self, s_lit, s_m1, s_add, s_mul, s_sub, s_lt, s_le, s_eq, s_nm1, s_m1n, s_eqm1, s_cl, s_in, s_ltm1, s_div, s_rem, s_rem2, s_hsi, s_rsi, s_lsi, s_nsi, s_hsl, s_rsl, s_isl, s_nsl, xi_eq, xi_na, xi_nk, xl_eq, xl_na, xl_nk, s_k18, s_hfi, s_rfi, s_lfi, s_nfi, s_hfl, s_rfl, s_ifl, s_nfl, xf_in, xf_na, xf_nk, xg_in, xg_na, xg_nk]
    rfl
  · rw [if_neg List.not_mem_nil]
    simp (disch := omega) only [ne_eq, true_and, and_true, false_and, and_false, true_or, or_true, false_or, or_false, not_true_eq_false, not_false_eq_true, forall_eq, exists_eq_left, exists_eq_left', exists_eq_right, true_implies, false_implies, implies_true, forall_const, Option.some.injEq, Value.int.injEq, Value.long.injEq, Value.ref.injEq, reduceCtorEq, exists_const, and_self, s_lit, s_m1, s_add, s_mul, s_sub, s_lt, s_le, s_eq, s_nm1, s_m1n, s_eqm1, s_cl, s_in, s_ltm1, s_div, s_rem, s_rem2, s_hsi, s_rsi, s_lsi, s_nsi, s_hsl, s_rsl, s_isl, s_nsl, xi_eq, xi_na, xi_nk, xl_eq, xl_na, xl_nk, s_k18, s_hfi, s_rfi, s_lfi, s_nfi, s_hfl, s_rfl, s_ifl, s_nfl, xf_in, xf_na, xf_nk, xg_in, xg_na, xg_nk, Nat.zero_le, hk]
theorem w_meet (d : Nat) (hs : LoS M o) (hd : LoD M o room f K) {k : Nat} (hk : k < room) (hQ : ∀ M', Fr M M' [o, o + 1, o + 2, o + 3] → LoD M' o room f (ins K k) → (∀ j, j < K.length → x_i M' (o + 3) j = x_i M (o + 3) j) → Q (some (.int (nI ((ins K k).idxOf k)))) M') : Call G (d + 2) 0 0 mX2_meet [.ref o, .int (nI k)] M Q := by
  obtain ⟨s0, s1, s2, s3, s4, s5, s6, s7, t1, t2, t3, t4, t5, t6, t7⟩ := hs
  have hd0 := hd
  have hlen := hd.len
  obtain ⟨d1, d2, d3, d4, d5, d6, d7, d8⟩ := hd
  have hid := d4 k hk
  refine eX2_meet o (nI k) ?_
  simp (disch := omega) only [ne_eq, true_and, and_true, false_and, and_false, true_or, or_true, false_or, or_false, not_true_eq_false, not_false_eq_true, forall_eq, exists_eq_left, exists_eq_left', exists_eq_right, true_implies, false_implies, implies_true, forall_const, Option.some.injEq, Value.int.injEq, Value.long.injEq, Value.ref.injEq, reduceCtorEq, exists_const, and_self, s_lit, s_m1, s_add, s_mul, s_sub, s_lt, s_le, s_eq, s_nm1, s_m1n, s_eqm1, s_cl, s_in, s_ltm1, s_div, s_rem, s_rem2, s_hsi, s_rsi, s_lsi, s_nsi, s_hsl, s_rsl, s_isl, s_nsl, xi_eq, xi_na, xi_nk, xl_eq, xl_na, xl_nk, s_k18, s_hfi, s_rfi, s_lfi, s_nfi, s_hfl, s_rfl, s_ifl, s_nfl, xf_in, xf_na, xf_nk, xg_in, xg_na, xg_nk, s0, s1, s2, s3, s4, s5, s6, s7, t1, t2, t3, t4, t5, t6, t7, d1]
  refine w_within d (by omega) (by omega) ?_
  rw [if_pos hk]
  by_cases c : k ∈ K
  · rw [if_pos c] at hid
    have := idx_lt c
    have e : ins K k = K := if_pos c
    rw [e] at hQ
    simp (disch := omega) only [ne_eq, true_and, and_true, false_and, and_false, true_or, or_true, false_or, or_false, not_true_eq_false, not_false_eq_true, forall_eq, exists_eq_left, exists_eq_left', exists_eq_right, true_implies, false_implies, implies_true, forall_const, Option.some.injEq, Value.int.injEq, Value.long.injEq, Value.ref.injEq, reduceCtorEq, exists_const, and_self, s_lit, s_m1, s_add, s_mul, s_sub, s_lt, s_le, s_eq, s_nm1, s_m1n, s_eqm1, s_cl, s_in, s_ltm1, s_div, s_rem, s_rem2, s_hsi, s_rsi, s_lsi, s_nsi, s_hsl, s_rsl, s_isl, s_nsl, xi_eq, xi_na, xi_nk, xl_eq, xl_na, xl_nk, s_k18, s_hfi, s_rfi, s_lfi, s_nfi, s_hfl, s_rfl, s_ifl, s_nfl, xf_in, xf_na, xf_nk, xg_in, xg_na, xg_nk, s0, s1, s2, s3, s4, s5, s6, s7, t1, t2, t3, t4, t5, t6, t7, hid]
    exact hQ _ Fr.rf hd0 (fun _ _ => rfl)
  · rw [if_neg c] at hid
    have e : ins K k = K ++ [k] := if_neg c
    have hl2 : K.length < room := by
      have := nd_len room (k :: K) (List.nodup_cons.mpr ⟨c, d7⟩) (fun x hx => (List.mem_cons.mp hx).elim (fun e => e ▸ hk) (d6 x))
      rw [List.length_cons] at this
      omega
    have ei : (K ++ [k]).idxOf k = K.length := by
      rw [List.idxOf_append, if_neg c]
      simp
    rw [e, ei] at hQ
    simp (disch := omega) only [ne_eq, true_and, and_true, false_and, and_false, true_or, or_true, false_or, or_false, not_true_eq_false, not_false_eq_true, forall_eq, exists_eq_left, exists_eq_left', exists_eq_right, true_implies, false_implies, implies_true, forall_const, Option.some.injEq, Value.int.injEq, Value.long.injEq, Value.ref.injEq, reduceCtorEq, exists_const, and_self, s_lit, s_m1, s_add, s_mul, s_sub, s_lt, s_le, s_eq, s_nm1, s_m1n, s_eqm1, s_cl, s_in, s_ltm1, s_div, s_rem, s_rem2, s_hsi, s_rsi, s_lsi, s_nsi, s_hsl, s_rsl, s_isl, s_nsl, xi_eq, xi_na, xi_nk, xl_eq, xl_na, xl_nk, s_k18, s_hfi, s_rfi, s_lfi, s_nfi, s_hfl, s_rfl, s_ifl, s_nfl, xf_in, xf_na, xf_nk, xg_in, xg_na, xg_nk, s0, s1, s2, s3, s4, s5, s6, s7, t1, t2, t3, t4, t5, t6, t7, hid, d3]
    refine hQ _ ((((Fr.rf.si (by simp)).si (by simp)).si (by simp)).si (by simp)) ⟨?_, ?_, ?_, fun x hx => ?_, fun i hi => ?_, fun x hx => ?_, ?_, d8⟩ (fun j hj => ?_)
    · simp (disch := omega) only [ne_eq, true_and, and_true, false_and, and_false, true_or, or_true, false_or, or_false, not_true_eq_false, not_false_eq_true, forall_eq, exists_eq_left, exists_eq_left', exists_eq_right, true_implies, false_implies, implies_true, forall_const, Option.some.injEq, Value.int.injEq, Value.long.injEq, Value.ref.injEq, reduceCtorEq, exists_const, and_self, s_lit, s_m1, s_add, s_mul, s_sub, s_lt, s_le, s_eq, s_nm1, s_m1n, s_eqm1, s_cl, s_in, s_ltm1, s_div, s_rem, s_rem2, s_hsi, s_rsi, s_lsi, s_nsi, s_hsl, s_rsl, s_isl, s_nsl, xi_eq, xi_na, xi_nk, xl_eq, xl_na, xl_nk, s_k18, s_hfi, s_rfi, s_lfi, s_nfi, s_hfl, s_rfl, s_ifl, s_nfl, xf_in, xf_na, xf_nk, xg_in, xg_na, xg_nk, d1]
    · simp (disch := omega) only [ne_eq, true_and, and_true, false_and, and_false, true_or, or_true, false_or, or_false, not_true_eq_false, not_false_eq_true, forall_eq, exists_eq_left, exists_eq_left', exists_eq_right, true_implies, false_implies, implies_true, forall_const, Option.some.injEq, Value.int.injEq, Value.long.injEq, Value.ref.injEq, reduceCtorEq, exists_const, and_self, s_lit, s_m1, s_add, s_mul, s_sub, s_lt, s_le, s_eq, s_nm1, s_m1n, s_eqm1, s_cl, s_in, s_ltm1, s_div, s_rem, s_rem2, s_hsi, s_rsi, s_lsi, s_nsi, s_hsl, s_rsl, s_isl, s_nsl, xi_eq, xi_na, xi_nk, xl_eq, xl_na, xl_nk, s_k18, s_hfi, s_rfi, s_lfi, s_nfi, s_hfl, s_rfl, s_ifl, s_nfl, xf_in, xf_na, xf_nk, xg_in, xg_na, xg_nk, d2]
    · simp (disch := omega) only [ne_eq, true_and, and_true, false_and, and_false, true_or, or_true, false_or, or_false, not_true_eq_false, not_false_eq_true, forall_eq, exists_eq_left, exists_eq_left', exists_eq_right, true_implies, false_implies, implies_true, forall_const, Option.some.injEq, Value.int.injEq, Value.long.injEq, Value.ref.injEq, reduceCtorEq, exists_const, and_self, s_lit, s_m1, s_add, s_mul, s_sub, s_lt, s_le, s_eq, s_nm1, s_m1n, s_eqm1, s_cl, s_in, s_ltm1, s_div, s_rem, s_rem2, s_hsi, s_rsi, s_lsi, s_nsi, s_hsl, s_rsl, s_isl, s_nsl, xi_eq, xi_na, xi_nk, xl_eq, xl_na, xl_nk, s_k18, s_hfi, s_rfi, s_lfi, s_nfi, s_hfl, s_rfl, s_ifl, s_nfl, xf_in, xf_na, xf_nk, xg_in, xg_na, xg_nk, List.length_append, List.length_singleton]
    · by_cases ex : x = k
      · subst ex
        simp (disch := omega) only [ne_eq, true_and, and_true, false_and, and_false, true_or, or_true, false_or, or_false, not_true_eq_false, not_false_eq_true, forall_eq, exists_eq_left, exists_eq_left', exists_eq_right, true_implies, false_implies, implies_true, forall_const, Option.some.injEq, Value.int.injEq, Value.long.injEq, Value.ref.injEq, reduceCtorEq, exists_const, and_self, s_lit, s_m1, s_add, s_mul, s_sub, s_lt, s_le, s_eq, s_nm1, s_m1n, s_eqm1, s_cl, s_in, s_ltm1, s_div, s_rem, s_rem2, s_hsi, s_rsi, s_lsi, s_nsi, s_hsl, s_rsl, s_isl, s_nsl, xi_eq, xi_na, xi_nk, xl_eq, xl_na, xl_nk, s_k18, s_hfi, s_rfi, s_lfi, s_nfi, s_hfl, s_rfl, s_ifl, s_nfl, xf_in, xf_na, xf_nk, xg_in, xg_na, xg_nk]
        rw [if_pos (by simp), ei]
      · simp (disch := omega) only [ne_eq, true_and, and_true, false_and, and_false, true_or, or_true, false_or, or_false, not_true_eq_false, not_false_eq_true, forall_eq, exists_eq_left, exists_eq_left', exists_eq_right, true_implies, false_implies, implies_true, forall_const, Option.some.injEq, Value.int.injEq, Value.long.injEq, Value.ref.injEq, reduceCtorEq, exists_const, and_self, s_lit, s_m1, s_add, s_mul, s_sub, s_lt, s_le, s_eq, s_nm1, s_m1n, s_eqm1, s_cl, s_in, s_ltm1, s_div, s_rem, s_rem2, s_hsi, s_rsi, s_lsi, s_nsi, s_hsl, s_rsl, s_isl, s_nsl, xi_eq, xi_na, xi_nk, xl_eq, xl_na, xl_nk, s_k18, s_hfi, s_rfi, s_lfi, s_nfi, s_hfl, s_rfl, s_ifl, s_nfl, xf_in, xf_na, xf_nk, xg_in, xg_na, xg_nk]
        rw [d4 x hx]
        by_cases cx : x ∈ K
        · rw [if_pos cx, if_pos (by simp [cx]), List.idxOf_append, if_pos cx]
        · rw [if_neg cx, if_neg (by simp [cx, ex])]
          rfl
    · rw [List.length_append, List.length_singleton] at hi
      by_cases ex : i = K.length
      · subst ex
        simp (disch := omega) only [ne_eq, true_and, and_true, false_and, and_false, true_or, or_true, false_or, or_false, not_true_eq_false, not_false_eq_true, forall_eq, exists_eq_left, exists_eq_left', exists_eq_right, true_implies, false_implies, implies_true, forall_const, Option.some.injEq, Value.int.injEq, Value.long.injEq, Value.ref.injEq, reduceCtorEq, exists_const, and_self, s_lit, s_m1, s_add, s_mul, s_sub, s_lt, s_le, s_eq, s_nm1, s_m1n, s_eqm1, s_cl, s_in, s_ltm1, s_div, s_rem, s_rem2, s_hsi, s_rsi, s_lsi, s_nsi, s_hsl, s_rsl, s_isl, s_nsl, xi_eq, xi_na, xi_nk, xl_eq, xl_na, xl_nk, s_k18, s_hfi, s_rfi, s_lfi, s_nfi, s_hfl, s_rfl, s_ifl, s_nfl, xf_in, xf_na, xf_nk, xg_in, xg_na, xg_nk]
        simp
      · simp (disch := omega) only [ne_eq, true_and, and_true, false_and, and_false, true_or, or_true, false_or, or_false, not_true_eq_false, not_false_eq_true, forall_eq, exists_eq_left, exists_eq_left', exists_eq_right, true_implies, false_implies, implies_true, forall_const, Option.some.injEq, Value.int.injEq, Value.long.injEq, Value.ref.injEq, reduceCtorEq, exists_const, and_self, s_lit, s_m1, s_add, s_mul, s_sub, s_lt, s_le, s_eq, s_nm1, s_m1n, s_eqm1, s_cl, s_in, s_ltm1, s_div, s_rem, s_rem2, s_hsi, s_rsi, s_lsi, s_nsi, s_hsl, s_rsl, s_isl, s_nsl, xi_eq, xi_na, xi_nk, xl_eq, xl_na, xl_nk, s_k18, s_hfi, s_rfi, s_lfi, s_nfi, s_hfl, s_rfl, s_ifl, s_nfl, xf_in, xf_na, xf_nk, xg_in, xg_na, xg_nk]
        rw [d5 i (by omega), List.getD_eq_getElem?_getD, List.getD_eq_getElem?_getD, List.getElem?_append_left (by omega)]
    · rcases List.mem_append.mp hx with h | h
      · exact d6 x h
      · rw [List.mem_singleton.mp h]; exact hk
    · have := ins_nd (k := k) d7
      rwa [e] at this
    · simp (disch := omega) only [ne_eq, true_and, and_true, false_and, and_false, true_or, or_true, false_or, or_false, not_true_eq_false, not_false_eq_true, forall_eq, exists_eq_left, exists_eq_left', exists_eq_right, true_implies, false_implies, implies_true, forall_const, Option.some.injEq, Value.int.injEq, Value.long.injEq, Value.ref.injEq, reduceCtorEq, exists_const, and_self, s_lit, s_m1, s_add, s_mul, s_sub, s_lt, s_le, s_eq, s_nm1, s_m1n, s_eqm1, s_cl, s_in, s_ltm1, s_div, s_rem, s_rem2, s_hsi, s_rsi, s_lsi, s_nsi, s_hsl, s_rsl, s_isl, s_nsl, xi_eq, xi_na, xi_nk, xl_eq, xl_na, xl_nk, s_k18, s_hfi, s_rfi, s_lfi, s_nfi, s_hfl, s_rfl, s_ifl, s_nfl, xf_in, xf_na, xf_nk, xg_in, xg_na, xg_nk]
theorem w_keyOf (d : Nat) (hs : LoS M o) (hd : LoD M o room f K) {i : Nat} (hi : i < K.length) (hQ : Q (some (.int (nI (K.getD i 0)))) M) : Call G (d + 2) 0 0 mX2_keyOf [.ref o, .int (nI i)] M Q := by
  obtain ⟨s0, s1, s2, s3, s4, s5, s6, s7, t1, t2, t3, t4, t5, t6, t7⟩ := hs
  have hlen := hd.len
  obtain ⟨d1, d2, d3, d4, d5, d6, d7, d8⟩ := hd
  refine eX2_keyOf o (nI i) ?_
  simp (disch := omega) only [ne_eq, true_and, and_true, false_and, and_false, true_or, or_true, false_or, or_false, not_true_eq_false, not_false_eq_true, forall_eq, exists_eq_left, exists_eq_left', exists_eq_right, true_implies, false_implies, implies_true, forall_const, Option.some.injEq, Value.int.injEq, Value.long.injEq, Value.ref.injEq, reduceCtorEq, exists_const, and_self, s_lit, s_m1, s_add, s_mul, s_sub, s_lt, s_le, s_eq, s_nm1, s_m1n, s_eqm1, s_cl, s_in, s_ltm1, s_div, s_rem, s_rem2, s_hsi, s_rsi, s_lsi, s_nsi, s_hsl, s_rsl, s_isl, s_nsl, xi_eq, xi_na, xi_nk, xl_eq, xl_na, xl_nk, s_k18, s_hfi, s_rfi, s_lfi, s_nfi, s_hfl, s_rfl, s_ifl, s_nfl, xf_in, xf_na, xf_nk, xg_in, xg_na, xg_nk, s0, s1, s2, s3, s4, s5, s6, s7, t1, t2, t3, t4, t5, t6, t7, d3]
  refine w_within d (by omega) (by omega) ?_
  rw [if_pos hi]
  simp (disch := omega) only [ne_eq, true_and, and_true, false_and, and_false, true_or, or_true, false_or, or_false, not_true_eq_false, not_false_eq_true, forall_eq, exists_eq_left, exists_eq_left', exists_eq_right, true_implies, false_implies, implies_true, forall_const, Option.some.injEq, Value.int.injEq, Value.long.injEq, Value.ref.injEq, reduceCtorEq, exists_const, and_self, s_lit, s_m1, s_add, s_mul, s_sub, s_lt, s_le, s_eq, s_nm1, s_m1n, s_eqm1, s_cl, s_in, s_ltm1, s_div, s_rem, s_rem2, s_hsi, s_rsi, s_lsi, s_nsi, s_hsl, s_rsl, s_isl, s_nsl, xi_eq, xi_na, xi_nk, xl_eq, xl_na, xl_nk, s_k18, s_hfi, s_rfi, s_lfi, s_nfi, s_hfl, s_rfl, s_ifl, s_nfl, xf_in, xf_na, xf_nk, xg_in, xg_na, xg_nk, s0, s1, s2, s3, s4, s5, s6, s7, t1, t2, t3, t4, t5, t6, t7, d5, hi]
  exact hQ
theorem w_link (d : Nat) (hs : LoS M o) (hd : LoD M o room f K) {i g : Nat} (hi : i < K.length) (hg : g < f) (hp : K.length * f ≤ 43200) (to : Int32) (hQ : Q none (x_si M (o + 4) (i * f + g) to)) : Call G (d + 2) 0 0 mX2_link [.ref o, .int (nI i), .int (nI g), .int to] M Q := by
  obtain ⟨s0, s1, s2, s3, s4, s5, s6, s7, t1, t2, t3, t4, t5, t6, t7⟩ := hs
  have hlen := hd.len
  obtain ⟨d1, d2, d3, d4, d5, d6, d7, d8⟩ := hd
  have hp2 : i * f + g < K.length * f := by
    have : (i + 1) * f ≤ K.length * f := Nat.mul_le_mul_right f hi
    rw [Nat.succ_mul] at this
    omega
  have hff : f ≤ K.length * f := Nat.le_mul_of_pos_left f (by omega)
  refine eX2_link o (nI i) (nI g) to ?_
  simp (disch := omega) only [ne_eq, true_and, and_true, false_and, and_false, true_or, or_true, false_or, or_false, not_true_eq_false, not_false_eq_true, forall_eq, exists_eq_left, exists_eq_left', exists_eq_right, true_implies, false_implies, implies_true, forall_const, Option.some.injEq, Value.int.injEq, Value.long.injEq, Value.ref.injEq, reduceCtorEq, exists_const, and_self, s_lit, s_m1, s_add, s_mul, s_sub, s_lt, s_le, s_eq, s_nm1, s_m1n, s_eqm1, s_cl, s_in, s_ltm1, s_div, s_rem, s_rem2, s_hsi, s_rsi, s_lsi, s_nsi, s_hsl, s_rsl, s_isl, s_nsl, xi_eq, xi_na, xi_nk, xl_eq, xl_na, xl_nk, s_k18, s_hfi, s_rfi, s_lfi, s_nfi, s_hfl, s_rfl, s_ifl, s_nfl, xf_in, xf_na, xf_nk, xg_in, xg_na, xg_nk, s0, s1, s2, s3, s4, s5, s6, s7, t1, t2, t3, t4, t5, t6, t7, d3, d2]
  refine w_within d (by omega) (by omega) ?_
  rw [if_pos hi]
  simp (disch := omega) only [ne_eq, true_and, and_true, false_and, and_false, true_or, or_true, false_or, or_false, not_true_eq_false, not_false_eq_true, forall_eq, exists_eq_left, exists_eq_left', exists_eq_right, true_implies, false_implies, implies_true, forall_const, Option.some.injEq, Value.int.injEq, Value.long.injEq, Value.ref.injEq, reduceCtorEq, exists_const, and_self, s_lit, s_m1, s_add, s_mul, s_sub, s_lt, s_le, s_eq, s_nm1, s_m1n, s_eqm1, s_cl, s_in, s_ltm1, s_div, s_rem, s_rem2, s_hsi, s_rsi, s_lsi, s_nsi, s_hsl, s_rsl, s_isl, s_nsl, xi_eq, xi_na, xi_nk, xl_eq, xl_na, xl_nk, s_k18, s_hfi, s_rfi, s_lfi, s_nfi, s_hfl, s_rfl, s_ifl, s_nfl, xf_in, xf_na, xf_nk, xg_in, xg_na, xg_nk, s0, s1, s2, s3, s4, s5, s6, s7, t1, t2, t3, t4, t5, t6, t7, d2]
  refine w_within d (by omega) (by omega) ?_
  rw [if_pos hg]
  simp (disch := omega) only [ne_eq, true_and, and_true, false_and, and_false, true_or, or_true, false_or, or_false, not_true_eq_false, not_false_eq_true, forall_eq, exists_eq_left, exists_eq_left', exists_eq_right, true_implies, false_implies, implies_true, forall_const, Option.some.injEq, Value.int.injEq, Value.long.injEq, Value.ref.injEq, reduceCtorEq, exists_const, and_self, s_lit, s_m1, s_add, s_mul, s_sub, s_lt, s_le, s_eq, s_nm1, s_m1n, s_eqm1, s_cl, s_in, s_ltm1, s_div, s_rem, s_rem2, s_hsi, s_rsi, s_lsi, s_nsi, s_hsl, s_rsl, s_isl, s_nsl, xi_eq, xi_na, xi_nk, xl_eq, xl_na, xl_nk, s_k18, s_hfi, s_rfi, s_lfi, s_nfi, s_hfl, s_rfl, s_ifl, s_nfl, xf_in, xf_na, xf_nk, xg_in, xg_na, xg_nk, s0, s1, s2, s3, s4, s5, s6, s7, t1, t2, t3, t4, t5, t6, t7, d2]
  refine w_within d (by omega) (by omega) ?_
  rw [if_pos (by omega)]
  simp (disch := omega) only [ne_eq, true_and, and_true, false_and, and_false, true_or, or_true, false_or, or_false, not_true_eq_false, not_false_eq_true, forall_eq, exists_eq_left, exists_eq_left', exists_eq_right, true_implies, false_implies, implies_true, forall_const, Option.some.injEq, Value.int.injEq, Value.long.injEq, Value.ref.injEq, reduceCtorEq, exists_const, and_self, s_lit, s_m1, s_add, s_mul, s_sub, s_lt, s_le, s_eq, s_nm1, s_m1n, s_eqm1, s_cl, s_in, s_ltm1, s_div, s_rem, s_rem2, s_hsi, s_rsi, s_lsi, s_nsi, s_hsl, s_rsl, s_isl, s_nsl, xi_eq, xi_na, xi_nk, xl_eq, xl_na, xl_nk, s_k18, s_hfi, s_rfi, s_lfi, s_nfi, s_hfl, s_rfl, s_ifl, s_nfl, xf_in, xf_na, xf_nk, xg_in, xg_na, xg_nk, s0, s1, s2, s3, s4, s5, s6, s7, t1, t2, t3, t4, t5, t6, t7]
  exact hQ
theorem w_putMarkL (d : Nat) (hs : LoS M o) (hd : LoD M o room f K) {i : Nat} (hi : i < K.length) (v : Int32) (hQ : Q none (x_si M (o + 3) i v)) : Call G (d + 2) 0 0 mX2_putMark [.ref o, .int (nI i), .int v] M Q := by
  obtain ⟨s0, s1, s2, s3, s4, s5, s6, s7, t1, t2, t3, t4, t5, t6, t7⟩ := hs
  have hlen := hd.len
  obtain ⟨d1, d2, d3, d4, d5, d6, d7, d8⟩ := hd
  refine eX2_putMark o (nI i) v ?_
  simp (disch := omega) only [ne_eq, true_and, and_true, false_and, and_false, true_or, or_true, false_or, or_false, not_true_eq_false, not_false_eq_true, forall_eq, exists_eq_left, exists_eq_left', exists_eq_right, true_implies, false_implies, implies_true, forall_const, Option.some.injEq, Value.int.injEq, Value.long.injEq, Value.ref.injEq, reduceCtorEq, exists_const, and_self, s_lit, s_m1, s_add, s_mul, s_sub, s_lt, s_le, s_eq, s_nm1, s_m1n, s_eqm1, s_cl, s_in, s_ltm1, s_div, s_rem, s_rem2, s_hsi, s_rsi, s_lsi, s_nsi, s_hsl, s_rsl, s_isl, s_nsl, xi_eq, xi_na, xi_nk, xl_eq, xl_na, xl_nk, s_k18, s_hfi, s_rfi, s_lfi, s_nfi, s_hfl, s_rfl, s_ifl, s_nfl, xf_in, xf_na, xf_nk, xg_in, xg_na, xg_nk, s0, s1, s2, s3, s4, s5, s6, s7, t1, t2, t3, t4, t5, t6, t7, d3]
  refine w_within d (by omega) (by omega) ?_
  rw [if_pos hi]
  simp (disch := omega) only [ne_eq, true_and, and_true, false_and, and_false, true_or, or_true, false_or, or_false, not_true_eq_false, not_false_eq_true, forall_eq, exists_eq_left, exists_eq_left', exists_eq_right, true_implies, false_implies, implies_true, forall_const, Option.some.injEq, Value.int.injEq, Value.long.injEq, Value.ref.injEq, reduceCtorEq, exists_const, and_self, s_lit, s_m1, s_add, s_mul, s_sub, s_lt, s_le, s_eq, s_nm1, s_m1n, s_eqm1, s_cl, s_in, s_ltm1, s_div, s_rem, s_rem2, s_hsi, s_rsi, s_lsi, s_nsi, s_hsl, s_rsl, s_isl, s_nsl, xi_eq, xi_na, xi_nk, xl_eq, xl_na, xl_nk, s_k18, s_hfi, s_rfi, s_lfi, s_nfi, s_hfl, s_rfl, s_ifl, s_nfl, xf_in, xf_na, xf_nk, xg_in, xg_na, xg_nk, s0, s1, s2, s3, s4, s5, s6, s7, t1, t2, t3, t4, t5, t6, t7]
  exact hQ
/-- the raw machine: N states, f rows of digits, links, marks -/
def LoR (M : Mem) (o N f : Nat) (lk : Nat → Nat → Nat) (mk : Nat → Nat) : Prop := x_i M o 8 = nI f ∧ x_i M o 9 = nI N ∧ (∀ i, i < N → ∀ d, d < f → x_i M (o + 4) (i * f + d) = nI (lk i d)) ∧ (∀ i, i < N → ∀ d, d < f → lk i d < N) ∧ (∀ i, i < N → x_i M (o + 3) i = nI (mk i)) ∧ (∀ i, i < N → mk i < 8) ∧ 0 < N ∧ N ≤ 3600 ∧ N * f ≤ 43200 ∧ 0 < f ∧ f ≤ 27
theorem LoR.fr {M M' : Mem} {o N f : Nat} {lk : Nat → Nat → Nat} {mk : Nat → Nat} {A : List Nat} (h : LoR M o N f lk mk) (g : Fr M M' A) (h1 : o ∉ A) (h2 : o + 3 ∉ A) (h3 : o + 4 ∉ A) : LoR M' o N f lk mk := by
  unfold LoR
  rw [g.i h1, g.i h2, g.i h3]
  exact h
variable {N : Nat} {lk : Nat → Nat → Nat} {mk : Nat → Nat}
theorem LoR.pl (h : LoR M o N f lk mk) {i g : Nat} (hi : i < N) (hg : g < f) : i * f + g < N * f := by
  have : (i + 1) * f ≤ N * f := Nat.mul_le_mul_right f hi
  rw [Nat.succ_mul] at this
  omega
theorem w_linkOf (d : Nat) (hs : LoS M o) (h : LoR M o N f lk mk) {i g : Nat} (hi : i < N) (hg : g < f) (hQ : Q (some (.int (nI (lk i g)))) M) : Call G (d + 1) 0 0 mX2_linkOf [.ref o, .int (nI i), .int (nI g)] M Q := by
  obtain ⟨s0, s1, s2, s3, s4, s5, s6, s7, t1, t2, t3, t4, t5, t6, t7⟩ := hs
  have hp := h.pl hi hg
  obtain ⟨d1, d2, d3, d4, d5, d6, d7, d8, d9, d10, d11⟩ := h
  have e1 := d3 i hi g hg
  have e2 := d4 i hi g hg
  refine eX2_linkOf o (nI i) (nI g) ?_
  have e3 : i * f + g < 43200 := by omega
  have e4 : ¬ N ≤ lk i g := by omega
  simp (disch := omega) only [ne_eq, true_and, and_true, false_and, and_false, true_or, or_true, false_or, or_false, not_true_eq_false, not_false_eq_true, forall_eq, exists_eq_left, exists_eq_left', exists_eq_right, true_implies, false_implies, implies_true, forall_const, Option.some.injEq, Value.int.injEq, Value.long.injEq, Value.ref.injEq, reduceCtorEq, exists_const, and_self, s_lit, s_m1, s_add, s_mul, s_sub, s_lt, s_le, s_eq, s_nm1, s_m1n, s_eqm1, s_cl, s_in, s_ltm1, s_div, s_rem, s_rem2, s_hsi, s_rsi, s_lsi, s_nsi, s_hsl, s_rsl, s_isl, s_nsl, xi_eq, xi_na, xi_nk, xl_eq, xl_na, xl_nk, s_k18, s_hfi, s_rfi, s_lfi, s_nfi, s_hfl, s_rfl, s_ifl, s_nfl, xf_in, xf_na, xf_nk, xg_in, xg_na, xg_nk, s0, s1, s2, s3, s4, s5, s6, s7, t1, t2, t3, t4, t5, t6, t7, d1, d2, e1, e3, s_lit 0, Nat.not_lt_zero, e4]
  exact hQ
end LoomC
