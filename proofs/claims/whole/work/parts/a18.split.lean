/-! ===== Loom: classes ===== -/
section SplitC
/-- the keys of the first i, each once -/
def kin (key : Nat → Nat) : Nat → List Nat
  | 0 => []
  | i + 1 => ins (kin key i) (key i)
theorem kin_nd {key : Nat → Nat} : ∀ i, (kin key i).Nodup
  | 0 => List.nodup_nil
  | i + 1 => ins_nd (kin_nd i)
theorem kin_mem {key : Nat → Nat} {x : Nat} : ∀ i, x ∈ kin key i ↔ ∃ j, j < i ∧ key j = x
  | 0 => ⟨fun h => absurd h List.not_mem_nil, fun ⟨_, h, _⟩ => absurd h (Nat.not_lt_zero _)⟩
  | i + 1 => by
    show x ∈ ins _ _ ↔ _
    rw [ins_of, kin_mem i]
    constructor
    · rintro (⟨j, h, e⟩ | e)
      · exact ⟨j, by omega, e⟩
      · exact ⟨i, by omega, e.symm⟩
    · rintro ⟨j, h, e⟩
      by_cases c : j = i
      · subst c; exact Or.inr e.symm
      · exact Or.inl ⟨j, by omega, e⟩
theorem kin_idx {key : Nat → Nat} {x : Nat} : ∀ (i e : Nat), x ∈ kin key i → (kin key (i + e)).idxOf x = (kin key i).idxOf x
  | _, 0, _ => rfl
  | i, e + 1, h => by
    have h1 := kin_idx i e h
    have h2 : x ∈ kin key (i + e) := by
      obtain ⟨j, hj, e1⟩ := (kin_mem i).mp h
      exact (kin_mem _).mpr ⟨j, by omega, e1⟩
    exact (ins_idx h2).trans h1
theorem kin_le {key : Nat → Nat} : ∀ i, (kin key i).length ≤ i
  | 0 => Nat.le_refl 0
  | i + 1 => Nat.le_trans ins_len.2 (Nat.succ_le_succ (kin_le i))
theorem kin_num {key : Nat → Nat} {N : Nat} : Num N (kin key N).length (fun j => (kin key N).idxOf (key j)) := by
  refine ⟨fun i hi => idx_lt ((kin_mem N).mpr ⟨i, hi, rfl⟩), fun c hc => ?_⟩
  obtain ⟨j, hj, e⟩ := (kin_mem N).mp (getD_mem hc)
  exact ⟨j, hj, by show List.idxOf (key j) _ = c; rw [e, idx_getD (kin_nd N) hc]⟩
theorem kin_eq {key : Nat → Nat} {N i j : Nat} (hi : i < N) (hj : j < N) : (kin key N).idxOf (key i) = (kin key N).idxOf (key j) ↔ key i = key j := by
  refine ⟨fun h => ?_, fun h => by rw [h]⟩
  have h1 := getD_idx ((kin_mem (key := key) N).mpr ⟨i, hi, rfl⟩)
  have h2 := getD_idx ((kin_mem (key := key) N).mpr ⟨j, hj, rfl⟩)
  rw [← h1, ← h2, h]
/-- the table t of keys below room -/
def Tab (M : Mem) (t room : Nat) (K : List Nat) : Prop := ∀ k, k < room → x_i M t k = if k ∈ K then nI (K.idxOf k) else -1
theorem Tab.add {M : Mem} {t room k : Nat} {K : List Nat} (h : Tab M t room K) (hk : k ∉ K) : Tab (x_si M t k (nI K.length)) t room (ins K k) := by
  have e : ins K k = K ++ [k] := if_neg hk
  intro x hx
  rw [e]
  by_cases ex : x = k
  · subst ex
    rw [xi_eq, if_pos (by simp), List.idxOf_append, if_neg hk]
    simp
  · rw [xi_nk ex, h x hx]
    by_cases cx : x ∈ K
    · rw [if_pos cx, if_pos (by simp [cx]), List.idxOf_append, if_pos cx]
    · rw [if_neg cx, if_neg (by simp [cx, ex])]
theorem Tab.to {M M' : Mem} {t room : Nat} {K : List Nat} (h : Tab M t room K) (e : x_i M' t = x_i M t) : Tab M' t room K := by
  unfold Tab
  rw [e]
  exact h
theorem xc_in {M : Mem} {a0 a n j : Nat} (h : j < n) : x_i (x_cpi M a0 0 a 0 n) a j = x_i M a0 j := by
  show (if a = a then cpR (x_i M a0) (x_i M a) 0 0 n else x_i M a) j = _
  rw [if_pos rfl]
  unfold cpR
  rw [if_pos (by omega)]
  congr 1
  omega
theorem xc_na {M : Mem} {a0 sp a dp n b : Nat} (h : b ≠ a) : x_i (x_cpi M a0 sp a dp n) b = x_i M b := if_neg h
theorem Fr.cpi {M M' : Mem} {A : List Nat} {a0 sp a dp n : Nat} (h : Fr M M' A) (ha : a ∈ A) : Fr M (x_cpi M' a0 sp a dp n) A := by
  obtain ⟨f, g, rfl, hf⟩ := h
  exact ⟨_, g, rfl, fun q hq => ⟨(if_neg (fun e : q = a => hq (e ▸ ha))).trans (hf q hq).1, (hf q hq).2⟩⟩
theorem Fr.cpl {M M' : Mem} {A : List Nat} {a0 sp a dp n : Nat} (h : Fr M M' A) (ha : a ∈ A) : Fr M (x_cpl M' a0 sp a dp n) A := by
  obtain ⟨f, g, rfl, hf⟩ := h
  exact ⟨f, _, rfl, fun q hq => ⟨(hf q hq).1, (if_neg (fun e : q = a => hq (e ▸ ha))).trans (hf q hq).2⟩⟩
variable {G : GG} {M : Mem} {o N f : Nat} {lk : Nat → Nat → Nat} {mk : Nat → Nat} {Q : Option Value → Mem → Prop}
theorem w_splitByMarks (d : Nat) (hs : LoS M o) (h : LoR M o N f lk mk) (hQ : ∀ M', Fr M M' [o + 5, o + 7] → (∀ j, j < N → x_i M' (o + 5) j = nI ((kin mk N).idxOf (mk j))) → Q (some (.int (nI (kin mk N).length))) M') : Call G (d + 3) 0 0 mX2_splitByMarks [.ref o] M Q := by
  have hs0 := hs
  have h0 := h
  obtain ⟨s0, s1, s2, s3, s4, s5, s6, s7, t1, t2, t3, t4, t5, t6, t7⟩ := hs
  obtain ⟨d1, d2, d3, d4, d5, d6, d7, d8, d9, d10, d11⟩ := h
  have key : ∀ (k i : Nat), i + k = N → ∀ z, c1 z = true → ∀ M', Fr M M' [o + 5, o + 7] → Tab M' (o + 7) 8 (kin mk i) → (∀ j, j < i → x_i M' (o + 5) j = nI ((kin mk N).idxOf (mk j))) → LX2_splitByMarks_15 G (d + 2) 0 0 o (nI (kin mk i).length) (nI i) z M' Q := by
    intro k
    induction k with
    | zero =>
      intro i hi z hz M' hfr ht hc
      have e : i = N := by omega
      subst e
      refine vX2_splitByMarks_15 _ _ _ _ hz ?_
      have e9 : x_i M' o 9 = nI i := by rw [hfr.i (by simp)]; exact d2
      simp (disch := omega) only [ne_eq, true_and, and_true, false_and, and_false, true_or, or_true, false_or, or_false, not_true_eq_false, not_false_eq_true, forall_eq, exists_eq_left, exists_eq_left', exists_eq_right, true_implies, false_implies, implies_true, forall_const, Option.some.injEq, Value.int.injEq, Value.long.injEq, Value.ref.injEq, reduceCtorEq, exists_const, and_self, s_lit, s_m1, s_add, s_mul, s_sub, s_lt, s_le, s_eq, s_nm1, s_m1n, s_eqm1, s_cl, s_in, s_ltm1, s_div, s_rem, s_rem2, s_hsi, s_rsi, s_lsi, s_nsi, s_hsl, s_rsl, s_isl, s_nsl, xi_eq, xi_na, xi_nk, xl_eq, xl_na, xl_nk, s_k18, s_hfi, s_rfi, s_lfi, s_nfi, s_hfl, s_rfl, s_ifl, s_nfl, xf_in, xf_na, xf_nk, xg_in, xg_na, xg_nk, hfr.h, hfr.r, s0, s1, s2, s3, s4, s5, s6, s7, t1, t2, t3, t4, t5, t6, t7, e9, Nat.le_refl]
      exact hQ M' hfr hc
    | succ k ih =>
      intro i hi z hz M' hfr ht hc
      have hiN : i < N := by omega
      refine vX2_splitByMarks_15 _ _ _ _ hz ?_
      have e9 : x_i M' o 9 = nI N := by rw [hfr.i (by simp)]; exact d2
      have e3 : x_i M' (o + 3) i = nI (mk i) := by rw [hfr.i (by simp)]; exact d5 i hiN
      have hm := d6 i hiN
      have e : ¬ N ≤ i := by omega
      simp (disch := omega) only [ne_eq, true_and, and_true, false_and, and_false, true_or, or_true, false_or, or_false, not_true_eq_false, not_false_eq_true, forall_eq, exists_eq_left, exists_eq_left', exists_eq_right, true_implies, false_implies, implies_true, forall_const, Option.some.injEq, Value.int.injEq, Value.long.injEq, Value.ref.injEq, reduceCtorEq, exists_const, and_self, s_lit, s_m1, s_add, s_mul, s_sub, s_lt, s_le, s_eq, s_nm1, s_m1n, s_eqm1, s_cl, s_in, s_ltm1, s_div, s_rem, s_rem2, s_hsi, s_rsi, s_lsi, s_nsi, s_hsl, s_rsl, s_isl, s_nsl, xi_eq, xi_na, xi_nk, xl_eq, xl_na, xl_nk, s_k18, s_hfi, s_rfi, s_lfi, s_nfi, s_hfl, s_rfl, s_ifl, s_nfl, xf_in, xf_na, xf_nk, xg_in, xg_na, xg_nk, hfr.h, hfr.r, s0, s1, s2, s3, s4, s5, s6, s7, t1, t2, t3, t4, t5, t6, t7, e9, e3, e]
      refine w_within _ (by omega) (by omega) ?_
      rw [if_pos hm]
      simp (disch := omega) only [ne_eq, true_and, and_true, false_and, and_false, true_or, or_true, false_or, or_false, not_true_eq_false, not_false_eq_true, forall_eq, exists_eq_left, exists_eq_left', exists_eq_right, true_implies, false_implies, implies_true, forall_const, Option.some.injEq, Value.int.injEq, Value.long.injEq, Value.ref.injEq, reduceCtorEq, exists_const, and_self, s_lit, s_m1, s_add, s_mul, s_sub, s_lt, s_le, s_eq, s_nm1, s_m1n, s_eqm1, s_cl, s_in, s_ltm1, s_div, s_rem, s_rem2, s_hsi, s_rsi, s_lsi, s_nsi, s_hsl, s_rsl, s_isl, s_nsl, xi_eq, xi_na, xi_nk, xl_eq, xl_na, xl_nk, s_k18, s_hfi, s_rfi, s_lfi, s_nfi, s_hfl, s_rfl, s_ifl, s_nfl, xf_in, xf_na, xf_nk, xg_in, xg_na, xg_nk, hfr.h, hfr.r, s0, s1, s2, s3, s4, s5, s6, s7, t1, t2, t3, t4, t5, t6, t7, e3, Nat.one_ne_zero]
      refine vX2_splitByMarks_47 _ _ _ _ _ hz ?_
      have hte := ht (mk i) hm
      have hkl := kin_le (key := mk) i
      have hin : mk i ∈ kin mk (i + 1) := mem_ins
      have hidx := kin_idx (i + 1) (N - (i + 1)) hin
      rw [show i + 1 + (N - (i + 1)) = N by omega] at hidx
      by_cases c : mk i ∈ kin mk i
      · have e2 : kin mk (i + 1) = kin mk i := if_pos c
        have e4 : (kin mk N).idxOf (mk i) = (kin mk i).idxOf (mk i) := by rw [hidx, e2]
        have hlt := idx_lt c
        rw [if_pos c, ← e4] at hte
        rw [← e4] at hlt
        have hle := kin_le (key := mk) i
        simp (disch := omega) only [ne_eq, true_and, and_true, false_and, and_false, true_or, or_true, false_or, or_false, not_true_eq_false, not_false_eq_true, forall_eq, exists_eq_left, exists_eq_left', exists_eq_right, true_implies, false_implies, implies_true, forall_const, Option.some.injEq, Value.int.injEq, Value.long.injEq, Value.ref.injEq, reduceCtorEq, exists_const, and_self, s_lit, s_m1, s_add, s_mul, s_sub, s_lt, s_le, s_eq, s_nm1, s_m1n, s_eqm1, s_cl, s_in, s_ltm1, s_div, s_rem, s_rem2, s_hsi, s_rsi, s_lsi, s_nsi, s_hsl, s_rsl, s_isl, s_nsl, xi_eq, xi_na, xi_nk, xl_eq, xl_na, xl_nk, s_k18, s_hfi, s_rfi, s_lfi, s_nfi, s_hfl, s_rfl, s_ifl, s_nfl, xf_in, xf_na, xf_nk, xg_in, xg_na, xg_nk, hfr.h, hfr.r, s0, s1, s2, s3, s4, s5, s6, s7, t1, t2, t3, t4, t5, t6, t7, hte]
        rw [← e2]
        refine ih (i + 1) (by omega) _ rfl _ (hfr.si (by simp)) ?_ (fun j hj => ?_)
        · rw [e2]
          exact ht.to (by funext q; simp (disch := omega) only [ne_eq, true_and, and_true, false_and, and_false, true_or, or_true, false_or, or_false, not_true_eq_false, not_false_eq_true, forall_eq, exists_eq_left, exists_eq_left', exists_eq_right, true_implies, false_implies, implies_true, forall_const, Option.some.injEq, Value.int.injEq, Value.long.injEq, Value.ref.injEq, reduceCtorEq, exists_const, and_self, s_lit, s_m1, s_add, s_mul, s_sub, s_lt, s_le, s_eq, s_nm1, s_m1n, s_eqm1, s_cl, s_in, s_ltm1, s_div, s_rem, s_rem2, s_hsi, s_rsi, s_lsi, s_nsi, s_hsl, s_rsl, s_isl, s_nsl, xi_eq, xi_na, xi_nk, xl_eq, xl_na, xl_nk, s_k18, s_hfi, s_rfi, s_lfi, s_nfi, s_hfl, s_rfl, s_ifl, s_nfl, xf_in, xf_na, xf_nk, xg_in, xg_na, xg_nk])
        · by_cases ej : j = i
          · subst ej; rw [xi_eq]
          · rw [xi_nk ej]; exact hc j (by omega)
      · have e2 : kin mk (i + 1) = kin mk i ++ [mk i] := if_neg c
        have e4 : (kin mk N).idxOf (mk i) = (kin mk i).length := by
          rw [hidx, e2, List.idxOf_append, if_neg c]
          simp
        rw [if_neg c] at hte
        simp (disch := omega) only [ne_eq, true_and, and_true, false_and, and_false, true_or, or_true, false_or, or_false, not_true_eq_false, not_false_eq_true, forall_eq, exists_eq_left, exists_eq_left', exists_eq_right, true_implies, false_implies, implies_true, forall_const, Option.some.injEq, Value.int.injEq, Value.long.injEq, Value.ref.injEq, reduceCtorEq, exists_const, and_self, s_lit, s_m1, s_add, s_mul, s_sub, s_lt, s_le, s_eq, s_nm1, s_m1n, s_eqm1, s_cl, s_in, s_ltm1, s_div, s_rem, s_rem2, s_hsi, s_rsi, s_lsi, s_nsi, s_hsl, s_rsl, s_isl, s_nsl, xi_eq, xi_na, xi_nk, xl_eq, xl_na, xl_nk, s_k18, s_hfi, s_rfi, s_lfi, s_nfi, s_hfl, s_rfl, s_ifl, s_nfl, xf_in, xf_na, xf_nk, xg_in, xg_na, xg_nk, hfr.h, hfr.r, s0, s1, s2, s3, s4, s5, s6, s7, t1, t2, t3, t4, t5, t6, t7, hte]
        have e5 : (kin mk i).length + 1 = (kin mk (i + 1)).length := by rw [e2]; simp
        rw [e5]
        refine ih (i + 1) (by omega) _ rfl _ ((hfr.si (by simp)).si (by simp)) ?_ (fun j hj => ?_)
        · exact (ht.add c).to (by funext q; simp (disch := omega) only [ne_eq, true_and, and_true, false_and, and_false, true_or, or_true, false_or, or_false, not_true_eq_false, not_false_eq_true, forall_eq, exists_eq_left, exists_eq_left', exists_eq_right, true_implies, false_implies, implies_true, forall_const, Option.some.injEq, Value.int.injEq, Value.long.injEq, Value.ref.injEq, reduceCtorEq, exists_const, and_self, s_lit, s_m1, s_add, s_mul, s_sub, s_lt, s_le, s_eq, s_nm1, s_m1n, s_eqm1, s_cl, s_in, s_ltm1, s_div, s_rem, s_rem2, s_hsi, s_rsi, s_lsi, s_nsi, s_hsl, s_rsl, s_isl, s_nsl, xi_eq, xi_na, xi_nk, xl_eq, xl_na, xl_nk, s_k18, s_hfi, s_rfi, s_lfi, s_nfi, s_hfl, s_rfl, s_ifl, s_nfl, xf_in, xf_na, xf_nk, xg_in, xg_na, xg_nk])
        · by_cases ej : j = i
          · subst ej; rw [xi_eq, e4]
          · rw [xi_nk ej, xi_na (by omega)]; exact hc j (by omega)
  refine eX2_splitByMarks o ?_
  simp (disch := omega) only [ne_eq, true_and, and_true, false_and, and_false, true_or, or_true, false_or, or_false, not_true_eq_false, not_false_eq_true, forall_eq, exists_eq_left, exists_eq_left', exists_eq_right, true_implies, false_implies, implies_true, forall_const, Option.some.injEq, Value.int.injEq, Value.long.injEq, Value.ref.injEq, reduceCtorEq, exists_const, and_self, s_lit, s_m1, s_add, s_mul, s_sub, s_lt, s_le, s_eq, s_nm1, s_m1n, s_eqm1, s_cl, s_in, s_ltm1, s_div, s_rem, s_rem2, s_hsi, s_rsi, s_lsi, s_nsi, s_hsl, s_rsl, s_isl, s_nsl, xi_eq, xi_na, xi_nk, xl_eq, xl_na, xl_nk, s_k18, s_hfi, s_rfi, s_lfi, s_nfi, s_hfl, s_rfl, s_ifl, s_nfl, xf_in, xf_na, xf_nk, xg_in, xg_na, xg_nk, s0, s1, s2, s3, s4, s5, s6, s7, t1, t2, t3, t4, t5, t6, t7]
  refine w_fill3 _ (n := 3600) (by simp (disch := omega) only [ne_eq, true_and, and_true, false_and, and_false, true_or, or_true, false_or, or_false, not_true_eq_false, not_false_eq_true, forall_eq, exists_eq_left, exists_eq_left', exists_eq_right, true_implies, false_implies, implies_true, forall_const, Option.some.injEq, Value.int.injEq, Value.long.injEq, Value.ref.injEq, reduceCtorEq, exists_const, and_self, s_lit, s_m1, s_add, s_mul, s_sub, s_lt, s_le, s_eq, s_nm1, s_m1n, s_eqm1, s_cl, s_in, s_ltm1, s_div, s_rem, s_rem2, s_hsi, s_rsi, s_lsi, s_nsi, s_hsl, s_rsl, s_isl, s_nsl, xi_eq, xi_na, xi_nk, xl_eq, xl_na, xl_nk, s_k18, s_hfi, s_rfi, s_lfi, s_nfi, s_hfl, s_rfl, s_ifl, s_nfl, xf_in, xf_na, xf_nk, xg_in, xg_na, xg_nk, s0, s1, s2, s3, s4, s5, s6, s7, t1, t2, t3, t4, t5, t6, t7]) (by omega) (by omega) (by omega) ?_
  refine ⟨rfl, key N 0 (by omega) _ rfl _ (Fr.rf.fi (by simp)) (fun k hk => ?_) (fun j hj => absurd hj (Nat.not_lt_zero j))⟩
  rw [xf_in (by omega) hk, if_neg (by simp [kin])]
  rfl
theorem w_splitByLinks (d : Nat) (hs : LoS M o) (h : LoR M o N f lk mk) {g many : Nat} {cl : Nat → Nat} (hg : g < f) (hm : many ≤ 60) (hcl : ∀ j, j < N → x_i M (o + 5) j = nI (cl j) ∧ cl j < many)
    (hQ : ∀ M', Fr M M' [o + 5, o + 6, o + 7] → (∀ j, j < N → x_i M' (o + 5) j = nI ((kin (fun j => cl j * many + cl (lk j g)) N).idxOf (cl j * many + cl (lk j g)))) → Q (some (.int (nI (kin (fun j => cl j * many + cl (lk j g)) N).length))) M') : Call G (d + 3) 0 0 mX2_splitByLinks [.ref o, .int (nI g), .int (nI many)] M Q := by
  have hs0 := hs
  have h0 := h
  obtain ⟨s0, s1, s2, s3, s4, s5, s6, s7, t1, t2, t3, t4, t5, t6, t7⟩ := hs
  obtain ⟨d1, d2, d3, d4, d5, d6, d7, d8, d9, d10, d11⟩ := h
  have hmm : many * many ≤ 3600 := Nat.mul_le_mul hm hm
  generalize hkd : (fun j => cl j * many + cl (lk j g)) = ky at hQ
  have hkv : ∀ j, j < N → ky j < many * many := by
    intro j hj
    have h1 := (hcl j hj).2
    have h2 := (hcl _ (d4 j hj g hg)).2
    have : (cl j + 1) * many ≤ many * many := Nat.mul_le_mul_right many h1
    rw [Nat.succ_mul] at this
    rw [← hkd]
    show cl j * many + cl (lk j g) < _
    omega
  have key : ∀ (k i : Nat), i + k = N → ∀ z, c1 z = true → ∀ M', Fr M M' [o + 6, o + 7] → Tab M' (o + 7) (many * many) (kin ky i) → (∀ j, j < i → x_i M' (o + 6) j = nI ((kin ky N).idxOf (ky j))) → LX2_splitByLinks_30 G (d + 2) 0 0 o (nI g) (nI many) (nI (kin ky i).length) (nI i) z M' Q := by
    intro k
    induction k with
    | zero =>
      intro i hi z hz M' hfr ht hc
      have e : i = N := by omega
      subst e
      refine vX2_splitByLinks_30 _ _ _ _ _ _ hz ?_
      have e9 : x_i M' o 9 = nI i := by rw [hfr.i (by simp)]; exact d2
      have e10 : i ≤ 3600 := d8
      simp (disch := omega) only [ne_eq, true_and, and_true, false_and, and_false, true_or, or_true, false_or, or_false, not_true_eq_false, not_false_eq_true, forall_eq, exists_eq_left, exists_eq_left', exists_eq_right, true_implies, false_implies, implies_true, forall_const, Option.some.injEq, Value.int.injEq, Value.long.injEq, Value.ref.injEq, reduceCtorEq, exists_const, and_self, s_lit, s_m1, s_add, s_mul, s_sub, s_lt, s_le, s_eq, s_nm1, s_m1n, s_eqm1, s_cl, s_in, s_ltm1, s_div, s_rem, s_rem2, s_hsi, s_rsi, s_lsi, s_nsi, s_hsl, s_rsl, s_isl, s_nsl, xi_eq, xi_na, xi_nk, xl_eq, xl_na, xl_nk, s_k18, s_hfi, s_rfi, s_lfi, s_nfi, s_hfl, s_rfl, s_ifl, s_nfl, xf_in, xf_na, xf_nk, xg_in, xg_na, xg_nk, hfr.h, hfr.r, s0, s1, s2, s3, s4, s5, s6, s7, t1, t2, t3, t4, t5, t6, t7, e9, Nat.le_refl, s_lit 0, Nat.zero_add, e10, Nat.not_lt_zero]
      refine hQ _ ((hfr.wk (by simp)).cpi (by simp)) (fun j hj => ?_)
      rw [xc_in hj]
      exact (hc j hj).trans (by rw [← hkd])
    | succ k ih =>
      intro i hi z hz M' hfr ht hc
      have hiN : i < N := by omega
      refine vX2_splitByLinks_30 _ _ _ _ _ _ hz ?_
      have e9 : x_i M' o 9 = nI N := by rw [hfr.i (by simp)]; exact d2
      have e : ¬ N ≤ i := by omega
      simp (disch := omega) only [ne_eq, true_and, and_true, false_and, and_false, true_or, or_true, false_or, or_false, not_true_eq_false, not_false_eq_true, forall_eq, exists_eq_left, exists_eq_left', exists_eq_right, true_implies, false_implies, implies_true, forall_const, Option.some.injEq, Value.int.injEq, Value.long.injEq, Value.ref.injEq, reduceCtorEq, exists_const, and_self, s_lit, s_m1, s_add, s_mul, s_sub, s_lt, s_le, s_eq, s_nm1, s_m1n, s_eqm1, s_cl, s_in, s_ltm1, s_div, s_rem, s_rem2, s_hsi, s_rsi, s_lsi, s_nsi, s_hsl, s_rsl, s_isl, s_nsl, xi_eq, xi_na, xi_nk, xl_eq, xl_na, xl_nk, s_k18, s_hfi, s_rfi, s_lfi, s_nfi, s_hfl, s_rfl, s_ifl, s_nfl, xf_in, xf_na, xf_nk, xg_in, xg_na, xg_nk, hfr.h, hfr.r, s0, s1, s2, s3, s4, s5, s6, s7, t1, t2, t3, t4, t5, t6, t7, e9, e]
      refine w_linkOf _ (hs0.fr hfr) (h0.fr hfr (by simp) (by simp) (by simp)) hiN hg ?_
      have hl := d4 i hiN g hg
      have hky := hkv i hiN
      have hkk : cl i * many + cl (lk i g) = ky i := by rw [← hkd]
      have e5 : x_i M' (o + 5) i = nI (cl i) := by rw [hfr.i (by simp)]; exact (hcl i hiN).1
      have e6 : x_i M' (o + 5) (lk i g) = nI (cl (lk i g)) := by rw [hfr.i (by simp)]; exact (hcl _ hl).1
      have hte := ht (ky i) hky
      have hin : ky i ∈ kin ky (i + 1) := mem_ins
      have hidx := kin_idx (i + 1) (N - (i + 1)) hin
      rw [show i + 1 + (N - (i + 1)) = N by omega] at hidx
      have hle := kin_le (key := ky) i
      by_cases c : ky i ∈ kin ky i
      · have e2 : kin ky (i + 1) = kin ky i := if_pos c
        have e4 : (kin ky N).idxOf (ky i) = (kin ky i).idxOf (ky i) := by rw [hidx, e2]
        have hlt := idx_lt c
        rw [if_pos c, ← e4] at hte
        rw [← e4] at hlt
        simp (disch := omega) only [ne_eq, true_and, and_true, false_and, and_false, true_or, or_true, false_or, or_false, not_true_eq_false, not_false_eq_true, forall_eq, exists_eq_left, exists_eq_left', exists_eq_right, true_implies, false_implies, implies_true, forall_const, Option.some.injEq, Value.int.injEq, Value.long.injEq, Value.ref.injEq, reduceCtorEq, exists_const, and_self, s_lit, s_m1, s_add, s_mul, s_sub, s_lt, s_le, s_eq, s_nm1, s_m1n, s_eqm1, s_cl, s_in, s_ltm1, s_div, s_rem, s_rem2, s_hsi, s_rsi, s_lsi, s_nsi, s_hsl, s_rsl, s_isl, s_nsl, xi_eq, xi_na, xi_nk, xl_eq, xl_na, xl_nk, s_k18, s_hfi, s_rfi, s_lfi, s_nfi, s_hfl, s_rfl, s_ifl, s_nfl, xf_in, xf_na, xf_nk, xg_in, xg_na, xg_nk, hfr.h, hfr.r, s0, s1, s2, s3, s4, s5, s6, s7, t1, t2, t3, t4, t5, t6, t7, e5, e6, hkk, hte]
        rw [← e2]
        refine ih (i + 1) (by omega) _ rfl _ (hfr.si (by simp)) ?_ (fun j hj => ?_)
        · rw [e2]
          exact ht.to (by funext q; simp (disch := omega) only [ne_eq, true_and, and_true, false_and, and_false, true_or, or_true, false_or, or_false, not_true_eq_false, not_false_eq_true, forall_eq, exists_eq_left, exists_eq_left', exists_eq_right, true_implies, false_implies, implies_true, forall_const, Option.some.injEq, Value.int.injEq, Value.long.injEq, Value.ref.injEq, reduceCtorEq, exists_const, and_self, s_lit, s_m1, s_add, s_mul, s_sub, s_lt, s_le, s_eq, s_nm1, s_m1n, s_eqm1, s_cl, s_in, s_ltm1, s_div, s_rem, s_rem2, s_hsi, s_rsi, s_lsi, s_nsi, s_hsl, s_rsl, s_isl, s_nsl, xi_eq, xi_na, xi_nk, xl_eq, xl_na, xl_nk, s_k18, s_hfi, s_rfi, s_lfi, s_nfi, s_hfl, s_rfl, s_ifl, s_nfl, xf_in, xf_na, xf_nk, xg_in, xg_na, xg_nk])
        · by_cases ej : j = i
          · subst ej; rw [xi_eq]
          · rw [xi_nk ej]; exact hc j (by omega)
      · have e2 : kin ky (i + 1) = kin ky i ++ [ky i] := if_neg c
        have e4 : (kin ky N).idxOf (ky i) = (kin ky i).length := by
          rw [hidx, e2, List.idxOf_append, if_neg c]
          simp
        rw [if_neg c] at hte
        simp (disch := omega) only [ne_eq, true_and, and_true, false_and, and_false, true_or, or_true, false_or, or_false, not_true_eq_false, not_false_eq_true, forall_eq, exists_eq_left, exists_eq_left', exists_eq_right, true_implies, false_implies, implies_true, forall_const, Option.some.injEq, Value.int.injEq, Value.long.injEq, Value.ref.injEq, reduceCtorEq, exists_const, and_self, s_lit, s_m1, s_add, s_mul, s_sub, s_lt, s_le, s_eq, s_nm1, s_m1n, s_eqm1, s_cl, s_in, s_ltm1, s_div, s_rem, s_rem2, s_hsi, s_rsi, s_lsi, s_nsi, s_hsl, s_rsl, s_isl, s_nsl, xi_eq, xi_na, xi_nk, xl_eq, xl_na, xl_nk, s_k18, s_hfi, s_rfi, s_lfi, s_nfi, s_hfl, s_rfl, s_ifl, s_nfl, xf_in, xf_na, xf_nk, xg_in, xg_na, xg_nk, hfr.h, hfr.r, s0, s1, s2, s3, s4, s5, s6, s7, t1, t2, t3, t4, t5, t6, t7, e5, e6, hkk, hte]
        have e7 : (kin ky i).length + 1 = (kin ky (i + 1)).length := by rw [e2]; simp
        rw [e7]
        refine ih (i + 1) (by omega) _ rfl _ ((hfr.si (by simp)).si (by simp)) ?_ (fun j hj => ?_)
        · exact (ht.add c).to (by funext q; simp (disch := omega) only [ne_eq, true_and, and_true, false_and, and_false, true_or, or_true, false_or, or_false, not_true_eq_false, not_false_eq_true, forall_eq, exists_eq_left, exists_eq_left', exists_eq_right, true_implies, false_implies, implies_true, forall_const, Option.some.injEq, Value.int.injEq, Value.long.injEq, Value.ref.injEq, reduceCtorEq, exists_const, and_self, s_lit, s_m1, s_add, s_mul, s_sub, s_lt, s_le, s_eq, s_nm1, s_m1n, s_eqm1, s_cl, s_in, s_ltm1, s_div, s_rem, s_rem2, s_hsi, s_rsi, s_lsi, s_nsi, s_hsl, s_rsl, s_isl, s_nsl, xi_eq, xi_na, xi_nk, xl_eq, xl_na, xl_nk, s_k18, s_hfi, s_rfi, s_lfi, s_nfi, s_hfl, s_rfl, s_ifl, s_nfl, xf_in, xf_na, xf_nk, xg_in, xg_na, xg_nk])
        · by_cases ej : j = i
          · subst ej; rw [xi_eq, e4]
          · rw [xi_nk ej, xi_na (by omega)]; exact hc j (by omega)
  refine eX2_splitByLinks o _ _ ?_
  simp (disch := omega) only [ne_eq, true_and, and_true, false_and, and_false, true_or, or_true, false_or, or_false, not_true_eq_false, not_false_eq_true, forall_eq, exists_eq_left, exists_eq_left', exists_eq_right, true_implies, false_implies, implies_true, forall_const, Option.some.injEq, Value.int.injEq, Value.long.injEq, Value.ref.injEq, reduceCtorEq, exists_const, and_self, s_lit, s_m1, s_add, s_mul, s_sub, s_lt, s_le, s_eq, s_nm1, s_m1n, s_eqm1, s_cl, s_in, s_ltm1, s_div, s_rem, s_rem2, s_hsi, s_rsi, s_lsi, s_nsi, s_hsl, s_rsl, s_isl, s_nsl, xi_eq, xi_na, xi_nk, xl_eq, xl_na, xl_nk, s_k18, s_hfi, s_rfi, s_lfi, s_nfi, s_hfl, s_rfl, s_ifl, s_nfl, xf_in, xf_na, xf_nk, xg_in, xg_na, xg_nk, s0, s1, s2, s3, s4, s5, s6, s7, t1, t2, t3, t4, t5, t6, t7, hmm]
  refine w_fill3 _ (n := 3600) (by simp (disch := omega) only [ne_eq, true_and, and_true, false_and, and_false, true_or, or_true, false_or, or_false, not_true_eq_false, not_false_eq_true, forall_eq, exists_eq_left, exists_eq_left', exists_eq_right, true_implies, false_implies, implies_true, forall_const, Option.some.injEq, Value.int.injEq, Value.long.injEq, Value.ref.injEq, reduceCtorEq, exists_const, and_self, s_lit, s_m1, s_add, s_mul, s_sub, s_lt, s_le, s_eq, s_nm1, s_m1n, s_eqm1, s_cl, s_in, s_ltm1, s_div, s_rem, s_rem2, s_hsi, s_rsi, s_lsi, s_nsi, s_hsl, s_rsl, s_isl, s_nsl, xi_eq, xi_na, xi_nk, xl_eq, xl_na, xl_nk, s_k18, s_hfi, s_rfi, s_lfi, s_nfi, s_hfl, s_rfl, s_ifl, s_nfl, xf_in, xf_na, xf_nk, xg_in, xg_na, xg_nk, s0, s1, s2, s3, s4, s5, s6, s7, t1, t2, t3, t4, t5, t6, t7]) (by omega) (by omega) (by omega) ?_
  refine ⟨rfl, key N 0 (by omega) _ rfl _ (Fr.rf.fi (by simp)) (fun k hk => ?_) (fun j hj => absurd hj (Nat.not_lt_zero j))⟩
  rw [xf_in (by omega) hk, if_neg (by simp [kin])]
  rfl
end SplitC
