/-! ===== Loom: the classes are numbered as they are met ===== -/
section NumberC
variable {G : GG} {M : Mem} {o N f p pv pk pm pn many : Nat} {lk : Nat → Nat → Nat} {mk cl : Nat → Nat} {Q : Option Value → Mem → Prop}
/-- what number has written after c links; marks of the first i -/
def NuI (M : Mem) (o p pv pk N f many c i : Nat) (lk : Nat → Nat → Nat) (mk cl : Nat → Nat) : Prop :=
  Tab M (o + 7) many (ex (cdl N lk cl) f (cl 0) c) ∧ (∀ t, t < (ex (cdl N lk cl) f (cl 0) c).length → ∃ x, x_i M (o + 6) t = nI x ∧ x < N ∧ cl x = (ex (cdl N lk cl) f (cl 0) c).getD t 0) ∧ x_i M p 2 = nI many ∧ x_i M p 3 = nI f ∧ (∀ q, q < c → x_i M pv q = nI (exl (cdl N lk cl) f (cl 0) q)) ∧ (∀ t, t < i → x_i M pk t = nI (cmk N mk cl ((ex (cdl N lk cl) f (cl 0) c).getD t 0))) ∧ exV (cdl N lk cl) f (cl 0) c
theorem w_number (d : Nat) (hs : LoS M o) (h : LoR M o N f lk mk) (hp : LeS M p pv pk pm pn) (hpd : ∀ q ∈ [p, pv, pk], q < o ∨ o + 7 < q) (hm : many ≤ 60) (hmn : many ≤ pn) (hmm : many * f ≤ pm) (hcl : ∀ j, j < N → x_i M (o + 5) j = nI (cl j) ∧ cl j < many) (hC : Cls f N lk mk cl) (hS : ∀ d, d < f → Stb N lk cl d) (hN : Num N many cl) (hr : ∀ i, i < N → ∃ w, wd f w ∧ rn lk 0 w = i)
    (hQ : ∀ M' st mr, Fr M M' [o + 6, o + 7, p, pv, pk] → LeI M' p pv pk many f st mr → Can f many st mr (fun w => mk (rn lk 0 w)) → Q none M') : Call G (d + 3) 0 0 mX2_number [.ref o, .ref p, .int (nI many)] M Q := by
  have hs0 := hs
  have h0 := h
  have hp0 := hp
  obtain ⟨s0, s1, s2, s3, s4, s5, s6, s7, t1, t2, t3, t4, t5, t6, t7⟩ := hs
  obtain ⟨d1, d2, d3, d4, d5, d6, d7, d8, d9, d10, d11⟩ := h
  obtain ⟨p1, p2, p3, p4, p5, p6, p7, p8, p9, p10⟩ := hp
  have q1 := hpd p (by simp)
  have q2 := hpd pv (by simp)
  have q3 := hpd pk (by simp)
  have hfr4 : ∀ {M'}, Fr M M' [o + 6, o + 7, p, pv, pk] → (∀ q, q = o ∨ q = o + 3 ∨ q = o + 4 ∨ q = o + 5 → x_i M' q = x_i M q) := fun hfr q hq => hfr.i (by simp; omega)
  have hKc : ∀ c, exV (cdl N lk cl) f (cl 0) c → ∀ x ∈ ex (cdl N lk cl) f (cl 0) c, x < many := fun c hV x hx => by
    obtain ⟨w, hw, e⟩ := ex_reach d10 c hV x hx
    rw [← e, cdl_word d4 hS w 0 hw d7]
    exact (hcl _ (rn_lt d4 w 0 hw d7)).2
  have hKl : ∀ c, exV (cdl N lk cl) f (cl 0) c → (ex (cdl N lk cl) f (cl 0) c).length ≤ many := fun c hV => nd_len _ _ (ex_nd c) (hKc c hV)
  -- the links of state i
  have inner : ∀ (i : Nat), i < many →
      (∀ M', Fr M M' [o + 6, o + 7, p, pv, pk] → i < (ex (cdl N lk cl) f (cl 0) (i * f + f)).length → NuI M' o p pv pk N f many (i * f + f) (i + 1) lk mk cl → ∀ z z', c1 z = true → c1 z' = true → LX2_number_43 G (d + 2) 0 0 o p (nI many) (nI (ex (cdl N lk cl) f (cl 0) (i * f + f)).length) (nI (i + 1)) z z' M' Q) →
      ∀ (k j : Nat), j + k = f → ∀ M', Fr M M' [o + 6, o + 7, p, pv, pk] → i < (ex (cdl N lk cl) f (cl 0) (i * f + j)).length → NuI M' o p pv pk N f many (i * f + j) (i + 1) lk mk cl → ∀ z, c1 z = true → LX2_number_76 G (d + 2) 0 0 o p (nI many) (nI (ex (cdl N lk cl) f (cl 0) (i * f + j)).length) (nI i) (nI j) z M' Q := by
    intro i him hout k
    induction k with
    | zero =>
      intro j hj M' hfr hi hn z hz
      have e : j = f := by omega
      subst e
      refine vX2_number_76 _ _ _ _ _ _ _ hz ?_
      have e8 : x_i M' o 8 = nI j := by rw [hfr4 hfr o (by simp)]; exact d1
      simp (disch := omega) only [ne_eq, true_and, and_true, false_and, and_false, true_or, or_true, false_or, or_false, not_true_eq_false, not_false_eq_true, forall_eq, exists_eq_left, exists_eq_left', exists_eq_right, true_implies, false_implies, implies_true, forall_const, Option.some.injEq, Value.int.injEq, Value.long.injEq, Value.ref.injEq, reduceCtorEq, exists_const, and_self, s_lit, s_m1, s_add, s_mul, s_sub, s_lt, s_le, s_eq, s_nm1, s_m1n, s_eqm1, s_cl, s_in, s_ltm1, s_div, s_rem, s_rem2, s_hsi, s_rsi, s_lsi, s_nsi, s_hsl, s_rsl, s_isl, s_nsl, xi_eq, xi_na, xi_nk, xl_eq, xl_na, xl_nk, s_k18, s_hfi, s_rfi, s_lfi, s_nfi, s_hfl, s_rfl, s_ifl, s_nfl, xf_in, xf_na, xf_nk, xg_in, xg_na, xg_nk, hfr.h, hfr.r, s0, s1, s2, s3, s4, s5, s6, s7, t1, t2, t3, t4, t5, t6, t7, e8, Nat.le_refl]
      exact hout M' hfr hi hn _ _ rfl hz
    | succ k ih =>
      intro j hj M' hfr hi hn z hz
      have hjf : j < f := by omega
      obtain ⟨n1, n2, n3, n4, n5, n6, n7⟩ := hn
      have hl := hKl _ n7
      obtain ⟨x, x1, x2, x3⟩ := n2 i hi
      have e1 : (i * f + j) / f = i := by rw [Nat.mul_comm, Nat.mul_add_div d10, Nat.div_eq_of_lt hjf]; rfl
      have e2 : (i * f + j) % f = j := by rw [Nat.mul_comm, Nat.mul_add_mod]; exact Nat.mod_eq_of_lt hjf
      have hlx := d4 x x2 j hjf
      have hcx := (hcl _ hlx)
      have hdl : cdl N lk cl ((ex (cdl N lk cl) f (cl 0) (i * f + j)).getD ((i * f + j) / f) 0) ((i * f + j) % f) = cl (lk x j) := by
        rw [e1, e2, ← x3, cdl_eq hS x2 hjf]
      have hV1 : exV (cdl N lk cl) f (cl 0) (i * f + j + 1) := fun q hq => by
        by_cases e : q = i * f + j
        · subst e; rw [e1]; exact hi
        · exact n7 q (by omega)
      have hl1 := hKl _ hV1
      have hex : ex (cdl N lk cl) f (cl 0) (i * f + j + 1) = ins (ex (cdl N lk cl) f (cl 0) (i * f + j)) (cl (lk x j)) := by rw [← hdl]; rfl
      have hxl : exl (cdl N lk cl) f (cl 0) (i * f + j) = (ex (cdl N lk cl) f (cl 0) (i * f + j + 1)).idxOf (cl (lk x j)) := by rw [← hdl]; rfl
      have hpl : i * f + j < many * f := by
        have : (i + 1) * f ≤ many * f := Nat.mul_le_mul_right f him
        rw [Nat.succ_mul] at this
        omega
      have hte := n1 _ hcx.2
      refine vX2_number_76 _ _ _ _ _ _ _ hz ?_
      have e8 : x_i M' o 8 = nI f := by rw [hfr4 hfr o (by simp)]; exact d1
      have e5 : x_i M' (o + 5) (lk x j) = nI (cl (lk x j)) := by rw [hfr4 hfr (o + 5) (by simp)]; exact hcx.1
      have efj : ¬ f ≤ j := by omega
      simp (disch := omega) only [ne_eq, true_and, and_true, false_and, and_false, true_or, or_true, false_or, or_false, not_true_eq_false, not_false_eq_true, forall_eq, exists_eq_left, exists_eq_left', exists_eq_right, true_implies, false_implies, implies_true, forall_const, Option.some.injEq, Value.int.injEq, Value.long.injEq, Value.ref.injEq, reduceCtorEq, exists_const, and_self, s_lit, s_m1, s_add, s_mul, s_sub, s_lt, s_le, s_eq, s_nm1, s_m1n, s_eqm1, s_cl, s_in, s_ltm1, s_div, s_rem, s_rem2, s_hsi, s_rsi, s_lsi, s_nsi, s_hsl, s_rsl, s_isl, s_nsl, xi_eq, xi_na, xi_nk, xl_eq, xl_na, xl_nk, s_k18, s_hfi, s_rfi, s_lfi, s_nfi, s_hfl, s_rfl, s_ifl, s_nfl, xf_in, xf_na, xf_nk, xg_in, xg_na, xg_nk, hfr.h, hfr.r, s0, s1, s2, s3, s4, s5, s6, s7, t1, t2, t3, t4, t5, t6, t7, e8, efj, x1]
      refine w_linkOf _ (hs0.fr hfr) ⟨e8, by rw [hfr4 hfr o (by simp)]; exact d2, by rw [hfr4 hfr (o + 4) (by simp)]; exact d3, d4, by rw [hfr4 hfr (o + 3) (by simp)]; exact d5, d6, d7, d8, d9, d10, d11⟩ x2 hjf ?_
      by_cases c : cl (lk x j) ∈ ex (cdl N lk cl) f (cl 0) (i * f + j)
      · have hlt := idx_lt c
        have ee : ex (cdl N lk cl) f (cl 0) (i * f + j + 1) = ex (cdl N lk cl) f (cl 0) (i * f + j) := by rw [hex]; exact if_pos c
        rw [if_pos c] at hte
        rw [← ee] at hte
        rw [← hxl] at hte
        have hlt2 : exl (cdl N lk cl) f (cl 0) (i * f + j) < 60 := by rw [hxl, ee]; omega
        simp (disch := omega) only [ne_eq, true_and, and_true, false_and, and_false, true_or, or_true, false_or, or_false, not_true_eq_false, not_false_eq_true, forall_eq, exists_eq_left, exists_eq_left', exists_eq_right, true_implies, false_implies, implies_true, forall_const, Option.some.injEq, Value.int.injEq, Value.long.injEq, Value.ref.injEq, reduceCtorEq, exists_const, and_self, s_lit, s_m1, s_add, s_mul, s_sub, s_lt, s_le, s_eq, s_nm1, s_m1n, s_eqm1, s_cl, s_in, s_ltm1, s_div, s_rem, s_rem2, s_hsi, s_rsi, s_lsi, s_nsi, s_hsl, s_rsl, s_isl, s_nsl, xi_eq, xi_na, xi_nk, xl_eq, xl_na, xl_nk, s_k18, s_hfi, s_rfi, s_lfi, s_nfi, s_hfl, s_rfl, s_ifl, s_nfl, xf_in, xf_na, xf_nk, xg_in, xg_na, xg_nk, hfr.h, hfr.r, s0, s1, s2, s3, s4, s5, s6, s7, t1, t2, t3, t4, t5, t6, t7, e5, hte, p1]
        refine Call.mono (k_put d (i := i) (g := j) (hp0.eq hfr.h hfr.r) n4 hmm him hjf _) ?_
        rintro r M1 ⟨rfl, rfl⟩
        refine ⟨rfl, ?_⟩
        have := ih (j + 1) (by omega) (x_si M' pv (i * f + j) (nI (exl (cdl N lk cl) f (cl 0) (i * f + j)))) (hfr.si (by simp)) (by rw [← Nat.add_assoc, ee]; exact hi) ⟨?_, ?_, ?_, ?_, ?_, ?_, ?_⟩ (some (.int (nI (lk x j)))) rfl
        · rw [← Nat.add_assoc, ee] at this
          exact this
        · rw [← Nat.add_assoc, ee]
          exact n1.to (by funext q; simp (disch := omega) only [ne_eq, true_and, and_true, false_and, and_false, true_or, or_true, false_or, or_false, not_true_eq_false, not_false_eq_true, forall_eq, exists_eq_left, exists_eq_left', exists_eq_right, true_implies, false_implies, implies_true, forall_const, Option.some.injEq, Value.int.injEq, Value.long.injEq, Value.ref.injEq, reduceCtorEq, exists_const, and_self, s_lit, s_m1, s_add, s_mul, s_sub, s_lt, s_le, s_eq, s_nm1, s_m1n, s_eqm1, s_cl, s_in, s_ltm1, s_div, s_rem, s_rem2, s_hsi, s_rsi, s_lsi, s_nsi, s_hsl, s_rsl, s_isl, s_nsl, xi_eq, xi_na, xi_nk, xl_eq, xl_na, xl_nk, s_k18, s_hfi, s_rfi, s_lfi, s_nfi, s_hfl, s_rfl, s_ifl, s_nfl, xf_in, xf_na, xf_nk, xg_in, xg_na, xg_nk])
        · rw [← Nat.add_assoc, ee]
          simp (disch := omega) only [ne_eq, true_and, and_true, false_and, and_false, true_or, or_true, false_or, or_false, not_true_eq_false, not_false_eq_true, forall_eq, exists_eq_left, exists_eq_left', exists_eq_right, true_implies, false_implies, implies_true, forall_const, Option.some.injEq, Value.int.injEq, Value.long.injEq, Value.ref.injEq, reduceCtorEq, exists_const, and_self, s_lit, s_m1, s_add, s_mul, s_sub, s_lt, s_le, s_eq, s_nm1, s_m1n, s_eqm1, s_cl, s_in, s_ltm1, s_div, s_rem, s_rem2, s_hsi, s_rsi, s_lsi, s_nsi, s_hsl, s_rsl, s_isl, s_nsl, xi_eq, xi_na, xi_nk, xl_eq, xl_na, xl_nk, s_k18, s_hfi, s_rfi, s_lfi, s_nfi, s_hfl, s_rfl, s_ifl, s_nfl, xf_in, xf_na, xf_nk, xg_in, xg_na, xg_nk]
          exact n2
        · simp (disch := omega) only [ne_eq, true_and, and_true, false_and, and_false, true_or, or_true, false_or, or_false, not_true_eq_false, not_false_eq_true, forall_eq, exists_eq_left, exists_eq_left', exists_eq_right, true_implies, false_implies, implies_true, forall_const, Option.some.injEq, Value.int.injEq, Value.long.injEq, Value.ref.injEq, reduceCtorEq, exists_const, and_self, s_lit, s_m1, s_add, s_mul, s_sub, s_lt, s_le, s_eq, s_nm1, s_m1n, s_eqm1, s_cl, s_in, s_ltm1, s_div, s_rem, s_rem2, s_hsi, s_rsi, s_lsi, s_nsi, s_hsl, s_rsl, s_isl, s_nsl, xi_eq, xi_na, xi_nk, xl_eq, xl_na, xl_nk, s_k18, s_hfi, s_rfi, s_lfi, s_nfi, s_hfl, s_rfl, s_ifl, s_nfl, xf_in, xf_na, xf_nk, xg_in, xg_na, xg_nk]; exact n3
        · simp (disch := omega) only [ne_eq, true_and, and_true, false_and, and_false, true_or, or_true, false_or, or_false, not_true_eq_false, not_false_eq_true, forall_eq, exists_eq_left, exists_eq_left', exists_eq_right, true_implies, false_implies, implies_true, forall_const, Option.some.injEq, Value.int.injEq, Value.long.injEq, Value.ref.injEq, reduceCtorEq, exists_const, and_self, s_lit, s_m1, s_add, s_mul, s_sub, s_lt, s_le, s_eq, s_nm1, s_m1n, s_eqm1, s_cl, s_in, s_ltm1, s_div, s_rem, s_rem2, s_hsi, s_rsi, s_lsi, s_nsi, s_hsl, s_rsl, s_isl, s_nsl, xi_eq, xi_na, xi_nk, xl_eq, xl_na, xl_nk, s_k18, s_hfi, s_rfi, s_lfi, s_nfi, s_hfl, s_rfl, s_ifl, s_nfl, xf_in, xf_na, xf_nk, xg_in, xg_na, xg_nk]; exact n4
        · intro q hq
          by_cases eq : q = i * f + j
          · subst eq; rw [xi_eq]
          · rw [xi_nk eq]; exact n5 q (by omega)
        · rw [← Nat.add_assoc, ee]
          intro t ht
          simp (disch := omega) only [ne_eq, true_and, and_true, false_and, and_false, true_or, or_true, false_or, or_false, not_true_eq_false, not_false_eq_true, forall_eq, exists_eq_left, exists_eq_left', exists_eq_right, true_implies, false_implies, implies_true, forall_const, Option.some.injEq, Value.int.injEq, Value.long.injEq, Value.ref.injEq, reduceCtorEq, exists_const, and_self, s_lit, s_m1, s_add, s_mul, s_sub, s_lt, s_le, s_eq, s_nm1, s_m1n, s_eqm1, s_cl, s_in, s_ltm1, s_div, s_rem, s_rem2, s_hsi, s_rsi, s_lsi, s_nsi, s_hsl, s_rsl, s_isl, s_nsl, xi_eq, xi_na, xi_nk, xl_eq, xl_na, xl_nk, s_k18, s_hfi, s_rfi, s_lfi, s_nfi, s_hfl, s_rfl, s_ifl, s_nfl, xf_in, xf_na, xf_nk, xg_in, xg_na, xg_nk]
          exact n6 t ht
        · rw [← Nat.add_assoc]; exact hV1
      · have ee : ex (cdl N lk cl) f (cl 0) (i * f + j + 1) = ex (cdl N lk cl) f (cl 0) (i * f + j) ++ [cl (lk x j)] := by rw [hex]; exact if_neg c
        have elen : (ex (cdl N lk cl) f (cl 0) (i * f + j + 1)).length = (ex (cdl N lk cl) f (cl 0) (i * f + j)).length + 1 := by rw [ee]; simp
        have hxl2 : exl (cdl N lk cl) f (cl 0) (i * f + j) = (ex (cdl N lk cl) f (cl 0) (i * f + j)).length := by
          rw [hxl, ee, List.idxOf_append, if_neg c]
          simp
        rw [if_neg c] at hte
        simp (disch := omega) only [ne_eq, true_and, and_true, false_and, and_false, true_or, or_true, false_or, or_false, not_true_eq_false, not_false_eq_true, forall_eq, exists_eq_left, exists_eq_left', exists_eq_right, true_implies, false_implies, implies_true, forall_const, Option.some.injEq, Value.int.injEq, Value.long.injEq, Value.ref.injEq, reduceCtorEq, exists_const, and_self, s_lit, s_m1, s_add, s_mul, s_sub, s_lt, s_le, s_eq, s_nm1, s_m1n, s_eqm1, s_cl, s_in, s_ltm1, s_div, s_rem, s_rem2, s_hsi, s_rsi, s_lsi, s_nsi, s_hsl, s_rsl, s_isl, s_nsl, xi_eq, xi_na, xi_nk, xl_eq, xl_na, xl_nk, s_k18, s_hfi, s_rfi, s_lfi, s_nfi, s_hfl, s_rfl, s_ifl, s_nfl, xf_in, xf_na, xf_nk, xg_in, xg_na, xg_nk, hfr.h, hfr.r, s0, s1, s2, s3, s4, s5, s6, s7, t1, t2, t3, t4, t5, t6, t7, e5, hte, p1]
        refine Call.mono (k_put d (i := i) (g := j) ((hp0.eq hfr.h hfr.r).si.si) (by simp (disch := omega) only [ne_eq, true_and, and_true, false_and, and_false, true_or, or_true, false_or, or_false, not_true_eq_false, not_false_eq_true, forall_eq, exists_eq_left, exists_eq_left', exists_eq_right, true_implies, false_implies, implies_true, forall_const, Option.some.injEq, Value.int.injEq, Value.long.injEq, Value.ref.injEq, reduceCtorEq, exists_const, and_self, s_lit, s_m1, s_add, s_mul, s_sub, s_lt, s_le, s_eq, s_nm1, s_m1n, s_eqm1, s_cl, s_in, s_ltm1, s_div, s_rem, s_rem2, s_hsi, s_rsi, s_lsi, s_nsi, s_hsl, s_rsl, s_isl, s_nsl, xi_eq, xi_na, xi_nk, xl_eq, xl_na, xl_nk, s_k18, s_hfi, s_rfi, s_lfi, s_nfi, s_hfl, s_rfl, s_ifl, s_nfl, xf_in, xf_na, xf_nk, xg_in, xg_na, xg_nk]; exact n4) hmm him hjf _) ?_
        rintro r M1 ⟨rfl, rfl⟩
        refine ⟨rfl, ?_⟩
        rw [← hxl2]
        have := ih (j + 1) (by omega) (x_si (x_si (x_si M' (o + 7) (cl (lk x j)) (nI (exl (cdl N lk cl) f (cl 0) (i * f + j)))) (o + 6) (exl (cdl N lk cl) f (cl 0) (i * f + j)) (nI (lk x j))) pv (i * f + j) (nI (exl (cdl N lk cl) f (cl 0) (i * f + j)))) (((hfr.si (by simp)).si (by simp)).si (by simp)) (by rw [← Nat.add_assoc, elen]; omega) ⟨?_, ?_, ?_, ?_, ?_, ?_, ?_⟩ (some (.int (nI (lk x j)))) rfl
        · rw [← Nat.add_assoc, elen, ← hxl2] at this
          exact this
        · rw [← Nat.add_assoc, hex]
          rw [hxl2]
          exact (n1.add c).to (by funext q; simp (disch := omega) only [ne_eq, true_and, and_true, false_and, and_false, true_or, or_true, false_or, or_false, not_true_eq_false, not_false_eq_true, forall_eq, exists_eq_left, exists_eq_left', exists_eq_right, true_implies, false_implies, implies_true, forall_const, Option.some.injEq, Value.int.injEq, Value.long.injEq, Value.ref.injEq, reduceCtorEq, exists_const, and_self, s_lit, s_m1, s_add, s_mul, s_sub, s_lt, s_le, s_eq, s_nm1, s_m1n, s_eqm1, s_cl, s_in, s_ltm1, s_div, s_rem, s_rem2, s_hsi, s_rsi, s_lsi, s_nsi, s_hsl, s_rsl, s_isl, s_nsl, xi_eq, xi_na, xi_nk, xl_eq, xl_na, xl_nk, s_k18, s_hfi, s_rfi, s_lfi, s_nfi, s_hfl, s_rfl, s_ifl, s_nfl, xf_in, xf_na, xf_nk, xg_in, xg_na, xg_nk])
        · rw [← Nat.add_assoc, elen]
          intro t ht
          by_cases et : t = (ex (cdl N lk cl) f (cl 0) (i * f + j)).length
          · subst et
            refine ⟨lk x j, by rw [hxl2]; simp (disch := omega) only [ne_eq, true_and, and_true, false_and, and_false, true_or, or_true, false_or, or_false, not_true_eq_false, not_false_eq_true, forall_eq, exists_eq_left, exists_eq_left', exists_eq_right, true_implies, false_implies, implies_true, forall_const, Option.some.injEq, Value.int.injEq, Value.long.injEq, Value.ref.injEq, reduceCtorEq, exists_const, and_self, s_lit, s_m1, s_add, s_mul, s_sub, s_lt, s_le, s_eq, s_nm1, s_m1n, s_eqm1, s_cl, s_in, s_ltm1, s_div, s_rem, s_rem2, s_hsi, s_rsi, s_lsi, s_nsi, s_hsl, s_rsl, s_isl, s_nsl, xi_eq, xi_na, xi_nk, xl_eq, xl_na, xl_nk, s_k18, s_hfi, s_rfi, s_lfi, s_nfi, s_hfl, s_rfl, s_ifl, s_nfl, xf_in, xf_na, xf_nk, xg_in, xg_na, xg_nk], hlx, ?_⟩
            rw [ee]
            simp
          · obtain ⟨y, y1, y2, y3⟩ := n2 t (by omega)
            refine ⟨y, by rw [hxl2]; simp (disch := omega) only [ne_eq, true_and, and_true, false_and, and_false, true_or, or_true, false_or, or_false, not_true_eq_false, not_false_eq_true, forall_eq, exists_eq_left, exists_eq_left', exists_eq_right, true_implies, false_implies, implies_true, forall_const, Option.some.injEq, Value.int.injEq, Value.long.injEq, Value.ref.injEq, reduceCtorEq, exists_const, and_self, s_lit, s_m1, s_add, s_mul, s_sub, s_lt, s_le, s_eq, s_nm1, s_m1n, s_eqm1, s_cl, s_in, s_ltm1, s_div, s_rem, s_rem2, s_hsi, s_rsi, s_lsi, s_nsi, s_hsl, s_rsl, s_isl, s_nsl, xi_eq, xi_na, xi_nk, xl_eq, xl_na, xl_nk, s_k18, s_hfi, s_rfi, s_lfi, s_nfi, s_hfl, s_rfl, s_ifl, s_nfl, xf_in, xf_na, xf_nk, xg_in, xg_na, xg_nk]; exact y1, y2, ?_⟩
            rw [y3, ee, List.getD_eq_getElem?_getD, List.getD_eq_getElem?_getD, List.getElem?_append_left (by omega)]
        · simp (disch := omega) only [ne_eq, true_and, and_true, false_and, and_false, true_or, or_true, false_or, or_false, not_true_eq_false, not_false_eq_true, forall_eq, exists_eq_left, exists_eq_left', exists_eq_right, true_implies, false_implies, implies_true, forall_const, Option.some.injEq, Value.int.injEq, Value.long.injEq, Value.ref.injEq, reduceCtorEq, exists_const, and_self, s_lit, s_m1, s_add, s_mul, s_sub, s_lt, s_le, s_eq, s_nm1, s_m1n, s_eqm1, s_cl, s_in, s_ltm1, s_div, s_rem, s_rem2, s_hsi, s_rsi, s_lsi, s_nsi, s_hsl, s_rsl, s_isl, s_nsl, xi_eq, xi_na, xi_nk, xl_eq, xl_na, xl_nk, s_k18, s_hfi, s_rfi, s_lfi, s_nfi, s_hfl, s_rfl, s_ifl, s_nfl, xf_in, xf_na, xf_nk, xg_in, xg_na, xg_nk]; exact n3
        · simp (disch := omega) only [ne_eq, true_and, and_true, false_and, and_false, true_or, or_true, false_or, or_false, not_true_eq_false, not_false_eq_true, forall_eq, exists_eq_left, exists_eq_left', exists_eq_right, true_implies, false_implies, implies_true, forall_const, Option.some.injEq, Value.int.injEq, Value.long.injEq, Value.ref.injEq, reduceCtorEq, exists_const, and_self, s_lit, s_m1, s_add, s_mul, s_sub, s_lt, s_le, s_eq, s_nm1, s_m1n, s_eqm1, s_cl, s_in, s_ltm1, s_div, s_rem, s_rem2, s_hsi, s_rsi, s_lsi, s_nsi, s_hsl, s_rsl, s_isl, s_nsl, xi_eq, xi_na, xi_nk, xl_eq, xl_na, xl_nk, s_k18, s_hfi, s_rfi, s_lfi, s_nfi, s_hfl, s_rfl, s_ifl, s_nfl, xf_in, xf_na, xf_nk, xg_in, xg_na, xg_nk]; exact n4
        · intro q hq
          by_cases eq : q = i * f + j
          · subst eq; rw [xi_eq]
          · rw [xi_nk eq]; simp (disch := omega) only [ne_eq, true_and, and_true, false_and, and_false, true_or, or_true, false_or, or_false, not_true_eq_false, not_false_eq_true, forall_eq, exists_eq_left, exists_eq_left', exists_eq_right, true_implies, false_implies, implies_true, forall_const, Option.some.injEq, Value.int.injEq, Value.long.injEq, Value.ref.injEq, reduceCtorEq, exists_const, and_self, s_lit, s_m1, s_add, s_mul, s_sub, s_lt, s_le, s_eq, s_nm1, s_m1n, s_eqm1, s_cl, s_in, s_ltm1, s_div, s_rem, s_rem2, s_hsi, s_rsi, s_lsi, s_nsi, s_hsl, s_rsl, s_isl, s_nsl, xi_eq, xi_na, xi_nk, xl_eq, xl_na, xl_nk, s_k18, s_hfi, s_rfi, s_lfi, s_nfi, s_hfl, s_rfl, s_ifl, s_nfl, xf_in, xf_na, xf_nk, xg_in, xg_na, xg_nk]; exact n5 q (by omega)
        · rw [← Nat.add_assoc]
          intro t ht
          simp (disch := omega) only [ne_eq, true_and, and_true, false_and, and_false, true_or, or_true, false_or, or_false, not_true_eq_false, not_false_eq_true, forall_eq, exists_eq_left, exists_eq_left', exists_eq_right, true_implies, false_implies, implies_true, forall_const, Option.some.injEq, Value.int.injEq, Value.long.injEq, Value.ref.injEq, reduceCtorEq, exists_const, and_self, s_lit, s_m1, s_add, s_mul, s_sub, s_lt, s_le, s_eq, s_nm1, s_m1n, s_eqm1, s_cl, s_in, s_ltm1, s_div, s_rem, s_rem2, s_hsi, s_rsi, s_lsi, s_nsi, s_hsl, s_rsl, s_isl, s_nsl, xi_eq, xi_na, xi_nk, xl_eq, xl_na, xl_nk, s_k18, s_hfi, s_rfi, s_lfi, s_nfi, s_hfl, s_rfl, s_ifl, s_nfl, xf_in, xf_na, xf_nk, xg_in, xg_na, xg_nk]
          rw [n6 t ht, ee, List.getD_eq_getElem?_getD, List.getD_eq_getElem?_getD, List.getElem?_append_left (by omega)]
        · rw [← Nat.add_assoc]; exact hV1
  have outer : ∀ (k i : Nat), i + k = many → ∀ M', Fr M M' [o + 6, o + 7, p, pv, pk] → i ≤ (ex (cdl N lk cl) f (cl 0) (i * f)).length → NuI M' o p pv pk N f many (i * f) i lk mk cl → ∀ z z', c1 z = true → c1 z' = true → LX2_number_43 G (d + 2) 0 0 o p (nI many) (nI (ex (cdl N lk cl) f (cl 0) (i * f)).length) (nI i) z z' M' Q := by
    intro k
    induction k with
    | zero =>
      intro i hi M' hfr hil hn z z' hz hz'
      have e : i = many := by omega
      subst e
      have hn0 := hn
      obtain ⟨n1, n2, n3, n4, n5, n6, n7⟩ := hn
      have hl := hKl _ n7
      have el : (ex (cdl N lk cl) f (cl 0) (i * f)).length = i := by omega
      refine vX2_number_43 _ _ _ _ _ _ _ hz hz' ?_
      simp (disch := omega) only [ne_eq, true_and, and_true, false_and, and_false, true_or, or_true, false_or, or_false, not_true_eq_false, not_false_eq_true, forall_eq, exists_eq_left, exists_eq_left', exists_eq_right, true_implies, false_implies, implies_true, forall_const, Option.some.injEq, Value.int.injEq, Value.long.injEq, Value.ref.injEq, reduceCtorEq, exists_const, and_self, s_lit, s_m1, s_add, s_mul, s_sub, s_lt, s_le, s_eq, s_nm1, s_m1n, s_eqm1, s_cl, s_in, s_ltm1, s_div, s_rem, s_rem2, s_hsi, s_rsi, s_lsi, s_nsi, s_hsl, s_rsl, s_isl, s_nsl, xi_eq, xi_na, xi_nk, xl_eq, xl_na, xl_nk, s_k18, s_hfi, s_rfi, s_lfi, s_nfi, s_hfl, s_rfl, s_ifl, s_nfl, xf_in, xf_na, xf_nk, xg_in, xg_na, xg_nk, Nat.le_refl]
      have hcan := cls_can d10 d7 d4 hC hS (c := i * f) (by rw [el]) n7 (fun x hx => hN.2 x (hKc _ n7 x hx))
      rw [el] at hcan
      exact hQ M' _ _ hfr ⟨n3, n4, fun a ha g hg => n5 _ (by
        have : (a + 1) * f ≤ i * f := Nat.mul_le_mul_right f ha
        rw [Nat.succ_mul] at this
        omega), fun a ha => n6 a ha⟩ hcan
    | succ k ih =>
      intro i hi M' hfr hil hn z z' hz hz'
      have him : i < many := by omega
      have hn0 := hn
      obtain ⟨n1, n2, n3, n4, n5, n6, n7⟩ := hn
      have hl := hKl _ n7
      have hlt : i < (ex (cdl N lk cl) f (cl 0) (i * f)).length := by
        rcases Nat.lt_or_ge i (ex (cdl N lk cl) f (cl 0) (i * f)).length with c | c
        · exact c
        · exfalso
          have ee : (ex (cdl N lk cl) f (cl 0) (i * f)).length = i := by omega
          have hc0 : i * f = (ex (cdl N lk cl) f (cl 0) (i * f)).length * f := by rw [ee]
          have : many ≤ (ex (cdl N lk cl) f (cl 0) (i * f)).length := by
            refine onto_le (g := fun t => (ex (cdl N lk cl) f (cl 0) (i * f)).getD t 0) (fun y hy => ?_)
            obtain ⟨x, hx, e1⟩ := hN.2 y hy
            obtain ⟨w, hw, e2⟩ := hr x hx
            obtain ⟨g1, g2⟩ := ex_word d10 hc0 n7 w 0 hw (ex_pos _)
            refine ⟨_, g1, ?_⟩
            show List.getD _ _ _ = y
            rw [g2, ex_0, cdl_word d4 hS w 0 hw d7, e2, e1]
          omega
      obtain ⟨x, x1, x2, x3⟩ := n2 i hlt
      refine vX2_number_43 _ _ _ _ _ _ _ hz hz' ?_
      have e1 : ¬ many ≤ i := by omega
      have e2 : ¬ (ex (cdl N lk cl) f (cl 0) (i * f)).length ≤ i := by omega
      have e3 : x_i M' (o + 3) x = nI (mk x) := by rw [hfr4 hfr (o + 3) (by simp)]; exact d5 x x2
      simp (disch := omega) only [ne_eq, true_and, and_true, false_and, and_false, true_or, or_true, false_or, or_false, not_true_eq_false, not_false_eq_true, forall_eq, exists_eq_left, exists_eq_left', exists_eq_right, true_implies, false_implies, implies_true, forall_const, Option.some.injEq, Value.int.injEq, Value.long.injEq, Value.ref.injEq, reduceCtorEq, exists_const, and_self, s_lit, s_m1, s_add, s_mul, s_sub, s_lt, s_le, s_eq, s_nm1, s_m1n, s_eqm1, s_cl, s_in, s_ltm1, s_div, s_rem, s_rem2, s_hsi, s_rsi, s_lsi, s_nsi, s_hsl, s_rsl, s_isl, s_nsl, xi_eq, xi_na, xi_nk, xl_eq, xl_na, xl_nk, s_k18, s_hfi, s_rfi, s_lfi, s_nfi, s_hfl, s_rfl, s_ifl, s_nfl, xf_in, xf_na, xf_nk, xg_in, xg_na, xg_nk, hfr.h, hfr.r, s0, s1, s2, s3, s4, s5, s6, s7, t1, t2, t3, t4, t5, t6, t7, e1, e2, x1, e3, p1]
      refine Call.mono (k_putMark d (i := i) (hp0.eq hfr.h hfr.r) (by omega) _) ?_
      rintro r M1 ⟨rfl, rfl⟩
      refine ⟨rfl, ?_⟩
      refine inner i him (fun M2 g1 g2 g3 z z' hz hz' => ?_) f 0 (by omega) _ (hfr.si (by simp)) hlt ⟨?_, ?_, ?_, ?_, ?_, ?_, n7⟩ z' hz'
      · have e : i * f + f = (i + 1) * f := by rw [Nat.succ_mul]
        rw [e] at g2 g3 ⊢
        exact ih (i + 1) (by omega) M2 g1 g2 g3 z z' hz hz'
      · exact n1.to (by funext q; simp (disch := omega) only [ne_eq, true_and, and_true, false_and, and_false, true_or, or_true, false_or, or_false, not_true_eq_false, not_false_eq_true, forall_eq, exists_eq_left, exists_eq_left', exists_eq_right, true_implies, false_implies, implies_true, forall_const, Option.some.injEq, Value.int.injEq, Value.long.injEq, Value.ref.injEq, reduceCtorEq, exists_const, and_self, s_lit, s_m1, s_add, s_mul, s_sub, s_lt, s_le, s_eq, s_nm1, s_m1n, s_eqm1, s_cl, s_in, s_ltm1, s_div, s_rem, s_rem2, s_hsi, s_rsi, s_lsi, s_nsi, s_hsl, s_rsl, s_isl, s_nsl, xi_eq, xi_na, xi_nk, xl_eq, xl_na, xl_nk, s_k18, s_hfi, s_rfi, s_lfi, s_nfi, s_hfl, s_rfl, s_ifl, s_nfl, xf_in, xf_na, xf_nk, xg_in, xg_na, xg_nk])
      · simp (disch := omega) only [ne_eq, true_and, and_true, false_and, and_false, true_or, or_true, false_or, or_false, not_true_eq_false, not_false_eq_true, forall_eq, exists_eq_left, exists_eq_left', exists_eq_right, true_implies, false_implies, implies_true, forall_const, Option.some.injEq, Value.int.injEq, Value.long.injEq, Value.ref.injEq, reduceCtorEq, exists_const, and_self, s_lit, s_m1, s_add, s_mul, s_sub, s_lt, s_le, s_eq, s_nm1, s_m1n, s_eqm1, s_cl, s_in, s_ltm1, s_div, s_rem, s_rem2, s_hsi, s_rsi, s_lsi, s_nsi, s_hsl, s_rsl, s_isl, s_nsl, xi_eq, xi_na, xi_nk, xl_eq, xl_na, xl_nk, s_k18, s_hfi, s_rfi, s_lfi, s_nfi, s_hfl, s_rfl, s_ifl, s_nfl, xf_in, xf_na, xf_nk, xg_in, xg_na, xg_nk]; exact n2
      · simp (disch := omega) only [ne_eq, true_and, and_true, false_and, and_false, true_or, or_true, false_or, or_false, not_true_eq_false, not_false_eq_true, forall_eq, exists_eq_left, exists_eq_left', exists_eq_right, true_implies, false_implies, implies_true, forall_const, Option.some.injEq, Value.int.injEq, Value.long.injEq, Value.ref.injEq, reduceCtorEq, exists_const, and_self, s_lit, s_m1, s_add, s_mul, s_sub, s_lt, s_le, s_eq, s_nm1, s_m1n, s_eqm1, s_cl, s_in, s_ltm1, s_div, s_rem, s_rem2, s_hsi, s_rsi, s_lsi, s_nsi, s_hsl, s_rsl, s_isl, s_nsl, xi_eq, xi_na, xi_nk, xl_eq, xl_na, xl_nk, s_k18, s_hfi, s_rfi, s_lfi, s_nfi, s_hfl, s_rfl, s_ifl, s_nfl, xf_in, xf_na, xf_nk, xg_in, xg_na, xg_nk]; exact n3
      · simp (disch := omega) only [ne_eq, true_and, and_true, false_and, and_false, true_or, or_true, false_or, or_false, not_true_eq_false, not_false_eq_true, forall_eq, exists_eq_left, exists_eq_left', exists_eq_right, true_implies, false_implies, implies_true, forall_const, Option.some.injEq, Value.int.injEq, Value.long.injEq, Value.ref.injEq, reduceCtorEq, exists_const, and_self, s_lit, s_m1, s_add, s_mul, s_sub, s_lt, s_le, s_eq, s_nm1, s_m1n, s_eqm1, s_cl, s_in, s_ltm1, s_div, s_rem, s_rem2, s_hsi, s_rsi, s_lsi, s_nsi, s_hsl, s_rsl, s_isl, s_nsl, xi_eq, xi_na, xi_nk, xl_eq, xl_na, xl_nk, s_k18, s_hfi, s_rfi, s_lfi, s_nfi, s_hfl, s_rfl, s_ifl, s_nfl, xf_in, xf_na, xf_nk, xg_in, xg_na, xg_nk]; exact n4
      · simp (disch := omega) only [ne_eq, true_and, and_true, false_and, and_false, true_or, or_true, false_or, or_false, not_true_eq_false, not_false_eq_true, forall_eq, exists_eq_left, exists_eq_left', exists_eq_right, true_implies, false_implies, implies_true, forall_const, Option.some.injEq, Value.int.injEq, Value.long.injEq, Value.ref.injEq, reduceCtorEq, exists_const, and_self, s_lit, s_m1, s_add, s_mul, s_sub, s_lt, s_le, s_eq, s_nm1, s_m1n, s_eqm1, s_cl, s_in, s_ltm1, s_div, s_rem, s_rem2, s_hsi, s_rsi, s_lsi, s_nsi, s_hsl, s_rsl, s_isl, s_nsl, xi_eq, xi_na, xi_nk, xl_eq, xl_na, xl_nk, s_k18, s_hfi, s_rfi, s_lfi, s_nfi, s_hfl, s_rfl, s_ifl, s_nfl, xf_in, xf_na, xf_nk, xg_in, xg_na, xg_nk]; exact n5
      · intro t ht
        by_cases et : t = i
        · subst et
          rw [xi_eq, Nat.add_zero, ← x3, cmk_eq hC x2]
        · rw [xi_nk et]; exact n6 t (by omega)
  have hc0 := hcl 0 d7
  refine eX2_number o p _ ?_
  simp (disch := omega) only [ne_eq, true_and, and_true, false_and, and_false, true_or, or_true, false_or, or_false, not_true_eq_false, not_false_eq_true, forall_eq, exists_eq_left, exists_eq_left', exists_eq_right, true_implies, false_implies, implies_true, forall_const, Option.some.injEq, Value.int.injEq, Value.long.injEq, Value.ref.injEq, reduceCtorEq, exists_const, and_self, s_lit, s_m1, s_add, s_mul, s_sub, s_lt, s_le, s_eq, s_nm1, s_m1n, s_eqm1, s_cl, s_in, s_ltm1, s_div, s_rem, s_rem2, s_hsi, s_rsi, s_lsi, s_nsi, s_hsl, s_rsl, s_isl, s_nsl, xi_eq, xi_na, xi_nk, xl_eq, xl_na, xl_nk, s_k18, s_hfi, s_rfi, s_lfi, s_nfi, s_hfl, s_rfl, s_ifl, s_nfl, xf_in, xf_na, xf_nk, xg_in, xg_na, xg_nk, s0, s1, s2, s3, s4, s5, s6, s7, t1, t2, t3, t4, t5, t6, t7]
  refine w_fill3 _ (n := 3600) (by simp (disch := omega) only [ne_eq, true_and, and_true, false_and, and_false, true_or, or_true, false_or, or_false, not_true_eq_false, not_false_eq_true, forall_eq, exists_eq_left, exists_eq_left', exists_eq_right, true_implies, false_implies, implies_true, forall_const, Option.some.injEq, Value.int.injEq, Value.long.injEq, Value.ref.injEq, reduceCtorEq, exists_const, and_self, s_lit, s_m1, s_add, s_mul, s_sub, s_lt, s_le, s_eq, s_nm1, s_m1n, s_eqm1, s_cl, s_in, s_ltm1, s_div, s_rem, s_rem2, s_hsi, s_rsi, s_lsi, s_nsi, s_hsl, s_rsl, s_isl, s_nsl, xi_eq, xi_na, xi_nk, xl_eq, xl_na, xl_nk, s_k18, s_hfi, s_rfi, s_lfi, s_nfi, s_hfl, s_rfl, s_ifl, s_nfl, xf_in, xf_na, xf_nk, xg_in, xg_na, xg_nk, s0, s1, s2, s3, s4, s5, s6, s7, t1, t2, t3, t4, t5, t6, t7]) (by omega) (by omega) (by omega) ?_
  simp (disch := omega) only [ne_eq, true_and, and_true, false_and, and_false, true_or, or_true, false_or, or_false, not_true_eq_false, not_false_eq_true, forall_eq, exists_eq_left, exists_eq_left', exists_eq_right, true_implies, false_implies, implies_true, forall_const, Option.some.injEq, Value.int.injEq, Value.long.injEq, Value.ref.injEq, reduceCtorEq, exists_const, and_self, s_lit, s_m1, s_add, s_mul, s_sub, s_lt, s_le, s_eq, s_nm1, s_m1n, s_eqm1, s_cl, s_in, s_ltm1, s_div, s_rem, s_rem2, s_hsi, s_rsi, s_lsi, s_nsi, s_hsl, s_rsl, s_isl, s_nsl, xi_eq, xi_na, xi_nk, xl_eq, xl_na, xl_nk, s_k18, s_hfi, s_rfi, s_lfi, s_nfi, s_hfl, s_rfl, s_ifl, s_nfl, xf_in, xf_na, xf_nk, xg_in, xg_na, xg_nk, s0, s1, s2, s3, s4, s5, s6, s7, t1, t2, t3, t4, t5, t6, t7, hc0.1, p1, d1]
  have hmk : 0 < many := by omega
  have := hc0.2
  refine Call.mono (k_size (n := many) (f := f) d (M := x_si (x_si (x_fi M (o + 7) 0 many (-nI 1)) (o + 7) (cl 0) (nI 0)) (o + 6) 0 (nI 0)) (hp0.eq rfl rfl) hmn) ?_
  rintro r M1 ⟨rfl, rfl⟩
  refine ⟨rfl, ?_⟩
  have hout := outer many 0 (by omega) _ (((((Fr.rf.fi (a := o + 7) (lo := 0) (hi := many) (v := -nI 1) (by simp)).si (a := o + 7) (k := cl 0) (v := nI 0) (by simp)).si (a := o + 6) (k := 0) (v := nI 0) (by simp)).si (a := p) (k := 2) (v := nI many) (by simp)).si (a := p) (k := 3) (v := nI f) (by simp)) (Nat.zero_le _) ⟨?_, ?_, ?_, ?_, ?_, ?_, ?_⟩ none none rfl rfl
  · rw [Nat.zero_mul] at hout
    exact hout
  · rw [Nat.zero_mul]
    intro y hy
    show _ = if y ∈ [cl 0] then nI ([cl 0].idxOf y) else -1
    by_cases ey : y = cl 0
    · subst ey
      simp (disch := omega) only [ne_eq, true_and, and_true, false_and, and_false, true_or, or_true, false_or, or_false, not_true_eq_false, not_false_eq_true, forall_eq, exists_eq_left, exists_eq_left', exists_eq_right, true_implies, false_implies, implies_true, forall_const, Option.some.injEq, Value.int.injEq, Value.long.injEq, Value.ref.injEq, reduceCtorEq, exists_const, and_self, s_lit, s_m1, s_add, s_mul, s_sub, s_lt, s_le, s_eq, s_nm1, s_m1n, s_eqm1, s_cl, s_in, s_ltm1, s_div, s_rem, s_rem2, s_hsi, s_rsi, s_lsi, s_nsi, s_hsl, s_rsl, s_isl, s_nsl, xi_eq, xi_na, xi_nk, xl_eq, xl_na, xl_nk, s_k18, s_hfi, s_rfi, s_lfi, s_nfi, s_hfl, s_rfl, s_ifl, s_nfl, xf_in, xf_na, xf_nk, xg_in, xg_na, xg_nk]
      simp
    · rw [if_neg (by simpa using ey)]
      simp (disch := omega) only [ne_eq, true_and, and_true, false_and, and_false, true_or, or_true, false_or, or_false, not_true_eq_false, not_false_eq_true, forall_eq, exists_eq_left, exists_eq_left', exists_eq_right, true_implies, false_implies, implies_true, forall_const, Option.some.injEq, Value.int.injEq, Value.long.injEq, Value.ref.injEq, reduceCtorEq, exists_const, and_self, s_lit, s_m1, s_add, s_mul, s_sub, s_lt, s_le, s_eq, s_nm1, s_m1n, s_eqm1, s_cl, s_in, s_ltm1, s_div, s_rem, s_rem2, s_hsi, s_rsi, s_lsi, s_nsi, s_hsl, s_rsl, s_isl, s_nsl, xi_eq, xi_na, xi_nk, xl_eq, xl_na, xl_nk, s_k18, s_hfi, s_rfi, s_lfi, s_nfi, s_hfl, s_rfl, s_ifl, s_nfl, xf_in, xf_na, xf_nk, xg_in, xg_na, xg_nk, Nat.zero_le]
  · rw [Nat.zero_mul]
    intro t ht
    have : t = 0 := by have : t < 1 := ht; omega
    subst this
    exact ⟨0, by simp (disch := omega) only [ne_eq, true_and, and_true, false_and, and_false, true_or, or_true, false_or, or_false, not_true_eq_false, not_false_eq_true, forall_eq, exists_eq_left, exists_eq_left', exists_eq_right, true_implies, false_implies, implies_true, forall_const, Option.some.injEq, Value.int.injEq, Value.long.injEq, Value.ref.injEq, reduceCtorEq, exists_const, and_self, s_lit, s_m1, s_add, s_mul, s_sub, s_lt, s_le, s_eq, s_nm1, s_m1n, s_eqm1, s_cl, s_in, s_ltm1, s_div, s_rem, s_rem2, s_hsi, s_rsi, s_lsi, s_nsi, s_hsl, s_rsl, s_isl, s_nsl, xi_eq, xi_na, xi_nk, xl_eq, xl_na, xl_nk, s_k18, s_hfi, s_rfi, s_lfi, s_nfi, s_hfl, s_rfl, s_ifl, s_nfl, xf_in, xf_na, xf_nk, xg_in, xg_na, xg_nk], d7, rfl⟩
  · simp (disch := omega) only [ne_eq, true_and, and_true, false_and, and_false, true_or, or_true, false_or, or_false, not_true_eq_false, not_false_eq_true, forall_eq, exists_eq_left, exists_eq_left', exists_eq_right, true_implies, false_implies, implies_true, forall_const, Option.some.injEq, Value.int.injEq, Value.long.injEq, Value.ref.injEq, reduceCtorEq, exists_const, and_self, s_lit, s_m1, s_add, s_mul, s_sub, s_lt, s_le, s_eq, s_nm1, s_m1n, s_eqm1, s_cl, s_in, s_ltm1, s_div, s_rem, s_rem2, s_hsi, s_rsi, s_lsi, s_nsi, s_hsl, s_rsl, s_isl, s_nsl, xi_eq, xi_na, xi_nk, xl_eq, xl_na, xl_nk, s_k18, s_hfi, s_rfi, s_lfi, s_nfi, s_hfl, s_rfl, s_ifl, s_nfl, xf_in, xf_na, xf_nk, xg_in, xg_na, xg_nk]
  · simp (disch := omega) only [ne_eq, true_and, and_true, false_and, and_false, true_or, or_true, false_or, or_false, not_true_eq_false, not_false_eq_true, forall_eq, exists_eq_left, exists_eq_left', exists_eq_right, true_implies, false_implies, implies_true, forall_const, Option.some.injEq, Value.int.injEq, Value.long.injEq, Value.ref.injEq, reduceCtorEq, exists_const, and_self, s_lit, s_m1, s_add, s_mul, s_sub, s_lt, s_le, s_eq, s_nm1, s_m1n, s_eqm1, s_cl, s_in, s_ltm1, s_div, s_rem, s_rem2, s_hsi, s_rsi, s_lsi, s_nsi, s_hsl, s_rsl, s_isl, s_nsl, xi_eq, xi_na, xi_nk, xl_eq, xl_na, xl_nk, s_k18, s_hfi, s_rfi, s_lfi, s_nfi, s_hfl, s_rfl, s_ifl, s_nfl, xf_in, xf_na, xf_nk, xg_in, xg_na, xg_nk]
  · rw [Nat.zero_mul]
    exact fun q hq => absurd hq (Nat.not_lt_zero q)
  · exact fun q hq => absurd hq (Nat.not_lt_zero q)
  · rw [Nat.zero_mul]
    exact fun q hq => absurd hq (Nat.not_lt_zero q)
end NumberC
