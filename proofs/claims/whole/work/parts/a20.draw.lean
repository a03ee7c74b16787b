/-! ===== Loom: draw ===== -/
section DrawC
variable {G : GG} {M : Mem} {o N f p pv pk pm pn most : Nat} {lk : Nat → Nat → Nat} {mk : Nat → Nat} {Q : Option Value → Mem → Prop}
theorem w_draw (d : Nat) (hs : LoS M o) (h : LoR M o N f lk mk) (hp : LeS M p pv pk pm pn) (hpd : ∀ q ∈ [p, pv, pk], q < o ∨ o + 7 < q) (hm : most ≤ 60) (hmn : most ≤ pn) (hmm : most * f ≤ pm) (hr : ∀ i, i < N → ∃ w, wd f w ∧ rn lk 0 w = i)
    (hQ1 : ∀ M' n st mr, Fr M M' [o + 5, o + 6, o + 7, p, pv, pk] → n ≤ most → LeI M' p pv pk n f st mr → Can f n st mr (fun w => mk (rn lk 0 w)) → Q (some (.int (nI 1))) M')
    (hQ0 : ∀ M', Fr M M' [o + 5, o + 6, o + 7, p, pv, pk] → (∀ n st mr, Can f n st mr (fun w => mk (rn lk 0 w)) → most < n) → most < N → Q (some (.int (nI 0))) M') : Call G (d + 4) 0 0 mX2_draw [.ref o, .ref p, .int (nI most)] M Q := by
  have hs0 := hs
  have h0 := h
  have hp0 := hp
  obtain ⟨s0, s1, s2, s3, s4, s5, s6, s7, t1, t2, t3, t4, t5, t6, t7⟩ := hs
  obtain ⟨d1, d2, d3, d4, d5, d6, d7, d8, d9, d10, d11⟩ := h
  have q1 := hpd p (by simp)
  have q2 := hpd pv (by simp)
  have q3 := hpd pk (by simp)
  have hloR : ∀ {M'}, Fr M M' [o + 5, o + 6, o + 7] → LoR M' o N f lk mk := fun hfr => h0.fr hfr (by simp) (by simp) (by simp)
  -- a machine of at most so many states
  have fin : ∀ (many : Nat) (cl : Nat → Nat) (M' : Mem), Fr M M' [o + 5, o + 6, o + 7] → (∀ j, j < N → x_i M' (o + 5) j = nI (cl j)) → Cls f N lk mk cl → Num N many cl → (∀ g, g < f → Stb N lk cl g) → many ≤ most → Call G (d + 3) 0 0 mX2_number [.ref o, .ref p, .int (nI many)] M' (fun r M1 => r = none ∧ Q (some (.int 1)) M1) := by
    intro many cl M' hfr hc hC hN hS hle
    refine w_number d (hs0.fr hfr) (hloR hfr) (hp0.eq hfr.h hfr.r) hpd (by omega) (by omega) (Nat.le_trans (Nat.mul_le_mul_right f hle) hmm) (fun j hj => ⟨hc j hj, hN.1 j hj⟩) hC hS hN hr (fun M1 st mr g1 g2 g3 => ⟨rfl, ?_⟩)
    exact hQ1 M1 many st mr ((hfr.wk (by simp)).tr g1 (by simp)) hle g2 g3
  have key : ∀ (m : Nat) (many quiet digits turn : Nat) (cl : Nat → Nat) (z : Option Value) (M' : Mem), (61 - many) * (f + 1) + (f - quiet) ≤ m → turn + m ≤ 2000 → c1 z = true → many ≤ 3600 → quiet ≤ f → digits < f → Fr M M' [o + 5, o + 6, o + 7] → (∀ j, j < N → x_i M' (o + 5) j = nI (cl j)) → Cls f N lk mk cl → Num N many cl → (∀ g, g < f → (g < digits ∧ digits - g ≤ quiet) ∨ (digits ≤ g ∧ digits + f - g ≤ quiet) → Stb N lk cl g) → LX2_draw_14 G (d + 3) 0 0 o p (nI most) (nI many) (nI quiet) (nI digits) (nI turn) z M' Q := by
    intro m
    induction m using Nat.strongRecOn with
    | ind m ih =>
      intro many quiet digits turn cl z M' hm1 hm2 hz hmy hqf hdf hfr hc hC hN hS
      have hm0 : 0 < many := by have := hN.1 0 d7; omega
      have e8 : x_i M' o 8 = nI f := (hloR hfr).1
      refine vX2_draw_14 _ _ _ _ _ _ _ _ hz ?_
      have e1 : ¬ 1000000 ≤ turn := by omega
      have e2 : ¬ many < 1 := by omega
      by_cases c1 : f ≤ quiet
      · by_cases c2 : many ≤ most
        · simp (disch := omega) only [ne_eq, true_and, and_true, false_and, and_false, true_or, or_true, false_or, or_false, not_true_eq_false, not_false_eq_true, forall_eq, exists_eq_left, exists_eq_left', exists_eq_right, true_implies, false_implies, implies_true, forall_const, Option.some.injEq, Value.int.injEq, Value.long.injEq, Value.ref.injEq, reduceCtorEq, exists_const, and_self, s_lit, s_m1, s_add, s_mul, s_sub, s_lt, s_le, s_eq, s_nm1, s_m1n, s_eqm1, s_cl, s_in, s_ltm1, s_div, s_rem, s_rem2, s_hsi, s_rsi, s_lsi, s_nsi, s_hsl, s_rsl, s_isl, s_nsl, xi_eq, xi_na, xi_nk, xl_eq, xl_na, xl_nk, s_k18, s_hfi, s_rfi, s_lfi, s_nfi, s_hfl, s_rfl, s_ifl, s_nfl, xf_in, xf_na, xf_nk, xg_in, xg_na, xg_nk, hfr.h, hfr.r, s0, s1, s2, s3, s4, s5, s6, s7, t1, t2, t3, t4, t5, t6, t7, e8, e1, c1, e2, c2]
          exact fin many cl M' hfr hc hC hN (fun g hg => hS g hg (by omega)) c2
        · simp (disch := omega) only [ne_eq, true_and, and_true, false_and, and_false, true_or, or_true, false_or, or_false, not_true_eq_false, not_false_eq_true, forall_eq, exists_eq_left, exists_eq_left', exists_eq_right, true_implies, false_implies, implies_true, forall_const, Option.some.injEq, Value.int.injEq, Value.long.injEq, Value.ref.injEq, reduceCtorEq, exists_const, and_self, s_lit, s_m1, s_add, s_mul, s_sub, s_lt, s_le, s_eq, s_nm1, s_m1n, s_eqm1, s_cl, s_in, s_ltm1, s_div, s_rem, s_rem2, s_hsi, s_rsi, s_lsi, s_nsi, s_hsl, s_rsl, s_isl, s_nsl, xi_eq, xi_na, xi_nk, xl_eq, xl_na, xl_nk, s_k18, s_hfi, s_rfi, s_lfi, s_nfi, s_hfl, s_rfl, s_ifl, s_nfl, xf_in, xf_na, xf_nk, xg_in, xg_na, xg_nk, hfr.h, hfr.r, s0, s1, s2, s3, s4, s5, s6, s7, t1, t2, t3, t4, t5, t6, t7, e8, e1, c1, e2, c2]
          exact hQ0 M' (hfr.wk (by simp)) (fun n st mr hcan => by have := can_many hcan hC hN hr; omega) (by have := onto_le hN.2; omega)
      · by_cases c2 : most < many
        · have c3 : ¬ many ≤ most := by omega
          simp (disch := omega) only [ne_eq, true_and, and_true, false_and, and_false, true_or, or_true, false_or, or_false, not_true_eq_false, not_false_eq_true, forall_eq, exists_eq_left, exists_eq_left', exists_eq_right, true_implies, false_implies, implies_true, forall_const, Option.some.injEq, Value.int.injEq, Value.long.injEq, Value.ref.injEq, reduceCtorEq, exists_const, and_self, s_lit, s_m1, s_add, s_mul, s_sub, s_lt, s_le, s_eq, s_nm1, s_m1n, s_eqm1, s_cl, s_in, s_ltm1, s_div, s_rem, s_rem2, s_hsi, s_rsi, s_lsi, s_nsi, s_hsl, s_rsl, s_isl, s_nsl, xi_eq, xi_na, xi_nk, xl_eq, xl_na, xl_nk, s_k18, s_hfi, s_rfi, s_lfi, s_nfi, s_hfl, s_rfl, s_ifl, s_nfl, xf_in, xf_na, xf_nk, xg_in, xg_na, xg_nk, hfr.h, hfr.r, s0, s1, s2, s3, s4, s5, s6, s7, t1, t2, t3, t4, t5, t6, t7, e8, e1, c1, e2, c2, c3]
          exact hQ0 M' (hfr.wk (by simp)) (fun n st mr hcan => by have := can_many hcan hC hN hr; omega) (by have := onto_le hN.2; omega)
        · simp (disch := omega) only [ne_eq, true_and, and_true, false_and, and_false, true_or, or_true, false_or, or_false, not_true_eq_false, not_false_eq_true, forall_eq, exists_eq_left, exists_eq_left', exists_eq_right, true_implies, false_implies, implies_true, forall_const, Option.some.injEq, Value.int.injEq, Value.long.injEq, Value.ref.injEq, reduceCtorEq, exists_const, and_self, s_lit, s_m1, s_add, s_mul, s_sub, s_lt, s_le, s_eq, s_nm1, s_m1n, s_eqm1, s_cl, s_in, s_ltm1, s_div, s_rem, s_rem2, s_hsi, s_rsi, s_lsi, s_nsi, s_hsl, s_rsl, s_isl, s_nsl, xi_eq, xi_na, xi_nk, xl_eq, xl_na, xl_nk, s_k18, s_hfi, s_rfi, s_lfi, s_nfi, s_hfl, s_rfl, s_ifl, s_nfl, xf_in, xf_na, xf_nk, xg_in, xg_na, xg_nk, hfr.h, hfr.r, s0, s1, s2, s3, s4, s5, s6, s7, t1, t2, t3, t4, t5, t6, t7, e8, e1, c1, e2, c2]
          have hmany : many ≤ 60 := by omega
          refine w_splitByLinks d (hs0.fr hfr) (hloR hfr) hdf hmany (fun j hj => ⟨hc j hj, hN.1 j hj⟩) (fun M1 g1 g2 => ?_)
          have hfr1 : Fr M M1 [o + 5, o + 6, o + 7] := hfr.tr g1 (by simp)
          generalize hky : (fun j => cl j * many + cl (lk j digits)) = ky at g2 ⊢
          have hkl := kin_le (key := ky) N
          have hN' : Num N (kin ky N).length (fun j => (kin ky N).idxOf (ky j)) := kin_num
          have hsp : ∀ i j, i < N → j < N → ((fun j => (kin ky N).idxOf (ky j)) i = (fun j => (kin ky N).idxOf (ky j)) j ↔ cl i = cl j ∧ cl (lk i digits) = cl (lk j digits)) := fun i j hi hj => by
            show (kin ky N).idxOf (ky i) = (kin ky N).idxOf (ky j) ↔ _
            rw [kin_eq hi hj, ← hky]
            show cl i * many + cl (lk i digits) = cl j * many + cl (lk j digits) ↔ _
            have a1 := hN.1 _ (d4 i hi digits hdf)
            have a2 := hN.1 _ (d4 j hj digits hdf)
            refine ⟨fun e => ?_, fun e => by rw [e.1, e.2]⟩
            have b1 : (cl i * many + cl (lk i digits)) / many = cl i := by rw [Nat.mul_comm, Nat.mul_add_div hm0, Nat.div_eq_of_lt a1]; rfl
            have b2 : (cl j * many + cl (lk j digits)) / many = cl j := by rw [Nat.mul_comm, Nat.mul_add_div hm0, Nat.div_eq_of_lt a2]; rfl
            have b3 : cl i = cl j := by rw [← b1, e, b2]
            refine ⟨b3, ?_⟩
            rw [b3] at e
            omega
          have hC' : Cls f N lk mk (fun j => (kin ky N).idxOf (ky j)) := hC.split (S := fun t => t = digits) (fun t ht => ht ▸ hdf) d4 (fun i j hi hj => (hsp i j hi hj).trans ⟨fun e => ⟨e.1, fun t ht => ht ▸ e.2⟩, fun e => ⟨e.1, e.2 _ rfl⟩⟩)
          have hfine := hN.fine hN' (fun i j hi hj e => ((hsp i j hi hj).mp e).1)
          have hc' : ∀ j, j < N → x_i M1 (o + 5) j = nI ((fun j => (kin ky N).idxOf (ky j)) j) := fun j hj => by
            rw [g2 j hj, ← hky]
          have e81 : x_i M1 o 8 = nI f := (hloR hfr1).1
          have s01 : (x_h M1 o).1 = 18 := by rw [hfr1.h]; exact s0
          by_cases c3 : (kin ky N).length = many
          · have hsame := hfine.2 c3
            have hmul : (61 - many) * (f + 1) = (61 - many) * (f + 1) := rfl
            by_cases c4 : f ≤ digits + 1
            · simp (disch := omega) only [ne_eq, true_and, and_true, false_and, and_false, true_or, or_true, false_or, or_false, not_true_eq_false, not_false_eq_true, forall_eq, exists_eq_left, exists_eq_left', exists_eq_right, true_implies, false_implies, implies_true, forall_const, Option.some.injEq, Value.int.injEq, Value.long.injEq, Value.ref.injEq, reduceCtorEq, exists_const, and_self, s_lit, s_m1, s_add, s_mul, s_sub, s_lt, s_le, s_eq, s_nm1, s_m1n, s_eqm1, s_cl, s_in, s_ltm1, s_div, s_rem, s_rem2, s_hsi, s_rsi, s_lsi, s_nsi, s_hsl, s_rsl, s_isl, s_nsl, xi_eq, xi_na, xi_nk, xl_eq, xl_na, xl_nk, s_k18, s_hfi, s_rfi, s_lfi, s_nfi, s_hfl, s_rfl, s_ifl, s_nfl, xf_in, xf_na, xf_nk, xg_in, xg_na, xg_nk, s01, e81, c3, c4]
              refine ih (m - 1) (by omega) many (quiet + 1) 0 (turn + 1) (fun j => (kin ky N).idxOf (ky j)) _ M1 (by omega) (by omega) rfl hmy (by omega) (by omega) hfr1 hc' hC' (c3 ▸ hN') (fun g hg hq i j hi hj e => ?_)
              have hij := (hsp i j hi hj).mp e
              refine hsame _ _ (d4 i hi g hg) (d4 j hj g hg) ?_
              by_cases cg : g = digits
              · rw [cg]; exact hij.2
              · exact hS g hg (by omega) i j hi hj hij.1
            · simp (disch := omega) only [ne_eq, true_and, and_true, false_and, and_false, true_or, or_true, false_or, or_false, not_true_eq_false, not_false_eq_true, forall_eq, exists_eq_left, exists_eq_left', exists_eq_right, true_implies, false_implies, implies_true, forall_const, Option.some.injEq, Value.int.injEq, Value.long.injEq, Value.ref.injEq, reduceCtorEq, exists_const, and_self, s_lit, s_m1, s_add, s_mul, s_sub, s_lt, s_le, s_eq, s_nm1, s_m1n, s_eqm1, s_cl, s_in, s_ltm1, s_div, s_rem, s_rem2, s_hsi, s_rsi, s_lsi, s_nsi, s_hsl, s_rsl, s_isl, s_nsl, xi_eq, xi_na, xi_nk, xl_eq, xl_na, xl_nk, s_k18, s_hfi, s_rfi, s_lfi, s_nfi, s_hfl, s_rfl, s_ifl, s_nfl, xf_in, xf_na, xf_nk, xg_in, xg_na, xg_nk, s01, e81, c3, c4]
              refine ih (m - 1) (by omega) many (quiet + 1) (digits + 1) (turn + 1) (fun j => (kin ky N).idxOf (ky j)) _ M1 (by omega) (by omega) rfl hmy (by omega) (by omega) hfr1 hc' hC' (c3 ▸ hN') (fun g hg hq i j hi hj e => ?_)
              have hij := (hsp i j hi hj).mp e
              refine hsame _ _ (d4 i hi g hg) (d4 j hj g hg) ?_
              by_cases cg : g = digits
              · rw [cg]; exact hij.2
              · exact hS g hg (by omega) i j hi hj hij.1
          · have hgt : many + 1 ≤ (kin ky N).length := by have := hfine.1; omega
            have hmul : (61 - (kin ky N).length) * (f + 1) + (f + 1) ≤ (61 - many) * (f + 1) := by
              have h1 : 61 - (kin ky N).length + 1 ≤ 61 - many := by omega
              have h2 : (61 - (kin ky N).length + 1) * (f + 1) ≤ (61 - many) * (f + 1) := Nat.mul_le_mul_right (f + 1) h1
              rw [Nat.succ_mul] at h2
              exact h2
            by_cases c4 : f ≤ digits + 1
            · simp (disch := omega) only [ne_eq, true_and, and_true, false_and, and_false, true_or, or_true, false_or, or_false, not_true_eq_false, not_false_eq_true, forall_eq, exists_eq_left, exists_eq_left', exists_eq_right, true_implies, false_implies, implies_true, forall_const, Option.some.injEq, Value.int.injEq, Value.long.injEq, Value.ref.injEq, reduceCtorEq, exists_const, and_self, s_lit, s_m1, s_add, s_mul, s_sub, s_lt, s_le, s_eq, s_nm1, s_m1n, s_eqm1, s_cl, s_in, s_ltm1, s_div, s_rem, s_rem2, s_hsi, s_rsi, s_lsi, s_nsi, s_hsl, s_rsl, s_isl, s_nsl, xi_eq, xi_na, xi_nk, xl_eq, xl_na, xl_nk, s_k18, s_hfi, s_rfi, s_lfi, s_nfi, s_hfl, s_rfl, s_ifl, s_nfl, xf_in, xf_na, xf_nk, xg_in, xg_na, xg_nk, s01, e81, c3, c4]
              exact ih (m - 1) (by omega) (kin ky N).length 0 0 (turn + 1) (fun j => (kin ky N).idxOf (ky j)) _ M1 (by omega) (by omega) rfl (by omega) (by omega) (by omega) hfr1 hc' hC' hN' (fun g hg hq => absurd hq (by omega))
            · simp (disch := omega) only [ne_eq, true_and, and_true, false_and, and_false, true_or, or_true, false_or, or_false, not_true_eq_false, not_false_eq_true, forall_eq, exists_eq_left, exists_eq_left', exists_eq_right, true_implies, false_implies, implies_true, forall_const, Option.some.injEq, Value.int.injEq, Value.long.injEq, Value.ref.injEq, reduceCtorEq, exists_const, and_self, s_lit, s_m1, s_add, s_mul, s_sub, s_lt, s_le, s_eq, s_nm1, s_m1n, s_eqm1, s_cl, s_in, s_ltm1, s_div, s_rem, s_rem2, s_hsi, s_rsi, s_lsi, s_nsi, s_hsl, s_rsl, s_isl, s_nsl, xi_eq, xi_na, xi_nk, xl_eq, xl_na, xl_nk, s_k18, s_hfi, s_rfi, s_lfi, s_nfi, s_hfl, s_rfl, s_ifl, s_nfl, xf_in, xf_na, xf_nk, xg_in, xg_na, xg_nk, s01, e81, c3, c4]
              exact ih (m - 1) (by omega) (kin ky N).length 0 (digits + 1) (turn + 1) (fun j => (kin ky N).idxOf (ky j)) _ M1 (by omega) (by omega) rfl (by omega) (by omega) (by omega) hfr1 hc' hC' hN' (fun g hg hq => absurd hq (by omega))
  have hkl := kin_le (key := mk) N
  refine eX2_draw o p _ ?_
  simp (disch := omega) only [ne_eq, true_and, and_true, false_and, and_false, true_or, or_true, false_or, or_false, not_true_eq_false, not_false_eq_true, forall_eq, exists_eq_left, exists_eq_left', exists_eq_right, true_implies, false_implies, implies_true, forall_const, Option.some.injEq, Value.int.injEq, Value.long.injEq, Value.ref.injEq, reduceCtorEq, exists_const, and_self, s_lit, s_m1, s_add, s_mul, s_sub, s_lt, s_le, s_eq, s_nm1, s_m1n, s_eqm1, s_cl, s_in, s_ltm1, s_div, s_rem, s_rem2, s_hsi, s_rsi, s_lsi, s_nsi, s_hsl, s_rsl, s_isl, s_nsl, xi_eq, xi_na, xi_nk, xl_eq, xl_na, xl_nk, s_k18, s_hfi, s_rfi, s_lfi, s_nfi, s_hfl, s_rfl, s_ifl, s_nfl, xf_in, xf_na, xf_nk, xg_in, xg_na, xg_nk, s0, s1, s2, s3, s4, s5, s6, s7, t1, t2, t3, t4, t5, t6, t7]
  refine w_splitByMarks d hs0 h0 (fun M1 g1 g2 => ?_)
  simp (disch := omega) only [ne_eq, true_and, and_true, false_and, and_false, true_or, or_true, false_or, or_false, not_true_eq_false, not_false_eq_true, forall_eq, exists_eq_left, exists_eq_left', exists_eq_right, true_implies, false_implies, implies_true, forall_const, Option.some.injEq, Value.int.injEq, Value.long.injEq, Value.ref.injEq, reduceCtorEq, exists_const, and_self, s_lit, s_m1, s_add, s_mul, s_sub, s_lt, s_le, s_eq, s_nm1, s_m1n, s_eqm1, s_cl, s_in, s_ltm1, s_div, s_rem, s_rem2, s_hsi, s_rsi, s_lsi, s_nsi, s_hsl, s_rsl, s_isl, s_nsl, xi_eq, xi_na, xi_nk, xl_eq, xl_na, xl_nk, s_k18, s_hfi, s_rfi, s_lfi, s_nfi, s_hfl, s_rfl, s_ifl, s_nfl, xf_in, xf_na, xf_nk, xg_in, xg_na, xg_nk]
  refine key ((61 - (kin mk N).length) * (f + 1) + f) _ 0 0 0 (fun j => (kin mk N).idxOf (mk j)) none M1 (by omega) ?_ rfl (by omega) (by omega) (by omega) (g1.wk (by simp)) g2 ?_ kin_num (fun g hg hq => absurd hq (by omega))
  · have : (61 - (kin mk N).length) * (f + 1) ≤ 61 * 28 := Nat.mul_le_mul (by omega) (by omega)
    omega
  · refine ⟨fun i j hi hj e => ?_, fun i j hi hj e => (kin_eq hi hj).mp e⟩
    exact (kin_eq hi hj).mpr (e [] wd_nil)
end DrawC
