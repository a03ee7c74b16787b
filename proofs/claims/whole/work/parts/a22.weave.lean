/-! ===== Weaver: machines, grown rows, rings ===== -/
section WeaveC
/-- the object w of Weaver: its Loom at w + 1, its Leasts at w + 9 and w + 12, its rows behind -/
def WeS (M : Mem) (w : Nat) : Prop := (x_h M w).1 = 26 ∧ LoS M (w + 1) ∧ LeS M (w + 9) (w + 10) (w + 11) 360 40 ∧ LeS M (w + 12) (w + 13) (w + 14) 360 40 ∧ x_r M w 0 = some (w + 1) ∧ x_r M w 1 = some (w + 9) ∧ x_r M w 2 = some (w + 12) ∧ x_r M w 3 = some (w + 15) ∧ x_r M w 4 = some (w + 16) ∧ x_r M w 5 = some (w + 17) ∧ x_r M w 6 = some (w + 18) ∧ x_r M w 7 = some (w + 19) ∧ x_r M w 8 = some (w + 20) ∧ x_r M w 9 = some (w + 21) ∧ x_h M (w + 15) = (1, 27) ∧ x_h M (w + 16) = (1, 27) ∧ x_h M (w + 17) = (1, 8) ∧ x_h M (w + 18) = (1, 4) ∧ x_h M (w + 19) = (2, 300) ∧ x_h M (w + 20) = (1, 1024) ∧ x_h M (w + 21) = (2, 27)
theorem WeS.eq {M M' : Mem} {w : Nat} (h : WeS M w) (h1 : x_h M' = x_h M) (h2 : x_r M' = x_r M) : WeS M' w := by
  unfold WeS LoS LeS
  rw [h1, h2]
  exact h
theorem WeS.fr {M M' : Mem} {w : Nat} {A : List Nat} (h : WeS M w) (f : Fr M M' A) : WeS M' w := h.eq f.h f.r
variable {G : GG} {M : Mem} {w p pv pk pm pn n b : Nat} {Q : Option Value → Mem → Prop}
theorem w_at (d : Nat) {a i k : Nat} (hh : x_h M a = (1, k)) (hi : i < k) (hk : k < 2 ^ 31) (hQ : Q (some (.int (x_i M a i))) M) : Call G (d + 2) 0 0 mX10_at [.ref a, .int (nI i)] M Q := by
  refine eX10_at a (nI i) ?_
  simp (disch := omega) only [ne_eq, true_and, and_true, false_and, and_false, true_or, or_true, false_or, or_false, not_true_eq_false, not_false_eq_true, forall_eq, exists_eq_left, exists_eq_left', exists_eq_right, true_implies, false_implies, implies_true, forall_const, Option.some.injEq, Value.int.injEq, Value.long.injEq, Value.ref.injEq, reduceCtorEq, exists_const, and_self, s_lit, s_m1, s_add, s_mul, s_sub, s_lt, s_le, s_eq, s_nm1, s_m1n, s_eqm1, s_cl, s_in, s_ltm1, s_div, s_rem, s_rem2, s_hsi, s_rsi, s_lsi, s_nsi, s_hsl, s_rsl, s_isl, s_nsl, xi_eq, xi_na, xi_nk, xl_eq, xl_na, xl_nk, s_k18, s_hfi, s_rfi, s_lfi, s_nfi, s_hfl, s_rfl, s_ifl, s_nfl, xf_in, xf_na, xf_nk, xg_in, xg_na, xg_nk, hh]
  refine w_within d (by omega) (by omega) ?_
  rw [if_pos hi]
  simp (disch := omega) only [ne_eq, true_and, and_true, false_and, and_false, true_or, or_true, false_or, or_false, not_true_eq_false, not_false_eq_true, forall_eq, exists_eq_left, exists_eq_left', exists_eq_right, true_implies, false_implies, implies_true, forall_const, Option.some.injEq, Value.int.injEq, Value.long.injEq, Value.ref.injEq, reduceCtorEq, exists_const, and_self, s_lit, s_m1, s_add, s_mul, s_sub, s_lt, s_le, s_eq, s_nm1, s_m1n, s_eqm1, s_cl, s_in, s_ltm1, s_div, s_rem, s_rem2, s_hsi, s_rsi, s_lsi, s_nsi, s_hsl, s_rsl, s_isl, s_nsl, xi_eq, xi_na, xi_nk, xl_eq, xl_na, xl_nk, s_k18, s_hfi, s_rfi, s_lfi, s_nfi, s_hfl, s_rfl, s_ifl, s_nfl, xf_in, xf_na, xf_nk, xg_in, xg_na, xg_nk, hh]
  exact hQ
/-- the steps of a told machine, with a first state ahead: its key is n -/
def mcD (n b : Nat) (sf : Nat → Nat) (x g : Nat) : Nat := if x = n ∧ g = 0 then n else sf ((if x = n then 0 else x) * b + g)
def mcM (n : Nat) (lf : Nat → Nat) (x : Nat) : Nat := lf (if x = n then 0 else x)
theorem w_weaveMachine (d : Nat) (hw : WeS M w) (hp : LeS M p pv pk pm pn) (hpd : ∀ q ∈ [p, pv, pk], q < w ∨ w + 21 < q) (hpn : 60 ≤ pn) (hpm : 180 ≤ pm) {a l : Nat} {sf lf : Nat → Nat} (hn : 0 < n) (hn8 : n ≤ 8) (hb : 1 < b) (hb3 : b ≤ 3) (ha : x_h M a = (1, 40)) (hl : x_h M l = (1, 40)) (had : a ∉ [p, pv, pk] ∧ (a < w ∨ w + 21 < a)) (hld : l ∉ [p, pv, pk] ∧ (l < w ∨ w + 21 < l))
    (hsf : ∀ t, t < n * b → x_i M a t = nI (sf t) ∧ sf t < n) (hlf : ∀ t, t < n → x_i M l t = nI (lf t) ∧ lf t < 8)
    (hQ : ∀ M' m st mr, Fr M M' [w + 1, w + 2, w + 3, w + 4, w + 5, w + 6, w + 7, w + 8, p, pv, pk] → m ≤ 60 → LeI M' p pv pk m b st mr → Can b m st mr (fun u => mcM n lf (dl (mcD n b sf) n u)) → Q none M') : Call G (d + 5) 0 0 mX10_weaveMachine [.ref w, .ref a, .ref l, .int (nI n), .int (nI b), .ref p] M Q := by
  have hw0 := hw
  obtain ⟨w1, w2, w3, w4, w5, -⟩ := hw
  have hl18 := w2.1
  have hnb : n * b ≤ 24 := by
    have : n * b ≤ 8 * 3 := Nat.mul_le_mul hn8 hb3
    omega
  have hnb1 : (n + 1) * b ≤ 43200 := by rw [Nat.succ_mul]; omega
  have q1 := hpd p (by simp)
  have q2 := hpd pv (by simp)
  have q3 := hpd pk (by simp)
  have hA : ∀ {M'}, Fr M M' [w + 1, w + 2, w + 3, w + 4, w + 5, w + 6, w + 7, w + 8] → x_i M' a = x_i M a ∧ x_i M' l = x_i M l := fun hfr => ⟨hfr.i (by simp; omega), hfr.i (by simp; omega)⟩
  have hplace : ∀ x g, x < n → g < b → x * b + g < n * b := fun x g hx hg => by
    have : (x + 1) * b ≤ n * b := Nat.mul_le_mul_right b hx
    rw [Nat.succ_mul] at this
    omega
  have hδ : ∀ x g, x ≤ n → g < b → mcD n b sf x g ≤ n := fun x g hx hg => by
    unfold mcD
    split
    · exact Nat.le_refl n
    · exact Nat.le_of_lt (hsf _ (hplace _ _ (by split <;> omega) hg)).2
  have hμ : ∀ x, x ≤ n → mcM n lf x < 8 := fun x hx => (hlf _ (by split <;> omega)).2
  have inner : ∀ (i : Nat), (∀ M', Fr M M' [w + 1, w + 2, w + 3, w + 4, w + 5, w + 6, w + 7, w + 8] → ExI M' (w + 1) (n + 1) b (mcD n b sf) n (mcM n lf) (i * b + b) (i + 1) → ∀ z z1 z2 z3, c1 z = true → c1 z1 = true → c1 z2 = true → c1 z3 = true → LX10_weaveMachine_24 G (d + 4) 0 0 w a l (nI n) (nI b) p (nI (i + 1)) z z1 z2 z3 M' Q) →
      ∀ (k j : Nat), j + k = b → ∀ M', Fr M M' [w + 1, w + 2, w + 3, w + 4, w + 5, w + 6, w + 7, w + 8] → ∀ x, x ≤ n → i < (ex (mcD n b sf) b n (i * b + j)).length → (ex (mcD n b sf) b n (i * b + j)).getD i 0 = x → ExI M' (w + 1) (n + 1) b (mcD n b sf) n (mcM n lf) (i * b + j) (i + 1) → ∀ z, c1 z = true → LX10_weaveMachine_85 G (d + 4) 0 0 w a l (nI n) (nI b) p (nI i) (nI x) (nI (if x = n then 0 else x)) (nI j) z M' Q := by
    intro i hout k
    induction k with
    | zero =>
      intro j hj M' hfr x hx hi hxe he z hz
      have e : j = b := by omega
      subst e
      refine vX10_weaveMachine_85 _ _ _ _ _ _ _ _ _ _ _ hz ?_
      simp (disch := omega) only [ne_eq, true_and, and_true, false_and, and_false, true_or, or_true, false_or, or_false, not_true_eq_false, not_false_eq_true, forall_eq, exists_eq_left, exists_eq_left', exists_eq_right, true_implies, false_implies, implies_true, forall_const, Option.some.injEq, Value.int.injEq, Value.long.injEq, Value.ref.injEq, reduceCtorEq, exists_const, and_self, s_lit, s_m1, s_add, s_mul, s_sub, s_lt, s_le, s_eq, s_nm1, s_m1n, s_eqm1, s_cl, s_in, s_ltm1, s_div, s_rem, s_rem2, s_hsi, s_rsi, s_lsi, s_nsi, s_hsl, s_rsl, s_isl, s_nsl, xi_eq, xi_na, xi_nk, xl_eq, xl_na, xl_nk, s_k18, s_hfi, s_rfi, s_lfi, s_nfi, s_hfl, s_rfl, s_ifl, s_nfl, xf_in, xf_na, xf_nk, xg_in, xg_na, xg_nk, Nat.le_refl]
      exact hout M' hfr he _ _ _ _ rfl rfl rfl hz
    | succ k ih =>
      intro j hj M' hfr x hx hi hxe he z hz
      have hjb : j < b := by omega
      have c1' : (i * b + j) / b = i := by rw [Nat.mul_comm, Nat.mul_add_div (by omega), Nat.div_eq_of_lt hjb]; rfl
      have c2' : (i * b + j) % b = j := by rw [Nat.mul_comm, Nat.mul_add_mod]; exact Nat.mod_eq_of_lt hjb
      have hgo : ∀ (y : Nat) (u0 : Int32), mcD n b sf x j = y → y ≤ n → Call G (d + 4) 0 0 mX2_meet [.ref (w + 1), .int (nI y)] M' (fun r8 M9 => ∃ v10 : Int32, r8 = some (.int v10) ∧ (x_h M9 (w + 1)).1 = 18 ∧ Call G (d + 4) 0 0 mX2_link [.ref (w + 1), .int (nI i), .int (nI j), .int v10] M9 (fun r12 M13 => r12 = none ∧ LX10_weaveMachine_85 G (d + 4) 0 0 w a l (nI n) (nI b) p (nI i) (nI x) (nI (if x = n then 0 else x)) (nI j + 1) (some (.int u0)) M13 Q)) := by
        intro y u0 hy hyn
        refine w_meetX (d + 2) (hw0.fr hfr).2.1 he (by rw [c1']; exact hi) (by rw [c1', c2', hxe]; exact hy) (by omega) (fun M1 g1 g2 => ?_)
        have hfr1 : Fr M M1 [w + 1, w + 2, w + 3, w + 4, w + 5, w + 6, w + 7, w + 8] := hfr.tr g1 (by simp)
        refine ⟨_, rfl, (hw0.fr hfr1).2.1.1, ?_⟩
        refine w_linkX (d + 2) (hw0.fr hfr1).2.1 g2 (by omega) rfl hjb hnb1 (fun M2 g3 g4 => ⟨rfl, ?_⟩)
        have hfr2 : Fr M M2 [w + 1, w + 2, w + 3, w + 4, w + 5, w + 6, w + 7, w + 8] := hfr1.tr g3 (by simp)
        rw [nI_1]
        refine ih (j + 1) (by omega) M2 hfr2 x hx ?_ ?_ g4 _ rfl
        · exact Nat.lt_of_lt_of_le hi (ex_le _ 1)
        · rw [← hxe]; exact ex_getD _ 1 hi
      refine vX10_weaveMachine_85 _ _ _ _ _ _ _ _ _ _ _ hz ?_
      have ebj : ¬ b ≤ j := by omega
      by_cases cx : x = n
      · by_cases cj : j = 0
        · have hd1 : mcD n b sf x j = n := if_pos ⟨cx, cj⟩
          have e3 : nI x = nI n := by rw [cx]
          have e4 : nI j = 0 := by rw [cj]; rfl
          refine ⟨fun c => absurd c (nI_ge hjb (by omega)), fun _ => ⟨fun c => absurd e3 c, fun _ => ⟨fun c => absurd e4 c, fun _ => ?_⟩⟩⟩
          refine vX10_weaveMachine_108 _ _ _ _ _ _ _ _ _ _ _ _ hz ?_
          refine ⟨(hw0.fr hfr).1, w + 1, by rw [hfr.r]; exact w5, fun c => absurd c (by decide), fun _ => ⟨(hw0.fr hfr).2.1.1, hgo n 1 hd1 (Nat.le_refl n)⟩⟩
        · have hd1 : mcD n b sf x j = sf (0 * b + j) := by
            unfold mcD
            rw [if_neg (fun e => cj e.2), if_pos cx]
          have e3 : nI x = nI n := by rw [cx]
          have e4 : ¬ nI j = 0 := fun e => cj ((nI_eq (by omega) (by omega)).mp (e.trans rfl))
          refine ⟨fun c => absurd c (nI_ge hjb (by omega)), fun _ => ⟨fun c => absurd e3 c, fun _ => ⟨fun _ => ?_, fun c => absurd c e4⟩⟩⟩
          refine vX10_weaveMachine_108 _ _ _ _ _ _ _ _ _ _ _ _ hz ?_
          refine ⟨(hw0.fr hfr).1, w + 1, by rw [hfr.r]; exact w5, fun _ => ?_, fun c => absurd rfl c⟩
          have hpl := hplace 0 j hn hjb
          rw [if_pos cx, pk_mul, nI_add]
          refine w_at (d + 2) (k := 40) (by rw [hfr.h]; exact ha) (by omega) (by omega) ?_
          refine ⟨_, rfl, (hw0.fr hfr).2.1.1, ?_⟩
          rw [(hA hfr).1, (hsf _ hpl).1]
          have := hgo (sf (0 * b + j)) 0 hd1 (Nat.le_of_lt (hsf _ hpl).2)
          rw [if_pos cx] at this
          exact this
      · have hxn : x < n := by omega
        have hd1 : mcD n b sf x j = sf (x * b + j) := by
          unfold mcD
          rw [if_neg (fun e => cx e.1), if_neg cx]
        have e3 : ¬ nI x = nI n := fun e => cx ((nI_eq (by omega) (by omega)).mp e)
        refine ⟨fun c => absurd c (nI_ge hjb (by omega)), fun _ => ⟨fun _ => ?_, fun c => absurd c e3⟩⟩
        refine vX10_weaveMachine_108 _ _ _ _ _ _ _ _ _ _ _ _ hz ?_
        refine ⟨(hw0.fr hfr).1, w + 1, by rw [hfr.r]; exact w5, fun _ => ?_, fun c => absurd rfl c⟩
        have hpl := hplace x j hxn hjb
        rw [if_neg cx, pk_mul, nI_add]
        refine w_at (d + 2) (k := 40) (by rw [hfr.h]; exact ha) (by omega) (by omega) ?_
        refine ⟨_, rfl, (hw0.fr hfr).2.1.1, ?_⟩
        rw [(hA hfr).1, (hsf _ hpl).1]
        have := hgo (sf (x * b + j)) 0 hd1 (Nat.le_of_lt (hsf _ hpl).2)
        rw [if_neg cx] at this
        exact this
  have outer : ∀ (k i : Nat), i + k = n + 1 → ∀ M', Fr M M' [w + 1, w + 2, w + 3, w + 4, w + 5, w + 6, w + 7, w + 8] → ExI M' (w + 1) (n + 1) b (mcD n b sf) n (mcM n lf) (i * b) i → ∀ z z1 z2 z3, c1 z = true → c1 z1 = true → c1 z2 = true → c1 z3 = true → LX10_weaveMachine_24 G (d + 4) 0 0 w a l (nI n) (nI b) p (nI i) z z1 z2 z3 M' Q := by
    intro k
    induction k with
    | zero =>
      intro i hi M' hfr he z z1 z2 z3 hz hz1 hz2 hz3
      have hlen := he.1.len
      have hle := he.2.2.2.2
      have el : (ex (mcD n b sf) b n (i * b)).length = i := by omega
      have e9 : x_i M' (w + 1) 9 = nI i := by rw [he.1.2.2.1, el]
      refine vX10_weaveMachine_24 _ _ _ _ _ _ _ _ _ _ _ hz hz1 hz2 hz3 ?_
      refine ⟨(hw0.fr hfr).1, w + 1, by rw [hfr.r]; exact w5, (hw0.fr hfr).2.1.1, fun _ => ?_, fun c => absurd (by rw [e9]; exact nI_le (Nat.le_refl i) (by omega)) c⟩
      refine w_drawX d (hw0.fr hfr).2.1 he (by rw [el]) el.symm (by omega) (by omega) hnb1 (fun x hx => hμ x (by have := he.1.2.2.2.2.2.1 x hx; omega)) (hp.eq hfr.h hfr.r) (fun q hq => by have := hpd q hq; omega) (most := 60) (by omega) hpn (by omega) (fun M1 m st mr g1 g2 g3 g4 => ⟨_, rfl, hQ M1 m st mr ((hfr.wk (by simp)).tr g1 (by simp)) g2 g3 g4⟩) (fun M1 _ _ g3 => absurd g3 (by omega))
    | succ k ih =>
      intro i hi M' hfr he z z1 z2 z3 hz hz1 hz2 hz3
      have hlen := he.1.len
      have hle := he.2.2.2.2
      refine vX10_weaveMachine_24 _ _ _ _ _ _ _ _ _ _ _ hz hz1 hz2 hz3 ?_
      refine ⟨(hw0.fr hfr).1, w + 1, by rw [hfr.r]; exact w5, (hw0.fr hfr).2.1.1, fun c => ?_, fun c => ⟨fun c2 => ?_, fun _ => ?_⟩⟩
      · rw [he.1.2.2.1] at c
        have el : (ex (mcD n b sf) b n (i * b)).length = i := by
          have := (nI_leI (a := (ex (mcD n b sf) b n (i * b)).length) (b := i) (by omega) (by omega)).mp c
          omega
        refine w_drawX d (hw0.fr hfr).2.1 he (by rw [el]) el.symm (by omega) (by omega) hnb1 (fun x hx => hμ x (by have := he.1.2.2.2.2.2.1 x hx; omega)) (hp.eq hfr.h hfr.r) (fun q hq => by have := hpd q hq; omega) (most := 60) (by omega) hpn (by omega) (fun M1 m st mr g1 g2 g3 g4 => ⟨_, rfl, hQ M1 m st mr ((hfr.wk (by simp)).tr g1 (by simp)) g2 g3 g4⟩) (fun M1 _ _ g3 => absurd g3 (by omega))
      · exact absurd c2 (nI_nlt (by omega) (by omega))
      · rw [he.1.2.2.1] at c
        have hil : i < (ex (mcD n b sf) b n (i * b)).length := by
          rcases Nat.lt_or_ge i (ex (mcD n b sf) b n (i * b)).length with h | h
          · exact h
          · exact absurd (nI_le h (by omega)) c
        refine w_keyX (d + 2) (hw0.fr hfr).2.1 he hil ?_
        have hx : (ex (mcD n b sf) b n (i * b)).getD i 0 ≤ n := by have := he.1.2.2.2.2.2.1 _ (getD_mem hil); omega
        generalize hxe : (ex (mcD n b sf) b n (i * b)).getD i 0 = x at hx
        have hmark : ∀ y, (if x = n then 0 else x) = y → Call G (d + 4) 0 0 mX10_at [.ref l, .int (nI y)] M' (fun r18 M19 => ∃ v20 : Int32, r18 = some (.int v20) ∧ (x_h M19 (w + 1)).1 = 18 ∧ Call G (d + 4) 0 0 mX2_putMark [.ref (w + 1), .int (nI i), .int v20] M19 (fun r22 M23 => r22 = none ∧ LX10_weaveMachine_85 G (d + 4) 0 0 w a l (nI n) (nI b) p (nI i) (nI x) (nI (if x = n then 0 else x)) 0 z3 M23 Q)) := by
          intro y hy
          have hyn : y < n := by rw [← hy]; split <;> omega
          refine w_at (d + 2) (k := 40) (by rw [hfr.h]; exact hl) (by omega) (by omega) ?_
          refine ⟨_, rfl, (hw0.fr hfr).2.1.1, ?_⟩
          rw [(hA hfr).2, (hlf _ hyn).1]
          refine w_markX (d + 2) (hw0.fr hfr).2.1 he hil (by rw [hxe]; unfold mcM; rw [hy]) (fun M1 g1 g2 => ⟨rfl, ?_⟩)
          exact inner i (fun M2 g3 g4 z z1 z2 z3 hz hz1 hz2 hz3 => ih (i + 1) (by omega) M2 g3 (by rw [Nat.succ_mul]; exact g4) z z1 z2 z3 hz hz1 hz2 hz3) b 0 (by omega) M1 (hfr.tr g1 (by simp)) x hx hil hxe g2 z3 hz3
        refine ⟨_, rfl, fun c3 => ?_, fun c3 => ?_⟩
        · have cx : ¬ x = n := fun e => c3 (by rw [e])
          refine ⟨(hw0.fr hfr).1, w + 1, by rw [hfr.r]; exact w5, ?_⟩
          have := hmark x (if_neg cx)
          rw [if_neg cx] at this
          exact this
        · have cx : x = n := (nI_eq (by omega) (by omega)).mp c3
          refine ⟨(hw0.fr hfr).1, w + 1, by rw [hfr.r]; exact w5, ?_⟩
          have := hmark 0 (if_pos cx)
          rw [if_pos cx] at this
          exact this
  refine eX10_weaveMachine w a l _ _ p ?_
  refine ⟨w1, w + 1, w5, w2.1, ?_⟩
  rw [nI_1]
  refine w_open (d + 1) w2 (by omega) (fun M1 g1 g2 => ⟨rfl, ?_⟩)
  have hfr1 : Fr M M1 [w + 1, w + 2, w + 3, w + 4, w + 5, w + 6, w + 7, w + 8] := g1.wk (by simp)
  refine ⟨(hw0.fr hfr1).1, w + 1, by rw [hfr1.r]; exact w5, (hw0.fr hfr1).2.1.1, ?_⟩
  refine w_meet0 (d + 2) (δ := mcD n b sf) (μ := mcM n lf) (hw0.fr hfr1).2.1 g2 (by omega) (fun M2 v g3 g4 => ⟨v, rfl, ?_⟩)
  exact outer (n + 1) 0 (by omega) M2 (hfr1.tr g3 (by simp)) (by rw [Nat.zero_mul]; exact g4) none none none none rfl rfl rfl rfl
end WeaveC
