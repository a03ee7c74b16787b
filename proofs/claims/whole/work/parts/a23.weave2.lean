/-! ===== Weaver: grown rows, rings ===== -/
section Weave2C
variable {G : GG} {M : Mem} {w p pv pk pm pn n b : Nat} {Q : Option Value → Mem → Prop}
def grD (b : Nat) (sf : Nat → Nat) (x g : Nat) : Nat := sf (x * b + g)
theorem w_weaveGrown (d : Nat) (hw : WeS M w) (hp : LeS M p pv pk pm pn) (hpd : ∀ q ∈ [p, pv, pk], q < w ∨ w + 21 < q) (hpn : 60 ≤ pn) (hpm : 180 ≤ pm) {a : Nat} {sf : Nat → Nat} (hn : 0 < n) (hn8 : n ≤ 8) (hb : 1 < b) (hb3 : b ≤ 3) (ha : x_h M a = (1, 40)) (had : a ∉ [p, pv, pk] ∧ (a < w ∨ w + 21 < a))
    (hsf : ∀ t, t < n * b → x_i M a t = nI (sf t) ∧ sf t < n)
    (hQ : ∀ M' m st mr, Fr M M' [w + 1, w + 2, w + 3, w + 4, w + 5, w + 6, w + 7, w + 8, p, pv, pk] → m ≤ 60 → LeI M' p pv pk m b st mr → Can b m st mr (fun u => dl (grD b sf) 0 u) → Q none M') : Call G (d + 5) 0 0 mX10_weaveGrown [.ref w, .ref a, .int (nI n), .int (nI b), .ref p] M Q := by
  have hw0 := hw
  obtain ⟨w1, w2, w3, w4, w5, -⟩ := hw
  have hnb : n * b ≤ 24 := by
    have : n * b ≤ 8 * 3 := Nat.mul_le_mul hn8 hb3
    omega
  have hnb1 : n * b ≤ 43200 := by omega
  have q1 := hpd p (by simp)
  have q2 := hpd pv (by simp)
  have q3 := hpd pk (by simp)
  have hA : ∀ {M'}, Fr M M' [w + 1, w + 2, w + 3, w + 4, w + 5, w + 6, w + 7, w + 8] → x_i M' a = x_i M a := fun hfr => hfr.i (by simp; omega)
  have hplace : ∀ x g, x < n → g < b → x * b + g < n * b := fun x g hx hg => by
    have : (x + 1) * b ≤ n * b := Nat.mul_le_mul_right b hx
    rw [Nat.succ_mul] at this
    omega
  have inner : ∀ (i : Nat), (∀ M', Fr M M' [w + 1, w + 2, w + 3, w + 4, w + 5, w + 6, w + 7, w + 8] → ExI M' (w + 1) n b (grD b sf) 0 (fun x => x) (i * b + b) (i + 1) → ∀ z z1, c1 z = true → c1 z1 = true → LX10_weaveGrown_21 G (d + 4) 0 0 w a (nI n) (nI b) p (nI (i + 1)) z z1 M' Q) →
      ∀ (k j : Nat), j + k = b → ∀ M', Fr M M' [w + 1, w + 2, w + 3, w + 4, w + 5, w + 6, w + 7, w + 8] → ∀ x, x < n → i < (ex (grD b sf) b 0 (i * b + j)).length → (ex (grD b sf) b 0 (i * b + j)).getD i 0 = x → ExI M' (w + 1) n b (grD b sf) 0 (fun x => x) (i * b + j) (i + 1) → LX10_weaveGrown_64 G (d + 4) 0 0 w a (nI n) (nI b) p (nI i) (nI x) (nI j) M' Q := by
    intro i hout k
    induction k with
    | zero =>
      intro j hj M' hfr x hx hi hxe he
      have e : j = b := by omega
      subst e
      refine vX10_weaveGrown_64 _ _ _ _ _ _ _ _ ?_
      simp (disch := omega) only [ne_eq, true_and, and_true, false_and, and_false, true_or, or_true, false_or, or_false, not_true_eq_false, not_false_eq_true, forall_eq, exists_eq_left, exists_eq_left', exists_eq_right, true_implies, false_implies, implies_true, forall_const, Option.some.injEq, Value.int.injEq, Value.long.injEq, Value.ref.injEq, reduceCtorEq, exists_const, and_self, s_lit, s_m1, s_add, s_mul, s_sub, s_lt, s_le, s_eq, s_nm1, s_m1n, s_eqm1, s_cl, s_in, s_ltm1, s_div, s_rem, s_rem2, s_hsi, s_rsi, s_lsi, s_nsi, s_hsl, s_rsl, s_isl, s_nsl, xi_eq, xi_na, xi_nk, xl_eq, xl_na, xl_nk, s_k18, s_hfi, s_rfi, s_lfi, s_nfi, s_hfl, s_rfl, s_ifl, s_nfl, xf_in, xf_na, xf_nk, xg_in, xg_na, xg_nk, Nat.le_refl]
      exact hout M' hfr he _ _ rfl rfl
    | succ k ih =>
      intro j hj M' hfr x hx hi hxe he
      have hjb : j < b := by omega
      have c1' : (i * b + j) / b = i := by rw [Nat.mul_comm, Nat.mul_add_div (by omega), Nat.div_eq_of_lt hjb]; rfl
      have c2' : (i * b + j) % b = j := by rw [Nat.mul_comm, Nat.mul_add_mod]; exact Nat.mod_eq_of_lt hjb
      have hpl := hplace x j hx hjb
      refine vX10_weaveGrown_64 _ _ _ _ _ _ _ _ ?_
      refine ⟨fun c => absurd c (nI_ge hjb (by omega)), fun _ => ⟨(hw0.fr hfr).1, w + 1, by rw [hfr.r]; exact w5, ?_⟩⟩
      rw [pk_mul, nI_add]
      refine w_at (d + 2) (k := 40) (by rw [hfr.h]; exact ha) (by omega) (by omega) ?_
      refine ⟨_, rfl, (hw0.fr hfr).2.1.1, ?_⟩
      rw [hA hfr, (hsf _ hpl).1]
      refine w_meetX (d + 2) (hw0.fr hfr).2.1 he (by rw [c1']; exact hi) (by rw [c1', c2', hxe]; rfl) (hsf _ hpl).2 (fun M1 g1 g2 => ?_)
      have hfr1 : Fr M M1 [w + 1, w + 2, w + 3, w + 4, w + 5, w + 6, w + 7, w + 8] := hfr.tr g1 (by simp)
      refine ⟨_, rfl, (hw0.fr hfr1).2.1.1, ?_⟩
      refine w_linkX (d + 2) (hw0.fr hfr1).2.1 g2 (by omega) rfl hjb hnb1 (fun M2 g3 g4 => ⟨rfl, ?_⟩)
      have hfr2 : Fr M M2 [w + 1, w + 2, w + 3, w + 4, w + 5, w + 6, w + 7, w + 8] := hfr1.tr g3 (by simp)
      rw [nI_1]
      refine ih (j + 1) (by omega) M2 hfr2 x hx ?_ ?_ g4
      · exact Nat.lt_of_lt_of_le hi (ex_le _ 1)
      · rw [← hxe]; exact ex_getD _ 1 hi
  have done : ∀ i M', i ≤ n → Fr M M' [w + 1, w + 2, w + 3, w + 4, w + 5, w + 6, w + 7, w + 8] → ExI M' (w + 1) n b (grD b sf) 0 (fun x => x) (i * b) i → (ex (grD b sf) b 0 (i * b)).length = i → Call G (d + 4) 0 0 mX2_draw [.ref (w + 1), .ref p, .int 60] M' (fun r5 M6 => ∃ v7 : Int32, r5 = some (.int v7) ∧ Q none M6) := by
    intro i M' hi hfr he el
    exact w_drawX d (hw0.fr hfr).2.1 he (by rw [el]) el.symm (by omega) (by omega) hnb1 (fun x hx => by have := he.1.2.2.2.2.2.1 x hx; show x < 8; omega) (hp.eq hfr.h hfr.r) (fun q hq => by have := hpd q hq; omega) (most := 60) (by omega) hpn (by omega) (fun M1 m st mr g1 g2 g3 g4 => ⟨_, rfl, hQ M1 m st mr ((hfr.wk (by simp)).tr g1 (by simp)) g2 g3 g4⟩) (fun M1 _ _ g3 => absurd g3 (by omega))
  have outer : ∀ (k i : Nat), i + k = n → ∀ M', Fr M M' [w + 1, w + 2, w + 3, w + 4, w + 5, w + 6, w + 7, w + 8] → ExI M' (w + 1) n b (grD b sf) 0 (fun x => x) (i * b) i → ∀ z z1, c1 z = true → c1 z1 = true → LX10_weaveGrown_21 G (d + 4) 0 0 w a (nI n) (nI b) p (nI i) z z1 M' Q := by
    intro k
    induction k with
    | zero =>
      intro i hi M' hfr he z z1 hz hz1
      have hlen := he.1.len
      have hle := he.2.2.2.2
      have el : (ex (grD b sf) b 0 (i * b)).length = i := by omega
      have e9 : x_i M' (w + 1) 9 = nI i := by rw [he.1.2.2.1, el]
      refine vX10_weaveGrown_21 _ _ _ _ _ _ _ _ hz hz1 ?_
      exact ⟨(hw0.fr hfr).1, w + 1, by rw [hfr.r]; exact w5, (hw0.fr hfr).2.1.1, fun _ => done i M' (by omega) hfr he el, fun c => absurd (by rw [e9]; exact nI_le (Nat.le_refl i) (by omega)) c⟩
    | succ k ih =>
      intro i hi M' hfr he z z1 hz hz1
      have hlen := he.1.len
      have hle := he.2.2.2.2
      refine vX10_weaveGrown_21 _ _ _ _ _ _ _ _ hz hz1 ?_
      refine ⟨(hw0.fr hfr).1, w + 1, by rw [hfr.r]; exact w5, (hw0.fr hfr).2.1.1, fun c => ?_, fun c => ⟨fun c2 => ?_, fun _ => ?_⟩⟩
      · rw [he.1.2.2.1] at c
        have el : (ex (grD b sf) b 0 (i * b)).length = i := by
          have := (nI_leI (a := (ex (grD b sf) b 0 (i * b)).length) (b := i) (by omega) (by omega)).mp c
          omega
        exact done i M' (by omega) hfr he el
      · exact absurd c2 (nI_ge (by omega) (by omega))
      · rw [he.1.2.2.1] at c
        have hil : i < (ex (grD b sf) b 0 (i * b)).length := by
          rcases Nat.lt_or_ge i (ex (grD b sf) b 0 (i * b)).length with h | h
          · exact h
          · exact absurd (nI_le h (by omega)) c
        refine w_keyX (d + 2) (hw0.fr hfr).2.1 he hil ?_
        have hx : (ex (grD b sf) b 0 (i * b)).getD i 0 < n := he.1.2.2.2.2.2.1 _ (getD_mem hil)
        generalize hxe : (ex (grD b sf) b 0 (i * b)).getD i 0 = x at hx
        refine ⟨_, rfl, (hw0.fr hfr).1, w + 1, by rw [hfr.r]; exact w5, (hw0.fr hfr).2.1.1, ?_⟩
        refine w_markX (d + 2) (hw0.fr hfr).2.1 he hil (by rw [hxe]) (fun M1 g1 g2 => ⟨rfl, ?_⟩)
        exact inner i (fun M2 g3 g4 z z1 hz hz1 => ih (i + 1) (by omega) M2 g3 (by rw [Nat.succ_mul]; exact g4) z z1 hz hz1) b 0 (by omega) M1 (hfr.tr g1 (by simp)) x hx hil hxe g2
  refine eX10_weaveGrown w a _ _ p ?_
  refine ⟨w1, w + 1, w5, w2.1, ?_⟩
  refine w_open (d + 1) w2 (by omega) (fun M1 g1 g2 => ⟨rfl, ?_⟩)
  have hfr1 : Fr M M1 [w + 1, w + 2, w + 3, w + 4, w + 5, w + 6, w + 7, w + 8] := g1.wk (by simp)
  refine ⟨(hw0.fr hfr1).1, w + 1, by rw [hfr1.r]; exact w5, (hw0.fr hfr1).2.1.1, ?_⟩
  refine w_meet0 (d + 2) (k0 := 0) (δ := grD b sf) (μ := fun x => x) (hw0.fr hfr1).2.1 g2 hn (fun M2 v g3 g4 => ⟨v, rfl, ?_⟩)
  exact outer n 0 (by omega) M2 (hfr1.tr g3 (by simp)) (by rw [Nat.zero_mul]; exact g4) none none rfl rfl
def riD (b s l : Nat) (x g : Nat) : Nat := if x * b + g < s + l then x * b + g else s + (x * b + g - s) % l
theorem w_weaveRing (d : Nat) (hw : WeS M w) (hp : LeS M p pv pk pm pn) (hpd : ∀ q ∈ [p, pv, pk], q < w ∨ w + 21 < q) (hpn : 60 ≤ pn) (hpm : 180 ≤ pm) {a s l : Nat} {lf : Nat → Nat} (hs6 : s ≤ 6) (hl : 0 < l) (hl6 : l ≤ 6) (hb : 1 < b) (hb3 : b ≤ 3) (ha : x_h M a = (1, 40)) (had : a ∉ [p, pv, pk] ∧ (a < w ∨ w + 21 < a))
    (hlf : ∀ t, t < s + l → x_i M a t = nI (lf t) ∧ lf t < 8)
    (hQ : ∀ M' m st mr, Fr M M' [w + 1, w + 2, w + 3, w + 4, w + 5, w + 6, w + 7, w + 8, p, pv, pk] → m ≤ 60 → LeI M' p pv pk m b st mr → Can b m st mr (fun u => lf (dl (riD b s l) 0 u)) → Q none M') : Call G (d + 5) 0 0 mX10_weaveRing [.ref w, .ref a, .int (nI s), .int (nI l), .int (nI b), .ref p] M Q := by
  have hw0 := hw
  obtain ⟨w1, w2, w3, w4, w5, -⟩ := hw
  have hnb : (s + l) * b ≤ 36 := by
    have : (s + l) * b ≤ 12 * 3 := Nat.mul_le_mul (by omega) hb3
    omega
  have hnb1 : (s + l) * b ≤ 43200 := by omega
  have q1 := hpd p (by simp)
  have q2 := hpd pv (by simp)
  have q3 := hpd pk (by simp)
  have hA : ∀ {M'}, Fr M M' [w + 1, w + 2, w + 3, w + 4, w + 5, w + 6, w + 7, w + 8] → x_i M' a = x_i M a := fun hfr => hfr.i (by simp; omega)
  have hplace : ∀ x g, x < s + l → g < b → x * b + g < (s + l) * b := fun x g hx hg => by
    have : (x + 1) * b ≤ (s + l) * b := Nat.mul_le_mul_right b hx
    rw [Nat.succ_mul] at this
    omega
  have hδ : ∀ x g, riD b s l x g < s + l := fun x g => by
    unfold riD
    split
    · assumption
    · have := Nat.mod_lt (x * b + g - s) hl; omega
  have inner : ∀ (i : Nat), (∀ M', Fr M M' [w + 1, w + 2, w + 3, w + 4, w + 5, w + 6, w + 7, w + 8] → ExI M' (w + 1) (s + l) b (riD b s l) 0 lf (i * b + b) (i + 1) → ∀ z z1 z2 z3, c1 z = true → c1 z1 = true → c1 z2 = true → c1 z3 = true → LX10_weaveRing_28 G (d + 4) 0 0 w a (nI s) (nI l) (nI b) p (nI (s + l)) (nI (i + 1)) z z1 z2 z3 M' Q) →
      ∀ (k j : Nat), j + k = b → ∀ M', Fr M M' [w + 1, w + 2, w + 3, w + 4, w + 5, w + 6, w + 7, w + 8] → ∀ x, x < s + l → i < (ex (riD b s l) b 0 (i * b + j)).length → (ex (riD b s l) b 0 (i * b + j)).getD i 0 = x → ExI M' (w + 1) (s + l) b (riD b s l) 0 lf (i * b + j) (i + 1) → ∀ z z1, c1 z = true → c1 z1 = true → LX10_weaveRing_76 G (d + 4) 0 0 w a (nI s) (nI l) (nI b) p (nI (s + l)) (nI i) (nI x) (nI j) z z1 M' Q := by
    intro i hout k
    induction k with
    | zero =>
      intro j hj M' hfr x hx hi hxe he z z1 hz hz1
      have e : j = b := by omega
      subst e
      refine vX10_weaveRing_76 _ _ _ _ _ _ _ _ _ _ _ _ hz hz1 ?_
      simp (disch := omega) only [ne_eq, true_and, and_true, false_and, and_false, true_or, or_true, false_or, or_false, not_true_eq_false, not_false_eq_true, forall_eq, exists_eq_left, exists_eq_left', exists_eq_right, true_implies, false_implies, implies_true, forall_const, Option.some.injEq, Value.int.injEq, Value.long.injEq, Value.ref.injEq, reduceCtorEq, exists_const, and_self, s_lit, s_m1, s_add, s_mul, s_sub, s_lt, s_le, s_eq, s_nm1, s_m1n, s_eqm1, s_cl, s_in, s_ltm1, s_div, s_rem, s_rem2, s_hsi, s_rsi, s_lsi, s_nsi, s_hsl, s_rsl, s_isl, s_nsl, xi_eq, xi_na, xi_nk, xl_eq, xl_na, xl_nk, s_k18, s_hfi, s_rfi, s_lfi, s_nfi, s_hfl, s_rfl, s_ifl, s_nfl, xf_in, xf_na, xf_nk, xg_in, xg_na, xg_nk, Nat.le_refl]
      exact hout M' hfr he _ _ _ _ rfl rfl hz hz1
    | succ k ih =>
      intro j hj M' hfr x hx hi hxe he z z1 hz hz1
      have hjb : j < b := by omega
      have c1' : (i * b + j) / b = i := by rw [Nat.mul_comm, Nat.mul_add_div (by omega), Nat.div_eq_of_lt hjb]; rfl
      have c2' : (i * b + j) % b = j := by rw [Nat.mul_comm, Nat.mul_add_mod]; exact Nat.mod_eq_of_lt hjb
      have hpl := hplace x j hx hjb
      have hgo : ∀ (y : Nat) (u0 : Int32), riD b s l x j = y → Call G (d + 4) 0 0 mX2_meet [.ref (w + 1), .int (nI y)] M' (fun r8 M9 => ∃ v10 : Int32, r8 = some (.int v10) ∧ (x_h M9 (w + 1)).1 = 18 ∧ Call G (d + 4) 0 0 mX2_link [.ref (w + 1), .int (nI i), .int (nI j), .int v10] M9 (fun r12 M13 => r12 = none ∧ LX10_weaveRing_76 G (d + 4) 0 0 w a (nI s) (nI l) (nI b) p (nI (s + l)) (nI i) (nI x) (nI j + 1) (some (.int (nI (x * b + j)))) (some (.int u0)) M13 Q)) := by
        intro y u0 hy
        refine w_meetX (d + 2) (hw0.fr hfr).2.1 he (by rw [c1']; exact hi) (by rw [c1', c2', hxe]; exact hy) (by rw [← hy]; exact hδ x j) (fun M1 g1 g2 => ?_)
        have hfr1 : Fr M M1 [w + 1, w + 2, w + 3, w + 4, w + 5, w + 6, w + 7, w + 8] := hfr.tr g1 (by simp)
        refine ⟨_, rfl, (hw0.fr hfr1).2.1.1, ?_⟩
        refine w_linkX (d + 2) (hw0.fr hfr1).2.1 g2 (by omega) rfl hjb hnb1 (fun M2 g3 g4 => ⟨rfl, ?_⟩)
        have hfr2 : Fr M M2 [w + 1, w + 2, w + 3, w + 4, w + 5, w + 6, w + 7, w + 8] := hfr1.tr g3 (by simp)
        rw [nI_1]
        refine ih (j + 1) (by omega) M2 hfr2 x hx ?_ ?_ g4 _ _ rfl rfl
        · exact Nat.lt_of_lt_of_le hi (ex_le _ 1)
        · rw [← hxe]; exact ex_getD _ 1 hi
      refine vX10_weaveRing_76 _ _ _ _ _ _ _ _ _ _ _ _ hz hz1 ?_
      rw [pk_mul, nI_add]
      refine ⟨fun c => absurd c (nI_ge hjb (by omega)), fun _ => ⟨fun c => ?_, fun c => ⟨fun c2 => absurd c2 (nI_nle hl (by omega)), fun _ => ?_⟩⟩⟩
      · have c' : x * b + j < s + l := (nI_ltI (by omega) (by omega)).mp c
        refine vX10_weaveRing_109 _ _ _ _ _ _ _ _ _ _ _ _ _ hz1 ?_
        exact ⟨(hw0.fr hfr).1, w + 1, by rw [hfr.r]; exact w5, fun _ => ⟨(hw0.fr hfr).2.1.1, hgo (x * b + j) 0 (if_pos c')⟩, fun c => absurd rfl c⟩
      · have c' : ¬ x * b + j < s + l := fun h => c ((nI_ltI (by omega) (by omega)).mpr h)
        refine vX10_weaveRing_109 _ _ _ _ _ _ _ _ _ _ _ _ _ hz1 ?_
        refine ⟨(hw0.fr hfr).1, w + 1, by rw [hfr.r]; exact w5, fun c => absurd c (by decide), fun _ => ⟨nI_ne0 hl (by omega), (hw0.fr hfr).2.1.1, ?_⟩⟩
        rw [pk_sub (show s ≤ x * b + j by omega), pk_rem (by omega) hl (by omega), nI_add]
        exact hgo _ 1 (if_neg c')
  have done : ∀ i M', i ≤ s + l → Fr M M' [w + 1, w + 2, w + 3, w + 4, w + 5, w + 6, w + 7, w + 8] → ExI M' (w + 1) (s + l) b (riD b s l) 0 lf (i * b) i → (ex (riD b s l) b 0 (i * b)).length = i → Call G (d + 4) 0 0 mX2_draw [.ref (w + 1), .ref p, .int 60] M' (fun r5 M6 => ∃ v7 : Int32, r5 = some (.int v7) ∧ Q none M6) := by
    intro i M' hi hfr he el
    exact w_drawX d (hw0.fr hfr).2.1 he (by rw [el]) el.symm (by omega) (by omega) hnb1 (fun x hx => (hlf x (he.1.2.2.2.2.2.1 x hx)).2) (hp.eq hfr.h hfr.r) (fun q hq => by have := hpd q hq; omega) (most := 60) (by omega) hpn (by omega) (fun M1 m st mr g1 g2 g3 g4 => ⟨_, rfl, hQ M1 m st mr ((hfr.wk (by simp)).tr g1 (by simp)) g2 g3 g4⟩) (fun M1 _ _ g3 => absurd g3 (by omega))
  have outer : ∀ (k i : Nat), i + k = s + l → ∀ M', Fr M M' [w + 1, w + 2, w + 3, w + 4, w + 5, w + 6, w + 7, w + 8] → ExI M' (w + 1) (s + l) b (riD b s l) 0 lf (i * b) i → ∀ z z1 z2 z3, c1 z = true → c1 z1 = true → c1 z2 = true → c1 z3 = true → LX10_weaveRing_28 G (d + 4) 0 0 w a (nI s) (nI l) (nI b) p (nI (s + l)) (nI i) z z1 z2 z3 M' Q := by
    intro k
    induction k with
    | zero =>
      intro i hi M' hfr he z z1 z2 z3 hz hz1 hz2 hz3
      have hlen := he.1.len
      have hle := he.2.2.2.2
      have el : (ex (riD b s l) b 0 (i * b)).length = i := by omega
      have e9 : x_i M' (w + 1) 9 = nI i := by rw [he.1.2.2.1, el]
      refine vX10_weaveRing_28 _ _ _ _ _ _ _ _ _ _ _ _ hz hz1 hz2 hz3 ?_
      exact ⟨(hw0.fr hfr).1, w + 1, by rw [hfr.r]; exact w5, (hw0.fr hfr).2.1.1, fun _ => done i M' (by omega) hfr he el, fun c => absurd (by rw [e9]; exact nI_le (Nat.le_refl i) (by omega)) c⟩
    | succ k ih =>
      intro i hi M' hfr he z z1 z2 z3 hz hz1 hz2 hz3
      have hlen := he.1.len
      have hle := he.2.2.2.2
      refine vX10_weaveRing_28 _ _ _ _ _ _ _ _ _ _ _ _ hz hz1 hz2 hz3 ?_
      refine ⟨(hw0.fr hfr).1, w + 1, by rw [hfr.r]; exact w5, (hw0.fr hfr).2.1.1, fun c => ?_, fun c => ⟨fun c2 => ?_, fun _ => ?_⟩⟩
      · rw [he.1.2.2.1] at c
        have el : (ex (riD b s l) b 0 (i * b)).length = i := by
          have := (nI_leI (a := (ex (riD b s l) b 0 (i * b)).length) (b := i) (by omega) (by omega)).mp c
          omega
        exact done i M' (by omega) hfr he el
      · exact absurd c2 (nI_ge (by omega) (by omega))
      · rw [he.1.2.2.1] at c
        have hil : i < (ex (riD b s l) b 0 (i * b)).length := by
          rcases Nat.lt_or_ge i (ex (riD b s l) b 0 (i * b)).length with h | h
          · exact h
          · exact absurd (nI_le h (by omega)) c
        refine w_keyX (d + 2) (hw0.fr hfr).2.1 he hil ?_
        have hx : (ex (riD b s l) b 0 (i * b)).getD i 0 < s + l := he.1.2.2.2.2.2.1 _ (getD_mem hil)
        generalize hxe : (ex (riD b s l) b 0 (i * b)).getD i 0 = x at hx
        refine ⟨_, rfl, (hw0.fr hfr).1, w + 1, by rw [hfr.r]; exact w5, ?_⟩
        refine w_at (d + 2) (k := 40) (by rw [hfr.h]; exact ha) (by omega) (by omega) ?_
        refine ⟨_, rfl, (hw0.fr hfr).2.1.1, ?_⟩
        rw [hA hfr, (hlf _ hx).1]
        refine w_markX (d + 2) (hw0.fr hfr).2.1 he hil (by rw [hxe]) (fun M1 g1 g2 => ⟨rfl, ?_⟩)
        exact inner i (fun M2 g3 g4 z z1 z2 z3 hz hz1 hz2 hz3 => ih (i + 1) (by omega) M2 g3 (by rw [Nat.succ_mul]; exact g4) z z1 z2 z3 hz hz1 hz2 hz3) b 0 (by omega) M1 (hfr.tr g1 (by simp)) x hx hil hxe g2 z2 z3 hz2 hz3
  refine eX10_weaveRing w a _ _ _ p ?_
  rw [nI_add]
  refine ⟨w1, w + 1, w5, w2.1, ?_⟩
  refine w_open (d + 1) w2 (by omega) (fun M1 g1 g2 => ⟨rfl, ?_⟩)
  have hfr1 : Fr M M1 [w + 1, w + 2, w + 3, w + 4, w + 5, w + 6, w + 7, w + 8] := g1.wk (by simp)
  refine ⟨(hw0.fr hfr1).1, w + 1, by rw [hfr1.r]; exact w5, (hw0.fr hfr1).2.1.1, ?_⟩
  refine w_meet0 (d + 2) (k0 := 0) (δ := riD b s l) (μ := lf) (hw0.fr hfr1).2.1 g2 (by omega) (fun M2 v g3 g4 => ⟨v, rfl, ?_⟩)
  exact outer (s + l) 0 (by omega) M2 (hfr1.tr g3 (by simp)) (by rw [Nat.zero_mul]; exact g4) none none none none rfl rfl rfl rfl
end Weave2C
