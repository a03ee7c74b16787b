/-! ===== the class: its tokens ===== -/
section TokC
/-- a byte, as it is told -/
def bI (x : Nat) : Int32 := if x = 256 then -1 else nI x
theorem bI_n {x : Nat} (h : x < 256) : bI x = nI x := if_neg (by omega)
theorem bI_eq {x c : Nat} (hx : x ≤ 256) (hc : c < 256) : bI x = nI c ↔ x = c := by
  unfold bI
  split
  · rename_i e
    exact ⟨fun h => absurd h.symm (nI_m1 (by omega)), fun h => by omega⟩
  · exact nI_eq (by omega) (by omega)
theorem bI_lt {x c : Nat} (hx : x ≤ 256) (hc : c < 256) : bI x < nI c ↔ x < c ∨ x = 256 := by
  unfold bI
  split
  · rename_i e
    refine ⟨fun _ => Or.inr e, fun _ => ?_⟩
    rw [Int32.lt_iff_toInt_lt, nI_toInt (by omega)]
    show (-1 : Int) < _
    omega
  · rw [nI_ltI (by omega) (by omega)]
    omega
theorem bI_gt {x c : Nat} (hx : x ≤ 256) (hc : c < 256) : nI c < bI x ↔ c < x ∧ x < 256 := by
  unfold bI
  split
  · rename_i e
    refine ⟨fun h => ?_, fun h => by omega⟩
    rw [Int32.lt_iff_toInt_lt, nI_toInt (by omega)] at h
    have : (c : Int) < -1 := h
    omega
  · rw [nI_ltI (by omega) (by omega)]
    omega
theorem byA_256 {t : Nat → Nat} {L i : Nat} (h : ∀ i, i < L → t i < 256) : byA t L i ≤ 256 ∧ (byA t L i = 256 ↔ L ≤ i) := by
  unfold byA
  split
  · have := h i (by assumption)
    omega
  · omega
def TokS (M : Mem) (k : Nat) : Prop := (x_h M k).1 = 25 ∧ x_r M k 0 = some (k + 1) ∧ x_r M k 1 = some (k + 2) ∧ x_r M k 2 = some (k + 3) ∧ x_h M (k + 1) = (1, 121) ∧ x_h M (k + 2) = (1, 121) ∧ x_h M (k + 3) = (1, 121)
theorem TokS.eq {M M' : Mem} {k : Nat} (h : TokS M k) (h1 : x_h M' = x_h M) (h2 : x_r M' = x_r M) : TokS M' k := by
  unfold TokS
  rw [h1, h2]
  exact h
def TxS (M : Mem) (k tx L : Nat) (t : Nat → Nat) : Prop := (x_h M k).1 = 25 ∧ x_r M k 3 = some tx ∧ x_h M tx = (1, 120) ∧ x_i M k 4 = nI L ∧ L ≤ 120 ∧ (∀ i, i < L → x_i M tx i = nI (t i)) ∧ ∀ i, i < L → t i < 256
theorem TxS.fr {M M' : Mem} {k tx L : Nat} {t : Nat → Nat} (h : TxS M k tx L t) (g : Fr M M' [k, k + 1, k + 2, k + 3]) (h4 : x_i M' k 4 = x_i M k 4) (ht : tx ∉ [k, k + 1, k + 2, k + 3]) : TxS M' k tx L t := by
  obtain ⟨a1, a2, a3, a4, a5, a6, a7⟩ := h
  exact ⟨by rw [g.h]; exact a1, by rw [g.r]; exact a2, by rw [g.h]; exact a3, by rw [h4]; exact a4, a5, fun i hi => by rw [g.i ht]; exact a6 i hi, a7⟩
/-- token j of the whole list W stands in the class's arrays -/
def TkC (M : Mem) (k L : Nat) (W : List Tk) (j : Nat) : Prop := x_i M (k + 1) j = nI (kdT (W.drop j)) ∧ x_i M (k + 2) j = nI (plT L (W.drop j)) ∧ (kdT (W.drop j) = 2 ∨ kdT (W.drop j) = 3 ∨ kdT (W.drop j) = 4 → x_i M (k + 3) j = nI (woT (W.drop j)))
variable {G : GG} {M : Mem} {k tx L : Nat} {t : Nat → Nat} {Q : Option Value → Mem → Prop}
theorem w_byteAt (d : Nat) (h : TxS M k tx L t) {i : Nat} (hi : i < 2 ^ 20) (hQ : Q (some (.int (bI (byA t L i)))) M) : Call G (d + 1) 0 0 mX9_byteAt [.ref k, .int (nI i)] M Q := by
  obtain ⟨a1, a2, a3, a4, a5, a6, a7⟩ := h
  refine eX9_byteAt k _ ⟨fun c => absurd c (by rw [show (0 : Int32) = nI 0 from rfl, nI_ltI (by omega) (by omega)]; omega), fun _ => ⟨a1, ?_⟩⟩
  rw [a4, nI_leI (by omega) (by omega)]
  refine ⟨fun c => ?_, fun c => ⟨tx, a2, by rw [a3], by rw [a3]; exact vp_in_nI (show i < 120 by omega) (by omega), ?_⟩⟩
  · rw [byA_out c] at hQ
    exact hQ
  · rw [nI_clamp (by omega), a6 i (by omega)]
    rw [byA_in (by omega), bI_n (a7 i (by omega))] at hQ
    exact hQ
theorem w_isLetterT (d : Nat) (h : TxS M k tx L t) {i : Nat} (hi : i < 2 ^ 20) (hQ1 : isLe (byA t L i) → Q (some (.int 1)) M) (hQ0 : ¬ isLe (byA t L i) → Q (some (.int 0)) M) : Call G (d + 2) 0 0 mX9_isLetter [.ref k, .int (nI i)] M Q := by
  have hb := (byA_256 (L := L) (i := i) h.2.2.2.2.2.2).1
  refine eX9_isLetter k _ ⟨h.1, w_byteAt d h hi ⟨_, rfl, ?_⟩⟩
  rw [show (97 : Int32) = nI 97 from rfl, bI_lt hb (by omega)]
  refine ⟨fun c => hQ0 (by unfold isLe; omega), fun c => ⟨h.1, w_byteAt d h hi ⟨_, rfl, ?_⟩⟩⟩
  rw [show (122 : Int32) = nI 122 from rfl, bI_gt hb (by omega)]
  exact ⟨fun c2 => hQ0 (by unfold isLe; omega), fun c2 => hQ1 (by unfold isLe; omega)⟩
theorem w_isDigitT (d : Nat) (h : TxS M k tx L t) {i : Nat} (hi : i < 2 ^ 20) (hQ1 : isDi (byA t L i) → Q (some (.int 1)) M) (hQ0 : ¬ isDi (byA t L i) → Q (some (.int 0)) M) : Call G (d + 2) 0 0 mX9_isDigit [.ref k, .int (nI i)] M Q := by
  have hb := (byA_256 (L := L) (i := i) h.2.2.2.2.2.2).1
  refine eX9_isDigit k _ ⟨h.1, w_byteAt d h hi ⟨_, rfl, ?_⟩⟩
  rw [show (48 : Int32) = nI 48 from rfl, bI_lt hb (by omega)]
  refine ⟨fun c => hQ0 (by unfold isDi; omega), fun c => ⟨h.1, w_byteAt d h hi ⟨_, rfl, ?_⟩⟩⟩
  rw [show (57 : Int32) = nI 57 from rfl, bI_gt hb (by omega)]
  exact ⟨fun c2 => hQ0 (by unfold isDi; omega), fun c2 => hQ1 (by unfold isDi; omega)⟩
theorem w_isWord (d : Nat) (hE : StrEnv G) (h : TxS M k tx L t) {q n : Nat} {f : Nat → Int32} {cs : Nat → Nat} (hq : StrIs G q n f) (hn : n ≤ 3) (hf : ∀ j, j < n → chr (f j) = nI (cs j) ∧ cs j < 256) {s e : Nat} (hse : s ≤ e) (he : e ≤ L) (hQ1 : e = s + n ∧ (∀ j, j < n → byA t L (s + j) = cs j) → Q (some (.int 1)) M) (hQ0 : ¬ (e = s + n ∧ ∀ j, j < n → byA t L (s + j) = cs j) → Q (some (.int 0)) M) :
    Call G (d + 5) 0 0 mX9_isWord [.ref k, .int (nI s), .int (nI e), .ref q] M Q := by
  have hL := h.2.2.2.2.1
  refine eX9_isWord k _ _ q ⟨hq.1, Call.mono (k_length (d + 2) hE hq) ?_⟩
  rintro r M' ⟨rfl, rfl⟩
  refine ⟨_, rfl, ?_⟩
  rw [pk_sub hse, nI_eq (by omega) (by omega)]
  refine ⟨fun c => ?_, fun c => hQ0 (fun x => c (by omega))⟩
  have key : ∀ r j, j + r = n → (∀ i, i < j → byA t L (s + i) = cs i) → LX9_isWord_15 G (d + 4) 0 0 k (nI s) (nI e) q (nI j) M' Q := by
    intro r
    induction r with
    | zero =>
      intro j hj hi
      refine vX9_isWord_15 _ _ _ _ _ ⟨hq.1, Call.mono (k_length (d + 2) hE hq) ?_⟩
      rintro r M2 ⟨rfl, rfl⟩
      refine ⟨_, rfl, fun _ => hQ1 ⟨by omega, fun i h => hi i (by omega)⟩, fun c2 => absurd (by rw [nI_leI (by omega) (by omega)]; omega) c2⟩
    | succ r ih =>
      intro j hj hi
      refine vX9_isWord_15 _ _ _ _ _ ⟨hq.1, Call.mono (k_length (d + 2) hE hq) ?_⟩
      rintro r2 M2 ⟨rfl, rfl⟩
      refine ⟨_, rfl, fun c2 => absurd c2 (nI_ge (a := j) (b := n) (by omega) (by omega)), fun _ => ⟨h.1, ?_⟩⟩
      rw [nI_add]
      refine w_byteAt (d + 3) h (by omega) ⟨_, rfl, hq.1, Call.mono (k_charAt d hE hq (by omega) (show j < n by omega)) ?_⟩
      rintro r3 M3 ⟨rfl, rfl⟩
      obtain ⟨f1, f2⟩ := hf j (by omega)
      refine ⟨_, rfl, ?_⟩
      rw [f1, bI_eq (byA_256 h.2.2.2.2.2.2).1 f2, nI_1]
      refine ⟨fun c3 => ih (j + 1) (by omega) (fun i hi2 => ?_), fun c3 => hQ0 (fun x => c3 (x.2 j (by omega)))⟩
      by_cases ei : i = j
      · rw [ei]; exact c3
      · exact hi i (by omega)
  exact key n 0 (Nat.zero_add n) (fun i hi => absurd hi (Nat.not_lt_zero i))
def csW (i j : Nat) : Nat := ([[97, 108, 108], [105, 115], [110, 111, 116], [97, 110, 100], [111, 114], [115, 111]].getD i []).getD j 0
theorem cs_ok : ∀ i, i < 6 → tLen.getD i 0 ≤ 3 ∧ ∀ j, j < tLen.getD i 0 → chr ((tBy.getD i []).getD j 0) = nI (csW i j) ∧ csW i j < 256 := by decide
theorem w_word (d : Nat) (hS : SOK G) (h : TxS M k tx L t) {i : Nat} (hi : i < 6) {s e : Nat} (hse : s ≤ e) (he : e ≤ L) :
    ∃ q, vk_R "EndlessRows$Tokens" (tIx i) (tTx i) q (g_s G) ∧ ∀ Q : Option Value → Mem → Prop, (e = s + tLen.getD i 0 ∧ (∀ j, j < tLen.getD i 0 → byA t L (s + j) = csW i j) → Q (some (.int 1)) M) → (¬ (e = s + tLen.getD i 0 ∧ ∀ j, j < tLen.getD i 0 → byA t L (s + j) = csW i j) → Q (some (.int 0)) M) → Call G (d + 5) 0 0 mX9_isWord [.ref k, .int (nI s), .int (nI e), .ref q] M Q := by
  obtain ⟨q, h1, h2⟩ := hS.2 i hi
  exact ⟨q, h1, fun Q a b => w_isWord d hS.1 h h2 (cs_ok i hi).1 (cs_ok i hi).2 hse he a b⟩
theorem wd3 {s e a b c : Nat} (he : e ≤ L) (f : Nat → Nat) (h0 : f 0 = a) (h1 : f 1 = b) (h2 : f 2 = c) : (e = s + 3 ∧ ∀ j, j < 3 → byA t L (s + j) = f j) ↔ (e = s + 3 ∧ t s = a ∧ t (s + 1) = b ∧ t (s + 2) = c) := by
  refine ⟨fun ⟨x, y⟩ => ?_, fun ⟨x, y0, y1, y2⟩ => ⟨x, fun j hj => ?_⟩⟩
  · have z0 := y 0 (by omega)
    have z1 := y 1 (by omega)
    have z2 := y 2 (by omega)
    rw [byA_in (by omega)] at z0 z1 z2
    exact ⟨x, z0.trans h0, z1.trans h1, z2.trans h2⟩
  · rw [byA_in (by omega)]
    match j, hj with
    | 0, _ => exact y0.trans h0.symm
    | 1, _ => exact y1.trans h1.symm
    | 2, _ => exact y2.trans h2.symm
theorem wd2 {s e a b : Nat} (he : e ≤ L) (f : Nat → Nat) (h0 : f 0 = a) (h1 : f 1 = b) : (e = s + 2 ∧ ∀ j, j < 2 → byA t L (s + j) = f j) ↔ (e = s + 2 ∧ t s = a ∧ t (s + 1) = b) := by
  refine ⟨fun ⟨x, y⟩ => ?_, fun ⟨x, y0, y1⟩ => ⟨x, fun j hj => ?_⟩⟩
  · have z0 := y 0 (by omega)
    have z1 := y 1 (by omega)
    rw [byA_in (by omega)] at z0 z1
    exact ⟨x, z0.trans h0, z1.trans h1⟩
  · rw [byA_in (by omega)]
    match j, hj with
    | 0, _ => exact y0.trans h0.symm
    | 1, _ => exact y1.trans h1.symm
theorem w_key (d : Nat) (hS : SOK G) (h : TxS M k tx L t) {s e : Nat} (hse : s ≤ e) (he : e ≤ L) (hQ : Q (some (.int (nI (kyK t s e)))) M) : Call G (d + 6) 0 0 mX9_key [.ref k, .int (nI s), .int (nI e)] M Q := by
  obtain ⟨q0, z0, y0⟩ := w_word d hS h (show 0 < 6 by omega) hse he
  obtain ⟨q1, z1, y1⟩ := w_word d hS h (show 1 < 6 by omega) hse he
  obtain ⟨q2, z2, y2⟩ := w_word d hS h (show 2 < 6 by omega) hse he
  obtain ⟨q3, z3, y3⟩ := w_word d hS h (show 3 < 6 by omega) hse he
  obtain ⟨q4, z4, y4⟩ := w_word d hS h (show 4 < 6 by omega) hse he
  obtain ⟨q5, z5, y5⟩ := w_word d hS h (show 5 < 6 by omega) hse he
  have e0 := wd3 (t := t) (s := s) (a := 97) (b := 108) (c := 108) he (csW 0) rfl rfl rfl
  have e1 := wd2 (t := t) (s := s) (a := 105) (b := 115) he (csW 1) rfl rfl
  have e2 := wd3 (t := t) (s := s) (a := 110) (b := 111) (c := 116) he (csW 2) rfl rfl rfl
  have e3 := wd3 (t := t) (s := s) (a := 97) (b := 110) (c := 100) he (csW 3) rfl rfl rfl
  have e4 := wd2 (t := t) (s := s) (a := 111) (b := 114) he (csW 4) rfl rfl
  have e5 := wd2 (t := t) (s := s) (a := 115) (b := 111) he (csW 5) rfl rfl
  unfold kyK at hQ
  refine eX9_key k _ _ ⟨q0, z0, h.1, y0 _ (fun c => ⟨1, rfl, fun x => absurd x (by decide), fun _ => ?_⟩) (fun c => ⟨0, rfl, fun _ => ?_, fun x => absurd rfl x⟩)⟩
  · rw [if_pos (e0.mp c)] at hQ
    exact hQ
  rw [if_neg (fun x => c (e0.mpr x))] at hQ
  refine ⟨q1, z1, h.1, y1 _ (fun c => ⟨1, rfl, fun x => absurd x (by decide), fun _ => ?_⟩) (fun c => ⟨0, rfl, fun _ => ?_, fun x => absurd rfl x⟩)⟩
  · rw [if_pos (e1.mp c)] at hQ
    exact hQ
  rw [if_neg (fun x => c (e1.mpr x))] at hQ
  refine ⟨q2, z2, h.1, y2 _ (fun c => ⟨1, rfl, fun x => absurd x (by decide), fun _ => ?_⟩) (fun c => ⟨0, rfl, fun _ => ?_, fun x => absurd rfl x⟩)⟩
  · rw [if_pos (e2.mp c)] at hQ
    exact hQ
  rw [if_neg (fun x => c (e2.mpr x))] at hQ
  refine ⟨q3, z3, h.1, y3 _ (fun c => ⟨1, rfl, fun x => absurd x (by decide), fun _ => ?_⟩) (fun c => ⟨0, rfl, fun _ => ?_, fun x => absurd rfl x⟩)⟩
  · rw [if_pos (e3.mp c)] at hQ
    exact hQ
  rw [if_neg (fun x => c (e3.mpr x))] at hQ
  refine ⟨q4, z4, h.1, y4 _ (fun c => ⟨1, rfl, fun x => absurd x (by decide), fun _ => ?_⟩) (fun c => ⟨0, rfl, fun _ => ?_, fun x => absurd rfl x⟩)⟩
  · rw [if_pos (e4.mp c)] at hQ
    exact hQ
  rw [if_neg (fun x => c (e4.mpr x))] at hQ
  refine ⟨q5, z5, h.1, y5 _ (fun c => ⟨1, rfl, fun x => absurd x (by decide), fun _ => ?_⟩) (fun c => ⟨0, rfl, fun _ => ?_, fun x => absurd rfl x⟩)⟩
  · rw [if_pos (e5.mp c)] at hQ
    exact hQ
  rw [if_neg (fun x => c (e5.mpr x))] at hQ
  exact hQ
theorem w_add (d : Nat) (h : TokS M k) {n : Nat} (hn : n < 121) (h5 : x_i M k 5 = nI n) {a b c : Int32}
    (hQ : ∀ M', Fr M M' [k, k + 1, k + 2, k + 3] → x_i M' k 4 = x_i M k 4 → x_i M' k 5 = nI (n + 1) → x_i M' (k + 1) n = a → x_i M' (k + 2) n = b → x_i M' (k + 3) n = c → (∀ j, j ≠ n → x_i M' (k + 1) j = x_i M (k + 1) j ∧ x_i M' (k + 2) j = x_i M (k + 2) j ∧ x_i M' (k + 3) j = x_i M (k + 3) j) → Q none M') :
    Call G (d + 1) 0 0 mX9_add [.ref k, .int a, .int b, .int c] M Q := by
  obtain ⟨a1, a2, a3, a4, a5, a6, a7⟩ := h
  refine eX9_add k _ _ _ ⟨a1, k + 1, a2, by rw [a5]; exact ⟨by decide, by decide⟩, fun x => absurd x (by rw [h5, a5]; exact nI_ge (a := n) (b := 121) hn (by omega)), fun _ => ⟨by rw [a5], by rw [h5, a5]; exact vp_in_nI hn (by omega), ?_⟩⟩
  rintro M7 rfl
  refine ⟨k + 2, a3, by rw [a6], ?_, ?_⟩
  · rw [xi_na (by omega), h5, a6]; exact vp_in_nI hn (by omega)
  rintro M11 rfl
  refine ⟨k + 3, a4, by rw [a7], ?_, ?_⟩
  · rw [xi_na (by omega), xi_na (by omega), h5, a7]; exact vp_in_nI hn (by omega)
  rintro M15 rfl M16 rfl
  have hc : (nI n).toNatClampNeg = n := nI_clamp (by omega)
  refine hQ _ ((((Fr.rf.si (by simp)).si (by simp)).si (by simp)).si (by simp)) ?_ ?_ ?_ ?_ ?_ (fun j hj => ⟨?_, ?_, ?_⟩)
  · simp (disch := omega) only [ne_eq, true_and, and_true, false_and, and_false, true_or, or_true, false_or, or_false, not_true_eq_false, not_false_eq_true, forall_eq, exists_eq_left, exists_eq_left', exists_eq_right, true_implies, false_implies, implies_true, forall_const, Option.some.injEq, Value.int.injEq, Value.long.injEq, Value.ref.injEq, reduceCtorEq, exists_const, and_self, s_lit, s_m1, s_add, s_mul, s_sub, s_lt, s_le, s_eq, s_nm1, s_m1n, s_eqm1, s_cl, s_in, s_ltm1, s_div, s_rem, s_rem2, s_hsi, s_rsi, s_lsi, s_nsi, s_hsl, s_rsl, s_isl, s_nsl, xi_eq, xi_na, xi_nk, xl_eq, xl_na, xl_nk, s_k18, s_hfi, s_rfi, s_lfi, s_nfi, s_hfl, s_rfl, s_ifl, s_nfl, xf_in, xf_na, xf_nk, xg_in, xg_na, xg_nk, h5, hc]
  · simp (disch := omega) only [ne_eq, true_and, and_true, false_and, and_false, true_or, or_true, false_or, or_false, not_true_eq_false, not_false_eq_true, forall_eq, exists_eq_left, exists_eq_left', exists_eq_right, true_implies, false_implies, implies_true, forall_const, Option.some.injEq, Value.int.injEq, Value.long.injEq, Value.ref.injEq, reduceCtorEq, exists_const, and_self, s_lit, s_m1, s_add, s_mul, s_sub, s_lt, s_le, s_eq, s_nm1, s_m1n, s_eqm1, s_cl, s_in, s_ltm1, s_div, s_rem, s_rem2, s_hsi, s_rsi, s_lsi, s_nsi, s_hsl, s_rsl, s_isl, s_nsl, xi_eq, xi_na, xi_nk, xl_eq, xl_na, xl_nk, s_k18, s_hfi, s_rfi, s_lfi, s_nfi, s_hfl, s_rfl, s_ifl, s_nfl, xf_in, xf_na, xf_nk, xg_in, xg_na, xg_nk, h5, hc]
  · simp (disch := omega) only [ne_eq, true_and, and_true, false_and, and_false, true_or, or_true, false_or, or_false, not_true_eq_false, not_false_eq_true, forall_eq, exists_eq_left, exists_eq_left', exists_eq_right, true_implies, false_implies, implies_true, forall_const, Option.some.injEq, Value.int.injEq, Value.long.injEq, Value.ref.injEq, reduceCtorEq, exists_const, and_self, s_lit, s_m1, s_add, s_mul, s_sub, s_lt, s_le, s_eq, s_nm1, s_m1n, s_eqm1, s_cl, s_in, s_ltm1, s_div, s_rem, s_rem2, s_hsi, s_rsi, s_lsi, s_nsi, s_hsl, s_rsl, s_isl, s_nsl, xi_eq, xi_na, xi_nk, xl_eq, xl_na, xl_nk, s_k18, s_hfi, s_rfi, s_lfi, s_nfi, s_hfl, s_rfl, s_ifl, s_nfl, xf_in, xf_na, xf_nk, xg_in, xg_na, xg_nk, h5, hc]
  · simp (disch := omega) only [ne_eq, true_and, and_true, false_and, and_false, true_or, or_true, false_or, or_false, not_true_eq_false, not_false_eq_true, forall_eq, exists_eq_left, exists_eq_left', exists_eq_right, true_implies, false_implies, implies_true, forall_const, Option.some.injEq, Value.int.injEq, Value.long.injEq, Value.ref.injEq, reduceCtorEq, exists_const, and_self, s_lit, s_m1, s_add, s_mul, s_sub, s_lt, s_le, s_eq, s_nm1, s_m1n, s_eqm1, s_cl, s_in, s_ltm1, s_div, s_rem, s_rem2, s_hsi, s_rsi, s_lsi, s_nsi, s_hsl, s_rsl, s_isl, s_nsl, xi_eq, xi_na, xi_nk, xl_eq, xl_na, xl_nk, s_k18, s_hfi, s_rfi, s_lfi, s_nfi, s_hfl, s_rfl, s_ifl, s_nfl, xf_in, xf_na, xf_nk, xg_in, xg_na, xg_nk, h5, hc]
  · simp (disch := omega) only [ne_eq, true_and, and_true, false_and, and_false, true_or, or_true, false_or, or_false, not_true_eq_false, not_false_eq_true, forall_eq, exists_eq_left, exists_eq_left', exists_eq_right, true_implies, false_implies, implies_true, forall_const, Option.some.injEq, Value.int.injEq, Value.long.injEq, Value.ref.injEq, reduceCtorEq, exists_const, and_self, s_lit, s_m1, s_add, s_mul, s_sub, s_lt, s_le, s_eq, s_nm1, s_m1n, s_eqm1, s_cl, s_in, s_ltm1, s_div, s_rem, s_rem2, s_hsi, s_rsi, s_lsi, s_nsi, s_hsl, s_rsl, s_isl, s_nsl, xi_eq, xi_na, xi_nk, xl_eq, xl_na, xl_nk, s_k18, s_hfi, s_rfi, s_lfi, s_nfi, s_hfl, s_rfl, s_ifl, s_nfl, xf_in, xf_na, xf_nk, xg_in, xg_na, xg_nk, h5, hc]
  · simp (disch := omega) only [ne_eq, true_and, and_true, false_and, and_false, true_or, or_true, false_or, or_false, not_true_eq_false, not_false_eq_true, forall_eq, exists_eq_left, exists_eq_left', exists_eq_right, true_implies, false_implies, implies_true, forall_const, Option.some.injEq, Value.int.injEq, Value.long.injEq, Value.ref.injEq, reduceCtorEq, exists_const, and_self, s_lit, s_m1, s_add, s_mul, s_sub, s_lt, s_le, s_eq, s_nm1, s_m1n, s_eqm1, s_cl, s_in, s_ltm1, s_div, s_rem, s_rem2, s_hsi, s_rsi, s_lsi, s_nsi, s_hsl, s_rsl, s_isl, s_nsl, xi_eq, xi_na, xi_nk, xl_eq, xl_na, xl_nk, s_k18, s_hfi, s_rfi, s_lfi, s_nfi, s_hfl, s_rfl, s_ifl, s_nfl, xf_in, xf_na, xf_nk, xg_in, xg_na, xg_nk, h5, hc]
  · simp (disch := omega) only [ne_eq, true_and, and_true, false_and, and_false, true_or, or_true, false_or, or_false, not_true_eq_false, not_false_eq_true, forall_eq, exists_eq_left, exists_eq_left', exists_eq_right, true_implies, false_implies, implies_true, forall_const, Option.some.injEq, Value.int.injEq, Value.long.injEq, Value.ref.injEq, reduceCtorEq, exists_const, and_self, s_lit, s_m1, s_add, s_mul, s_sub, s_lt, s_le, s_eq, s_nm1, s_m1n, s_eqm1, s_cl, s_in, s_ltm1, s_div, s_rem, s_rem2, s_hsi, s_rsi, s_lsi, s_nsi, s_hsl, s_rsl, s_isl, s_nsl, xi_eq, xi_na, xi_nk, xl_eq, xl_na, xl_nk, s_k18, s_hfi, s_rfi, s_lfi, s_nfi, s_hfl, s_rfl, s_ifl, s_nfl, xf_in, xf_na, xf_nk, xg_in, xg_na, xg_nk, h5, hc]
  · simp (disch := omega) only [ne_eq, true_and, and_true, false_and, and_false, true_or, or_true, false_or, or_false, not_true_eq_false, not_false_eq_true, forall_eq, exists_eq_left, exists_eq_left', exists_eq_right, true_implies, false_implies, implies_true, forall_const, Option.some.injEq, Value.int.injEq, Value.long.injEq, Value.ref.injEq, reduceCtorEq, exists_const, and_self, s_lit, s_m1, s_add, s_mul, s_sub, s_lt, s_le, s_eq, s_nm1, s_m1n, s_eqm1, s_cl, s_in, s_ltm1, s_div, s_rem, s_rem2, s_hsi, s_rsi, s_lsi, s_nsi, s_hsl, s_rsl, s_isl, s_nsl, xi_eq, xi_na, xi_nk, xl_eq, xl_na, xl_nk, s_k18, s_hfi, s_rfi, s_lfi, s_nfi, s_hfl, s_rfl, s_ifl, s_nfl, xf_in, xf_na, xf_nk, xg_in, xg_na, xg_nk, h5, hc]
end TokC
