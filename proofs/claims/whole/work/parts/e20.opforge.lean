/-! ===== both alike: forge ===== -/
section OpForge2
variable {G : GG} {M M' : Mem} {e m b : Nat} {S S' : Sg} {R K : Nat → Mc} {Q : Option Value → Mem → Prop}
theorem ur_rowTaken (d : Nat) (hS : ReS M m) (hW : SgW S) (hB : ReB M m S) (hR : ReRw M m S R) {r kd : Nat} (hr : r < 10) (hkd : kd < 5) (hQ : Q (some (.int (fgRow S r kd).1)) (x_si M m 22 (fgRow S r kd).2)) : Call G (d + 3) 0 0 mX12_rowTaken [.ref m, .int (nI r), .int (nI kd)] M Q := by
  have hrc := hW.2.2.2.2.1
  have refuse : ∀ c, fgRow S r kd = (-1, c) → Call G (d + 2) 0 0 mX12_refused [.ref m, .int c] M (fun r6 M7 => ∃ v8 : Int32, r6 = some (.int v8) ∧ Q (some (.int v8)) M7) := fun c h => u_refused (d + 1) hS ⟨_, rfl, by rw [h] at hQ; exact hQ⟩
  have done : ∀ v, fgRow S r kd = (v, 0) → Call G (d + 2) 0 0 mX12_done [.ref m, .int v] M (fun r6 M7 => ∃ v8 : Int32, r6 = some (.int v8) ∧ Q (some (.int v8)) M7) := fun c h => u_done (d + 1) hS ⟨_, rfl, by rw [h] at hQ; exact hQ⟩
  refine eX12_rowTaken m _ _ ⟨hS.1, ur_isRow d hS hB.2.1 hrc (fun h => ⟨0, rfl, fun c => absurd rfl c, fun _ => ⟨hS.1, refuse _ ?_⟩⟩) (fun k hk ek => ⟨1, rfl, fun _ => ?_, fun c => absurd c (by decide)⟩)⟩
  · unfold fgRow
    rw [if_neg (fun c => h r c rfl)]
  have c : r < y_rc S := by
    have := nI_same ek rfl (by omega) (by omega)
    omega
  have k4 := hW.2.2.2.2.2.1 r c
  have yes : (kd = 0 ∨ kd = y_kd S r ∨ kd = 1 ∧ y_kd S r = 2) → fgRow S r kd = (nI (y_kd S r), 0) := fun h => by unfold fgRow; rw [if_pos c, if_pos h]
  have no : ¬ (kd = 0 ∨ kd = y_kd S r ∨ kd = 1 ∧ y_kd S r = 2) → fgRow S r kd = (-1, 11) := fun h => by unfold fgRow; rw [if_pos c, if_neg h]
  have kr := (hR r c).1
  rw [nI_clamp (by omega), show (0 : Int32) = nI 0 from rfl, show (1 : Int32) = nI 1 from rfl, show (2 : Int32) = nI 2 from rfl]
  simp only [nI_eq (show kd < 2 ^ 31 by omega) (show 0 < 2 ^ 31 by omega), nI_eq (show kd < 2 ^ 31 by omega) (show 1 < 2 ^ 31 by omega), nI_eq (show (1:Nat) < 2 ^ 31 by omega) (show 0 < 2 ^ 31 by omega)]
  refine ⟨fun h0 => ⟨fun z => absurd z (by omega), fun _ => ⟨hS.1, m + 1, hS.r1, by rw [hS.h1], by rw [hS.h1]; exact vp_in_nI (show r < 10 by omega) (by omega), ?_⟩⟩, fun n0 => ⟨hS.1, m + 1, hS.r1, by rw [hS.h1], by rw [hS.h1]; exact vp_in_nI (show r < 10 by omega) (by omega), ?_⟩⟩
  · rw [kr]; exact done _ (yes (Or.inl h0))
  rw [kr, nI_eq (show y_kd S r < 2 ^ 31 by omega) (show 2 < 2 ^ 31 by omega), nI_eq (show kd < 2 ^ 31 by omega) (show y_kd S r < 2 ^ 31 by omega)]
  exact ⟨fun h => ⟨fun z => absurd z (by omega), fun _ => done _ (yes (Or.inr (Or.inl h)))⟩, fun h => ⟨fun n1 => ⟨fun _ => refuse _ (no (by omega)), fun z => absurd trivial z⟩, fun h1 => ⟨fun n2 => ⟨fun _ => refuse _ (no (by omega)), fun z => absurd trivial z⟩, fun h2 => ⟨fun z => absurd z (by omega), fun _ => done _ (yes (Or.inr (Or.inr ⟨h1, h2⟩)))⟩⟩⟩⟩
theorem ur_modulo (d : Nat) {x k : Int32} {r : Nat} (hk : ¬ k = 0) (h : ((x - x / k * k) + k) - ((x - x / k * k) + k) / k * k = nI r) (hQ : Q (some (.int (nI r))) M) : Call G (d + 1) 0 0 mX12_modulo [.int x, .int k] M Q :=
  eX12_modulo _ _ ⟨hk, hk, by rw [h]; exact hQ⟩
theorem ur_copied (d : Nat) (hS : ReS M m) (hH : ReH M m S) {s k : Nat} (hs : s < 6) (hk : k ≤ 2) (hQ : Q (some (.int (nI (cpS (y_cf S s) k)))) M) : Call G (d + 1) 0 0 mX12_copied [.ref m, .int (nI s), .int (nI k)] M Q := by
  have loop : ∀ r c, r + c = k → LX12_copied_5 G d 0 0 m (nI s) (nI k) (nI (cpS (y_cf S s) c)) (nI (2 + c)) M Q := by
    intro r
    induction r with
    | zero =>
      intro c hc
      have ec : c = k := by omega
      subst ec
      refine vX12_copied_5 _ _ _ _ _ ⟨fun _ => hQ, fun h => absurd ?_ h⟩
      rw [show (2 : Int32) = nI 2 from rfl, nI_add, nI_leI (by omega) (by omega)]
      omega
    | succ r ih =>
      intro c hc
      have ea : (40 * nI s) + nI (2 + c) = nI (40 * s + (2 + c)) := by rw [show (40 : Int32) = nI 40 from rfl, s_mul, nI_add]
      refine vX12_copied_5 _ _ _ _ _ ⟨fun h => ?_, fun _ => ⟨hS.1, m + 18, hS.r18, by rw [hS.h18], by rw [hS.h18, ea]; exact vp_in_nI (show 40 * s + (2 + c) < 240 by omega) (by omega), ?_⟩⟩
      · rw [show (2 : Int32) = nI 2 from rfl, nI_add, nI_leI (by omega) (by omega)] at h
        omega
      · rw [ea, nI_clamp (by omega), (hH s hs).2.2 (2 + c) (by omega), nI_add, nI_1]
        exact ih (c + 1) (by omega)
  exact eX12_copied m _ _ (loop k 0 (by omega))
theorem ur_forge (d : Nat) (hS : ReS M m) (hW : SgW S) (hB : ReB M m S) (hH : ReH M m S) (hR : ReRw M m S R) {a n k : Int32} (hQ0 : ¬ fgIn a n k → Q (some (.int (-1))) (x_si M m 22 1)) (hQ1 : fgIn a n k → Q (some (.int (fgO S a n k).1)) (x_si M m 22 (fgO S a n k).2)) : Call G (d + 4) 0 0 mX12_forge [.ref m, .int a, .int n, .int k] M Q := by
  have hrc := hW.2.2.2.2.1
  have bad : ¬ fgIn a n k → Call G (d + 3) 0 0 mX12_refused [.ref m, .int 1] M (fun r6 M7 => ∃ v8 : Int32, r6 = some (.int v8) ∧ Q (some (.int v8)) M7) := fun h => u_refused (d + 2) hS ⟨_, rfl, hQ0 h⟩
  refine eX12_forge m a n k (u_inI (d + 2) (x := a) (y := 0) (z := 6) (by omega) (by omega) (by omega) (by omega) ?_)
  by_cases i1 : (0 : Int) ≤ a.toInt ∧ a.toInt ≤ 6
  case neg =>
    rw [if_neg i1]
    exact ⟨0, rfl, fun _ => ⟨hS.1, bad (fun c => i1 c.1)⟩, fun c => absurd rfl c⟩
  rw [if_pos i1]
  refine ⟨1, rfl, fun c => absurd c (by decide), fun _ => ?_⟩
  refine u_inI (d + 2) (x := n) (y := -100) (z := 100) (by omega) (by omega) (by omega) (by omega) ?_
  by_cases i2 : (-100 : Int) ≤ n.toInt ∧ n.toInt ≤ 100
  case neg =>
    rw [if_neg i2]
    exact ⟨0, rfl, fun _ => ⟨hS.1, bad (fun c => i2 c.2.1)⟩, fun c => absurd rfl c⟩
  rw [if_pos i2]
  refine ⟨1, rfl, fun c => absurd c (by decide), fun _ => ?_⟩
  refine u_inI (d + 2) (x := k) (y := -100) (z := 100) (by omega) (by omega) (by omega) (by omega) ?_
  by_cases i3 : (-100 : Int) ≤ k.toInt ∧ k.toInt ≤ 100
  case neg =>
    rw [if_neg i3]
    exact ⟨0, rfl, fun c => absurd rfl c, fun _ => ⟨hS.1, bad (fun c => i3 c.2.2)⟩⟩
  rw [if_pos i3]
  refine ⟨1, rfl, fun _ => ?_, fun c => absurd c (by decide)⟩
  have hQ := hQ1 ⟨i1, i2, i3⟩
  have refuse : ∀ c, fgO S a n k = (-1, c) → Call G (d + 3) 0 0 mX12_refused [.ref m, .int c] M (fun r6 M7 => ∃ v8 : Int32, r6 = some (.int v8) ∧ Q (some (.int v8)) M7) := fun c h => u_refused (d + 2) hS ⟨_, rfl, by rw [h] at hQ; exact hQ⟩
  have done : ∀ v, fgO S a n k = (v, 0) → Call G (d + 3) 0 0 mX12_done [.ref m, .int v] M (fun r6 M7 => ∃ v8 : Int32, r6 = some (.int v8) ∧ Q (some (.int v8)) M7) := fun c h => u_done (d + 2) hS ⟨_, rfl, by rw [h] at hQ; exact hQ⟩
  obtain ⟨jk, ejk⟩ := fm_rng i3.1 i3.2
  obtain ⟨jn, ejn⟩ := fm_rng i2.1 i2.2
  have m10 := (fm_r10 jk).1
  have m6 := (fm_r6 jk).1
  have m5 := (fm_r5 jn).1
  have m2 := (fm_r2 jn).1
  simp only [← ejk] at m10 m6
  simp only [← ejn] at m5 m2
  have l10 : fm_ k 10 < 10 := fm_lt (by omega)
  have l6 : fm_ k 6 < 6 := fm_lt (by omega)
  have l5 : fm_ n 5 < 5 := fm_lt (by omega)
  obtain ⟨z1, z2, z3, z4⟩ := hW.2.2.2.1 _ l6
  obtain ⟨h1, h2, h3⟩ := hH _ l6
  refine ur_modulo (d + 2) (by decide) m10 ⟨_, rfl, ur_modulo (d + 2) (by decide) m6 ⟨_, rfl, fun c0 => ?_, fun c1 => ?_, fun c2 => ?_, fun c3 => ?_, fun c4 => ?_, fun c5 => ?_, fun nn => ?_⟩⟩
  · refine ur_modulo (d + 2) (by decide) m5 ⟨_, rfl, hS.1, ur_rowTaken d hS hW hB hR l10 l5 ⟨_, rfl, ?_⟩⟩
    have : fgO S a n k = fgRow S (fm_ k 10) (fm_ n 5) := by unfold fgO; rw [if_pos c0]
    rw [this] at hQ
    exact hQ
  · subst c1
    exact ⟨fun h => ⟨hS.1, done _ (by unfold fgO; rw [if_neg (by decide), if_pos rfl, if_pos h])⟩, fun h => ⟨hS.1, refuse _ (by unfold fgO; rw [if_neg (by decide), if_pos rfl, if_neg h])⟩⟩
  · subst c2
    have eO : fgO S 2 n k = fgNum S (fm_ k 6) n := by unfold fgO; rw [if_neg (by decide), if_neg (by decide), if_pos rfl]
    refine ⟨hS.1, m + 16, hS.r16, by rw [hS.h16], by rw [hS.h16]; exact vp_in_nI l6 (by omega), ?_⟩
    rw [nI_clamp (by omega), h1]
    refine ⟨fun n1 => ⟨fun c1 => ⟨m + 17, hS.r17, by rw [hS.h17], by rw [hS.h17]; exact vp_in_nI l6 (by omega), ?_⟩, fun c1 => refuse _ (by rw [eO]; unfold fgNum; rw [if_neg n1, if_neg c1])⟩, fun c1 => refuse _ (by rw [eO]; unfold fgNum; rw [if_pos c1])⟩
    rw [h2]
    refine ur_in0 (d + 2) (by omega) (fun h => ⟨0, rfl, fun _ => ⟨hS.1, refuse _ ?_⟩, fun c => absurd rfl c⟩) (fun i hi ei => ⟨1, rfl, fun c => absurd c (by decide), fun _ => ⟨hS.1, m + 18, hS.r18, by rw [hS.h18], ?_, ?_⟩⟩)
    · rw [eO]
      unfold fgNum
      rw [if_neg n1, if_pos c1, if_neg (fun c => ?_)]
      obtain ⟨i, hi, ei⟩ := nI_ofInt (x := n) (n := y_sz S (fm_ k 6)) c.1 (by omega) (by omega)
      exact h i hi ei
    · rw [hS.h18, ei, show (40 : Int32) = nI 40 from rfl, s_mul, nI_add]
      exact vp_in_nI (show 40 * fm_ k 6 + i < 240 by omega) (by omega)
    · rw [ei, show (40 : Int32) = nI 40 from rfl, s_mul, nI_add, nI_clamp (by omega), h3 i (by omega)]
      refine done _ ?_
      rw [eO]
      unfold fgNum
      rw [ei, nI_toInt (by omega), if_neg n1, if_pos c1, if_pos (by omega)]
      rfl
  · subst c3
    have eO : fgO S 3 n k = fgCopy S (fm_ k 6) n := by unfold fgO; rw [if_neg (by decide), if_neg (by decide), if_neg (by decide), if_pos rfl]
    refine ⟨hS.1, m + 16, hS.r16, by rw [hS.h16], by rw [hS.h16]; exact vp_in_nI l6 (by omega), ?_⟩
    rw [nI_clamp (by omega), h1]
    refine ⟨fun n1 => ⟨fun c1 => ?_, fun c1 => refuse _ (by rw [eO]; unfold fgCopy; rw [if_neg n1, if_neg c1])⟩, fun c1 => refuse _ (by rw [eO]; unfold fgCopy; rw [if_pos c1])⟩
    refine u_inI (d + 2) (x := n) (y := 0) (z := 2) (by omega) (by omega) (by omega) (by omega) ?_
    by_cases i4 : (0 : Int) ≤ n.toInt ∧ n.toInt ≤ 2
    · rw [if_pos i4]
      refine ⟨1, rfl, fun c => absurd c (by decide), fun _ => ⟨hS.1, m + 17, hS.r17, by rw [hS.h17], by rw [hS.h17]; exact vp_in_nI l6 (by omega), ?_⟩⟩
      obtain ⟨i, hi, ei⟩ := nI_ofInt (x := n) (n := 3) (by omega) (by omega) (by omega)
      have et : n.toInt = (i : Int) := by rw [ei, nI_toInt (by omega)]
      rw [h2, ei, show (2 : Int32) = nI 2 from rfl, nI_add, nI_ltI (by omega) (by omega), ← ei]
      refine ⟨fun c => refuse _ (by rw [eO]; unfold fgCopy; rw [if_neg n1, if_pos c1, if_neg (by omega)]), fun c => ?_⟩
      rw [ei]
      refine ur_copied (d + 2) hS hH l6 (by omega) ⟨_, rfl, hS.1, done _ ?_⟩
      rw [eO]
      unfold fgCopy
      rw [if_neg n1, if_pos c1, if_pos (by omega), et]
      rfl
    · rw [if_neg i4]
      exact ⟨0, rfl, fun _ => ⟨hS.1, refuse _ (by rw [eO]; unfold fgCopy; rw [if_neg n1, if_pos c1, if_neg (by omega)])⟩, fun c => absurd rfl c⟩
  · subst c4
    have eO : fgO S 4 n k = fgSt S (fm_ k 10) := by unfold fgO; rw [if_neg (by decide), if_neg (by decide), if_neg (by decide), if_neg (by decide), if_pos rfl]
    refine ⟨hS.1, ur_isRow (d + 1) hS hB.2.1 hrc (fun h => ⟨0, rfl, fun c => absurd rfl c, fun _ => ⟨hS.1, done _ ?_⟩⟩) (fun i hi ei => ⟨1, rfl, fun _ => ⟨hS.1, ?_⟩, fun c => absurd c (by decide)⟩)⟩
    · rw [eO]
      unfold fgSt
      rw [if_neg (fun c => h _ c rfl)]
    have c : fm_ k 10 < y_rc S := by
      have := nI_same ei rfl (by omega) (by omega)
      omega
    have k4 := hW.2.2.2.2.2.1 _ c
    have kr := (hR _ c).1
    have yes : (y_kd S (fm_ k 10) = 1 ∨ y_kd S (fm_ k 10) = 2) → fgO S 4 n k = (nI (y_kd S (fm_ k 10)), 0) := fun h => by rw [eO]; unfold fgSt; rw [if_pos c, if_pos h]
    have no : ¬ (y_kd S (fm_ k 10) = 1 ∨ y_kd S (fm_ k 10) = 2) → fgO S 4 n k = (-1, 14) := fun h => by rw [eO]; unfold fgSt; rw [if_pos c, if_neg h]
    have tail : (y_kd S (fm_ k 10) = 1 ∨ y_kd S (fm_ k 10) = 2) → ∃ b128, x_r M m 2 = some b128 ∧ (x_h M b128).1 = 1 ∧ vp_in (nI (fm_ k 10)) (x_h M b128).2 ∧ Call G (d + 3) 0 0 mX12_done [.ref m, .int (x_i M b128 (fm_ k 10))] M (fun r131 M132 => ∃ v133 : Int32, r131 = some (.int v133) ∧ Q (some (.int v133)) M132) := fun h => ⟨m + 1, hS.r1, by rw [hS.h1], by rw [hS.h1]; exact vp_in_nI l10 (by omega), by rw [kr]; exact done _ (yes h)⟩
    refine eX12_isGrown m _ ⟨hS.1, m + 1, hS.r1, by rw [hS.h1], by rw [hS.h1]; exact vp_in_nI l10 (by omega), ?_⟩
    rw [nI_clamp (by omega), kr, show (1 : Int32) = nI 1 from rfl, show (2 : Int32) = nI 2 from rfl, nI_eq (by omega) (by omega), nI_eq (by omega) (by omega)]
    exact ⟨fun h1 => ⟨nI 1, rfl, fun z => absurd z (by decide), fun _ => ⟨hS.1, tail (Or.inl h1)⟩⟩, fun n1 => ⟨fun n2 => ⟨0, rfl, fun _ => ⟨hS.1, refuse _ (no (by omega))⟩, fun z => absurd rfl z⟩, fun h2 => ⟨nI 1, rfl, fun z => absurd z (by decide), fun _ => ⟨hS.1, tail (Or.inr h2)⟩⟩⟩⟩
  · subst c5
    have eO : fgO S 5 n k = if n = 0 then (-1, 15) else (1000 / n, 0) := by unfold fgO; rw [if_neg (by decide), if_neg (by decide), if_neg (by decide), if_neg (by decide), if_neg (by decide), if_pos rfl]
    exact ⟨fun h => ⟨h, hS.1, done _ (by rw [eO, if_neg h])⟩, fun h => ⟨hS.1, refuse _ (by rw [eO, if_pos h])⟩⟩
  · obtain ⟨n0, n1, n2, n3, n4, n5⟩ := nn
    have eO : fgO S a n k = if fm_ n 2 = 0 then (-1, 10) else (1, 0) := by unfold fgO; rw [if_neg n0, if_neg n1, if_neg n2, if_neg n3, if_neg n4, if_neg n5]
    have l2 : fm_ n 2 < 2 := fm_lt (by omega)
    rw [m2, show (0 : Int32) = nI 0 from rfl, nI_eq (by omega) (by omega)]
    exact ⟨fun h => ⟨hS.1, done _ (by rw [eO, if_neg h])⟩, fun h => ⟨hS.1, refuse _ (by rw [eO, if_pos h])⟩⟩
theorem w_forge (d : Nat) (hS : CoS M e) (hW : SgW S) (hB : CoB M e S) (hH : CoH M e S) (hR : CoR M e S R) {a n k : Int32} (hQ0 : ¬ fgIn a n k → Q (some (.int (-1))) (x_si M e 15 1)) (hQ1 : fgIn a n k → Q (some (.int (fgO S a n k).1)) (x_si M e 15 (fgO S a n k).2)) : Call G (d + 4) 0 0 mX11_forge [.ref e, .int a, .int n, .int k] M Q := by
  have a1 := hS.1
  have bad : ¬ fgIn a n k → Call G (d + 3) 0 0 mX11_refuse [.ref e, .int 1] M (fun r6 M7 => ∃ v8 : Int32, r6 = some (.int v8) ∧ Q (some (.int v8)) M7) := fun h => w_refuse (d + 2) a1 ⟨_, rfl, hQ0 h⟩
  have i6 : (6 : Int32).toInt = 6 := rfl
  have i100 : (100 : Int32).toInt = 100 := rfl
  have im100 : (-100 : Int32).toInt = -100 := rfl
  refine eX11_forge e a n k ⟨fun c => ⟨a1, bad (fun z => ?_)⟩, fun u1 => ⟨fun c => ⟨a1, bad (fun z => ?_)⟩, fun u2 => ⟨fun c => ⟨a1, bad (fun z => ?_)⟩, fun u3 => ⟨fun c => ⟨a1, bad (fun z => ?_)⟩, fun u4 => ⟨fun c => ⟨a1, bad (fun z => ?_)⟩, fun u5 => ⟨fun u6 => ?_, fun c => ⟨a1, bad (fun z => ?_)⟩⟩⟩⟩⟩⟩⟩
  · rw [n_int0] at c; have := z.1; omega
  · rw [Int32.lt_iff_toInt_lt, i6] at c; have := z.1; omega
  · rw [Int32.lt_iff_toInt_lt, im100] at c; have := z.2.1; omega
  · rw [Int32.lt_iff_toInt_lt, i100] at c; have := z.2.1; omega
  · rw [Int32.lt_iff_toInt_lt, im100] at c; have := z.2.2; omega
  rotate_left
  · rw [Int32.le_iff_toInt_le, i100] at c; have := z.2.2; omega
  rw [n_int0] at u1
  rw [Int32.lt_iff_toInt_lt, i6] at u2
  rw [Int32.lt_iff_toInt_lt, im100] at u3 u5
  rw [Int32.lt_iff_toInt_lt, i100] at u4
  rw [Int32.le_iff_toInt_le, i100] at u6
  have i1 : 0 ≤ a.toInt ∧ a.toInt ≤ 6 := by omega
  have i2 : -100 ≤ n.toInt ∧ n.toInt ≤ 100 := by omega
  have i3 : -100 ≤ k.toInt ∧ k.toInt ≤ 100 := by omega
  have hQ := hQ1 ⟨i1, i2, i3⟩
  have refuse : ∀ c, fgO S a n k = (-1, c) → Call G (d + 3) 0 0 mX11_refuse [.ref e, .int c] M (fun r6 M7 => ∃ v8 : Int32, r6 = some (.int v8) ∧ Q (some (.int v8)) M7) := fun c h => w_refuse (d + 2) a1 ⟨_, rfl, by rw [h] at hQ; exact hQ⟩
  have done : ∀ v, fgO S a n k = (v, 0) → Call G (d + 3) 0 0 mX11_done [.ref e, .int v] M (fun r6 M7 => ∃ v8 : Int32, r6 = some (.int v8) ∧ Q (some (.int v8)) M7) := fun c h => w_done (d + 2) a1 ⟨_, rfl, by rw [h] at hQ; exact hQ⟩
  obtain ⟨jk, ejk⟩ := fm_rng i3.1 i3.2
  obtain ⟨jn, ejn⟩ := fm_rng i2.1 i2.2
  have m10 := (fm_r10 jk).2
  have m6 := (fm_r6 jk).2
  have m5 := (fm_r5 jn).2
  have m2 := (fm_r2 jn).2
  simp only [← ejk] at m10 m6
  simp only [← ejn] at m5 m2
  have l10 : fm_ k 10 < 10 := fm_lt (by omega)
  have l6 : fm_ k 6 < 6 := fm_lt (by omega)
  have l5 : fm_ n 5 < 5 := fm_lt (by omega)
  refine w_floorMod (d + 2) (by decide) m10 ⟨_, rfl, w_floorMod (d + 2) (by decide) m6 ⟨_, rfl, fun c0 => ?_, fun c1 => ?_, fun c2 => ?_, fun c3 => ?_, fun c4 => ?_, fun c5 => ?_, fun nn => ?_⟩⟩
  · refine w_floorMod (d + 2) (by decide) m5 ⟨_, rfl, a1, w_forgeKind (d + 1) hS hW hB hR l10 l5 ⟨_, rfl, ?_⟩⟩
    have : fgO S a n k = fgRow S (fm_ k 10) (fm_ n 5) := by unfold fgO; rw [if_pos c0]
    rw [this] at hQ
    exact hQ
  · subst c1
    exact ⟨fun h => ⟨a1, done _ (by unfold fgO; rw [if_neg (by decide), if_pos rfl, if_pos h])⟩, fun h => ⟨a1, refuse _ (by unfold fgO; rw [if_neg (by decide), if_pos rfl, if_neg h])⟩⟩
  · subst c2
    have eO : fgO S 2 n k = fgNum S (fm_ k 6) n := by unfold fgO; rw [if_neg (by decide), if_neg (by decide), if_pos rfl]
    rw [eO] at hQ
    exact ⟨a1, w_forgeNumber (d + 1) hS hW hH l6 ⟨_, rfl, hQ⟩⟩
  · subst c3
    have eO : fgO S 3 n k = fgCopy S (fm_ k 6) n := by unfold fgO; rw [if_neg (by decide), if_neg (by decide), if_neg (by decide), if_pos rfl]
    rw [eO] at hQ
    exact ⟨a1, w_forgeCopy (d + 1) hS hW hH l6 i2.1 i2.2 ⟨_, rfl, hQ⟩⟩
  · subst c4
    have eO : fgO S 4 n k = fgSt S (fm_ k 10) := by unfold fgO; rw [if_neg (by decide), if_neg (by decide), if_neg (by decide), if_neg (by decide), if_pos rfl]
    rw [eO] at hQ
    exact ⟨a1, w_forgeStore (d + 1) hS hW hB hR l10 ⟨_, rfl, hQ⟩⟩
  · subst c5
    have eO : fgO S 5 n k = if n = 0 then (-1, 15) else (1000 / n, 0) := by unfold fgO; rw [if_neg (by decide), if_neg (by decide), if_neg (by decide), if_neg (by decide), if_neg (by decide), if_pos rfl]
    exact ⟨fun h => ⟨h, a1, done _ (by rw [eO, if_neg h])⟩, fun h => ⟨a1, refuse _ (by rw [eO, if_pos h])⟩⟩
  · obtain ⟨n0, n1, n2, n3, n4, n5⟩ := nn
    have eO : fgO S a n k = if fm_ n 2 = 0 then (-1, 10) else (1, 0) := by unfold fgO; rw [if_neg n0, if_neg n1, if_neg n2, if_neg n3, if_neg n4, if_neg n5]
    have l2 : fm_ n 2 < 2 := fm_lt (by omega)
    refine w_floorMod (d + 2) (by decide) m2 ⟨_, rfl, ?_⟩
    rw [show (0 : Int32) = nI 0 from rfl, nI_eq (by omega) (by omega)]
    exact ⟨fun h => ⟨a1, done _ (by rw [eO, if_neg h])⟩, fun h => ⟨a1, refuse _ (by rw [eO, if_pos h])⟩⟩
theorem op_forge (d : Nat) {a n k : Int32} : COp G (d + 4) e m mX11_forge mX12_forge [.int a, .int n, .int k] := by
  intro M hC0
  obtain ⟨hem, S, R, K, hW, hM, hCo, hRe⟩ := hC0.one
  obtain ⟨cS, cB, cT, cH, cR, cQ, cA⟩ := hCo
  refine w_forge d cS hW cB cH cR (fun h => ?_) (fun h => ?_)
  · refine ⟨_, rfl, ?_⟩
    obtain ⟨rS, rB, rT, rH, rR, rQ, rA⟩ := hRe.lo (q := e) (k := 15) (v := 1) (by omega)
    exact ur_forge d rS hW rB rH rR (fun _ => ⟨rfl, hC0.st2⟩) (fun h2 => absurd h2 h)
  · refine ⟨_, rfl, ?_⟩
    obtain ⟨rS, rB, rT, rH, rR, rQ, rA⟩ := hRe.lo (q := e) (k := 15) (v := (fgO S a n k).2) (by omega)
    exact ur_forge d rS hW rB rH rR (fun h2 => absurd h h2) (fun _ => ⟨rfl, hC0.st2⟩)
end OpForge2
