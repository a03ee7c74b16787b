/-! ===== the reference: what may be asked ===== -/
section RSmallC
variable {G : GG} {M : Mem} {m b : Nat} {Q : Option Value → Mem → Prop}
theorem iI_sub1 (n : Nat) : nI n - 1 = iI ((n : Int) - 1) := by
  show iI (n : Int) - iI 1 = _
  exact (Int32.ofInt_sub _ _).symm
theorem nI_ofInt {x : Int32} {n : Nat} (h0 : 0 ≤ x.toInt) (h1 : x.toInt ≤ (n : Int) - 1) (hn : n < 2 ^ 30) : ∃ k, k < n ∧ x = nI k := by
  refine ⟨x.toInt.toNat, by omega, Int32.toInt_inj.mp ?_⟩
  rw [nI_toInt (by omega)]
  omega
theorem ur_in0 (d : Nat) {x : Int32} {n : Nat} (hn : n < 2 ^ 30) (hQ0 : (∀ k, k < n → x ≠ nI k) → Q (some (.int 0)) M) (hQ1 : ∀ k, k < n → x = nI k → Q (some (.int 1)) M) : Call G (d + 1) 0 0 mX12_in [.int x, .int 0, .int (nI n - 1)] M Q := by
  rw [iI_sub1]
  refine u_inI d (x := x) (y := 0) (z := (n : Int) - 1) (by omega) (by omega) (by omega) (by omega) ?_
  by_cases c : 0 ≤ x.toInt ∧ x.toInt ≤ (n : Int) - 1
  · obtain ⟨k, h1, h2⟩ := nI_ofInt c.1 c.2 hn
    rw [if_pos c]
    exact hQ1 k h1 h2
  · rw [if_neg c]
    refine hQ0 (fun k hk e => c ?_)
    rw [e, nI_toInt (by omega)]
    omega
theorem ur_isRow (d : Nat) (hs : ReS M m) {x : Int32} {rc : Nat} (hrc : x_i M m 1 = nI rc) (hr : rc ≤ 10) (hQ0 : (∀ k, k < rc → x ≠ nI k) → Q (some (.int 0)) M) (hQ1 : ∀ k, k < rc → x = nI k → Q (some (.int 1)) M) : Call G (d + 2) 0 0 mX12_isRow [.ref m, .int x] M Q := by
  refine eX12_isRow m x ⟨hs.1, ?_⟩
  rw [hrc]
  exact ur_in0 d (by omega) (fun h => ⟨0, rfl, Or.inl rfl, hQ0 h⟩) (fun k hk e => ⟨1, rfl, Or.inr rfl, hQ1 k hk e⟩)
theorem ur_isOutside (d : Nat) {a : Int64} (hQ1 : (∀ k, k ≤ 4611686018427387904 → a ≠ lN k) → Q (some (.int 1)) M) (hQ0 : ∀ k, k ≤ 4611686018427387904 → a = lN k → Q (some (.int 0)) M) : Call G (d + 1) 0 0 mX12_isOutside [.long a, .long 0, .long 4611686018427387904] M Q := by
  refine eX12_isOutside _ _ _ ?_
  rw [lg_cmp_lt, lg_cmp_le]
  refine ⟨fun c => hQ1 (fun k hk e => ?_), fun c => ?_⟩
  · rw [e, show (0 : Int64) = lN 0 from rfl, pk_lLT (by omega) (by omega)] at c
    omega
  · obtain ⟨k, h1, rfl⟩ := pk_lOf c
    rw [show (4611686018427387904 : Int64) = lN 4611686018427387904 from rfl, pk_lLE h1 (by omega)]
    refine ⟨fun c2 => hQ0 k c2 rfl, fun c2 => hQ1 (fun k' hk' e => ?_)⟩
    rw [pk_lEQ h1 (by omega)] at e
    omega
theorem ur_canAsk (d : Nat) (hs : ReS M m) {x : Int32} {qc : Nat} (hqc : x_i M m 7 = nI qc) (hq : qc ≤ 10) (hQ0 : (∀ k, k < qc → x = nI k → ¬ (x_i M (m + 6) k = 0 ∧ x_i M (m + 8) k = -1)) → Q (some (.int 0)) M) (hQ1 : ∀ k, k < qc → x = nI k → x_i M (m + 6) k = 0 → x_i M (m + 8) k = -1 → Q (some (.int 1)) M) : Call G (d + 2) 0 0 mX12_canAsk [.ref m, .int x] M Q := by
  refine eX12_canAsk m x ⟨hs.1, ?_⟩
  rw [hqc]
  refine ur_in0 d (by omega) (fun h => ⟨0, rfl, fun _ => hQ0 (fun k hk e => absurd e (h k hk)), fun c => absurd rfl c⟩) (fun k hk e => ⟨1, rfl, fun c => absurd c (by decide), fun _ => ?_⟩)
  have one : ∀ k', k' < qc → x = nI k' → k' = k := fun k' hk' e' => by
    rw [e] at e'
    exact ((nI_eq (a := k) (b := k') (by omega) (by omega)).mp e').symm
  refine ⟨hs.1, m + 6, hs.r6, by rw [hs.h6], by rw [e, hs.h6]; exact vp_in_nI (show k < 10 by omega) (by omega), ?_⟩
  rw [e, nI_clamp (by omega)]
  refine ⟨fun c => hQ0 (fun k' hk' e' g => c (by rw [one k' hk' e'] at g; exact g.1)), fun c => ⟨m + 8, hs.r8, by rw [hs.h8], by rw [hs.h8]; exact vp_in_nI (show k < 10 by omega) (by omega), ?_⟩⟩
  refine ⟨fun c2 => hQ0 (fun k' hk' e' g => c2 (by rw [one k' hk' e'] at g; exact g.2)), fun c2 => hQ1 k hk e c c2⟩
theorem ur_isOfOne (d : Nat) (hs : ReS M m) {x : Int32} {qc n : Nat} {nf : Nat → Nat} (hqc : x_i M m 7 = nI qc) (hq : qc ≤ 10) (hn : n ≤ 8) (hnf : ∀ k, k < qc → x_i M (m + 6) k = 0 → x_i M (m + 8) k = -1 → x_i M (m + 9) k = nI (nf k) ∧ nf k < 256) (hQ0 : (∀ k, k < qc → x = nI k → ¬ (x_i M (m + 6) k = 0 ∧ x_i M (m + 8) k = -1 ∧ pc (nf k) = n)) → Q (some (.int 0)) M) (hQ1 : ∀ k, k < qc → x = nI k → x_i M (m + 6) k = 0 → x_i M (m + 8) k = -1 → pc (nf k) = n → Q (some (.int 1)) M) : Call G (d + 3) 0 0 mX12_isOfOne [.ref m, .int x, .int (nI n)] M Q := by
  refine eX12_isOfOne m x _ ⟨hs.1, ?_⟩
  refine ur_canAsk d hs hqc hq (fun h => ⟨0, rfl, fun _ => hQ0 (fun k hk e g => h k hk e ⟨g.1, g.2.1⟩), fun c => absurd rfl c⟩) (fun k hk e h1 h2 => ⟨1, rfl, fun c => absurd c (by decide), fun _ => ?_⟩)
  obtain ⟨h3, h4⟩ := hnf k hk h1 h2
  have hp := pc_le (nf k)
  refine ⟨hs.1, m + 9, hs.r9, by rw [hs.h9], by rw [e, hs.h9]; exact vp_in_nI (show k < 10 by omega) (by omega), ?_⟩
  rw [e, nI_clamp (by omega), h3]
  refine u_bits (d + 1) h4 ⟨_, rfl, ?_⟩
  rw [nI_eq (by omega) (by omega)]
  refine ⟨fun c => hQ0 (fun k' hk' e' g => c ?_), fun c => hQ1 k hk e h1 h2 c⟩
  rw [e] at e'
  rw [(nI_eq (a := k) (b := k') (by omega) (by omega)).mp e']
  exact g.2.2
theorem ur_isOther (d : Nat) (hs : ReS M m) {s : Nat} {so : Int32} (h6 : s < 6) (hQ : Q (some (.int (if x_i M (m + 16) s = -1 ∨ x_i M (m + 16) s = so then 0 else 1))) M) : Call G (d + 1) 0 0 mX12_isOther [.ref m, .int (nI s), .int so] M Q := by
  refine eX12_isOther m _ _ ⟨hs.1, m + 16, hs.r16, by rw [hs.h16], by rw [hs.h16]; exact vp_in_nI h6 (by omega), ?_⟩
  rw [nI_clamp (by omega)]
  refine ⟨fun c => ?_, fun c => ⟨fun c2 => ?_, fun c2 => ?_⟩⟩
  · rw [if_pos (Or.inl c)] at hQ; exact hQ
  · rw [if_pos (Or.inr c2)] at hQ; exact hQ
  · rw [if_neg (fun h => h.elim c c2)] at hQ; exact hQ
theorem ur_isAbove (d : Nat) (hs : ReS M m) {s n t : Nat} {cf : Nat → Nat} (h6 : s < 6) (hn : n ≤ 40) (ht : t < 2 ^ 20) (hcf : ∀ i, i < 40 → x_i M (m + 18) (40 * s + i) = nI (cf i) ∧ cf i < 2 ^ 20) (hQ1 : (∃ i, i < n ∧ t < cf i) → Q (some (.int 1)) M) (hQ0 : (∀ i, i < n → cf i ≤ t) → Q (some (.int 0)) M) : Call G (d + 1) 0 0 mX12_isAbove [.ref m, .int (nI s), .int 0, .int (nI n), .int (nI t)] M Q := by
  refine eX12_isAbove m _ _ _ _ ?_
  have e0 : (0 : Int32) + nI n = nI n := by rw [show (0 : Int32) = nI 0 from rfl, nI_add, Nat.zero_add]
  have yes : (∃ i, i < n ∧ t < cf i) → ∀ r i, i + r = n → LX12_isAbove_6 G d 0 0 m (nI s) 0 (nI n) (nI t) 1 (nI i) M Q := by
    intro hex r
    induction r with
    | zero =>
      intro i hi
      refine vX12_isAbove_6 _ _ _ _ _ _ _ ⟨fun _ => ⟨Or.inr rfl, hQ1 hex⟩, fun c => absurd (by rw [e0, show i = n by omega]; exact nI_le (Nat.le_refl _) (by omega)) c⟩
    | succ r ih =>
      intro i hi
      refine vX12_isAbove_6 _ _ _ _ _ _ _ ⟨fun c => absurd (by rw [e0] at c; exact c) (nI_ge (a := i) (b := n) (by omega) (by omega)), fun _ => ⟨fun _ => ?_, fun c => absurd c (by decide)⟩⟩
      rw [nI_1]
      exact ih (i + 1) (by omega)
  have key : ∀ r i, i + r = n → (∀ j, j < i → cf j ≤ t) → LX12_isAbove_6 G d 0 0 m (nI s) 0 (nI n) (nI t) 0 (nI i) M Q := by
    intro r
    induction r with
    | zero =>
      intro i hi h
      refine vX12_isAbove_6 _ _ _ _ _ _ _ ⟨fun _ => ⟨Or.inl rfl, hQ0 (fun j hj => h j (by omega))⟩, fun c => absurd (by rw [e0, show i = n by omega]; exact nI_le (Nat.le_refl _) (by omega)) c⟩
    | succ r ih =>
      intro i hi h
      obtain ⟨h1, h2⟩ := hcf i (by omega)
      refine vX12_isAbove_6 _ _ _ _ _ _ _ ⟨fun c => absurd (by rw [e0] at c; exact c) (nI_ge (a := i) (b := n) (by omega) (by omega)), fun _ => ⟨fun c => absurd rfl c, fun _ => ⟨hs.1, m + 18, hs.r18, by rw [hs.h18], by rw [e40_, hs.h18]; exact vp_in_nI (show 40 * s + i < 240 by omega) (by omega), ?_⟩⟩⟩
      rw [e40_, nI_clamp (by omega), h1, nI_leI (by omega) (by omega), nI_1]
      refine ⟨fun c => ih (i + 1) (by omega) (fun j hj => ?_), fun c => yes ⟨i, by omega, by omega⟩ r (i + 1) (by omega)⟩
      by_cases e : j = i
      · rw [e]; exact c
      · exact h j (by omega)
  exact key n 0 (Nat.zero_add n) (fun j hj => absurd hj (Nat.not_lt_zero j))
end RSmallC
