/-! ===== the class: its small ones ===== -/
section CSmallC
variable {G : GG} {M : Mem} {o b : Nat} {Q : Option Value → Mem → Prop}
theorem w_in0 (d : Nat) {x : Int32} {n : Nat} (hn : n < 2 ^ 30) (hQ0 : (∀ k, k < n → x ≠ nI k) → Q (some (.int 0)) M) (hQ1 : ∀ k, k < n → x = nI k → Q (some (.int 1)) M) : Call G (d + 1) 0 0 mX11_within [.int x, .int (nI n)] M Q := by
  by_cases c : 0 ≤ x.toInt ∧ x.toInt ≤ (n : Int) - 1
  · obtain ⟨k, h1, h2⟩ := nI_ofInt c.1 c.2 hn
    rw [h2]
    refine w_within d (i := k) (n := n) (by omega) (by omega) ?_
    rw [if_pos h1]
    exact hQ1 k h1 h2
  · have hno : ∀ k, k < n → x ≠ nI k := fun k hk e => c (by rw [e, nI_toInt (by omega)]; omega)
    refine eX11_within _ _ ⟨fun _ => hQ0 hno, fun c2 => ?_⟩
    rw [Int32.lt_iff_toInt_lt] at c2
    have h0 : (0 : Int32).toInt = 0 := rfl
    rw [h0] at c2
    have c3 : nI n ≤ x := by
      rw [Int32.le_iff_toInt_le, nI_toInt (by omega)]
      omega
    exact ⟨fun _ => hQ0 hno, fun h => absurd c3 h⟩
theorem w_refuse (d : Nat) (h : (x_h M o).1 = 27) {v : Int32} (hQ : Q (some (.int (-1))) (x_si M o 15 v)) : Call G (d + 1) 0 0 mX11_refuse [.ref o, .int v] M Q :=
  eX11_refuse o v ⟨h, fun M2 e => by rw [e]; exact hQ⟩
theorem w_done (d : Nat) (h : (x_h M o).1 = 27) {v : Int32} (hQ : Q (some (.int v)) (x_si M o 15 0)) : Call G (d + 1) 0 0 mX11_done [.ref o, .int v] M Q :=
  eX11_done o v ⟨h, fun M2 e => by rw [e]; exact hQ⟩
theorem w_otherSort (d : Nat) (h : (x_h M o).1 = 27) {a4 s : Nat} {so : Int32} (h4 : x_r M o 4 = some a4) (hh : x_h M a4 = (1, 6)) (h6 : s < 6) (hQ : Q (some (.int (if x_i M a4 s = -1 ∨ x_i M a4 s = so then 0 else 1))) M) : Call G (d + 1) 0 0 mX11_otherSort [.ref o, .int (nI s), .int so] M Q := by
  refine eX11_otherSort o _ _ ⟨h, a4, h4, by rw [hh], by rw [hh]; exact vp_in_nI h6 (by omega), ?_⟩
  rw [nI_clamp (by omega)]
  refine ⟨fun c => ?_, fun c => ⟨fun c2 => ?_, fun c2 => ?_⟩⟩
  · rw [if_pos (Or.inl c)] at hQ; exact hQ
  · rw [if_pos (Or.inr c2)] at hQ; exact hQ
  · rw [if_neg (fun h => h.elim c c2)] at hQ; exact hQ
theorem w_tooShort (d : Nat) (h : (x_h M o).1 = 27) {a4 a5 s : Nat} {n : Int32} (h4 : x_r M o 4 = some a4) (hh : x_h M a4 = (1, 6)) (h5 : x_r M o 5 = some a5) (hh5 : x_h M a5 = (1, 6)) (h6 : s < 6) (hQ : Q (some (.int (if x_i M a4 s = -1 ∨ n ≤ x_i M a5 s then 0 else 1))) M) : Call G (d + 1) 0 0 mX11_tooShort [.ref o, .int (nI s), .int n] M Q := by
  refine eX11_tooShort o _ _ ⟨h, a4, h4, by rw [hh], by rw [hh]; exact vp_in_nI h6 (by omega), ?_⟩
  rw [nI_clamp (by omega)]
  refine ⟨fun c => ?_, fun c => ⟨a5, h5, by rw [hh5], by rw [hh5]; exact vp_in_nI h6 (by omega), fun c2 => ?_, fun c2 => ?_⟩⟩
  · rw [if_pos (Or.inl c)] at hQ; exact hQ
  · rw [if_pos (Or.inr c2)] at hQ; exact hQ
  · rw [if_neg (fun h => h.elim c c2)] at hQ; exact hQ
theorem w_allBelow (d : Nat) {a len n t : Nat} {cf : Nat → Nat} (hh : x_h M a = (1, len)) (hlen : len ≤ 40) (hn : n ≤ len) (ht : t < 2 ^ 20) (hcf : ∀ i, i < n → x_i M a i = nI (cf i) ∧ cf i < 2 ^ 20) (hQ0 : (∃ i, i < n ∧ t ≤ cf i) → Q (some (.int 0)) M) (hQ1 : (∀ i, i < n → cf i < t) → Q (some (.int 1)) M) : Call G (d + 1) 0 0 mX11_allBelow [.ref a, .int (nI n), .int (nI t)] M Q := by
  refine eX11_allBelow a _ _ ?_
  have key : ∀ r i, i + r = n → (∀ j, j < i → cf j < t) → LX11_allBelow_2 G d 0 0 a (nI n) (nI t) (nI i) M Q := by
    intro r
    induction r with
    | zero =>
      intro i hi h
      exact vX11_allBelow_2 _ _ _ _ ⟨fun _ => hQ1 (fun j hj => h j (by omega)), fun c => absurd (by rw [show i = n by omega]; exact nI_le (Nat.le_refl _) (by omega)) c⟩
    | succ r ih =>
      intro i hi h
      obtain ⟨h1, h2⟩ := hcf i (by omega)
      refine vX11_allBelow_2 _ _ _ _ ⟨fun c => absurd c (nI_ge (a := i) (b := n) (by omega) (by omega)), fun _ => ⟨by rw [hh]; exact k18, fun c => absurd (by rw [hh] at c; exact c) (nI_ge (a := i) (b := len) (by omega) (by omega)), fun _ => ⟨by rw [hh], by rw [hh]; exact vp_in_nI (by omega) (by omega), ?_⟩⟩⟩
      rw [nI_clamp (by omega), h1, nI_ltI (by omega) (by omega), nI_1]
      refine ⟨fun c => ih (i + 1) (by omega) (fun j hj => ?_), fun c => hQ0 ⟨i, by omega, by omega⟩⟩
      by_cases e : j = i
      · rw [e]; exact c
      · exact h j (by omega)
  exact key n 0 (Nat.zero_add n) (fun j hj => absurd hj (Nat.not_lt_zero j))
theorem w_outside (d : Nat) {a : Int64} (hQ1 : (∀ k, k ≤ 4611686018427387904 → a ≠ lN k) → Q (some (.int 1)) M) (hQ0 : ∀ k, k ≤ 4611686018427387904 → a = lN k → Q (some (.int 0)) M) : Call G (d + 1) 0 0 mX11_outside [.long a] M Q := by
  refine eX11_outside _ ?_
  rw [lg_cmp_lt, lg_cmp_le]
  refine ⟨fun c => hQ1 (fun k hk e => ?_), fun c => ?_⟩
  · rw [e, show (0 : Int64) = lN 0 from rfl, pk_lLT (by omega) (by omega)] at c
    omega
  · obtain ⟨k, h1, rfl⟩ := pk_lOf c
    rw [show (4611686018427387904 : Int64) = lN 4611686018427387904 from rfl, pk_lLE h1 (by omega)]
    refine ⟨fun c2 => hQ0 k c2 rfl, fun c2 => hQ1 (fun k' hk' e => ?_)⟩
    rw [pk_lEQ h1 (by omega)] at e
    omega
end CSmallC
