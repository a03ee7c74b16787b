/-! ===== Least: a machine in its rows ===== -/
theorem k18 : 1 ≤ 1 ∧ 1 < 8 := by decide
section Least
variable {G : GG} {M : Mem}
theorem k_within (d : Nat) (i n : Int32) : Call G (d + 1) 0 0 mX11_within [.int i, .int n] M (fun r M' => M' = M ∧ ((¬ i < 0 ∧ ¬ n ≤ i ∧ r = some (.int 1)) ∨ ((i < 0 ∨ n ≤ i) ∧ r = some (.int 0)))) := by
  refine eX11_within i n ⟨fun c => ⟨rfl, Or.inr ⟨Or.inl c, rfl⟩⟩, fun c => ⟨fun c2 => ⟨rfl, Or.inr ⟨Or.inr c2, rfl⟩⟩, fun c2 => ⟨rfl, Or.inl ⟨c, c2, rfl⟩⟩⟩⟩
theorem k_within_t (d : Nat) {i n : Nat} (h : i < n) (hn : n < 2 ^ 31) : Call G (d + 1) 0 0 mX11_within [.int (nI i), .int (nI n)] M (fun r M' => M' = M ∧ r = some (.int 1)) := by
  refine eX11_within (nI i) (nI n) ⟨fun c => absurd c (nI_pos (by omega)), fun c => ⟨fun c2 => absurd c2 (nI_ge h hn), fun c2 => ⟨rfl, rfl⟩⟩⟩
theorem k_within_f (d : Nat) {i n : Nat} (h : n ≤ i) (hn : i < 2 ^ 31) : Call G (d + 1) 0 0 mX11_within [.int (nI i), .int (nI n)] M (fun r M' => M' = M ∧ r = some (.int 0)) := by
  refine eX11_within (nI i) (nI n) ⟨fun c => ⟨rfl, rfl⟩, fun c => ⟨fun c2 => ⟨rfl, rfl⟩, fun c2 => absurd (nI_le h hn) c2⟩⟩
theorem k_min (d : Nat) {i n : Nat} (hi : i < 2 ^ 31) (hn : n < 2 ^ 31) : Call G (d + 1) 0 0 mJ9_min_7cf53 [.int (nI i), .int (nI n)] M (fun r M' => M' = M ∧ r = some (.int (nI (min i n)))) := by
  refine eJ9_min_7cf53 (nI i) (nI n) ⟨fun c => ⟨rfl, ?_⟩, fun c => ⟨rfl, ?_⟩⟩
  · rw [nI_ltI hn hi] at c
    rw [Nat.min_eq_right (by omega)]
  · rw [nI_ltI hn hi] at c
    rw [Nat.min_eq_left (by omega)]
theorem k_max (d : Nat) {i n : Nat} (hi : i < 2 ^ 31) (hn : n < 2 ^ 31) : Call G (d + 1) 0 0 mJ9_max_7cf53 [.int (nI i), .int (nI n)] M (fun r M' => M' = M ∧ r = some (.int (nI (max i n)))) := by
  refine eJ9_max_7cf53 (nI i) (nI n) ⟨fun c => ⟨rfl, ?_⟩, fun c => ⟨rfl, ?_⟩⟩
  · rw [nI_ltI hi hn] at c
    rw [Nat.max_eq_right (by omega)]
  · rw [nI_ltI hi hn] at c
    rw [Nat.max_eq_left (by omega)]
/-- the object o of Least with its rows mv (nm places) and mk (nk) -/
def LeS (M : Mem) (o mv mk nm nk : Nat) : Prop := (x_h M o).1 = 17 ∧ x_r M o 0 = some mv ∧ x_r M o 1 = some mk ∧ x_h M mv = (1, nm) ∧ x_h M mk = (1, nk) ∧ mv ≠ o ∧ mk ≠ o ∧ mv ≠ mk ∧ nm < 2 ^ 30 ∧ nk < 2 ^ 30
theorem LeS.eq {M M' : Mem} {o mv mk nm nk : Nat} (h : LeS M o mv mk nm nk) (h1 : x_h M' = x_h M) (h2 : x_r M' = x_r M) : LeS M' o mv mk nm nk := by
  unfold LeS
  rw [h1, h2]
  exact h
theorem LeS.fr {M M' : Mem} {o mv mk nm nk : Nat} {A : List Nat} (h : LeS M o mv mk nm nk) (f : FrI M M' A) : LeS M' o mv mk nm nk := h.eq f.h f.r
/-- it holds the machine of n states, f digits, steps st, marks mr -/
def LeI (M : Mem) (o mv mk n f : Nat) (st : Nat → Nat → Nat) (mr : Nat → Nat) : Prop := x_i M o 2 = nI n ∧ x_i M o 3 = nI f ∧ (∀ i, i < n → ∀ d, d < f → x_i M mv (i * f + d) = nI (st i d)) ∧ ∀ i, i < n → x_i M mk i = nI (mr i)
theorem LeI.fr {M M' : Mem} {o mv mk n f : Nat} {st : Nat → Nat → Nat} {mr : Nat → Nat} {A : List Nat} (h : LeI M o mv mk n f st mr) (g : FrI M M' A) (h1 : o ∉ A) (h2 : mv ∉ A) (h3 : mk ∉ A) : LeI M' o mv mk n f st mr := by
  unfold LeI
  rw [g.i h1, g.i h2, g.i h3]
  exact h
variable {o mv mk nm nk n f : Nat} {st : Nat → Nat → Nat} {mr : Nat → Nat}
theorem k_mark (d : Nat) (hs : LeS M o mv mk nm nk) (h : LeI M o mv mk n f st mr) (hn : n ≤ nk) {i : Nat} (hi : i < n) : Call G (d + 2) 0 0 mX1_mark [.ref o, .int (nI i)] M (fun r M' => M' = M ∧ r = some (.int (nI (mr i)))) := by
  obtain ⟨s1, s2, s3, s4, s5, s6, s7, s8, s9, s10⟩ := hs
  refine eX1_mark o (nI i) ⟨s1, ?_⟩
  rw [h.1]
  refine Call.mono (k_within_t d hi (by omega)) ?_
  rintro r M' ⟨rfl, rfl⟩
  refine ⟨1, rfl, fun c => absurd c (by decide), fun _ => ⟨s1, _, s3, by rw [s5]; exact k18, ?_⟩⟩
  rw [s5]
  refine Call.mono (k_within_t d (show i < nk by omega) (by omega)) ?_
  rintro r M' ⟨rfl, rfl⟩
  refine ⟨1, rfl, fun c => absurd c (by decide), fun _ => ⟨s1, _, s3, by rw [s5], by rw [s5]; exact vp_in_nI (by omega) (by omega), rfl, ?_⟩⟩
  rw [nI_clamp (by omega), h.2.2.2 i hi]
theorem k_after (d : Nat) (hs : LeS M o mv mk nm nk) (h : LeI M o mv mk n f st mr) (hn : n * f ≤ nm) {i g : Nat} (hi : i < n) (hg : g < f) : Call G (d + 1) 0 0 mX1_after [.ref o, .int (nI i), .int (nI g)] M (fun r M' => M' = M ∧ r = some (.int (nI (st i g)))) := by
  obtain ⟨s1, s2, s3, s4, s5, s6, s7, s8, s9, s10⟩ := hs
  have hp : i * f + g < n * f := by
    have : (i + 1) * f ≤ n * f := Nat.mul_le_mul_right f hi
    rw [Nat.succ_mul] at this
    omega
  have hnf : n ≤ n * f := Nat.le_mul_of_pos_right n (by omega)
  have hff : f ≤ n * f := Nat.le_mul_of_pos_left f (by omega)
  refine eX1_after o (nI i) (nI g) ⟨fun c => absurd c (nI_pos (by omega)), fun _ => ⟨s1, fun c => ?_, fun _ => ⟨fun c => absurd c (nI_pos (by omega)), fun _ => ⟨fun _ => ⟨mv, s2, by rw [s4]; exact k18, fun c => ?_, fun _ => ⟨by rw [s4], ?_, rfl, ?_⟩⟩, fun c => ?_⟩⟩⟩⟩
  · rw [h.1] at c
    exact absurd c (nI_ge hi (by omega))
  · rw [s4, h.2.1, pk_mul, nI_add] at c
    exact absurd c (nI_ge (by show _ < nm; omega) (by omega))
  · rw [s4, h.2.1, pk_mul, nI_add]
    exact vp_in_nI (by show _ < nm; omega) (by omega)
  · rw [h.2.1, pk_mul, nI_add, nI_clamp (by omega), h.2.2.1 i hi g hg]
  · rw [h.2.1] at c
    exact absurd (nI_lt hg (by omega)) c
theorem k_size (d : Nat) (hs : LeS M o mv mk nm nk) (hn : n ≤ nk) : Call G (d + 2) 0 0 mX1_size [.ref o, .int (nI n), .int (nI f)] M (fun r M' => r = none ∧ M' = x_si (x_si M o 2 (nI n)) o 3 (nI f)) := by
  obtain ⟨s1, s2, s3, s4, s5, s6, s7, s8, s9, s10⟩ := hs
  refine eX1_size o (nI n) (nI f) ⟨s1, _, s3, by rw [s5]; exact k18, ?_⟩
  rw [s5]
  refine Call.mono (k_min d (by omega) (show nk < 2 ^ 31 by omega)) ?_
  rintro r M' ⟨rfl, rfl⟩
  rw [Nat.min_eq_left hn]
  exact ⟨_, rfl, s1, fun M8 h8 M9 h9 => ⟨rfl, by rw [h9, h8]⟩⟩
theorem k_put (d : Nat) (hs : LeS M o mv mk nm nk) (hf : x_i M o 3 = nI f) (hn : n * f ≤ nm) {i g : Nat} (hi : i < n) (hg : g < f) (v : Int32) : Call G (d + 2) 0 0 mX1_put [.ref o, .int (nI i), .int (nI g), .int v] M (fun r M' => r = none ∧ M' = x_si M mv (i * f + g) v) := by
  obtain ⟨s1, s2, s3, s4, s5, s6, s7, s8, s9, s10⟩ := hs
  have hp : i * f + g < n * f := by
    have : (i + 1) * f ≤ n * f := Nat.mul_le_mul_right f hi
    rw [Nat.succ_mul] at this
    omega
  refine eX1_put o (nI i) (nI g) v ⟨s1, ?_⟩
  rw [hf, pk_mul, nI_add]
  refine ⟨fun c => absurd c (nI_pos (by omega)), fun _ => ⟨mv, s2, by rw [s4]; exact k18, fun c => ?_, fun _ => ⟨by rw [s4], by rw [s4]; exact vp_in_nI (by show _ < nm; omega) (by omega), fun M8 h8 => ⟨rfl, ?_⟩⟩⟩⟩
  · rw [s4] at c
    exact absurd c (nI_ge (by show _ < nm; omega) (by omega))
  · rw [h8, nI_clamp (by omega)]
theorem k_putMark (d : Nat) (hs : LeS M o mv mk nm nk) {i : Nat} (hi : i < nk) (v : Int32) : Call G (d + 2) 0 0 mX1_putMark [.ref o, .int (nI i), .int v] M (fun r M' => r = none ∧ M' = x_si M mk i v) := by
  obtain ⟨s1, s2, s3, s4, s5, s6, s7, s8, s9, s10⟩ := hs
  refine eX1_putMark o (nI i) v ⟨fun c => absurd c (nI_pos (by omega)), fun _ => ⟨s1, mk, s3, by rw [s5]; exact k18, fun c => ?_, fun _ => ⟨by rw [s5], by rw [s5]; exact vp_in_nI hi (by omega), fun M8 h8 => ⟨rfl, ?_⟩⟩⟩⟩
  · rw [s5] at c
    exact absurd c (nI_ge hi (by omega))
  · rw [h8, nI_clamp (by omega)]
variable {o2 mv2 mk2 nm2 nk2 : Nat}
theorem fr_i {M M' : Mem} {A : List Nat} (h : FrI M M' A) {q k : Nat} (hq : q ∉ A) : x_i M' q k = x_i M q k := by rw [h.i hq]
/-- the inner loop of become: the steps of state i -/
theorem k_become34 (dd : Nat) (hf : 0 < f) {M0 : Mem} (hs : LeS M0 o mv mk nm nk) (hn : n ≤ nk) (hm : n * f ≤ nm) (hs2 : LeS M0 o2 mv2 mk2 nm2 nk2) (h2 : LeI M0 o2 mv2 mk2 n f st mr) (hm2 : n * f ≤ nm2) (hd : o2 ∉ [o, mv, mk] ∧ mv2 ∉ [o, mv, mk] ∧ mk2 ∉ [o, mv, mk]) {Q : Option Value → Mem → Prop} {i : Nat} (hi : i < n)
    (hQ : ∀ M1, FrI M0 M1 [o, mv, mk] → LeI M1 o mv mk n f st mr ∨ True → x_i M1 o 2 = nI n → x_i M1 o 3 = nI f → (∀ a, a < i + 1 → ∀ g, g < f → x_i M1 mv (a * f + g) = nI (st a g)) → (∀ a, a < i + 1 → x_i M1 mk a = nI (mr a)) → LX1_become_14 G (dd + 2) 0 0 o o2 (nI (i + 1)) (some (.int (nI f))) M1 Q) :
    ∀ (k j : Nat), j + k = f → ∀ M, FrI M0 M [o, mv, mk] → x_i M o 2 = nI n → x_i M o 3 = nI f → (∀ a, a < i → ∀ g, g < f → x_i M mv (a * f + g) = nI (st a g)) → (∀ g, g < j → x_i M mv (i * f + g) = nI (st i g)) → (∀ a, a < i + 1 → x_i M mk a = nI (mr a)) → LX1_become_34 G (dd + 2) 0 0 o o2 (nI i) (nI j) M Q := by
  have hb : n * f < 2 ^ 30 := by have := hs.2.2.2.2.2.2.2.2.1; omega
  have hff : f ≤ n * f := Nat.le_mul_of_pos_left f (by omega)
  intro k
  induction k with
  | zero =>
    intro j hj M hfr g1 g2 g3 g4 g5
    have hjf : j = f := by omega
    subst hjf
    refine vX1_become_34 o o2 (nI i) (nI j) ⟨(hs.fr hfr).1, fun _ => ?_, fun c => ?_⟩
    · rw [nI_1]
      refine hQ M hfr (Or.inr trivial) g1 g2 (fun a ha g hg => ?_) g5
      by_cases e : a = i
      · subst e; exact g4 g hg
      · exact g3 a (by omega) g hg
    · rw [g2] at c
      exact absurd (nI_le (Nat.le_refl j) (by omega)) c
  | succ k ih =>
    intro j hj M hfr g1 g2 g3 g4 g5
    have hjf : j < f := by omega
    have hp : i * f + f ≤ n * f := by
      have : (i + 1) * f ≤ n * f := Nat.mul_le_mul_right f hi
      rw [Nat.succ_mul] at this
      exact this
    refine vX1_become_34 o o2 (nI i) (nI j) ⟨(hs.fr hfr).1, fun c => ?_, fun _ => ⟨(hs2.fr hfr).1, ?_⟩⟩
    · rw [g2] at c
      exact absurd c (nI_ge hjf (by omega))
    · refine Call.mono (k_after (dd + 1) (hs2.fr hfr) (h2.fr hfr hd.1 hd.2.1 hd.2.2) hm2 hi hjf) ?_
      rintro r M' ⟨rfl, rfl⟩
      refine ⟨_, rfl, (hs.fr hfr).1, Call.mono (k_put dd (hs.fr hfr) g2 hm hi hjf _) ?_⟩
      rintro r M1 ⟨rfl, rfl⟩
      refine ⟨rfl, ?_⟩
      have e1 : mv ≠ o := hs.2.2.2.2.2.1
      have e2 : mv ≠ mk := hs.2.2.2.2.2.2.2.1
      rw [nI_1]
      refine ih (j + 1) (by omega) _ (hfr.si (by simp)) (by rw [xi_na e1.symm]; exact g1) (by rw [xi_na e1.symm]; exact g2) (fun a ha g hg => ?_) (fun g hg => ?_) (fun a ha => by rw [xi_na e2.symm]; exact g5 a ha)
      · rw [xi_nk ?_]
        · exact g3 a ha g hg
        · have : (a + 1) * f ≤ i * f := Nat.mul_le_mul_right f ha
          rw [Nat.succ_mul] at this
          omega
      · by_cases e : g = j
        · subst e; rw [xi_eq]
        · rw [xi_nk (by omega)]
          exact g4 g (by omega)
theorem k_become14 (dd : Nat) (hf : 0 < f) {M0 : Mem} (hs : LeS M0 o mv mk nm nk) (hn : n ≤ nk) (hm : n * f ≤ nm) (hs2 : LeS M0 o2 mv2 mk2 nm2 nk2) (h2 : LeI M0 o2 mv2 mk2 n f st mr) (hm2 : n * f ≤ nm2) (hn2 : n ≤ nk2) (hd : o2 ∉ [o, mv, mk] ∧ mv2 ∉ [o, mv, mk] ∧ mk2 ∉ [o, mv, mk]) :
    ∀ (k i : Nat), i + k = n → ∀ (z : Option Value), c1 z = true → ∀ M, FrI M0 M [o, mv, mk] → x_i M o 2 = nI n → x_i M o 3 = nI f → (∀ a, a < i → ∀ g, g < f → x_i M mv (a * f + g) = nI (st a g)) → (∀ a, a < i → x_i M mk a = nI (mr a)) → LX1_become_14 G (dd + 2) 0 0 o o2 (nI i) z M (fun r M' => r = none ∧ LeI M' o mv mk n f st mr ∧ FrI M0 M' [o, mv, mk]) := by
  have hnk : n < 2 ^ 30 := by have := hs.2.2.2.2.2.2.2.2.2; omega
  have e1 : mk ≠ o := hs.2.2.2.2.2.2.1
  have e2 : mv ≠ mk := hs.2.2.2.2.2.2.2.1
  intro k
  induction k with
  | zero =>
    intro i hi z hz M hfr g1 g2 g3 g4
    have hin : i = n := by omega
    subst hin
    refine vX1_become_14 o o2 (nI i) z hz ⟨(hs.fr hfr).1, fun _ => ⟨rfl, ⟨g1, g2, g3, g4⟩, hfr⟩, fun c => ?_⟩
    rw [g1] at c
    exact absurd (nI_le (Nat.le_refl i) (by omega)) c
  | succ k ih =>
    intro i hi z hz M hfr g1 g2 g3 g4
    have hin : i < n := by omega
    refine vX1_become_14 o o2 (nI i) z hz ⟨(hs.fr hfr).1, fun c => ?_, fun _ => ⟨(hs2.fr hfr).1, ?_⟩⟩
    · rw [g1] at c
      exact absurd c (nI_ge hin (by omega))
    · refine Call.mono (k_mark dd (hs2.fr hfr) (h2.fr hfr hd.1 hd.2.1 hd.2.2) hn2 hin) ?_
      rintro r M' ⟨rfl, rfl⟩
      refine ⟨_, rfl, (hs.fr hfr).1, Call.mono (k_putMark dd (hs.fr hfr) (show i < nk by omega) _) ?_⟩
      rintro r M1 ⟨rfl, rfl⟩
      refine ⟨rfl, k_become34 (i := i) dd hf hs hn hm hs2 h2 hm2 hd hin (fun M1 q1 _ q2 q3 q4 q5 => ih (i + 1) (by omega) _ rfl M1 q1 q2 q3 q4 q5) f 0 (by omega) _ (hfr.si (by simp)) (by rw [xi_na e1.symm]; exact g1) (by rw [xi_na e1.symm]; exact g2) (fun a ha g hg => by rw [xi_na e2]; exact g3 a ha g hg) (fun g hg => absurd hg (Nat.not_lt_zero g)) (fun a ha => ?_)⟩
      by_cases e : a = i
      · subst e; rw [xi_eq]
      · rw [xi_nk e]; exact g4 a (by omega)
theorem k_become (d : Nat) (hf : 0 < f) (hs : LeS M o mv mk nm nk) (hn : n ≤ nk) (hm : n * f ≤ nm) (hs2 : LeS M o2 mv2 mk2 nm2 nk2) (h2 : LeI M o2 mv2 mk2 n f st mr) (hm2 : n * f ≤ nm2) (hn2 : n ≤ nk2) (hd : o2 ∉ [o, mv, mk] ∧ mv2 ∉ [o, mv, mk] ∧ mk2 ∉ [o, mv, mk]) : Call G (d + 3) 0 0 mX1_become [.ref o, .ref o2] M (fun r M' => r = none ∧ LeI M' o mv mk n f st mr ∧ FrI M M' [o, mv, mk]) := by
  refine eX1_become o o2 ⟨hs2.1, hs.1, ?_⟩
  rw [h2.1, h2.2.1]
  refine Call.mono (k_size d hs hn) ?_
  rintro r M1 ⟨rfl, rfl⟩
  exact ⟨rfl, k_become14 d hf hs hn hm hs2 h2 hm2 hn2 hd n 0 (by omega) none rfl _ ((FrI.rf.si (by simp)).si (by simp)) (by rw [xi_nk (by decide), xi_eq]) (by rw [xi_eq]) (fun a ha => absurd ha (Nat.not_lt_zero a)) (fun a ha => absurd ha (Nat.not_lt_zero a))⟩
end Least
