/-! ===== both: feed ===== -/
section OpFeed
variable {G : GG} {M M' : Mem} {e m b : Nat} {S S' : Sg} {R K : Nat → Mc} {Q : Option Value → Mem → Prop}
def feR (S : Sg) (x : Int32) (c : Int32) : Prop := (c = 1 ∧ ∀ n, 1 ≤ n → n ≤ 8 → x ≠ nI n) ∨ ∃ n, 1 ≤ n ∧ n ≤ 8 ∧ x = nI n ∧ 120 < y_L S + n ∧ c = 2
def feG (S : Sg) (x : Int32) (n : Nat) : Prop := 1 ≤ n ∧ n ≤ 8 ∧ x = nI n ∧ y_L S + n ≤ 120
theorem feR.one {x c c' : Int32} (h : feR S x c) (h' : feR S x c') : c = c' := by
  rcases h with ⟨rfl, h⟩ | ⟨n, h1, h2, h3, h4, rfl⟩
  · rcases h' with ⟨rfl, -⟩ | ⟨n, h1, h2, h3, h4, rfl⟩
    · rfl
    · exact absurd h3 (h n h1 h2)
  · rcases h' with ⟨rfl, h⟩ | ⟨n', g1, g2, g3, g4, rfl⟩
    · exact absurd h3 (h n h1 h2)
    · rfl
theorem feR.no {x c : Int32} {n : Nat} (h : feR S x c) (g : feG S x n) : False := by
  obtain ⟨g1, g2, g3, g4⟩ := g
  rcases h with ⟨rfl, h⟩ | ⟨n', h1, h2, h3, h4, rfl⟩
  · exact h n g1 g2 g3
  · have := nI_same h3 g3 (by omega) (by omega)
    omega
theorem feG.one {x : Int32} {n n' : Nat} (h : feG S x n) (g : feG S x n') : n = n' := by
  obtain ⟨g1, g2, g3, g4⟩ := g
  obtain ⟨h1, h2, h3, h4⟩ := h
  exact nI_same h3 g3 (by omega) (by omega)
theorem w_feed (d : Nat) (hS : CoS M e) (hW : SgW S) (hB : CoB M e S) {x : Int32} {l : Int64} (hQ0 : ∀ c, feR S x c → Q (some (.int (-1))) (x_si M e 15 c))
    (hQ1 : ∀ n, feG S x n → ∀ M1, FrI M M1 [e, e + 3] → (∀ k, k ≠ 14 → k ≠ 15 → x_i M1 e k = x_i M e k) → x_i M1 e 14 = nI (y_L S + n) → x_i M1 e 15 = 0 → (∀ i, i < y_L S → x_i M1 (e + 3) i = x_i M (e + 3) i) → (∀ j, j < n → x_i M1 (e + 3) (y_L S + j) = nI (byt l j)) → Q (some (.int (nI (y_L S + n)))) M1) : Call G (d + 2) 0 0 mX11_feed [.ref e, .int x, .long l] M Q := by
  obtain ⟨a1, a2, a3, a4, a5, a6, a7, a8, a9, a10, a11, a12, b1, b2, b3, -⟩ := hS
  obtain ⟨f11, f12, f13, f14, f15⟩ := hB
  have hL := hW.2.1
  have refuse : ∀ c, feR S x c → Call G (d + 1) 0 0 mX11_refuse [.ref e, .int c] M (fun r6 M7 => ∃ v8 : Int32, r6 = some (.int v8) ∧ Q (some (.int v8)) M7) := fun c h => w_refuse d a1 ⟨_, rfl, hQ0 c h⟩
  have loop : ∀ n, feG S x n → ∀ r k, r + k = n → ∀ M1, FrI M M1 [e, e + 3] → x_i M1 e = x_i M e → (∀ i, i < y_L S → x_i M1 (e + 3) i = x_i M (e + 3) i) → (∀ j, j < k → x_i M1 (e + 3) (y_L S + j) = nI (byt l j)) → LX11_feed_37 G (d + 1) 0 0 e x l (nI k) M1 Q := by
    intro n hg r
    have hq1 := hQ1 n hg
    obtain ⟨g1, g2, g3, g4⟩ := hg
    induction r with
    | zero =>
      intro k hk M1 fr he hold hnew
      have ek : k = n := by omega
      subst ek
      refine vX11_feed_37 _ _ _ _ ⟨fun _ => ⟨by rw [fr.h]; exact a1, ?_⟩, fun q => absurd ?_ q⟩
      · rintro M3 rfl
        rw [xi_eq, he, f14, g3, s_add]
        refine w_done d ?_ ?_
        · show (x_h M1 e).1 = 27
          rw [fr.h]; exact a1
        refine ⟨_, rfl, hq1 _ ((fr.si (by simp)).si (by simp)) (fun j h1 h2 => ?_) ?_ xi_eq (fun i hi => ?_) (fun j hj => ?_)⟩
        · rw [xi_nk h2, xi_nk h1, he]
        · rw [xi_nk (by omega), xi_eq]
        · rw [xi_na (by omega), xi_na (by omega)]; exact hold i hi
        · rw [xi_na (by omega), xi_na (by omega)]; exact hnew j hj
      · rw [g3, nI_leI (by omega) (by omega)]
        omega
    | succ r ih =>
      intro k hk M1 fr he hold hnew
      refine vX11_feed_37 _ _ _ _ ⟨fun q => ?_, fun _ => ⟨by rw [fr.h]; exact a1, e + 3, by rw [fr.r]; exact a4, by rw [fr.h, b3], ?_, ?_⟩⟩
      · rw [g3, nI_leI (by omega) (by omega)] at q
        omega
      · rw [he, f14, s_add, fr.h, b3]
        exact vp_in_nI (show y_L S + k < 120 by omega) (by omega)
      · rintro M11 rfl
        rw [he, f14, s_add, nI_clamp (by omega), by_c l (by omega), nI_1]
        refine ih (k + 1) (by omega) _ (fr.si (by simp)) ?_ (fun i hi => ?_) (fun j hj => ?_)
        · funext j
          rw [xi_na (by omega), he]
        · rw [xi_nk (by omega)]; exact hold i hi
        · by_cases c : j = k
          · rw [c, xi_eq]
          · rw [xi_nk (by omega)]; exact hnew j (by omega)
  refine eX11_feed e x l ⟨fun c => ⟨a1, refuse 1 (Or.inl ⟨rfl, fun n h1 h2 ex => ?_⟩)⟩, fun n1 => ⟨fun n8 => ⟨a1, ?_⟩, fun c => ⟨a1, refuse 1 (Or.inl ⟨rfl, fun n h1 h2 ex => ?_⟩)⟩⟩⟩
  · rw [ex, Int32.lt_iff_toInt_lt, nI_toInt (by omega), show (1 : Int32).toInt = 1 from rfl] at c
    omega
  · rw [Int32.lt_iff_toInt_lt, show (1 : Int32).toInt = 1 from rfl] at n1
    rw [Int32.le_iff_toInt_le, show (8 : Int32).toInt = 8 from rfl] at n8
    obtain ⟨n, hn, ex⟩ := nI_ofInt (x := x) (n := 9) (by omega) (by omega) (by omega)
    have hn1 : 1 ≤ n := by
      rw [ex, nI_toInt (by omega)] at n1
      omega
    rw [f14, ex, s_add, show (120 : Int32) = nI 120 from rfl, nI_leI (by omega) (by omega), ← ex]
    exact ⟨fun c => loop n ⟨hn1, by omega, ex, c⟩ n 0 (by omega) M FrI.rf rfl (fun _ _ => rfl) (fun j hj => absurd hj (Nat.not_lt_zero j)), fun c => refuse 2 (Or.inr ⟨n, hn1, by omega, ex, by omega, rfl⟩)⟩
  · rw [ex, Int32.le_iff_toInt_le, nI_toInt (by omega), show (8 : Int32).toInt = 8 from rfl] at c
    omega
theorem ur_feed (d : Nat) (hS : ReS M m) (hW : SgW S) (hB : ReB M m S) {x : Int32} {l : Int64} (hQ0 : ∀ c, feR S x c → Q (some (.int (-1))) (x_si M m 22 c))
    (hQ1 : ∀ n, feG S x n → ∀ M1, FrM M M1 m [18, 22] [15] → x_i M1 m 18 = nI (y_L S + n) → x_i M1 m 22 = 0 → (∀ i, i < y_L S → x_i M1 (m + 15) i = x_i M (m + 15) i) → (∀ j, j < n → x_i M1 (m + 15) (y_L S + j) = nI (byt l j)) → Q (some (.int (nI (y_L S + n)))) M1) : Call G (d + 2) 0 0 mX12_feed [.ref m, .int x, .long l] M Q := by
  obtain ⟨g0, h1, g7, g18, g22, g24⟩ := hB
  have hL := hW.2.1
  have refuse : ∀ c, feR S x c → Call G (d + 1) 0 0 mX12_refused [.ref m, .int c] M (fun r6 M7 => ∃ v8 : Int32, r6 = some (.int v8) ∧ Q (some (.int v8)) M7) := fun c h => u_refused d hS ⟨_, rfl, hQ0 c h⟩
  have loop : ∀ n, feG S x n → ∀ r k, r + k = n → ∀ M1, FrM M M1 m [18, 22] [15] → x_i M1 m 18 = nI (y_L S + k) → (∀ i, i < y_L S → x_i M1 (m + 15) i = x_i M (m + 15) i) → (∀ j, j < k → x_i M1 (m + 15) (y_L S + j) = nI (byt l j)) → LX12_feed_36 G (d + 1) 0 0 m x l (nI k) M1 Q := by
    intro n hg r
    have hq1 := hQ1 n hg
    obtain ⟨g1, g2, g3, g4⟩ := hg
    induction r with
    | zero =>
      intro k hk M1 fr he hold hnew
      have ek : k = n := by omega
      subst ek
      have s1 := fr.S hS
      refine vX12_feed_36 _ _ _ _ ⟨fun _ => ⟨s1.1, ?_⟩, fun q => absurd ?_ q⟩
      · rw [he]
        refine u_done d s1 ?_
        refine ⟨_, rfl, hq1 _ (fr.sm (by decide)) ?_ xi_eq (fun i hi => ?_) (fun j hj => ?_)⟩
        · rw [xi_nk (by omega)]; exact he
        · rw [xi_na (by omega)]; exact hold i hi
        · rw [xi_na (by omega)]; exact hnew j hj
      · rw [g3, nI_leI (by omega) (by omega)]
        omega
    | succ r ih =>
      intro k hk M1 fr he hold hnew
      have s1 := fr.S hS
      refine vX12_feed_36 _ _ _ _ ⟨fun q => ?_, fun _ => ⟨s1.1, m + 15, s1.r15, by rw [s1.h15], ?_, ?_⟩⟩
      · rw [g3, nI_leI (by omega) (by omega)] at q
        omega
      · rw [he, s1.h15]
        exact vp_in_nI (show y_L S + k < 120 by omega) (by omega)
      · rintro M10 rfl M11 rfl
        rw [he, nI_clamp (by omega), by_r l (by omega), xi_na (by omega), he, nI_1, nI_1]
        refine ih (k + 1) (by omega) _ ((fr.si (by omega) (by decide)).sm (by decide)) xi_eq (fun i hi => ?_) (fun j hj => ?_)
        · rw [xi_na (by omega), xi_nk (by omega)]; exact hold i hi
        · rw [xi_na (by omega)]
          by_cases c : j = k
          · rw [c, xi_eq]
          · rw [xi_nk (by omega)]; exact hnew j (by omega)
  refine eX12_feed m x l (u_inI d (x := x) (y := 1) (z := 8) (by omega) (by omega) (by omega) (by omega) ?_)
  by_cases c : 1 ≤ x.toInt ∧ x.toInt ≤ 8
  · rw [if_pos c]
    refine ⟨_, rfl, fun _ => ⟨hS.1, ?_⟩, fun q => absurd q (by decide)⟩
    obtain ⟨n, hn, ex⟩ := nI_ofInt (x := x) (n := 9) (by omega) (by omega) (by omega)
    have hn1 : 1 ≤ n := by
      have := c.1
      rw [ex, nI_toInt (by omega)] at this
      omega
    rw [g18, ex, s_add, show (120 : Int32) = nI 120 from rfl, nI_leI (by omega) (by omega), ← ex]
    exact ⟨fun c => loop n ⟨hn1, by omega, ex, c⟩ n 0 (by omega) M FrM.rf g18 (fun _ _ => rfl) (fun j hj => absurd hj (Nat.not_lt_zero j)), fun c => refuse 2 (Or.inr ⟨n, hn1, by omega, ex, by omega, rfl⟩)⟩
  · rw [if_neg c]
    refine ⟨_, rfl, fun q => absurd rfl q, fun _ => ⟨hS.1, refuse 1 (Or.inl ⟨rfl, fun n h1 h2 ex => c ?_⟩)⟩⟩
    rw [ex, nI_toInt (by omega)]
    omega
end OpFeed
