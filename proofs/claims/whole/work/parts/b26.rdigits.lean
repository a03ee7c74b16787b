/-! ===== the reference: digits, letters, what a question holds ===== -/
section RDigitsC
variable {G : GG} {M : Mem} {m b : Nat} {Q : Option Value → Mem → Prop}
theorem nI_m1s (k : Nat) : nI (k + 1) + (-1) = nI k := by
  show iI ((k + 1 : Nat) : Int) + iI (-1) = iI (k : Int)
  rw [iI_add]
  congr 1
  omega
theorem ur_digitsOf (d : Nat) (hs : ReS M m) (hb1 : 1 < b) (hb3 : b ≤ 3) (h0 : x_i M m 0 = nI b) {w places v : Nat} (hw : w ≤ 2) (hp0 : 0 < places) (hp : places ≤ 110) (hv : v < 2 ^ 63) (hQ : ∀ M', FrM M M' m [] [58] → (∀ k, k < places → x_i M' (m + 58) (110 * w + k) = nI (v / b ^ (places - 1 - k) % b)) → (∀ t, t < 110 * w ∨ 110 * w + places ≤ t → x_i M' (m + 58) t = x_i M (m + 58) t) → Q none M') :
    Call G (d + 1) 0 0 mX12_digitsOf [.ref m, .int (nI w), .long (lN v), .int (nI places)] M Q := by
  refine eX12_digitsOf m _ _ _ ?_
  have bl : (nI b).toInt64 = lN b := nI_l (by omega)
  have bz : ¬ lN b = 0 := fun e => absurd ((lN_eq0 (by omega)).mp e) (by omega)
  have key : ∀ k, k < places → ∀ M', FrM M M' m [] [58] → (∀ k', k < k' → k' < places → x_i M' (m + 58) (110 * w + k') = nI (v / b ^ (places - 1 - k') % b)) → (∀ t, t < 110 * w ∨ 110 * w + places ≤ t → x_i M' (m + 58) t = x_i M (m + 58) t) → LX12_digitsOf_9 G d 0 0 m (nI w) (lN v) (nI places) (lN (v / b ^ (places - 1 - k))) (nI k) M' Q := by
    intro k
    induction k with
    | zero =>
      intro hk M' hfr h1 h2
      have q1 := hfr.S hs
      have e0 : x_i M' m 0 = nI b := by rw [hfr.fm (by decide)]; exact h0
      have hvd : v / b ^ (places - 1 - 0) < 2 ^ 63 := Nat.lt_of_le_of_lt (Nat.div_le_self _ _) hv
      refine vX12_digitsOf_9 _ _ _ _ _ _ ⟨fun c => absurd c (nI_pos (by omega)), fun _ => ⟨q1.1, m + 58, q1.r58, ?_⟩⟩
      have ea : (110 : Int32) * nI w + nI 0 = nI (110 * w + 0) := by rw [show (110 : Int32) = nI 110 from rfl, pk_mul, nI_add]
      rw [e0, bl, ea, nI_clamp (by omega), pk_lRem hvd (by omega) (by omega), lN_i]
      refine ⟨bz, by rw [q1.h58], by rw [q1.h58]; exact vp_in_nI (show 110 * w + 0 < 330 by omega) (by omega), ?_⟩
      rintro M7 rfl
      rw [xm_mo (by decide), e0, bl, pk_lDiv hvd (by omega) (by omega)]
      refine ⟨bz, vX12_digitsOf_9 _ _ _ _ _ _ ⟨fun _ => ?_, fun c => absurd (show nI 0 + (-1) < 0 by decide) c⟩⟩
      refine hQ _ (hfr.si (by decide) (by decide)) (fun k' hk' => ?_) (fun t ht => by rw [xi_nk (by omega)]; exact h2 t ht)
      by_cases e : k' = 0
      · rw [e, xi_eq]
      · rw [xi_nk (by omega)]; exact h1 k' (by omega) hk'
    | succ k ih =>
      intro hk M' hfr h1 h2
      have q1 := hfr.S hs
      have e0 : x_i M' m 0 = nI b := by rw [hfr.fm (by decide)]; exact h0
      have hvd : v / b ^ (places - 1 - (k + 1)) < 2 ^ 63 := Nat.lt_of_le_of_lt (Nat.div_le_self _ _) hv
      refine vX12_digitsOf_9 _ _ _ _ _ _ ⟨fun c => absurd c (nI_pos (by omega)), fun _ => ⟨q1.1, m + 58, q1.r58, ?_⟩⟩
      have ea : (110 : Int32) * nI w + nI (k + 1) = nI (110 * w + (k + 1)) := by rw [show (110 : Int32) = nI 110 from rfl, pk_mul, nI_add]
      rw [e0, bl, ea, nI_clamp (by omega), pk_lRem hvd (by omega) (by omega), lN_i]
      refine ⟨bz, by rw [q1.h58], by rw [q1.h58]; exact vp_in_nI (show 110 * w + (k + 1) < 330 by omega) (by omega), ?_⟩
      rintro M7 rfl
      rw [xm_mo (by decide), e0, bl, pk_lDiv hvd (by omega) (by omega), nI_m1s, Nat.div_div_eq_div_mul, ← Nat.pow_succ, show (places - 1 - (k + 1)).succ = places - 1 - k by omega]
      refine ⟨bz, ih (by omega) _ (hfr.si (by decide) (by decide)) (fun k' g1 g2 => ?_) (fun t ht => by rw [xi_nk (by omega)]; exact h2 t ht)⟩
      by_cases e : k' = k + 1
      · rw [e, xi_eq]
      · rw [xi_nk (by omega)]; exact h1 k' (by omega) g2
  have h9 := key (places - 1) (by omega) M FrM.rf (fun k' g1 g2 => absurd g1 (by omega)) (fun _ _ => rfl)
  rw [show places - 1 - (places - 1) = 0 by omega, Nat.pow_zero, Nat.div_one] at h9
  rw [show nI places - 1 = nI (places - 1) from pk_sub (b := 1) hp0]
  exact h9
theorem cd1 {x y z e : Nat} : cd b 1 x y z e = x / b ^ e % b := rfl
theorem ur_letter35 (d : Nat) (hs : ReS M m) (hb1 : 1 < b) (hb3 : b ≤ 3) {row v : Nat} {mc : Mc} {l2 : Int64} (hr : row < 10) (hR : ReR M m row b mc) (hn0 : 0 < m_n mc) (hn : m_n mc ≤ 60) (hc : ∀ i, i < m_n mc → ∀ g, g < b → m_s mc i g < m_n mc) (hdig : ∀ k, k < 64 → x_i M (m + 58) k = nI (v / b ^ (63 - k) % b)) (hQ : Q (some (.int (nI (m_k mc (rn (m_s mc) 0 (rw_ b 1 v 0 0 64)))))) M) :
    LX12_letter_35 G (d + 1) 0 0 m (nI row) l2 (nI 0) (nI 0) M Q := by
  have key : ∀ e k q, k + e = 64 → q < m_n mc → Q (some (.int (nI (m_k mc (rn (m_s mc) q (rw_ b 1 v 0 0 e)))))) M → LX12_letter_35 G (d + 1) 0 0 m (nI row) l2 (nI q) (nI k) M Q := by
    intro e
    induction e with
    | zero =>
      intro k q hk hq hQ
      refine vX12_letter_35 _ _ _ _ _ ⟨fun _ => ⟨hs.1, m + 4, hs.r4, by rw [hs.h4], by rw [e60_, hs.h4]; exact vp_in_nI (show 60 * row + q < 600 by omega) (by omega), ?_⟩, fun c => absurd (by rw [show k = 64 by omega]; decide) c⟩
      rw [e60_, nI_clamp (by omega), hR.2.1 q hq]
      exact hQ
    | succ e ih =>
      intro k q hk hq hQ
      have hdg : v / b ^ e % b < b := Nat.mod_lt _ (by omega)
      refine vX12_letter_35 _ _ _ _ _ ⟨fun c => absurd c (nI_ge (a := k) (b := 64) (by omega) (by omega)), fun _ => ⟨hs.1, m + 58, hs.r58, by rw [hs.h58], by rw [hs.h58]; exact vp_in_nI (show k < 330 by omega) (by omega), ?_⟩⟩
      rw [nI_clamp (by omega), hdig k (by omega), show 63 - k = e by omega]
      refine ur_rowTo d hs hR hr hn hb3 hq hdg ⟨_, rfl, ?_⟩
      rw [nI_1]
      exact ih (k + 1) _ (by omega) (hc q hq _ hdg) hQ
  exact key 64 0 0 rfl hn0 hQ
theorem ur_to (d : Nat) (hs : ReS M m) {q f i k : Nat} {mc : Mc} (h : ReQ M m q f mc) (hq : q < 10) (hn : m_n mc ≤ 40) (hf : f ≤ 27) (hi : i < m_n mc) (hk : k < f) (hQ : Q (some (.int (nI (m_s mc i k)))) M) : Call G (d + 1) 0 0 mX12_to [.ref m, .int (nI q), .int (nI i), .int (nI k)] M Q := by
  refine eX12_to m _ _ _ ⟨hs.1, m + 13, hs.r13, by rw [hs.h13], by rw [e40_, e27_, hs.h13]; exact vp_in_nI (show 27 * (40 * q + i) + k < 10800 by omega) (by omega), ?_⟩
  rw [e40_, e27_, nI_clamp (by omega), h.2.2 i hi k hk]
  exact hQ
theorem ur_holds148 (d : Nat) (hs : ReS M m) (hb : b = 2 ∨ b = 3) (h0 : x_i M m 0 = nI b) {q n x y z : Nat} {mc : Mc} {l2 l4 l6 : Int64} {x9 : Int32} (hq : q < 10) (hn3 : n ≤ 3) (hM : ReQ M m q (b ^ n) mc) (hn0 : 0 < m_n mc) (hn : m_n mc ≤ 40) (hc : ∀ i, i < m_n mc → ∀ g, g < b ^ n → m_s mc i g < m_n mc) (hk1 : ∀ i, i < m_n mc → m_k mc i ≤ 1) (d1 : ∀ k, k < 64 → x_i M (m + 58) (110 * 0 + k) = nI (x / b ^ (63 - k) % b)) (d2 : ∀ k, k < 64 → x_i M (m + 58) (110 * 1 + k) = nI (y / b ^ (63 - k) % b)) (d3 : ∀ k, k < 64 → x_i M (m + 58) (110 * 2 + k) = nI (z / b ^ (63 - k) % b))
    (hQ : Q (some (.int (nI (m_k mc (rn (m_s mc) 0 (rw_ b n x y z 64)))))) M) :
    ∀ z12 z13, c1 z12 = true → c1 z13 = true → LX12_holds_148 G (d + 1) 0 0 m (nI q) l2 l4 l6 (nI n) x9 (nI 0) (nI 0) z12 z13 M Q := by
  have hb1 : 1 < b := by omega
  have hb3 : b ≤ 3 := by omega
  have hf27 : b ^ n ≤ 27 := by
    have a1 : b ^ n ≤ b ^ 3 := Nat.pow_le_pow_right (by omega) hn3
    have a2 : b ^ 3 ≤ 3 ^ 3 := Nat.pow_le_pow_left hb3 3
    omega
  have e110 : ∀ j k : Nat, (110 : Int32) * nI j + nI k = nI (110 * j + k) := fun j k => by rw [show (110 : Int32) = nI 110 from rfl, pk_mul, nI_add]
  have key : ∀ e k s, k + e = 64 → s < m_n mc → Q (some (.int (nI (m_k mc (rn (m_s mc) s (rw_ b n x y z e)))))) M → ∀ z12 z13, c1 z12 = true → c1 z13 = true → LX12_holds_148 G (d + 1) 0 0 m (nI q) l2 l4 l6 (nI n) x9 (nI s) (nI k) z12 z13 M Q := by
    intro e
    induction e with
    | zero =>
      intro k s hk hs' hQ z12 z13 hz12 hz13
      have hks := hk1 s hs'
      have hQ' : Q (some (.int (nI (m_k mc s)))) M := hQ
      refine vX12_holds_148 _ _ _ _ _ _ _ _ _ _ _ hz12 hz13 ⟨fun _ => ⟨hs.1, m + 14, hs.r14, by rw [hs.h14], by rw [e40_, hs.h14]; exact vp_in_nI (show 40 * q + s < 400 by omega) (by omega), ?_⟩, fun c => absurd (by rw [show k = 64 by omega]; decide) c⟩
      rw [e40_, nI_clamp (by omega), hM.2.1 s hs']
      have ek : nI (m_k mc s) = 0 ↔ m_k mc s = 0 := nI_eq (b := 0) (by omega) (by omega)
      rw [ek]
      refine ⟨fun c => ?_, fun c => ?_⟩
      · rw [c] at hQ'; exact hQ'
      · rw [show m_k mc s = 1 by omega] at hQ'; exact hQ'
    | succ e ih =>
      intro k s hk hs' hQ z12 z13 hz12 hz13
      have hcd : cd b n x y z e < b ^ n := cd_lt hb1 hn3
      have last : ∀ (w : Nat) , w = cd b n x y z e → LX12_holds_161 G (d + 1) 0 0 m (nI q) l2 l4 l6 (nI n) x9 (nI s) (nI k) (nI w) (nI n) M Q := by
        rintro w rfl
        refine vX12_holds_161 _ _ _ _ _ _ _ _ _ _ _ ⟨fun _ => ⟨hs.1, ur_to d hs hM hq hn hf27 hs' hcd ⟨_, rfl, ?_⟩⟩, fun c => absurd (nI_le (Nat.le_refl n) (by omega)) c⟩
        rw [nI_1]
        exact ih (k + 1) _ (by omega) (hc s hs' _ hcd) hQ _ _ rfl rfl
      have step : ∀ (j w dg : Nat), j < n → w < 100 → dg < 3 → x_i M (m + 58) (110 * j + k) = nI dg → LX12_holds_161 G (d + 1) 0 0 m (nI q) l2 l4 l6 (nI n) x9 (nI s) (nI k) (nI (w * b + dg)) (nI (j + 1)) M Q → LX12_holds_161 G (d + 1) 0 0 m (nI q) l2 l4 l6 (nI n) x9 (nI s) (nI k) (nI w) (nI j) M Q := by
        intro j w dg hj hw hdg hx hnext
        refine vX12_holds_161 _ _ _ _ _ _ _ _ _ _ _ ⟨fun c => absurd c (nI_ge (a := j) (b := n) (by omega) (by omega)), fun _ => ⟨hs.1, m + 58, hs.r58, by rw [hs.h58], by rw [e110, hs.h58]; exact vp_in_nI (show 110 * j + k < 330 by omega) (by omega), ?_⟩⟩
        rw [h0, e110, nI_clamp (by omega), hx, pk_mul, nI_add, nI_1, Nat.mul_comm b w]
        exact hnext
      have hx1 := d1 k (by omega)
      have hx2 := d2 k (by omega)
      have hx3 := d3 k (by omega)
      rw [show 63 - k = e by omega] at hx1 hx2 hx3
      have l1 : x / b ^ e % b < b := Nat.mod_lt _ (by omega)
      have l2' : y / b ^ e % b < b := Nat.mod_lt _ (by omega)
      have l3 : z / b ^ e % b < b := Nat.mod_lt _ (by omega)
      refine vX12_holds_148 _ _ _ _ _ _ _ _ _ _ _ hz12 hz13 ⟨fun c => absurd c (nI_ge (a := k) (b := 64) (by omega) (by omega)), fun _ => ?_⟩
      show LX12_holds_161 G (d + 1) 0 0 m (nI q) l2 l4 l6 (nI n) x9 (nI s) (nI k) (nI 0) (nI 0) M Q
      rcases (show n = 0 ∨ n = 1 ∨ n = 2 ∨ n = 3 by omega) with e0 | e0 | e0 | e0
      · subst e0; exact last 0 rfl
      · subst e0
        refine step 0 0 _ (by omega) (by omega) (by omega) hx1 ?_
        exact last _ (by rw [Nat.zero_mul, Nat.zero_add]; rfl)
      · subst e0
        refine step 0 0 _ (by omega) (by omega) (by omega) hx1 ?_
        rw [Nat.zero_mul, Nat.zero_add]
        refine step 1 _ _ (by omega) (by omega) (by omega) hx2 ?_
        exact last _ rfl
      · subst e0
        refine step 0 0 _ (by omega) (by omega) (by omega) hx1 ?_
        rw [Nat.zero_mul, Nat.zero_add]
        refine step 1 _ _ (by omega) (by omega) (by omega) hx2 ?_
        have hw2 : x / b ^ e % b * b + y / b ^ e % b < 100 := by
          rcases hb with h | h <;> subst h <;> omega
        refine step 2 _ _ (by omega) hw2 (by omega) hx3 ?_
        exact last _ rfl
  exact key 64 0 0 rfl hn0 hQ
end RDigitsC
