/-! ===== Reckoner: the least number where two rows differ ===== -/
section UnlikeC
variable {G : GG} {M : Mem} {r b : Nat} {Q : Option Value → Mem → Prop}
/-- the reckoner's cells -/
def RkS (M : Mem) (r : Nat) : Prop := (x_h M r).1 = 22 ∧ (∀ k, k < 9 → x_r M r k = some (r + 1 + k)) ∧ x_h M (r + 1) = (1, 3600) ∧ x_h M (r + 2) = (1, 3600) ∧ x_h M (r + 3) = (2, 3600) ∧ x_h M (r + 4) = (2, 106) ∧ x_h M (r + 5) = (1, 64) ∧ x_h M (r + 6) = (1, 65) ∧ x_h M (r + 7) = (2, 40) ∧ x_h M (r + 8) = (2, 40) ∧ x_h M (r + 9) = (2, 40)
theorem RkS.eq {M' : Mem} (h : RkS M r) (h1 : x_h M' = x_h M) (h2 : x_r M' = x_r M) : RkS M' r := by
  unfold RkS
  rw [h1, h2]
  exact h
theorem w_markC (d : Nat) {o mv mk nm nk n f i : Nat} {st : Nat → Nat → Nat} {mr : Nat → Nat} (hs : LeS M o mv mk nm nk) (h : LeI M o mv mk n f st mr) (hn : n ≤ nk) (hi : i < n) (hQ : Q (some (.int (nI (mr i)))) M) : Call G (d + 2) 0 0 mX1_mark [.ref o, .int (nI i)] M Q :=
  Call.mono (k_mark d hs h hn hi) (fun r M' g => by rw [g.1, g.2]; exact hQ)
theorem w_afterC (d : Nat) {o mv mk nm nk n f i g : Nat} {st : Nat → Nat → Nat} {mr : Nat → Nat} (hs : LeS M o mv mk nm nk) (h : LeI M o mv mk n f st mr) (hn : n * f ≤ nm) (hi : i < n) (hg : g < f) (hQ : Q (some (.int (nI (st i g)))) M) : Call G (d + 1) 0 0 mX1_after [.ref o, .int (nI i), .int (nI g)] M Q :=
  Call.mono (k_after d hs h hn hi hg) (fun r M' g => by rw [g.1, g.2]; exact hQ)
theorem w_longer (d : Nat) (hb1 : 1 < b) (hb3 : b ≤ 3) {v g : Nat} (hv : v < 2 ^ 63) (hg : g < b) (hQ : Q (some (.long (lN (lgr b v g)))) M) : Call G (d + 1) 0 0 mX6_longer [.long (lN v), .int (nI g), .int (nI b)] M Q := by
  have e1 : (4611686018427387904 : Int64) - (nI g).toInt64 = lN (4611686018427387904 - g) := by
    rw [nI_l (by omega), show (4611686018427387904 : Int64) = lN 4611686018427387904 from rfl, lN_sub (by omega)]
  have hq : (4611686018427387904 - g) / b < 2 ^ 63 := Nat.lt_of_le_of_lt (Nat.div_le_self _ _) (by omega)
  refine eX6_longer _ _ _ ⟨fun c => absurd ((nI_ltI (a := b) (b := 1) (by omega) (by omega)).mp c) (by omega), fun _ => ?_⟩
  rw [lg_cmp_le, e1, nI_l (n := b) (by omega), nI_l (n := g) (by omega), pk_lDiv (by omega) (by omega) (by omega), pk_lLE hv hq, lN_mul, lN_add, Nat.mul_comm v b]
  refine ⟨fun e => absurd ((lN_eq0 (by omega)).mp e) (by omega), fun c => ?_, fun c => ?_⟩
  · unfold lgr at hQ
    rw [if_pos c] at hQ
    exact hQ
  · unfold lgr at hQ
    rw [if_neg c] at hQ
    exact hQ
/-- what stands while the pairs are met: keys l * nb + r -/
def UnI (M : Mem) (r nb : Nat) (K W : List Nat) : Prop := (∀ t, t < K.length → x_i M (r + 1) t = nI (K.getD t 0 / 60 * nb + K.getD t 0 % 60)) ∧ (∀ x, x < 3600 → x_i M (r + 2) x = if ∃ k ∈ K, k / 60 * nb + k % 60 = x then 1 else 0) ∧ (∀ t, t < W.length → x_l M (r + 3) t = lN (W.getD t 0))
theorem w_leastUnlike (d : Nat) (hr : RkS M r) (hb1 : 1 < b) (hb3 : b ≤ 3) {oa va ka ob vb kb : Nat} {ma mb : Mc} (ha : LeS M oa va ka 180 60) (hai : LeI M oa va ka (m_n ma) b (m_s ma) (m_k ma)) (hB : LeS M ob vb kb 180 60) (hbi : LeI M ob vb kb (m_n mb) b (m_s mb) (m_k mb)) (had : ∀ q ∈ [oa, va, ka], q < r ∨ r + 9 < q) (hbd : ∀ q ∈ [ob, vb, kb], q < r ∨ r + 9 < q)
    (hna : 0 < m_n ma ∧ m_n ma ≤ 60) (hnb : 0 < m_n mb ∧ m_n mb ≤ 60) (hca : ∀ i, i < m_n ma → ∀ g, g < b → m_s ma i g < m_n ma) (hcb : ∀ i, i < m_n mb → ∀ g, g < b → m_s mb i g < m_n mb) (hka : ∀ i, i < m_n ma → m_k ma i < 8) (hkb : ∀ i, i < m_n mb → m_k mb i < 8)
    (hQ : ∀ M' res, Fr M M' [r + 1, r + 2, r + 3] → DfR (ppD (m_s ma) (m_s mb)) b (fun x => m_k ma (x / 60) = m_k mb (x % 60)) res → Q (some (.long res)) M') :
    Call G (d + 3) 0 0 mX6_leastUnlike [.ref r, .ref oa, .ref ob, .int (nI b)] M Q := by
  obtain ⟨k1, k2, k3, k4, k5, -⟩ := id hr
  generalize hδ : ppD (m_s ma) (m_s mb) = δ at *
  have hδx : ∀ x g, δ x g = m_s ma (x / 60) g * 60 + m_s mb (x % 60) g := fun x g => by rw [← hδ]; rfl
  have hKn : ∀ c, exV δ b 0 c → ∀ x ∈ ex δ b 0 c, x / 60 < m_n ma ∧ x % 60 < m_n mb := fun c hV => ex_all (P := fun x => x / 60 < m_n ma ∧ x % 60 < m_n mb) (by omega) ⟨hna.1, hnb.1⟩ (fun x hx g hg => by
    have h1 := hca _ hx.1 g hg
    have h2 := hcb _ hx.2 g hg
    rw [hδx]
    generalize m_s ma (x / 60) g = X at h1 ⊢
    generalize m_s mb (x % 60) g = Y at h2 ⊢
    constructor <;> omega) c hV
  have hab : m_n ma * m_n mb ≤ 3600 := by
    have : m_n ma * m_n mb ≤ 60 * 60 := Nat.mul_le_mul hna.2 hnb.2
    omega
  have hφ : ∀ l y, l < m_n ma → y < m_n mb → l * m_n mb + y < 3600 := fun l y hl hy => by
    have : (l + 1) * m_n mb ≤ m_n ma * m_n mb := Nat.mul_le_mul_right _ hl
    rw [Nat.succ_mul] at this
    omega
  have hdiv : ∀ l y, y < m_n mb → (l * m_n mb + y) / m_n mb = l ∧ (l * m_n mb + y) % m_n mb = y := fun l y hy => ⟨by rw [Nat.mul_comm, Nat.mul_add_div hnb.1, Nat.div_eq_of_lt hy]; rfl, by rw [Nat.mul_comm, Nat.mul_add_mod]; exact Nat.mod_eq_of_lt hy⟩
  have hlen : ∀ c, exV δ b 0 c → (ex δ b 0 c).length ≤ 3600 := fun c hV => nd_len 3600 _ (ex_nd c) (fun x hx => by
    have := hKn c hV x hx
    omega)
  have hna3 : m_n ma * b ≤ 180 := by
    have : m_n ma * b ≤ 60 * 3 := Nat.mul_le_mul hna.2 hb3
    omega
  have hnb3 : m_n mb * b ≤ 180 := by
    have : m_n mb * b ≤ 60 * 3 := Nat.mul_le_mul hnb.2 hb3
    omega
  have nin : ∀ {q : Nat}, (q < r ∨ r + 9 < q) → q ∉ [r + 1, r + 2, r + 3] := fun h => by simp; omega
  have fr0 : ∀ {M' : Mem}, Fr M M' [r + 1, r + 2, r + 3] → RkS M' r ∧ LeS M' oa va ka 180 60 ∧ LeI M' oa va ka (m_n ma) b (m_s ma) (m_k ma) ∧ LeS M' ob vb kb 180 60 ∧ LeI M' ob vb kb (m_n mb) b (m_s mb) (m_k mb) := fun g => ⟨hr.eq g.h g.r, ha.fF g, hai.fF g (fun q hq => nin (had q hq)), hB.fF g, hbi.fF g (fun q hq => nin (hbd q hq))⟩
  have bz : ¬ nI (m_n mb) = 0 := fun e => absurd ((nI_eq (a := m_n mb) (b := 0) (by omega) (by omega)).mp e) (by omega)
  have inner : ∀ i, i < 3600 → (∀ M' c z z1 z2 z3, Fr M M' [r + 1, r + 2, r + 3] → c = i * b + b → UnI M' r (m_n mb) (ex δ b 0 c) (wl δ b 0 c) → exV δ b 0 c → i < (ex δ b 0 c).length → c1 z = true → c1 z1 = true → c1 z2 = true → c1 z3 = true → LX6_leastUnlike_41 G (d + 2) 0 0 r oa ob (nI b) (nI (m_n mb)) (nI (ex δ b 0 c).length) (nI (i + 1)) z z1 z2 z3 M' Q) →
      ∀ k j, j + k = b → ∀ M', Fr M M' [r + 1, r + 2, r + 3] → UnI M' r (m_n mb) (ex δ b 0 (i * b + j)) (wl δ b 0 (i * b + j)) → exV δ b 0 (i * b + j) → i < (ex δ b 0 (i * b + j)).length → ∀ x7 x8, x7 = nI ((ex δ b 0 (i * b + j)).getD i 0 / 60) → x8 = nI ((ex δ b 0 (i * b + j)).getD i 0 % 60) → ∀ z, c1 z = true → LX6_leastUnlike_131 G (d + 2) 0 0 r oa ob (nI b) (nI (m_n mb)) (nI (ex δ b 0 (i * b + j)).length) (nI i) x7 x8 (nI j) z M' Q := by
    intro i hi36 hout k
    induction k with
    | zero =>
      intro j hj M' hfr hun hV hil x7 x8 hx7 hx8 z hz
      have e : j = b := by omega
      rw [e] at hun hV hil ⊢
      refine vX6_leastUnlike_131 _ _ _ _ _ _ _ _ _ _ _ hz ⟨fun _ => ?_, fun c => absurd (nI_le (Nat.le_refl b) (by omega)) c⟩
      rw [nI_1]
      exact hout M' _ _ _ _ _ hfr rfl hun hV hil rfl rfl rfl hz
    | succ k ih =>
      intro j hj M' hfr hun hV hil x7 x8 hx7 hx8 z hz
      have hjf : j < b := by omega
      have hlen0 := hlen _ hV
      have hwl := wl_len (δ := δ) (b := b) (k0 := 0) (i * b + j)
      obtain ⟨q1, q2, q3, q4, q5⟩ := fr0 hfr
      obtain ⟨u1, u2, u3⟩ := hun
      obtain ⟨kn1, kn2⟩ := hKn _ hV _ (getD_mem hil)
      have hW : (wl δ b 0 (i * b + j)).getD i 0 ≤ 4611686018427387905 := wl_le hb1 hb3 _ _ (getD_mem (by omega))
      have hx0 : (ex δ b 0 (i * b + j + 1)).getD i 0 = (ex δ b 0 (i * b + j)).getD i 0 := ex_getD _ 1 hil
      generalize hxe : (ex δ b 0 (i * b + j)).getD i 0 = x at hx7 hx8 kn1 kn2 hx0
      have e1 : (i * b + j) / b = i := by rw [Nat.mul_comm, Nat.mul_add_div (by omega), Nat.div_eq_of_lt hjf]; rfl
      have e2 : (i * b + j) % b = j := by rw [Nat.mul_comm, Nat.mul_add_mod]; exact Nat.mod_eq_of_lt hjf
      have hex : ex δ b 0 (i * b + j + 1) = ins (ex δ b 0 (i * b + j)) (m_s ma (x / 60) j * 60 + m_s mb (x % 60) j) := by
        show ins _ (δ ((ex δ b 0 (i * b + j)).getD ((i * b + j) / b) 0) ((i * b + j) % b)) = _
        rw [e1, e2, hxe, hδx]
      have hwx : wl δ b 0 (i * b + j + 1) = if (ex δ b 0 (i * b + j + 1)).length ≤ (ex δ b 0 (i * b + j)).length then wl δ b 0 (i * b + j) else wl δ b 0 (i * b + j) ++ [lgr b ((wl δ b 0 (i * b + j)).getD i 0) j] := by
        show (if _ then _ else _ ++ [lgr b ((wl δ b 0 (i * b + j)).getD ((i * b + j) / b) 0) ((i * b + j) % b)]) = _
        rw [e1, e2]
      have hV' : exV δ b 0 (i * b + j + 1) := fun p hp => by
        by_cases e : p = i * b + j
        · rw [e, e1]; exact hil
        · exact hV p (by omega)
      have hil' : i < (ex δ b 0 (i * b + j + 1)).length := Nat.lt_of_lt_of_le hil (ex_le _ 1)
      have hsa := hca _ kn1 j hjf
      have hsb := hcb _ kn2 j hjf
      have hKv := hKn _ hV
      generalize hX : m_s ma (x / 60) j = X at hsa hex
      generalize hY : m_s mb (x % 60) j = Y at hsb hex
      have hφ3 := hφ X Y hsa hsb
      have hkk : (X * 60 + Y) / 60 = X ∧ (X * 60 + Y) % 60 = Y := by constructor <;> omega
      -- the key is met iff the pair is
      have hmet : (∃ k ∈ ex δ b 0 (i * b + j), k / 60 * m_n mb + k % 60 = X * m_n mb + Y) ↔ (X * 60 + Y) ∈ ex δ b 0 (i * b + j) := by
        constructor
        · rintro ⟨k, hk, e⟩
          obtain ⟨v1, v2⟩ := hKv k hk
          have h1 := hdiv (k / 60) (k % 60) v2
          have h2 := hdiv X Y hsb
          rw [e] at h1
          have h3 : k / 60 = X := by rw [← h1.1, h2.1]
          have h4 : k % 60 = Y := by rw [← h1.2, h2.2]
          have h5 : k = X * 60 + Y := by omega
          rw [← h5]; exact hk
        · intro h
          exact ⟨_, h, by rw [hkk.1, hkk.2]⟩
      have ecl : (nI (X * m_n mb + Y)).toNatClampNeg = X * m_n mb + Y := nI_clamp (by omega)
      have vinX : ∀ {M2 : Mem} {a : Nat}, x_h M2 a = (1, 3600) → vp_in (nI (X * m_n mb + Y)) (x_h M2 a).2 := fun h => by rw [h]; exact vp_in_nI hφ3 (by omega)
      refine vX6_leastUnlike_131 _ _ _ _ _ _ _ _ _ _ _ hz ⟨fun c => absurd c (nI_ge (a := j) (b := b) (by omega) (by omega)), fun _ => ⟨q2.1, ?_⟩⟩
      rw [hx7, hx8]
      refine w_afterC (d + 1) q2 q3 hna3 kn1 hjf ⟨_, rfl, q4.1, ?_⟩
      refine w_afterC (d + 1) q4 q5 hnb3 kn2 hjf ⟨_, rfl, ?_⟩
      rw [hX, hY, pk_mul, nI_add]
      refine w_within (i := X * m_n mb + Y) (n := 3600) (d + 1) (by omega) (by omega) ⟨_, rfl, fun c => ?_, fun _ => ⟨q1.1, r + 2, q1.2.1 1 (by omega), by rw [q1.2.2.2.1], vinX q1.2.2.2.1, ?_⟩⟩
      · rw [if_pos hφ3] at c
        exact absurd c (by decide)
      · rw [ecl, u2 _ hφ3, nI_1]
        refine ⟨fun c => ?_, fun c => ?_⟩
        · have hin : (X * 60 + Y) ∈ ex δ b 0 (i * b + j) := by
            rw [← hmet]
            exact Classical.not_not.mp (fun q => c (if_neg q))
          have e : ex δ b 0 (i * b + j + 1) = ex δ b 0 (i * b + j) := by rw [hex]; exact if_pos hin
          have ew : wl δ b 0 (i * b + j + 1) = wl δ b 0 (i * b + j) := by rw [hwx, if_pos (by rw [e]; exact Nat.le_refl _)]
          have := ih (j + 1) (by omega) M' hfr (by rw [← Nat.add_assoc, e, ew]; exact ⟨u1, u2, u3⟩) hV' hil' (nI (x / 60)) (nI (x % 60)) (by rw [← Nat.add_assoc, hx0]) (by rw [← Nat.add_assoc, hx0]) (some (.int (nI (X * m_n mb + Y)))) rfl
          rw [← Nat.add_assoc, e] at this
          exact this
        · have hnin : (X * 60 + Y) ∉ ex δ b 0 (i * b + j) := fun q => by
            rw [if_pos (hmet.mpr q)] at c
            exact absurd c (by decide)
          have e : ex δ b 0 (i * b + j + 1) = ex δ b 0 (i * b + j) ++ [X * 60 + Y] := by rw [hex]; exact if_neg hnin
          have el : (ex δ b 0 (i * b + j + 1)).length = (ex δ b 0 (i * b + j)).length + 1 := by rw [e, List.length_append]; rfl
          have ew : wl δ b 0 (i * b + j + 1) = wl δ b 0 (i * b + j) ++ [lgr b ((wl δ b 0 (i * b + j)).getD i 0) j] := by rw [hwx, if_neg (by omega)]
          have hlen1 := hlen _ hV'
          have vinL : ∀ {M2 : Mem} {a k : Nat}, x_h M2 a = (k, 3600) → vp_in (nI (ex δ b 0 (i * b + j)).length) (x_h M2 a).2 := fun h => by rw [h]; exact vp_in_nI (by omega) (by omega)
          rintro M19 rfl
          refine ⟨r + 1, q1.2.1 0 (by omega), by rw [q1.2.2.1], vinL q1.2.2.1, ?_⟩
          rintro M23 rfl
          refine ⟨r + 3, q1.2.1 2 (by omega), by rw [q1.2.2.2.2.1], by rw [q1.2.2.2.2.1]; exact vp_in_nI (show i < 3600 by omega) (by omega), ?_⟩
          rw [nI_clamp (n := (ex δ b 0 (i * b + j)).length) (by omega), nI_clamp (n := i) (by omega)]
          have hl3 : x_l (x_si (x_si M' (r + 2) (X * m_n mb + Y) 1) (r + 1) (ex δ b 0 (i * b + j)).length (nI (X * m_n mb + Y))) (r + 3) i = lN ((wl δ b 0 (i * b + j)).getD i 0) := u3 i (by omega)
          rw [hl3]
          refine w_longer (d + 1) hb1 hb3 (by omega) hjf ⟨_, rfl, ?_⟩
          refine ⟨by show (x_h M' (r + 3)).1 = 2; rw [q1.2.2.2.2.1], by show vp_in _ (x_h M' (r + 3)).2; exact vinL q1.2.2.2.2.1, ?_⟩
          rintro M32 rfl
          rw [nI_1]
          have := ih (j + 1) (by omega) (x_sl (x_si (x_si M' (r + 2) (X * m_n mb + Y) 1) (r + 1) (ex δ b 0 (i * b + j)).length (nI (X * m_n mb + Y))) (r + 3) (ex δ b 0 (i * b + j)).length (lN (lgr b ((wl δ b 0 (i * b + j)).getD i 0) j))) (((hfr.si (by simp)).si (by simp)).sl (by simp)) (by
            rw [← Nat.add_assoc, e, ew]
            refine ⟨fun t ht => ?_, fun y hy => ?_, fun t ht => ?_⟩
            · rw [List.length_append] at ht
              have ht' : t < (ex δ b 0 (i * b + j)).length + 1 := ht
              show x_i (x_si (x_si M' (r + 2) (X * m_n mb + Y) 1) (r + 1) (ex δ b 0 (i * b + j)).length (nI (X * m_n mb + Y))) (r + 1) t = _
              by_cases et : t = (ex δ b 0 (i * b + j)).length
              · rw [et, xi_eq, getD_last, hkk.1, hkk.2]
              · rw [xi_nk et, xi_na (by omega), getD_app (by omega)]
                exact u1 t (by omega)
            · show x_i (x_si (x_si M' (r + 2) (X * m_n mb + Y) 1) (r + 1) (ex δ b 0 (i * b + j)).length (nI (X * m_n mb + Y))) (r + 2) y = _
              rw [xi_na (by omega)]
              by_cases ey : y = X * m_n mb + Y
              · rw [ey, xi_eq, if_pos ⟨X * 60 + Y, by simp, by rw [hkk.1, hkk.2]⟩]
              · rw [xi_nk ey, u2 y hy]
                by_cases c2 : ∃ k ∈ ex δ b 0 (i * b + j), k / 60 * m_n mb + k % 60 = y
                · obtain ⟨k, h1, h2⟩ := c2
                  rw [if_pos ⟨k, h1, h2⟩, if_pos ⟨k, List.mem_append_left _ h1, h2⟩]
                · rw [if_neg c2, if_neg]
                  rintro ⟨k, h1, h2⟩
                  rcases List.mem_append.mp h1 with q | q
                  · exact c2 ⟨k, q, h2⟩
                  · rw [List.mem_singleton.mp q, hkk.1, hkk.2] at h2
                    exact ey h2.symm
            · rw [List.length_append] at ht
              have ht' : t < (wl δ b 0 (i * b + j)).length + 1 := ht
              by_cases et : t = (ex δ b 0 (i * b + j)).length
              · rw [et, xl_eq, ← hwl, getD_last]
              · rw [xl_nk et, getD_app (by omega)]
                exact u3 t (by omega)) hV' hil' (nI (x / 60)) (nI (x % 60)) (by rw [← Nat.add_assoc, hx0]) (by rw [← Nat.add_assoc, hx0]) (some (.int (nI (X * m_n mb + Y)))) rfl
          rw [← Nat.add_assoc, el] at this
          exact this
  have outer : ∀ k i, i + k = 3600 → ∀ M' c, Fr M M' [r + 1, r + 2, r + 3] → c = i * b → UnI M' r (m_n mb) (ex δ b 0 c) (wl δ b 0 c) → exV δ b 0 c → i ≤ (ex δ b 0 c).length → (∀ t, t < i → m_k ma ((ex δ b 0 c).getD t 0 / 60) = m_k mb ((ex δ b 0 c).getD t 0 % 60)) → ∀ z z1 z2 z3, c1 z = true → c1 z1 = true → c1 z2 = true → c1 z3 = true → LX6_leastUnlike_41 G (d + 2) 0 0 r oa ob (nI b) (nI (m_n mb)) (nI (ex δ b 0 c).length) (nI i) z z1 z2 z3 M' Q := by
    intro k
    induction k with
    | zero =>
      intro i hi M' c hfr hc hun hV hle hP z z1 z2 z3 hz hz1 hz2 hz3
      subst hc
      have hlen0 := hlen _ hV
      have el : (ex δ b 0 (i * b)).length = i := by omega
      exact vX6_leastUnlike_41 _ _ _ _ _ _ _ _ _ _ _ hz hz1 hz2 hz3 ⟨fun _ => hQ M' (-1) hfr (Or.inr ⟨rfl, i, hV, el, hP⟩), fun c => absurd (by rw [el]; exact nI_le (Nat.le_refl i) (by omega)) c⟩
    | succ k ih =>
      intro i hi M' c hfr hc hun hV hle hP z z1 z2 z3 hz hz1 hz2 hz3
      subst hc
      have hlen0 := hlen _ hV
      have hwl := wl_len (δ := δ) (b := b) (k0 := 0) (i * b)
      obtain ⟨q1, q2, q3, q4, q5⟩ := fr0 hfr
      refine vX6_leastUnlike_41 _ _ _ _ _ _ _ _ _ _ _ hz hz1 hz2 hz3 ⟨fun c => ?_, fun c => ⟨fun c2 => absurd c2 (nI_ge (a := i) (b := 3600) (by omega) (by omega)), fun _ => ⟨fun c3 => absurd ((nI_leI (a := m_n mb) (b := 0) (by omega) (by omega)).mp c3) (by omega), fun _ => ?_⟩⟩⟩
      · have := (nI_leI (a := (ex δ b 0 (i * b)).length) (b := i) (by omega) (by omega)).mp c
        exact hQ M' (-1) hfr (Or.inr ⟨rfl, i, hV, by omega, hP⟩)
      · have hil : i < (ex δ b 0 (i * b)).length := by
          rcases Nat.lt_or_ge i (ex δ b 0 (i * b)).length with q | q
          · exact q
          · exact absurd (nI_le q (by omega)) c
        obtain ⟨u1, u2, u3⟩ := id hun
        obtain ⟨kn1, kn2⟩ := hKn _ hV _ (getD_mem hil)
        have hW : (wl δ b 0 (i * b)).getD i 0 ≤ 4611686018427387905 := wl_le hb1 hb3 _ _ (getD_mem (by omega))
        have hx59 := u3 i (by omega)
        have hcli : (nI i).toNatClampNeg = i := nI_clamp (by omega)
        have hq := u1 i hil
        have hφ3 := hφ _ _ kn1 kn2
        have hdv := hdiv ((ex δ b 0 (i * b)).getD i 0 / 60) _ kn2
        have hma := hka _ kn1
        have hmb := hkb _ kn2
        refine ⟨q1.1, r + 1, q1.2.1 0 (by omega), by rw [q1.2.2.1], by rw [q1.2.2.1]; exact vp_in_nI (show i < 3600 by omega) (by omega), bz, bz, q2.1, ?_⟩
        rw [hcli, hq, pk_rem (by omega) (by omega) (by omega), pk_div (by omega) (by omega) (by omega), hdv.1, hdv.2]
        refine w_markC d q2 q3 hna.2 kn1 ⟨_, rfl, q4.1, ?_⟩
        refine w_markC d q4 q5 hnb.2 kn2 ⟨_, rfl, ?_⟩
        rw [nI_eq (by omega) (by omega)]
        refine ⟨fun cm => ?_, fun cm => ⟨q1.1, r + 3, q1.2.1 2 (by omega), by rw [q1.2.2.2.2.1], by rw [q1.2.2.2.2.1]; exact vp_in_nI (show i < 3600 by omega) (by omega), ?_⟩⟩
        · exact inner i (by omega) (fun M4 c4 z z1 z2 z3 b1 hc4 b2 b3 b4 hz hz1 hz2 hz3 => by
            refine ih (i + 1) (by omega) M4 c4 b1 (by rw [hc4, Nat.succ_mul]) b2 b3 b4 (fun t ht => ?_) z z1 z2 z3 hz hz1 hz2 hz3
            rw [hc4, ex_getD (i * b) b (by omega)]
            by_cases e : t = i
            · rw [e]; exact cm
            · exact hP t (by omega)) b 0 (by omega) M' hfr hun hV hil _ _ rfl rfl z3 hz3
        · rw [lg_cmp_le, hx59, show (4611686018427387904 : Int64) = lN 4611686018427387904 from rfl, pk_lLE (by omega) (by omega)]
          refine ⟨fun cl => ?_, fun cl => ?_⟩
          · have := hQ M' (dfA ((wl δ b 0 (i * b)).getD i 0)) hfr (Or.inl ⟨i, hV, hil, hP, cm, rfl⟩)
            unfold dfA at this
            rw [if_pos cl] at this
            exact this
          · have := hQ M' (dfA ((wl δ b 0 (i * b)).getD i 0)) hfr (Or.inl ⟨i, hV, hil, hP, cm, rfl⟩)
            unfold dfA at this
            rw [if_neg cl] at this
            exact this
  refine eX6_leastUnlike r oa ob _ ⟨hB.1, k1, r + 2, k2 1 (by omega), ?_⟩
  refine w_fillI (d + 1) k4 (by omega) ⟨rfl, k1, r + 1, k2 0 (by omega), by show (x_h M (r + 1)).1 = 1; rw [k3], by show vp_in 0 (x_h M (r + 1)).2; rw [k3]; exact vp_in_nI (show 0 < 3600 by omega) (by omega), ?_⟩
  rintro M10 rfl
  refine ⟨r + 3, k2 2 (by omega), by show (x_h M (r + 3)).1 = 2; rw [k5], by show vp_in 0 (x_h M (r + 3)).2; rw [k5]; exact vp_in_nI (show 0 < 3600 by omega) (by omega), ?_⟩
  rintro M14 rfl
  refine ⟨r + 2, k2 1 (by omega), by show (x_h M (r + 2)).1 = 1; rw [k4], by show vp_in 0 (x_h M (r + 2)).2; rw [k4]; exact vp_in_nI (show 0 < 3600 by omega) (by omega), ?_⟩
  rintro M18 rfl
  rw [hbi.1]
  have hz0 : (0 : Int32).toNatClampNeg = 0 := rfl
  rw [hz0]
  have g0 : Fr M (x_si (x_sl (x_si (x_fi M (r + 2) 0 3600 0) (r + 1) 0 0) (r + 3) 0 0) (r + 2) 0 1) [r + 1, r + 2, r + 3] := (((Fr.rf.fi (by simp)).si (by simp)).sl (by simp)).si (by simp)
  refine outer 3600 0 (by omega) _ 0 g0 (by rw [Nat.zero_mul]) ⟨fun t ht => ?_, fun y hy => ?_, fun t ht => ?_⟩ (fun p hp => absurd hp (Nat.not_lt_zero p)) (Nat.zero_le _) (fun t ht => absurd ht (Nat.not_lt_zero t)) none none none none rfl rfl rfl rfl
  · have ht' : t < 1 := ht
    have e : t = 0 := by omega
    subst e
    show x_i (x_si (x_sl (x_si (x_fi M (r + 2) 0 3600 0) (r + 1) 0 0) (r + 3) 0 0) (r + 2) 0 1) (r + 1) 0 = nI (0 / 60 * m_n mb + 0 % 60)
    rw [xi_na (by omega)]
    show x_i (x_si (x_fi M (r + 2) 0 3600 0) (r + 1) 0 0) (r + 1) 0 = _
    rw [xi_eq, Nat.zero_div, Nat.zero_mod, Nat.zero_mul]
    rfl
  · show x_i (x_si (x_sl (x_si (x_fi M (r + 2) 0 3600 0) (r + 1) 0 0) (r + 3) 0 0) (r + 2) 0 1) (r + 2) y = if ∃ k ∈ ([0] : List Nat), k / 60 * m_n mb + k % 60 = y then 1 else 0
    by_cases e : y = 0
    · rw [e, xi_eq, if_pos ⟨0, by simp, by rw [Nat.zero_div, Nat.zero_mod, Nat.zero_mul]⟩]
    · rw [xi_nk e]
      show x_i (x_si (x_fi M (r + 2) 0 3600 0) (r + 1) 0 0) (r + 2) y = _
      rw [xi_na (by omega), xf_in (by omega) hy, if_neg]
      rintro ⟨k, h1, h2⟩
      rw [List.mem_singleton.mp h1, Nat.zero_div, Nat.zero_mod, Nat.zero_mul] at h2
      omega
  · have ht' : t < 1 := ht
    have e : t = 0 := by omega
    subst e
    show x_l (x_sl (x_si (x_fi M (r + 2) 0 3600 0) (r + 1) 0 0) (r + 3) 0 0) (r + 3) 0 = lN 0
    rw [xl_eq]
    rfl
end UnlikeC
