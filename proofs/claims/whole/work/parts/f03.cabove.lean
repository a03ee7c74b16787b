/-! ===== Reckoner: digits, heads, the least number above another ===== -/
section CAboveC
variable {G : GG} {M : Mem} {r o mv mk n b : Nat} {st : Nat → Nat → Nat} {mr : Nat → Nat} {Q : Option Value → Mem → Prop}
/-- one less: below nought it is -1 -/
def xr_ : Nat → Int32
  | 0 => -1
  | k + 1 => nI k
theorem xr_s : ∀ k, nI k + (-1) = xr_ k
  | 0 => by decide
  | k + 1 => nI_m1s k
theorem xr_p : ∀ k, nI k - 1 = xr_ k
  | 0 => by decide
  | k + 1 => s_sub (b := 1) (by omega)
theorem svN_lt (hb : 1 < b) (hn : 0 < n) (hcl : ∀ i, i < n → ∀ g, g < b → st i g < n) (p : Nat) : svN b st p < n := rn_lt hcl _ 0 (dD_wd hb p) hn
/-- digits stand -/
def DgI (M : Mem) (r b x l : Nat) : Prop := ∀ k, k < l → x_i M (r + 5) k = nI (x / b ^ (l - 1 - k) % b)
def HdI (M : Mem) (r b : Nat) (st : Nat → Nat → Nat) (x l i : Nat) : Prop := ∀ k, k ≤ i → x_i M (r + 6) k = nI (svN b st (x / b ^ (l - k)))
theorem w_fillDigits (d : Nat) (hr : RkS M r) (hb : b = 2 ∨ b = 3) {x : Nat} (hx : x < 2 ^ 63) (hQ : ∀ l M1, Fr M M1 [r + 5] → l ≤ 63 → x < b ^ l → (l = 0 ∨ b ^ (l - 1) ≤ x) → DgI M1 r b x l → Q (some (.int (nI l))) M1) : Call G (d + 1) 0 0 mX6_fillDigits [.ref r, .long (lN x), .int (nI b)] M Q := by
  obtain ⟨k1, k2, -, -, -, k4, k5, k6, -⟩ := id hr
  have hb1 : 1 < b := by omega
  have ebl : (nI b).toInt64 = lN b := nI_l (by omega)
  have bz : ¬ lN b = 0 := fun e => absurd ((lN_eq0 (by omega)).mp e) (by omega)
  have nb1 : ¬ nI b ≤ 1 := nI_ge (a := 1) (b := b) hb1 (by omega)
  have l53 : ∀ l, l ≤ 63 → x < b ^ l → (l = 0 ∨ b ^ (l - 1) ≤ x) → ∀ t e, e + t = l → ∀ M1, Fr M M1 [r + 5] → (∀ k, t ≤ k → k < l → x_i M1 (r + 5) k = nI (x / b ^ (l - 1 - k) % b)) → LX6_fillDigits_53 G d 0 0 r (lN x) (nI b) (nI l) (lN (x / b ^ e)) (xr_ t) M1 Q := by
    intro l hl hxl hl2 t
    induction t with
    | zero =>
      intro e he M1 g hdg
      exact vX6_fillDigits_53 _ _ _ _ _ _ ⟨fun _ => hQ l M1 g hl hxl hl2 (fun k hk => hdg k (Nat.zero_le _) hk), fun c => absurd (show (-1 : Int32) < 0 by decide) c⟩
    | succ t ih =>
      intro e he M1 g hdg
      have hlt : x / b ^ e < 2 ^ 63 := Nat.lt_of_le_of_lt (Nat.div_le_self _ _) hx
      refine vX6_fillDigits_53 _ _ _ _ _ _ ⟨fun c => absurd c (nI_pos (by omega)), fun _ => ⟨fun c => absurd c nb1, fun _ => ⟨by rw [g.h]; exact k1, r + 5, by rw [g.r]; exact k2 4 (by omega), ?_⟩⟩⟩
      show ¬ (nI b).toInt64 = 0 ∧ _
      rw [ebl, pk_lRem hlt (by omega) (by omega), pk_lDiv hlt (by omega) (by omega), lN_i, Nat.div_div_eq_div_mul, ← Nat.pow_succ]
      refine ⟨bz, by rw [g.h, k5], by rw [g.h, k5]; exact vp_in_nI (show t < 64 by omega) (by omega), ?_⟩
      rintro M8 rfl
      refine ⟨bz, ?_⟩
      show LX6_fillDigits_53 G d 0 0 r (lN x) (nI b) (nI l) (lN (x / b ^ (e + 1))) (nI t + (-1)) (x_si M1 (r + 5) (nI t).toNatClampNeg (nI (x / b ^ e % b))) Q
      rw [xr_s, nI_clamp (by omega)]
      refine ih (e + 1) (by omega) _ (g.si (by simp)) (fun k h1 h2 => ?_)
      by_cases c : k = t
      · rw [c, xi_eq, show l - 1 - t = e by omega]
      · rw [xi_nk (by omega)]; exact hdg k (by omega) h2
  have l9 : ∀ t j, j + t = 63 → (j = 0 ∨ b ^ (j - 1) ≤ x) → LX6_fillDigits_9 G d 0 0 r (lN x) (nI b) (nI j) (lN (x / b ^ j)) (nI j) M Q := by
    have fin : ∀ j, j ≤ 63 → (j = 0 ∨ b ^ (j - 1) ≤ x) → x / b ^ j = 0 → LX6_fillDigits_53 G d 0 0 r (lN x) (nI b) (nI j) (lN x) (nI j - 1) M Q := by
      intro j hj63 hj h0
      have hxj : x < b ^ j := by
        rcases Nat.div_eq_zero_iff.mp h0 with c | c
        · have : 0 < b ^ j := Nat.pow_pos (by omega)
          omega
        · exact c
      rw [xr_p]
      have := l53 j hj63 hxj hj j 0 (by omega) M Fr.rf (fun k h1 h2 => by omega)
      rw [Nat.pow_zero, Nat.div_one] at this
      exact this
    intro t
    induction t with
    | zero =>
      intro j hj hlo
      have h0 : x / b ^ j = 0 := by
        refine Nat.div_eq_of_lt (Nat.lt_of_lt_of_le hx ?_)
        rw [show j = 63 by omega]
        exact Nat.pow_le_pow_left hb1 63
      refine vX6_fillDigits_9 _ _ _ _ _ _ ⟨fun _ => fin j (by omega) hlo h0, fun _ => ⟨fun _ => fin j (by omega) hlo h0, fun c => absurd ((lg_cmp_le _ _).mpr (by rw [h0]; decide)) c⟩⟩
    | succ t ih =>
      intro j hj hlo
      have hlt : x / b ^ j < 2 ^ 63 := Nat.lt_of_le_of_lt (Nat.div_le_self _ _) hx
      refine vX6_fillDigits_9 _ _ _ _ _ _ ⟨fun c => absurd c (nI_ge (a := j) (b := 64) (by omega) (by omega)), fun _ => ⟨fun c => ?_, fun c => ⟨fun c2 => absurd c2 nb1, fun _ => ?_⟩⟩⟩
      · rw [lg_cmp_le, show (0 : Int64) = lN 0 from rfl, pk_lLE hlt (by omega)] at c
        exact fin j (by omega) hlo (Nat.le_zero.mp c)
      · rw [lg_cmp_le, show (0 : Int64) = lN 0 from rfl, pk_lLE hlt (by omega)] at c
        rw [ebl, pk_lDiv hlt (by omega) (by omega), Nat.div_div_eq_div_mul, ← Nat.pow_succ, nI_1]
        refine ⟨bz, ih (j + 1) (by omega) (Or.inr ?_)⟩
        rw [show j + 1 - 1 = j by omega]
        rcases Nat.lt_or_ge x (b ^ j) with c2 | c2
        · rw [Nat.div_eq_of_lt c2] at c; omega
        · exact c2
  have := l9 63 0 (by omega) (Or.inl rfl)
  rw [Nat.pow_zero, Nat.div_one] at this
  exact eX6_fillDigits _ _ _ this
theorem w_fillHeads (d : Nat) (hr : RkS M r) (hg : RkG r o mv mk n b st mr) (hm : RkM M o mv mk n b st mr) {x l : Nat} (hl : l ≤ 63) (hx : x < b ^ l) (hdg : DgI M r b x l) (hQ : ∀ M1, Fr M M1 [r + 6] → HdI M1 r b st x l l → Q none M1) : Call G (d + 2) 0 0 mX6_fillHeads [.ref r, .ref o, .int (nI l)] M Q := by
  obtain ⟨hb, hn0, hn40, hcl, hk1, h00, hod⟩ := id hg
  obtain ⟨k1, k2, -, -, -, k4, k5, k6, -⟩ := id hr
  have hb1 : 1 < b := by omega
  have hnb : n * b ≤ 1080 := by
    have : n * b ≤ 40 * 3 := Nat.mul_le_mul hn40 (by omega)
    omega
  have loop : ∀ t i, i + t = l → ∀ M1, Fr M M1 [r + 6] → HdI M1 r b st x l i → LX6_fillHeads_9 G (d + 1) 0 0 r o (nI l) (nI i) M1 Q := by
    intro t
    induction t with
    | zero =>
      intro i hi M1 g hh
      have e : i = l := by omega
      subst e
      exact vX6_fillHeads_9 _ _ _ _ ⟨fun _ => hQ M1 g hh, fun c => absurd (nI_le (Nat.le_refl _) (by omega)) c⟩
    | succ t ih =>
      intro i hi M1 g hh
      have q2 := hm.fr hg g (fun q hq => by simp at hq; omega)
      have hs := svN_lt hb1 hn0 hcl (x / b ^ (l - i))
      have hdl : x / b ^ (l - 1 - i) % b < b := Nat.mod_lt _ (by omega)
      refine vX6_fillHeads_9 _ _ _ _ ⟨fun c => absurd c (nI_ge (a := i) (b := l) (by omega) (by omega)), fun _ => ⟨fun c => absurd c (nI_ge (a := i) (b := 64) (by omega) (by omega)), fun _ => ⟨by rw [g.h]; exact k1, r + 6, by rw [g.r]; exact k2 5 (by omega), by rw [g.h, k6], by rw [g.h, k6]; exact vp_in_nI (show i < 65 by omega) (by omega), r + 5, by rw [g.r]; exact k2 4 (by omega), by rw [g.h, k5], by rw [g.h, k5]; exact vp_in_nI (show i < 64 by omega) (by omega), q2.1.1, ?_⟩⟩⟩
      rw [nI_clamp (by omega), hh i (Nat.le_refl _), g.i (q := r + 5) (by simp), hdg i (by omega), nI_1]
      refine w_afterC d q2.1 q2.2 hnb hs hdl ⟨_, rfl, by rw [g.h, k6], by rw [g.h, k6]; exact vp_in_nI (show i + 1 < 65 by omega) (by omega), ?_⟩
      rintro M16 rfl
      rw [nI_clamp (by omega)]
      refine ih (i + 1) (by omega) _ (g.si (by simp)) (fun k hk => ?_)
      by_cases c : k = i + 1
      · rw [c, xi_eq, ← svN_s hb1 h00 hdl]
        have := dv_s (b := b) (x := x) (e := l - 1 - i)
        rw [show l - 1 - i + 1 = l - i by omega] at this
        rw [← this, show l - (i + 1) = l - 1 - i by omega]
      · rw [xi_nk (by omega)]; exact hh k (by omega)
  refine eX6_fillHeads _ _ _ ⟨k1, r + 6, k2 5 (by omega), by rw [k6], by rw [k6]; exact vp_in_nI (n := 0) (by omega) (by omega), ?_⟩
  rintro M5 rfl
  refine loop l 0 (by omega) _ (Fr.rf.si (by simp)) (fun k hk => ?_)
  have : k = 0 := by omega
  subst this
  rw [show (0 : Int32) = nI 0 from rfl, nI_clamp (by omega), xi_eq, Nat.sub_zero, Nat.div_eq_of_lt hx, svN_0]
theorem w_head (d : Nat) (hr : RkS M r) (hb : b = 2 ∨ b = 3) {x l i : Nat} (hl : l ≤ 63) (hi : i ≤ l) (hx : x < b ^ l) (hdg : DgI M r b x l) (hQ : Q (some (.long (lN (capN (x / b ^ (l - i)))))) M) : Call G (d + 2) 0 0 mX6_head [.ref r, .int (nI i), .int (nI b)] M Q := by
  obtain ⟨k1, k2, -, -, -, k4, k5, k6, -⟩ := id hr
  have loop : ∀ t j, j + t = i → LX6_head_5 G (d + 1) 0 0 r (nI i) (nI b) (lN (capN (x / b ^ (l - j)))) (nI j) M Q := by
    intro t
    induction t with
    | zero =>
      intro j hj
      have e : j = i := by omega
      subst e
      exact vX6_head_5 _ _ _ _ _ ⟨fun _ => hQ, fun c => absurd (nI_le (Nat.le_refl _) (by omega)) c⟩
    | succ t ih =>
      intro j hj
      have hdl : x / b ^ (l - 1 - j) % b < b := Nat.mod_lt _ (by omega)
      refine vX6_head_5 _ _ _ _ _ ⟨fun c => absurd c (nI_ge (a := j) (b := i) (by omega) (by omega)), fun _ => ⟨fun c => absurd c (nI_ge (a := j) (b := 64) (by omega) (by omega)), fun _ => ⟨k1, r + 5, k2 4 (by omega), by rw [k5], by rw [k5]; exact vp_in_nI (show j < 64 by omega) (by omega), ?_⟩⟩⟩
      rw [nI_clamp (by omega), hdg j (by omega)]
      refine w_longer d (by omega) (by omega) (by have := capN_le (x / b ^ (l - j)); omega) hdl ⟨_, rfl, ?_⟩
      rw [lgr_cap (by omega) (by omega) hdl, nI_1]
      have := dv_s (b := b) (x := x) (e := l - 1 - j)
      rw [show l - 1 - j + 1 = l - j by omega] at this
      rw [← this, show l - 1 - j = l - (j + 1) by omega]
      exact ih (j + 1) (by omega)
  have := loop i 0 (by omega)
  rw [Nat.sub_zero, Nat.div_eq_of_lt hx] at this
  exact eX6_head _ _ _ this
theorem w_ended (d : Nat) (hr : RkS M r) (hg : RkG r o mv mk n b st mr) (hm : RkM M o mv mk n b st mr) (hop : ∀ k, k < 106 → OpI M r n b st mr k) {H q g R : Nat} (hq : q < n) (hgb : g < b) (hR : R < 106) (hL : LdW b st (fun s => mr s = 1) (st q g) R)
    (hQ : ∀ y, LeastN b st mr (st q g) R y → Q (some (.long (dfA (H * b ^ (R + 1) + (g * b ^ R + y))))) M) : Call G (d + 3) 0 0 mX6_ended [.ref r, .ref o, .long (lN (capN H)), .int (nI q), .int (nI g), .int (nI (R + 1)), .int (nI b)] M Q := by
  obtain ⟨hb, hn0, hn40, hcl, hk1, h00, hod⟩ := id hg
  have hb1 : 1 < b := by omega
  have hnb : n * b ≤ 1080 := by
    have : n * b ≤ 40 * 3 := Nat.mul_le_mul hn40 (by omega)
    omega
  have key : ∀ R' q' H', R' < 106 → q' < n → LdW b st (fun s => mr s = 1) q' R' → (∀ y, LeastN b st mr q' R' y → Q (some (.long (dfA (H' * b ^ R' + y)))) M) → ∀ z, c1 z = true → LX6_ended_26 G (d + 2) 0 0 r o (lN (capN H)) (nI q) (nI g) (nI (R + 1)) (nI b) (lN (capN H')) (nI q') (xr_ R') z M Q := by
    intro R'
    induction R' with
    | zero =>
      intro q' H' _ hq' hL' hQ' z hz
      have hfin := hQ' 0 (LeastN.zero ((LdW.zero (F := fun s => mr s = 1)).mp hL'))
      rw [Nat.pow_zero, Nat.mul_one, Nat.add_zero, ← dfA_cap] at hfin
      have hc := capN_le H'
      refine vX6_ended_26 _ _ _ _ _ _ _ _ _ _ _ hz ⟨fun _ => ?_, fun c => absurd (show (-1 : Int32) < 0 by decide) c⟩
      rw [lg_cmp_le, show (4611686018427387904 : Int64) = lN 4611686018427387904 from rfl, pk_lLE (by omega) (by omega)]
      refine ⟨fun c => ?_, fun c => ?_⟩
      · rw [if_pos c] at hfin; exact hfin
      · rw [if_neg c] at hfin; exact hfin
    | succ R' ih =>
      intro q' H' hR' hq' hL' hQ' z hz
      refine vX6_ended_26 _ _ _ _ _ _ _ _ _ _ _ hz ⟨fun c => absurd c (nI_pos (n := R') (by omega)), fun _ => ⟨hr.1, ?_⟩⟩
      show Call G (d + 2) 0 0 mX6_openDigit [.ref r, .ref o, .int (nI q'), .int (nI 0), .int (nI R'), .int (nI b)] M _
      refine w_openDigit d hr hg hm (hop R' (by omega)) (by omega) hq' (Nat.zero_le _) (fun g' _ hg' hl hno => ⟨_, rfl, ?_⟩) (fun hno => ?_)
      · have next : ∃ v9 : Int32, (some (.int (nI g')) : Option Value) = some (.int v9) ∧ Call G (d + 2) 0 0 mX6_longer [.long (lN (capN H')), .int v9, .int (nI b)] M (fun r10 M11 => ∃ v12 : Int64, r10 = some (.long v12) ∧ (x_h M11 o).1 = 17 ∧ Call G (d + 2) 0 0 mX1_after [.ref o, .int (nI q'), .int v9] M11 (fun r14 M15 => ∃ v16 : Int32, r14 = some (.int v16) ∧ LX6_ended_26 G (d + 2) 0 0 r o (lN (capN H)) (nI q) (nI g) (nI (R + 1)) (nI b) v12 v16 (nI R' + (-1)) (some (.int v9)) M15 Q)) := by
          refine ⟨_, rfl, w_longer (d + 1) hb1 (by omega) (by have := capN_le H'; omega) hg' ⟨_, rfl, hm.1.1, ?_⟩⟩
          rw [lgr_cap hb1 (by omega) hg', xr_s]
          refine w_afterC (d + 1) hm.1 hm.2 hnb hq' hg' ⟨_, rfl, ih _ _ (by omega) (hcl _ hq' _ hg') hl (fun y hy => ?_) _ rfl⟩
          have := hQ' _ (hy.step hb1 hg' (fun d' hd' => hno d' (Nat.zero_le _) hd'))
          rw [show (b * H' + g') * b ^ R' + y = H' * b ^ (R' + 1) + (g' * b ^ R' + y) by rw [Nat.pow_succ, Nat.add_mul, Nat.add_assoc, Nat.mul_comm b H', Nat.mul_assoc, Nat.mul_comm b (b ^ R')]]
          exact this
        refine eJ9_max_7cf53 _ _ ⟨fun _ => next, fun c => ?_⟩
        have e0 : g' = 0 := by
          rcases Nat.eq_zero_or_pos g' with e | e
          · exact e
          · exact absurd ((nI_ltI (a := 0) (b := g') (by omega) (by omega)).mpr e) c
        subst e0
        exact next
      · obtain ⟨g', h1, h2⟩ := LdW.succ.mp hL'
        exact absurd h2 (hno g' (Nat.zero_le _) h1)
  refine eX6_ended _ _ _ _ _ _ _ (w_longer (d + 1) hb1 (by omega) (by have := capN_le H; omega) hgb ⟨_, rfl, hm.1.1, w_afterC (d + 1) hm.1 hm.2 hnb hq hgb ⟨_, rfl, ?_⟩⟩)
  have e2 : nI (R + 1) - 2 = xr_ R := by
    cases R with
    | zero => decide
    | succ R => exact s_sub (a := R + 1 + 1) (b := 2) (by omega)
  rw [lgr_cap hb1 (by omega) hgb, e2]
  refine key R _ _ hR (hcl _ hq _ hgb) hL (fun y hy => ?_) none rfl
  have := hQ y hy
  rw [show (b * H + g) * b ^ R + y = H * b ^ (R + 1) + (g * b ^ R + y) by rw [Nat.pow_succ, Nat.add_mul, Nat.add_assoc, Nat.mul_comm b H, Nat.mul_assoc, Nat.mul_comm b (b ^ R)]]
  exact this
end CAboveC
