/-! ===== the class: many, values ===== -/
section CManyC
variable {G : GG} {M : Mem} {e r o mv mk n b f ap : Nat} {st : Nat → Nat → Nat} {mr : Nat → Nat} {S : Sg} {R K : Nat → Mc} {Q : Option Value → Mem → Prop}
theorem w_markAny (d : Nat) (hm : RkM M o mv mk n f st mr) (hn : n ≤ 40) {i : Nat} (hi : i < 40) (hQ : ∀ v, (i < n → v = mr i) → Q (some (.int (nI v))) M) : Call G (d + 2) 0 0 mX1_mark [.ref o, .int (nI i)] M Q := by
  rcases Nat.lt_or_ge i n with c | c
  · exact w_markC d hm.1 hm.2 hn c (hQ _ (fun _ => rfl))
  · refine eX1_mark o (nI i) ⟨hm.1.1, ?_⟩
    rw [hm.2.1]
    refine w_within d (i := i) (n := n) (by omega) (by omega) ?_
    rw [if_neg (by omega)]
    exact ⟨0, rfl, fun _ => hQ 0 (fun h => absurd h (by omega)), fun z => absurd rfl z⟩
theorem w_howMany (d : Nat) (hr : RkS M r) (hg : RkH r o mv mk n b st mr) (hm : RkM M o mv mk n b st mr) (hb1 : 1 < b) (hb3 : b ≤ 3) (hQ : ∀ M1 res, Fr M M1 [r + 7, r + 8, r + 9] → CtR b n st mr 1 [] res → Q (some (.long res)) M1) : Call G (d + 4) 0 0 mX6_howMany [.ref r, .ref o, .int (nI b)] M Q := by
  obtain ⟨hn0, hn40, hnf, hcl, hk1, h00, hod⟩ := id hg
  obtain ⟨k1, k2, -, -, -, k4, k5, k6, k7, k8, k9⟩ := id hr
  have loop : ∀ t i, i + t = 40 → ∀ M1, Fr M M1 [r + 7] → (∀ j, j < n → j < i → x_l M1 (r + 7) j = lN (mr j)) → LX6_howMany_2 G (d + 3) 0 0 r o (nI b) (nI i) M1 Q := by
    intro t
    induction t with
    | zero =>
      intro i hi M1 g hE
      have r1 := hr.eq g.h g.r
      have m1 := hm.fh hg g (fun q hq => by simp at hq; omega)
      refine vX6_howMany_2 _ _ _ _ ⟨r1.1, r + 7, by rw [g.r]; exact k2 6 (by omega), by rw [g.h, k7]; exact ⟨by decide, by decide⟩, fun _ => ?_, fun c => absurd (by rw [g.h, k7]; exact nI_le (show 40 ≤ i by omega) (by omega)) c⟩
      show Call G (d + 3) 0 0 mX6_countAll [.ref r, .ref o, .int (nI 1), .int (nI b)] M1 _
      refine w_countAll d r1 hg m1 hb1 hb3 (fun g hg => by omega) (ds := []) (fun j hj => ?_) (fun M2 res g2 hres => ⟨_, rfl, hQ M2 res ((g.wk (by simp)).tr (g2.wk (B := [r + 7, r + 8, r + 9]) (by simp)) (fun _ h => h)) hres⟩)
      rw [hE j hj (by omega), show nwC b st mr 1 [] j = mr j from rfl, cap_id (by have := hk1 j hj; omega)]
    | succ t ih =>
      intro i hi M1 g hE
      have r1 := hr.eq g.h g.r
      have m1 := hm.fh hg g (fun q hq => by simp at hq; omega)
      refine vX6_howMany_2 _ _ _ _ ⟨r1.1, r + 7, by rw [g.r]; exact k2 6 (by omega), by rw [g.h, k7]; exact ⟨by decide, by decide⟩, fun c => absurd (by rw [g.h, k7] at c; exact c) (nI_ge (a := i) (b := 40) (by omega) (by omega)), fun _ => ⟨m1.1.1, ?_⟩⟩
      refine w_markAny (d + 1) m1 hn40 (by omega) (fun v hv => ⟨_, rfl, by rw [g.h, k7], by rw [g.h, k7]; exact vp_in_nI (show i < 40 by omega) (by omega), ?_⟩)
      rintro M14 rfl
      rw [nI_clamp (by omega), nI_1]
      refine ih (i + 1) (by omega) _ (g.sl (by simp)) (fun j hj hji => ?_)
      by_cases c : j = i
      · have hv' := hv (by omega)
        rw [c, xl_eq, hv', nI_l (by have := hk1 i (by omega); omega)]
      · rw [xl_nk c]; exact hE j hj (by omega)
  exact eX6_howMany _ _ _ (loop 40 0 (by omega) M Fr.rf (fun j _ h => absurd h (Nat.not_lt_zero _)))
theorem w_howManyFirst (d : Nat) (hr : RkS M r) (hf : f = b * b) (hg : RkH r o mv mk n f st mr) (hm : RkM M o mv mk n f st mr) (hb : b = 2 ∨ b = 3) {s : Nat} (hs : s ≤ 1073741824) (hQ : ∀ M1 res l, l ≤ 31 → s < b ^ l → Fr M M1 [r + 5, r + 7, r + 8, r + 9] → CtR b n st mr b (dD b s l) res → Q (some (.long res)) M1) : Call G (d + 4) 0 0 mX6_howManyFirst [.ref r, .ref o, .long (lN s), .int (nI b)] M Q := by
  obtain ⟨hn0, hn40, hnf, hcl, hk1, h00, hod⟩ := id hg
  obtain ⟨k1, k2, -, -, -, k4, k5, k6, k7, k8, k9⟩ := id hr
  have hb1 : 1 < b := by omega
  have hap : ∀ g, g < b → g * b < f := fun g hgb => by
    have : (g + 1) * b ≤ b * b := Nat.mul_le_mul_right b hgb
    rw [Nat.succ_mul] at this
    omega
  have hgo : ∀ g c, g < b → c < b → g * b + c < f := fun g c hgb hc => by
    have : (g + 1) * b ≤ b * b := Nat.mul_le_mul_right b hgb
    rw [Nat.succ_mul] at this
    omega
  have main : ∀ M1, Fr M M1 [r + 5, r + 7, r + 8, r + 9] → ∀ l, l ≤ 31 → s < b ^ l → DgI M1 r b s l → ∀ t, t ≤ l → ∀ M2, Fr M1 M2 [r + 7, r + 9] → VcI M2 (r + 7) n (nwC b st mr b (dD b s (l - t))) → ∀ z z', c1 z = true → c1 z' = true → LX6_howManyFirst_48 G (d + 3) 0 0 r o (lN s) (nI b) (nI l) (xr_ t) z z' M2 Q := by
    intro M1 g1 l hl31 hsl hdg t
    induction t with
    | zero =>
      intro ht M2 g2 hE z z' hz hz'
      have g12 : Fr M M2 [r + 5, r + 7, r + 8, r + 9] := g1.tr (g2.wk (B := [r + 5, r + 7, r + 8, r + 9]) (by simp)) (fun _ h => h)
      have r2 := hr.eq g12.h g12.r
      have m2 := hm.fh hg g12 (fun q hq => by simp at hq; omega)
      refine vX6_howManyFirst_48 _ _ _ _ _ _ _ _ hz hz' ⟨fun _ => ⟨r2.1, ?_⟩, fun c => absurd (show (-1 : Int32) < 0 by decide) c⟩
      rw [Nat.sub_zero] at hE
      exact w_countAll d r2 hg m2 hb1 (by omega) hap hE (fun M3 res g3 hres => ⟨_, rfl, hQ M3 res l hl31 hsl (g12.tr (g3.wk (B := [r + 5, r + 7, r + 8, r + 9]) (by simp)) (fun _ h => h)) hres⟩)
    | succ t ih =>
      intro ht M2 g2 hE z z' hz hz'
      have e1 : dD b s (l - t) = (s / b ^ (l - (t + 1)) % b) :: dD b s (l - (t + 1)) := by
        rw [show l - t = (l - (t + 1)) + 1 by omega]; rfl
      have hdl : s / b ^ (l - (t + 1)) % b < b := Nat.mod_lt _ (by omega)
      generalize hrest : dD b s (l - (t + 1)) = rest at hE e1
      generalize ho : s / b ^ (l - (t + 1)) % b = oo at e1 hdl
      have dgt : ∀ M3, Fr M1 M3 [r + 7, r + 9] → x_i M3 (r + 5) t = nI oo := fun M3 g3 => by
        rw [g3.i (by simp), hdg t (by omega), show l - 1 - t = l - (t + 1) by omega, ho]
      have frs : ∀ {M3 : Mem}, Fr M1 M3 [r + 7, r + 9] → Fr M M3 [r + 5, r + 7, r + 8, r + 9] := fun g3 => g1.tr (g3.wk (B := [r + 5, r + 7, r + 8, r + 9]) (by simp)) (fun _ h => h)
      have l76 : ∀ j, j < n → (∀ M3, Fr M1 M3 [r + 7, r + 9] → VcI M3 (r + 7) n (nwC b st mr b rest) → (∀ i, i < j + 1 → x_l M3 (r + 9) i = lN (capN (nwC b st mr b (oo :: rest) i))) → ∀ z, c1 z = true → LX6_howManyFirst_56 G (d + 3) 0 0 r o (lN s) (nI b) (nI l) (nI t) (nI (j + 1)) z M3 Q) → ∀ u g, g + u = b → ∀ M3, Fr M1 M3 [r + 7, r + 9] → VcI M3 (r + 7) n (nwC b st mr b rest) → (∀ i, i < j → x_l M3 (r + 9) i = lN (capN (nwC b st mr b (oo :: rest) i))) → x_l M3 (r + 9) j = lN (capN (sg (fun d => nwC b st mr b rest (st j (d * b + oo))) g)) → LX6_howManyFirst_76 G (d + 3) 0 0 r o (lN s) (nI b) (nI l) (nI t) (nI j) (nI g) M3 Q := by
        intro j hj hnext u
        induction u with
        | zero =>
          intro g hg' M3 g3 hE3 hF hc
          have e : g = b := by omega
          subst e
          refine vX6_howManyFirst_76 _ _ _ _ _ _ _ _ ⟨fun _ => ?_, fun c => absurd (nI_le (Nat.le_refl _) (by omega)) c⟩
          rw [nI_1]
          refine hnext M3 g3 hE3 (fun i hi => ?_) _ rfl
          by_cases c : i = j
          · rw [c]; exact hc
          · exact hF i (by omega)
        | succ u ihu =>
          intro g hg' M3 g3 hE3 hF hc
          have g03 := frs g3
          have r3 := hr.eq g03.h g03.r
          have m3 := hm.fh hg g03 (fun q hq => by simp at hq; omega)
          have hgf := hgo g oo (by omega) hdl
          have hs' := hcl j hj _ hgf
          refine vX6_howManyFirst_76 _ _ _ _ _ _ _ _ ⟨fun c => absurd c (nI_ge (a := g) (b := b) (by omega) (by omega)), fun _ => ⟨r3.1, r + 9, by rw [g03.r]; exact k2 8 (by omega), by rw [g03.h, k9], by rw [g03.h, k9]; exact vp_in_nI (show j < 40 by omega) (by omega), r + 7, by rw [g03.r]; exact k2 6 (by omega), r + 5, by rw [g03.r]; exact k2 4 (by omega), by rw [g03.h, k5], by rw [g03.h, k5]; exact vp_in_nI (show t < 64 by omega) (by omega), m3.1.1, ?_⟩⟩
          rw [nI_clamp (by omega), dgt M3 g3, s_mul, nI_add]
          refine w_afterC (d + 2) m3.1 m3.2 hnf hj hgf ⟨_, rfl, by rw [g03.h, k7], by rw [g03.h, k7]; exact vp_in_nI (show st j (g * b + oo) < 40 by omega) (by omega), ?_⟩
          rw [nI_clamp (by omega), nI_clamp (by omega), hc, hE3 _ hs']
          refine w_sum6 (d + 2) ⟨_, rfl, by rw [g03.h, k9], by rw [g03.h, k9]; exact vp_in_nI (show j < 40 by omega) (by omega), ?_⟩
          rintro M21 rfl
          rw [nI_1]
          refine ihu (g + 1) (by omega) _ (g3.sl (by simp)) (fun i hi => by rw [xl_na (by omega)]; exact hE3 i hi) (fun i hi => by rw [xl_nk (by omega)]; exact hF i hi) (by rw [xl_eq]; rfl)
      have l56 : ∀ u j, j + u = n → ∀ M3, Fr M1 M3 [r + 7, r + 9] → VcI M3 (r + 7) n (nwC b st mr b rest) → (∀ i, i < j → x_l M3 (r + 9) i = lN (capN (nwC b st mr b (oo :: rest) i))) → ∀ z, c1 z = true → LX6_howManyFirst_56 G (d + 3) 0 0 r o (lN s) (nI b) (nI l) (nI t) (nI j) z M3 Q := by
        intro u
        induction u with
        | zero =>
          intro j hj M3 g3 hE3 hF z hz
          have g03 := frs g3
          have r3 := hr.eq g03.h g03.r
          have m3 := hm.fh hg g03 (fun q hq => by simp at hq; omega)
          have e : j = n := by omega
          subst e
          refine vX6_howManyFirst_56 _ _ _ _ _ _ _ _ hz ⟨m3.1.1, fun _ => ⟨r3.1, r + 9, by rw [g03.r]; exact k2 8 (by omega), r + 7, by rw [g03.r]; exact k2 6 (by omega), by rw [g03.h, k7], by rw [g03.h, k9], by decide, by decide, by rw [m3.2.1]; exact nI_pos (by omega), by rw [m3.2.1, g03.h, k9, nI_clamp (by omega)]; show 0 + j ≤ 40; omega, by rw [m3.2.1, g03.h, k7, nI_clamp (by omega)]; show 0 + j ≤ 40; omega, ?_⟩, fun c => absurd (by rw [m3.2.1]; exact nI_le (Nat.le_refl _) (by omega)) c⟩
          rw [m3.2.1, nI_clamp (by omega)]
          rintro M13 rfl
          rw [show ((0 : Int32)).toNatClampNeg = 0 from rfl, xr_s]
          refine ih (by omega) _ (g3.cpl (by simp)) (fun i hi => ?_) _ _ rfl hz
          rw [xcl_in hi, e1]
          exact hF i hi
        | succ u ihu =>
          intro j hj M3 g3 hE3 hF z hz
          have g03 := frs g3
          have r3 := hr.eq g03.h g03.r
          have m3 := hm.fh hg g03 (fun q hq => by simp at hq; omega)
          refine vX6_howManyFirst_56 _ _ _ _ _ _ _ _ hz ⟨m3.1.1, fun c => absurd (by rw [m3.2.1] at c; exact c) (nI_ge (a := j) (b := n) (by omega) (by omega)), fun _ => ⟨r3.1, r + 9, by rw [g03.r]; exact k2 8 (by omega), by rw [g03.h, k9], by rw [g03.h, k9]; exact vp_in_nI (show j < 40 by omega) (by omega), ?_⟩⟩
          rintro M18 rfl
          rw [nI_clamp (by omega)]
          refine l76 j (by omega) (fun M4 g4 hE4 hF4 z4 hz4 => ihu (j + 1) (by omega) M4 g4 hE4 hF4 z4 hz4) b 0 (by omega) _ (g3.sl (by simp)) (fun i hi => by rw [xl_na (by omega)]; exact hE3 i hi) (fun i hi => by rw [xl_nk (by omega)]; exact hF i hi) (by rw [xl_eq]; rfl)
      refine vX6_howManyFirst_48 _ _ _ _ _ _ _ _ hz hz' ⟨fun c => absurd c (nI_pos (n := t) (by omega)), fun _ => ?_⟩
      exact l56 n 0 (by omega) M2 g2 hE (fun i hi => absurd hi (Nat.not_lt_zero _)) z' hz'
  have loop : ∀ t i, i + t = 40 → ∀ M1, Fr M M1 [r + 7] → (∀ j, j < n → j < i → x_l M1 (r + 7) j = lN (mr j)) → LX6_howManyFirst_3 G (d + 3) 0 0 r o (lN s) (nI b) (nI i) M1 Q := by
    intro t
    induction t with
    | zero =>
      intro i hi M1 g hE
      have r1 := hr.eq g.h g.r
      refine vX6_howManyFirst_3 _ _ _ _ _ ⟨r1.1, r + 7, by rw [g.r]; exact k2 6 (by omega), by rw [g.h, k7]; exact ⟨by decide, by decide⟩, fun _ => ?_, fun c => absurd (by rw [g.h, k7]; exact nI_le (show 40 ≤ i by omega) (by omega)) c⟩
      refine w_fillDigits (d + 2) r1 hb (by omega) (fun l M2 g2 hl63 hsl hlo hdg => ⟨_, rfl, ?_⟩)
      have hl31 : l ≤ 31 := by
        rcases hlo with c | c
        · omega
        · rcases Nat.lt_or_ge 31 l with c2 | c2
          · have h1 : 2 ^ 31 ≤ b ^ 31 := Nat.pow_le_pow_left hb1 31
            have h2 : b ^ 31 ≤ b ^ (l - 1) := Nat.pow_le_pow_right (by omega) (by omega)
            omega
          · exact c2
      rw [xr_p]
      have g12 : Fr M M2 [r + 5, r + 7, r + 8, r + 9] := (g.wk (B := [r + 5, r + 7, r + 8, r + 9]) (by simp)).tr (g2.wk (B := [r + 5, r + 7, r + 8, r + 9]) (by simp)) (fun _ h => h)
      refine main M2 g12 l hl31 hsl hdg l (Nat.le_refl _) M2 Fr.rf (fun j hj => ?_) none none rfl rfl
      rw [Nat.sub_self, g2.l (by simp), hE j hj (by omega), show nwC b st mr b (dD b s 0) j = mr j from rfl, cap_id (by have := hk1 j hj; omega)]
    | succ t ih =>
      intro i hi M1 g hE
      have r1 := hr.eq g.h g.r
      have m1 := hm.fh hg g (fun q hq => by simp at hq; omega)
      refine vX6_howManyFirst_3 _ _ _ _ _ ⟨r1.1, r + 7, by rw [g.r]; exact k2 6 (by omega), by rw [g.h, k7]; exact ⟨by decide, by decide⟩, fun c => absurd (by rw [g.h, k7] at c; exact c) (nI_ge (a := i) (b := 40) (by omega) (by omega)), fun _ => ⟨m1.1.1, ?_⟩⟩
      refine w_markAny (d + 1) m1 hn40 (by omega) (fun v hv => ⟨_, rfl, by rw [g.h, k7], by rw [g.h, k7]; exact vp_in_nI (show i < 40 by omega) (by omega), ?_⟩)
      rintro M14 rfl
      rw [nI_clamp (by omega), nI_1]
      refine ih (i + 1) (by omega) _ (g.sl (by simp)) (fun j hj hji => ?_)
      by_cases c : j = i
      · have hv' := hv (by omega)
        rw [c, xl_eq, hv', nI_l (by have := hk1 i (by omega); omega)]
      · rw [xl_nk c]; exact hE j hj (by omega)
  exact eX6_howManyFirst _ _ _ _ (loop 40 0 (by omega) M Fr.rf (fun j _ h => absurd h (Nat.not_lt_zero _)))
theorem w_many (d : Nat) (hS : CoS M e) (hW : SgW S) (hM : MaW S R K) (hB : CoB M e S) (hQs : CoQ M e S K) {x : Int32}
    (hQ0 : (∀ k, k < y_qc S → x = nI k → ¬ (x_i M (e + 540 + 8 * k) 1 = 0 ∧ x_i M (e + 540 + 8 * k) 3 = -1 ∧ pc (qd_n (y_q S k)) = 1)) → Q (some (.long (-2))) M)
    (hQ1 : ∀ k, k < y_qc S → x = nI k → x_i M (e + 540 + 8 * k) 1 = 0 → x_i M (e + 540 + 8 * k) 3 = -1 → pc (qd_n (y_q S k)) = 1 → ∀ M1 res, Fr M M1 [e + 524 + 7, e + 524 + 8, e + 524 + 9] → CtR (y_b S) (m_n (K k)) (m_s (K k)) (m_k (K k)) 1 [] res → Q (some (.long res)) M1) :
    Call G (d + 5) 0 0 mX11_many [.ref e, .int x] M Q := by
  obtain ⟨a1, a2, a3, a4, a5, a6, a7, a8, a9, a10, a11, a12, b1, b2, b3, b4, b5, b6, b7, b8, c1, c2, c3, c4, c5, c6, c7, d1, d2, d3⟩ := hS
  have hb := hW.1
  have hqc := hW.2.2.2.2.2.2.1
  obtain ⟨f11, f12, f13, f14, f15⟩ := id hB
  have hnf : ∀ k, k < y_qc S → x_i M (e + 540 + 8 * k) 1 = 0 → x_i M (e + 540 + 8 * k) 3 = -1 → x_i M (e + 540 + 8 * k) 4 = nI (qd_n (y_q S k)) ∧ qd_n (y_q S k) < 256 := fun k hk g1 g2 => by
    obtain ⟨-, -, o4, o256, -⟩ := ok_c hW hM hQs hk g1 g2
    exact ⟨o4, o256⟩
  refine eX11_many e _ ⟨a1, ?_⟩
  show Call G (d + 4) 0 0 mX11_askedOf [.ref e, .int x, .int (nI 1)] M _
  refine w_askedN (d + 1) a1 a3 b2 f13 hqc (by omega) hnf (fun h => ⟨none, rfl, fun _ => hQ0 h, fun v11 z => (by cases z)⟩) (fun k hk ek g1 g2 gp => ⟨some (e + 540 + 8 * k + 1), rfl, fun z => (by cases z), fun v11 ev => ?_⟩)
  cases ev
  have hq1 := hQ1 k hk ek g1 g2 gp
  obtain ⟨oI, ⟨⟨β, oc⟩, o40, ok1, o00⟩, o4, o256, o3, o27⟩ := ok_c hW hM hQs hk g1 g2
  obtain ⟨q1, q2, q3, q4⟩ := b2.2 k (by omega)
  have ef : fn (y_b S) (qd_n (y_q S k)) = y_b S := by unfold fn; rw [gp, Nat.pow_one]
  rw [ef] at oI oc
  have nb : m_n (K k) * y_b S ≤ 1080 := by
    have : m_n (K k) * y_b S ≤ 40 * 3 := Nat.mul_le_mul o40 (by omega)
    omega
  refine ⟨a1, e + 524, a11, c7.1, ?_⟩
  rw [f11]
  exact w_howMany d c7 (o := e + 540 + 8 * k + 1) (mv := e + 540 + 8 * k + 2) (mk := e + 540 + 8 * k + 3) ⟨oc.1, o40, nb, oc.2.1, ok1, o00, by simp; omega⟩ ⟨q4, oI⟩ (by omega) (by omega) (fun M1 res g hr => ⟨_, rfl, hq1 M1 res g hr⟩)
/-- the second number -/
def vaV (l : Int64) (s : Nat) : Prop := s ≤ 1073741824 ∧ l = lN s
theorem vaV.one {l : Int64} {s s' : Nat} (h : vaV l s) (h' : vaV l s') : s = s' := (pk_lEQ (by have := h.1; omega) (by have := h'.1; omega)).mp (h.2.symm.trans h'.2)
theorem w_values (d : Nat) (hS : CoS M e) (hW : SgW S) (hM : MaW S R K) (hB : CoB M e S) (hQs : CoQ M e S K) {x : Int32} {l : Int64}
    (hQ0 : (∀ k, k < y_qc S → x = nI k → ¬ (x_i M (e + 540 + 8 * k) 1 = 0 ∧ x_i M (e + 540 + 8 * k) 3 = -1 ∧ pc (qd_n (y_q S k)) = 2)) → Q (some (.long (-2))) M)
    (hQ0b : (∀ s, ¬ vaV l s) → Q (some (.long (-2))) M)
    (hQ1 : ∀ k, k < y_qc S → x = nI k → x_i M (e + 540 + 8 * k) 1 = 0 → x_i M (e + 540 + 8 * k) 3 = -1 → pc (qd_n (y_q S k)) = 2 → ∀ s, vaV l s → ∀ M1 res t, t ≤ 31 → s < y_b S ^ t → Fr M M1 [e + 524 + 5, e + 524 + 7, e + 524 + 8, e + 524 + 9] → CtR (y_b S) (m_n (K k)) (m_s (K k)) (m_k (K k)) (y_b S) (dD (y_b S) s t) res → Q (some (.long res)) M1) :
    Call G (d + 5) 0 0 mX11_values [.ref e, .int x, .long l] M Q := by
  obtain ⟨a1, a2, a3, a4, a5, a6, a7, a8, a9, a10, a11, a12, b1, b2, b3, b4, b5, b6, b7, b8, c1, c2, c3, c4, c5, c6, c7, d1, d2, d3⟩ := hS
  have hb := hW.1
  have hqc := hW.2.2.2.2.2.2.1
  obtain ⟨f11, f12, f13, f14, f15⟩ := id hB
  have hnf : ∀ k, k < y_qc S → x_i M (e + 540 + 8 * k) 1 = 0 → x_i M (e + 540 + 8 * k) 3 = -1 → x_i M (e + 540 + 8 * k) 4 = nI (qd_n (y_q S k)) ∧ qd_n (y_q S k) < 256 := fun k hk g1 g2 => by
    obtain ⟨-, -, o4, o256, -⟩ := ok_c hW hM hQs hk g1 g2
    exact ⟨o4, o256⟩
  refine eX11_values e _ _ ⟨a1, ?_⟩
  show Call G (d + 4) 0 0 mX11_askedOf [.ref e, .int x, .int (nI 2)] M _
  refine w_askedN (d + 1) a1 a3 b2 f13 hqc (by omega) hnf (fun h => ⟨none, rfl, fun _ => hQ0 h, fun v11 z => (by cases z)⟩) (fun k hk ek g1 g2 gp => ⟨some (e + 540 + 8 * k + 1), rfl, fun z => (by cases z), fun v11 ev => ?_⟩)
  cases ev
  have hq1 := hQ1 k hk ek g1 g2 gp
  obtain ⟨oI, ⟨⟨β, oc⟩, o40, ok1, o00⟩, o4, o256, o3, o27⟩ := ok_c hW hM hQs hk g1 g2
  obtain ⟨q1, q2, q3, q4⟩ := b2.2 k (by omega)
  have ef : fn (y_b S) (qd_n (y_q S k)) = y_b S * y_b S := by unfold fn; rw [gp, Nat.pow_two]
  have nb : m_n (K k) * fn (y_b S) (qd_n (y_q S k)) ≤ 1080 := Nat.mul_le_mul o40 o27
  rw [lg_cmp_lt, lg_cmp_le]
  refine ⟨fun c => hQ0b (fun s hs => ?_), fun c => ?_⟩
  · have := hs.1
    rw [hs.2, show (0 : Int64) = lN 0 from rfl, pk_lLT (by omega) (by omega)] at c
    omega
  obtain ⟨s, hs63, rfl⟩ := pk_lOf c
  rw [show (1073741824 : Int64) = lN 1073741824 from rfl, pk_lLE hs63 (by omega)]
  refine ⟨fun c2 => ⟨a1, e + 524, a11, c7.1, ?_⟩, fun c2 => hQ0b (fun s' hs' => ?_)⟩
  · rw [f11]
    exact w_howManyFirst d c7 ef (o := e + 540 + 8 * k + 1) (mv := e + 540 + 8 * k + 2) (mk := e + 540 + 8 * k + 3) ⟨oc.1, o40, nb, oc.2.1, ok1, o00, by simp; omega⟩ ⟨q4, oI⟩ hb c2 (fun M1 res t ht hst g hr => ⟨_, rfl, hq1 s ⟨c2, rfl⟩ M1 res t ht hst g hr⟩)
  · have := (pk_lEQ hs63 (by have := hs'.1; omega)).mp hs'.2
    have := hs'.1
    omega
end CManyC
