/-! ===== Reckoner: how many ===== -/
section CCountC
variable {G : GG} {M : Mem} {r o mv mk n b f ap : Nat} {st : Nat → Nat → Nat} {mr : Nat → Nat} {Q : Option Value → Mem → Prop}
def RkH (r o mv mk n f : Nat) (st : Nat → Nat → Nat) (mr : Nat → Nat) : Prop := 0 < n ∧ n ≤ 40 ∧ n * f ≤ 1080 ∧ (∀ i, i < n → ∀ g, g < f → st i g < n) ∧ (∀ i, i < n → mr i ≤ 1) ∧ st 0 0 = 0 ∧ ∀ q ∈ [o, mv, mk], q < r ∨ r + 9 < q
theorem RkM.fh {M' : Mem} {A : List Nat} (h : RkM M o mv mk n f st mr) (hg : RkH r o mv mk n f st mr) (g : Fr M M' A) (hA : ∀ q ∈ A, r ≤ q ∧ q ≤ r + 9) : RkM M' o mv mk n f st mr := ⟨h.1.fF g, h.2.fF g (fun q hq c => by have := hg.2.2.2.2.2.2 q hq; have := hA q c; omega)⟩
def VcI (M : Mem) (a n : Nat) (w : Nat → Nat) : Prop := ∀ i, i < n → x_l M a i = lN (capN (w i))
theorem cap_id {z : Nat} (h : z ≤ 4611686018427387905) : capN z = z := by unfold capN; split <;> omega
theorem w_sum6 (d : Nat) {x y : Nat} (hQ : Q (some (.long (lN (capN (x + y))))) M) : Call G (d + 1) 0 0 mX6_sum [.long (lN (capN x)), .long (lN (capN y))] M Q := by
  have h1 := capN_le x
  have h2 := capN_le y
  rw [← cap_add] at hQ
  refine eX6_sum _ _ ?_
  rw [lg_cmp_le, show (4611686018427387905 : Int64) = lN 4611686018427387905 from rfl, lN_sub h2, pk_lLE (by omega) (by omega), lN_add]
  refine ⟨fun c => ?_, fun c => ?_⟩
  · rw [cap_id (by omega)] at hQ; exact hQ
  · rw [show capN (capN x + capN y) = 4611686018427387905 from if_neg (by omega)] at hQ; exact hQ
theorem w_times6 (d : Nat) {x y : Nat} (hQ : Q (some (.long (lN (capN (x * y))))) M) : Call G (d + 1) 0 0 mX6_times [.long (lN (capN x)), .long (lN (capN y))] M Q := by
  have h1 := capN_le x
  have h2 := capN_le y
  rw [← cap_mul] at hQ
  refine eX6_times _ _ ?_
  simp only [lg_cmp_eq, lN_eq0 (show capN x < 2 ^ 63 by omega), lN_eq0 (show capN y < 2 ^ 63 by omega)]
  refine ⟨fun c => ?_, fun c => ⟨fun c2 => ⟨c2, ?_⟩, fun c2 => ?_⟩⟩
  · rw [c, Nat.zero_mul] at hQ; exact hQ
  · have hdv : 4611686018427387905 / capN y < 2 ^ 63 := Nat.lt_of_le_of_lt (Nat.div_le_self _ _) (by omega)
    rw [lg_cmp_le, show (4611686018427387905 : Int64) = lN 4611686018427387905 from rfl, pk_lDiv (by omega) (by omega) (by omega), pk_lLE (by omega) hdv, Nat.le_div_iff_mul_le (by omega), lN_mul]
    refine ⟨fun c3 => ?_, fun c3 => ?_⟩
    · rw [cap_id c3] at hQ; exact hQ
    · rw [show capN (capN x * capN y) = 4611686018427387905 from if_neg (by omega)] at hQ; exact hQ
  · rw [c2, Nat.mul_zero] at hQ; exact hQ
theorem fFl {M' : Mem} {A : List Nat} {a lo hi : Nat} {v : Int64} (h : Fr M M' A) (ha : a ∈ A) : Fr M (x_fl M' a lo hi v) A := by
  obtain ⟨f, g, rfl, hf⟩ := h
  exact ⟨f, _, rfl, fun q hq => ⟨(hf q hq).1, by
    funext k
    show (if q = a ∧ lo ≤ k ∧ k < hi then v else g q k) = x_l M q k
    rw [if_neg (fun e => hq (by rw [e.1]; exact ha)), (hf q hq).2]⟩⟩
theorem xcl_in {a0 a k j : Nat} (h : j < k) : x_l (x_cpl M a0 0 a 0 k) a j = x_l M a0 j := by
  show (if a = a then cpR (x_l M a0) (x_l M a) 0 0 k else x_l M a) j = _
  rw [if_pos rfl]
  unfold cpR
  rw [if_pos (by omega)]
  congr 1
  omega
theorem xcl_na {a0 sp a dp k c : Nat} (h : c ≠ a) : x_l (x_cpl M a0 sp a dp k) c = x_l M c := if_neg h
theorem w_startWays (d : Nat) (hr : RkS M r) (hg : RkH r o mv mk n f st mr) (hm : RkM M o mv mk n f st mr) (hb1 : 1 < b) (hb3 : b ≤ 3) (hap : ∀ g, g < b → g * ap < f) (hQ : ∀ M1, Fr M M1 [r + 8] → VcI M1 (r + 8) n (wvF b n st ap 0) → Q none M1) : Call G (d + 2) 0 0 mX6_startWays [.ref r, .ref o, .int (nI ap), .int (nI b)] M Q := by
  obtain ⟨hn0, hn40, hnf, hcl, hk1, h00, hod⟩ := id hg
  obtain ⟨k1, k2, -, -, -, k4, k5, k6, k7, k8, k9⟩ := id hr
  have loop : ∀ t k, k + t = b - 1 → ∀ M1, Fr M M1 [r + 8] → VcI M1 (r + 8) n (fun j => rsN (sd0 st ap) 0 1 j k) → ∀ z, c1 z = true → LX6_startWays_11 G (d + 1) 0 0 r o (nI ap) (nI b) (nI (1 + k)) z M1 Q := by
    intro t
    induction t with
    | zero =>
      intro k hk M1 g hw z hz
      have e : k = b - 1 := by omega
      subst e
      exact vX6_startWays_11 _ _ _ _ _ _ hz ⟨fun _ => hQ M1 g hw, fun c => absurd (nI_le (show b ≤ 1 + (b - 1) by omega) (by omega)) c⟩
    | succ t ih =>
      intro k hk M1 g hw z hz
      have m1 := hm.fh hg g (fun q hq => by simp at hq; omega)
      have hgf := hap (1 + k) (by omega)
      have hs := hcl 0 hn0 _ hgf
      refine vX6_startWays_11 _ _ _ _ _ _ hz ⟨fun c => absurd c (nI_ge (a := 1 + k) (b := b) (by omega) (by omega)), fun _ => ⟨m1.1.1, ?_⟩⟩
      rw [s_mul]
      show Call G (d + 1) 0 0 mX1_after [.ref o, .int (nI 0), .int (nI ((1 + k) * ap))] M1 _
      refine w_afterC d m1.1 m1.2 hnf hn0 hgf ⟨_, rfl, by rw [g.h]; exact k1, r + 8, by rw [g.r]; exact k2 7 (by omega), by rw [g.h, k8], by rw [g.h, k8]; exact vp_in_nI (show st 0 ((1 + k) * ap) < 40 by omega) (by omega), ?_⟩
      rw [nI_clamp (by omega), hw _ hs]
      refine w_sum6 d (y := 1) ⟨_, rfl, by rw [g.h, k8], by rw [g.h, k8]; exact vp_in_nI (show st 0 ((1 + k) * ap) < 40 by omega) (by omega), ?_⟩
      rintro M15 rfl
      rw [nI_1]
      refine ih (k + 1) (by omega) _ (g.sl (by simp)) (fun j hj => ?_) _ rfl
      show x_l (x_sl M1 (r + 8) (st 0 ((1 + k) * ap)) _) (r + 8) j = lN (capN (rsN (sd0 st ap) 0 1 j k + (if st 0 ((1 + k) * ap) = j then 1 else 0)))
      by_cases c : j = st 0 ((1 + k) * ap)
      · rw [c, xl_eq, if_pos rfl]
      · rw [xl_nk c, if_neg (fun h => c h.symm), Nat.add_zero]; exact hw j hj
  refine eX6_startWays _ _ _ _ ⟨k1, r + 8, k2 7 (by omega), w_fillL d k8 (by omega) ⟨rfl, ?_⟩⟩
  refine loop (b - 1) 0 (by omega) _ (fFl Fr.rf (by simp)) (fun j hj => ?_) none rfl
  rw [xg_in (by omega) (by omega)]
  rfl
theorem w_stepWays (d : Nat) (hr : RkS M r) (hg : RkH r o mv mk n f st mr) (hm : RkM M o mv mk n f st mr) (hb1 : 1 < b) (hb3 : b ≤ 3) (hap : ∀ g, g < b → g * ap < f) {w : Nat → Nat} (hw : VcI M (r + 8) n w) (hQ : ∀ M1, Fr M M1 [r + 8, r + 9] → VcI M1 (r + 8) n (fun j => pushN (sd0 st ap) w 0 b n j) → Q none M1) : Call G (d + 2) 0 0 mX6_stepWays [.ref r, .ref o, .int (nI ap), .int (nI b)] M Q := by
  obtain ⟨hn0, hn40, hnf, hcl, hk1, h00, hod⟩ := id hg
  obtain ⟨k1, k2, -, -, -, k4, k5, k6, k7, k8, k9⟩ := id hr
  have inner : ∀ i, i < n → (∀ M1, Fr M M1 [r + 9] → VcI M1 (r + 9) n (fun j => pushN (sd0 st ap) w 0 b (i + 1) j) → ∀ z z', c1 z = true → c1 z' = true → LX6_stepWays_11 G (d + 1) 0 0 r o (nI ap) (nI b) (nI (i + 1)) z z' M1 Q) → ∀ t g, g + t = b → ∀ M1, Fr M M1 [r + 9] → VcI M1 (r + 9) n (fun j => pushN (sd0 st ap) w 0 b i j + w i * rsN (sd0 st ap) i 0 j g) → ∀ z, c1 z = true → LX6_stepWays_23 G (d + 1) 0 0 r o (nI ap) (nI b) (nI i) (nI g) z M1 Q := by
    intro i hi hnext t
    induction t with
    | zero =>
      intro g hk M1 fr hv z hz
      have e : g = b := by omega
      subst e
      refine vX6_stepWays_23 _ _ _ _ _ _ _ hz ⟨fun _ => ?_, fun c => absurd (nI_le (Nat.le_refl _) (by omega)) c⟩
      rw [nI_1]
      exact hnext M1 fr hv _ _ rfl hz
    | succ t ih =>
      intro g hk M1 fr hv z hz
      have m1 := hm.fh hg fr (fun q hq => by simp at hq; omega)
      have hgf := hap g (by omega)
      have hs := hcl i hi _ hgf
      refine vX6_stepWays_23 _ _ _ _ _ _ _ hz ⟨fun c => absurd c (nI_ge (a := g) (b := b) (by omega) (by omega)), fun _ => ⟨m1.1.1, ?_⟩⟩
      rw [s_mul]
      refine w_afterC d m1.1 m1.2 hnf hi hgf ⟨_, rfl, by rw [fr.h]; exact k1, r + 9, by rw [fr.r]; exact k2 8 (by omega), by rw [fr.h, k9], by rw [fr.h, k9]; exact vp_in_nI (show st i (g * ap) < 40 by omega) (by omega), r + 8, by rw [fr.r]; exact k2 7 (by omega), by rw [fr.h, k8], by rw [fr.h, k8]; exact vp_in_nI (show i < 40 by omega) (by omega), ?_⟩
      rw [nI_clamp (by omega), nI_clamp (by omega), hv _ hs, fr.l (q := r + 8) (by simp), hw i hi]
      refine w_sum6 d ⟨_, rfl, by rw [fr.h, k9], by rw [fr.h, k9]; exact vp_in_nI (show st i (g * ap) < 40 by omega) (by omega), ?_⟩
      rintro M18 rfl
      rw [nI_1]
      refine ih (g + 1) (by omega) _ (fr.sl (by simp)) (fun j hj => ?_) _ rfl
      show x_l (x_sl M1 (r + 9) (st i (g * ap)) _) (r + 9) j = lN (capN (pushN (sd0 st ap) w 0 b i j + w i * (rsN (sd0 st ap) i 0 j g + (if st i ((0 + g) * ap) = j then 1 else 0))))
      rw [Nat.zero_add]
      by_cases c : j = st i (g * ap)
      · rw [c, xl_eq, if_pos rfl, Nat.mul_add, Nat.mul_one, Nat.add_assoc]
      · rw [xl_nk c, if_neg (fun h => c h.symm), Nat.add_zero]; exact hv j hj
  have outer : ∀ t i, i + t = n → ∀ M1, Fr M M1 [r + 9] → VcI M1 (r + 9) n (fun j => pushN (sd0 st ap) w 0 b i j) → ∀ z z', c1 z = true → c1 z' = true → LX6_stepWays_11 G (d + 1) 0 0 r o (nI ap) (nI b) (nI i) z z' M1 Q := by
    intro t
    induction t with
    | zero =>
      intro i hi M1 fr hv z z' hz hz'
      have m1 := hm.fh hg fr (fun q hq => by simp at hq; omega)
      have e : i = n := by omega
      subst e
      refine vX6_stepWays_11 _ _ _ _ _ _ _ hz hz' ⟨m1.1.1, fun _ => ⟨by rw [fr.h]; exact k1, r + 9, by rw [fr.r]; exact k2 8 (by omega), r + 8, by rw [fr.r]; exact k2 7 (by omega), by rw [fr.h, k8]; exact ⟨by decide, by decide⟩, by rw [fr.h, k8], by rw [fr.h, k9], by decide, by decide, by rw [fr.h, k8]; decide, by rw [fr.h, k8, k9]; decide, by rw [fr.h, k8]; decide, ?_⟩, fun c => absurd (by rw [m1.2.1]; exact nI_le (Nat.le_refl _) (by omega)) c⟩
      rw [fr.h, k8]
      rintro M14 rfl
      rw [show ((0 : Int32)).toNatClampNeg = 0 from rfl, show (nI 40).toNatClampNeg = 40 from rfl]
      refine hQ _ ((fr.wk (B := [r + 8, r + 9]) (by simp)).cpl (by simp)) (fun j hj => ?_)
      rw [xcl_in (by omega)]
      exact hv j hj
    | succ t ih =>
      intro i hi M1 fr hv z z' hz hz'
      have m1 := hm.fh hg fr (fun q hq => by simp at hq; omega)
      refine vX6_stepWays_11 _ _ _ _ _ _ _ hz hz' ⟨m1.1.1, fun c => absurd (by rw [m1.2.1] at c; exact c) (nI_ge (a := i) (b := n) (by omega) (by omega)), fun _ => ?_⟩
      exact inner i (by omega) (fun M2 fr2 hv2 z2 z3 hz2 hz3 => ih (i + 1) (by omega) M2 fr2 hv2 z2 z3 hz2 hz3) b 0 (by omega) M1 fr (fun j hj => by rw [hv j hj]; rfl) z' hz'
  refine eX6_stepWays _ _ _ _ ⟨k1, r + 9, k2 8 (by omega), w_fillL d k9 (by omega) ⟨rfl, ?_⟩⟩
  refine outer n 0 (by omega) _ (fFl Fr.rf (by simp)) (fun j hj => ?_) none none rfl rfl
  rw [xg_in (by omega) (by omega)]
  rfl
theorem w_countAll (d : Nat) (hr : RkS M r) (hg : RkH r o mv mk n f st mr) (hm : RkM M o mv mk n f st mr) (hb1 : 1 < b) (hb3 : b ≤ 3) (hap : ∀ g, g < b → g * ap < f) {ds : List Nat} (hE : VcI M (r + 7) n (nwC b st mr ap ds)) (hQ : ∀ M1 res, Fr M M1 [r + 8, r + 9] → CtR b n st mr ap ds res → Q (some (.long res)) M1) : Call G (d + 3) 0 0 mX6_countAll [.ref r, .ref o, .int (nI ap), .int (nI b)] M Q := by
  obtain ⟨hn0, hn40, hnf, hcl, hk1, h00, hod⟩ := id hg
  obtain ⟨k1, k2, -, -, -, k4, k5, k6, k7, k8, k9⟩ := id hr
  have hcl2 : ∀ i, i < n → ∀ g, g < b → st i (g * ap) < n := fun i hi g hgb => hcl i hi _ (hap g hgb)
  have fr : ∀ {M1 : Mem}, Fr M M1 [r + 8, r + 9] → RkS M1 r ∧ RkM M1 o mv mk n f st mr ∧ VcI M1 (r + 7) n (nwC b st mr ap ds) := fun g => ⟨hr.eq g.h g.r, hm.fh hg g (fun q hq => by simp at hq; omega), fun i hi => by rw [g.l (by simp)]; exact hE i hi⟩
  have l28 : ∀ m, m < 80 → (∀ m', 40 ≤ m' → m' < m → nzC b st mr ap m' ds = 0) → (∀ M1, Fr M M1 [r + 8, r + 9] → VcI M1 (r + 8) n (wvF b n st ap (m + 1)) → (40 ≤ m → nzC b st mr ap m ds = 0) → ∀ z z' z'', c1 z = true → c1 z' = true → c1 z'' = true → LX6_countAll_18 G (d + 2) 0 0 r o (nI ap) (nI b) (lN (capN (nwC b st mr ap ds 0 + sg (fun m => nzC b st mr ap m ds) (m + 1)))) (nI (m + 1 + 1)) z z' z'' M1 Q) → ∀ t i, i + t = n → ∀ M1, Fr M M1 [r + 8, r + 9] → VcI M1 (r + 8) n (wvF b n st ap m) → (40 ≤ m → sg (fun j => wvF b n st ap m j * nwC b st mr ap ds j) i = 0) → ∀ z z', c1 z = true → c1 z' = true → LX6_countAll_28 G (d + 2) 0 0 r o (nI ap) (nI b) (lN (capN (nwC b st mr ap ds 0 + sg (fun m => nzC b st mr ap m ds) m + sg (fun j => wvF b n st ap m j * nwC b st mr ap ds j) i))) (nI (m + 1)) (nI i) z z' M1 Q := by
    intro m hm80 hzero hnext t
    induction t with
    | zero =>
      intro i hi M1 g hw hz0 z z' hz hz'
      obtain ⟨q1, q2, q3⟩ := fr g
      have e : i = n := by omega
      subst e
      refine vX6_countAll_28 _ _ _ _ _ _ _ _ _ hz hz' ⟨q2.1.1, fun _ => ⟨q1.1, w_stepWays d q1 hg q2 hb1 hb3 hap hw (fun M2 g2 hw2 => ⟨rfl, ?_⟩)⟩, fun c => absurd (by rw [q2.2.1]; exact nI_le (Nat.le_refl _) (by omega)) c⟩
      rw [wv_dot hcl2 hn0, nI_1, Nat.add_assoc]
      exact hnext M2 (g.tr g2 (fun _ h => h)) hw2 (fun h => by rw [← wv_dot hcl2 hn0]; exact hz0 h) _ _ _ rfl hz hz'
    | succ t ih =>
      intro i hi M1 g hw hz0 z z' hz hz'
      obtain ⟨q1, q2, q3⟩ := fr g
      have hin : i < n := by omega
      refine vX6_countAll_28 _ _ _ _ _ _ _ _ _ hz hz' ⟨q2.1.1, fun c => absurd (by rw [q2.2.1] at c; exact c) (nI_ge (a := i) (b := n) hin (by omega)), fun _ => ⟨q1.1, r + 8, by rw [g.r]; exact k2 7 (by omega), by rw [g.h, k8], by rw [g.h, k8]; exact vp_in_nI (show i < 40 by omega) (by omega), r + 7, by rw [g.r]; exact k2 6 (by omega), by rw [g.h, k7], by rw [g.h, k7]; exact vp_in_nI (show i < 40 by omega) (by omega), ?_⟩⟩
      rw [nI_clamp (by omega), hw i hin, q3 i hin]
      refine w_times6 (d + 1) ⟨_, rfl, ?_⟩
      have hle := capN_le (wvF b n st ap m i * nwC b st mr ap ds i)
      have hcp := cap_pos (x := wvF b n st ap m i * nwC b st mr ap ds i)
      rw [lg_cmp_le, show (0 : Int64) = lN 0 from rfl, pk_lLE (by omega) (by omega), nI_1, show (40 : Int32) = nI 40 from rfl, nI_leI (by omega) (by omega)]
      have add : ∀ z, (40 ≤ m → wvF b n st ap m i * nwC b st mr ap ds i = 0) → Call G (d + 2) 0 0 mX6_sum [.long (lN (capN (nwC b st mr ap ds 0 + sg (fun m => nzC b st mr ap m ds) m + sg (fun j => wvF b n st ap m j * nwC b st mr ap ds j) i))), .long (lN (capN (wvF b n st ap m i * nwC b st mr ap ds i)))] M1 (fun r17 M18 => ∃ v19 : Int64, r17 = some (.long v19) ∧ LX6_countAll_28 G (d + 2) 0 0 r o (nI ap) (nI b) v19 (nI (m + 1)) (nI (i + 1)) z none M18 Q) := fun z h0 => by
        refine w_sum6 (d + 1) ⟨_, rfl, ?_⟩
        rw [Nat.add_assoc (nwC b st mr ap ds 0 + sg (fun m => nzC b st mr ap m ds) m)]
        have hn := ih (i + 1) (by omega) M1 g hw (fun h => by
          show sg (fun j => wvF b n st ap m j * nwC b st mr ap ds j) i + wvF b n st ap m i * nwC b st mr ap ds i = 0
          rw [hz0 h, h0 h]) none none rfl rfl
        refine Wk.forget (lv' := [some (.ref r), some (.ref o), some (.int (nI ap)), some (.int (nI b)), some (.long (lN (capN (nwC b st mr ap ds 0 + sg (fun m => nzC b st mr ap m ds) m + sg (fun j => wvF b n st ap m j * nwC b st mr ap ds j) (i + 1))))), none, some (.int (nI (m + 1))), some (.int (nI (i + 1))), none, none]) rfl (fun k v h => ?_) hn
        match k with
        | 0 => exact h
        | 1 => exact h
        | 2 => exact h
        | 3 => exact h
        | 4 => exact h
        | 5 => exact h
        | 6 => exact h
        | 7 => exact h
        | 8 => exact absurd h (by simp)
        | 9 => exact absurd h (by simp)
        | k + 10 => exact absurd h (by simp)
      refine ⟨fun c => add _ (fun _ => by omega), fun c => ⟨fun c2 => add _ (fun h => by omega), fun c2 => hQ M1 _ g (Or.inl ⟨⟨m, by omega, ?_⟩, rfl⟩)⟩⟩
      rw [← wv_dot hcl2 hn0, sg_pos]
      exact ⟨i, hin, by omega⟩
  have l18 : ∀ t m, m + t = 80 → ∀ M1, Fr M M1 [r + 8, r + 9] → VcI M1 (r + 8) n (wvF b n st ap m) → (∀ m', 40 ≤ m' → m' < m → nzC b st mr ap m' ds = 0) → ∀ z z' z'', c1 z = true → c1 z' = true → c1 z'' = true → LX6_countAll_18 G (d + 2) 0 0 r o (nI ap) (nI b) (lN (capN (nwC b st mr ap ds 0 + sg (fun m => nzC b st mr ap m ds) m))) (nI (m + 1)) z z' z'' M1 Q := by
    intro t
    induction t with
    | zero =>
      intro m hm' M1 g hw hzero z z' z'' hz hz' hz''
      have e : m = 80 := by omega
      subst e
      have hninf : ¬ InfC b n st mr ap ds := fun h => by
        obtain ⟨m', h1, h2, h3⟩ := inf_from hcl2 hn0 h (k := 40) hn40
        rw [hzero m' h1 (by omega)] at h3
        omega
      have hfin := hQ M1 _ g (Or.inr ⟨hninf, 80, by omega, rfl⟩)
      rw [nw_total hb1 h00, ← dfA_cap] at hfin
      have hle := capN_le (nwC b st mr ap ds 0 + sg (fun m => nzC b st mr ap m ds) 80)
      refine vX6_countAll_18 _ _ _ _ _ _ _ _ _ hz hz' hz'' ⟨fun _ => ?_, fun c => absurd (show (80 : Int32) < nI (80 + 1) by decide) c⟩
      rw [lg_cmp_le, show (4611686018427387904 : Int64) = lN 4611686018427387904 from rfl, pk_lLE (by omega) (by omega)]
      refine ⟨fun c => ?_, fun c => ?_⟩
      · rw [if_pos c] at hfin; exact hfin
      · rw [if_neg c] at hfin; exact hfin
    | succ t ih =>
      intro m hm' M1 g hw hzero z z' z'' hz hz' hz''
      refine vX6_countAll_18 _ _ _ _ _ _ _ _ _ hz hz' hz'' ⟨fun c => ?_, fun _ => ?_⟩
      · rw [show (80 : Int32) = nI 80 from rfl, nI_ltI (by omega) (by omega)] at c
        omega
      · refine l28 m (by omega) hzero (fun M2 g2 hw2 h0 z2 z3 z4 hz2 hz3 hz4 => ih (m + 1) (by omega) M2 g2 hw2 (fun m' h1 h2 => ?_) z2 z3 z4 hz2 hz3 hz4) n 0 (by omega) M1 g hw (fun _ => rfl) z' z'' hz' hz''
        by_cases c : m' = m
        · rw [c]; exact h0 (by omega)
        · exact hzero m' h1 (by omega)
  refine eX6_countAll _ _ _ _ ⟨k1, r + 7, k2 6 (by omega), by rw [k7], by rw [k7]; exact vp_in_nI (n := 0) (by omega) (by omega), w_startWays d hr hg hm hb1 hb3 hap (fun M1 g hw => ⟨rfl, ?_⟩)⟩
  rw [show ((0 : Int32)).toNatClampNeg = 0 from rfl, hE 0 hn0]
  exact l18 80 0 (by omega) M1 (g.wk (by simp)) hw (fun m' _ h => absurd h (Nat.not_lt_zero _)) none none none rfl rfl rfl
end CCountC
