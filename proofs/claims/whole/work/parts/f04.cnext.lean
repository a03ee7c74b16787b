/-! ===== the class: next ===== -/
section CNextC
variable {G : GG} {M : Mem} {r o mv mk n b : Nat} {st : Nat → Nat → Nat} {mr : Nat → Nat} {Q : Option Value → Mem → Prop}
theorem w_leastAbove (d : Nat) (hr : RkS M r) (hg : RkG r o mv mk n b st mr) (hm : RkM M o mv mk n b st mr) {a : Nat} {A : Int64} (hA : A + 1 = lN a) (ha : a ≤ 4611686018427387905) (hQ : ∀ M1 res, Fr M M1 [r + 4, r + 5, r + 6] → NxR b st mr a res → Q (some (.long res)) M1) : Call G (d + 4) 0 0 mX6_leastAbove [.ref r, .ref o, .long A, .int (nI b)] M Q := by
  obtain ⟨hb, hn0, hn40, hcl, hk1, h00, hod⟩ := id hg
  have hb1 : 1 < b := by omega
  refine eX6_leastAbove _ _ _ _ ⟨hr.1, w_fillOpen d hr hg hm (fun M1 g1 hop => ⟨rfl, by rw [g1.h]; exact hr.1, ?_⟩)⟩
  have r1 := hr.eq g1.h g1.r
  have m1 := hm.fr hg g1 (fun q hq => by simp at hq; omega)
  rw [hA]
  refine w_fillDigits (d + 2) r1 hb (by omega) (fun l M2 g2 hl63 hxl _ hdg => ⟨_, rfl, by rw [g2.h]; exact r1.1, ?_⟩)
  have r2 := r1.eq g2.h g2.r
  have m2 := m1.fr hg g2 (fun q hq => by simp at hq; omega)
  refine w_fillHeads (d + 1) r2 hg m2 hl63 hxl hdg (fun M3 g3 hhd => ⟨rfl, by rw [g3.h]; exact r2.1, ?_⟩)
  have r3 := r2.eq g3.h g3.r
  have m3 := m2.fr hg g3 (fun q hq => by simp at hq; omega)
  have hop3 : ∀ k, k < 106 → OpI M3 r n b st mr k := fun k hk => by
    show x_l M3 (r + 4) k = _
    rw [g3.l (by simp), g2.l (by simp)]
    exact hop k hk
  have hdg3 : DgI M3 r b a l := fun k hk => by rw [g3.i (by simp)]; exact hdg k hk
  have g13 : Fr M M3 [r + 4, r + 5, r + 6] := ((g1.wk (by simp)).tr (g2.wk (B := [r + 4, r + 5, r + 6]) (by simp)) (fun _ h => h)).tr (g3.wk (B := [r + 4, r + 5, r + 6]) (by simp)) (fun _ h => h)
  have hq := hQ M3
  obtain ⟨k1, k2, -, -, -, k4, k5, k6, -⟩ := id r3
  have e0 : a / b ^ (l - l) = a := by rw [Nat.sub_self, Nat.pow_zero, Nat.div_one]
  refine ⟨r + 6, k2 5 (by omega), by rw [k6], by rw [k6]; exact vp_in_nI (show l < 65 by omega) (by omega), m3.1.1, ?_⟩
  rw [nI_clamp (by omega), hhd l (Nat.le_refl _), e0]
  have hsv := svN_lt hb1 hn0 hcl a
  refine w_markC (d + 1) m3.1 m3.2 (by omega) hsv ⟨_, rfl, ?_⟩
  have hk1a := hk1 _ hsv
  rw [show (1 : Int32) = nI 1 from rfl, nI_eq (by omega) (by omega)]
  refine ⟨fun hno => ?_, fun hac => ?_⟩
  · have hnac : ¬ acG b st mr a := hno
    have hq' : ∀ res, NxR b st mr (a + 1) res → Q (some (.long res)) M3 := fun res h => hq res g13 (h.gt hnac)
    have found : ∀ e g y, a / b ^ e % b < g → g < b → (∀ d', d' < g → ¬ nxC b st mr a e d') → (∀ e', e' < e → ∀ d', ¬ nxC b st mr a e' d') → LeastN b st mr (st (svN b st (a / b ^ (e + 1))) g) e y → Q (some (.long (dfA (a / b ^ (e + 1) * b ^ (e + 1) + (g * b ^ e + y))))) M3 := fun e g y h1 h2 h3 h4 h5 => by
      obtain ⟨f1, f2, f3⟩ := nx_found hb1 h00 h1 h2 h3 h4 h5
      exact hq' _ (Or.inl ⟨_, f1, f2, fun y hy hlt hac => by have := f3 y hy hac; omega, rfl⟩)
    have l151 : ∀ t e, e + t = l + n → l ≤ e → (∀ e', e' < e → ∀ d', ¬ nxC b st mr a e' d') → ∀ z, c1 z = true → LX6_leastAbove_151 G (d + 3) 0 0 r o A (nI b) (nI l) (nI (e + 1)) z M3 Q := by
      intro t
      induction t with
      | zero =>
        intro e he hle hno' z hz
        refine vX6_leastAbove_151 _ _ _ _ _ _ _ hz ⟨m3.1.1, fun _ => hq' _ (Or.inr ⟨nx_none hb1 h00 hn0 hcl hxl (Nat.le_refl _) (fun e' h => hno' e' (by omega)), rfl⟩), fun c => absurd ?_ c⟩
        rw [m3.2.1, nI_add, nI_ltI (by omega) (by omega)]
        omega
      | succ t ih =>
        intro e he hle hno' z hz
        have z0 : ∀ k, l ≤ k → a / b ^ k = 0 := fun k hk => Nat.div_eq_of_lt (Nat.lt_of_lt_of_le hxl (Nat.pow_le_pow_right (by omega) hk))
        refine vX6_leastAbove_151 _ _ _ _ _ _ _ hz ⟨m3.1.1, fun c => ?_, fun _ => ⟨k1, ?_⟩⟩
        · rw [m3.2.1, nI_add, nI_ltI (by omega) (by omega)] at c
          omega
        rw [show nI (e + 1) - 1 = nI e from s_sub (b := 1) (by omega)]
        show Call G (d + 3) 0 0 mX6_openDigit [.ref r, .ref o, .int (nI 0), .int (nI 1), .int (nI e), .int (nI b)] M3 _
        have c0 : ∀ g, nxC b st mr a e g ↔ 0 < g ∧ g < b ∧ LdW b st (fun s => mr s = 1) (st 0 g) e := fun g => by
          unfold nxC
          rw [z0 e hle, z0 (e + 1) (by omega), svN_0, Nat.zero_mod]
        refine w_openDigit (d + 1) r3 hg m3 (hop3 e (by omega)) (by omega) hn0 (by omega) (fun g h1 h2 h3 h4 => ⟨_, rfl, fun c => absurd c (nI_m1 (by omega)), fun _ => ⟨k1, ?_⟩⟩) (fun hn => ⟨_, rfl, fun _ => ?_, fun c => absurd rfl c⟩)
        · show Call G (d + 3) 0 0 mX6_ended [.ref r, .ref o, .long (lN (capN 0)), .int (nI 0), .int (nI g), .int (nI (e + 1)), .int (nI b)] M3 _
          refine w_ended d r3 hg m3 hop3 hn0 h2 (by omega) h3 (fun y hy => ⟨_, rfl, ?_⟩)
          have := found e g y (by rw [z0 e hle, Nat.zero_mod]; omega) h2 (fun d' hd' hc => by
            rw [c0] at hc
            exact h4 d' hc.1 hd' hc.2.2) hno' (by rw [z0 (e + 1) (by omega), svN_0]; exact hy)
          rw [z0 (e + 1) (by omega)] at this
          exact this
        · rw [nI_1]
          refine ih (e + 1) (by omega) (by omega) (fun e' he' d' hc => ?_) _ rfl
          by_cases ee : e' = e
          · subst ee
            rw [c0] at hc
            exact hn d' hc.1 hc.2.1 hc.2.2
          · exact hno' e' (by omega) d' hc
    have l66 : ∀ t e, e + t = l → (∀ e', e' < e → ∀ d', ¬ nxC b st mr a e' d') → ∀ z, c1 z = true → LX6_leastAbove_66 G (d + 3) 0 0 r o A (nI b) (nI l) (xr_ t) z M3 Q := by
      intro t
      induction t with
      | zero =>
        intro e he hno' z hz
        refine vX6_leastAbove_66 _ _ _ _ _ _ _ hz ⟨fun _ => ?_, fun c => absurd (show (-1 : Int32) < 0 by decide) c⟩
        rw [nI_1]
        refine l151 n l rfl (Nat.le_refl _) (fun e' he' => hno' e' (by omega)) z hz
      | succ t ih =>
        intro e he hno' z hz
        have hs := svN_lt hb1 hn0 hcl (a / b ^ (l - t))
        have hdl : a / b ^ (l - 1 - t) % b < b := Nat.mod_lt _ (by omega)
        refine vX6_leastAbove_66 _ _ _ _ _ _ _ hz ⟨fun c => absurd c (nI_pos (n := t) (by omega)), fun _ => ⟨k1, r + 6, k2 5 (by omega), by rw [k6], by rw [k6]; exact vp_in_nI (show t < 65 by omega) (by omega), r + 5, k2 4 (by omega), by rw [k5], by rw [k5]; exact vp_in_nI (show t < 64 by omega) (by omega), ?_⟩⟩
        show Call G (d + 3) 0 0 mX6_openDigit [.ref r, .ref o, .int (x_i M3 (r + 6) (nI t).toNatClampNeg), .int (x_i M3 (r + 5) (nI t).toNatClampNeg + 1), .int (nI l - 1 - nI t), .int (nI b)] M3 _
        rw [nI_clamp (by omega), hhd t (by omega), hdg3 t (by omega), nI_1, show nI l - 1 = nI (l - 1) from s_sub (b := 1) (by omega), s_sub (by omega)]
        rw [show l - 1 - t = e by omega, show l - t = e + 1 by omega] at *
        refine w_openDigit (d + 1) r3 hg m3 (hop3 e (by omega)) (by omega) hs (by omega) (fun g h1 h2 h3 h4 => ⟨_, rfl, fun c => absurd c (nI_m1 (by omega)), fun _ => ⟨k1, ?_⟩⟩) (fun hn => ⟨_, rfl, fun _ => ?_, fun c => absurd rfl c⟩)
        · show Call G (d + 3) 0 0 mX6_head [.ref r, .int (nI t), .int (nI b)] M3 _
          refine w_head (d + 1) r3 hb hl63 (by omega) hxl hdg3 ⟨_, rfl, k1, r + 6, k2 5 (by omega), by rw [k6], by rw [k6]; exact vp_in_nI (show t < 65 by omega) (by omega), ?_⟩
          show Call G (d + 3) 0 0 mX6_ended [.ref r, .ref o, .long (lN (capN (a / b ^ (l - t)))), .int (x_i M3 (r + 6) (nI t).toNatClampNeg), .int (nI g), .int (nI l - nI t), .int (nI b)] M3 _
          rw [nI_clamp (by omega), hhd t (by omega), s_sub (by omega), show l - t = e + 1 by omega]
          exact w_ended d r3 hg m3 hop3 hs h2 (by omega) h3 (fun y hy => ⟨_, rfl, found e g y h1 h2 (fun d' hd' hc => h4 d' hc.1 hd' hc.2.2) hno' hy⟩)
        · show LX6_leastAbove_66 G (d + 3) 0 0 r o A (nI b) (nI l) (nI t + (-1)) _ M3 Q
          rw [xr_s]
          refine ih (e + 1) (by omega) (fun e' he' d' hc => ?_) _ rfl
          by_cases ee : e' = e
          · subst ee
            exact hn d' hc.1 hc.2.1 hc.2.2
          · exact hno' e' (by omega) d' hc
    rw [show nI l - nI 1 = xr_ l from xr_p l]
    exact l66 l 0 (by omega) (fun e' he' => absurd he' (Nat.not_lt_zero _)) none rfl
  · have hres := hq _ g13 (Or.inl ⟨a, Nat.le_refl _, hac, fun y h1 h2 => by omega, rfl⟩)
    rw [lg_cmp_le, show (4611686018427387904 : Int64) = lN 4611686018427387904 from rfl, pk_lLE (by omega) (by omega)]
    unfold dfA at hres
    refine ⟨fun c => ?_, fun c => ?_⟩
    · rw [if_pos c] at hres; exact hres
    · rw [if_neg c] at hres; exact hres
end CNextC
