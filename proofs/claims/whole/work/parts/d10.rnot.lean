/-! ===== the reference: so, not, all, is ===== -/
section RNotC
variable {G : GG} {M : Mem} {m L rc : Nat} {t wd : Nat → Nat} {Q : Option Value → Mem → Prop}
theorem ur_f {n x : Nat} {g : PSt → PRt} (hg : SgP L g) (h : ∀ d, ReC G m L rc t wd n mX12_or (d + (x + 8)) (orG L g)) (hn : n ≤ 10) : ∀ f d, ∀ (M : Mem) (s : PSt) (Q : Option Value → Mem → Prop), (q_l s).length < f → RfE M m L rc t wd → RfX M m L t s → x_i M m 43 = nI (10 - n) → GdT L (q_l s) → 2 * q_c s ≤ plT L (q_l s) → (∀ M' a, FrM M M' m FRr ARr → x_i M' m 43 = x_i M m 43 → RfO M' m L t a (soG L g f s) → Q (some (.int (nI a))) M') → Call G (d + (x + 8) + f) 0 0 mX12_f [.ref m] M Q := by
  intro f
  induction f with
  | zero => intro d M s Q hlen; omega
  | succ f ih =>
    intro d M s Q hlen hE hX h43 hGd hpl hQ
    have hL := hE.1.2.2.1
    have e0 : soG L g (f + 1) s = (match orG L g s with | .inl p => .inl p | .inr (a, s1) => if kdT (q_l s1) = 10 then (match soG L g f (tlS s1) with | .inl p => .inl p | .inr (b, s2) => .inr (q_c s2, jnP 5 (plT L (q_l s1)) a b s2)) else .inr (a, s1)) := rfl
    rw [e0] at hQ
    rw [show d + (x + 8) + (f + 1) = (d + (x + 8) + f) + 1 from rfl]
    have e1 : d + (x + 8) + f = (d + f) + (x + 8) := by omega
    have h1 := h (d + f)
    rw [← e1] at h1
    refine eX12_f m (h1 M s _ hE hX h43 hGd hpl (fun M2 a' g2 e2 hO => ⟨_, rfl, ?_⟩))
    have hE2 := hE.fr g2
    have vp : ∀ {y : Nat}, y < 130 → vp_in (nI y) 130 := fun hy => vp_in_nI hy (by omega)
    refine ⟨hE2.1.1.1, ?_⟩
    cases hgs : orG L g s with
    | inl p =>
      rw [hgs] at hO hQ
      have f2 : RfG M2 m p := hO.2
      exact ⟨fun z => absurd (f2.1.2.2.2.symm.trans z) (by decide), fun _ => hQ M2 a' g2 e2 hO⟩
    | inr bs =>
      obtain ⟨a, s1⟩ := bs
      rw [hgs] at hO hQ
      simp only at hQ
      obtain ⟨o1, o2, o3⟩ := hO
      obtain ⟨⟨w1, w2, w3, w4, w5, w6⟩, v1, v2, v3, v4⟩ := orG_pg hg s a s1 hGd hgs
      have hle := gd_le _ w1
      by_cases cb : kdT (q_l s1) = 1
      · have f2 := o2.2 cb
        rw [if_neg (by omega)] at hQ
        exact ⟨fun z => absurd (f2.1.2.2.2.symm.trans z) (by decide), fun _ => hQ M2 a' g2 e2 ⟨o1, o2, o3⟩⟩
      have hI2 := o2.1 cb
      have kt : x_i M2 m 39 = 9 ↔ kdT (q_l s1) = 10 := hI2.tk (j := 10) (by omega) (by omega) (by omega)
      refine ⟨fun q => ?_, fun q => ?_⟩
      rotate_left
      · rw [if_neg (fun z => q (kt.mpr z))] at hQ
        exact hQ M2 a' g2 e2 ⟨o1, o2, o3⟩
      have hk := kt.mp q
      rw [if_pos hk] at hQ
      have haa := o3 cb
      subst haa
      have e41 : x_i M2 m 41 = nI (plT L (q_l s1)) := hI2.1.1.1
      obtain ⟨t1, t2, t3, -⟩ := gd_tail w1 (show kdT (q_l s1) ≠ 0 by omega)
      rw [hk] at t2
      have k10 : lnK 10 = 2 := rfl
      rw [e41, show d + (x + 8) + f = (d + (x + 4) + f) + 4 by omega]
      refine ur_nextS (d + (x + 4) + f) hE2 hI2 (by omega) (fun M7 g7 hX7 => ⟨rfl, ?_⟩)
      have g7' := g2.tr (g7.wk (F' := [38, 39, 40, 41, 42, 45, 46]) (A' := []) (F := FRr) (A := ARr) (by decide) (by decide)) (fun _ h => h) (fun _ h => h)
      have hE7 := hE.fr g7'
      have f7 : x_i M7 m 43 = x_i M m 43 := (g7.fm (by decide)).trans e2
      rw [show d + (x + 4) + f + 4 = d + (x + 8) + f by omega]
      refine ih d M7 (tlS s1) _ (by show (q_l s1).tail.length < f; omega) hE7 hX7 (by rw [f7]; exact h43) t1 (by show 2 * q_c s1 ≤ plT L (q_l s1).tail; omega) (fun M9 b' g9 e9 hO9 => ⟨_, rfl, ?_⟩)
      have g9' := g7'.tr g9 (fun _ h => h) (fun _ h => h)
      have hE9 := hE.fr g9'
      have f9 : x_i M9 m 43 = x_i M m 43 := e9.trans f7
      rw [show d + (x + 8) + f = (d + (x + 7) + f) + 1 by omega]
      have stop : ∀ p, RfG M9 m p → b' < 130 → (∀ M' b, FrM M M' m FRr ARr → x_i M' m 43 = x_i M m 43 → b < 130 → RfG M' m p → Q (some (.int (nI b))) M') → (x_h M9 m).1 = 28 ∧ Call G (d + (x + 7) + f + 1) 0 0 mX12_ended [.ref m, .int 5, .int (nI a'), .int (nI b'), .int 0, .int (nI (plT L (q_l s1)))] M9 (fun r12 M13 => ∃ v14 : Int32, r12 = some (.int v14) ∧ (x_h M13 m).1 = 28 ∧ (∃ b16, x_r M13 m 53 = some b16 ∧ (x_h M13 b16).1 = 1 ∧ vp_in (nI a') (x_h M13 b16).2 ∧ vp_in (nI b') (x_h M13 b16).2 ∧ vp_in v14 (x_h M13 b16).2 ∧ (∀ M21, M21 = x_si M13 b16 v14.toNatClampNeg ((x_i M13 b16 (nI a').toNatClampNeg) ||| (x_i M13 b16 (nI b').toNatClampNeg)) → Q (some (.int v14)) M21))) := by
        intro p f6 hb' hq
        obtain ⟨hF, c, hc, h47⟩ := f6
        refine ⟨hE9.1.1.1, ur_ended (d + (x + 7) + f) hE9.1.1 hc h47 (fun M10 g10 e47 e30 e31 e32 e33 e34 eo => ⟨_, rfl, ?_⟩)⟩
        have s10 := g10.S hE9.1.1
        refine ⟨s10.1, m + 35, s10.r35, by rw [s10.h35], by rw [s10.h35]; exact vp (by omega), by rw [s10.h35]; exact vp hb', by rw [s10.h35]; exact vp (by omega), ?_⟩
        rintro M18 rfl
        rw [show (nI c).toNatClampNeg = c from nI_clamp (by omega)]
        have f18 := RfG.ended (v := x_i M10 (m + 35) (nI a').toNatClampNeg ||| x_i M10 (m + 35) (nI b').toNatClampNeg) hF g10 hc e47
        have g18 : FrM M10 (x_si M10 (m + 35) c (x_i M10 (m + 35) (nI a').toNatClampNeg ||| x_i M10 (m + 35) (nI b').toNatClampNeg)) m [] [35] := FrM.rf.si (by omega) (by decide)
        refine hq _ c ((g9'.tr g10 (by decide) (by decide)).tr g18 (by decide) (by decide)) ?_ (by omega) f18
        rw [g18.fm (by decide), g10.fm (by decide)]; exact f9
      cases hgr : soG L g f (tlS s1) with
      | inl p =>
        rw [hgr] at hO9 hQ
        exact stop p hO9.2 hO9.1 (fun M' b gg e hb hf => hQ M' b gg e ⟨hb, hf⟩)
      | inr bs =>
        obtain ⟨b, s2⟩ := bs
        rw [hgr] at hO9 hQ
        obtain ⟨p1, p2, p3⟩ := hO9
        obtain ⟨⟨⟨x1, x2, x3, x4, x5, x6⟩, y1, y2, y3, y4⟩, y5⟩ := soG_pg hg f (tlS s1) b s2 t1 hgr
        have e4 : q_l (tlS s1) = (q_l s1).tail := rfl
        have e5 : q_c (tlS s1) = q_c s1 := rfl
        simp only [e4, e5] at x2 x3 x4 x5 y1 y2 y3
        have hle2 := gd_le _ x1
        have hc2 : q_c s2 < 60 := by omega
        by_cases cb2 : kdT (q_l s2) = 1
        · exact stop (plT L (q_l s2)) (p2.2 cb2) p1 (fun M' b2 gg e hb hf => hQ M' b2 gg e ⟨hb, ⟨fun z => absurd cb2 z, fun _ => hf⟩, fun z => absurd cb2 z⟩)
        · have hI9 := p2.1 cb2
          have hbb := p3 cb2
          subst hbb
          have h47 : x_i M9 m 47 = nI (q_c s2) := hI9.1.2.2.2.2.2.2.2.2
          refine ⟨hE9.1.1.1, ur_ended (d + (x + 7) + f) hE9.1.1 (by omega) h47 (fun M10 g10 e47 e30 e31 e32 e33 e34 eo => ⟨_, rfl, ?_⟩)⟩
          have s10 := g10.S hE9.1.1
          refine ⟨s10.1, m + 35, s10.r35, by rw [s10.h35], by rw [s10.h35]; exact vp (by omega), by rw [s10.h35]; exact vp (by omega), by rw [s10.h35]; exact vp (by omega), ?_⟩
          rintro M18 rfl
          have ef : ∀ j, j < q_c s2 → x_i M10 (m + 35) j = nI (p_s (q_D s2 j)) := fun j hj => by rw [g10.i (by omega) (by decide)]; exact hI9.free hj
          rw [show (nI (q_c s2)).toNatClampNeg = q_c s2 from nI_clamp (by omega), show (nI a').toNatClampNeg = a' from nI_clamp (by omega), show (nI b').toNatClampNeg = b' from nI_clamp (by omega), ef a' (by omega), ef b' y4, nI_or]
          have h256 := or_256 (hI9.2.1.2.1 a' (by omega)) (hI9.2.1.2.1 b' y4)
          have hJ : RfI (x_si M10 (m + 35) (q_c s2) (nI (p_s (q_D s2 a') ||| p_s (q_D s2 b')))) m L t (jnP 5 (plT L (q_l s1)) a' b' s2) :=
            RfI.ended (P := (5, plT L (q_l s1), a', b', 0, p_s (q_D s2 a') ||| p_s (q_D s2 b'), s0D, s0D)) hI9 hc2 g10 e47 e30 e31 (fun _ => e32) (fun z => absurd z (by show ¬ (5 = 6 ∨ 5 = 7); omega)) e34 eo (by show 2 ≤ 5; omega) (by show a' < q_c s2; omega) h256
          have g18 : FrM M10 (x_si M10 (m + 35) (q_c s2) (nI (p_s (q_D s2 a') ||| p_s (q_D s2 b')))) m [] [35] := FrM.rf.si (by omega) (by decide)
          refine hQ _ (q_c s2) ((g9'.tr g10 (by decide) (by decide)).tr g18 (by decide) (by decide)) (by rw [g18.fm (by decide), g10.fm (by decide)]; exact f9) ⟨by omega, ⟨fun _ => hJ, fun z => absurd z cb2⟩, fun _ => rfl⟩
theorem p1m1 {k : Nat} : (nI k + 1 - 1 : Int32) = nI k := by rw [nI_1]; exact pk_sub (b := 1) (by omega)
/-- behind a fault a NOT leaves all as it is -/
theorem ur_not13G (d : Nat) (hs : ReS M m) {p k : Nat} (hG : RfG M m p) (h43 : x_i M m 43 = nI k) (hQ : ∀ M' a, FrM M M' m FRr ARr → x_i M' m 43 = x_i M m 43 → a < 130 → RfG M' m p → Q (some (.int (nI a))) M') : LX12_not_13 G (d + 5) 0 0 m M Q := by
  refine vX12_not_13 _ ⟨hs.1, ?_⟩
  rintro M2 rfl
  have g2 : FrM M (x_si M m 43 (x_i M m 43 + 1)) m [43] [] := FrM.rf.sm (by decide)
  have hG2 : RfG (x_si M m 43 (x_i M m 43 + 1)) m p := hG.fr g2 (by decide) (by decide) (by decide) (by decide) (by decide)
  have e43 : x_i (x_si M m 43 (x_i M m 43 + 1)) m 43 = nI k + 1 := by rw [xi_eq, h43]
  generalize x_si M m 43 (x_i M m 43 + 1) = M2 at g2 hG2 e43 ⊢
  have s2 := g2.S hs
  have t0 := hG2.1.2.2.2
  refine ⟨fun _ => ⟨fun z => absurd (t0.symm.trans z) (by decide), fun _ => ⟨fun _ => ur_isSignG (d + 4) s2.1 hG2 ⟨0, rfl, fun _ => ⟨s2.1, ur_atomG d s2 hG2 (fun M12 a g12 ha f12 => ⟨_, rfl, (g12.S s2).1, ?_⟩)⟩, fun z => absurd rfl z⟩, fun z => absurd (t0.symm.trans z) (by decide)⟩⟩, fun z => absurd (t0.symm.trans z) (by decide)⟩
  rintro M15 rfl
  have g15 : FrM M12 (x_si M12 m 43 (x_i M12 m 43 - 1)) m [43] [] := FrM.rf.sm (by decide)
  refine hQ _ a ((g2.wk (by decide) (by decide)).tr ((g12.wk (F := FRr) (A := ARr) (by decide) (by decide)).tr g15 (by decide) (by decide)) (fun _ h => h) (fun _ h => h)) ?_ ha (f12.fr g15 (by decide) (by decide) (by decide) (by decide) (by decide))
  rw [xi_eq, g12.fm (by decide), e43, p1m1, h43]
theorem bor_had : ∀ b, b < 256 → ∀ n, n < 8 → (bt b n = 1 → b ||| 2 ^ n = b) ∧ (¬ bt b n = 1 → clr (b ||| 2 ^ n) n = b) ∧ b ||| 2 ^ n < 256 := by decide +kernel
theorem ur_boundedX {n x : Nat} {sub : PSt → PRt} (hg : SgP L sub) (h : ∀ d, ReC G m L rc t wd n mX12_not (d + (x + 5)) sub) (hn : n < 10) (d : Nat) (hE : RfE M m L rc t wd) {s : PSt} {w : Nat} (hI : RfI M m L t s) (h43 : x_i M m 43 = nI (10 - n)) (hpl : 2 * q_c s ≤ plT L (q_l s)) (hk : kdT (q_l s) = 5 ∨ kdT (q_l s) = 6) (hw : w = kdT (q_l s) + 1)
    (hQ : ∀ M' a, FrM M M' m FRr ARr → x_i M' m 43 = x_i M m 43 → RfO M' m L t a (bnP L sub s) → Q (some (.int (nI a))) M') :
    Call G (d + (x + 6)) 0 0 mX12_bounded [.ref m, .int (nI w), .int (nI (plT L (q_l s)))] M Q := by
  have hGd : GdT L (q_l s) := hI.1.2.2.1
  have hL := hE.1.2.2.1
  obtain ⟨t1, t2, t3, -⟩ := gd_tail hGd (show kdT (q_l s) ≠ 0 by omega)
  have k5 : 2 ≤ lnK (kdT (q_l s)) := by rcases hk with c | c <;> rw [c] <;> decide
  have hpl1 := gd_le _ t1
  have vp : ∀ {y : Nat}, y < 130 → vp_in (nI y) 130 := fun hy => vp_in_nI hy (by omega)
  refine eX12_bounded m _ _ ⟨hE.1.1.1, ur_nextS (d + (x + 1)) hE hI (by omega) (fun M3 g3 hX3 => ⟨rfl, ?_⟩)⟩
  have g3' : FrM M M3 m FRr ARr := g3.wk (by decide) (by decide)
  have hE3 := hE.fr g3'
  have f3 : x_i M3 m 43 = x_i M m 43 := g3.fm (by decide)
  have no3 : kdT (q_l s).tail ≠ 3 → bnP L sub s = .inl (plT L (q_l s).tail) := fun z => by unfold bnP; rw [if_neg z]
  refine ⟨hE3.1.1.1, ?_⟩
  by_cases cb : kdT (q_l s).tail = 1
  · have f := hX3.2 cb
    refine ⟨fun z => absurd (f.1.2.2.2.symm.trans z) (by decide), fun _ => ur_cannotG (d + (x + 4)) hE3.1.1.1 f (fun M14 g14 f14 => ⟨rfl, ?_⟩)⟩
    have := hQ M14 0 (g3'.tr g14 (by decide) (by decide)) (by rw [g14.fm (by decide)]; exact f3)
    rw [no3 (by omega)] at this
    exact this ⟨by omega, f14⟩
  have hI3 : RfI M3 m L t (tlS s) := hX3.1 cb
  have kt : x_i M3 m 39 = 2 ↔ kdT (q_l s).tail = 3 := hI3.tk (j := 3) (by omega) (by omega) (by omega)
  refine ⟨fun c3 => ?_, fun c3 => ?_⟩
  rotate_left
  · refine ur_cannotS (d + (x + 4)) hE3 hI3 (fun M14 g14 f14 => ⟨rfl, ?_⟩)
    have := hQ M14 0 (g3'.tr g14 (by decide) (by decide)) (by rw [g14.fm (by decide)]; exact f3)
    rw [no3 (fun z => c3 (kt.mpr z))] at this
    exact this ⟨by omega, f14⟩
  have c3' := kt.mp c3
  obtain ⟨u1, u2, u3, u4⟩ := gd_tail t1 (show kdT (q_l s).tail ≠ 0 by omega)
  have hn8 : woT (q_l s).tail < 8 := u4.2.2.2.1 c3'
  have e40 : x_i M3 m 40 = nI (woT (q_l s).tail) := hI3.1.1.2.2.1 (Or.inr (Or.inl c3'))
  have e41 : x_i M3 m 41 = nI (plT L (q_l s).tail) := hI3.1.1.1
  have hb256 : q_b s < 256 := hI.2.1.2.2.1
  have e44 : x_i M3 m 44 = nI (q_b s) := hI3.1.2.2.2.2.2.1
  obtain ⟨bb1, bb2, bb3⟩ := bor_had (q_b s) hb256 _ hn8
  have eu : bnP L sub s = (match sub (bdS L s) with | .inl p => .inl p | .inr (a, s1) => .inr (q_c s1, enP (q_l s1, q_c s1, q_D s1, q_o s1, q_b s, q_m s1) (kdT (q_l s) + 1, plT L (q_l s), a, 0, 0, clr (p_s (q_D s1 a)) (woT (q_l s).tail), s0D, s0D))) := by
    unfold bnP
    rw [if_pos c3']
    rfl
  rw [eu] at hQ
  have main : ∀ M5 o' x4, (if bt (q_b s) (woT (q_l s).tail) = 1 then blO (q_o s) (plT L (q_l s).tail) else q_o s) = o' → x4 = (if bt (q_b s) (woT (q_l s).tail) = 1 then (1 : Int32) else 0) → FrM M M5 m FRr ARr → x_i M5 m 43 = x_i M m 43 → RfI M5 m L t (stO (tlS s) o') → LX12_bounded_55 G (d + (x + 5)) 0 0 m (nI w) (nI (plT L (q_l s))) (nI (woT (q_l s).tail)) x4 M5 Q := by
    intro M5 o' x4 eo ex4 g5 f5 hI5
    have hE5 := hE.fr g5
    have i44 : x_i M5 m 44 = nI (q_b s) := hI5.1.2.2.2.2.2.1
    refine vX12_bounded_55 _ _ _ _ _ ⟨hE5.1.1.1, ?_⟩
    rintro M2 rfl
    have eb : x_i M5 m 44 ||| ((1 : Int32) <<< (nI (woT (q_l s).tail) &&& 31)) = nI (q_b s ||| 2 ^ woT (q_l s).tail) := by rw [i44, sl_1 (by omega), nI_or]
    rw [eb]
    have g2 : FrM M5 (x_si M5 m 44 (nI (q_b s ||| 2 ^ woT (q_l s).tail))) m [44] [] := FrM.rf.sm (by decide)
    have hI2 : RfI (x_si M5 m 44 (nI (q_b s ||| 2 ^ woT (q_l s).tail))) m L t ((q_l s).tail, q_c s, q_D s, o', q_b s ||| 2 ^ woT (q_l s).tail, q_m s) := by
      obtain ⟨⟨h1, h2, h3, h4, h5, h6, h7, h8, h9⟩, ⟨b1, b2, b3, b4⟩, hP⟩ := hI5
      refine ⟨⟨?_, h2, h3, by rw [g2.fm (by decide)]; exact h4, by rw [g2.fm (by decide)]; exact h5, xi_eq, by rw [g2.fm (by decide)]; exact h7, by rw [g2.fm (by decide)]; exact h8, by rw [g2.fm (by decide)]; exact h9⟩, ⟨b1, b2, bb3, b4⟩, fun j hj => ⟨(hP j hj).1.fr g2 (by decide), (hP j hj).2⟩⟩
      unfold RtkI
      rw [g2.fm (by decide), g2.fm (by decide), g2.fm (by decide)]
      exact h1
    have g2' : FrM M (x_si M5 m 44 (nI (q_b s ||| 2 ^ woT (q_l s).tail))) m FRr ARr := g5.tr g2 (by decide) (by decide)
    have f2 : x_i (x_si M5 m 44 (nI (q_b s ||| 2 ^ woT (q_l s).tail))) m 43 = x_i M m 43 := by rw [xi_nk (by omega)]; exact f5
    generalize x_si M5 m 44 (nI (q_b s ||| 2 ^ woT (q_l s).tail)) = M2 at g2' hI2 f2 ⊢
    have hE2 := hE.fr g2'
    refine ur_nextS (d + (x + 1)) hE2 hI2 (show kdT (q_l s).tail ≠ 0 by omega) (fun M4 g4 hX4 => ⟨rfl, ?_⟩)
    have g4' := g2'.tr (g4.wk (F' := [38, 39, 40, 41, 42, 45, 46]) (A' := []) (F := FRr) (A := ARr) (by decide) (by decide)) (fun _ h => h) (fun _ h => h)
    have hE4 := hE.fr g4'
    have f4 : x_i M4 m 43 = x_i M m 43 := (g4.fm (by decide)).trans f2
    have ebd : ((q_l s).tail.tail, q_c s, q_D s, o', q_b s ||| 2 ^ woT (q_l s).tail, q_m s) = bdS L s := by unfold bdS; rw [eo]
    have hX4' : RfX M4 m L t (bdS L s) := by rw [← ebd]; exact hX4
    have kl := ln_pos (kdT (q_l s).tail)
    refine h d M4 (bdS L s) _ hE4 hX4' (by rw [f4]; exact h43) u1 (by show 2 * q_c s ≤ plT L (q_l s).tail.tail; omega) (fun M6 a' g6 e6 hO => ⟨_, rfl, ?_⟩)
    have g6' := g4'.tr g6 (fun _ h => h) (fun _ h => h)
    have hE6 := hE.fr g6'
    have f6 : x_i M6 m 43 = x_i M m 43 := e6.trans f4
    -- behind a fault
    have stop : ∀ p M20, FrM M M20 m FRr ARr → x_i M20 m 43 = x_i M m 43 → RfG M20 m p → a' < 130 → (∀ M' b, FrM M M' m FRr ARr → x_i M' m 43 = x_i M m 43 → b < 130 → RfG M' m p → Q (some (.int (nI b))) M') → Call G (d + (x + 5)) 0 0 mX12_ended [.ref m, .int (nI w), .int (nI a'), .int 0, .int (nI (woT (q_l s).tail)), .int (nI (plT L (q_l s)))] M20 (fun r10 M11 => ∃ v12 : Int32, r10 = some (.int v12) ∧ (x_h M11 m).1 = 28 ∧ (∃ b14, x_r M11 m 53 = some b14 ∧ (x_h M11 b14).1 = 1 ∧ vp_in (nI a') (x_h M11 b14).2 ∧ vp_in v12 (x_h M11 b14).2 ∧ (∀ M18, M18 = x_si M11 b14 v12.toNatClampNeg ((x_i M11 b14 (nI a').toNatClampNeg) &&& ((1 <<< (nI (woT (q_l s).tail) &&& 31)) ^^^ (-1))) → Q (some (.int v12)) M18))) := by
      intro p M20 g20 f20 fG ha' hq
      obtain ⟨hF, c, hc, h47⟩ := fG
      have s20 := g20.S hE.1.1
      refine ur_ended (d + (x + 4)) s20 hc h47 (fun M10 g10 e47 e30 e31 e32 e33 e34 eo => ⟨_, rfl, ?_⟩)
      have s10 := g10.S s20
      refine ⟨s10.1, m + 35, s10.r35, by rw [s10.h35], by rw [s10.h35]; exact vp ha', by rw [s10.h35]; exact vp (by omega), ?_⟩
      rintro M18 rfl
      rw [show (nI c).toNatClampNeg = c from nI_clamp (by omega)]
      have f18 := RfG.ended (v := x_i M10 (m + 35) (nI a').toNatClampNeg &&& ((1 <<< (nI (woT (q_l s).tail) &&& 31)) ^^^ (-1))) hF g10 hc e47
      have g18 : FrM M10 (x_si M10 (m + 35) c (x_i M10 (m + 35) (nI a').toNatClampNeg &&& ((1 <<< (nI (woT (q_l s).tail) &&& 31)) ^^^ (-1)))) m [] [35] := FrM.rf.si (by omega) (by decide)
      refine hq _ c ((g20.tr g10 (by decide) (by decide)).tr g18 (by decide) (by decide)) ?_ (by omega) f18
      rw [g18.fm (by decide), g10.fm (by decide)]; exact f20
    have good : ∀ a s1 M20, sub (bdS L s) = .inr (a, s1) → FrM M M20 m FRr ARr → x_i M20 m 43 = x_i M m 43 → a' = a → RfI M20 m L t (q_l s1, q_c s1, q_D s1, q_o s1, q_b s, q_m s1) → Call G (d + (x + 5)) 0 0 mX12_ended [.ref m, .int (nI w), .int (nI a'), .int 0, .int (nI (woT (q_l s).tail)), .int (nI (plT L (q_l s)))] M20 (fun r10 M11 => ∃ v12 : Int32, r10 = some (.int v12) ∧ (x_h M11 m).1 = 28 ∧ (∃ b14, x_r M11 m 53 = some b14 ∧ (x_h M11 b14).1 = 1 ∧ vp_in (nI a') (x_h M11 b14).2 ∧ vp_in v12 (x_h M11 b14).2 ∧ (∀ M18, M18 = x_si M11 b14 v12.toNatClampNeg ((x_i M11 b14 (nI a').toNatClampNeg) &&& ((1 <<< (nI (woT (q_l s).tail) &&& 31)) ^^^ (-1))) → Q (some (.int v12)) M18))) := by
      intro a s1 M20 hgs g20 f20 haa hI20
      subst haa
      rw [hgs] at hQ
      obtain ⟨⟨w1, w2, w3, w4, w5, w6⟩, v1, v2, v3, v4⟩ := hg (bdS L s) a' s1 u1 hgs
      have e4 : q_l (bdS L s) = (q_l s).tail.tail := rfl
      have e5 : q_c (bdS L s) = q_c s := rfl
      simp only [e4, e5] at w2 w3 w4 w5 v1 v2 v3
      have hle1 := gd_le _ w1
      have hc1 : q_c s1 < 60 := by omega
      have s20 := g20.S hE.1.1
      have h47 : x_i M20 m 47 = nI (q_c s1) := hI20.1.2.2.2.2.2.2.2.2
      refine ur_ended (d + (x + 4)) s20 (by omega) h47 (fun M10 g10 e47 e30 e31 e32 e33 e34 eo => ⟨_, rfl, ?_⟩)
      have s10 := g10.S s20
      refine ⟨s10.1, m + 35, s10.r35, by rw [s10.h35], by rw [s10.h35]; exact vp (by omega), by rw [s10.h35]; exact vp (by omega), ?_⟩
      rintro M18 rfl
      have hpa : p_s (q_D s1 a') < 256 := hI20.2.1.2.1 a' v4
      have ef : x_i M10 (m + 35) a' = nI (p_s (q_D s1 a')) := by rw [g10.i (by omega) (by decide)]; exact hI20.free v4
      obtain ⟨cI1, cI2⟩ := clr_I _ hpa _ hn8
      rw [show (nI (q_c s1)).toNatClampNeg = q_c s1 from nI_clamp (by omega), show (nI a').toNatClampNeg = a' from nI_clamp (by omega), ef, cI1]
      have hJ := RfI.ended (s := (q_l s1, q_c s1, q_D s1, q_o s1, q_b s, q_m s1)) (P := (kdT (q_l s) + 1, plT L (q_l s), a', 0, 0, clr (p_s (q_D s1 a')) (woT (q_l s).tail), s0D, s0D)) hI20 hc1 g10 e47 (by rw [hw] at e30; exact e30) e31 (fun z => by have z2 : kdT (q_l s) + 1 ≤ 5 := z.2; omega) (fun _ => ⟨_, hn8, e33, rfl⟩) e34 eo (by show 2 ≤ kdT (q_l s) + 1; omega) v4 cI2
      have g18 : FrM M10 (x_si M10 (m + 35) (q_c s1) (nI (clr (p_s (q_D s1 a')) (woT (q_l s).tail)))) m [] [35] := FrM.rf.si (by omega) (by decide)
      refine hQ _ (q_c s1) ((g20.tr g10 (by decide) (by decide)).tr g18 (by decide) (by decide)) (by rw [g18.fm (by decide), g10.fm (by decide)]; exact f20) ⟨by omega, ⟨fun _ => hJ, fun z => ?_⟩, fun _ => rfl⟩
      exact absurd z hI20.1.2.1
    -- the state behind the sub, with the names as they were
    have back : ∀ M20, FrM M6 M20 m [44] [] → (∀ a s1, sub (bdS L s) = .inr (a, s1) → kdT (q_l s1) ≠ 1 → x_i M20 m 44 = nI (q_b s)) → Call G (d + (x + 5)) 0 0 mX12_ended [.ref m, .int (nI w), .int (nI a'), .int 0, .int (nI (woT (q_l s).tail)), .int (nI (plT L (q_l s)))] M20 (fun r10 M11 => ∃ v12 : Int32, r10 = some (.int v12) ∧ (x_h M11 m).1 = 28 ∧ (∃ b14, x_r M11 m 53 = some b14 ∧ (x_h M11 b14).1 = 1 ∧ vp_in (nI a') (x_h M11 b14).2 ∧ vp_in v12 (x_h M11 b14).2 ∧ (∀ M18, M18 = x_si M11 b14 v12.toNatClampNeg ((x_i M11 b14 (nI a').toNatClampNeg) &&& ((1 <<< (nI (woT (q_l s).tail) &&& 31)) ^^^ (-1))) → Q (some (.int v12)) M18))) := by
      intro M20 g20 h44
      have g20' : FrM M M20 m FRr ARr := g6'.tr g20 (by decide) (by decide)
      have f20 : x_i M20 m 43 = x_i M m 43 := (g20.fm (by decide)).trans f6
      cases hgs : sub (bdS L s) with
      | inl p =>
        rw [hgs] at hO hQ
        have fG : RfG M6 m p := hO.2
        exact stop p M20 g20' f20 (fG.fr g20 (by decide) (by decide) (by decide) (by decide) (by decide)) hO.1 (fun M' b gg e hb hf => hQ M' b gg e ⟨hb, hf⟩)
      | inr bs =>
        obtain ⟨a, s1⟩ := bs
        rw [hgs] at hO
        obtain ⟨o1, o2, o3⟩ := hO
        by_cases cb1 : kdT (q_l s1) = 1
        · have fG := o2.2 cb1
          rw [hgs] at hQ
          exact stop (plT L (q_l s1)) M20 g20' f20 (fG.fr g20 (by decide) (by decide) (by decide) (by decide) (by decide)) o1 (fun M' b gg e hb hf => hQ M' b gg e ⟨hb, ⟨fun z => absurd cb1 z, fun _ => hf⟩, fun z => absurd cb1 z⟩)
        · have hI6 := o2.1 cb1
          refine good a s1 M20 hgs g20' f20 (o3 cb1) ?_
          obtain ⟨⟨h1, h2, h3, h4, h5, h6, h7, h8, h9⟩, ⟨b1, b2, b3, b4⟩, hP⟩ := hI6
          refine ⟨⟨?_, h2, h3, by rw [g20.fm (by decide)]; exact h4, by rw [g20.fm (by decide)]; exact h5, h44 a s1 hgs cb1, by rw [g20.fm (by decide)]; exact h7, by rw [g20.fm (by decide)]; exact h8, by rw [g20.fm (by decide)]; exact h9⟩, ⟨b1, b2, hb256, b4⟩, fun j hj => ⟨(hP j hj).1.fr g20 (by decide), (hP j hj).2⟩⟩
          unfold RtkI
          rw [g20.fm (by decide), g20.fm (by decide), g20.fm (by decide)]
          exact h1
    have e44s : ∀ a s1, sub (bdS L s) = .inr (a, s1) → kdT (q_l s1) ≠ 1 → x_i M6 m 44 = nI (q_b s ||| 2 ^ woT (q_l s).tail) := by
      intro a s1 hgs cb1
      rw [hgs] at hO
      obtain ⟨o1, o2, o3⟩ := hO
      have hI6 := o2.1 cb1
      obtain ⟨⟨w1, w2, w3, w4, w5, w6⟩, v1, v2, v3, v4⟩ := hg (bdS L s) a s1 u1 hgs
      have i6 : x_i M6 m 44 = nI (q_b s1) := hI6.1.2.2.2.2.2.1
      rw [i6, w6]
      rfl
    by_cases had : bt (q_b s) (woT (q_l s).tail) = 1
    · rw [if_pos had] at ex4
      rw [ex4]
      exact ⟨fun _ => ⟨hE6.1.1.1, back M6 FrM.rf (fun a s1 hgs cb1 => by rw [e44s a s1 hgs cb1, bb1 had])⟩, fun z => absurd z (by decide)⟩
    · rw [if_neg had] at ex4
      rw [ex4]
      refine ⟨fun z => absurd rfl z, fun _ => ⟨hE6.1.1.1, ?_⟩⟩
      rintro M20 rfl
      refine back _ (FrM.rf.sm (by decide)) (fun a s1 hgs cb1 => ?_)
      rw [xi_eq, e44s a s1 hgs cb1, (clr_I _ bb3 _ hn8).1, bb2 had]
  have hbt : (((x_i M3 m 44) >>> ((x_i M3 m 40) &&& 31)) &&& 1) = nI (bt (q_b s) (woT (q_l s).tail)) := by
    rw [e44, e40, sb (by omega) (by omega)]
  rw [hbt, sb1, e40, e41]
  refine ⟨fun had => ⟨fun _ => main M3 (q_o s) 0 (if_neg had) (by rw [if_neg had]) g3' f3 hI3, fun z => absurd rfl z⟩, fun had => ⟨fun z => absurd z (by decide), fun _ => ur_notesS (d + (x + 4)) hE3 hI3 (by omega) (fun M12 g12 h12 => ⟨rfl, main M12 _ 1 (if_pos had) (by rw [if_pos had]) (g3'.tr g12 (by decide) (by decide)) ((g12.fm (by decide)).trans f3) h12⟩)⟩⟩
end RNotC
