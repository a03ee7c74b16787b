/-! ===== the reference: a NOT; a text is read ===== -/
section RReadC
variable {G : GG} {M : Mem} {m L rc : Nat} {t wd : Nat → Nat} {Q : Option Value → Mem → Prop}
theorem RfO.f43 {a : Nat} {res : PRt} {v : Int32} (h : RfO M m L t a res) : RfO (x_si M m 43 v) m L t a res := by
  have g : FrM M (x_si M m 43 v) m [43] [] := FrM.rf.sm (by decide)
  cases res with
  | inl p => exact ⟨h.1, h.2.fr g (by decide) (by decide) (by decide) (by decide) (by decide)⟩
  | inr bs =>
    obtain ⟨b, s⟩ := bs
    obtain ⟨h1, h2, h3⟩ := h
    exact ⟨h1, h2.fr g (by decide) (by decide), h3⟩
theorem pc_bad {n : Nat} {s : PSt} (h : kdT (q_l s) = 1) : pcP L rc wd n s = .inl (plT L (q_l s)) := by
  cases n with
  | zero => rfl
  | succ n =>
    show pcS L rc wd _ s = _
    unfold pcS
    rw [if_neg (by omega), if_neg (by omega), if_neg (by omega), if_neg (by omega), if_neg (by omega)]
theorem ur_not0 (d : Nat) : ReC G m L rc t wd 0 mX12_not (d + 20) (pcP L rc wd 0) := by
  intro M s Q hE hX h43 hGd hpl hQ
  have e : pcP L rc wd 0 s = .inl (plT L (q_l s)) := rfl
  rw [e] at hQ
  have go : ∀ M4, FrM M M4 m [39, 42, 45, 46] [] → RfG M4 m (plT L (q_l s)) → LX12_not_13 G (d + 19) 0 0 m M4 Q := fun M4 g4 f4 =>
    ur_not13G (d + 14) (g4.S hE.1.1) f4 (k := 10) (by rw [g4.fm (by decide)]; exact h43) (fun M' a g e2 ha f => hQ M' a ((g4.wk (by decide) (by decide)).tr g (fun _ h => h) (fun _ h => h)) (e2.trans (g4.fm (by decide))) ⟨ha, f⟩)
  refine eX12_not m ⟨hE.1.1.1, fun c => absurd h43 c, fun _ => ?_⟩
  by_cases cb : kdT (q_l s) = 1
  · exact ur_cannotG (d + 18) hE.1.1.1 (hX.2 cb) (fun M4 g4 f4 => ⟨rfl, go M4 g4 f4⟩)
  · exact ur_cannotS (d + 18) hE (hX.1 cb) (fun M4 g4 f4 => ⟨rfl, go M4 g4 f4⟩)
theorem ur_notS {n X : Nat} (hn : n < 10) (h : ∀ d, ReC G m L rc t wd n mX12_not (d + (X + 6)) (pcP L rc wd n)) (d : Nat) : ReC G m L rc t wd (n + 1) mX12_not (d + (X + 136)) (pcP L rc wd (n + 1)) := by
  intro M s Q hE hX h43 hGd hpl hQ
  have hg := pcP_pg (L := L) (rc := rc) (wd := wd) n
  have hL := hE.1.2.2.1
  have h10 : 10 - (n + 1) + 1 = 10 - n := by omega
  refine eX12_not m ⟨hE.1.1.1, fun _ => ?_, fun c => absurd (h43.symm.trans c) (by rw [show (10 : Int32) = nI 10 from rfl, nI_eq (by omega) (by omega)]; omega)⟩
  by_cases cb : kdT (q_l s) = 1
  · rw [pc_bad cb] at hQ
    exact ur_not13G (d + (X + 130)) hE.1.1 (hX.2 cb) h43 (fun M' a g e ha f => hQ M' a g e ⟨ha, f⟩)
  have hI := hX.1 cb
  have fo : ∀ d, ReC G m L rc t wd n mX12_or (d + (X + 8)) (orG L (pcP L rc wd n)) := ur_or (x := X + 1) (anG_pg hg) (ur_and (x := X) hg h (by omega)) (by omega)
  have hf := ur_f (x := X) hg fo (show n ≤ 10 by omega)
  refine vX12_not_13 _ ⟨hE.1.1.1, ?_⟩
  rintro M2 rfl
  have g2 : FrM M (x_si M m 43 (x_i M m 43 + 1)) m [43] [] := FrM.rf.sm (by decide)
  have hI2 : RfI (x_si M m 43 (x_i M m 43 + 1)) m L t s := hI.fr g2 (by decide) (by decide)
  have e43 : x_i (x_si M m 43 (x_i M m 43 + 1)) m 43 = nI (10 - n) := by rw [xi_eq, h43, nI_1, h10]
  generalize x_si M m 43 (x_i M m 43 + 1) = M2 at g2 hI2 e43 ⊢
  have g2' : FrM M M2 m FRr ARr := g2.wk (by decide) (by decide)
  have hE2 := hE.fr g2'
  have k7 : x_i M2 m 39 = 6 ↔ kdT (q_l s) = 7 := hI2.tk (j := 7) (by omega) (by omega) (by omega)
  have k5 : x_i M2 m 39 = 4 ↔ kdT (q_l s) = 5 := hI2.tk (j := 5) (by omega) (by omega) (by omega)
  have k6 : x_i M2 m 39 = 5 ↔ kdT (q_l s) = 6 := hI2.tk (j := 6) (by omega) (by omega) (by omega)
  have e41 : x_i M2 m 41 = nI (plT L (q_l s)) := hI2.1.1.1
  rw [e41]
  have e0 : pcP L rc wd (n + 1) s = pcS L rc wd (pcP L rc wd n) s := rfl
  -- the end: one NOT less
  have last : ∀ M3 a res, pcP L rc wd (n + 1) s = res → FrM M M3 m FRr ARr → x_i M3 m 43 = nI (10 - n) → RfO M3 m L t a res → ∀ M4, M4 = x_si M3 m 43 (x_i M3 m 43 - 1) → Q (some (.int (nI a))) M4 := by
    rintro M3 a res er g3 i43 hO M4 rfl
    rw [er] at hQ
    refine hQ _ a (g3.tr (F' := [43]) (A' := []) (FrM.rf.sm (by decide)) (by decide) (by decide)) ?_ hO.f43
    rw [xi_eq, i43, h43]
    rw [← h10, ← nI_1]
    exact p1m1
  have hc60 : kdT (q_l s) ≠ 0 → q_c s < 60 := fun c => by
    obtain ⟨t1, t2, -⟩ := gd_tail hGd c
    have := ln_pos (kdT (q_l s))
    have := gd_le _ t1
    omega
  have bnd : kdT (q_l s) = 5 ∨ kdT (q_l s) = 6 → LX12_not_89 G (d + (X + 135)) 0 0 m 0 (nI (plT L (q_l s))) M2 Q := by
    intro hk
    have call : ∀ w, w = kdT (q_l s) + 1 → Call G (d + (X + 135)) 0 0 mX12_bounded [.ref m, .int (nI w), .int (nI (plT L (q_l s)))] M2 (fun r3 M4 => ∃ v5 : Int32, r3 = some (.int v5) ∧ (x_h M4 m).1 = 28 ∧ (∀ M7, M7 = x_si M4 m 43 ((x_i M4 m 43) - 1) → Q (some (.int v5)) M7)) := by
      intro w hw
      have h' : ∀ d, ReC G m L rc t wd n mX12_not (d + (X + 1 + 5)) (pcP L rc wd n) := h
      refine cd_ (d' := d + 128 + (X + 1 + 6)) (show d + 128 + (X + 1 + 6) = d + (X + 135) by omega) (ur_boundedX hg h' hn (d + 128) hE2 hI2 e43 hpl hk hw (fun M' a g e hO => ⟨_, rfl, ((g2'.tr g (fun _ h => h) (fun _ h => h)).S hE.1.1).1, last M' a _ ?_ (g2'.tr g (fun _ h => h) (fun _ h => h)) (e.trans e43) hO⟩))
      rw [e0]
      unfold pcS bnP
      rw [if_neg (show ¬ kdT (q_l s) = 7 by omega), if_pos hk]
      rfl
    refine vX12_not_89 _ _ _ ⟨hE2.1.1.1, fun c => call 7 ?_, fun c => call 6 ?_⟩
    · have : ¬ kdT (q_l s) = 5 := fun z => c (k5.mpr z)
      omega
    · have := k5.mp c
      omega
  refine ⟨fun c7 => ⟨fun c5 => bnd (Or.inl (k5.mp c5)), fun c5 => ⟨fun c6 => ?_, fun c6 => bnd (Or.inr (k6.mp c6))⟩⟩, fun c7 => ?_⟩
  · have n7 : ¬ kdT (q_l s) = 7 := fun z => c7 (k7.mpr z)
    have n5 : ¬ kdT (q_l s) = 5 := fun z => c5 (k5.mpr z)
    have n6 : ¬ kdT (q_l s) = 6 := fun z => c6 (k6.mpr z)
    refine ur_isSign (k := 11) (d + (X + 134)) hE2 hI2 (by omega) (by omega) (fun c11 => ⟨1, rfl, fun z => absurd z (by decide), fun _ => ⟨hE2.1.1.1, ?_⟩⟩) (fun c11 => ⟨0, rfl, fun _ => ⟨hE2.1.1.1, ?_⟩, fun z => absurd rfl z⟩)
    · obtain ⟨t1, t2, t3, -⟩ := gd_tail hGd (show kdT (q_l s) ≠ 0 by omega)
      have hlen := gd_len _ t1
      refine ur_nextS (d + (X + 131)) hE2 hI2 (by omega) (fun M18 g18 hX18 => ⟨rfl, ?_⟩)
      have g18' : FrM M M18 m FRr ARr := g2'.tr g18 (by decide) (by decide)
      have hE18 := hE.fr g18'
      have i18 : x_i M18 m 43 = nI (10 - n) := (g18.fm (by decide)).trans e43
      have er : pcP L rc wd (n + 1) s = ecP L (pcP L rc wd n) s := by
        rw [e0]
        unfold pcS ecP
        rw [if_neg n7, if_neg (show ¬ (kdT (q_l s) = 5 ∨ kdT (q_l s) = 6) by omega), if_pos c11]
        rfl
      refine cd_ (d' := d + 5 + (X + 8) + 122) (show d + 5 + (X + 8) + 122 = d + (X + 135) by omega) (hf 122 (d + 5) M18 (tlS s) _ (by show (q_l s).tail.length < 122; omega) hE18 hX18 i18 t1 (by show 2 * q_c s ≤ plT L (q_l s).tail; omega) (fun M20 a g20 e20 hO => ⟨_, rfl, ?_⟩))
      have g20' := g18'.tr g20 (fun _ h => h) (fun _ h => h)
      have hE20 := hE.fr g20'
      have i20 : x_i M20 m 43 = nI (10 - n) := e20.trans i18
      refine ⟨hE20.1.1.1, ?_⟩
      unfold ecP at er
      cases hgs : soG L (pcP L rc wd n) 122 (tlS s) with
      | inl p =>
        rw [hgs] at hO er
        refine ur_needG (d + (X + 133)) hE20.1.1.1 hO.2 (fun M24 g24 f24 => ⟨rfl, ((g20'.tr g24 (by decide) (by decide)).S hE.1.1).1, last M24 a _ er (g20'.tr g24 (by decide) (by decide)) ((g24.fm (by decide)).trans i20) ⟨hO.1, f24⟩⟩)
      | inr bs =>
        obtain ⟨b, s1⟩ := bs
        rw [hgs] at hO er
        simp only at er
        obtain ⟨o1, o2, o3⟩ := hO
        refine ur_needX (k := 12) (d + (X + 130)) hE20 o2 (by omega) (by omega) (fun e M24 g24 f24 => ⟨rfl, ((g20'.tr g24 (by decide) (by decide)).S hE.1.1).1, ?_⟩) (fun e M24 g24 f24 => ⟨rfl, ((g20'.tr g24 (by decide) (by decide)).S hE.1.1).1, ?_⟩)
        · rw [if_pos e] at er
          exact last M24 a _ er (g20'.tr g24 (by decide) (by decide)) ((g24.fm (by decide)).trans i20) ⟨o1, f24, fun _ => o3 (by omega)⟩
        · rw [if_neg e] at er
          exact last M24 a _ er (g20'.tr g24 (by decide) (by decide)) ((g24.fm (by decide)).trans i20) ⟨o1, f24⟩
    · have n11 : ¬ kdT (q_l s) = 11 := c11
      by_cases c4 : kdT (q_l s) = 4
      · have er : pcP L rc wd (n + 1) s = raP L rc wd s := by
          rw [e0]
          unfold pcS
          rw [if_neg n7, if_neg (show ¬ (kdT (q_l s) = 5 ∨ kdT (q_l s) = 6) by omega), if_neg n11, if_pos c4]
        have kt : x_i M2 m 39 = 3 ↔ kdT (q_l s) = 4 := hI2.tk (j := 4) (by omega) (by omega) (by omega)
        refine eX12_atom m ⟨hE2.1.1.1, fun z => absurd (kt.mpr c4) z, fun _ => ur_lettersAtom (d + (X + 127)) hE2 hI2 c4 (hc60 (by omega)) (fun M' a g hO => ⟨_, rfl, _, rfl, ((g2'.tr g (by decide) (fun _ h => h)).S hE.1.1).1, last M' a _ er (g2'.tr g (by decide) (fun _ h => h)) ((g.fm (by decide)).trans e43) hO⟩)⟩
      · have er : pcP L rc wd (n + 1) s = saP L s := by
          rw [e0]
          unfold pcS
          rw [if_neg n7, if_neg (show ¬ (kdT (q_l s) = 5 ∨ kdT (q_l s) = 6) by omega), if_neg n11, if_neg c4]
          by_cases c2 : kdT (q_l s) = 2 ∨ kdT (q_l s) = 3
          · rw [if_pos c2]
          · rw [if_neg c2]
            have e2 : tS L 121 s0D (q_l s) (q_o s) = .inl (plT L (q_l s)) := by
              unfold tS tT
              rw [if_neg (fun y => c2 (Or.inl y)), if_neg (fun y => c2 (Or.inr y))]
            unfold saP
            rw [e2]
        exact ur_atomS (d + (X + 127)) hE2 hI2 c4 (fun z => hc60 (by omega)) (fun M' a g hO => ⟨_, rfl, ((g2'.tr g (by decide) (fun _ h => h)).S hE.1.1).1, last M' a _ er (g2'.tr g (by decide) (fun _ h => h)) ((g.fm (by decide)).trans e43) hO⟩)
  · have c7' := k7.mp c7
    obtain ⟨t1, t2, t3, -⟩ := gd_tail hGd (show kdT (q_l s) ≠ 0 by omega)
    rw [c7'] at t2
    have k7l : lnK 7 = 3 := rfl
    have er : pcP L rc wd (n + 1) s = ntP L (pcP L rc wd n) s := by
      rw [e0]
      unfold pcS ntP
      rw [if_pos c7']
      rfl
    refine ur_nextS (d + (X + 131)) hE2 hI2 (by omega) (fun M28 g28 hX28 => ⟨rfl, ?_⟩)
    have g28' : FrM M M28 m FRr ARr := g2'.tr g28 (by decide) (by decide)
    have hE28 := hE.fr g28'
    have i28 : x_i M28 m 43 = nI (10 - n) := (g28.fm (by decide)).trans e43
    refine cd_ (d' := d + 129 + (X + 6)) (show d + 129 + (X + 6) = d + (X + 135) by omega) (h (d + 129) M28 (tlS s) _ hE28 hX28 i28 t1 (by show 2 * q_c s ≤ plT L (q_l s).tail; omega) (fun M30 a g30 e30 hO => ⟨_, rfl, ?_⟩))
    have g30' := g28'.tr g30 (fun _ h => h) (fun _ h => h)
    have hE30 := hE.fr g30'
    have i30 : x_i M30 m 43 = nI (10 - n) := e30.trans i28
    have vp : ∀ {y : Nat}, y < 130 → vp_in (nI y) 130 := fun hy => vp_in_nI hy (by omega)
    refine ⟨hE30.1.1.1, ?_⟩
    unfold ntP at er
    have stop : ∀ p res, RfG M30 m p → a < 130 → pcP L rc wd (n + 1) s = res → (∀ M' b, b < 130 → RfG M' m p → RfO M' m L t b res) → Call G (d + (X + 135)) 0 0 mX12_ended [.ref m, .int 2, .int (nI a), .int 0, .int 0, .int (nI (plT L (q_l s)))] M30 (fun r33 M34 => ∃ v35 : Int32, r33 = some (.int v35) ∧ (x_h M34 m).1 = 28 ∧ (∃ b37, x_r M34 m 53 = some b37 ∧ (x_h M34 b37).1 = 1 ∧ vp_in (nI a) (x_h M34 b37).2 ∧ vp_in v35 (x_h M34 b37).2 ∧ (∀ M41, M41 = x_si M34 b37 v35.toNatClampNeg (x_i M34 b37 (nI a).toNatClampNeg) → ∀ M42, M42 = x_si M41 m 43 ((x_i M41 m 43) - 1) → Q (some (.int v35)) M42))) := by
      intro p res f6 ha er' hres
      obtain ⟨hF, c, hc, h47⟩ := f6
      refine ur_ended (d + (X + 134)) hE30.1.1 hc h47 (fun M10 g10 e47 e30' e31 e32 e33 e34 eo => ⟨_, rfl, ?_⟩)
      have s10 := g10.S hE30.1.1
      refine ⟨s10.1, m + 35, s10.r35, by rw [s10.h35], by rw [s10.h35]; exact vp ha, by rw [s10.h35]; exact vp (by omega), ?_⟩
      rintro M41 rfl
      rw [show (nI c).toNatClampNeg = c from nI_clamp (by omega)]
      have f18 := RfG.ended (v := x_i M10 (m + 35) (nI a).toNatClampNeg) hF g10 hc e47
      have g18 : FrM M10 (x_si M10 (m + 35) c (x_i M10 (m + 35) (nI a).toNatClampNeg)) m [] [35] := FrM.rf.si (by omega) (by decide)
      exact last _ c res er' ((g30'.tr g10 (by decide) (by decide)).tr g18 (by decide) (by decide)) (by rw [g18.fm (by decide), g10.fm (by decide)]; exact i30) (hres _ c (by omega) f18)
    cases hgs : pcP L rc wd n (tlS s) with
    | inl p =>
      rw [hgs] at hO er
      exact stop p _ hO.2 hO.1 er (fun M' b hb hf => ⟨hb, hf⟩)
    | inr bs =>
      obtain ⟨b, s1⟩ := bs
      rw [hgs] at hO er
      simp only at er
      obtain ⟨o1, o2, o3⟩ := hO
      obtain ⟨⟨w1, w2, w3, w4, w5, w6⟩, v1, v2, v3, v4⟩ := hg (tlS s) b s1 t1 hgs
      have e4 : q_l (tlS s) = (q_l s).tail := rfl
      have e5 : q_c (tlS s) = q_c s := rfl
      simp only [e4, e5] at w2 w3 w4 w5 v1 v2 v3
      have hle1 := gd_le _ w1
      have hc1 : q_c s1 < 60 := by omega
      by_cases cb1 : kdT (q_l s1) = 1
      · exact stop (plT L (q_l s1)) _ (o2.2 cb1) o1 er (fun M' b2 hb hf => ⟨hb, ⟨fun z => absurd cb1 z, fun _ => hf⟩, fun z => absurd cb1 z⟩)
      · have hI1 := o2.1 cb1
        have hbb := o3 cb1
        subst hbb
        have h47 : x_i M30 m 47 = nI (q_c s1) := hI1.1.2.2.2.2.2.2.2.2
        refine ur_ended (d + (X + 134)) hE30.1.1 (by omega) h47 (fun M10 g10 e47 e30' e31 e32 e33 e34 eo => ⟨_, rfl, ?_⟩)
        have s10 := g10.S hE30.1.1
        refine ⟨s10.1, m + 35, s10.r35, by rw [s10.h35], by rw [s10.h35]; exact vp (by omega), by rw [s10.h35]; exact vp (by omega), ?_⟩
        rintro M41 rfl
        have ef : x_i M10 (m + 35) a = nI (p_s (q_D s1 a)) := by rw [g10.i (by omega) (by decide)]; exact hI1.free v4
        rw [show (nI (q_c s1)).toNatClampNeg = q_c s1 from nI_clamp (by omega), show (nI a).toNatClampNeg = a from nI_clamp (by omega), ef]
        have h256 := hI1.2.1.2.1 a v4
        have hJ := RfI.ended (P := (2, plT L (q_l s), a, 0, 0, p_s (q_D s1 a), s0D, s0D)) hI1 hc1 g10 e47 e30' e31 (fun z => absurd z.1 (by show ¬ 3 ≤ 2; omega)) (fun z => absurd z (by show ¬ (2 = 6 ∨ 2 = 7); omega)) e34 eo (by show 2 ≤ 2; omega) v4 h256
        have g18 : FrM M10 (x_si M10 (m + 35) (q_c s1) (nI (p_s (q_D s1 a)))) m [] [35] := FrM.rf.si (by omega) (by decide)
        exact last _ (q_c s1) _ er ((g30'.tr g10 (by decide) (by decide)).tr g18 (by decide) (by decide)) (by rw [g18.fm (by decide), g10.fm (by decide)]; exact i30) ⟨by omega, ⟨fun _ => hJ, fun z => absurd z cb1⟩, fun _ => rfl⟩
theorem ur_notN : ∀ n, n ≤ 10 → ∀ d, ReC G m L rc t wd n mX12_not (d + (130 * n + 20)) (pcP L rc wd n)
  | 0, _, d => ur_not0 d
  | n + 1, hn, d => by
    have := ur_notS (X := 130 * n + 14) (show n < 10 by omega) (ur_notN n (by omega)) d
    rw [show 130 * (n + 1) + 20 = 130 * n + 14 + 136 by omega]
    exact this
end RReadC
