/-! ===== constructors: reader, weaver ===== -/
section Kinds3C
variable {G : GG} {M M' M0 : Mem} {o rc rs lo hi : Nat} {Q : Option Value → Mem → Prop}
theorem Kn.wk {lo' hi' : Nat} (h : Kn M M' lo hi) (h1 : lo ≤ lo') (h2 : hi' ≤ hi) : Kn M M' lo' hi' := fun q a b => h q (by omega) (by omega)
/-- the first parts -/
def PuS (M : Mem) (pa p0 c : Nat) : Prop := x_h M pa = (6, 60) ∧ ∀ i, i < c → x_r M pa i = some (p0 + 8 * i) ∧ PaS M (p0 + 8 * i)
def RdXs (M : Mem) (o c : Nat) : Prop := (x_h M o).1 = 21 ∧ x_r M o 0 = some (o + 1) ∧ x_r M o 1 = some (o + 6) ∧ TokS M (o + 1) ∧ PuS M (o + 6) (o + 8) c
theorem kk_reader (d : Nat) (hN : g_b G + x_n M = o + 1) (ho : (x_h M o).1 = 21) (hrc : 487 ≤ rc) (hrs : 69849 ≤ rs) (hQ : ∀ M', g_b G + x_n M' = o + 488 → Gw M M' o → RdXs M' o 60 → Q none M') : Call G (d + 3) rc rs mX5_init [.ref o] M Q := by
  have loop : ∀ t i, i + t = 60 → ∀ rc rs, 8 * t ≤ rc → 1157 * t ≤ rs → ∀ M1, g_b G + x_n M1 = o + 8 + 8 * i → Gw M M1 o → RdXs M1 o i → LX5_init_69 G (d + 2) rc rs o (nI i) M1 Q := by
    intro t
    induction t with
    | zero =>
      intro i hi rc rs _ _ M1 hn g hR
      have e : i = 60 := by omega
      subst e
      exact vX5_init_69 _ _ ⟨fun _ => hQ M1 (by omega) g hR, fun c => absurd (nI_le (show 60 ≤ 60 by omega) (by omega)) c⟩
    | succ t ih =>
      intro i hi rc rs h1 h2 M1 hn g hR
      obtain ⟨q1, q2, q3, q4, q5, q6⟩ := hR
      refine vX5_init_69 _ _ ⟨fun c => absurd c (nI_ge (a := i) (b := 60) (by omega) (by omega)), fun _ => ⟨q1, o + 6, q3, by omega, by omega, fun n e M7 e7 => ⟨by omega, by omega, ?_⟩⟩⟩
      have en : n = o + 8 + 8 * i := by omega
      subst en
      refine kk_part d (by rw [e7]; show g_b G + (x_n M1 + 1) = _; omega) (by rw [e7, nw_he]) (by omega) (by omega) (fun M12 h12 g12 p12 => ⟨rfl, ?_⟩)
      have g1 : Gw M1 M12 (o + 8 + 8 * i) := (by rw [e7]; exact Gw.rf.nw (Nat.le_refl _) : Gw M1 M7 (o + 8 + 8 * i)).tr g12 (Nat.le_refl _)
      have x19 : (x_h M12 (o + 8 + 8 * i)).1 = 19 := p12.1
      have e6 : x_h M12 (o + 6) = (6, 60) := by rw [(g1 _ (by omega)).1]; exact q5
      refine ⟨by rw [e6], x19, by rw [e6]; exact vp_in_nI (show i < 60 by omega) (by omega), ?_⟩
      rintro M16 rfl
      rw [nI_clamp (by omega), nI_1]
      have k1 : Kn M1 (x_sr M12 (o + 6) i (some (o + 8 + 8 * i))) o (o + 6) := (g1.kn (by omega)).sr (by omega)
      have k2 : Kn M1 (x_sr M12 (o + 6) i (some (o + 8 + 8 * i))) (o + 7) (o + 8 + 8 * i) := (g1.kn (by omega)).sr (by omega)
      have k3 : Kn M12 (x_sr M12 (o + 6) i (some (o + 8 + 8 * i))) (o + 7) (o + 8 + 8 * i + 8) := Kn.rf.sr (by omega)
      refine ih (i + 1) (by omega) _ _ (by omega) (by omega) _ (by show g_b G + x_n M12 = _; omega) ((g.tr g1 (by omega)).sr (by omega)) ⟨by rw [k1.h (Nat.le_refl _) (by omega)]; exact q1, by rw [k1.r (Nat.le_refl _) (by omega)]; exact q2, by rw [k1.r (Nat.le_refl _) (by omega)]; exact q3, q4.kn k1 (by omega) (by omega), e6, fun j hj => ?_⟩
      by_cases c : j = i
      · subst c
        exact ⟨xr_e, p12.kn k3 (by omega) (by omega)⟩
      · refine ⟨?_, (q6 j (by omega)).2.kn k2 (by omega) (by omega)⟩
        rw [xr_o (Or.inr c), (g1 _ (by omega)).2.1]
        exact (q6 j (by omega)).1
  refine eX5_init o ⟨by omega, by omega, fun n e M4 e4 => ⟨by omega, by omega, ?_⟩⟩
  have en : n = o + 1 := by omega
  subst en
  refine kk_tok (d + 1) (by rw [e4]; show g_b G + (x_n M + 1) = _; omega) (by rw [e4, nw_he]) (by omega) (by omega) (fun M9 h9 g9 t9 => ⟨rfl, ?_⟩)
  have g1 : Gw M M9 (o + 1) := (by rw [e4]; exact Gw.rf.nw (by omega) : Gw M M4 (o + 1)).tr g9 (Nat.le_refl _)
  have h21 : (x_h M9 o).1 = 21 := by rw [(g1 o (by omega)).1]; exact ho
  have gg : Gw M M9 o := Gw.tr (Gw.rf (M := M)) g1 (by omega)
  clear e g9 e4 M4
  refine ⟨h21, fun M11 e11 => ⟨by omega, by omega, fun n e M13 e13 => ⟨?_, fun M18 e18 => ⟨by omega, by omega, fun n' e' M20 e20 => ⟨?_, ?_⟩⟩⟩⟩⟩
  · rw [e13, nw_hn (by have : x_n M11 = x_n M9 := by rw [e11]; rfl
                       omega), e11]; exact h21
  · have n11 : x_n M11 = x_n M9 := by rw [e11]; rfl
    have n18 : x_n M18 = x_n M11 + 1 := by rw [e18, e13]; rfl
    rw [e20, nw_hn (by omega), e18, e13]
    show (x_h (x_new M11 n 6 60) o).1 = 21
    rw [nw_hn (by omega), e11]; exact h21
  have n11 : x_n M11 = x_n M9 := by rw [e11]; rfl
  have n18 : x_n M18 = x_n M11 + 1 := by rw [e18, e13]; rfl
  have en : n = o + 6 := by omega
  have en' : n' = o + 7 := by omega
  subst en en'
  rintro M25 rfl M26 rfl M27 rfl M28 rfl M29 rfl M30 rfl M31 rfl M32 rfl
  have k20 : Kn M9 M20 (o + 1) (o + 6) := by
    rw [e20, e18, e13, e11]
    exact (((Kn.rf.sr (by omega)).nw (by omega)).sr (by omega)).nw (by omega)
  have kF : Kn M20 (x_si (x_si (x_si (x_si (x_si (x_si (x_si (x_sr M20 o 2 (some (o + 7))) o 3 0) o 4 0) o 5 0) o 6 (-1)) o 7 (-1)) o 8 0) o 9 0) (o + 1) (o + 8) := (((((((Kn.rf.sr (by omega)).si (by omega)).si (by omega)).si (by omega)).si (by omega)).si (by omega)).si (by omega)).si (by omega)
  refine loop 60 0 (by omega) _ _ (by omega) (by omega) _ ?_ ?_ ⟨?_, ?_, ?_, t9.kn (k20.tr (kF.wk (Nat.le_refl _) (by omega))) (by omega) (by omega), ?_, fun j hj => absurd hj (Nat.not_lt_zero _)⟩
  · show g_b G + x_n M20 = _
    have : x_n M20 = x_n M18 + 1 := by rw [e20]; rfl
    omega
  · have gA : Gw M M20 o := by
      rw [e20, e18, e13, e11]
      exact (((gg.sr (Nat.le_refl _)).nw (by omega)).sr (Nat.le_refl _)).nw (by omega)
    exact (((((((gA.sr (Nat.le_refl _)).si (Nat.le_refl _)).si (Nat.le_refl _)).si (Nat.le_refl _)).si (Nat.le_refl _)).si (Nat.le_refl _)).si (Nat.le_refl _)).si (Nat.le_refl _)
  · show (x_h M20 o).1 = 21
    rw [e20, nw_hn (by omega), e18, e13]
    show (x_h (x_new M11 (o + 6) 6 60) o).1 = 21
    rw [nw_hn (by omega), e11]; exact h21
  · show x_r (x_sr M20 o 2 (some (o + 7))) o 0 = _
    rw [xr_o (Or.inr (by omega)), e20, nw_rn (by omega), e18, xr_o (Or.inr (by omega)), e13, nw_rn (by omega), e11]
    exact xr_e
  · show x_r (x_sr M20 o 2 (some (o + 7))) o 1 = _
    rw [xr_o (Or.inr (by omega)), e20, nw_rn (by omega), e18]
    exact xr_e
  · show x_h M20 (o + 6) = _
    rw [e20, nw_hn (by omega), e18, e13]
    exact nw_he
theorem RdXs.pa {M : Mem} {o : Nat} (h : RdXs M o 60) : PartsS M (o + 6) (o + 8) := ⟨h.2.2.2.2.1, fun i hi => h.2.2.2.2.2 i hi⟩
theorem kk_weaver (d : Nat) (hN : g_b G + x_n M = o + 1) (ho : (x_h M o).1 = 26) (hrc : 21 ≤ rc) (hrs : 67035 ≤ rs) (hQ : ∀ M', g_b G + x_n M' = o + 22 → Gw M M' o → WeS M' o → Q none M') : Call G (d + 2) rc rs mX10_init [.ref o] M Q := by
  refine eX10_init o ⟨by omega, by omega, fun n e M4 e4 => ⟨by omega, by omega, ?_⟩⟩
  have en : n = o + 1 := by omega
  subst en
  refine kk_loom d (by rw [e4]; show g_b G + (x_n M + 1) = _; omega) (by rw [e4, nw_he]) (by omega) (by omega) (fun M9 h9 g9 s9 => ⟨rfl, ?_⟩)
  have g1 : Gw M M9 (o + 1) := (by rw [e4]; exact Gw.rf.nw (by omega) : Gw M M4 (o + 1)).tr g9 (Nat.le_refl _)
  have h26 : (x_h M9 o).1 = 26 := by rw [(g1 o (by omega)).1]; exact ho
  have gg1 : Gw M M9 o := Gw.tr (Gw.rf (M := M)) g1 (by omega)
  clear e g9 e4 M4
  refine ⟨h26, fun M11 e11 => ⟨by omega, by omega, fun n e M15 e15 => ⟨by omega, by omega, ?_⟩⟩⟩
  have n11 : x_n M11 = x_n M9 := by rw [e11]; rfl
  have en : n = o + 9 := by omega
  subst en
  show Call G (d + 1) 2 400 mX1_init [.ref (o + 9), .int (nI 40), .int (nI 9)] M15 _
  refine kk_least d (by rw [e15]; show g_b G + (x_n M11 + 1) = _; omega) (by rw [e15, nw_he]) (by omega) (by omega) (by omega) (by omega) (fun M20 h20 g20 s20 => ⟨rfl, ?_⟩)
  have g2 : Gw M11 M20 (o + 9) := (by rw [e15]; exact Gw.rf.nw (by omega) : Gw M11 M15 (o + 9)).tr g20 (Nat.le_refl _)
  have k2 : Kn M9 M20 (o + 1) (o + 9) := (by rw [e11]; exact Kn.rf.sr (by omega) : Kn M9 M11 (o + 1) (o + 9)).tr (g2.kn (by omega))
  have r20 : x_r M20 o = x_r M11 o := (g2 o (by omega)).2.1
  have h26b : (x_h M20 o).1 = 26 := by rw [(g2 o (by omega)).1, e11]; exact h26
  have gg2 : Gw M M20 o := (gg1.tr (by rw [e11]; exact Gw.rf.sr (Nat.le_refl _) : Gw M9 M11 o) (Nat.le_refl _)).tr g2 (by omega)
  clear e g20 e15 M15
  refine ⟨h26b, fun M22 e22 => ⟨by omega, by omega, fun n e M26 e26 => ⟨by omega, by omega, ?_⟩⟩⟩
  have n22 : x_n M22 = x_n M20 := by rw [e22]; rfl
  have en : n = o + 12 := by omega
  subst en
  show Call G (d + 1) 2 400 mX1_init [.ref (o + 12), .int (nI 40), .int (nI 9)] M26 _
  refine kk_least d (by rw [e26]; show g_b G + (x_n M22 + 1) = _; omega) (by rw [e26, nw_he]) (by omega) (by omega) (by omega) (by omega) (fun M31 h31 g31 s31 => ⟨rfl, ?_⟩)
  have g3 : Gw M22 M31 (o + 12) := (by rw [e26]; exact Gw.rf.nw (by omega) : Gw M22 M26 (o + 12)).tr g31 (Nat.le_refl _)
  have k3 : Kn M20 M31 (o + 1) (o + 12) := (by rw [e22]; exact Kn.rf.sr (by omega) : Kn M20 M22 (o + 1) (o + 12)).tr (g3.kn (by omega))
  have h26c : (x_h M31 o).1 = 26 := by rw [(g3 o (by omega)).1, e22]; exact h26b
  have r31 : x_r M31 o = x_r M22 o := (g3 o (by omega)).2.1
  have gg3 : Gw M M31 o := (gg2.tr (by rw [e22]; exact Gw.rf.sr (Nat.le_refl _) : Gw M20 M22 o) (Nat.le_refl _)).tr g3 (by omega)
  have r0 : x_r M31 o 0 = some (o + 1) := by rw [r31, e22, xr_o (Or.inr (by omega)), r20, e11]; exact xr_e
  have r1 : x_r M31 o 1 = some (o + 9) := by rw [r31, e22]; exact xr_e
  have sA : LoS M31 (o + 1) := s9.kn (k2.tr (k3.wk (Nat.le_refl _) (by omega))) (by omega) (by omega)
  have sB : LeS M31 (o + 9) (o + 10) (o + 11) 360 40 := s20.kn k3 (by omega) (by omega)
  have sC : LeS M31 (o + 12) (o + 13) (o + 14) 360 40 := s31
  clear s9 s20 s31 r31 r20 k2 k3 g1 g2 g3 e g31 e26 gg1 gg2 M26
  refine ⟨h26c, fun M33 e33 => ?_⟩
  have n33 : x_n M33 = x_n M31 := by rw [e33]; rfl
  have h26d : (x_h M33 o).1 = 26 := by rw [e33]; exact h26c
  have k33 : Kn M31 M33 (o + 1) (o + 15) := by rw [e33]; exact Kn.rf.sr (by omega)
  have gg4 : Gw M M33 o := gg3.tr (by rw [e33]; exact Gw.rf.sr (Nat.le_refl _)) (Nat.le_refl _)
  have r0' : x_r M33 o 0 = some (o + 1) := by rw [e33, xr_o (Or.inr (by omega))]; exact r0
  have r1' : x_r M33 o 1 = some (o + 9) := by rw [e33, xr_o (Or.inr (by omega))]; exact r1
  have r2' : x_r M33 o 2 = some (o + 12) := by rw [e33]; exact xr_e
  clear e33 gg3 r0 r1 e22 e11
  have pz0 := Pz.start (G := G) (M := M33) (o := o) (c := 15) (by omega)
  refine ⟨by omega, by omega, ?_⟩
  intro n e M2 e2
  refine ⟨by rw [e2, pz0.hd (by omega) e]; exact h26d, ?_⟩
  intro M3 e3
  have pz1 := pz0.step (by omega) e (f := 3) (kd := 1) (ln := 27) (by simp)
  rw [← e2, ← e3] at pz1
  clear e3 e2 e M2 n
  refine ⟨by omega, by omega, ?_⟩
  intro n e M2 e2
  refine ⟨by rw [e2, pz1.hd (by omega) e]; exact h26d, ?_⟩
  intro M3 e3
  have pz2 := pz1.step (by omega) e (f := 4) (kd := 1) (ln := 27) (by simp)
  rw [← e2, ← e3] at pz2
  clear e3 e2 e M2 n
  refine ⟨by omega, by omega, ?_⟩
  intro n e M2 e2
  refine ⟨by rw [e2, pz2.hd (by omega) e]; exact h26d, ?_⟩
  intro M3 e3
  have pz3 := pz2.step (by omega) e (f := 5) (kd := 1) (ln := 8) (by simp)
  rw [← e2, ← e3] at pz3
  clear e3 e2 e M2 n
  refine ⟨by omega, by omega, ?_⟩
  intro n e M2 e2
  refine ⟨by rw [e2, pz3.hd (by omega) e]; exact h26d, ?_⟩
  intro M3 e3
  have pz4 := pz3.step (by omega) e (f := 6) (kd := 1) (ln := 4) (by simp)
  rw [← e2, ← e3] at pz4
  clear e3 e2 e M2 n
  refine ⟨by omega, by omega, ?_⟩
  intro n e M2 e2
  refine ⟨by rw [e2, pz4.hd (by omega) e]; exact h26d, ?_⟩
  intro M3 e3
  have pz5 := pz4.step (by omega) e (f := 7) (kd := 2) (ln := 300) (by simp)
  rw [← e2, ← e3] at pz5
  clear e3 e2 e M2 n
  refine ⟨by omega, by omega, ?_⟩
  intro n e M2 e2
  refine ⟨by rw [e2, pz5.hd (by omega) e]; exact h26d, ?_⟩
  intro M3 e3
  have pz6 := pz5.step (by omega) e (f := 8) (kd := 1) (ln := 1024) (by simp)
  rw [← e2, ← e3] at pz6
  clear e3 e2 e M2 n
  refine ⟨by omega, by omega, ?_⟩
  intro n e M2 e2
  refine ⟨by rw [e2, pz6.hd (by omega) e]; exact h26d, ?_⟩
  intro M3 e3
  have pz7 := pz6.step (by omega) e (f := 9) (kd := 2) (ln := 27) (by simp)
  rw [← e2, ← e3] at pz7
  clear e3 e2 e M2 n
  intro M4 e4
  have py0 := pz7.si (by omega) (k := 10) (v := 0)
  rw [← e4] at py0
  clear e4
  intro M4 e4
  have py1 := py0.si (by omega) (k := 11) (v := 2)
  rw [← e4] at py1
  clear e4
  have pe := py1
  have kz := fun q (h1 : o + 1 ≤ q) (h2 : q < o + 15) => pe.2.2.2.1 q h2 (by omega)
  exact hQ _ pe.1 (gg4.tr pe.gw (Nat.le_refl _)) ⟨by rw [pe.2.1]; exact h26d, sA.kn (k33.tr kz) (by omega) (by omega), sB.kn (k33.tr kz) (by omega) (by omega), sC.kn (k33.tr kz) (by omega) (by omega), by rw [pe.2.2.2.2.1 0 (by simp)]; exact r0', by rw [pe.2.2.2.2.1 1 (by simp)]; exact r1', by rw [pe.2.2.2.2.1 2 (by simp)]; exact r2', pe.r 0 rfl, pe.r 1 rfl, pe.r 2 rfl, pe.r 3 rfl, pe.r 4 rfl, pe.r 5 rfl, pe.r 6 rfl, pe.h 0 rfl, pe.h 1 rfl, pe.h 2 rfl, pe.h 3 rfl, pe.h 4 rfl, pe.h 5 rfl, pe.h 6 rfl⟩
end Kinds3C
