/-! ===== the class's constructor, whole ===== -/
section Court2C
variable {G : GG} {M M' M0 : Mem} {e rc rs lo hi : Nat} {Q : Option Value → Mem → Prop}
/-- what a fresh object of the class is -/
def Fresh (M : Mem) (e : Nat) : Prop := CoS M e ∧ x_i M e 11 = 2 ∧ x_i M e 12 = 0 ∧ x_i M e 13 = 0 ∧ x_i M e 14 = 0 ∧ x_i M e 15 = 0 ∧ (∀ s, s < 6 → x_i M (e + 11) s = -1 ∧ x_i M (e + 12) s = 0 ∧ ∀ i, x_i M (e + 5 + s) i = 0) ∧ (∀ i, x_i M (e + 13) i = 0) ∧ x_i M (e + 534) 1 = 0
theorem k_court66 (d : Nat) (hN : g_b G + x_n M = e + 14) (ho : (x_h M e).1 = 27) (hR : Rv M e 7) (hC : CP M e) (hi15 : x_i M e 15 = 0) (hrc : rc = 602) (hrs : rs = 161905) (hQ : ∀ M', g_b G + x_n M' = e + 616 → Fresh M' e → Q none M') : LX11_init_66 G (d + 3) rc rs e M Q := by
  subst hrc hrs
  refine vX11_init_66 _ ⟨by omega, by omega, fun n en M4 e4 => ⟨by omega, by omega, ?_⟩⟩
  have en' : n = e + 14 := by omega
  subst en'
  refine kk_reader d (by rw [e4]; show g_b G + (x_n M + 1) = _; omega) (by rw [e4, nw_he]) (by omega) (by omega) (fun M9 h9 g9 s9 => ⟨rfl, ?_⟩)
  have g1 : Gw M M9 (e + 14) := (by rw [e4]; exact Gw.rf.nw (Nat.le_refl _) : Gw M M4 (e + 14)).tr g9 (Nat.le_refl _)
  have ho1 : (x_h M9 e).1 = 27 := by rw [(g1 e (by omega)).1]; exact ho
  have hR1 : Rv M9 e 7 := hR.eq (g1 e (by omega)).2.1
  have i1 : x_i M9 e = x_i M e := (g1 e (by omega)).2.2
  clear e4 g9 en M4
  refine ⟨ho1, fun M11 e11 => ⟨by omega, by omega, fun n en M15 e15 => ⟨by omega, by omega, ?_⟩⟩⟩
  have n11 : x_n M11 = x_n M9 := by rw [e11]; rfl
  have hR2 : Rv M11 e 8 := by rw [e11]; exact hR1.step rfl
  have k11 : Kn M9 M11 (e + 1) (e + 502) := by rw [e11]; exact Kn.rf.sr (by omega)
  have en' : n = e + 502 := by omega
  subst en'
  refine kk_weaver (d + 1) (by rw [e15]; show g_b G + (x_n M11 + 1) = _; omega) (by rw [e15, nw_he]) (by omega) (by omega) (fun M20 h20 g20 s20 => ⟨rfl, ?_⟩)
  have g2 : Gw M11 M20 (e + 502) := (by rw [e15]; exact Gw.rf.nw (Nat.le_refl _) : Gw M11 M15 (e + 502)).tr g20 (Nat.le_refl _)
  have ho2 : (x_h M20 e).1 = 27 := by rw [(g2 e (by omega)).1, e11]; exact ho1
  have hR3 : Rv M20 e 8 := hR2.eq (g2 e (by omega)).2.1
  have i2 : x_i M20 e = x_i M e := by rw [(g2 e (by omega)).2.2, e11]; exact i1
  clear e15 g20 en M15
  refine ⟨ho2, fun M22 e22 => ⟨by omega, by omega, fun n en M26 e26 => ⟨by omega, by omega, ?_⟩⟩⟩
  have n22 : x_n M22 = x_n M20 := by rw [e22]; rfl
  have hR4 : Rv M22 e 9 := by rw [e22]; exact hR3.step rfl
  have k22 : Kn M20 M22 (e + 1) (e + 524) := by rw [e22]; exact Kn.rf.sr (by omega)
  have en' : n = e + 524 := by omega
  subst en'
  refine kk_reck (d + 2) (by rw [e26]; show g_b G + (x_n M22 + 1) = _; omega) (by rw [e26, nw_he]) (by omega) (by omega) (fun M31 h31 g31 s31 => ⟨rfl, ?_⟩)
  have g3 : Gw M22 M31 (e + 524) := (by rw [e26]; exact Gw.rf.nw (Nat.le_refl _) : Gw M22 M26 (e + 524)).tr g31 (Nat.le_refl _)
  have ho3 : (x_h M31 e).1 = 27 := by rw [(g3 e (by omega)).1, e22]; exact ho2
  have hR5 : Rv M31 e 9 := hR4.eq (g3 e (by omega)).2.1
  have i3 : x_i M31 e = x_i M e := by rw [(g3 e (by omega)).2.2, e22]; exact i2
  clear e26 g31 en M26
  refine ⟨ho3, fun M33 e33 => ⟨by omega, by omega, fun n en M37 e37 => ⟨by omega, by omega, ?_⟩⟩⟩
  have n33 : x_n M33 = x_n M31 := by rw [e33]; rfl
  have hR6 : Rv M33 e 10 := by rw [e33]; exact hR5.step rfl
  have k33 : Kn M31 M33 (e + 1) (e + 534) := by rw [e33]; exact Kn.rf.sr (by omega)
  have en' : n = e + 534 := by omega
  subst en'
  refine kk_acts (d + 2) (by rw [e37]; show g_b G + (x_n M33 + 1) = _; omega) (by rw [e37, nw_he]) (by omega) (by omega) (fun M42 h42 g42 s42 => ⟨rfl, ?_⟩)
  have g4 : Gw M33 M42 (e + 534) := (by rw [e37]; exact Gw.rf.nw (Nat.le_refl _) : Gw M33 M37 (e + 534)).tr g42 (Nat.le_refl _)
  have ho4 : (x_h M42 e).1 = 27 := by rw [(g4 e (by omega)).1, e33]; exact ho3
  have hR7 : Rv M42 e 10 := hR6.eq (g4 e (by omega)).2.1
  have i4 : x_i M42 e = x_i M e := by rw [(g4 e (by omega)).2.2, e33]; exact i3
  clear e37 g42 en M37
  refine ⟨ho4, ?_⟩
  intro M44 e44 M45 e45 M46 e46 M47 e47 M48 e48
  have kz : Kn M42 M48 (e + 1) (e + 536) := by
    rw [e48, e47, e46, e45, e44]
    exact ((((Kn.rf.sr (by omega)).si (by omega)).si (by omega)).si (by omega)).si (by omega)
  have hz : x_h M48 = x_h M42 := by rw [e48, e47, e46, e45, e44]; rfl
  have rz : x_r M48 = x_r M44 := by rw [e48, e47, e46, e45]; rfl
  have nz : x_n M48 = x_n M42 := by rw [e48, e47, e46, e45, e44]; rfl
  refine vX11_init_130 _ ⟨by rw [hz]; exact ho4, ?_⟩
  intro M2 e2
  have kz2 : Kn M42 M2 (e + 1) (e + 536) := by rw [e2]; exact kz.si (by omega)
  have kz3 : Kn M M2 (e + 1) (e + 14) := (((((g1.kn (by omega)).tr (k11.wk (Nat.le_refl _) (by omega))).tr (g2.kn (by omega))).tr (k22.wk (Nat.le_refl _) (by omega))).tr (g3.kn (by omega))).tr ((k33.wk (Nat.le_refl _) (by omega)).tr ((g4.kn (by omega)).tr (kz2.wk (Nat.le_refl _) (by omega))))
  have hC2 : CP M2 e := by
    obtain ⟨c1, c2, c3, c4, c5, c6, c7, c8, c9, c10⟩ := hC
    refine ⟨by rw [kz3.h (by omega) (by omega)]; exact c1, by rw [kz3.h (by omega) (by omega)]; exact c2, by rw [kz3.h (by omega) (by omega)]; exact c3, by rw [kz3.h (by omega) (by omega)]; exact c4, fun i hi => ?_, by rw [kz3.h (by omega) (by omega)]; exact c6, by rw [kz3.h (by omega) (by omega)]; exact c7, by rw [kz3.i (by omega) (by omega)]; exact c8, by rw [kz3.h (by omega) (by omega)]; exact c9, by rw [kz3.i (by omega) (by omega)]; exact c10⟩
    obtain ⟨x1, x2, x3⟩ := c5 i hi
    exact ⟨by rw [kz3.r (by omega) (by omega)]; exact x1, by rw [kz3.h (by omega) (by omega)]; exact x2, by rw [kz3.i (by omega) (by omega)]; exact x3⟩
  have kA : Kn M42 M2 (e + 14) (e + 536) := kz2.wk (by omega) (Nat.le_refl _)
  have kB : Kn M31 M2 (e + 14) (e + 534) := (k33.wk (by omega) (Nat.le_refl _)).tr ((g4.kn (by omega)).tr (kA.wk (Nat.le_refl _) (by omega)))
  have kC : Kn M20 M2 (e + 14) (e + 524) := (k22.wk (by omega) (Nat.le_refl _)).tr ((g3.kn (by omega)).tr (kB.wk (Nat.le_refl _) (by omega)))
  have kD : Kn M9 M2 (e + 14) (e + 502) := (k11.wk (by omega) (Nat.le_refl _)).tr ((g2.kn (by omega)).tr (kC.wk (Nat.le_refl _) (by omega)))
  have hint : ∀ j, x_i M2 e j = if j = 15 then 0 else if j = 14 then 0 else if j = 13 then 0 else if j = 12 then 0 else if j = 11 then 2 else x_i M e j := fun j => by
    rw [e2]
    by_cases c : j = 15
    · rw [if_pos c, c, xi_eq]
    rw [if_neg c, xi_nk c, e48]
    by_cases c : j = 14
    · rw [if_pos c, c, xi_eq]
    rw [if_neg c, xi_nk c, e47]
    by_cases c : j = 13
    · rw [if_pos c, c, xi_eq]
    rw [if_neg c, xi_nk c, e46]
    by_cases c : j = 12
    · rw [if_pos c, c, xi_eq]
    rw [if_neg c, xi_nk c, e45]
    by_cases c : j = 11
    · rw [if_pos c, c, xi_eq]
    rw [if_neg c, xi_nk c, e44]
    show x_i M42 e j = _
    rw [i4]
  have hB : BD M2 e := ⟨by rw [e2]; show (x_h M48 e).1 = 27; rw [hz]; exact ho4, by rw [e2]; exact (show Rv M48 e 11 from Rv.eq (M := M44) (by rw [e44]; exact hR7.step rfl) (by rw [rz])), hC2, s9.kn kD (by omega) (by omega), s20.kn kC (by omega) (by omega), s31.kn kB (by omega) (by omega), AcZ.kn s42 kA (by omega) (by omega), by rw [hint]; rfl, by rw [hint]; rfl, by rw [hint]; rfl, by rw [hint]; rfl, by rw [hint]; rfl⟩
  refine k_court137 (d + 1) (fun M1 hn1 hB1 hR1 => ?_) 10 0 (by omega) _ _ (by omega) (by omega) M2 (by rw [e2]; show g_b G + x_n M48 = _; omega) hB (fun j hj => absurd hj (Nat.not_lt_zero _))
  obtain ⟨x1, x2, x3, x4, x5, x6, x7, x8, x9, x10, x11, x12⟩ := hB1
  obtain ⟨c1, c2, c3, c4, c5, c6, c7, c8, c9, c10⟩ := x3
  refine vX11_init_137 _ _ ⟨fun _ => ⟨x1, e + 11, x2 4 (by omega), ?_⟩, fun c => absurd (nI_le (show 10 ≤ 10 by omega) (by omega)) c⟩
  refine w_fillI (d + 2) (v := -1) c6 (by omega) ⟨rfl, vX11_init_183 _ _ (hQ _ hn1 ?_)⟩
  have o : ∀ q, q ≠ e + 11 → x_i (x_fi M1 (e + 11) 0 6 (-1)) q = x_i M1 q := fun q hq => by funext j; exact xf_na hq
  have oh : x_h (x_fi M1 (e + 11) 0 6 (-1)) = x_h M1 := rfl
  have orr : x_r (x_fi M1 (e + 11) 0 6 (-1)) = x_r M1 := rfl
  have hS : CoS M1 e := by
    obtain ⟨y1, y2, y3, y4, y5⟩ := id x4
    exact ⟨x1, x2 0 (by omega), x2 1 (by omega), x2 2 (by omega), x2 3 (by omega), x2 4 (by omega), x2 5 (by omega), x2 6 (by omega), x2 7 (by omega), x2 8 (by omega), x2 9 (by omega), x2 10 (by omega), ⟨c1, fun i hi => ⟨(hR1 i hi).1, (hR1 i hi).2.1⟩⟩, ⟨c2, fun i hi => ⟨(hR1 i hi).2.2.1, (hR1 i hi).2.2.2⟩⟩, c3, c4, fun i hi => ⟨(c5 i hi).1, (c5 i hi).2.1⟩, c6, c7, c9, y1, y2, y3, y4, x4.pa, x5, x6, x7.1, x7.2.1, x7.2.2.1⟩
  refine ⟨hS.eq oh orr, by rw [o e (by omega)]; exact x8, by rw [o e (by omega)]; exact x9, by rw [o e (by omega)]; exact x10, by rw [o e (by omega)]; exact x11, by rw [o e (by omega)]; exact x12, fun s hs => ⟨xf_in (Nat.zero_le _) hs, by rw [o _ (by omega), c8], fun i => by rw [o _ (by omega), (c5 s hs).2.2]⟩, fun i => by rw [o _ (by omega), c10], by rw [o _ (by omega)]; exact x7.2.2.2⟩
theorem kk_court (d : Nat) (hN : g_b G + x_n M = e + 1) (ho : (x_h M e).1 = 27) (hi15 : x_i M e 15 = 0) (hQ : ∀ M', g_b G + x_n M' = e + 616 → Fresh M' e → Q none M') : Call G (d + 4) 615 162343 mX11_init [.ref e] M Q := by
  refine eX11_init e ?_
  have pz0 := Pz.start (G := G) (M := M) (o := e) (c := 1) hN
  refine ⟨by omega, by omega, ?_⟩
  intro n e M2 e2
  refine ⟨by rw [e2, pz0.hd (by omega) e]; exact ho, ?_⟩
  intro M3 e3
  have pz1 := pz0.step (by omega) e (f := 0) (kd := 4) (ln := 10) (by simp)
  rw [← e2, ← e3] at pz1
  clear e3 e2 e M2 n
  refine ⟨by omega, by omega, ?_⟩
  intro n e M2 e2
  refine ⟨by rw [e2, pz1.hd (by omega) e]; exact ho, ?_⟩
  intro M3 e3
  have pz2 := pz1.step (by omega) e (f := 1) (kd := 5) (ln := 10) (by simp)
  rw [← e2, ← e3] at pz2
  clear e3 e2 e M2 n
  refine ⟨by omega, by omega, ?_⟩
  intro n e M2 e2
  refine ⟨by rw [e2, pz2.hd (by omega) e]; exact ho, ?_⟩
  intro M3 e3
  have pz3 := pz2.step (by omega) e (f := 2) (kd := 1) (ln := 120) (by simp)
  rw [← e2, ← e3] at pz3
  clear e3 e2 e M2 n
  have pa := pz3
  have ha0 := pa.r 0 rfl
  have ha1 := pa.r 1 rfl
  have ha2 := pa.r 2 rfl
  have hh0 := pa.h 0 rfl
  have hh1 := pa.h 1 rfl
  have hh2 := pa.h 2 rfl
  have hN3 := pa.1
  have hi3 : x_i M3 e = x_i M e := pa.2.2.1
  have ho3 : (x_h M3 e).1 = 27 := by rw [pa.2.1]; exact ho
  clear pa pz3 pz2 pz1 pz0
  refine ⟨by omega, by omega, ?_⟩
  intro n en M25 e25
  have hl3 : g_b G + x_n M3 = e + 4 := hN3
  have en' : n = e + 4 := by omega
  subst en'
  have mh : ∀ q, q < e + 4 → x_h M25 q = x_h M3 q := fun q hq => by
    rw [e25]
    show (if q = e + 4 then (7, 6) else if e + 4 < q ∧ q ≤ e + 4 + 6 then (1, 40) else x_h M3 q) = _
    rw [if_neg (by omega), if_neg (by omega)]
  have mr : ∀ q, q < e + 4 → x_r M25 q = x_r M3 q := fun q hq => by
    rw [e25]
    funext j
    show (if q = e + 4 then (if j < 6 then some (e + 4 + 1 + j) else none) else x_r M3 q j) = _
    rw [if_neg (by omega)]
  have mi : ∀ q, q < e + 4 → x_i M25 q = x_i M3 q := fun q hq => by
    rw [e25]
    funext j
    show (if e + 4 ≤ q ∧ q ≤ e + 4 + 6 then 0 else x_i M3 q j) = _
    rw [if_neg (by omega)]
  have m4h : x_h M25 (e + 4) = (7, 6) := by
    rw [e25]
    exact if_pos rfl
  have m5 : ∀ i, i < 6 → x_r M25 (e + 4) i = some (e + 5 + i) ∧ x_h M25 (e + 5 + i) = (1, 40) ∧ x_i M25 (e + 5 + i) = fun _ => 0 := fun i hi => by
    rw [e25]
    refine ⟨?_, ?_, ?_⟩
    · show (if e + 4 = e + 4 then (if i < 6 then some (e + 4 + 1 + i) else none) else x_r M3 (e + 4) i) = _
      rw [if_pos rfl, if_pos hi, show e + 4 + 1 + i = e + 5 + i by omega]
    · show (if e + 5 + i = e + 4 then (7, 6) else if e + 4 < e + 5 + i ∧ e + 5 + i ≤ e + 4 + 6 then (1, 40) else x_h M3 (e + 5 + i)) = _
      rw [if_neg (by omega), if_pos (by omega)]
    · funext j
      show (if e + 4 ≤ e + 5 + i ∧ e + 5 + i ≤ e + 4 + 6 then 0 else x_i M3 (e + 5 + i) j) = _
      rw [if_pos (by omega)]
  have mn : g_b G + x_n M25 = e + 11 := by rw [e25]; show g_b G + (x_n M3 + 1 + 6) = _; omega
  refine ⟨by rw [mh e (by omega)]; exact ho3, ?_⟩
  intro M27 e27
  have k27 : Kn M25 M27 (e + 1) (e + 11) := by rw [e27]; exact Kn.rf.sr (by omega)
  have n27 : g_b G + x_n M27 = e + 11 := by rw [e27]; exact mn
  have ho27 : (x_h M27 e).1 = 27 := by rw [e27]; show (x_h M25 e).1 = 27; rw [mh e (by omega)]; exact ho3
  have i27 : x_i M27 e = x_i M e := by rw [e27]; show x_i M25 e = _; rw [mi e (by omega)]; exact hi3
  have r27 : ∀ k, k < 4 → x_r M27 e k = some (rfs e k) := fun k hk => by
    match k, hk with
    | 0, _ => rw [e27, xr_o (Or.inr (by omega)), mr e (by omega)]; exact ha0
    | 1, _ => rw [e27, xr_o (Or.inr (by omega)), mr e (by omega)]; exact ha1
    | 2, _ => rw [e27, xr_o (Or.inr (by omega)), mr e (by omega)]; exact ha2
    | 3, _ => rw [e27]; exact xr_e
    | k + 4, h => exact absurd h (by omega)
  have q0 := Pz.start (G := G) (M := M27) (o := e) (c := 11) n27
  refine ⟨by omega, by omega, ?_⟩
  intro n e N2 e2
  refine ⟨by rw [e2, q0.hd (by omega) e]; exact ho27, ?_⟩
  intro N3 e3
  have q1 := q0.step (by omega) e (f := 4) (kd := 1) (ln := 6) (by simp)
  rw [← e2, ← e3] at q1
  clear e3 e2 e N2 n
  refine ⟨by omega, by omega, ?_⟩
  intro n e N2 e2
  refine ⟨by rw [e2, q1.hd (by omega) e]; exact ho27, ?_⟩
  intro N3 e3
  have q2 := q1.step (by omega) e (f := 5) (kd := 1) (ln := 6) (by simp)
  rw [← e2, ← e3] at q2
  clear e3 e2 e N2 n
  refine ⟨by omega, by omega, ?_⟩
  intro n e N2 e2
  refine ⟨by rw [e2, q2.hd (by omega) e]; exact ho27, ?_⟩
  intro N3 e3
  have q3 := q2.step (by omega) e (f := 6) (kd := 1) (ln := 40) (by simp)
  rw [← e2, ← e3] at q3
  clear e3 e2 e N2 n
  have kq : Kn M27 N3 (e + 1) (e + 11) := fun q a b => q3.2.2.2.1 q b (by omega)
  have kw : Kn M25 N3 (e + 1) (e + 11) := k27.tr kq
  refine k_court66 d q3.1 (by rw [q3.2.1]; exact ho27) (fun k hk => ?_) ⟨?_, ?_, ?_, ?_, fun i hi => ?_, q3.h 0 rfl, q3.h 1 rfl, q3.z 1 rfl, q3.h 2 rfl, q3.z 2 rfl⟩ (by rw [q3.2.2.1, i27]; exact hi15) rfl rfl hQ
  · match k, hk with
    | 0, _ => rw [q3.2.2.2.2.1 0 (by simp)]; exact r27 0 (by omega)
    | 1, _ => rw [q3.2.2.2.2.1 1 (by simp)]; exact r27 1 (by omega)
    | 2, _ => rw [q3.2.2.2.2.1 2 (by simp)]; exact r27 2 (by omega)
    | 3, _ => rw [q3.2.2.2.2.1 3 (by simp)]; exact r27 3 (by omega)
    | 4, _ => exact q3.r 0 rfl
    | 5, _ => exact q3.r 1 rfl
    | 6, _ => exact q3.r 2 rfl
    | k + 7, h => exact absurd h (by omega)
  · rw [kw.h (by omega) (by omega), mh _ (by omega)]; exact hh0
  · rw [kw.h (by omega) (by omega), mh _ (by omega)]; exact hh1
  · rw [kw.h (by omega) (by omega), mh _ (by omega)]; exact hh2
  · rw [kw.h (by omega) (by omega)]; exact m4h
  · obtain ⟨z1, z2, z3⟩ := m5 i hi
    exact ⟨by rw [kw.r (by omega) (by omega)]; exact z1, by rw [kw.h (by omega) (by omega)]; exact z2, by rw [kw.i (by omega) (by omega)]; exact z3⟩
end Court2C
