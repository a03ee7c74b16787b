/-! ===== the class's constructor ===== -/
section CourtC
variable {G : GG} {M M' M0 : Mem} {e o rc rs lo hi : Nat} {Q : Option Value → Mem → Prop}
def rfs (e : Nat) : Nat → Nat
  | 0 => e + 1
  | 1 => e + 2
  | 2 => e + 3
  | 3 => e + 4
  | 4 => e + 11
  | 5 => e + 12
  | 6 => e + 13
  | 7 => e + 14
  | 8 => e + 502
  | 9 => e + 524
  | _ => e + 534
def Rv (M : Mem) (e c : Nat) : Prop := ∀ k, k < c → x_r M e k = some (rfs e k)
theorem Rv.eq {c : Nat} (h : Rv M e c) (h1 : x_r M' e = x_r M e) : Rv M' e c := fun k hk => by rw [h1]; exact h k hk
theorem Rv.step {c v : Nat} (h : Rv M e c) (hv : v = rfs e c) : Rv (x_sr M e c (some v)) e (c + 1) := fun k hk => by
  by_cases x : k = c
  · subst x; rw [hv]; exact xr_e
  · rw [xr_o (Or.inr x)]; exact h k (by omega)
/-- the cells of the sheets -/
def CP (M : Mem) (e : Nat) : Prop := x_h M (e + 1) = (4, 10) ∧ x_h M (e + 2) = (5, 10) ∧ x_h M (e + 3) = (1, 120) ∧ x_h M (e + 4) = (7, 6) ∧ (∀ i, i < 6 → x_r M (e + 4) i = some (e + 5 + i) ∧ x_h M (e + 5 + i) = (1, 40) ∧ x_i M (e + 5 + i) = fun _ => 0) ∧ x_h M (e + 11) = (1, 6) ∧ x_h M (e + 12) = (1, 6) ∧ x_i M (e + 12) = (fun _ => 0) ∧ x_h M (e + 13) = (1, 40) ∧ x_i M (e + 13) = fun _ => 0
/-- kept, but the references of the rows of rows and of questions -/
def Kx (M M' : Mem) (e hi : Nat) : Prop := ∀ q, e ≤ q → q < hi → x_h M' q = x_h M q ∧ x_i M' q = x_i M q ∧ (q ≠ e + 1 → q ≠ e + 2 → x_r M' q = x_r M q)
theorem Kx.kn (h : Kx M M' e hi) (h1 : e + 3 ≤ lo) : Kn M M' lo hi := fun q a b => by
  obtain ⟨x1, x2, x3⟩ := h q (by omega) b
  exact ⟨x1, x3 (by omega) (by omega), x2⟩
theorem CP.kx (h : CP M e) (k : Kx M M' e hi) (hh : e + 14 ≤ hi) : CP M' e := by
  obtain ⟨c1, c2, c3, c4, c5, c6, c7, c8, c9, c10⟩ := h
  have kh : ∀ q, e ≤ q → q < e + 14 → x_h M' q = x_h M q := fun q a b => (k q a (by omega)).1
  have ki : ∀ q, e ≤ q → q < e + 14 → x_i M' q = x_i M q := fun q a b => (k q a (by omega)).2.1
  refine ⟨by rw [kh _ (by omega) (by omega)]; exact c1, by rw [kh _ (by omega) (by omega)]; exact c2, by rw [kh _ (by omega) (by omega)]; exact c3, by rw [kh _ (by omega) (by omega)]; exact c4, fun i hi => ?_, by rw [kh _ (by omega) (by omega)]; exact c6, by rw [kh _ (by omega) (by omega)]; exact c7, by rw [ki _ (by omega) (by omega)]; exact c8, by rw [kh _ (by omega) (by omega)]; exact c9, by rw [ki _ (by omega) (by omega)]; exact c10⟩
  obtain ⟨x1, x2, x3⟩ := c5 i hi
  exact ⟨by rw [(k (e + 4) (by omega) (by omega)).2.2 (by omega) (by omega)]; exact x1, by rw [kh _ (by omega) (by omega)]; exact x2, by rw [ki _ (by omega) (by omega)]; exact x3⟩
def AcZ (M : Mem) (o : Nat) : Prop := (x_h M o).1 = 16 ∧ x_r M o 0 = some (o + 1) ∧ x_h M (o + 1) = (1, 50) ∧ x_i M o 1 = 0
theorem AcZ.kn (h : AcZ M o) (k : Kn M M' lo hi) (h1 : lo ≤ o) (h2 : o + 2 ≤ hi) : AcZ M' o := by
  obtain ⟨x1, x2, x3, x4⟩ := h
  exact ⟨by rw [k.h h1 (by omega)]; exact x1, by rw [k.r h1 (by omega)]; exact x2, by rw [k.h (by omega) (by omega)]; exact x3, by rw [k.i h1 (by omega)]; exact x4⟩
theorem RdXs.kn (h : RdXs M o 60) (k : Kn M M' lo hi) (h1 : lo ≤ o) (h2 : o + 488 ≤ hi) : RdXs M' o 60 := by
  obtain ⟨x1, x2, x3, x4, x5⟩ := id h
  have pp := h.pa.kn k (by omega) (by omega) (by omega) (by omega)
  exact ⟨by rw [k.h h1 (by omega)]; exact x1, by rw [k.r h1 (by omega)]; exact x2, by rw [k.r h1 (by omega)]; exact x3, x4.kn k (by omega) (by omega), pp.1, fun i hi => pp.2 i hi⟩
/-- all but the rows and the questions -/
def BD (M : Mem) (e : Nat) : Prop := (x_h M e).1 = 27 ∧ Rv M e 11 ∧ CP M e ∧ RdXs M (e + 14) 60 ∧ WeS M (e + 502) ∧ RkS M (e + 524) ∧ AcZ M (e + 534) ∧ x_i M e 11 = 2 ∧ x_i M e 12 = 0 ∧ x_i M e 13 = 0 ∧ x_i M e 14 = 0 ∧ x_i M e 15 = 0
theorem BD.kx (h : BD M e) (k : Kx M M' e hi) (hh : e + 536 ≤ hi) : BD M' e := by
  obtain ⟨x1, x2, x3, x4, x5, x6, x7, x8⟩ := h
  have kn : Kn M M' (e + 3) (e + 536) := fun q a b => (k.kn (Nat.le_refl _)) q a (by omega)
  obtain ⟨y1, y2, y3⟩ := k e (Nat.le_refl _) (by omega)
  exact ⟨by rw [y1]; exact x1, x2.eq (y3 (by omega) (by omega)), x3.kx k (by omega), x4.kn kn (by omega) (by omega), x5.kn kn (by omega) (by omega), x6.kn kn (by omega) (by omega), x7.kn kn (by omega) (by omega), by rw [y2]; exact x8⟩
/-- the first rows and questions -/
def RQ (M : Mem) (e c : Nat) : Prop := ∀ j, j < c → x_r M (e + 1) j = some (e + 536 + 8 * j) ∧ RowS M (e + 536 + 8 * j) ∧ x_r M (e + 2) j = some (e + 540 + 8 * j) ∧ QueS M (e + 540 + 8 * j)
theorem k_court137 (d : Nat) (hQ : ∀ M1, g_b G + x_n M1 = e + 616 → BD M1 e → RQ M1 e 10 → LX11_init_137 G (d + 2) 0 0 e (nI 10) M1 Q) : ∀ t i, i + t = 10 → ∀ rc rs, rc = 8 * t → rs = 1378 * t → ∀ M1, g_b G + x_n M1 = e + 536 + 8 * i → BD M1 e → RQ M1 e i → LX11_init_137 G (d + 2) rc rs e (nI i) M1 Q := by
  intro t
  induction t with
  | zero =>
    intro i hi rc rs h1 h2 M1 hn hB hR
    have ei : i = 10 := by omega
    subst ei
    have e1 : rc = 0 := by omega
    have e2 : rs = 0 := by omega
    subst e1 e2
    exact hQ M1 (by omega) hB hR
  | succ t ih =>
    intro i hi rc rs h1 h2 M1 hn hB hR
    obtain ⟨x1, x2, x3, x4⟩ := id hB
    refine vX11_init_137 _ _ ⟨fun c => absurd c (nI_ge (a := i) (b := 10) (by omega) (by omega)), fun _ => ⟨x1, e + 1, x2 0 (by omega), by omega, by omega, fun n en M11 e11 => ⟨by omega, by omega, ?_⟩⟩⟩
    have en' : n = e + 536 + 8 * i := by omega
    subst en'
    refine kk_row d (by rw [e11]; show g_b G + (x_n M1 + 1) = _; omega) (by rw [e11, nw_he]) (by omega) (by omega) (fun M16 h16 g16 r16 => ⟨rfl, ?_⟩)
    have g1 : Gw M1 M16 (e + 536 + 8 * i) := (by rw [e11]; exact Gw.rf.nw (Nat.le_refl _) : Gw M1 M11 (e + 536 + 8 * i)).tr g16 (Nat.le_refl _)
    have e1h : x_h M16 (e + 1) = (4, 10) := by rw [(g1 _ (by omega)).1]; exact x3.1
    refine ⟨by rw [e1h], r16.1, by rw [e1h]; exact vp_in_nI (show i < 10 by omega) (by omega), ?_⟩
    intro M20 e20
    rw [nI_clamp (by omega)] at e20
    have h20 : x_h M20 = x_h M16 := by rw [e20]; rfl
    have i20 : x_i M20 = x_i M16 := by rw [e20]; rfl
    have kx1 : Kx M1 M20 e (e + 536 + 8 * i) := fun q a b => by
      obtain ⟨z1, z2, z3⟩ := g1 q b
      exact ⟨by rw [h20]; exact z1, by rw [i20]; exact z3, fun c1 _ => by rw [e20, xr_na c1]; exact z2⟩
    have hB1 := hB.kx kx1 (by omega)
    refine ⟨by rw [← h20]; exact hB1.1, e + 2, hB1.2.1 1 (by omega), by omega, by omega, fun n en M26 e26 => ⟨by omega, by omega, ?_⟩⟩
    have n20 : x_n M20 = x_n M16 := by rw [e20]; rfl
    have en' : n = e + 540 + 8 * i := by omega
    subst en'
    refine kk_que d (by rw [e26]; show g_b G + (x_n M20 + 1) = _; omega) (by rw [e26, nw_he]) (by omega) (by omega) (fun M31 h31 g31 q31 => ⟨rfl, ?_⟩)
    have g2 : Gw M20 M31 (e + 540 + 8 * i) := (by rw [e26]; exact Gw.rf.nw (Nat.le_refl _) : Gw M20 M26 (e + 540 + 8 * i)).tr g31 (Nat.le_refl _)
    have e2h : x_h M31 (e + 2) = (5, 10) := by rw [(g2 _ (by omega)).1]; exact hB1.2.2.1.2.1
    refine ⟨by rw [e2h], q31.1, by rw [e2h]; exact vp_in_nI (show i < 10 by omega) (by omega), ?_⟩
    intro M35 e35
    rw [nI_clamp (by omega)] at e35
    have h35 : x_h M35 = x_h M31 := by rw [e35]; rfl
    have i35 : x_i M35 = x_i M31 := by rw [e35]; rfl
    have kx2 : Kx M20 M35 e (e + 540 + 8 * i) := fun q a b => by
      obtain ⟨z1, z2, z3⟩ := g2 q b
      exact ⟨by rw [h35]; exact z1, by rw [i35]; exact z3, fun _ c2 => by rw [e35, xr_na c2]; exact z2⟩
    have k35 : Kn M31 M35 (e + 540 + 8 * i) (e + 540 + 8 * i + 4) := by rw [e35]; exact Kn.rf.sr (by omega)
    have k20 : Kn M16 M20 (e + 536 + 8 * i) (e + 536 + 8 * i + 4) := by rw [e20]; exact Kn.rf.sr (by omega)
    rw [nI_1]
    refine ih (i + 1) (by omega) _ _ (by omega) (by omega) M35 (by rw [e35]; show g_b G + x_n M31 = _; omega) (hB1.kx kx2 (by omega)) (fun j hj => ?_)
    have r1 : x_r M35 (e + 1) = x_r M20 (e + 1) := by rw [e35, xr_na (by omega)]; exact (g2 _ (by omega)).2.1
    by_cases c : j = i
    · subst c
      refine ⟨by rw [r1, e20]; exact xr_e, ((r16.kn k20 (Nat.le_refl _) (by omega)).kn (kx2.kn (lo := e + 536 + 8 * j) (by omega)) (Nat.le_refl _) (by omega)), by rw [e35]; exact xr_e, q31.kn k35 (Nat.le_refl _) (by omega)⟩
    · obtain ⟨z1, z2, z3, z4⟩ := hR j (by omega)
      have kA := kx1.kn (lo := e + 536) (by omega)
      have kB := kx2.kn (lo := e + 536) (by omega)
      refine ⟨?_, (z2.kn kA (by omega) (by omega)).kn kB (by omega) (by omega), ?_, (z4.kn kA (by omega) (by omega)).kn kB (by omega) (by omega)⟩
      · rw [r1, e20, xr_o (Or.inr c), (g1 _ (by omega)).2.1]; exact z1
      · rw [e35, xr_o (Or.inr c), (g2 _ (by omega)).2.1, e20, xr_na (by omega), (g1 _ (by omega)).2.1]; exact z3
end CourtC
