/-! ===== constructors: kinds that hold others ===== -/
section Kinds2C
variable {G : GG} {M M' M0 : Mem} {o rc rs lo hi : Nat} {Q : Option Value → Mem → Prop}
/-- from lo on, below hi, all is as it was -/
def Kn (M M' : Mem) (lo hi : Nat) : Prop := ∀ q, lo ≤ q → q < hi → x_h M' q = x_h M q ∧ x_r M' q = x_r M q ∧ x_i M' q = x_i M q
theorem Kn.rf : Kn M M lo hi := fun _ _ _ => ⟨rfl, rfl, rfl⟩
theorem Kn.tr {M'' : Mem} (h : Kn M M' lo hi) (h2 : Kn M' M'' lo hi) : Kn M M'' lo hi := fun q h1 h3 => by
  obtain ⟨a1, a2, a3⟩ := h q h1 h3
  obtain ⟨b1, b2, b3⟩ := h2 q h1 h3
  exact ⟨b1.trans a1, b2.trans a2, b3.trans a3⟩
theorem Gw.kn (h : Gw M M' o) (ho : hi ≤ o) : Kn M M' lo hi := fun q _ hq => h q (by omega)
theorem Kn.nw {a kd ln : Nat} (h : Kn M M' lo hi) (ha : a < lo ∨ hi ≤ a) : Kn M (x_new M' a kd ln) lo hi := fun q h1 h3 => by
  obtain ⟨a1, a2, a3⟩ := h q h1 h3
  exact ⟨(nw_hn (by omega)).trans a1, (nw_rn (by omega)).trans a2, (nw_in (by omega)).trans a3⟩
theorem Kn.sr {a k : Nat} {v : Option Nat} (h : Kn M M' lo hi) (ha : a < lo ∨ hi ≤ a) : Kn M (x_sr M' a k v) lo hi := fun q h1 h3 => by
  obtain ⟨a1, a2, a3⟩ := h q h1 h3
  exact ⟨a1, (xr_na (by omega)).trans a2, a3⟩
theorem Kn.si {a k : Nat} {v : Int32} (h : Kn M M' lo hi) (ha : a < lo ∨ hi ≤ a) : Kn M (x_si M' a k v) lo hi := fun q h1 h3 => by
  obtain ⟨a1, a2, a3⟩ := h q h1 h3
  exact ⟨a1, a2, (xi_na' (by omega)).trans a3⟩
theorem Kn.h (h : Kn M M' lo hi) {q : Nat} (h1 : lo ≤ q) (h2 : q < hi) : x_h M' q = x_h M q := (h q h1 h2).1
theorem Kn.r (h : Kn M M' lo hi) {q : Nat} (h1 : lo ≤ q) (h2 : q < hi) : x_r M' q = x_r M q := (h q h1 h2).2.1
theorem Kn.i (h : Kn M M' lo hi) {q : Nat} (h1 : lo ≤ q) (h2 : q < hi) : x_i M' q = x_i M q := (h q h1 h2).2.2
theorem LeS.kn {a nm nk : Nat} (h : LeS M a (a + 1) (a + 2) nm nk) (k : Kn M M' lo hi) (h1 : lo ≤ a) (h2 : a + 3 ≤ hi) : LeS M' a (a + 1) (a + 2) nm nk := by
  unfold LeS at h ⊢
  rw [k.h (q := a) (by omega) (by omega), k.h (q := a + 1) (by omega) (by omega), k.h (q := a + 2) (by omega) (by omega), k.r (q := a) (by omega) (by omega)]
  exact h
theorem SiS.kn {a : Nat} (h : SiS M a) (k : Kn M M' lo hi) (h1 : lo ≤ a) (h2 : a + 2 ≤ hi) : SiS M' a := by
  unfold SiS at h ⊢
  rw [k.h (q := a) (by omega) (by omega), k.h (q := a + 1) (by omega) (by omega), k.r (q := a) (by omega) (by omega)]
  exact h
theorem PaS.kn {a : Nat} (h : PaS M a) (k : Kn M M' lo hi) (h1 : lo ≤ a) (h2 : a + 8 ≤ hi) : PaS M' a := by
  obtain ⟨p1, p2, p3, p4, p5, p6, p7⟩ := h
  refine ⟨by rw [k.h h1 (by omega)]; exact p1, by rw [k.r h1 (by omega)]; exact p2, by rw [k.r h1 (by omega)]; exact p3, by rw [k.r h1 (by omega)]; exact p4, p5.kn k (by omega) (by omega), p6.kn k (by omega) (by omega), p7.kn k (by omega) (by omega)⟩
theorem LoS.kn {a : Nat} (h : LoS M a) (k : Kn M M' lo hi) (h1 : lo ≤ a) (h2 : a + 8 ≤ hi) : LoS M' a := by
  unfold LoS at h ⊢
  rw [k.h (q := a) (by omega) (by omega), k.r (q := a) (by omega) (by omega), k.h (q := a + 1) (by omega) (by omega), k.h (q := a + 2) (by omega) (by omega), k.h (q := a + 3) (by omega) (by omega), k.h (q := a + 4) (by omega) (by omega), k.h (q := a + 5) (by omega) (by omega), k.h (q := a + 6) (by omega) (by omega), k.h (q := a + 7) (by omega) (by omega)]
  exact h
theorem TokS.kn {a : Nat} (h : TokS M a) (k : Kn M M' lo hi) (h1 : lo ≤ a) (h2 : a + 5 ≤ hi) : TokS M' a := by
  unfold TokS at h ⊢
  rw [k.h (q := a) (by omega) (by omega), k.r (q := a) (by omega) (by omega), k.h (q := a + 1) (by omega) (by omega), k.h (q := a + 2) (by omega) (by omega), k.h (q := a + 3) (by omega) (by omega)]
  exact h
theorem RowS.kn {a : Nat} (h : RowS M a) (k : Kn M M' lo hi) (h1 : lo ≤ a) (h2 : a + 4 ≤ hi) : RowS M' a := ⟨by rw [k.h h1 (by omega)]; exact h.1, by rw [k.r h1 (by omega)]; exact h.2.1, h.2.2.kn k (by omega) (by omega)⟩
theorem QueS.kn {a : Nat} (h : QueS M a) (k : Kn M M' lo hi) (h1 : lo ≤ a) (h2 : a + 4 ≤ hi) : QueS M' a := ⟨by rw [k.h h1 (by omega)]; exact h.1, by rw [k.r h1 (by omega)]; exact h.2.1, h.2.2.kn k (by omega) (by omega)⟩
theorem RkS.kn {a : Nat} (h : RkS M a) (k : Kn M M' lo hi) (h1 : lo ≤ a) (h2 : a + 10 ≤ hi) : RkS M' a := by
  unfold RkS at h ⊢
  rw [k.h (q := a) (by omega) (by omega), k.r (q := a) (by omega) (by omega), k.h (q := a + 1) (by omega) (by omega), k.h (q := a + 2) (by omega) (by omega), k.h (q := a + 3) (by omega) (by omega), k.h (q := a + 4) (by omega) (by omega), k.h (q := a + 5) (by omega) (by omega), k.h (q := a + 6) (by omega) (by omega), k.h (q := a + 7) (by omega) (by omega), k.h (q := a + 8) (by omega) (by omega), k.h (q := a + 9) (by omega) (by omega)]
  exact h
theorem WeS.kn {a : Nat} (h : WeS M a) (k : Kn M M' lo hi) (h1 : lo ≤ a) (h2 : a + 22 ≤ hi) : WeS M' a := by
  obtain ⟨p1, p2, p3, p4, p5⟩ := h
  refine ⟨by rw [k.h h1 (by omega)]; exact p1, p2.kn k (by omega) (by omega), p3.kn k (by omega) (by omega), p4.kn k (by omega) (by omega), ?_⟩
  rw [k.r (q := a) (by omega) (by omega), k.h (q := a + 15) (by omega) (by omega), k.h (q := a + 16) (by omega) (by omega), k.h (q := a + 17) (by omega) (by omega), k.h (q := a + 18) (by omega) (by omega), k.h (q := a + 19) (by omega) (by omega), k.h (q := a + 20) (by omega) (by omega), k.h (q := a + 21) (by omega) (by omega)]
  exact p5
theorem PartsS.kn {a p : Nat} (h : PartsS M a p) (k : Kn M M' lo hi) (h1 : lo ≤ a) (h2 : a < hi) (h3 : lo ≤ p) (h4 : p + 480 ≤ hi) : PartsS M' a p := ⟨by rw [k.h h1 h2]; exact h.1, fun i hi => ⟨by rw [k.r h1 h2]; exact (h.2 i hi).1, (h.2 i hi).2.kn k (by omega) (by omega)⟩⟩
theorem kk_row (d : Nat) (hN : g_b G + x_n M = o + 1) (ho : (x_h M o).1 = 23) (hrc : 3 ≤ rc) (hrs : 244 ≤ rs) (hQ : ∀ M', g_b G + x_n M' = o + 4 → Gw M M' o → RowS M' o → Q none M') : Call G (d + 2) rc rs mX7_init [.ref o] M Q := by
  refine eX7_init o ⟨by omega, by omega, fun n e M4 e4 => ⟨by omega, by omega, ?_⟩⟩
  have en : n = o + 1 := by omega
  subst en
  show Call G (d + 1) 2 240 mX1_init [.ref (o + 1), .int (nI 60), .int (nI 3)] M4 _
  refine kk_least d (by rw [e4]; show g_b G + (x_n M + 1) = _; omega) (by rw [e4, nw_he]) (by omega) (by omega) (by omega) (by omega) (fun M9 h9 g9 l9 => ⟨rfl, ?_⟩)
  have g1 : Gw M M9 (o + 1) := (by rw [e4]; exact Gw.rf.nw (by omega) : Gw M M4 (o + 1)).tr g9 (Nat.le_refl _)
  have h23 : (x_h M9 o).1 = 23 := by rw [(g1 o (by omega)).1]; exact ho
  refine ⟨h23, ?_⟩
  rintro M11 rfl M12 rfl M13 rfl
  have k : Kn M9 (x_si (x_si (x_sr M9 o 0 (some (o + 1))) o 1 0) o 2 (-1)) (o + 1) (o + 4) := ((Kn.rf.sr (by omega)).si (by omega)).si (by omega)
  refine hQ _ h9 (((Gw.tr (o' := o + 1) (Gw.rf (M := M)) g1 (by omega) : Gw M M9 o).sr (Nat.le_refl _)).si (Nat.le_refl _) |>.si (Nat.le_refl _)) ⟨h23, ?_, l9.kn k (by omega) (by omega)⟩
  show x_r (x_sr M9 o 0 (some (o + 1))) o 0 = _
  exact xr_e
theorem kk_que (d : Nat) (hN : g_b G + x_n M = o + 1) (ho : (x_h M o).1 = 20) (hrc : 3 ≤ rc) (hrs : 1124 ≤ rs) (hQ : ∀ M', g_b G + x_n M' = o + 4 → Gw M M' o → QueS M' o → Q none M') : Call G (d + 2) rc rs mX4_init [.ref o] M Q := by
  refine eX4_init o ⟨by omega, by omega, fun n e M4 e4 => ⟨by omega, by omega, ?_⟩⟩
  have en : n = o + 1 := by omega
  subst en
  show Call G (d + 1) 2 1120 mX1_init [.ref (o + 1), .int (nI 40), .int (nI 27)] M4 _
  refine kk_least d (by rw [e4]; show g_b G + (x_n M + 1) = _; omega) (by rw [e4, nw_he]) (by omega) (by omega) (by omega) (by omega) (fun M9 h9 g9 l9 => ⟨rfl, ?_⟩)
  have g1 : Gw M M9 (o + 1) := (by rw [e4]; exact Gw.rf.nw (by omega) : Gw M M4 (o + 1)).tr g9 (Nat.le_refl _)
  have h23 : (x_h M9 o).1 = 20 := by rw [(g1 o (by omega)).1]; exact ho
  refine ⟨h23, ?_⟩
  rintro M11 rfl M12 rfl M13 rfl M14 rfl M15 rfl M16 rfl M17 rfl
  have k : Kn M9 (x_si (x_si (x_si (x_si (x_si (x_si (x_sr M9 o 0 (some (o + 1))) o 1 0) o 2 (-1)) o 3 (-1)) o 4 0) o 5 0) o 6 0) (o + 1) (o + 4) := ((((((Kn.rf.sr (by omega)).si (by omega)).si (by omega)).si (by omega)).si (by omega)).si (by omega)).si (by omega)
  refine hQ _ h9 (((((((Gw.tr (o' := o + 1) (Gw.rf (M := M)) g1 (by omega) : Gw M M9 o).sr (Nat.le_refl _)).si (Nat.le_refl _)).si (Nat.le_refl _)).si (Nat.le_refl _)).si (Nat.le_refl _)).si (Nat.le_refl _) |>.si (Nat.le_refl _)) ⟨h23, ?_, l9.kn k (by omega) (by omega)⟩
  show x_r (x_sr M9 o 0 (some (o + 1))) o 0 = _
  exact xr_e
theorem kk_part (d : Nat) (hN : g_b G + x_n M = o + 1) (ho : (x_h M o).1 = 19) (hrc : 7 ≤ rc) (hrs : 1148 ≤ rs) (hQ : ∀ M', g_b G + x_n M' = o + 8 → Gw M M' o → PaS M' o → Q none M') : Call G (d + 2) rc rs mX3_init [.ref o] M Q := by
  refine eX3_init o ⟨by omega, by omega, fun n e M4 e4 => ⟨by omega, by omega, ?_⟩⟩
  have en : n = o + 1 := by omega
  subst en
  refine kk_side d (by rw [e4]; show g_b G + (x_n M + 1) = _; omega) (by rw [e4, nw_he]) (by omega) (by omega) (fun M9 h9 g9 s9 => ⟨rfl, ?_⟩)
  have g1 : Gw M M9 (o + 1) := (by rw [e4]; exact Gw.rf.nw (by omega) : Gw M M4 (o + 1)).tr g9 (Nat.le_refl _)
  have h19 : (x_h M9 o).1 = 19 := by rw [(g1 o (by omega)).1]; exact ho
  clear e g9 e4
  refine ⟨h19, fun M11 e11 => ⟨by omega, by omega, fun n e M15 e15 => ⟨by omega, by omega, ?_⟩⟩⟩
  have n11 : x_n M11 = x_n M9 := by rw [e11]; rfl
  have en : n = o + 3 := by omega
  subst en
  refine kk_side d (by rw [e15]; show g_b G + (x_n M11 + 1) = _; omega) (by rw [e15, nw_he]) (by omega) (by omega) (fun M20 h20 g20 s20 => ⟨rfl, ?_⟩)
  have g2 : Gw M11 M20 (o + 3) := (by rw [e15]; exact Gw.rf.nw (by omega) : Gw M11 M15 (o + 3)).tr g20 (Nat.le_refl _)
  have k2 : Kn M9 M20 (o + 1) (o + 3) := (by rw [e11]; exact Kn.rf.sr (by omega) : Kn M9 M11 (o + 1) (o + 3)).tr (g2.kn (by omega))
  have r20 : x_r M20 o = x_r M11 o := (g2 o (by omega)).2.1
  have h19b : (x_h M20 o).1 = 19 := by rw [(g2 o (by omega)).1, e11]; exact h19
  have gg2 : Gw M M20 o := ((by rw [e11]; exact (Gw.rf.sr (Nat.le_refl _)) : Gw M9 M11 o) |> fun h => (Gw.tr (Gw.rf (M := M)) g1 (by omega) : Gw M M9 o).tr h (Nat.le_refl _)).tr g2 (by omega)
  clear e g20 e15
  refine ⟨h19b, fun M22 e22 => ⟨by omega, by omega, fun n e M26 e26 => ⟨by omega, by omega, ?_⟩⟩⟩
  have n22 : x_n M22 = x_n M20 := by rw [e22]; rfl
  have en : n = o + 5 := by omega
  subst en
  show Call G (d + 1) 2 1120 mX1_init [.ref (o + 5), .int (nI 40), .int (nI 27)] M26 _
  refine kk_least d (by rw [e26]; show g_b G + (x_n M22 + 1) = _; omega) (by rw [e26, nw_he]) (by omega) (by omega) (by omega) (by omega) (fun M31 h31 g31 l31 => ⟨rfl, ?_⟩)
  have g3 : Gw M22 M31 (o + 5) := (by rw [e26]; exact Gw.rf.nw (by omega) : Gw M22 M26 (o + 5)).tr g31 (Nat.le_refl _)
  have k3 : Kn M20 M31 (o + 1) (o + 5) := (by rw [e22]; exact Kn.rf.sr (by omega) : Kn M20 M22 (o + 1) (o + 5)).tr (g3.kn (by omega))
  have h19c : (x_h M31 o).1 = 19 := by rw [(g3 o (by omega)).1, e22]; exact h19b
  have r31 : x_r M31 o = x_r M22 o := (g3 o (by omega)).2.1
  refine ⟨h19c, ?_⟩
  rintro M33 rfl M34 rfl M35 rfl M36 rfl M37 rfl M38 rfl M39 rfl
  have gg3 : Gw M M31 o := (gg2.tr (by rw [e22]; exact Gw.rf.sr (Nat.le_refl _) : Gw M20 M22 o) (Nat.le_refl _)).tr g3 (by omega)
  have k4 : Kn M31 (x_si (x_si (x_si (x_si (x_si (x_si (x_sr M31 o 2 (some (o + 5))) o 3 0) o 4 0) o 5 (-1)) o 6 (-1)) o 7 16) o 8 0) (o + 1) (o + 8) := ((((((Kn.rf.sr (by omega)).si (by omega)).si (by omega)).si (by omega)).si (by omega)).si (by omega)).si (by omega)
  have r0 : x_r M31 o 0 = some (o + 1) := by rw [r31, e22, xr_o (Or.inr (by omega)), r20, e11]; exact xr_e
  have r1 : x_r M31 o 1 = some (o + 3) := by rw [r31, e22]; exact xr_e
  have kk : Kn M31 (x_si (x_si (x_si (x_si (x_si (x_si (x_sr M31 o 2 (some (o + 5))) o 3 0) o 4 0) o 5 (-1)) o 6 (-1)) o 7 16) o 8 0) (o + 1) (o + 5) := fun q h1 h2 => k4 q h1 (by omega)
  refine hQ _ h31 ((((((gg3.sr (Nat.le_refl _)).si (Nat.le_refl _)).si (Nat.le_refl _)).si (Nat.le_refl _)).si (Nat.le_refl _)).si (Nat.le_refl _) |>.si (Nat.le_refl _)) ⟨h19c, ?_, ?_, ?_, s9.kn (k2.tr (fun q h1 h2 => (k3.tr kk) q h1 (by omega))) (by omega) (by omega), s20.kn (k3.tr kk) (by omega) (by omega), l31.kn k4 (by omega) (by omega)⟩
  · show x_r (x_sr M31 o 2 (some (o + 5))) o 0 = _
    rw [xr_o (Or.inr (by omega))]; exact r0
  · show x_r (x_sr M31 o 2 (some (o + 5))) o 1 = _
    rw [xr_o (Or.inr (by omega))]; exact r1
  · show x_r (x_sr M31 o 2 (some (o + 5))) o 2 = _
    exact xr_e
end Kinds2C
