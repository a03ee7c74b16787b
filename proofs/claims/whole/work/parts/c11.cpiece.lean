/-! ===== the class: a NOT and what lies in it ===== -/
section PieceC
variable {G : GG} {M : Mem} {r k pa p0 ra r0 L rc : Nat} {wd : Nat → Nat} {W : List Tk} {Q : Option Value → Mem → Prop}
theorem cd_ {d d' : Nat} {md : MD} {as : List Value} (e : d' = d) (h : Call G d' 0 0 md as M Q) : Call G d 0 0 md as M Q := e ▸ h
theorem bt_and : ∀ b, b < 256 → ∀ n, n < 8 → (b &&& 2 ^ n = 0 ↔ ¬ bt b n = 1) ∧ b &&& 2 ^ n < 256 := by decide +kernel
theorem RdF.si8 {p : Nat} {v : Int32} (h : RdF M r rc L W p) : RdF (x_si M r 8 v) r rc L W p := by
  obtain ⟨h1, ⟨c, h2, h3⟩, i, h4, h5, h6⟩ := h
  exact ⟨by rw [xi_nk (by omega)]; exact h1, ⟨c, h2, by rw [xi_nk (by omega)]; exact h3⟩, i, h4, by rw [xi_nk (by omega)]; exact h5, h6⟩
def ntP (L : Nat) (sub : PSt → PRt) (s : PSt) : PRt := match sub (tlS s) with
  | .inl p => .inl p
  | .inr (a, s1) => .inr (q_c s1, enP s1 (2, plT L (q_l s), a, 0, 0, p_s (q_D s1 a), s0D, s0D))
def bdS (L : Nat) (s : PSt) : PSt := ((q_l s).tail.tail, q_c s, q_D s, (if bt (q_b s) (woT (q_l s).tail) = 1 then blO (q_o s) (plT L (q_l s).tail) else q_o s), q_b s ||| 2 ^ woT (q_l s).tail, q_m s)
def bnP (L : Nat) (sub : PSt → PRt) (s : PSt) : PRt :=
  if kdT (q_l s).tail = 3 then
    match sub (bdS L s) with
    | .inl p => .inl p
    | .inr (a, s1) => .inr (q_c s1, enP (q_l s1, q_c s1, q_D s1, q_o s1, q_b s, q_m s1) (kdT (q_l s) + 1, plT L (q_l s), a, 0, 0, clr (p_s (q_D s1 a)) (woT (q_l s).tail), s0D, s0D))
  else .inl (plT L (q_l s).tail)
def ecP (L : Nat) (sub : PSt → PRt) (s : PSt) : PRt := match soG L sub 122 (tlS s) with
  | .inl p => .inl p
  | .inr (a, s1) => if kdT (q_l s1) = 12 then .inr (a, tlS s1) else .inl (plT L (q_l s1))
theorem w_contrary {n x : Nat} {sub : PSt → PRt} (hg : SgP L sub) (h : ∀ d, PcC G r k pa p0 ra r0 L rc wd W n (d + (x + 2)) sub) (hn : n < 10) (d : Nat) (hE : RdE M r k pa p0 ra r0 L rc wd W) {s : PSt} {op : Nat} (hI : RdI M r p0 rc W s) (hq : RdQ L (n + 1) op s) (hk : kdT (q_l s) = 7)
    (hQ : ∀ M', FrP M M' (RPF r p0) → RdO M' r p0 rc L W (ntP L sub s) → Q (some (.int (roV (ntP L sub s)))) M') :
    Call G (d + (x + 3)) 0 0 mX5_contrary [.ref r, .int (nI (10 - (n + 1))), .int (nI op)] M Q := by
  have hL := hE.2.2.2.2.2
  have hr : r < p0 := by have := hE.1.2.2.2.2.2.2.2; omega
  refine eX5_contrary r _ _ ⟨hE.1.1, w_placeT (d + (x + 1)) hE hI.1.2.2.1 ⟨_, rfl, hE.1.1, ?_⟩⟩
  rintro M6 rfl
  have g6 : FrP M (x_si M r 5 (x_i M r 5 + 1)) (RPF r p0) := Fr.R1 (Fr.rf.si (by simp))
  have hI6 := hI.si5 hr (show kdT (q_l s) ≠ 0 by omega) hE.len
  obtain ⟨t1, t2, t3, -⟩ := gd_tail hq.1 (show kdT (q_l s) ≠ 0 by omega)
  rw [hk] at t2
  have k7 : lnK 7 = 3 := rfl
  have q2 := hq.2.1
  have q3 := hq.2.2
  rw [nI_1, show 10 - (n + 1) + 1 = 10 - n by omega]
  refine h d _ (tlS s) op _ (hE.fr g6) hI6 ⟨t1, by show 2 * q_c s ≤ plT L (q_l s).tail; omega, by show _ ≤ plT L (q_l s).tail + 50; omega⟩ (fun M8 g8 h8 => ?_)
  have g8' := g6.tr g8 (fun _ h => h)
  unfold ntP at hQ
  cases hgs : sub (tlS s) with
  | inl p =>
    rw [hgs] at h8 hQ
    exact ⟨_, rfl, fun c => absurd (show (0 : Int32) ≤ -1 from c) (by decide), fun _ => hQ M8 g8' h8⟩
  | inr bs =>
    obtain ⟨a, s1⟩ := bs
    rw [hgs] at h8 hQ
    obtain ⟨⟨w1, w2, w3, w4, w5, w6⟩, v1, v2, v3, v4⟩ := hg (tlS s) a s1 t1 hgs
    have e4 : q_l (tlS s) = (q_l s).tail := rfl
    have e5 : q_c (tlS s) = q_c s := rfl
    simp only [e4, e5] at w2 w3 w4 w5 v1 v2 v3
    have hle1 := gd_le _ w1
    have hE8 := hE.fr g8'
    refine ⟨_, rfl, fun _ => ⟨hE8.1.1, ?_⟩, fun c => absurd (RdI.roV0 (a := a) (by omega)).2 c⟩
    refine w_joinP (f := 2) (mb := none) (d + x) hE8 h8 (by omega) (by omega) v4 (fun x e => by cases e) (fun _ => Or.inl (by omega)) (fun M21 g21 h21 => ⟨_, rfl, hQ M21 (g8'.tr g21 (fun _ h => h)) ?_⟩)
    have : p_s (q_D s1 a) ||| oSD (q_D s1) none = p_s (q_D s1 a) := Nat.or_zero _
    rw [this] at h21
    exact h21
theorem w_bindX {n x : Nat} {sub : PSt → PRt} (hg : SgP L sub) (h : ∀ d, PcC G r k pa p0 ra r0 L rc wd W n (d + (x + 3)) sub) (hn : n < 10) (d : Nat) (hE : RdE M r k pa p0 ra r0 L rc wd W) {s : PSt} {op : Nat} (hI : RdI M r p0 rc W s) (hq : RdQ L (n + 1) op s) (hk : kdT (q_l s) = 5 ∨ kdT (q_l s) = 6)
    (hQ : ∀ M', FrP M M' (RPF r p0) → RdO M' r p0 rc L W (bnP L sub s) → Q (some (.int (roV (bnP L sub s)))) M') :
    Call G (d + (x + 4)) 0 0 mX5_bind [.ref r, .int (nI (kdT (q_l s) + 1)), .int (nI (10 - (n + 1))), .int (nI op)] M Q := by
  have hL := hE.2.2.2.2.2
  have hr : r < p0 := by have := hE.1.2.2.2.2.2.2.2; omega
  have hk0 : kdT (q_l s) ≠ 0 := by omega
  refine eX5_bind r _ _ _ ⟨hE.1.1, w_placeT (d + (x + 2)) hE hI.1.2.2.1 ⟨_, rfl, hE.1.1, ?_⟩⟩
  rintro M6 rfl
  have g6 : Fr M (x_si M r 5 (x_i M r 5 + 1)) [r] := Fr.rf.si (by simp)
  have hI6 := hI.si5 hr hk0 hE.len
  have hE6 := hE.fr (g6.R1 (p0 := p0))
  obtain ⟨t1, t2, t3, -⟩ := gd_tail hq.1 hk0
  have k5 : 2 ≤ lnK (kdT (q_l s)) := by rcases hk with c | c <;> rw [c] <;> decide
  have q2 := hq.2.1
  have q3 := hq.2.2
  have hpl := gd_le _ t1
  have hkd : kdT (q_l s).tail ≤ 18 := by
    by_cases c : kdT (q_l s).tail = 0
    · omega
    · exact (gd_tail t1 c).2.2.2.2.1
  refine w_worth (d + (x + 2)) hE6 (l := (q_l s).tail) hI6.1.2.2.1 (fun v9 hv9 => ⟨_, rfl, hE6.1.1, w_peek (d + (x + 2)) hE6 (l := (q_l s).tail) hI6.1.2.2.1 ⟨_, rfl, ?_⟩⟩)
  rw [show (3 : Int32) = nI 3 from rfl, nI_eq (by omega) (by omega)]
  have c4 : ∀ {M'}, FrP M M' (RPF r p0) → RdI M' r p0 rc W (tlS s) → kdT (q_l s).tail ≠ 3 → LX5_bind_50 G (d + (x + 3)) 0 0 r (nI (kdT (q_l s) + 1)) (nI (10 - (n + 1))) (nI op) (nI (plT L (q_l s))) (1 <<< (v9 &&& 31)) M' Q := by
    intro M' g hI' cn
    have hE' := hE.fr g
    refine vX5_bind_50 _ _ _ _ _ _ ⟨hE'.1.1, w_eat (kd := 3) (d + x) hE' hI' (by omega) (by omega) (fun e => absurd e cn) (fun _ M3 g3 f3 => ⟨0, rfl, fun c => absurd rfl c, fun _ => ?_⟩)⟩
    have e : bnP L sub s = .inl (plT L (q_l s).tail) := by unfold bnP; rw [if_neg cn]
    rw [e] at hQ
    exact hQ M3 (g.tr (g3.R1 (p0 := p0)) (fun _ h => h)) f3
  refine ⟨fun cn => ?_, fun cn => ⟨hE6.1.1, ?_⟩⟩
  · exact c4 (g6.R1 (p0 := p0)) hI6 cn
  obtain ⟨f1, f2, f3, f4⟩ := gd_tail t1 (show kdT (q_l s).tail ≠ 0 by omega)
  have hw8 : woT (q_l s).tail < 8 := f4.2.2.2.1 cn
  have ev := hv9 (by omega)
  have k3 := ln_pos (kdT (q_l s).tail)
  have hb256 : q_b s < 256 := hI.2.1.2.2.1
  have e8 : x_i (x_si M r 5 (x_i M r 5 + 1)) r 8 = nI (q_b s) := hI6.1.2.2.2.2.2.1
  have ebit : (1 : Int32) <<< (v9 &&& 31) = nI (2 ^ woT (q_l s).tail) := by rw [ev]; exact sl_1 (by omega)
  obtain ⟨ba1, ba2⟩ := bt_and (q_b s) hb256 _ hw8
  have eu : bnP L sub s = (match sub (bdS L s) with | .inl p => .inl p | .inr (a, s1) => .inr (q_c s1, enP (q_l s1, q_c s1, q_D s1, q_o s1, q_b s, q_m s1) (kdT (q_l s) + 1, plT L (q_l s), a, 0, 0, clr (p_s (q_D s1 a)) (woT (q_l s).tail), s0D, s0D))) := by
    unfold bnP
    rw [if_pos cn]
  rw [eu] at hQ
  have main : ∀ M' o', (if bt (q_b s) (woT (q_l s).tail) = 1 then blO (q_o s) (plT L (q_l s).tail) else q_o s) = o' → FrP M M' (RPF r p0) → RdI M' r p0 rc W (stO (tlS s) o') → LX5_bind_50 G (d + (x + 3)) 0 0 r (nI (kdT (q_l s) + 1)) (nI (10 - (n + 1))) (nI op) (nI (plT L (q_l s))) (1 <<< (v9 &&& 31)) M' Q := by
    intro M' o' eo g hI'
    have hE' := hE.fr g
    refine vX5_bind_50 _ _ _ _ _ _ ⟨hE'.1.1, w_eat (kd := 3) (d + x) hE' hI' (by omega) (by omega) (fun e M3 g3 hI3 => ⟨1, rfl, fun _ => ⟨by rw [g3.h]; exact hE'.1.1, ?_⟩, fun c => absurd c (by decide)⟩) (fun e => absurd cn e)⟩
    rintro M7 rfl
    have e8' : x_i M3 r 8 = nI (q_b s) := hI3.1.2.2.2.2.2.1
    rw [e8', ebit, nI_or, nI_1, show 10 - (n + 1) + 1 = 10 - n by omega]
    have g37 : Fr M3 (x_si M3 r 8 (nI (q_b s ||| 2 ^ woT (q_l s).tail))) [r] := Fr.rf.si (by simp)
    have g7 := (g.tr (g3.R1 (p0 := p0)) (fun _ h => h)).tr (g37.R1 (p0 := p0)) (fun _ h => h)
    have hI7 : RdI (x_si M3 r 8 (nI (q_b s ||| 2 ^ woT (q_l s).tail))) r p0 rc W (bdS L s) := by
      obtain ⟨⟨c1, c2, c3, c4, c5, c6, c7⟩, ⟨d1, d2, d3, d4, d5⟩, -⟩ := id hI3
      refine hI3.keep hr g37 ⟨by rw [xi_nk (by omega)]; exact c1, by rw [xi_nk (by omega)]; exact c2, ?_, by rw [xi_nk (by omega)]; exact c4, ?_, xi_eq, by rw [xi_nk (by omega)]; exact c7⟩ ⟨d1, d2, or_256 hb256 (pw_256 hw8), d4, ?_⟩ rfl rfl
      · obtain ⟨i, i1, i2, i3⟩ := c3
        exact ⟨i, i1, i2, by rw [xi_nk (by omega)]; exact i3⟩
      · rw [xi_nk (by omega), c5]
        rw [show q_o (bdS L s) = o' from eo]
        rfl
      · rw [show q_o (bdS L s) = o' from eo]
        exact d5
    refine h d _ (bdS L s) op _ (hE.fr g7) hI7 ⟨f1, by show 2 * q_c s ≤ plT L (q_l s).tail.tail; omega, by show _ ≤ plT L (q_l s).tail.tail + 50; omega⟩ (fun M9 g9 h9 => ?_)
    have g9' := g7.tr g9 (fun _ h => h)
    have hE9 := hE.fr g9'
    cases hgs : sub (bdS L s) with
    | inl p =>
      rw [hgs] at h9 hQ
      refine ⟨_, rfl, hE9.1.1, ?_⟩
      rintro M12 rfl
      have h9' : RdF M9 r rc L W p := h9
      exact ⟨fun c => absurd (show (0 : Int32) ≤ -1 from c) (by decide), fun _ => hQ _ (g9'.tr (Fr.R1 (p0 := p0) (Fr.rf.si (by simp))) (fun _ h => h)) h9'.si8⟩
    | inr bs =>
      obtain ⟨a, s1⟩ := bs
      rw [hgs] at h9 hQ
      obtain ⟨⟨w1, w2, w3, w4, w5, w6⟩, v1, v2, v3, v4⟩ := hg (bdS L s) a s1 f1 hgs
      have e4 : q_l (bdS L s) = (q_l s).tail.tail := rfl
      have e5 : q_c (bdS L s) = q_c s := rfl
      simp only [e4, e5] at w2 w3 w4 w5 v1 v2 v3
      have hle1 := gd_le _ w1
      refine ⟨_, rfl, hE9.1.1, ?_⟩
      rintro M12 rfl
      have g912 : Fr M9 (x_si M9 r 8 (nI (q_b s))) [r] := Fr.rf.si (by simp)
      have g12 := g9'.tr (g912.R1 (p0 := p0)) (fun _ h => h)
      have hE12 := hE.fr g12
      have h9' : RdI M9 r p0 rc W s1 := h9
      have hI12 : RdI (x_si M9 r 8 (nI (q_b s))) r p0 rc W (q_l s1, q_c s1, q_D s1, q_o s1, q_b s, q_m s1) := by
        obtain ⟨⟨c1, c2, c3, c4, c5, c6, c7⟩, ⟨d1, d2, d3, d4, d5⟩, -⟩ := id h9'
        refine h9'.keep hr g912 ⟨by rw [xi_nk (by omega)]; exact c1, by rw [xi_nk (by omega)]; exact c2, ?_, by rw [xi_nk (by omega)]; exact c4, by rw [xi_nk (by omega)]; exact c5, xi_eq, by rw [xi_nk (by omega)]; exact c7⟩ ⟨d1, d2, hb256, d4, d5⟩ rfl rfl
        obtain ⟨i, i1, i2, i3⟩ := c3
        exact ⟨i, i1, i2, by rw [xi_nk (by omega)]; exact i3⟩
      have hc1 : q_c s1 < 60 := by omega
      refine ⟨fun _ => ?_, fun c => absurd (RdI.roV0 (a := a) (by omega)).2 c⟩
      refine w_join (a := some a) (b := none) (d + (x + 1)) hE12 hI12 hc1 (fun y e => by cases e; exact v4) (fun y e => by cases e) (fun M15 g15 k1 k2 k3 k4 k5 k6 k8 => ⟨_, rfl, fun c => absurd c (RdI.roV0 (a := q_c s1) (by omega)).1, fun _ => ?_⟩)
      have hE15 := hE12.fr (g15.R (fun q hq => part_R hc1 (by simp only [List.mem_cons, List.not_mem_nil, or_false] at hq ⊢; simp only [q_c] at *; omega)))
      obtain ⟨z1, z2⟩ := hE15.1.2.2.2.2.2.1.2 (q_c s1) hc1
      have hcl : (nI (q_c s1)).toNatClampNeg = q_c s1 := nI_clamp (by omega)
      refine ⟨hE15.1.1, pa, hE15.1.2.2.1, by rw [hE15.1.2.2.2.2.2.1.1]; exact ⟨by decide, by decide⟩, by rw [hE15.1.2.2.2.2.2.1.1]; exact vp_in_nI hc1 (by omega), p0 + 8 * q_c s1, by rw [show (nI (q_c (q_l s1, q_c s1, q_D s1, q_o s1, q_b s, q_m s1))).toNatClampNeg = q_c s1 from hcl]; exact z1, z2.1, ?_⟩
      rintro M24 rfl
      have hpsa : p_s (q_D s1 a) < 256 := h9'.2.1.2.1 a v4
      have k8' : x_i M15 (p0 + 8 * q_c s1) 8 = nI (p_s (q_D s1 a)) := by
        have : p_s (q_D s1 a) ||| 0 = p_s (q_D s1 a) := Nat.or_zero _
        rw [← this]
        exact k8
      obtain ⟨cI1, cI2⟩ := clr_I _ hpsa _ hw8
      rw [k8', ← ebit, ev, cI1]
      have gE : Fr (x_si M9 r 8 (nI (q_b s))) (x_si M15 (p0 + 8 * q_c s1) 8 (nI (clr (p_s (q_D s1 a)) (woT (q_l s).tail)))) [r, p0 + 8 * q_c s1, p0 + 8 * q_c s1 + 1, p0 + 8 * q_c s1 + 2, p0 + 8 * q_c s1 + 3, p0 + 8 * q_c s1 + 4] := (Fr.wk (B := [r, p0 + 8 * q_c s1, p0 + 8 * q_c s1 + 1, p0 + 8 * q_c s1 + 2, p0 + 8 * q_c s1 + 3, p0 + 8 * q_c s1 + 4]) g15 (by intro q hq; simp only [q_c] at hq; simp only [List.mem_cons, List.not_mem_nil, or_false, q_c] at hq ⊢; omega)).si (by simp)
      refine hQ _ (g12.tr (gE.R (fun q hq => part_R hc1 hq)) (fun _ h => h)) (hI12.endP hr hc1 gE (fun t ht => by rw [xi_na (by omega)]; exact k1 t ht) (by rw [xi_na (by omega)]; exact k2) ⟨?_, ?_, ?_, fun c => ?_, fun c => ?_, fun _ => ?_, fun c => ?_⟩ cI2)
      · show x_i _ (p0 + 8 * q_c s1) 3 = _
        rw [xi_nk (by omega)]; exact k3
      · show x_i _ (p0 + 8 * q_c s1) 4 = _
        rw [xi_nk (by omega)]; exact k4
      · show x_i _ (p0 + 8 * q_c s1) 8 = _
        rw [xi_eq]; rfl
      · have : kdT (q_l s) + 1 = 0 := c; omega
      · have : kdT (q_l s) + 1 ≤ 1 := c; omega
      · show x_i _ (p0 + 8 * q_c s1) 5 = _
        rw [xi_nk (by omega)]; exact k5
      · have : 3 ≤ kdT (q_l s) + 1 ∧ kdT (q_l s) + 1 ≤ 5 := c; omega
  rw [e8, ebit, nI_and, show (0 : Int32) = nI 0 from rfl, nI_eq (by omega) (by omega), ba1, ← ebit]
  refine ⟨fun c => main _ (q_o s) (if_neg c) (g6.R1 (p0 := p0)) hI6, fun c => w_placeT (d + (x + 2)) hE6 (l := (q_l s).tail) hI6.1.2.2.1 ⟨_, rfl, hE6.1.1, w_blame (d + (x + 2)) hE6 hI6 (by omega) (fun M22 g22 hI22 => ⟨rfl, main M22 _ (if_pos (Classical.not_not.mp c)) ((g6.R1 (p0 := p0)).tr (g22.R1 (p0 := p0)) (fun _ h => h)) hI22⟩)⟩⟩
end PieceC
