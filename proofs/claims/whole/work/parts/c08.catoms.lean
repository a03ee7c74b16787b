/-! ===== the class: its atoms ===== -/
section AtomsC
variable {G : GG} {M : Mem} {r k pa p0 ra r0 L rc sd : Nat} {wd : Nat → Nat} {W : List Tk} {Q : Option Value → Mem → Prop}
theorem or_1024 {a b : Nat} (ha : a < 1024) (hb : b < 1024) : a ||| b < 1024 := Nat.or_lt_two_pow (n := 10) ha hb
theorem pw_1024 {w : Nat} (h : w < 10) : 2 ^ w < 1024 := Nat.pow_lt_pow_right (by omega) (m := w) (n := 10) h
/-- the end of an entry: is the row there, and narrow enough? -/
theorem w_entry98 (d : Nat) (hE : RdE M r k pa p0 ra r0 L rc wd W) {l : List Tk} {c : Nat} {D : Nat → PD} {o : Option Nat} {b m w p : Nat} {more : Bool} {S : SD} (hI : RdI M r p0 rc W (l, c, D, o, b, m)) (hG : GdT L l) (hSi : SiI M sd S) (hc : c < 60) (h1 : p0 + 8 * c + 1 ≤ sd) (h2 : sd + 1 ≤ p0 + 8 * c + 4) (hw : w < 10) (hp : p ≤ 120)
    (hQ0 : ∀ p' M', tEz L rc wd w p more S l o m = .inl p' → Fr M M' [r, sd, sd + 1] → RdF M' r rc L W p' → Q (some (.int 0)) M')
    (hQ1 : ∀ S' l' o' m' M', tEz L rc wd w p more S l o m = .inr (S', l', o', m') → Fr M M' [r, sd, sd + 1] → RdI M' r p0 rc W (l', c, D, o', b, m') → SiI M' sd S' → Q (some (.int 1)) M') :
    LX5_entry_98 G (d + 4) 0 0 r sd (nI w) (nI p) (nI (if more = true then 1 else 0)) M Q := by
  have hr : r < p0 := by have := hE.1.2.2.2.2.2.2.2; omega
  have h3 := hI.1.1
  have rest : ∀ M' o' m' bad, Fr M M' [r] → RdI M' r p0 rc W (l, c, D, o', b, m') → (bad = true ↔ (rc ≤ w ∨ (more = true ∧ 6 < wd w))) → (o' = if bad = true then blO o p else o) → (m' = if bad = true then m else m ||| 2 ^ w) → Call G (d + 4) 0 0 mX5_eat [.ref r, .int 14] M' (fun r6 M7 => ∃ v8 : Int32, r6 = some (.int v8) ∧ (v8 = 0 ∨ v8 = 1) ∧ Q (some (.int v8)) M7) := by
    intro M' o' m' bad g hI' hb eo em
    have hE' := hE.fr (g.R1)
    refine w_eat (kd := 14) (d + 1) hE' hI' (by omega) (by omega) (fun e M7 g7 hI7 => ⟨1, rfl, Or.inr rfl, ?_⟩) (fun e M7 g7 f7 => ⟨0, rfl, Or.inl rfl, ?_⟩)
    · have e' : kdT l = 14 := e
      refine hQ1 S l.tail o' m' M7 ?_ ((g.tr g7 (fun _ h => h)).wk (by simp)) hI7 ((hSi.fr g (by rw [List.mem_singleton]; omega) (by rw [List.mem_singleton]; omega)).fr g7 (by rw [List.mem_singleton]; omega) (by rw [List.mem_singleton]; omega))
      unfold tEz
      rw [if_pos e']
      by_cases cb : bad = true
      · rw [if_pos (hb.mp cb), eo, em, if_pos cb, if_pos cb]
      · rw [if_neg (fun x => cb (hb.mpr x)), eo, em, if_neg cb, if_neg cb]
    · have e' : ¬ kdT l = 14 := e
      refine hQ0 _ M7 ?_ ((g.tr g7 (fun _ h => h)).wk (by simp)) f7
      unfold tEz
      rw [if_neg e']
      rfl
  have bad : (rc ≤ w ∨ (more = true ∧ 6 < wd w)) → Call G (d + 4) 0 0 mX5_blame [.ref r, .int (nI p)] M (fun r3 M4 => r3 = none ∧ (x_h M4 r).1 = 21 ∧ Call G (d + 4) 0 0 mX5_eat [.ref r, .int 14] M4 (fun r6 M7 => ∃ v8 : Int32, r6 = some (.int v8) ∧ (v8 = 0 ∨ v8 = 1) ∧ Q (some (.int v8)) M7)) := fun hb =>
    w_blame (d + 3) hE hI hp (fun M4 g4 hI4 => ⟨rfl, by rw [g4.h]; exact hE.1.1, rest M4 _ m true g4 hI4 ⟨fun _ => hb, fun _ => rfl⟩ rfl rfl⟩)
  have good : ¬ (rc ≤ w ∨ (more = true ∧ 6 < wd w)) → ∀ M10, M10 = x_si M r 9 (x_i M r 9 ||| (1 <<< (nI w &&& 31))) → Call G (d + 4) 0 0 mX5_eat [.ref r, .int 14] M10 (fun r6 M7 => ∃ v8 : Int32, r6 = some (.int v8) ∧ (v8 = 0 ∨ v8 = 1) ∧ Q (some (.int v8)) M7) := by
    rintro hb M10 rfl
    obtain ⟨⟨c1, c2, c3, c4, c5, c6, c7⟩, ⟨d1, d2, d3, d4, d5⟩, -⟩ := id hI
    refine rest _ o (m ||| 2 ^ w) false (Fr.rf.si (by simp)) (hI.keep hr (Fr.rf.si (by simp)) ⟨by rw [xi_nk (by omega)]; exact c1, by rw [xi_nk (by omega)]; exact c2, ?_, by rw [xi_nk (by omega)]; exact c4, by rw [xi_nk (by omega)]; exact c5, by rw [xi_nk (by omega)]; exact c6, ?_⟩ ⟨d1, d2, d3, or_1024 d4 (pw_1024 hw), d5⟩ rfl rfl) ⟨fun x => by simp at x, fun x => absurd x hb⟩ rfl rfl
    · obtain ⟨i, i1, i2, i3⟩ := c3
      exact ⟨i, i1, i2, by rw [xi_nk (by omega)]; exact i3⟩
    · rw [xi_eq, c7, sl_1 (by omega), nI_or]
      rfl
  have hrc := hE.2.2.1
  refine vX5_entry_98 _ _ _ _ _ ⟨hE.1.1, ?_⟩
  rw [h3, nI_leI (by omega) (by omega)]
  refine ⟨fun c => bad (Or.inl c), fun c => ?_⟩
  cases more with
  | false =>
    refine ⟨fun _ => good (fun x => ?_), fun x => absurd rfl x⟩
    rcases x with x | x
    · exact c x
    · exact absurd x.1 (by decide)
  | true =>
    obtain ⟨a1, a2, a3, a4, a5, a6, a7, -⟩ := hE.1
    obtain ⟨e1, e2⟩ := a7.2 w hw
    obtain ⟨f1, f2⟩ := hE.2.2.2.1 w (by omega)
    refine ⟨fun x => absurd x (by decide), fun _ => ⟨ra, a4, by rw [a7.1]; exact ⟨by decide, by decide⟩, by rw [a7.1]; exact vp_in_nI hw (by omega), r0 + 8 * w, by rw [nI_clamp (by omega)]; exact e1, e2.1, r0 + 8 * w + 1, e2.2.1, e2.2.2.1, ?_⟩⟩
    rw [f1, show (6 : Int32) = nI 6 from rfl, nI_leI (by omega) (by omega)]
    refine ⟨fun c6 => good (fun x => ?_), fun c6 => bad (Or.inr ⟨rfl, by omega⟩)⟩
    rcases x with x | x
    · exact c x
    · have := x.2; omega
theorem w_entry (d : Nat) (hE : RdE M r k pa p0 ra r0 L rc wd W) {l : List Tk} {c : Nat} {D : Nat → PD} {o : Option Nat} {b m : Nat} (hI : RdI M r p0 rc W (l, c, D, o, b, m)) (hG : GdT L l) (hsd : SiS M sd) (hc : c < 60) (h1 : p0 + 8 * c + 1 ≤ sd) (h2 : sd + 1 ≤ p0 + 8 * c + 4)
    (hQ0 : ∀ p M', tEn L rc wd l o m = .inl p → Fr M M' [r, sd, sd + 1] → RdF M' r rc L W p → Q (some (.int 0)) M')
    (hQ1 : ∀ S' l' o' m' M', tEn L rc wd l o m = .inr (S', l', o', m') → Fr M M' [r, sd, sd + 1] → RdI M' r p0 rc W (l', c, D, o', b, m') → SiI M' sd S' → Q (some (.int 1)) M') :
    Call G (d + 5) 0 0 mX5_entry [.ref r, .ref sd] M Q := by
  have hr : r < p0 := by have := hE.1.2.2.2.2.2.2.2; omega
  have hL := hE.2.2.2.2.2
  have hR : ∀ {M'}, Fr M M' [r, sd, sd + 1] → RdE M' r k pa p0 ra r0 L rc wd W := fun g => hE.fr (g.R (fun q hq => side_R hc h1 h2 hq))
  have n1 : sd ∉ [r] := by rw [List.mem_singleton]; omega
  have n2 : sd + 1 ∉ [r] := by rw [List.mem_singleton]; omega
  have hp : plT L l ≤ 120 := by have := gd_le l hG; omega
  have u1 : kdT l ≠ 4 → tEn L rc wd l o m = .inl (plT L l) := fun e => by unfold tEn; rw [if_neg e]
  have u2 : kdT l = 4 → kdT l.tail ≠ 13 → tEn L rc wd l o m = .inl (plT L l.tail) := fun e e2 => by unfold tEn; rw [if_pos e, if_neg e2]
  have u3 : kdT l = 4 → kdT l.tail = 13 → kdT l.tail.tail ≠ 3 → tEn L rc wd l o m = .inl (plT L l.tail.tail) := fun e e2 e3 => by unfold tEn; rw [if_pos e, if_pos e2, if_neg e3]
  have u4 : kdT l = 4 → kdT l.tail = 13 → kdT l.tail.tail = 3 → kdT l.tail.tail.tail ≠ 15 → tEn L rc wd l o m = tEz L rc wd (woT l) (plT L l) false (adN (some (woT l), fun _ => 0, 0, 0) (woT l.tail.tail)) l.tail.tail.tail o m := fun e e2 e3 e4 => by unfold tEn; rw [if_pos e, if_pos e2, if_pos e3, if_neg e4]
  have u5 : kdT l = 4 → kdT l.tail = 13 → kdT l.tail.tail = 3 → kdT l.tail.tail.tail = 15 → tEn L rc wd l o m = (match tT L 3 (adN (some (woT l), fun _ => 0, 0, 0) (woT l.tail.tail)) l.tail.tail.tail.tail o with | .inl p => .inl p | .inr (S, l', o') => tEz L rc wd (woT l) (plT L l) true S l' o' m) := fun e e2 e3 e4 => by unfold tEn; rw [if_pos e, if_pos e2, if_pos e3, if_pos e4]; rfl
  refine eX5_entry r sd ⟨hsd.1, w_clearS (d + 2) hsd (fun M3 g3 hS3 => ⟨rfl, by rw [g3.h]; exact hE.1.1, ?_⟩)⟩
  have g3' : Fr M M3 [r, sd, sd + 1] := g3.wk (by simp)
  have hE3 := hR g3'
  have hI3 := hI.side hr g3 h1
  refine w_worth (d + 3) hE3 (l := l) hI3.1.2.2.1 (fun v7 hv7 => ⟨_, rfl, hE3.1.1, w_placeT (d + 3) hE3 (l := l) hI3.1.2.2.1 ⟨_, rfl, hE3.1.1, ?_⟩⟩)
  refine w_eat (kd := 4) (d + 1) hE3 hI3 (by omega) (by omega) (fun e4 M14 g14 hI14 => ⟨1, rfl, fun x => absurd x (by decide), fun _ => ?_⟩) (fun e4 M14 g14 f14 => ⟨0, rfl, fun _ => hQ0 _ M14 (u1 e4) (g3'.tr g14 (by simp)) f14, fun x => absurd rfl x⟩)
  have e4' : kdT l = 4 := e4
  have g14' : Fr M M14 [r, sd, sd + 1] := g3'.tr g14 (by simp)
  have hE14 := hR g14'
  obtain ⟨t1, t2, t3, t4⟩ := gd_tail hG (show kdT l ≠ 0 by omega)
  have hw10 : woT l < 10 := t4.2.2.2.2 e4'
  refine ⟨hE14.1.1, w_eat (kd := 13) (d + 1) hE14 hI14 (by omega) (by omega) (fun e13 M19 g19 hI19 => ⟨1, rfl, fun _ => ?_, fun x => absurd x (by decide)⟩) (fun e13 M19 g19 f19 => ⟨0, rfl, fun x => absurd rfl x, fun _ => hQ0 _ M19 (u2 e4' e13) (g14'.tr g19 (by simp)) f19⟩)⟩
  have e13' : kdT l.tail = 13 := e13
  have g19' : Fr M M19 [r, sd, sd + 1] := g14'.tr g19 (by simp)
  obtain ⟨v1, v2, v3, v4⟩ := gd_tail t1 (show kdT l.tail ≠ 0 by omega)
  refine ⟨by rw [g19'.h]; exact hsd.1, ?_⟩
  rintro M23 rfl
  have g23 : Fr M19 (x_si M19 sd 1 v7) [sd, sd + 1] := Fr.rf.si (by simp)
  have g23' : Fr M (x_si M19 sd 1 v7) [r, sd, sd + 1] := g19'.tr g23 (by simp)
  have hE23 := hR g23'
  have hI23 := hI19.side hr g23 (show p0 + 8 * c + 1 ≤ sd from h1)
  have hS23 : SiI (x_si M19 sd 1 v7) sd (some (woT l), fun _ => 0, 0, 0) := by
    obtain ⟨s1, s2, s3, s4⟩ := (hS3.fr g14 n1 n2).fr g19 n1 n2
    refine ⟨?_, by rw [xi_nk (by omega)]; exact s2, by rw [xi_nk (by omega)]; exact s3, fun i hi => by rw [xi_na (by omega)]; exact s4 i hi⟩
    rw [xi_eq]
    exact hv7 (by omega)
  refine ⟨by rw [g19'.h]; exact hE.1.1, w_worth (d + 3) hE23 (l := l.tail.tail) hI23.1.2.2.1 (fun v27 hv27 => ⟨_, rfl, by rw [g23'.h]; exact hsd.1, w_addName (d + 2) (hsd.fr g23') (fun M30 g30 hadd => ⟨rfl, by rw [g30.h, g23'.h]; exact hE.1.1, ?_⟩)⟩)⟩
  have g30' : Fr M M30 [r, sd, sd + 1] := g23'.tr g30 (by simp)
  have hE30 := hR g30'
  have hI30 := hI23.side hr g30 (show p0 + 8 * c + 1 ≤ sd from h1)
  refine w_eat (kd := 3) (d + 1) hE30 hI30 (by omega) (by omega) (fun e3 M33 g33 hI33 => ⟨1, rfl, fun _ => ?_, fun x => absurd x (by decide)⟩) (fun e3 M33 g33 f33 => ⟨0, rfl, fun x => absurd rfl x, fun _ => hQ0 _ M33 (u3 e4' e13' e3) (g30'.tr g33 (by simp)) f33⟩)
  have e3' : kdT l.tail.tail = 3 := e3
  have g33' : Fr M M33 [r, sd, sd + 1] := g30'.tr g33 (by simp)
  have hE33 := hR g33'
  obtain ⟨x1, x2, x3, x4⟩ := gd_tail v1 (show kdT l.tail.tail ≠ 0 by omega)
  have hS33 : SiI M33 sd (adN (some (woT l), fun _ => 0, 0, 0) (woT l.tail.tail)) := (hadd _ _ (x4.2.2.2.1 e3') (hv27 (by omega)) hS23).fr g33 n1 n2
  have ev7 : v7 = nI (woT l) := hv7 (by omega)
  have hkd : kdT l.tail.tail.tail ≤ 18 := by
    by_cases c : kdT l.tail.tail.tail = 0
    · omega
    · exact (gd_tail x1 c).2.2.2.2.1
  refine ⟨hE33.1.1, w_peek (d + 3) hE33 (l := l.tail.tail.tail) hI33.1.2.2.1 ⟨_, rfl, ?_⟩⟩
  rw [show (15 : Int32) = nI 15 from rfl, nI_eq (by omega) (by omega)]
  refine ⟨fun c15 => ⟨fun _ => ?_, fun x => absurd rfl x⟩, fun c15 => ⟨fun x => absurd x (by decide), fun _ => ⟨hE33.1.1, ?_⟩⟩⟩
  · rw [ev7]
    exact w_entry98 (more := false) (l := l.tail.tail.tail) (c := c) (D := D) (o := o) (b := b) (m := m) d hE33 hI33 x1 hS33 hc h1 h2 hw10 hp (fun p M' e g f => hQ0 p M' ((u4 e4' e13' e3' c15).trans e) (g33'.tr g (fun _ h => h)) f) (fun S' l' o' m' M' e g hI' hS' => hQ1 S' l' o' m' M' ((u4 e4' e13' e3' c15).trans e) (g33'.tr g (fun _ h => h)) hI' hS')
  · rintro M50 rfl
    have g50 : Fr M33 (x_si M33 r 5 (x_i M33 r 5 + 1)) [r] := Fr.rf.si (by simp)
    have g50' : Fr M (x_si M33 r 5 (x_i M33 r 5 + 1)) [r, sd, sd + 1] := g33'.tr g50 (by simp)
    have hE50 := hR g50'
    have hI50 := hI33.si5 hr (show kdT l.tail.tail.tail ≠ 0 by omega) hE.len
    obtain ⟨y1, y2, y3, y4⟩ := gd_tail x1 (show kdT l.tail.tail.tail ≠ 0 by omega)
    have hu5 := u5 e4' e13' e3' c15
    refine w_takeTerm (most := 3) (l := l.tail.tail.tail.tail) (c := c) (D := D) (o := o) (b := b) (m := m) (d + 1) hE50 hI50 y1 (hsd.fr g50') (hS33.fr g50 n1 n2) hc h1 h2 (by show 0 < 2 ^ 20; omega) (by omega) (fun p M' e g f => ⟨0, rfl, fun x => absurd rfl x, fun _ => ?_⟩) (fun S' l' o' M' e g hI' hS' => ⟨1, rfl, fun _ => ?_, fun x => absurd x (by decide)⟩)
    · refine hQ0 p M' ?_ (g50'.tr g (fun _ h => h)) f
      rw [hu5, e]
    · have g52 : Fr M M' [r, sd, sd + 1] := g50'.tr g (fun _ h => h)
      obtain ⟨-, -, z1, -⟩ := tT_pg y1 e
      rw [ev7]
      refine w_entry98 (more := true) (l := l') (c := c) (D := D) (o := o') (b := b) (m := m) d (hR g52) hI' z1 hS' hc h1 h2 hw10 hp (fun p M2 e2 g2 f => hQ0 p M2 ?_ (g52.tr g2 (fun _ h => h)) f) (fun S2 l2 o2 m2 M2 e2 g2 hI2 hS2 => hQ1 S2 l2 o2 m2 M2 ?_ (g52.tr g2 (fun _ h => h)) hI2 hS2)
      · rw [hu5, e]; exact e2
      · rw [hu5, e]; exact e2
end AtomsC
