/-! ===== the class: atoms end ===== -/
section Atoms2C
variable {G : GG} {M : Mem} {r k pa p0 ra r0 L rc : Nat} {wd : Nat → Nat} {W : List Tk} {Q : Option Value → Mem → Prop}
theorem pw_256 {w : Nat} (h : w < 8) : 2 ^ w < 256 := Nat.pow_lt_pow_right (by omega) (m := w) (n := 8) h
theorem tT_s {most : Nat} {S S' : SD} {l l' : List Tk} {o o' : Option Nat} (hG : GdT L l) (hS : s_s S < 256) (e : tT L most S l o = .inr (S', l', o')) : s_s S' < 256 := by
  unfold tT at e
  by_cases c : kdT l = 2
  · rw [if_pos c] at e
    cases e
    exact hS
  · rw [if_neg c] at e
    by_cases c2 : kdT l = 3
    · rw [if_pos c2] at e
      have hw : woT l < 8 := (gd_tail hG (by omega)).2.2.2.2.2.2.1 c2
      cases e
      exact or_256 hS (pw_256 hw)
    · rw [if_neg c2] at e; cases e
theorem tS_s : ∀ n {S S' : SD} {l l' : List Tk} {o o' : Option Nat}, GdT L l → s_s S < 256 → tS L n S l o = .inr (S', l', o') → s_s S' < 256
  | 0, S, S', l, l', o, o', _, _, e => by cases e
  | n + 1, S, S', l, l', o, o', h, hS, e => by
    unfold tS at e
    cases hT : tT L 99 S l o with
    | inl p => rw [hT] at e; cases e
    | inr x =>
      obtain ⟨S1, l1, o1⟩ := x
      rw [hT] at e
      have h1 := tT_s h hS hT
      obtain ⟨-, -, g1, -⟩ := tT_pg h hT
      simp only at e
      by_cases c : kdT l1 = 15
      · rw [if_pos c] at e
        exact tS_s n (gd_tail g1 (by omega)).1 h1 e
      · rw [if_neg c] at e
        cases e
        exact h1
theorem tE_s {S' : SD} {l l' : List Tk} {o o' : Option Nat} {nm nm' : Nat} (h : GdT L l) (e : tEn L rc wd l o nm = .inr (S', l', o', nm')) : s_s S' < 256 := by
  unfold tEn at e
  by_cases c1 : kdT l = 4
  · rw [if_pos c1] at e
    obtain ⟨a1, -⟩ := gd_tail h (by omega)
    by_cases c2 : kdT l.tail = 13
    · rw [if_pos c2] at e
      obtain ⟨b1, -⟩ := gd_tail a1 (by omega)
      by_cases c3 : kdT l.tail.tail = 3
      · rw [if_pos c3] at e
        obtain ⟨d1, d2, d3, d4⟩ := gd_tail b1 (by omega)
        have hw : woT l.tail.tail < 8 := d4.2.2.2.1 c3
        have h0 : s_s (adN (some (woT l), fun _ => 0, 0, 0) (woT l.tail.tail)) < 256 := by
          show 0 ||| 2 ^ woT l.tail.tail < 256
          exact or_256 (by omega) (pw_256 hw)
        by_cases c4 : kdT l.tail.tail.tail = 15
        · rw [if_pos c4] at e
          obtain ⟨f1, -⟩ := gd_tail d1 (by omega)
          cases hT : tT L 3 (adN (some (woT l), fun _ => 0, 0, 0) (woT l.tail.tail)) l.tail.tail.tail.tail o with
          | inl p => rw [hT] at e; cases e
          | inr x =>
            obtain ⟨S1, l1, o1⟩ := x
            rw [hT] at e
            have := tT_s f1 h0 hT
            obtain ⟨-, -, g1, -⟩ := tT_pg f1 hT
            obtain ⟨-, -, i1, -⟩ := tEz_pg g1 e
            rw [i1]; exact this
        · rw [if_neg c4] at e
          obtain ⟨-, -, i1, -⟩ := tEz_pg d1 e
          rw [i1]; exact h0
      · rw [if_neg c3] at e; cases e
    · rw [if_neg c2] at e; cases e
  · rw [if_neg c1] at e; cases e
theorem part_R {q c : Nat} (hc : c < 60) (hq : q ∈ [r, p0 + 8 * c, p0 + 8 * c + 1, p0 + 8 * c + 2, p0 + 8 * c + 3, p0 + 8 * c + 4]) : RPF r p0 q := by
  simp only [List.mem_cons, List.not_mem_nil, or_false] at hq
  unfold RPF
  omega
theorem w_atomP (d : Nat) (hE : RdE M r k pa p0 ra r0 L rc wd W) {s : PSt} {f p g : Nat} {A B : SD} (hI : RdI M r p0 rc W s) (hc : q_c s < 60) (hf : f ≤ 1) (hA : SiI M (p0 + 8 * q_c s + 1) A) (hB : SiI M (p0 + 8 * q_c s + 3) B) (h8 : s_s A ||| s_s B < 256)
    (hQ : ∀ M', Fr M M' [r, p0 + 8 * q_c s, p0 + 8 * q_c s + 1, p0 + 8 * q_c s + 2, p0 + 8 * q_c s + 3, p0 + 8 * q_c s + 4] → RdI M' r p0 rc W (enP s (f, p, 0, 0, g, s_s A ||| s_s B, A, B)) → Q (some (.int (nI (q_c s)))) M') :
    Call G (d + 3) 0 0 mX5_atom [.ref r, .int (nI f), .int (nI p), .int (nI g)] M Q := by
  have hr : r < p0 := by have := hE.1.2.2.2.2.2.2.2; omega
  have hcl : (nI (q_c s)).toNatClampNeg = q_c s := nI_clamp (by omega)
  refine eX5_atom r _ _ _ ⟨hE.1.1, w_join d hE hI hc (a := none) (b := none) (fun x h => by cases h) (fun x h => by cases h) (fun M3 g3 k1 k2 k3 k4 k5 k6 k8 => ⟨_, rfl, fun c => absurd c (by rw [show (0 : Int32) = nI 0 from rfl, nI_ltI (by omega) (by omega)]; omega), fun _ => ?_⟩)⟩
  have hE3 := hE.fr (g3.R (fun q hq => part_R hc (by simp only [List.mem_cons, List.not_mem_nil, or_false] at hq ⊢; omega)))
  obtain ⟨a1, a2, a3, a4, a5, a6, a7, a8⟩ := hE3.1
  obtain ⟨e1, e2⟩ := a6.2 (q_c s) hc
  have eP : x_r M3 pa (nI (q_c s)).toNatClampNeg = some (p0 + 8 * q_c s) := by rw [hcl]; exact e1
  refine ⟨a1, pa, a3, by rw [a6.1]; exact ⟨by decide, by decide⟩, by rw [a6.1]; exact vp_in_nI hc (by omega), p0 + 8 * q_c s, eP, e2.1, ?_⟩
  rintro M12 rfl
  have hA3 := hA.fr g3 (by simp only [List.mem_cons, List.not_mem_nil, or_false]; omega) (by simp only [List.mem_cons, List.not_mem_nil, or_false]; omega)
  have hB3 := hB.fr g3 (by simp only [List.mem_cons, List.not_mem_nil, or_false]; omega) (by simp only [List.mem_cons, List.not_mem_nil, or_false]; omega)
  refine ⟨p0 + 8 * q_c s, eP, p0 + 8 * q_c s, eP, e2.1, p0 + 8 * q_c s + 1, e2.2.1, e2.2.2.2.2.1.1, p0 + 8 * q_c s, eP, e2.1, p0 + 8 * q_c s + 3, e2.2.2.1, e2.2.2.2.2.2.1.1, e2.1, ?_⟩
  rintro M23 rfl
  rw [xi_na (by omega), xi_na (by omega), hA3.2.2.1, hB3.2.2.1, nI_or]
  refine hQ _ (((g3.wk (by simp)).si (by simp)).si (by simp)) (hI.endP hr hc (((g3.wk (by simp)).si (by simp)).si (by simp)) (fun t ht => ?_) ?_ ?_ h8)
  · rw [xi_na (by omega), xi_na (by omega)]; exact k1 t ht
  · rw [xi_na (by omega), xi_na (by omega)]; exact k2
  · have hside : ∀ {S : SD} {sd : Nat}, p0 + 8 * q_c s + 1 ≤ sd → SiI M3 sd S → SiI (x_si (x_si M3 (p0 + 8 * q_c s) 7 (nI g)) (p0 + 8 * q_c s) 8 (nI (s_s A ||| s_s B))) sd S := fun h1 h => h.fr (A := [p0 + 8 * q_c s]) ((Fr.rf.si (by simp)).si (by simp)) (by rw [List.mem_singleton]; omega) (by rw [List.mem_singleton]; omega)
    refine ⟨?_, ?_, ?_, fun _ => ?_, fun _ => ⟨hside (by omega) hA3, hside (by omega) hB3⟩, fun c => ?_, fun c => ?_⟩
    · rw [xi_nk (by omega), xi_nk (by omega)]; exact k3
    · rw [xi_nk (by omega), xi_nk (by omega)]; exact k4
    · rw [xi_eq]; rfl
    · rw [xi_nk (by omega), xi_eq]; rfl
    · have : 2 ≤ f := c; omega
    · have : 3 ≤ f ∧ f ≤ 5 := c; omega
theorem side_part {A B : Mem} {c : Nat} (g : Fr A B [r, p0 + 8 * c + 1, p0 + 8 * c + 2]) : Fr A B [r, p0 + 8 * c, p0 + 8 * c + 1, p0 + 8 * c + 2, p0 + 8 * c + 3, p0 + 8 * c + 4] := g.wk (by simp only [List.mem_cons, List.not_mem_nil, or_false]; omega)
theorem side_part2 {A B : Mem} {c : Nat} (g : Fr A B [r, p0 + 8 * c + 3, p0 + 8 * c + 4]) : Fr A B [r, p0 + 8 * c, p0 + 8 * c + 1, p0 + 8 * c + 2, p0 + 8 * c + 3, p0 + 8 * c + 4] := g.wk (by simp only [List.mem_cons, List.not_mem_nil, or_false]; omega)
theorem side_part0 {A B : Mem} {c : Nat} (g : Fr A B [r]) : Fr A B [r, p0 + 8 * c, p0 + 8 * c + 1, p0 + 8 * c + 2, p0 + 8 * c + 3, p0 + 8 * c + 4] := g.wk (by simp)
theorem w_rowAtom (d : Nat) (hE : RdE M r k pa p0 ra r0 L rc wd W) {s : PSt} (hI : RdI M r p0 rc W s) (hG : GdT L (q_l s)) (hc : q_c s < 60)
    (hQ : ∀ M', FrP M M' (RPF r p0) → RdO M' r p0 rc L W (raP L rc wd s) → Q (some (.int (roV (raP L rc wd s)))) M') :
    Call G (d + 6) 0 0 mX5_rowAtom [.ref r] M Q := by
  obtain ⟨l, c, D, o, b, m⟩ := s
  have hc' : c < 60 := hc
  have hr : r < p0 := by have := hE.1.2.2.2.2.2.2.2; omega
  have hL := hE.2.2.2.2.2
  have hcl : (nI c).toNatClampNeg = c := nI_clamp (by omega)
  have c2 : x_i M r 4 = nI c := hI.1.2.1
  have hG' : GdT L l := hG
  obtain ⟨a1, a2, a3, a4, a5, a6, a7, a8⟩ := hE.1
  obtain ⟨e1, e2⟩ := a6.2 c hc'
  have hsA : SiS M (p0 + 8 * c + 1) := e2.2.2.2.2.1
  have hsB : SiS M (p0 + 8 * c + 3) := e2.2.2.2.2.2.1
  have hR : ∀ {M'}, Fr M M' [r, p0 + 8 * c, p0 + 8 * c + 1, p0 + 8 * c + 2, p0 + 8 * c + 3, p0 + 8 * c + 4] → FrP M M' (RPF r p0) := fun g => g.R (fun q hq => part_R hc' hq)
  have out : ∀ {M'} (res : PRt), raP L rc wd (l, c, D, o, b, m) = res → FrP M M' (RPF r p0) → RdO M' r p0 rc L W res → Q (some (.int (roV res))) M' := fun res e g h => by rw [← e] at h ⊢; exact hQ _ g h
  refine eX5_rowAtom r ⟨a1, fun _ => ⟨pa, a3, by rw [a6.1]; exact ⟨by decide, by decide⟩, by rw [c2, a6.1]; exact vp_in_nI hc' (by omega), p0 + 8 * c, by rw [c2, hcl]; exact e1, e2.1, p0 + 8 * c + 1, e2.2.1, ?_⟩, fun x => absurd (by rw [c2, show (60 : Int32) = nI 60 from rfl, nI_ltI (by omega) (by omega)]; exact hc') x⟩
  refine w_entry (l := l) (c := c) (D := D) (o := o) (b := b) (m := m) d hE hI hG' hsA hc' (by omega) (by omega) (fun p M' e g f => ⟨0, rfl, fun x => absurd rfl x, fun _ => out (.inl p) (by unfold raP; rw [show tEn L rc wd (q_l (l, c, D, o, b, m)) (q_o (l, c, D, o, b, m)) (q_m (l, c, D, o, b, m)) = _ from e]) (hR (side_part g)) f⟩) (fun A l1 o1 m1 M10 e g10 hI10 hA10 => ⟨1, rfl, fun _ => ?_, fun x => absurd x (by decide)⟩)
  obtain ⟨k1, k2, k3⟩ := tE_pg hG' e
  have ksA := tE_s hG' e
  have u0 : raP L rc wd (l, c, D, o, b, m) = (if kdT l1 = 16 then (if kdT l1.tail = 2 then .inr (c, enP (l1.tail.tail, c, D, (if woT l1.tail < 8 then o1 else blO o1 (plT L l1.tail)), b, m1) (1, plT L l1, 0, 0, 16, s_s A ||| 0, A, (none, fun _ => 0, woT l1.tail, 0))) else match tEn L rc wd l1.tail o1 m1 with | .inl p => .inl p | .inr (B, l', o', nm') => .inr (c, enP (l', c, D, o', b, nm') (1, plT L l1, 0, 0, 16, s_s A ||| s_s B, A, B))) else .inl (plT L l1)) := by
    unfold raP
    rw [show tEn L rc wd (q_l (l, c, D, o, b, m)) (q_o (l, c, D, o, b, m)) (q_m (l, c, D, o, b, m)) = _ from e]
    rfl
  have g10' := side_part g10
  have hE10 := hE.fr (hR g10')
  refine ⟨hE10.1.1, w_placeT (d + 4) hE10 (l := l1) hI10.1.2.2.1 ⟨_, rfl, hE10.1.1, ?_⟩⟩
  refine w_eat (kd := 16) (d + 2) hE10 hI10 (by omega) (by omega) (fun e16 M19 g19 hI19 => ⟨1, rfl, fun _ => ?_, fun x => absurd x (by decide)⟩) (fun e16 M19 g19 f19 => ⟨0, rfl, fun x => absurd rfl x, fun _ => out (.inl (plT L l1)) (by rw [u0, if_neg (show ¬ kdT l1 = 16 from e16)]) (hR (g10'.tr g19 (by simp))) f19⟩)
  have e16' : kdT l1 = 16 := e16
  rw [if_pos e16'] at u0
  have g19' := g10'.tr (A := [r, p0 + 8 * c, p0 + 8 * c + 1, p0 + 8 * c + 2, p0 + 8 * c + 3, p0 + 8 * c + 4]) g19 (by simp)
  have hE19 := hE.fr (hR g19')
  obtain ⟨v1, v2, v3, -⟩ := gd_tail k1 (show kdT l1 ≠ 0 by omega)
  have hkd : kdT l1.tail ≤ 18 := by
    by_cases c : kdT l1.tail = 0
    · omega
    · exact (gd_tail v1 c).2.2.2.2.1
  have hpl := gd_le _ v1
  have hpl1 := gd_le _ k1
  have hA19 : SiI M19 (p0 + 8 * c + 1) A := hA10.fr g19 (by rw [List.mem_singleton]; omega) (by rw [List.mem_singleton]; omega)
  refine ⟨hE19.1.1, w_peek (d + 4) hE19 (l := l1.tail) hI19.1.2.2.1 ⟨_, rfl, ?_⟩⟩
  rw [show (2 : Int32) = nI 2 from rfl, nI_eq (by omega) (by omega)]
  refine ⟨fun cn => ?_, fun cn => ?_⟩
  · rw [if_neg cn] at u0
    obtain ⟨z1, z2⟩ := hE19.1.2.2.2.2.2.1.2 c hc'
    refine ⟨z2.1, p0 + 8 * c + 3, z2.2.2.1, hE19.1.1, w_entry (l := l1.tail) (c := c) (D := D) (o := o1) (b := b) (m := m1) d hE19 hI19 v1 z2.2.2.2.2.2.1 hc' (by omega) (by omega) (fun p M' e2 g f => ⟨0, rfl, fun x => absurd rfl x, fun _ => out (.inl p) (by rw [u0, e2]) (hR (g19'.tr (side_part2 g) (fun _ h => h))) f⟩) (fun B l2 o2 m2 M31 e2 g31 hI31 hB31 => ⟨1, rfl, fun _ => ?_, fun x => absurd x (by decide)⟩)⟩
    have g31' := g19'.tr (side_part2 g31) (fun _ h => h)
    have hE31 := hE.fr (hR g31')
    have ksB := tE_s v1 e2
    have hA31 : SiI M31 (p0 + 8 * c + 1) A := hA19.fr g31 (by simp only [List.mem_cons, List.not_mem_nil, or_false]; omega) (by simp only [List.mem_cons, List.not_mem_nil, or_false]; omega)
    exact ⟨hE31.1.1, w_atomP (f := 1) (p := plT L l1) (g := 16) (d + 2) hE31 (s := (l2, c, D, o2, b, m2)) hI31 hc' (by omega) hA31 hB31 (or_256 ksA ksB) (fun M' g hI' => ⟨_, rfl, out (.inr (c, _)) (by rw [u0, e2]) (hR (g31'.tr g (fun _ h => h))) hI'⟩)⟩
  · rw [if_pos cn] at u0
    obtain ⟨z1, z2⟩ := hE19.1.2.2.2.2.2.1.2 c hc'
    refine ⟨z2.1, p0 + 8 * c + 3, z2.2.2.1, z2.2.2.2.2.2.1.1, w_clearS (d + 3) z2.2.2.2.2.2.1 (fun M42 g42 hB42 => ⟨rfl, by rw [g42.h]; exact z2.1, p0 + 8 * c + 3, by rw [g42.r]; exact z2.2.2.1, by rw [g42.h]; exact hE19.1.1, ?_⟩)⟩
    have g42' := g19'.tr (A := [r, p0 + 8 * c, p0 + 8 * c + 1, p0 + 8 * c + 2, p0 + 8 * c + 3, p0 + 8 * c + 4]) g42 (by simp only [List.mem_cons, List.not_mem_nil, or_false]; omega)
    have hE42 := hE.fr (hR g42')
    have hI42 : RdI M42 r p0 rc W (l1.tail, c, D, o1, b, m1) := hI19.side hr g42 (by show p0 + 8 * c + 1 ≤ p0 + 8 * c + 3; omega)
    have hA42 : SiI M42 (p0 + 8 * c + 1) A := hA19.fr g42 (by simp only [List.mem_cons, List.not_mem_nil, or_false]; omega) (by simp only [List.mem_cons, List.not_mem_nil, or_false]; omega)
    refine w_worth (d + 4) hE42 (l := l1.tail) hI42.1.2.2.1 (fun v hv => ⟨_, rfl, by rw [g42.h]; exact z2.2.2.2.2.2.1.1, ?_⟩)
    have ev := hv (Or.inl cn)
    subst ev
    rintro M50 rfl
    have g50 : Fr M42 (x_si M42 (p0 + 8 * c + 3) 2 (nI (woT l1.tail))) [p0 + 8 * c + 3, p0 + 8 * c + 3 + 1] := Fr.rf.si (by simp)
    have g50' := g42'.tr (A := [r, p0 + 8 * c, p0 + 8 * c + 1, p0 + 8 * c + 2, p0 + 8 * c + 3, p0 + 8 * c + 4]) g50 (by simp only [List.mem_cons, List.not_mem_nil, or_false]; omega)
    have hE50 := hE.fr (hR g50')
    have hI50 : RdI _ r p0 rc W (l1.tail, c, D, o1, b, m1) := hI42.side hr g50 (by show p0 + 8 * c + 1 ≤ p0 + 8 * c + 3; omega)
    have hA50 : SiI (x_si M42 (p0 + 8 * c + 3) 2 (nI (woT l1.tail))) (p0 + 8 * c + 1) A := hA42.fr g50 (by simp only [List.mem_cons, List.not_mem_nil, or_false]; omega) (by simp only [List.mem_cons, List.not_mem_nil, or_false]; omega)
    have hB50 : SiI (x_si M42 (p0 + 8 * c + 3) 2 (nI (woT l1.tail))) (p0 + 8 * c + 3) (none, fun _ => 0, woT l1.tail, 0) := by
      obtain ⟨s1, s2, s3, s4⟩ := hB42
      exact ⟨by rw [xi_nk (by omega)]; exact s1, by rw [xi_eq]; rfl, by rw [xi_nk (by omega)]; exact s3, fun i hi => by rw [xi_na (by omega)]; exact s4 i hi⟩
    obtain ⟨y1, y2, y3, y4⟩ := gd_tail v1 (show kdT l1.tail ≠ 0 by omega)
    have hw100 : woT l1.tail < 100 := y4.2.2.1 cn
    have fin : ∀ o2, (if woT l1.tail < 8 then o1 else blO o1 (plT L l1.tail)) = o2 → ∀ M57, Fr M (x_si M57 r 5 (x_i M57 r 5 + 1)) [r, p0 + 8 * c, p0 + 8 * c + 1, p0 + 8 * c + 2, p0 + 8 * c + 3, p0 + 8 * c + 4] → RdI (x_si M57 r 5 (x_i M57 r 5 + 1)) r p0 rc W (l1.tail.tail, c, D, o2, b, m1) → SiI M57 (p0 + 8 * c + 1) A → SiI M57 (p0 + 8 * c + 3) (none, fun _ => 0, woT l1.tail, 0) → Call G (d + 5) 0 0 mX5_atom [.ref r, .int 1, .int (nI (plT L l1)), .int 16] (x_si M57 r 5 (x_i M57 r 5 + 1)) (fun r58 M59 => ∃ v60 : Int32, r58 = some (.int v60) ∧ Q (some (.int v60)) M59) := by
      intro o2 eo M57 g57 hI57 hA57 hB57
      have g1 : Fr M57 (x_si M57 r 5 (x_i M57 r 5 + 1)) [r] := Fr.rf.si (by simp)
      refine w_atomP (f := 1) (p := plT L l1) (g := 16) (d + 2) (hE.fr (hR g57)) (s := (l1.tail.tail, c, D, o2, b, m1)) hI57 hc' (by omega) (hA57.fr g1 (by rw [List.mem_singleton]; show p0 + 8 * c + 1 ≠ r; omega) (by rw [List.mem_singleton]; show p0 + 8 * c + 1 + 1 ≠ r; omega)) (hB57.fr g1 (by rw [List.mem_singleton]; show p0 + 8 * c + 3 ≠ r; omega) (by rw [List.mem_singleton]; show p0 + 8 * c + 3 + 1 ≠ r; omega)) (or_256 ksA (by show 0 < 256; omega)) (fun M' g hI' => ⟨_, rfl, out (.inr (c, _)) (by rw [u0, eo]; rfl) (hR (g57.tr g (fun _ h => h))) hI'⟩)
    refine ⟨by rw [g42.h]; exact hE19.1.1, w_worth (d + 4) hE50 (l := l1.tail) hI50.1.2.2.1 (fun v2 hv2 => ⟨_, rfl, ?_⟩)⟩
    rw [hv2 (Or.inl cn), show (8 : Int32) = nI 8 from rfl, nI_ltI (by omega) (by omega)]
    refine ⟨fun c8 => ⟨hE50.1.1, ?_⟩, fun c8 => ⟨hE50.1.1, w_placeT (d + 4) hE50 (l := l1.tail) hI50.1.2.2.1 ⟨_, rfl, hE50.1.1, ?_⟩⟩⟩
    · rintro M57 rfl
      exact fin o1 (if_pos c8) _ (g50'.si (by simp)) (hI50.si5 hr (show kdT l1.tail ≠ 0 by omega) hE.len) hA50 hB50
    · refine w_blame (d + 4) hE50 hI50 (by omega) (fun M67 g67 hI67 => ⟨rfl, by rw [g67.h]; exact hE50.1.1, ?_⟩)
      rintro M69 rfl
      exact fin (blO o1 (plT L l1.tail)) (if_neg c8) M67 ((g50'.tr g67 (by simp)).si (by simp)) (hI67.si5 hr (show kdT l1.tail ≠ 0 by omega) hE.len) (hA50.fr g67 (by rw [List.mem_singleton]; omega) (by rw [List.mem_singleton]; omega)) (hB50.fr g67 (by rw [List.mem_singleton]; omega) (by rw [List.mem_singleton]; omega))
theorem w_sumAtom (d : Nat) (hE : RdE M r k pa p0 ra r0 L rc wd W) {s : PSt} (hI : RdI M r p0 rc W s) (hG : GdT L (q_l s)) (hc : q_c s < 60)
    (hQ : ∀ M', FrP M M' (RPF r p0) → RdO M' r p0 rc L W (saP L s) → Q (some (.int (roV (saP L s)))) M') :
    Call G (d + 6) 0 0 mX5_sumAtom [.ref r] M Q := by
  obtain ⟨l, c, D, o, b, m⟩ := s
  have hc' : c < 60 := hc
  have hr : r < p0 := by have := hE.1.2.2.2.2.2.2.2; omega
  have hL := hE.2.2.2.2.2
  have hcl : (nI c).toNatClampNeg = c := nI_clamp (by omega)
  have c2 : x_i M r 4 = nI c := hI.1.2.1
  have hG' : GdT L l := hG
  obtain ⟨a1, a2, a3, a4, a5, a6, a7, a8⟩ := hE.1
  obtain ⟨e1, e2⟩ := a6.2 c hc'
  have hsA : SiS M (p0 + 8 * c + 1) := e2.2.2.2.2.1
  have hR : ∀ {M'}, Fr M M' [r, p0 + 8 * c, p0 + 8 * c + 1, p0 + 8 * c + 2, p0 + 8 * c + 3, p0 + 8 * c + 4] → FrP M M' (RPF r p0) := fun g => g.R (fun q hq => part_R hc' hq)
  have out : ∀ {M'} (res : PRt), saP L (l, c, D, o, b, m) = res → FrP M M' (RPF r p0) → RdO M' r p0 rc L W res → Q (some (.int (roV res))) M' := fun res e g h => by rw [← e] at h ⊢; exact hQ _ g h
  refine eX5_sumAtom r ⟨a1, fun _ => ⟨pa, a3, by rw [a6.1]; exact ⟨by decide, by decide⟩, by rw [c2, a6.1]; exact vp_in_nI hc' (by omega), p0 + 8 * c, by rw [c2, hcl]; exact e1, e2.1, p0 + 8 * c + 1, e2.2.1, ?_⟩, fun x => absurd (by rw [c2, show (60 : Int32) = nI 60 from rfl, nI_ltI (by omega) (by omega)]; exact hc') x⟩
  refine w_sum (l := l) (c := c) (D := D) (o := o) (b := b) (m := m) (d + 1) hE hI hG' hsA hc' (by omega) (by omega) (fun p M' e g f => ⟨0, rfl, fun x => absurd rfl x, fun _ => out (.inl p) (by unfold saP; rw [show tS L 121 s0D (q_l (l, c, D, o, b, m)) (q_o (l, c, D, o, b, m)) = _ from e]) (hR (side_part g)) f⟩) (fun A l1 o1 M10 e g10 hI10 hA10 => ⟨1, rfl, fun _ => ?_, fun x => absurd x (by decide)⟩)
  obtain ⟨k1, k2, k3⟩ := tS_pg _ hG' e
  have ksA := tS_s _ hG' (show s_s s0D < 256 by decide) e
  have u0 : saP L (l, c, D, o, b, m) = (if kdT l1 = 16 ∨ kdT l1 = 17 ∨ kdT l1 = 18 then (match tS L 121 s0D l1.tail o1 with | .inl p => .inl p | .inr (B, l', o') => .inr (c, enP (l', c, D, o', b, m) (0, plT L l1, 0, 0, kdT l1, s_s A ||| s_s B, A, B))) else .inl (plT L l1)) := by
    unfold saP
    rw [show tS L 121 s0D (q_l (l, c, D, o, b, m)) (q_o (l, c, D, o, b, m)) = _ from e]
    rfl
  have g10' := side_part g10
  have hE10 := hE.fr (hR g10')
  have hkd : kdT l1 ≤ 18 := by
    by_cases c : kdT l1 = 0
    · omega
    · exact (gd_tail k1 c).2.2.2.2.1
  have hpl1 := gd_le _ k1
  have bad : ¬ (kdT l1 = 16 ∨ kdT l1 = 17 ∨ kdT l1 = 18) → Call G (d + 5) 0 0 mX5_fail [.ref r] M10 (fun r6 M7 => ∃ v8 : Int32, r6 = some (.int v8) ∧ Q (some (.int v8)) M7) := fun cn =>
    w_fail (d + 3) hE10 hI10 (fun M' g f => ⟨_, rfl, out (.inl (plT L l1)) (by rw [u0, if_neg cn]) (hR (g10'.tr g (by simp))) f⟩)
  have good : kdT l1 = 16 ∨ kdT l1 = 17 ∨ kdT l1 = 18 → (x_h M10 r).1 = 21 ∧ ∀ M19, M19 = x_si M10 r 5 (x_i M10 r 5 + 1) → (x_h M10 (p0 + 8 * c)).1 = 19 ∧ ∃ b28, x_r M19 (p0 + 8 * c) 1 = some b28 ∧ Call G (d + 5) 0 0 mX5_sum [.ref r, .ref b28] M19 (fun r30 M31 => ∃ v32 : Int32, r30 = some (.int v32) ∧ (v32 = 0 → Q (some (.int (-1))) M31) ∧ (¬ v32 = 0 → (x_h M31 r).1 = 21 ∧ Call G (d + 5) 0 0 mX5_atom [.ref r, .int 0, .int (nI (plT L l1)), .int (nI (kdT l1))] M31 (fun r35 M36 => ∃ v37 : Int32, r35 = some (.int v37) ∧ Q (some (.int v37)) M36))) := by
    refine fun cn => ⟨hE10.1.1, ?_⟩
    rintro M19 rfl
    rw [if_pos cn] at u0
    have g19 : Fr M10 (x_si M10 r 5 (x_i M10 r 5 + 1)) [r] := Fr.rf.si (by simp)
    have g19' := g10'.tr (A := [r, p0 + 8 * c, p0 + 8 * c + 1, p0 + 8 * c + 2, p0 + 8 * c + 3, p0 + 8 * c + 4]) g19 (by simp)
    have hE19 := hE.fr (hR g19')
    have hI19 := hI10.si5 hr (show kdT l1 ≠ 0 by omega) hE.len
    obtain ⟨v1, v2, v3, -⟩ := gd_tail k1 (show kdT l1 ≠ 0 by omega)
    have hA19 : SiI (x_si M10 r 5 (x_i M10 r 5 + 1)) (p0 + 8 * c + 1) A := hA10.fr g19 (by rw [List.mem_singleton]; omega) (by rw [List.mem_singleton]; omega)
    obtain ⟨z1, z2⟩ := hE19.1.2.2.2.2.2.1.2 c hc'
    refine ⟨z2.1, p0 + 8 * c + 3, z2.2.2.1, w_sum (l := l1.tail) (c := c) (D := D) (o := o1) (b := b) (m := m) (d + 1) hE19 hI19 v1 z2.2.2.2.2.2.1 hc' (by omega) (by omega) (fun p M' e2 g f => ⟨0, rfl, fun _ => out (.inl p) (by rw [u0, e2]) (hR (g19'.tr (side_part2 g) (fun _ h => h))) f, fun x => absurd rfl x⟩) (fun B l2 o2 M31 e2 g31 hI31 hB31 => ⟨1, rfl, fun x => absurd x (by decide), fun _ => ?_⟩)⟩
    have g31' := g19'.tr (side_part2 g31) (fun _ h => h)
    have hE31 := hE.fr (hR g31')
    have ksB := tS_s _ v1 (show s_s s0D < 256 by decide) e2
    have hA31 : SiI M31 (p0 + 8 * c + 1) A := hA19.fr g31 (by simp only [List.mem_cons, List.not_mem_nil, or_false]; omega) (by simp only [List.mem_cons, List.not_mem_nil, or_false]; omega)
    exact ⟨hE31.1.1, w_atomP (f := 0) (p := plT L l1) (g := kdT l1) (d + 2) hE31 (s := (l2, c, D, o2, b, m)) hI31 hc' (by omega) hA31 hB31 (or_256 ksA ksB) (fun M' g hI' => ⟨_, rfl, out (.inr (c, _)) (by rw [u0, e2]) (hR (g31'.tr g (fun _ h => h))) hI'⟩)⟩
  refine ⟨hE10.1.1, w_placeT (d + 4) hE10 (l := l1) hI10.1.2.2.1 ⟨_, rfl, hE10.1.1, w_peek (d + 4) hE10 (l := l1) hI10.1.2.2.1 ⟨_, rfl, ?_⟩⟩⟩
  rw [show (16 : Int32) = nI 16 from rfl, show (17 : Int32) = nI 17 from rfl, show (18 : Int32) = nI 18 from rfl, nI_eq (by omega) (by omega), nI_eq (by omega) (by omega), nI_eq (by omega) (by omega)]
  refine ⟨fun c1 => good (Or.inl c1), fun c1 => ⟨fun c2 => good (Or.inr (Or.inl c2)), fun c2 => ⟨fun c3 => good (Or.inr (Or.inr c3)), fun c3 => ⟨hE10.1.1, bad (by omega)⟩⟩⟩⟩
end Atoms2C
